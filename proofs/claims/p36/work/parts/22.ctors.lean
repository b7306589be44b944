/-! the constructors -/
theorem c_getw {M : Mth} {jf : Nat → Prop} {cs ss pc npc j : Nat} {Wf : (Nat → Nat) → (Nat → ClassId) → va_W → Prop} {S : Shp} {s : Sto} {l : List (Nat × Value)} {st : List Value} {C : String} {T : u_T} {N idx f k : Nat} {v : Value} (hd : decode M.1 pc = .ok (.getfield idx, 3)) (hn : pc + 3 = npc) (hk : k < nc S ∧ kd S k = 0 ∧ ln S k = N) (hcl : vwCl[ci S k]? = some (C, T, N)) (hws : ∀ w ∈ u_ws C T N, w ∈ TW) (hf : f < N) (hlink : Cond.fieldLink M.2.1 idx C (T f).2.1 (T f).2.2.1 ∈ TW) (hC : (T f).1 = C) (hv : (match fr S k f with | some j => Value.ref j | none => iV (s k f)) = v) (k' : Gc M jf Wf cs ss npc l (v :: st) j (fun ad cA => wd S ad cA s)) : Gc M jf Wf cs ss pc l (.ref k :: st) j (fun ad cA => wd S ad cA s) := by
  subst hn
  intro p lc e u m args below meth c D cA ad b H locs ls X hz hP hS hl
  obtain ⟨hx, hb, hr, hml, hown, hts, hlk, hK, hN, hin, hbu, hB, hXS⟩ := X
  have ha : (wd S ad cA s)[k]? = some (ad k, .inr (ci S k, (List.range N).map (fV S ad s k))) := by
    rw [wd_at hk.1]
    simp [cE, hk.2.1, hk.2.2]
  refine va_get hx hb hts hws hown hK hP k ha hcl f hf (hts _ hlink) (fun x hx => by rw [hC] at hx; exact hx) (v := tv ad v) ?_ hd (k' p lc e u m args below meth c D cA ad b H locs ls ⟨hx, hb, hr, hml, hown, hts, hlk, hK, hN, hin, hbu, hB, hXS⟩ hz hP hS hl)
  simp only [List.getElem?_map, List.getElem?_range hf, Option.map_some]
  rw [← hv]
  unfold fV
  cases fr S k f <;> rfl
theorem twc_32 : Cond.initialized RX2 ∈ TW := tw_in (List.mem_of_getElem? (i := 32) (by decide +kernel)) (by decide +kernel)
theorem twc_33 : Cond.initialized RX8 ∈ TW := tw_in (List.mem_of_getElem? (i := 33) (by decide +kernel)) (by decide +kernel)
theorem twc_34 : Cond.initialized RX3 ∈ TW := tw_in (List.mem_of_getElem? (i := 34) (by decide +kernel)) (by decide +kernel)
theorem twc_35 : Cond.initialized RX7 ∈ TW := tw_in (List.mem_of_getElem? (i := 35) (by decide +kernel)) (by decide +kernel)
theorem twc_36 : Cond.initialized RX0 ∈ TW := tw_in (List.mem_of_getElem? (i := 36) (by decide +kernel)) (by decide +kernel)
theorem twc_37 : Cond.initialized RX1 ∈ TW := tw_in (List.mem_of_getElem? (i := 37) (by decide +kernel)) (by decide +kernel)
theorem twc_38 : Cond.initialized RX5 ∈ TW := tw_in (List.mem_of_getElem? (i := 38) (by decide +kernel)) (by decide +kernel)
theorem twc_39 : Cond.initialized RX9 ∈ TW := tw_in (List.mem_of_getElem? (i := 39) (by decide +kernel)) (by decide +kernel)
theorem twc_40 : Cond.initialized RX4 ∈ TW := tw_in (List.mem_of_getElem? (i := 40) (by decide +kernel)) (by decide +kernel)
theorem twc_48 : Cond.methodLink RX10 3 Lib.objectInit ∈ TW := tw_in (List.mem_of_getElem? (i := 48) (by decide +kernel)) (by decide +kernel)
theorem twc_49 : Cond.instanceMethod Lib.objectInit ∈ TW := tw_in (List.mem_of_getElem? (i := 49) (by decide +kernel)) (by decide +kernel)
theorem twc_50 : Cond.code Lib.objectInit ⟨#[0xb1]⟩ 1 none ∈ TW := tw_in (List.mem_of_getElem? (i := 50) (by decide +kernel)) (by decide +kernel)
theorem twc_51 : Jvm.Cond.classLink "ChipGame" (9 : Nat) "ChipGame$Graph" ∈ TW := tw_in (List.mem_of_getElem? (i := 51) (by decide +kernel)) (by decide +kernel)
theorem twc_52 : Jvm.Cond.instantiable "ChipGame$Graph" (8 : Nat) ∈ TW := tw_in (List.mem_of_getElem? (i := 52) (by decide +kernel)) (by decide +kernel)
theorem twc_54 : Cond.instanceMethod yX2_init ∈ TW := tw_in (List.mem_of_getElem? (i := 54) (by decide +kernel)) (by decide +kernel)
theorem twc_55 : Cond.code yX2_init cX2_init 1 none ∈ TW := tw_in (List.mem_of_getElem? (i := 55) (by decide +kernel)) (by decide +kernel)
theorem twc_56 : Cond.methodLink RX2 3 Lib.objectInit ∈ TW := tw_in (List.mem_of_getElem? (i := 56) (by decide +kernel)) (by decide +kernel)
theorem twc_57 : Jvm.Cond.classLink "ChipGame$Graph" (28 : Nat) "[[I" ∈ TW := tw_in (List.mem_of_getElem? (i := 57) (by decide +kernel)) (by decide +kernel)
theorem twc_59 : Cond.fieldLink RX2 9 RX2 "nodes" "I" ∈ TW := tw_in (List.mem_of_getElem? (i := 59) (by decide +kernel)) (by decide +kernel)
theorem twc_65 : Cond.fieldLink RX2 15 RX2 "edges" "I" ∈ TW := tw_in (List.mem_of_getElem? (i := 65) (by decide +kernel)) (by decide +kernel)
theorem twc_70 : Cond.fieldLink RX2 18 RX2 "sink" "I" ∈ TW := tw_in (List.mem_of_getElem? (i := 70) (by decide +kernel)) (by decide +kernel)
theorem twc_76 : Cond.fieldLink RX2 21 RX2 "first" "[I" ∈ TW := tw_in (List.mem_of_getElem? (i := 76) (by decide +kernel)) (by decide +kernel)
theorem twc_81 : Cond.fieldLink RX2 25 RX2 "second" "[I" ∈ TW := tw_in (List.mem_of_getElem? (i := 81) (by decide +kernel)) (by decide +kernel)
theorem twc_86 : Cond.fieldLink RX2 30 RX2 "joining" "[[I" ∈ TW := tw_in (List.mem_of_getElem? (i := 86) (by decide +kernel)) (by decide +kernel)
theorem twc_89 : Cond.fieldLink RX2 33 RX2 "degrees" "[I" ∈ TW := tw_in (List.mem_of_getElem? (i := 89) (by decide +kernel)) (by decide +kernel)
theorem twc_90 : Cond.fieldLink RX2 36 RX2 "labels" "[I" ∈ TW := tw_in (List.mem_of_getElem? (i := 90) (by decide +kernel)) (by decide +kernel)
theorem twc_109 : Jvm.Cond.arrayClass Jvm.ClassFile.FieldType.int ∈ TW := tw_in (List.mem_of_getElem? (i := 109) (by decide +kernel)) (by decide +kernel)
theorem twc_110 : Jvm.Cond.classLink "ChipGame" (18 : Nat) "ChipGame$Text" ∈ TW := tw_in (List.mem_of_getElem? (i := 110) (by decide +kernel)) (by decide +kernel)
theorem twc_111 : Jvm.Cond.instantiable "ChipGame$Text" (2 : Nat) ∈ TW := tw_in (List.mem_of_getElem? (i := 111) (by decide +kernel)) (by decide +kernel)
theorem twc_113 : Cond.instanceMethod yX8_init ∈ TW := tw_in (List.mem_of_getElem? (i := 113) (by decide +kernel)) (by decide +kernel)
theorem twc_114 : Cond.code yX8_init cX8_init 1 none ∈ TW := tw_in (List.mem_of_getElem? (i := 114) (by decide +kernel)) (by decide +kernel)
theorem twc_115 : Cond.methodLink RX8 3 Lib.objectInit ∈ TW := tw_in (List.mem_of_getElem? (i := 115) (by decide +kernel)) (by decide +kernel)
theorem twc_116 : Cond.fieldLink RX8 9 RX8 "length" "I" ∈ TW := tw_in (List.mem_of_getElem? (i := 116) (by decide +kernel)) (by decide +kernel)
theorem twc_117 : Cond.fieldLink RX8 15 RX8 "signs" "[C" ∈ TW := tw_in (List.mem_of_getElem? (i := 117) (by decide +kernel)) (by decide +kernel)
theorem twc_123 : Jvm.Cond.arrayClass Jvm.ClassFile.FieldType.char ∈ TW := tw_in (List.mem_of_getElem? (i := 123) (by decide +kernel)) (by decide +kernel)
theorem twc_124 : Jvm.Cond.classLink "ChipGame" (25 : Nat) "ChipGame$History" ∈ TW := tw_in (List.mem_of_getElem? (i := 124) (by decide +kernel)) (by decide +kernel)
theorem twc_125 : Jvm.Cond.instantiable "ChipGame$History" (3 : Nat) ∈ TW := tw_in (List.mem_of_getElem? (i := 125) (by decide +kernel)) (by decide +kernel)
theorem twc_127 : Cond.instanceMethod yX3_init ∈ TW := tw_in (List.mem_of_getElem? (i := 127) (by decide +kernel)) (by decide +kernel)
theorem twc_128 : Cond.code yX3_init cX3_init 1 none ∈ TW := tw_in (List.mem_of_getElem? (i := 128) (by decide +kernel)) (by decide +kernel)
theorem twc_129 : Cond.methodLink RX3 3 Lib.objectInit ∈ TW := tw_in (List.mem_of_getElem? (i := 129) (by decide +kernel)) (by decide +kernel)
theorem twc_130 : Jvm.Cond.classLink "ChipGame$History" (18 : Nat) "[[I" ∈ TW := tw_in (List.mem_of_getElem? (i := 130) (by decide +kernel)) (by decide +kernel)
theorem twc_131 : Cond.fieldLink RX3 9 RX3 "count" "I" ∈ TW := tw_in (List.mem_of_getElem? (i := 131) (by decide +kernel)) (by decide +kernel)
theorem twc_133 : Cond.fieldLink RX3 15 RX3 "oldest" "I" ∈ TW := tw_in (List.mem_of_getElem? (i := 133) (by decide +kernel)) (by decide +kernel)
theorem twc_134 : Cond.fieldLink RX3 20 RX3 "states" "[[I" ∈ TW := tw_in (List.mem_of_getElem? (i := 134) (by decide +kernel)) (by decide +kernel)
theorem twc_142 : Jvm.Cond.classLink "ChipGame" (32 : Nat) "ChipGame$Slots" ∈ TW := tw_in (List.mem_of_getElem? (i := 142) (by decide +kernel)) (by decide +kernel)
theorem twc_143 : Jvm.Cond.instantiable "ChipGame$Slots" (2 : Nat) ∈ TW := tw_in (List.mem_of_getElem? (i := 143) (by decide +kernel)) (by decide +kernel)
theorem twc_145 : Cond.instanceMethod yX7_init ∈ TW := tw_in (List.mem_of_getElem? (i := 145) (by decide +kernel)) (by decide +kernel)
theorem twc_146 : Cond.code yX7_init cX7_init 1 none ∈ TW := tw_in (List.mem_of_getElem? (i := 146) (by decide +kernel)) (by decide +kernel)
theorem twc_147 : Cond.methodLink RX7 3 Lib.objectInit ∈ TW := tw_in (List.mem_of_getElem? (i := 147) (by decide +kernel)) (by decide +kernel)
theorem twc_148 : Jvm.Cond.classLink "ChipGame$Slots" (15 : Nat) "[[I" ∈ TW := tw_in (List.mem_of_getElem? (i := 148) (by decide +kernel)) (by decide +kernel)
theorem twc_149 : Cond.fieldLink RX7 9 RX7 "taken" "[Z" ∈ TW := tw_in (List.mem_of_getElem? (i := 149) (by decide +kernel)) (by decide +kernel)
theorem twc_150 : Cond.fieldLink RX7 17 RX7 "states" "[[I" ∈ TW := tw_in (List.mem_of_getElem? (i := 150) (by decide +kernel)) (by decide +kernel)
theorem twc_156 : Jvm.Cond.arrayClass Jvm.ClassFile.FieldType.boolean ∈ TW := tw_in (List.mem_of_getElem? (i := 156) (by decide +kernel)) (by decide +kernel)
theorem twc_157 : Jvm.Cond.classLink "ChipGame" (39 : Nat) "ChipGame$Burning" ∈ TW := tw_in (List.mem_of_getElem? (i := 157) (by decide +kernel)) (by decide +kernel)
theorem twc_158 : Jvm.Cond.instantiable "ChipGame$Burning" (3 : Nat) ∈ TW := tw_in (List.mem_of_getElem? (i := 158) (by decide +kernel)) (by decide +kernel)
theorem twc_159 : Cond.methodLink RX10 41 yX0_init ∈ TW := tw_in (List.mem_of_getElem? (i := 159) (by decide +kernel)) (by decide +kernel)
theorem twc_160 : Cond.instanceMethod yX0_init ∈ TW := tw_in (List.mem_of_getElem? (i := 160) (by decide +kernel)) (by decide +kernel)
theorem twc_161 : Cond.code yX0_init cX0_init 2 none ∈ TW := tw_in (List.mem_of_getElem? (i := 161) (by decide +kernel)) (by decide +kernel)
theorem twc_162 : Cond.methodLink RX0 3 Lib.objectInit ∈ TW := tw_in (List.mem_of_getElem? (i := 162) (by decide +kernel)) (by decide +kernel)
theorem twc_163 : Cond.fieldLink RX0 9 RX0 "round" "[I" ∈ TW := tw_in (List.mem_of_getElem? (i := 163) (by decide +kernel)) (by decide +kernel)
theorem twc_165 : Cond.fieldLink RX0 15 RX0 "needed" "[I" ∈ TW := tw_in (List.mem_of_getElem? (i := 165) (by decide +kernel)) (by decide +kernel)
theorem twc_166 : Cond.fieldLink RX0 18 RX0 "graph" "LChipGame$Graph;" ∈ TW := tw_in (List.mem_of_getElem? (i := 166) (by decide +kernel)) (by decide +kernel)
theorem twc_174 : Jvm.Cond.classLink "ChipGame" (48 : Nat) "ChipGame$Firing" ∈ TW := tw_in (List.mem_of_getElem? (i := 174) (by decide +kernel)) (by decide +kernel)
theorem twc_175 : Jvm.Cond.instantiable "ChipGame$Firing" (3 : Nat) ∈ TW := tw_in (List.mem_of_getElem? (i := 175) (by decide +kernel)) (by decide +kernel)
theorem twc_176 : Cond.methodLink RX10 50 yX1_init ∈ TW := tw_in (List.mem_of_getElem? (i := 176) (by decide +kernel)) (by decide +kernel)
theorem twc_177 : Cond.instanceMethod yX1_init ∈ TW := tw_in (List.mem_of_getElem? (i := 177) (by decide +kernel)) (by decide +kernel)
theorem twc_178 : Cond.code yX1_init cX1_init 3 none ∈ TW := tw_in (List.mem_of_getElem? (i := 178) (by decide +kernel)) (by decide +kernel)
theorem twc_179 : Cond.methodLink RX1 3 Lib.objectInit ∈ TW := tw_in (List.mem_of_getElem? (i := 179) (by decide +kernel)) (by decide +kernel)
theorem twc_180 : Cond.fieldLink RX1 9 RX1 "times" "[I" ∈ TW := tw_in (List.mem_of_getElem? (i := 180) (by decide +kernel)) (by decide +kernel)
theorem twc_182 : Cond.fieldLink RX1 15 RX1 "graph" "LChipGame$Graph;" ∈ TW := tw_in (List.mem_of_getElem? (i := 182) (by decide +kernel)) (by decide +kernel)
theorem twc_183 : Cond.fieldLink RX1 19 RX1 "burning" "LChipGame$Burning;" ∈ TW := tw_in (List.mem_of_getElem? (i := 183) (by decide +kernel)) (by decide +kernel)
theorem twc_191 : Jvm.Cond.classLink "ChipGame" (57 : Nat) "ChipGame$Matrix" ∈ TW := tw_in (List.mem_of_getElem? (i := 191) (by decide +kernel)) (by decide +kernel)
theorem twc_192 : Jvm.Cond.instantiable "ChipGame$Matrix" (5 : Nat) ∈ TW := tw_in (List.mem_of_getElem? (i := 192) (by decide +kernel)) (by decide +kernel)
theorem twc_193 : Cond.methodLink RX10 59 yX5_init ∈ TW := tw_in (List.mem_of_getElem? (i := 193) (by decide +kernel)) (by decide +kernel)
theorem twc_194 : Cond.instanceMethod yX5_init ∈ TW := tw_in (List.mem_of_getElem? (i := 194) (by decide +kernel)) (by decide +kernel)
theorem twc_195 : Cond.code yX5_init cX5_init 2 none ∈ TW := tw_in (List.mem_of_getElem? (i := 195) (by decide +kernel)) (by decide +kernel)
theorem twc_196 : Cond.methodLink RX5 3 Lib.objectInit ∈ TW := tw_in (List.mem_of_getElem? (i := 196) (by decide +kernel)) (by decide +kernel)
theorem twc_197 : Jvm.Cond.classLink "ChipGame$Matrix" (19 : Nat) "[[J" ∈ TW := tw_in (List.mem_of_getElem? (i := 197) (by decide +kernel)) (by decide +kernel)
theorem twc_199 : Cond.fieldLink RX5 9 RX5 "factors" "[J" ∈ TW := tw_in (List.mem_of_getElem? (i := 199) (by decide +kernel)) (by decide +kernel)
theorem twc_201 : Cond.fieldLink RX5 15 RX5 "factorCount" "I" ∈ TW := tw_in (List.mem_of_getElem? (i := 201) (by decide +kernel)) (by decide +kernel)
theorem twc_203 : Cond.fieldLink RX5 27 RX5 "graph" "LChipGame$Graph;" ∈ TW := tw_in (List.mem_of_getElem? (i := 203) (by decide +kernel)) (by decide +kernel)
theorem twc_204 : Cond.fieldLink RX5 21 RX5 "cells" "[[J" ∈ TW := tw_in (List.mem_of_getElem? (i := 204) (by decide +kernel)) (by decide +kernel)
theorem twc_205 : Cond.fieldLink RX5 24 RX5 "size" "I" ∈ TW := tw_in (List.mem_of_getElem? (i := 205) (by decide +kernel)) (by decide +kernel)
theorem twc_217 : Jvm.Cond.arrayClass Jvm.ClassFile.FieldType.long ∈ TW := tw_in (List.mem_of_getElem? (i := 217) (by decide +kernel)) (by decide +kernel)
theorem twc_218 : Jvm.Cond.classLink "ChipGame" (64 : Nat) "ChipGame$Trees" ∈ TW := tw_in (List.mem_of_getElem? (i := 218) (by decide +kernel)) (by decide +kernel)
theorem twc_219 : Jvm.Cond.instantiable "ChipGame$Trees" (3 : Nat) ∈ TW := tw_in (List.mem_of_getElem? (i := 219) (by decide +kernel)) (by decide +kernel)
theorem twc_220 : Cond.methodLink RX10 66 yX9_init ∈ TW := tw_in (List.mem_of_getElem? (i := 220) (by decide +kernel)) (by decide +kernel)
theorem twc_221 : Cond.instanceMethod yX9_init ∈ TW := tw_in (List.mem_of_getElem? (i := 221) (by decide +kernel)) (by decide +kernel)
theorem twc_222 : Cond.code yX9_init cX9_init 3 none ∈ TW := tw_in (List.mem_of_getElem? (i := 222) (by decide +kernel)) (by decide +kernel)
theorem twc_223 : Cond.methodLink RX9 3 Lib.objectInit ∈ TW := tw_in (List.mem_of_getElem? (i := 223) (by decide +kernel)) (by decide +kernel)
theorem twc_224 : Cond.fieldLink RX9 15 RX9 "graph" "LChipGame$Graph;" ∈ TW := tw_in (List.mem_of_getElem? (i := 224) (by decide +kernel)) (by decide +kernel)
theorem twc_225 : Cond.fieldLink RX9 19 RX9 "matrix" "LChipGame$Matrix;" ∈ TW := tw_in (List.mem_of_getElem? (i := 225) (by decide +kernel)) (by decide +kernel)
theorem twc_226 : Cond.fieldLink RX9 9 RX9 "used" "[I" ∈ TW := tw_in (List.mem_of_getElem? (i := 226) (by decide +kernel)) (by decide +kernel)
theorem twc_234 : Jvm.Cond.classLink "ChipGame" (73 : Nat) "ChipGame$Levels" ∈ TW := tw_in (List.mem_of_getElem? (i := 234) (by decide +kernel)) (by decide +kernel)
theorem twc_235 : Jvm.Cond.instantiable "ChipGame$Levels" (4 : Nat) ∈ TW := tw_in (List.mem_of_getElem? (i := 235) (by decide +kernel)) (by decide +kernel)
theorem twc_236 : Cond.methodLink RX10 75 yX4_init ∈ TW := tw_in (List.mem_of_getElem? (i := 236) (by decide +kernel)) (by decide +kernel)
theorem twc_237 : Cond.instanceMethod yX4_init ∈ TW := tw_in (List.mem_of_getElem? (i := 237) (by decide +kernel)) (by decide +kernel)
theorem twc_238 : Cond.code yX4_init cX4_init 2 none ∈ TW := tw_in (List.mem_of_getElem? (i := 238) (by decide +kernel)) (by decide +kernel)
theorem twc_239 : Cond.methodLink RX4 3 Lib.objectInit ∈ TW := tw_in (List.mem_of_getElem? (i := 239) (by decide +kernel)) (by decide +kernel)
theorem twc_240 : Jvm.Cond.classLink "ChipGame$Levels" (15 : Nat) "[[J" ∈ TW := tw_in (List.mem_of_getElem? (i := 240) (by decide +kernel)) (by decide +kernel)
theorem twc_241 : Cond.fieldLink RX4 24 RX4 "graph" "LChipGame$Graph;" ∈ TW := tw_in (List.mem_of_getElem? (i := 241) (by decide +kernel)) (by decide +kernel)
theorem twc_242 : Cond.fieldLink RX4 11 RX4 "edgesInside" "[I" ∈ TW := tw_in (List.mem_of_getElem? (i := 242) (by decide +kernel)) (by decide +kernel)
theorem twc_243 : Cond.fieldLink RX4 17 RX4 "sums" "[[J" ∈ TW := tw_in (List.mem_of_getElem? (i := 243) (by decide +kernel)) (by decide +kernel)
theorem twc_244 : Cond.fieldLink RX4 20 RX4 "counts" "[J" ∈ TW := tw_in (List.mem_of_getElem? (i := 244) (by decide +kernel)) (by decide +kernel)
theorem twc_254 : Cond.methodLink RX10 90 yX2_clear ∈ TW := tw_in (List.mem_of_getElem? (i := 254) (by decide +kernel)) (by decide +kernel)
theorem twc_255 : Cond.instanceMethod yX2_clear ∈ TW := tw_in (List.mem_of_getElem? (i := 255) (by decide +kernel)) (by decide +kernel)
theorem twc_256 : Cond.selects RX2 yX2_clear yX2_clear ∈ TW := tw_in (List.mem_of_getElem? (i := 256) (by decide +kernel)) (by decide +kernel)
theorem twc_257 : Cond.code yX2_clear cX2_clear 4 none ∈ TW := tw_in (List.mem_of_getElem? (i := 257) (by decide +kernel)) (by decide +kernel)
theorem twc_258 : Cond.methodLink RX10 94 yX2_append ∈ TW := tw_in (List.mem_of_getElem? (i := 258) (by decide +kernel)) (by decide +kernel)
theorem twc_259 : Cond.instanceMethod yX2_append ∈ TW := tw_in (List.mem_of_getElem? (i := 259) (by decide +kernel)) (by decide +kernel)
theorem twc_260 : Cond.selects RX2 yX2_append yX2_append ∈ TW := tw_in (List.mem_of_getElem? (i := 260) (by decide +kernel)) (by decide +kernel)
theorem twc_261 : Cond.code yX2_append cX2_append 3 none ∈ TW := tw_in (List.mem_of_getElem? (i := 261) (by decide +kernel)) (by decide +kernel)
theorem twc_270 : Cond.fieldLink RX10 12 RX10 "graph" "LChipGame$Graph;" ∈ TW := tw_in (List.mem_of_getElem? (i := 270) (by decide +kernel)) (by decide +kernel)
theorem twc_271 : Cond.fieldLink RX10 21 RX10 "text" "LChipGame$Text;" ∈ TW := tw_in (List.mem_of_getElem? (i := 271) (by decide +kernel)) (by decide +kernel)
theorem twc_272 : Cond.fieldLink RX10 28 RX10 "history" "LChipGame$History;" ∈ TW := tw_in (List.mem_of_getElem? (i := 272) (by decide +kernel)) (by decide +kernel)
theorem twc_273 : Cond.fieldLink RX10 35 RX10 "slots" "LChipGame$Slots;" ∈ TW := tw_in (List.mem_of_getElem? (i := 273) (by decide +kernel)) (by decide +kernel)
theorem twc_274 : Cond.fieldLink RX10 44 RX10 "burning" "LChipGame$Burning;" ∈ TW := tw_in (List.mem_of_getElem? (i := 274) (by decide +kernel)) (by decide +kernel)
theorem twc_275 : Cond.fieldLink RX10 53 RX10 "firing" "LChipGame$Firing;" ∈ TW := tw_in (List.mem_of_getElem? (i := 275) (by decide +kernel)) (by decide +kernel)
theorem twc_276 : Cond.fieldLink RX10 60 RX10 "matrix" "LChipGame$Matrix;" ∈ TW := tw_in (List.mem_of_getElem? (i := 276) (by decide +kernel)) (by decide +kernel)
theorem twc_277 : Cond.fieldLink RX10 69 RX10 "trees" "LChipGame$Trees;" ∈ TW := tw_in (List.mem_of_getElem? (i := 277) (by decide +kernel)) (by decide +kernel)
theorem twc_278 : Cond.fieldLink RX10 76 RX10 "levels" "LChipGame$Levels;" ∈ TW := tw_in (List.mem_of_getElem? (i := 278) (by decide +kernel)) (by decide +kernel)
theorem twc_279 : Cond.fieldLink RX10 80 RX10 "state" "[I" ∈ TW := tw_in (List.mem_of_getElem? (i := 279) (by decide +kernel)) (by decide +kernel)
theorem twc_280 : Cond.fieldLink RX10 84 RX10 "copy" "[I" ∈ TW := tw_in (List.mem_of_getElem? (i := 280) (by decide +kernel)) (by decide +kernel)
theorem twc_281 : Cond.fieldLink RX10 87 RX10 "otherCopy" "[I" ∈ TW := tw_in (List.mem_of_getElem? (i := 281) (by decide +kernel)) (by decide +kernel)
def dl1 : List Dc := [(0, 9, [.null, .null, .null, .null, .null, .null, .null, .null, .null, .null, .null, .null])]
def dl2 : List Dc := dl1 ++ [(0, 2, [.int 0, .int 0, .int 0, .null, .null, .null, .null, .null])]
def dl3 : List Dc := dl2.set 1 (0, 2, [iV 2, .int 0, .int 0, .null, .null, .null, .null, .null])
def dl4 : List Dc := dl3.set 1 (0, 2, [iV 2, iV 0, .int 0, .null, .null, .null, .null, .null])
def dl5 : List Dc := dl4.set 1 (0, 2, [iV 2, iV 0, iV 0, .null, .null, .null, .null, .null])
def dl6 : List Dc := dl5 ++ [(1, 20, [])]
def dl7 : List Dc := dl6.set 1 (0, 2, [iV 2, iV 0, iV 0, .ref 2, .null, .null, .null, .null])
def dl8 : List Dc := dl7 ++ [(1, 20, [])]
def dl9 : List Dc := dl8.set 1 (0, 2, [iV 2, iV 0, iV 0, .ref 2, .ref 3, .null, .null, .null])
def dl10 : List Dc := dl9 ++ ((5, 8, [.ref 5]) :: List.replicate 8 (1, 8, []))
def dl11 : List Dc := dl10.set 1 (0, 2, [iV 2, iV 0, iV 0, .ref 2, .ref 3, .ref 4, .null, .null])
def dl12 : List Dc := dl11 ++ [(1, 8, [])]
def dl13 : List Dc := dl12.set 1 (0, 2, [iV 2, iV 0, iV 0, .ref 2, .ref 3, .ref 4, .ref 13, .null])
def dl14 : List Dc := dl13 ++ [(1, 8, [])]
def dl15 : List Dc := dl14.set 1 (0, 2, [iV 2, iV 0, iV 0, .ref 2, .ref 3, .ref 4, .ref 13, .ref 14])
def dl16 : List Dc := dl15.set 0 (0, 9, [.ref 1, .null, .null, .null, .null, .null, .null, .null, .null, .null, .null, .null])
def dl17 : List Dc := dl16 ++ [(0, 7, [.int 0, .null])]
def dl18 : List Dc := dl17.set 15 (0, 7, [iV 0, .null])
def dl19 : List Dc := dl18 ++ [(3, 12, [])]
def dl20 : List Dc := dl19.set 15 (0, 7, [iV 0, .ref 16])
def dl21 : List Dc := dl20.set 0 (0, 9, [.ref 1, .ref 15, .null, .null, .null, .null, .null, .null, .null, .null, .null, .null])
def dl22 : List Dc := dl21 ++ [(0, 3, [.int 0, .int 0, .null])]
def dl23 : List Dc := dl22.set 17 (0, 3, [iV 0, .int 0, .null])
def dl24 : List Dc := dl23.set 17 (0, 3, [iV 0, iV 0, .null])
def dl25 : List Dc := dl24 ++ ((5, 12, [.ref 19]) :: List.replicate 12 (1, 8, []))
def dl26 : List Dc := dl25.set 17 (0, 3, [iV 0, iV 0, .ref 18])
def dl27 : List Dc := dl26.set 0 (0, 9, [.ref 1, .ref 15, .ref 17, .null, .null, .null, .null, .null, .null, .null, .null, .null])
def dl28 : List Dc := dl27 ++ [(0, 6, [.null, .null])]
def dl29 : List Dc := dl28 ++ [(4, 3, [])]
def dl30 : List Dc := dl29.set 31 (0, 6, [.ref 32, .null])
def dl31 : List Dc := dl30 ++ ((5, 3, [.ref 34]) :: List.replicate 3 (1, 8, []))
def dl32 : List Dc := dl31.set 31 (0, 6, [.ref 32, .ref 33])
def dl33 : List Dc := dl32.set 0 (0, 9, [.ref 1, .ref 15, .ref 17, .ref 31, .null, .null, .null, .null, .null, .null, .null, .null])
def dl34 : List Dc := dl33 ++ [(0, 0, [.null, .null, .null])]
def dl35 : List Dc := dl34 ++ [(1, 8, [])]
def dl36 : List Dc := dl35.set 37 (0, 0, [.ref 38, .null, .null])
def dl37 : List Dc := dl36 ++ [(1, 8, [])]
def dl38 : List Dc := dl37.set 37 (0, 0, [.ref 38, .ref 39, .null])
def dl39 : List Dc := dl38.set 37 (0, 0, [.ref 38, .ref 39, .ref 1])
def dl40 : List Dc := dl39.set 0 (0, 9, [.ref 1, .ref 15, .ref 17, .ref 31, .ref 37, .null, .null, .null, .null, .null, .null, .null])
def dl41 : List Dc := dl40 ++ [(0, 1, [.null, .null, .null])]
def dl42 : List Dc := dl41 ++ [(1, 8, [])]
def dl43 : List Dc := dl42.set 40 (0, 1, [.ref 41, .null, .null])
def dl44 : List Dc := dl43.set 40 (0, 1, [.ref 41, .ref 1, .null])
def dl45 : List Dc := dl44.set 40 (0, 1, [.ref 41, .ref 1, .ref 37])
def dl46 : List Dc := dl45.set 0 (0, 9, [.ref 1, .ref 15, .ref 17, .ref 31, .ref 37, .ref 40, .null, .null, .null, .null, .null, .null])
def dl47 : List Dc := dl46 ++ [(0, 5, [.null, .int 0, .null, .null, .int 0])]
def dl48 : List Dc := dl47 ++ [(2, 8, [])]
def dl49 : List Dc := dl48.set 42 (0, 5, [.ref 43, .int 0, .null, .null, .int 0])
def dl50 : List Dc := dl49.set 42 (0, 5, [.ref 43, iV 0, .null, .null, .int 0])
def dl51 : List Dc := dl50 ++ ((6, 8, [.ref 45]) :: List.replicate 8 (2, 9, []))
def dl52 : List Dc := dl51.set 42 (0, 5, [.ref 43, iV 0, .null, .ref 44, .int 0])
def dl53 : List Dc := dl52.set 42 (0, 5, [.ref 43, iV 0, .null, .ref 44, iV 0])
def dl54 : List Dc := dl53.set 42 (0, 5, [.ref 43, iV 0, .ref 1, .ref 44, iV 0])
def dl55 : List Dc := dl54.set 0 (0, 9, [.ref 1, .ref 15, .ref 17, .ref 31, .ref 37, .ref 40, .ref 42, .null, .null, .null, .null, .null])
def dl56 : List Dc := dl55 ++ [(0, 8, [.null, .null, .null])]
def dl57 : List Dc := dl56 ++ [(1, 8, [])]
def dl58 : List Dc := dl57.set 53 (0, 8, [.null, .null, .ref 54])
def dl59 : List Dc := dl58.set 53 (0, 8, [.ref 1, .null, .ref 54])
def dl60 : List Dc := dl59.set 53 (0, 8, [.ref 1, .ref 42, .ref 54])
def dl61 : List Dc := dl60.set 0 (0, 9, [.ref 1, .ref 15, .ref 17, .ref 31, .ref 37, .ref 40, .ref 42, .ref 53, .null, .null, .null, .null])
def dl62 : List Dc := dl61 ++ [(0, 4, [.null, .null, .null, .null])]
def dl63 : List Dc := dl62 ++ [(1, 256, [])]
def dl64 : List Dc := dl63.set 55 (0, 4, [.null, .ref 56, .null, .null])
def dl65 : List Dc := dl64 ++ ((6, 128, [.ref 58]) :: List.replicate 128 (2, 21, []))
def dl66 : List Dc := dl65.set 55 (0, 4, [.null, .ref 56, .ref 57, .null])
def dl67 : List Dc := dl66 ++ [(2, 21, [])]
def dl68 : List Dc := dl67.set 55 (0, 4, [.null, .ref 56, .ref 57, .ref 186])
def dl69 : List Dc := dl68.set 55 (0, 4, [.ref 1, .ref 56, .ref 57, .ref 186])
def dl70 : List Dc := dl69.set 0 (0, 9, [.ref 1, .ref 15, .ref 17, .ref 31, .ref 37, .ref 40, .ref 42, .ref 53, .ref 55, .null, .null, .null])
def dl71 : List Dc := dl70 ++ [(1, 8, [])]
def dl72 : List Dc := dl71.set 0 (0, 9, [.ref 1, .ref 15, .ref 17, .ref 31, .ref 37, .ref 40, .ref 42, .ref 53, .ref 55, .ref 187, .null, .null])
def dl73 : List Dc := dl72 ++ [(1, 8, [])]
def dl74 : List Dc := dl73.set 0 (0, 9, [.ref 1, .ref 15, .ref 17, .ref 31, .ref 37, .ref 40, .ref 42, .ref 53, .ref 55, .ref 187, .ref 188, .null])
def dl75 : List Dc := dl74 ++ [(1, 8, [])]
def dl76 : List Dc := dl75.set 0 (0, 9, [.ref 1, .ref 15, .ref 17, .ref 31, .ref 37, .ref 40, .ref 42, .ref 53, .ref 55, .ref 187, .ref 188, .ref 189])
theorem dX2_init_0 : decode cX2_init 0 = .ok (.aload_n 0, 1) := by decide +kernel
theorem dX2_init_1 : decode cX2_init 1 = .ok (.invokespecial 3, 3) := by decide +kernel
theorem dX2_init_4 : decode cX2_init 4 = .ok (.aload_n 0, 1) := by decide +kernel
theorem dX2_init_5 : decode cX2_init 5 = .ok (.iconst 2, 1) := by decide +kernel
theorem dX2_init_6 : decode cX2_init 6 = .ok (.putfield 9, 3) := by decide +kernel
theorem dX2_init_9 : decode cX2_init 9 = .ok (.aload_n 0, 1) := by decide +kernel
theorem dX2_init_10 : decode cX2_init 10 = .ok (.iconst 0, 1) := by decide +kernel
theorem dX2_init_11 : decode cX2_init 11 = .ok (.putfield 15, 3) := by decide +kernel
theorem dX2_init_14 : decode cX2_init 14 = .ok (.aload_n 0, 1) := by decide +kernel
theorem dX2_init_15 : decode cX2_init 15 = .ok (.iconst 0, 1) := by decide +kernel
theorem dX2_init_16 : decode cX2_init 16 = .ok (.putfield 18, 3) := by decide +kernel
theorem dX2_init_19 : decode cX2_init 19 = .ok (.aload_n 0, 1) := by decide +kernel
theorem dX2_init_20 : decode cX2_init 20 = .ok (.bipush 20, 2) := by decide +kernel
theorem dX2_init_22 : decode cX2_init 22 = .ok (.newarray .int, 2) := by decide +kernel
theorem dX2_init_24 : decode cX2_init 24 = .ok (.putfield 21, 3) := by decide +kernel
theorem dX2_init_27 : decode cX2_init 27 = .ok (.aload_n 0, 1) := by decide +kernel
theorem dX2_init_28 : decode cX2_init 28 = .ok (.bipush 20, 2) := by decide +kernel
theorem dX2_init_30 : decode cX2_init 30 = .ok (.newarray .int, 2) := by decide +kernel
theorem dX2_init_32 : decode cX2_init 32 = .ok (.putfield 25, 3) := by decide +kernel
theorem dX2_init_35 : decode cX2_init 35 = .ok (.aload_n 0, 1) := by decide +kernel
theorem dX2_init_36 : decode cX2_init 36 = .ok (.bipush 8, 2) := by decide +kernel
theorem dX2_init_38 : decode cX2_init 38 = .ok (.bipush 8, 2) := by decide +kernel
theorem dX2_init_40 : decode cX2_init 40 = .ok (.multianewarray 28 2, 4) := by decide +kernel
theorem dX2_init_44 : decode cX2_init 44 = .ok (.putfield 30, 3) := by decide +kernel
theorem dX2_init_47 : decode cX2_init 47 = .ok (.aload_n 0, 1) := by decide +kernel
theorem dX2_init_48 : decode cX2_init 48 = .ok (.bipush 8, 2) := by decide +kernel
theorem dX2_init_50 : decode cX2_init 50 = .ok (.newarray .int, 2) := by decide +kernel
theorem dX2_init_52 : decode cX2_init 52 = .ok (.putfield 33, 3) := by decide +kernel
theorem dX2_init_55 : decode cX2_init 55 = .ok (.aload_n 0, 1) := by decide +kernel
theorem dX2_init_56 : decode cX2_init 56 = .ok (.bipush 8, 2) := by decide +kernel
theorem dX2_init_58 : decode cX2_init 58 = .ok (.newarray .int, 2) := by decide +kernel
theorem dX2_init_60 : decode cX2_init 60 = .ok (.putfield 36, 3) := by decide +kernel
theorem dX2_init_63 : decode cX2_init 63 = .ok (.return_, 1) := by decide +kernel
set_option maxRecDepth 20000 in
theorem n_Gr_init : SpC yX2_init (Cond.code yX2_init cX2_init 1 none) { frames := 1, cells := 13, slots := 128, locals := 12 } [.ref 1] 2 (wc dl2) (fun x => x = 15) (fun ad cA w => w = wc dl15 ad cA) := by
  refine SpC.body (by decide) rfl (Nat.le_of_ble_eq_true rfl) ?_
  show Gc (cX2_init, RX2, 1, none, { frames := 1, cells := 13, slots := 128, locals := 12 }) _ _ 0 0 0 [(0, .ref 1)] [] 2 (wc dl2)
  refine c_aload_n (npc := 1) dX2_init_0 rfl rfl rfl ?_
  refine c_obj (npc := 4) dX2_init_1 rfl ⟨twc_56, twc_49, twc_50⟩ ⟨by decide, Nat.le_of_ble_eq_true rfl⟩ ?_
  refine c_aload_n (npc := 5) dX2_init_4 rfl rfl rfl ?_
  refine c_iconst (npc := 6) dX2_init_5 rfl ?_
  refine c_putF (npc := 9) (f := 0) (k := 1) (fs := [.int 0, .int 0, .int 0, .null, .null, .null, .null, .null]) tyX2 dX2_init_6 rfl rfl (by decide) (Nat.le_of_ble_eq_true rfl) rfl inw_X2 tyX2_ok nmX2 (by decide) twc_59 rfl rfl (fun _ => ⟨rfl, rfl⟩) (by decide) ?_
  show Gc _ _ _ 0 0 9 _ _ 2 (wc dl3)
  refine c_aload_n (npc := 10) dX2_init_9 rfl rfl rfl ?_
  refine c_iconst (npc := 11) dX2_init_10 rfl ?_
  refine c_putF (npc := 14) (f := 1) (k := 1) (fs := [iV 2, .int 0, .int 0, .null, .null, .null, .null, .null]) tyX2 dX2_init_11 rfl rfl (by decide) (Nat.le_of_ble_eq_true rfl) rfl inw_X2 tyX2_ok nmX2 (by decide) twc_65 rfl rfl (fun _ => ⟨rfl, rfl⟩) (by decide) ?_
  show Gc _ _ _ 0 0 14 _ _ 2 (wc dl4)
  refine c_aload_n (npc := 15) dX2_init_14 rfl rfl rfl ?_
  refine c_iconst (npc := 16) dX2_init_15 rfl ?_
  refine c_putF (npc := 19) (f := 2) (k := 1) (fs := [iV 2, iV 0, .int 0, .null, .null, .null, .null, .null]) tyX2 dX2_init_16 rfl rfl (by decide) (Nat.le_of_ble_eq_true rfl) rfl inw_X2 tyX2_ok nmX2 (by decide) twc_70 rfl rfl (fun _ => ⟨rfl, rfl⟩) (by decide) ?_
  show Gc _ _ _ 0 0 19 _ _ 2 (wc dl5)
  refine c_aload_n (npc := 20) dX2_init_19 rfl rfl rfl ?_
  refine c_bipush (npc := 22) (x := 20) dX2_init_20 rfl (by decide) ?_
  refine c_newI (npc := 24) (j := 2) (n := 20) dX2_init_22 rfl twc_109 (by decide) rfl (by decide) ⟨by decide, by decide⟩ ?_
  show Gc _ _ _ 1 20 24 _ _ 3 (wc dl6)
  refine c_putF (npc := 27) (f := 3) (k := 1) (fs := [iV 2, iV 0, iV 0, .null, .null, .null, .null, .null]) tyX2 dX2_init_24 rfl rfl (by decide) (Nat.le_of_ble_eq_true rfl) rfl inw_X2 tyX2_ok nmX2 (by decide) twc_76 rfl rfl (fun _ => ⟨rfl, rfl⟩) (by decide) ?_
  show Gc _ _ _ 1 20 27 _ _ 3 (wc dl7)
  refine c_aload_n (npc := 28) dX2_init_27 rfl rfl rfl ?_
  refine c_bipush (npc := 30) (x := 20) dX2_init_28 rfl (by decide) ?_
  refine c_newI (npc := 32) (j := 3) (n := 20) dX2_init_30 rfl twc_109 (by decide) rfl (by decide) ⟨by decide, by decide⟩ ?_
  show Gc _ _ _ 2 40 32 _ _ 4 (wc dl8)
  refine c_putF (npc := 35) (f := 4) (k := 1) (fs := [iV 2, iV 0, iV 0, .ref 2, .null, .null, .null, .null]) tyX2 dX2_init_32 rfl rfl (by decide) (Nat.le_of_ble_eq_true rfl) rfl inw_X2 tyX2_ok nmX2 (by decide) twc_81 rfl rfl (fun _ => ⟨rfl, rfl⟩) (by decide) ?_
  show Gc _ _ _ 2 40 35 _ _ 4 (wc dl9)
  refine c_aload_n (npc := 36) dX2_init_35 rfl rfl rfl ?_
  refine c_bipush (npc := 38) (x := 8) dX2_init_36 rfl (by decide) ?_
  refine c_bipush (npc := 40) (x := 8) dX2_init_38 rfl (by decide) ?_
  refine c_mna5 (npc := 44) (j := 4) (n := 8) (k2 := 8) dX2_init_40 rfl ⟨twc_57, twc_109⟩ (by decide) (by decide) rfl (by decide) ⟨by decide, by decide⟩ ?_
  show Gc _ _ _ 11 112 44 _ _ 13 (wc dl10)
  refine c_putF (npc := 47) (f := 5) (k := 1) (fs := [iV 2, iV 0, iV 0, .ref 2, .ref 3, .null, .null, .null]) tyX2 dX2_init_44 rfl rfl (by decide) (Nat.le_of_ble_eq_true rfl) rfl inw_X2 tyX2_ok nmX2 (by decide) twc_86 rfl rfl (fun _ => ⟨rfl, rfl⟩) (by decide) ?_
  show Gc _ _ _ 11 112 47 _ _ 13 (wc dl11)
  refine c_aload_n (npc := 48) dX2_init_47 rfl rfl rfl ?_
  refine c_bipush (npc := 50) (x := 8) dX2_init_48 rfl (by decide) ?_
  refine c_newI (npc := 52) (j := 13) (n := 8) dX2_init_50 rfl twc_109 (by decide) rfl (by decide) ⟨by decide, by decide⟩ ?_
  show Gc _ _ _ 12 120 52 _ _ 14 (wc dl12)
  refine c_putF (npc := 55) (f := 6) (k := 1) (fs := [iV 2, iV 0, iV 0, .ref 2, .ref 3, .ref 4, .null, .null]) tyX2 dX2_init_52 rfl rfl (by decide) (Nat.le_of_ble_eq_true rfl) rfl inw_X2 tyX2_ok nmX2 (by decide) twc_89 rfl rfl (fun _ => ⟨rfl, rfl⟩) (by decide) ?_
  show Gc _ _ _ 12 120 55 _ _ 14 (wc dl13)
  refine c_aload_n (npc := 56) dX2_init_55 rfl rfl rfl ?_
  refine c_bipush (npc := 58) (x := 8) dX2_init_56 rfl (by decide) ?_
  refine c_newI (npc := 60) (j := 14) (n := 8) dX2_init_58 rfl twc_109 (by decide) rfl (by decide) ⟨by decide, by decide⟩ ?_
  show Gc _ _ _ 13 128 60 _ _ 15 (wc dl14)
  refine c_putF (npc := 63) (f := 7) (k := 1) (fs := [iV 2, iV 0, iV 0, .ref 2, .ref 3, .ref 4, .ref 13, .null]) tyX2 dX2_init_60 rfl rfl (by decide) (Nat.le_of_ble_eq_true rfl) rfl inw_X2 tyX2_ok nmX2 (by decide) twc_90 rfl rfl (fun _ => ⟨rfl, rfl⟩) (by decide) ?_
  show Gc _ _ _ 13 128 63 _ _ 15 (wc dl15)
  exact c_ret dX2_init_63 rfl (fun _ _ => rfl) ⟨by decide, by decide⟩
theorem dX8_init_0 : decode cX8_init 0 = .ok (.aload_n 0, 1) := by decide +kernel
theorem dX8_init_1 : decode cX8_init 1 = .ok (.invokespecial 3, 3) := by decide +kernel
theorem dX8_init_4 : decode cX8_init 4 = .ok (.aload_n 0, 1) := by decide +kernel
theorem dX8_init_5 : decode cX8_init 5 = .ok (.iconst 0, 1) := by decide +kernel
theorem dX8_init_6 : decode cX8_init 6 = .ok (.putfield 9, 3) := by decide +kernel
theorem dX8_init_9 : decode cX8_init 9 = .ok (.aload_n 0, 1) := by decide +kernel
theorem dX8_init_10 : decode cX8_init 10 = .ok (.bipush 12, 2) := by decide +kernel
theorem dX8_init_12 : decode cX8_init 12 = .ok (.newarray .char, 2) := by decide +kernel
theorem dX8_init_14 : decode cX8_init 14 = .ok (.putfield 15, 3) := by decide +kernel
theorem dX8_init_17 : decode cX8_init 17 = .ok (.return_, 1) := by decide +kernel
set_option maxRecDepth 20000 in
theorem n_Tx_init : SpC yX8_init (Cond.code yX8_init cX8_init 1 none) { frames := 1, cells := 1, slots := 12, locals := 12 } [.ref 15] 16 (wc dl17) (fun x => x = 17) (fun ad cA w => w = wc dl20 ad cA) := by
  refine SpC.body (by decide) rfl (Nat.le_of_ble_eq_true rfl) ?_
  show Gc (cX8_init, RX8, 1, none, { frames := 1, cells := 1, slots := 12, locals := 12 }) _ _ 0 0 0 [(0, .ref 15)] [] 16 (wc dl17)
  refine c_aload_n (npc := 1) dX8_init_0 rfl rfl rfl ?_
  refine c_obj (npc := 4) dX8_init_1 rfl ⟨twc_115, twc_49, twc_50⟩ ⟨by decide, Nat.le_of_ble_eq_true rfl⟩ ?_
  refine c_aload_n (npc := 5) dX8_init_4 rfl rfl rfl ?_
  refine c_iconst (npc := 6) dX8_init_5 rfl ?_
  refine c_putF (npc := 9) (f := 0) (k := 15) (fs := [.int 0, .null]) tyX8 dX8_init_6 rfl rfl (by decide) (Nat.le_of_ble_eq_true rfl) rfl inw_X8 tyX8_ok nmX8 (by decide) twc_116 rfl rfl (fun _ => ⟨rfl, rfl⟩) (by decide) ?_
  show Gc _ _ _ 0 0 9 _ _ 16 (wc dl18)
  refine c_aload_n (npc := 10) dX8_init_9 rfl rfl rfl ?_
  refine c_bipush (npc := 12) (x := 12) dX8_init_10 rfl (by decide) ?_
  refine c_newC (npc := 14) (j := 16) (n := 12) dX8_init_12 rfl twc_123 (by decide) rfl (by decide) ⟨by decide, by decide⟩ ?_
  show Gc _ _ _ 1 12 14 _ _ 17 (wc dl19)
  refine c_putF (npc := 17) (f := 1) (k := 15) (fs := [iV 0, .null]) tyX8 dX8_init_14 rfl rfl (by decide) (Nat.le_of_ble_eq_true rfl) rfl inw_X8 tyX8_ok nmX8 (by decide) twc_117 rfl rfl (fun _ => ⟨rfl, rfl⟩) (by decide) ?_
  show Gc _ _ _ 1 12 17 _ _ 17 (wc dl20)
  exact c_ret dX8_init_17 rfl (fun _ _ => rfl) ⟨by decide, by decide⟩
theorem dX3_init_0 : decode cX3_init 0 = .ok (.aload_n 0, 1) := by decide +kernel
theorem dX3_init_1 : decode cX3_init 1 = .ok (.invokespecial 3, 3) := by decide +kernel
theorem dX3_init_4 : decode cX3_init 4 = .ok (.aload_n 0, 1) := by decide +kernel
theorem dX3_init_5 : decode cX3_init 5 = .ok (.iconst 0, 1) := by decide +kernel
theorem dX3_init_6 : decode cX3_init 6 = .ok (.putfield 9, 3) := by decide +kernel
theorem dX3_init_9 : decode cX3_init 9 = .ok (.aload_n 0, 1) := by decide +kernel
theorem dX3_init_10 : decode cX3_init 10 = .ok (.iconst 0, 1) := by decide +kernel
theorem dX3_init_11 : decode cX3_init 11 = .ok (.putfield 15, 3) := by decide +kernel
theorem dX3_init_14 : decode cX3_init 14 = .ok (.aload_n 0, 1) := by decide +kernel
theorem dX3_init_15 : decode cX3_init 15 = .ok (.bipush 12, 2) := by decide +kernel
theorem dX3_init_17 : decode cX3_init 17 = .ok (.bipush 8, 2) := by decide +kernel
theorem dX3_init_19 : decode cX3_init 19 = .ok (.multianewarray 18 2, 4) := by decide +kernel
theorem dX3_init_23 : decode cX3_init 23 = .ok (.putfield 20, 3) := by decide +kernel
theorem dX3_init_26 : decode cX3_init 26 = .ok (.return_, 1) := by decide +kernel
set_option maxRecDepth 20000 in
theorem n_Hi_init : SpC yX3_init (Cond.code yX3_init cX3_init 1 none) { frames := 1, cells := 13, slots := 108, locals := 12 } [.ref 17] 18 (wc dl22) (fun x => x = 31) (fun ad cA w => w = wc dl26 ad cA) := by
  refine SpC.body (by decide) rfl (Nat.le_of_ble_eq_true rfl) ?_
  show Gc (cX3_init, RX3, 1, none, { frames := 1, cells := 13, slots := 108, locals := 12 }) _ _ 0 0 0 [(0, .ref 17)] [] 18 (wc dl22)
  refine c_aload_n (npc := 1) dX3_init_0 rfl rfl rfl ?_
  refine c_obj (npc := 4) dX3_init_1 rfl ⟨twc_129, twc_49, twc_50⟩ ⟨by decide, Nat.le_of_ble_eq_true rfl⟩ ?_
  refine c_aload_n (npc := 5) dX3_init_4 rfl rfl rfl ?_
  refine c_iconst (npc := 6) dX3_init_5 rfl ?_
  refine c_putF (npc := 9) (f := 0) (k := 17) (fs := [.int 0, .int 0, .null]) tyX3 dX3_init_6 rfl rfl (by decide) (Nat.le_of_ble_eq_true rfl) rfl inw_X3 tyX3_ok nmX3 (by decide) twc_131 rfl rfl (fun _ => ⟨rfl, rfl⟩) (by decide) ?_
  show Gc _ _ _ 0 0 9 _ _ 18 (wc dl23)
  refine c_aload_n (npc := 10) dX3_init_9 rfl rfl rfl ?_
  refine c_iconst (npc := 11) dX3_init_10 rfl ?_
  refine c_putF (npc := 14) (f := 1) (k := 17) (fs := [iV 0, .int 0, .null]) tyX3 dX3_init_11 rfl rfl (by decide) (Nat.le_of_ble_eq_true rfl) rfl inw_X3 tyX3_ok nmX3 (by decide) twc_133 rfl rfl (fun _ => ⟨rfl, rfl⟩) (by decide) ?_
  show Gc _ _ _ 0 0 14 _ _ 18 (wc dl24)
  refine c_aload_n (npc := 15) dX3_init_14 rfl rfl rfl ?_
  refine c_bipush (npc := 17) (x := 12) dX3_init_15 rfl (by decide) ?_
  refine c_bipush (npc := 19) (x := 8) dX3_init_17 rfl (by decide) ?_
  refine c_mna5 (npc := 23) (j := 18) (n := 12) (k2 := 8) dX3_init_19 rfl ⟨twc_130, twc_109⟩ (by decide) (by decide) rfl (by decide) ⟨by decide, by decide⟩ ?_
  show Gc _ _ _ 13 108 23 _ _ 31 (wc dl25)
  refine c_putF (npc := 26) (f := 2) (k := 17) (fs := [iV 0, iV 0, .null]) tyX3 dX3_init_23 rfl rfl (by decide) (Nat.le_of_ble_eq_true rfl) rfl inw_X3 tyX3_ok nmX3 (by decide) twc_134 rfl rfl (fun _ => ⟨rfl, rfl⟩) (by decide) ?_
  show Gc _ _ _ 13 108 26 _ _ 31 (wc dl26)
  exact c_ret dX3_init_26 rfl (fun _ _ => rfl) ⟨by decide, by decide⟩
theorem dX7_init_0 : decode cX7_init 0 = .ok (.aload_n 0, 1) := by decide +kernel
theorem dX7_init_1 : decode cX7_init 1 = .ok (.invokespecial 3, 3) := by decide +kernel
theorem dX7_init_4 : decode cX7_init 4 = .ok (.aload_n 0, 1) := by decide +kernel
theorem dX7_init_5 : decode cX7_init 5 = .ok (.iconst 3, 1) := by decide +kernel
theorem dX7_init_6 : decode cX7_init 6 = .ok (.newarray .boolean, 2) := by decide +kernel
theorem dX7_init_8 : decode cX7_init 8 = .ok (.putfield 9, 3) := by decide +kernel
theorem dX7_init_11 : decode cX7_init 11 = .ok (.aload_n 0, 1) := by decide +kernel
theorem dX7_init_12 : decode cX7_init 12 = .ok (.iconst 3, 1) := by decide +kernel
theorem dX7_init_13 : decode cX7_init 13 = .ok (.bipush 8, 2) := by decide +kernel
theorem dX7_init_15 : decode cX7_init 15 = .ok (.multianewarray 15 2, 4) := by decide +kernel
theorem dX7_init_19 : decode cX7_init 19 = .ok (.putfield 17, 3) := by decide +kernel
theorem dX7_init_22 : decode cX7_init 22 = .ok (.return_, 1) := by decide +kernel
set_option maxRecDepth 20000 in
theorem n_Sl_init : SpC yX7_init (Cond.code yX7_init cX7_init 1 none) { frames := 1, cells := 5, slots := 30, locals := 12 } [.ref 31] 32 (wc dl28) (fun x => x = 37) (fun ad cA w => w = wc dl32 ad cA) := by
  refine SpC.body (by decide) rfl (Nat.le_of_ble_eq_true rfl) ?_
  show Gc (cX7_init, RX7, 1, none, { frames := 1, cells := 5, slots := 30, locals := 12 }) _ _ 0 0 0 [(0, .ref 31)] [] 32 (wc dl28)
  refine c_aload_n (npc := 1) dX7_init_0 rfl rfl rfl ?_
  refine c_obj (npc := 4) dX7_init_1 rfl ⟨twc_147, twc_49, twc_50⟩ ⟨by decide, Nat.le_of_ble_eq_true rfl⟩ ?_
  refine c_aload_n (npc := 5) dX7_init_4 rfl rfl rfl ?_
  refine c_iconst (npc := 6) dX7_init_5 rfl ?_
  refine c_newZ (npc := 8) (j := 32) (n := 3) dX7_init_6 rfl twc_156 (by decide) rfl (by decide) ⟨by decide, by decide⟩ ?_
  show Gc _ _ _ 1 3 8 _ _ 33 (wc dl29)
  refine c_putF (npc := 11) (f := 0) (k := 31) (fs := [.null, .null]) tyX7 dX7_init_8 rfl rfl (by decide) (Nat.le_of_ble_eq_true rfl) rfl inw_X7 tyX7_ok nmX7 (by decide) twc_149 rfl rfl (fun _ => ⟨rfl, rfl⟩) (by decide) ?_
  show Gc _ _ _ 1 3 11 _ _ 33 (wc dl30)
  refine c_aload_n (npc := 12) dX7_init_11 rfl rfl rfl ?_
  refine c_iconst (npc := 13) dX7_init_12 rfl ?_
  refine c_bipush (npc := 15) (x := 8) dX7_init_13 rfl (by decide) ?_
  refine c_mna5 (npc := 19) (j := 33) (n := 3) (k2 := 8) dX7_init_15 rfl ⟨twc_148, twc_109⟩ (by decide) (by decide) rfl (by decide) ⟨by decide, by decide⟩ ?_
  show Gc _ _ _ 5 30 19 _ _ 37 (wc dl31)
  refine c_putF (npc := 22) (f := 1) (k := 31) (fs := [.ref 32, .null]) tyX7 dX7_init_19 rfl rfl (by decide) (Nat.le_of_ble_eq_true rfl) rfl inw_X7 tyX7_ok nmX7 (by decide) twc_150 rfl rfl (fun _ => ⟨rfl, rfl⟩) (by decide) ?_
  show Gc _ _ _ 5 30 22 _ _ 37 (wc dl32)
  exact c_ret dX7_init_22 rfl (fun _ _ => rfl) ⟨by decide, by decide⟩
theorem dX0_init_0 : decode cX0_init 0 = .ok (.aload_n 0, 1) := by decide +kernel
theorem dX0_init_1 : decode cX0_init 1 = .ok (.invokespecial 3, 3) := by decide +kernel
theorem dX0_init_4 : decode cX0_init 4 = .ok (.aload_n 0, 1) := by decide +kernel
theorem dX0_init_5 : decode cX0_init 5 = .ok (.bipush 8, 2) := by decide +kernel
theorem dX0_init_7 : decode cX0_init 7 = .ok (.newarray .int, 2) := by decide +kernel
theorem dX0_init_9 : decode cX0_init 9 = .ok (.putfield 9, 3) := by decide +kernel
theorem dX0_init_12 : decode cX0_init 12 = .ok (.aload_n 0, 1) := by decide +kernel
theorem dX0_init_13 : decode cX0_init 13 = .ok (.bipush 8, 2) := by decide +kernel
theorem dX0_init_15 : decode cX0_init 15 = .ok (.newarray .int, 2) := by decide +kernel
theorem dX0_init_17 : decode cX0_init 17 = .ok (.putfield 15, 3) := by decide +kernel
theorem dX0_init_20 : decode cX0_init 20 = .ok (.aload_n 0, 1) := by decide +kernel
theorem dX0_init_21 : decode cX0_init 21 = .ok (.aload_n 1, 1) := by decide +kernel
theorem dX0_init_22 : decode cX0_init 22 = .ok (.putfield 18, 3) := by decide +kernel
theorem dX0_init_25 : decode cX0_init 25 = .ok (.return_, 1) := by decide +kernel
set_option maxRecDepth 20000 in
theorem n_Bu_init : SpC yX0_init (Cond.code yX0_init cX0_init 2 none) { frames := 1, cells := 2, slots := 16, locals := 12 } [.ref 37, .ref 1] 38 (wc dl34) (fun x => x = 40) (fun ad cA w => w = wc dl39 ad cA) := by
  refine SpC.body (by decide) rfl (Nat.le_of_ble_eq_true rfl) ?_
  show Gc (cX0_init, RX0, 2, none, { frames := 1, cells := 2, slots := 16, locals := 12 }) _ _ 0 0 0 [(0, .ref 37), (1, .ref 1)] [] 38 (wc dl34)
  refine c_aload_n (npc := 1) dX0_init_0 rfl rfl rfl ?_
  refine c_obj (npc := 4) dX0_init_1 rfl ⟨twc_162, twc_49, twc_50⟩ ⟨by decide, Nat.le_of_ble_eq_true rfl⟩ ?_
  refine c_aload_n (npc := 5) dX0_init_4 rfl rfl rfl ?_
  refine c_bipush (npc := 7) (x := 8) dX0_init_5 rfl (by decide) ?_
  refine c_newI (npc := 9) (j := 38) (n := 8) dX0_init_7 rfl twc_109 (by decide) rfl (by decide) ⟨by decide, by decide⟩ ?_
  show Gc _ _ _ 1 8 9 _ _ 39 (wc dl35)
  refine c_putF (npc := 12) (f := 0) (k := 37) (fs := [.null, .null, .null]) tyX0 dX0_init_9 rfl rfl (by decide) (Nat.le_of_ble_eq_true rfl) rfl inw_X0 tyX0_ok nmX0 (by decide) twc_163 rfl rfl (fun _ => ⟨rfl, rfl⟩) (by decide) ?_
  show Gc _ _ _ 1 8 12 _ _ 39 (wc dl36)
  refine c_aload_n (npc := 13) dX0_init_12 rfl rfl rfl ?_
  refine c_bipush (npc := 15) (x := 8) dX0_init_13 rfl (by decide) ?_
  refine c_newI (npc := 17) (j := 39) (n := 8) dX0_init_15 rfl twc_109 (by decide) rfl (by decide) ⟨by decide, by decide⟩ ?_
  show Gc _ _ _ 2 16 17 _ _ 40 (wc dl37)
  refine c_putF (npc := 20) (f := 1) (k := 37) (fs := [.ref 38, .null, .null]) tyX0 dX0_init_17 rfl rfl (by decide) (Nat.le_of_ble_eq_true rfl) rfl inw_X0 tyX0_ok nmX0 (by decide) twc_165 rfl rfl (fun _ => ⟨rfl, rfl⟩) (by decide) ?_
  show Gc _ _ _ 2 16 20 _ _ 40 (wc dl38)
  refine c_aload_n (npc := 21) dX0_init_20 rfl rfl rfl ?_
  refine c_aload_n (npc := 22) dX0_init_21 rfl rfl rfl ?_
  refine c_putF (npc := 25) (f := 2) (k := 37) (fs := [.ref 38, .ref 39, .null]) tyX0 dX0_init_22 rfl rfl (by decide) (Nat.le_of_ble_eq_true rfl) rfl inw_X0 tyX0_ok nmX0 (by decide) twc_166 rfl rfl (fun _ => ⟨rfl, rfl⟩) (by decide) ?_
  show Gc _ _ _ 2 16 25 _ _ 40 (wc dl39)
  exact c_ret dX0_init_25 rfl (fun _ _ => rfl) ⟨by decide, by decide⟩
theorem dX1_init_0 : decode cX1_init 0 = .ok (.aload_n 0, 1) := by decide +kernel
theorem dX1_init_1 : decode cX1_init 1 = .ok (.invokespecial 3, 3) := by decide +kernel
theorem dX1_init_4 : decode cX1_init 4 = .ok (.aload_n 0, 1) := by decide +kernel
theorem dX1_init_5 : decode cX1_init 5 = .ok (.bipush 8, 2) := by decide +kernel
theorem dX1_init_7 : decode cX1_init 7 = .ok (.newarray .int, 2) := by decide +kernel
theorem dX1_init_9 : decode cX1_init 9 = .ok (.putfield 9, 3) := by decide +kernel
theorem dX1_init_12 : decode cX1_init 12 = .ok (.aload_n 0, 1) := by decide +kernel
theorem dX1_init_13 : decode cX1_init 13 = .ok (.aload_n 1, 1) := by decide +kernel
theorem dX1_init_14 : decode cX1_init 14 = .ok (.putfield 15, 3) := by decide +kernel
theorem dX1_init_17 : decode cX1_init 17 = .ok (.aload_n 0, 1) := by decide +kernel
theorem dX1_init_18 : decode cX1_init 18 = .ok (.aload_n 2, 1) := by decide +kernel
theorem dX1_init_19 : decode cX1_init 19 = .ok (.putfield 19, 3) := by decide +kernel
theorem dX1_init_22 : decode cX1_init 22 = .ok (.return_, 1) := by decide +kernel
set_option maxRecDepth 20000 in
theorem n_Fi_init : SpC yX1_init (Cond.code yX1_init cX1_init 3 none) { frames := 1, cells := 1, slots := 8, locals := 12 } [.ref 40, .ref 1, .ref 37] 41 (wc dl41) (fun x => x = 42) (fun ad cA w => w = wc dl45 ad cA) := by
  refine SpC.body (by decide) rfl (Nat.le_of_ble_eq_true rfl) ?_
  show Gc (cX1_init, RX1, 3, none, { frames := 1, cells := 1, slots := 8, locals := 12 }) _ _ 0 0 0 [(0, .ref 40), (1, .ref 1), (2, .ref 37)] [] 41 (wc dl41)
  refine c_aload_n (npc := 1) dX1_init_0 rfl rfl rfl ?_
  refine c_obj (npc := 4) dX1_init_1 rfl ⟨twc_179, twc_49, twc_50⟩ ⟨by decide, Nat.le_of_ble_eq_true rfl⟩ ?_
  refine c_aload_n (npc := 5) dX1_init_4 rfl rfl rfl ?_
  refine c_bipush (npc := 7) (x := 8) dX1_init_5 rfl (by decide) ?_
  refine c_newI (npc := 9) (j := 41) (n := 8) dX1_init_7 rfl twc_109 (by decide) rfl (by decide) ⟨by decide, by decide⟩ ?_
  show Gc _ _ _ 1 8 9 _ _ 42 (wc dl42)
  refine c_putF (npc := 12) (f := 0) (k := 40) (fs := [.null, .null, .null]) tyX1 dX1_init_9 rfl rfl (by decide) (Nat.le_of_ble_eq_true rfl) rfl inw_X1 tyX1_ok nmX1 (by decide) twc_180 rfl rfl (fun _ => ⟨rfl, rfl⟩) (by decide) ?_
  show Gc _ _ _ 1 8 12 _ _ 42 (wc dl43)
  refine c_aload_n (npc := 13) dX1_init_12 rfl rfl rfl ?_
  refine c_aload_n (npc := 14) dX1_init_13 rfl rfl rfl ?_
  refine c_putF (npc := 17) (f := 1) (k := 40) (fs := [.ref 41, .null, .null]) tyX1 dX1_init_14 rfl rfl (by decide) (Nat.le_of_ble_eq_true rfl) rfl inw_X1 tyX1_ok nmX1 (by decide) twc_182 rfl rfl (fun _ => ⟨rfl, rfl⟩) (by decide) ?_
  show Gc _ _ _ 1 8 17 _ _ 42 (wc dl44)
  refine c_aload_n (npc := 18) dX1_init_17 rfl rfl rfl ?_
  refine c_aload_n (npc := 19) dX1_init_18 rfl rfl rfl ?_
  refine c_putF (npc := 22) (f := 2) (k := 40) (fs := [.ref 41, .ref 1, .null]) tyX1 dX1_init_19 rfl rfl (by decide) (Nat.le_of_ble_eq_true rfl) rfl inw_X1 tyX1_ok nmX1 (by decide) twc_183 rfl rfl (fun _ => ⟨rfl, rfl⟩) (by decide) ?_
  show Gc _ _ _ 1 8 22 _ _ 42 (wc dl45)
  exact c_ret dX1_init_22 rfl (fun _ _ => rfl) ⟨by decide, by decide⟩
theorem dX5_init_0 : decode cX5_init 0 = .ok (.aload_n 0, 1) := by decide +kernel
theorem dX5_init_1 : decode cX5_init 1 = .ok (.invokespecial 3, 3) := by decide +kernel
theorem dX5_init_4 : decode cX5_init 4 = .ok (.aload_n 0, 1) := by decide +kernel
theorem dX5_init_5 : decode cX5_init 5 = .ok (.bipush 8, 2) := by decide +kernel
theorem dX5_init_7 : decode cX5_init 7 = .ok (.newarray .long, 2) := by decide +kernel
theorem dX5_init_9 : decode cX5_init 9 = .ok (.putfield 9, 3) := by decide +kernel
theorem dX5_init_12 : decode cX5_init 12 = .ok (.aload_n 0, 1) := by decide +kernel
theorem dX5_init_13 : decode cX5_init 13 = .ok (.iconst 0, 1) := by decide +kernel
theorem dX5_init_14 : decode cX5_init 14 = .ok (.putfield 15, 3) := by decide +kernel
theorem dX5_init_17 : decode cX5_init 17 = .ok (.aload_n 0, 1) := by decide +kernel
theorem dX5_init_18 : decode cX5_init 18 = .ok (.bipush 8, 2) := by decide +kernel
theorem dX5_init_20 : decode cX5_init 20 = .ok (.bipush 9, 2) := by decide +kernel
theorem dX5_init_22 : decode cX5_init 22 = .ok (.multianewarray 19 2, 4) := by decide +kernel
theorem dX5_init_26 : decode cX5_init 26 = .ok (.putfield 21, 3) := by decide +kernel
theorem dX5_init_29 : decode cX5_init 29 = .ok (.aload_n 0, 1) := by decide +kernel
theorem dX5_init_30 : decode cX5_init 30 = .ok (.iconst 0, 1) := by decide +kernel
theorem dX5_init_31 : decode cX5_init 31 = .ok (.putfield 24, 3) := by decide +kernel
theorem dX5_init_34 : decode cX5_init 34 = .ok (.aload_n 0, 1) := by decide +kernel
theorem dX5_init_35 : decode cX5_init 35 = .ok (.aload_n 1, 1) := by decide +kernel
theorem dX5_init_36 : decode cX5_init 36 = .ok (.putfield 27, 3) := by decide +kernel
theorem dX5_init_39 : decode cX5_init 39 = .ok (.return_, 1) := by decide +kernel
set_option maxRecDepth 20000 in
theorem n_Ma_init : SpC yX5_init (Cond.code yX5_init cX5_init 2 none) { frames := 1, cells := 10, slots := 88, locals := 12 } [.ref 42, .ref 1] 43 (wc dl47) (fun x => x = 53) (fun ad cA w => w = wc dl54 ad cA) := by
  refine SpC.body (by decide) rfl (Nat.le_of_ble_eq_true rfl) ?_
  show Gc (cX5_init, RX5, 2, none, { frames := 1, cells := 10, slots := 88, locals := 12 }) _ _ 0 0 0 [(0, .ref 42), (1, .ref 1)] [] 43 (wc dl47)
  refine c_aload_n (npc := 1) dX5_init_0 rfl rfl rfl ?_
  refine c_obj (npc := 4) dX5_init_1 rfl ⟨twc_196, twc_49, twc_50⟩ ⟨by decide, Nat.le_of_ble_eq_true rfl⟩ ?_
  refine c_aload_n (npc := 5) dX5_init_4 rfl rfl rfl ?_
  refine c_bipush (npc := 7) (x := 8) dX5_init_5 rfl (by decide) ?_
  refine c_newJ (npc := 9) (j := 43) (n := 8) dX5_init_7 rfl twc_217 (by decide) rfl (by decide) ⟨by decide, by decide⟩ ?_
  show Gc _ _ _ 1 8 9 _ _ 44 (wc dl48)
  refine c_putF (npc := 12) (f := 0) (k := 42) (fs := [.null, .int 0, .null, .null, .int 0]) tyX5 dX5_init_9 rfl rfl (by decide) (Nat.le_of_ble_eq_true rfl) rfl inw_X5 tyX5_ok nmX5 (by decide) twc_199 rfl rfl (fun _ => ⟨rfl, rfl⟩) (by decide) ?_
  show Gc _ _ _ 1 8 12 _ _ 44 (wc dl49)
  refine c_aload_n (npc := 13) dX5_init_12 rfl rfl rfl ?_
  refine c_iconst (npc := 14) dX5_init_13 rfl ?_
  refine c_putF (npc := 17) (f := 1) (k := 42) (fs := [.ref 43, .int 0, .null, .null, .int 0]) tyX5 dX5_init_14 rfl rfl (by decide) (Nat.le_of_ble_eq_true rfl) rfl inw_X5 tyX5_ok nmX5 (by decide) twc_201 rfl rfl (fun _ => ⟨rfl, rfl⟩) (by decide) ?_
  show Gc _ _ _ 1 8 17 _ _ 44 (wc dl50)
  refine c_aload_n (npc := 18) dX5_init_17 rfl rfl rfl ?_
  refine c_bipush (npc := 20) (x := 8) dX5_init_18 rfl (by decide) ?_
  refine c_bipush (npc := 22) (x := 9) dX5_init_20 rfl (by decide) ?_
  refine c_mna6 (npc := 26) (j := 44) (n := 8) (k2 := 9) dX5_init_22 rfl ⟨twc_197, twc_217⟩ (by decide) (by decide) rfl (by decide) ⟨by decide, by decide⟩ ?_
  show Gc _ _ _ 10 88 26 _ _ 53 (wc dl51)
  refine c_putF (npc := 29) (f := 3) (k := 42) (fs := [.ref 43, iV 0, .null, .null, .int 0]) tyX5 dX5_init_26 rfl rfl (by decide) (Nat.le_of_ble_eq_true rfl) rfl inw_X5 tyX5_ok nmX5 (by decide) twc_204 rfl rfl (fun _ => ⟨rfl, rfl⟩) (by decide) ?_
  show Gc _ _ _ 10 88 29 _ _ 53 (wc dl52)
  refine c_aload_n (npc := 30) dX5_init_29 rfl rfl rfl ?_
  refine c_iconst (npc := 31) dX5_init_30 rfl ?_
  refine c_putF (npc := 34) (f := 4) (k := 42) (fs := [.ref 43, iV 0, .null, .ref 44, .int 0]) tyX5 dX5_init_31 rfl rfl (by decide) (Nat.le_of_ble_eq_true rfl) rfl inw_X5 tyX5_ok nmX5 (by decide) twc_205 rfl rfl (fun _ => ⟨rfl, rfl⟩) (by decide) ?_
  show Gc _ _ _ 10 88 34 _ _ 53 (wc dl53)
  refine c_aload_n (npc := 35) dX5_init_34 rfl rfl rfl ?_
  refine c_aload_n (npc := 36) dX5_init_35 rfl rfl rfl ?_
  refine c_putF (npc := 39) (f := 2) (k := 42) (fs := [.ref 43, iV 0, .null, .ref 44, iV 0]) tyX5 dX5_init_36 rfl rfl (by decide) (Nat.le_of_ble_eq_true rfl) rfl inw_X5 tyX5_ok nmX5 (by decide) twc_203 rfl rfl (fun _ => ⟨rfl, rfl⟩) (by decide) ?_
  show Gc _ _ _ 10 88 39 _ _ 53 (wc dl54)
  exact c_ret dX5_init_39 rfl (fun _ _ => rfl) ⟨by decide, by decide⟩
theorem dX9_init_0 : decode cX9_init 0 = .ok (.aload_n 0, 1) := by decide +kernel
theorem dX9_init_1 : decode cX9_init 1 = .ok (.invokespecial 3, 3) := by decide +kernel
theorem dX9_init_4 : decode cX9_init 4 = .ok (.aload_n 0, 1) := by decide +kernel
theorem dX9_init_5 : decode cX9_init 5 = .ok (.bipush 8, 2) := by decide +kernel
theorem dX9_init_7 : decode cX9_init 7 = .ok (.newarray .int, 2) := by decide +kernel
theorem dX9_init_9 : decode cX9_init 9 = .ok (.putfield 9, 3) := by decide +kernel
theorem dX9_init_12 : decode cX9_init 12 = .ok (.aload_n 0, 1) := by decide +kernel
theorem dX9_init_13 : decode cX9_init 13 = .ok (.aload_n 1, 1) := by decide +kernel
theorem dX9_init_14 : decode cX9_init 14 = .ok (.putfield 15, 3) := by decide +kernel
theorem dX9_init_17 : decode cX9_init 17 = .ok (.aload_n 0, 1) := by decide +kernel
theorem dX9_init_18 : decode cX9_init 18 = .ok (.aload_n 2, 1) := by decide +kernel
theorem dX9_init_19 : decode cX9_init 19 = .ok (.putfield 19, 3) := by decide +kernel
theorem dX9_init_22 : decode cX9_init 22 = .ok (.return_, 1) := by decide +kernel
set_option maxRecDepth 20000 in
theorem n_Tr_init : SpC yX9_init (Cond.code yX9_init cX9_init 3 none) { frames := 1, cells := 1, slots := 8, locals := 12 } [.ref 53, .ref 1, .ref 42] 54 (wc dl56) (fun x => x = 55) (fun ad cA w => w = wc dl60 ad cA) := by
  refine SpC.body (by decide) rfl (Nat.le_of_ble_eq_true rfl) ?_
  show Gc (cX9_init, RX9, 3, none, { frames := 1, cells := 1, slots := 8, locals := 12 }) _ _ 0 0 0 [(0, .ref 53), (1, .ref 1), (2, .ref 42)] [] 54 (wc dl56)
  refine c_aload_n (npc := 1) dX9_init_0 rfl rfl rfl ?_
  refine c_obj (npc := 4) dX9_init_1 rfl ⟨twc_223, twc_49, twc_50⟩ ⟨by decide, Nat.le_of_ble_eq_true rfl⟩ ?_
  refine c_aload_n (npc := 5) dX9_init_4 rfl rfl rfl ?_
  refine c_bipush (npc := 7) (x := 8) dX9_init_5 rfl (by decide) ?_
  refine c_newI (npc := 9) (j := 54) (n := 8) dX9_init_7 rfl twc_109 (by decide) rfl (by decide) ⟨by decide, by decide⟩ ?_
  show Gc _ _ _ 1 8 9 _ _ 55 (wc dl57)
  refine c_putF (npc := 12) (f := 2) (k := 53) (fs := [.null, .null, .null]) tyX9 dX9_init_9 rfl rfl (by decide) (Nat.le_of_ble_eq_true rfl) rfl inw_X9 tyX9_ok nmX9 (by decide) twc_226 rfl rfl (fun _ => ⟨rfl, rfl⟩) (by decide) ?_
  show Gc _ _ _ 1 8 12 _ _ 55 (wc dl58)
  refine c_aload_n (npc := 13) dX9_init_12 rfl rfl rfl ?_
  refine c_aload_n (npc := 14) dX9_init_13 rfl rfl rfl ?_
  refine c_putF (npc := 17) (f := 0) (k := 53) (fs := [.null, .null, .ref 54]) tyX9 dX9_init_14 rfl rfl (by decide) (Nat.le_of_ble_eq_true rfl) rfl inw_X9 tyX9_ok nmX9 (by decide) twc_224 rfl rfl (fun _ => ⟨rfl, rfl⟩) (by decide) ?_
  show Gc _ _ _ 1 8 17 _ _ 55 (wc dl59)
  refine c_aload_n (npc := 18) dX9_init_17 rfl rfl rfl ?_
  refine c_aload_n (npc := 19) dX9_init_18 rfl rfl rfl ?_
  refine c_putF (npc := 22) (f := 1) (k := 53) (fs := [.ref 1, .null, .ref 54]) tyX9 dX9_init_19 rfl rfl (by decide) (Nat.le_of_ble_eq_true rfl) rfl inw_X9 tyX9_ok nmX9 (by decide) twc_225 rfl rfl (fun _ => ⟨rfl, rfl⟩) (by decide) ?_
  show Gc _ _ _ 1 8 22 _ _ 55 (wc dl60)
  exact c_ret dX9_init_22 rfl (fun _ _ => rfl) ⟨by decide, by decide⟩
theorem dX4_init_0 : decode cX4_init 0 = .ok (.aload_n 0, 1) := by decide +kernel
theorem dX4_init_1 : decode cX4_init 1 = .ok (.invokespecial 3, 3) := by decide +kernel
theorem dX4_init_4 : decode cX4_init 4 = .ok (.aload_n 0, 1) := by decide +kernel
theorem dX4_init_5 : decode cX4_init 5 = .ok (.sipush 256, 3) := by decide +kernel
theorem dX4_init_8 : decode cX4_init 8 = .ok (.newarray .int, 2) := by decide +kernel
theorem dX4_init_10 : decode cX4_init 10 = .ok (.putfield 11, 3) := by decide +kernel
theorem dX4_init_13 : decode cX4_init 13 = .ok (.aload_n 0, 1) := by decide +kernel
theorem dX4_init_14 : decode cX4_init 14 = .ok (.sipush 128, 3) := by decide +kernel
theorem dX4_init_17 : decode cX4_init 17 = .ok (.bipush 21, 2) := by decide +kernel
theorem dX4_init_19 : decode cX4_init 19 = .ok (.multianewarray 15 2, 4) := by decide +kernel
theorem dX4_init_23 : decode cX4_init 23 = .ok (.putfield 17, 3) := by decide +kernel
theorem dX4_init_26 : decode cX4_init 26 = .ok (.aload_n 0, 1) := by decide +kernel
theorem dX4_init_27 : decode cX4_init 27 = .ok (.bipush 21, 2) := by decide +kernel
theorem dX4_init_29 : decode cX4_init 29 = .ok (.newarray .long, 2) := by decide +kernel
theorem dX4_init_31 : decode cX4_init 31 = .ok (.putfield 20, 3) := by decide +kernel
theorem dX4_init_34 : decode cX4_init 34 = .ok (.aload_n 0, 1) := by decide +kernel
theorem dX4_init_35 : decode cX4_init 35 = .ok (.aload_n 1, 1) := by decide +kernel
theorem dX4_init_36 : decode cX4_init 36 = .ok (.putfield 24, 3) := by decide +kernel
theorem dX4_init_39 : decode cX4_init 39 = .ok (.return_, 1) := by decide +kernel
set_option maxRecDepth 20000 in
theorem n_Le_init : SpC yX4_init (Cond.code yX4_init cX4_init 2 none) { frames := 1, cells := 131, slots := 3093, locals := 12 } [.ref 55, .ref 1] 56 (wc dl62) (fun x => x = 187) (fun ad cA w => w = wc dl69 ad cA) := by
  refine SpC.body (by decide) rfl (Nat.le_of_ble_eq_true rfl) ?_
  show Gc (cX4_init, RX4, 2, none, { frames := 1, cells := 131, slots := 3093, locals := 12 }) _ _ 0 0 0 [(0, .ref 55), (1, .ref 1)] [] 56 (wc dl62)
  refine c_aload_n (npc := 1) dX4_init_0 rfl rfl rfl ?_
  refine c_obj (npc := 4) dX4_init_1 rfl ⟨twc_239, twc_49, twc_50⟩ ⟨by decide, Nat.le_of_ble_eq_true rfl⟩ ?_
  refine c_aload_n (npc := 5) dX4_init_4 rfl rfl rfl ?_
  refine c_sipush (npc := 8) (x := 256) dX4_init_5 rfl (by decide) ?_
  refine c_newI (npc := 10) (j := 56) (n := 256) dX4_init_8 rfl twc_109 (by decide) rfl (by decide) ⟨by decide, by decide⟩ ?_
  show Gc _ _ _ 1 256 10 _ _ 57 (wc dl63)
  refine c_putF (npc := 13) (f := 1) (k := 55) (fs := [.null, .null, .null, .null]) tyX4 dX4_init_10 rfl rfl (by decide) (Nat.le_of_ble_eq_true rfl) rfl inw_X4 tyX4_ok nmX4 (by decide) twc_242 rfl rfl (fun _ => ⟨rfl, rfl⟩) (by decide) ?_
  show Gc _ _ _ 1 256 13 _ _ 57 (wc dl64)
  refine c_aload_n (npc := 14) dX4_init_13 rfl rfl rfl ?_
  refine c_sipush (npc := 17) (x := 128) dX4_init_14 rfl (by decide) ?_
  refine c_bipush (npc := 19) (x := 21) dX4_init_17 rfl (by decide) ?_
  refine c_mna6 (npc := 23) (j := 57) (n := 128) (k2 := 21) dX4_init_19 rfl ⟨twc_240, twc_217⟩ (by decide) (by decide) rfl (by decide) ⟨by decide, by decide⟩ ?_
  show Gc _ _ _ 130 3072 23 _ _ 186 (wc dl65)
  refine c_putF (npc := 26) (f := 2) (k := 55) (fs := [.null, .ref 56, .null, .null]) tyX4 dX4_init_23 rfl rfl (by decide) (Nat.le_of_ble_eq_true rfl) rfl inw_X4 tyX4_ok nmX4 (by decide) twc_243 rfl rfl (fun _ => ⟨rfl, rfl⟩) (by decide) ?_
  show Gc _ _ _ 130 3072 26 _ _ 186 (wc dl66)
  refine c_aload_n (npc := 27) dX4_init_26 rfl rfl rfl ?_
  refine c_bipush (npc := 29) (x := 21) dX4_init_27 rfl (by decide) ?_
  refine c_newJ (npc := 31) (j := 186) (n := 21) dX4_init_29 rfl twc_217 (by decide) rfl (by decide) ⟨by decide, by decide⟩ ?_
  show Gc _ _ _ 131 3093 31 _ _ 187 (wc dl67)
  refine c_putF (npc := 34) (f := 3) (k := 55) (fs := [.null, .ref 56, .ref 57, .null]) tyX4 dX4_init_31 rfl rfl (by decide) (Nat.le_of_ble_eq_true rfl) rfl inw_X4 tyX4_ok nmX4 (by decide) twc_244 rfl rfl (fun _ => ⟨rfl, rfl⟩) (by decide) ?_
  show Gc _ _ _ 131 3093 34 _ _ 187 (wc dl68)
  refine c_aload_n (npc := 35) dX4_init_34 rfl rfl rfl ?_
  refine c_aload_n (npc := 36) dX4_init_35 rfl rfl rfl ?_
  refine c_putF (npc := 39) (f := 0) (k := 55) (fs := [.null, .ref 56, .ref 57, .ref 186]) tyX4 dX4_init_36 rfl rfl (by decide) (Nat.le_of_ble_eq_true rfl) rfl inw_X4 tyX4_ok nmX4 (by decide) twc_241 rfl rfl (fun _ => ⟨rfl, rfl⟩) (by decide) ?_
  show Gc _ _ _ 131 3093 39 _ _ 187 (wc dl69)
  exact c_ret dX4_init_39 rfl (fun _ _ => rfl) ⟨by decide, by decide⟩
theorem dX10_init_0 : decode cX10_init 0 = .ok (.aload_n 0, 1) := by decide +kernel
theorem dX10_init_1 : decode cX10_init 1 = .ok (.invokespecial 3, 3) := by decide +kernel
theorem dX10_init_4 : decode cX10_init 4 = .ok (.aload_n 0, 1) := by decide +kernel
theorem dX10_init_5 : decode cX10_init 5 = .ok (.new 9, 3) := by decide +kernel
theorem dX10_init_8 : decode cX10_init 8 = .ok (.dup, 1) := by decide +kernel
theorem dX10_init_9 : decode cX10_init 9 = .ok (.invokespecial 11, 3) := by decide +kernel
theorem dX10_init_12 : decode cX10_init 12 = .ok (.putfield 12, 3) := by decide +kernel
theorem dX10_init_15 : decode cX10_init 15 = .ok (.aload_n 0, 1) := by decide +kernel
theorem dX10_init_16 : decode cX10_init 16 = .ok (.new 18, 3) := by decide +kernel
theorem dX10_init_19 : decode cX10_init 19 = .ok (.dup, 1) := by decide +kernel
theorem dX10_init_20 : decode cX10_init 20 = .ok (.invokespecial 20, 3) := by decide +kernel
theorem dX10_init_23 : decode cX10_init 23 = .ok (.putfield 21, 3) := by decide +kernel
theorem dX10_init_26 : decode cX10_init 26 = .ok (.aload_n 0, 1) := by decide +kernel
theorem dX10_init_27 : decode cX10_init 27 = .ok (.new 25, 3) := by decide +kernel
theorem dX10_init_30 : decode cX10_init 30 = .ok (.dup, 1) := by decide +kernel
theorem dX10_init_31 : decode cX10_init 31 = .ok (.invokespecial 27, 3) := by decide +kernel
theorem dX10_init_34 : decode cX10_init 34 = .ok (.putfield 28, 3) := by decide +kernel
theorem dX10_init_37 : decode cX10_init 37 = .ok (.aload_n 0, 1) := by decide +kernel
theorem dX10_init_38 : decode cX10_init 38 = .ok (.new 32, 3) := by decide +kernel
theorem dX10_init_41 : decode cX10_init 41 = .ok (.dup, 1) := by decide +kernel
theorem dX10_init_42 : decode cX10_init 42 = .ok (.invokespecial 34, 3) := by decide +kernel
theorem dX10_init_45 : decode cX10_init 45 = .ok (.putfield 35, 3) := by decide +kernel
theorem dX10_init_48 : decode cX10_init 48 = .ok (.aload_n 0, 1) := by decide +kernel
theorem dX10_init_49 : decode cX10_init 49 = .ok (.new 39, 3) := by decide +kernel
theorem dX10_init_52 : decode cX10_init 52 = .ok (.dup, 1) := by decide +kernel
theorem dX10_init_53 : decode cX10_init 53 = .ok (.aload_n 0, 1) := by decide +kernel
theorem dX10_init_54 : decode cX10_init 54 = .ok (.getfield 12, 3) := by decide +kernel
theorem dX10_init_57 : decode cX10_init 57 = .ok (.invokespecial 41, 3) := by decide +kernel
theorem dX10_init_60 : decode cX10_init 60 = .ok (.putfield 44, 3) := by decide +kernel
theorem dX10_init_63 : decode cX10_init 63 = .ok (.aload_n 0, 1) := by decide +kernel
theorem dX10_init_64 : decode cX10_init 64 = .ok (.new 48, 3) := by decide +kernel
theorem dX10_init_67 : decode cX10_init 67 = .ok (.dup, 1) := by decide +kernel
theorem dX10_init_68 : decode cX10_init 68 = .ok (.aload_n 0, 1) := by decide +kernel
theorem dX10_init_69 : decode cX10_init 69 = .ok (.getfield 12, 3) := by decide +kernel
theorem dX10_init_72 : decode cX10_init 72 = .ok (.aload_n 0, 1) := by decide +kernel
theorem dX10_init_73 : decode cX10_init 73 = .ok (.getfield 44, 3) := by decide +kernel
theorem dX10_init_76 : decode cX10_init 76 = .ok (.invokespecial 50, 3) := by decide +kernel
theorem dX10_init_79 : decode cX10_init 79 = .ok (.putfield 53, 3) := by decide +kernel
theorem dX10_init_82 : decode cX10_init 82 = .ok (.aload_n 0, 1) := by decide +kernel
theorem dX10_init_83 : decode cX10_init 83 = .ok (.new 57, 3) := by decide +kernel
theorem dX10_init_86 : decode cX10_init 86 = .ok (.dup, 1) := by decide +kernel
theorem dX10_init_87 : decode cX10_init 87 = .ok (.aload_n 0, 1) := by decide +kernel
theorem dX10_init_88 : decode cX10_init 88 = .ok (.getfield 12, 3) := by decide +kernel
theorem dX10_init_91 : decode cX10_init 91 = .ok (.invokespecial 59, 3) := by decide +kernel
theorem dX10_init_94 : decode cX10_init 94 = .ok (.putfield 60, 3) := by decide +kernel
theorem dX10_init_97 : decode cX10_init 97 = .ok (.aload_n 0, 1) := by decide +kernel
theorem dX10_init_98 : decode cX10_init 98 = .ok (.new 64, 3) := by decide +kernel
theorem dX10_init_101 : decode cX10_init 101 = .ok (.dup, 1) := by decide +kernel
theorem dX10_init_102 : decode cX10_init 102 = .ok (.aload_n 0, 1) := by decide +kernel
theorem dX10_init_103 : decode cX10_init 103 = .ok (.getfield 12, 3) := by decide +kernel
theorem dX10_init_106 : decode cX10_init 106 = .ok (.aload_n 0, 1) := by decide +kernel
theorem dX10_init_107 : decode cX10_init 107 = .ok (.getfield 60, 3) := by decide +kernel
theorem dX10_init_110 : decode cX10_init 110 = .ok (.invokespecial 66, 3) := by decide +kernel
theorem dX10_init_113 : decode cX10_init 113 = .ok (.putfield 69, 3) := by decide +kernel
theorem dX10_init_116 : decode cX10_init 116 = .ok (.aload_n 0, 1) := by decide +kernel
theorem dX10_init_117 : decode cX10_init 117 = .ok (.new 73, 3) := by decide +kernel
theorem dX10_init_120 : decode cX10_init 120 = .ok (.dup, 1) := by decide +kernel
theorem dX10_init_121 : decode cX10_init 121 = .ok (.aload_n 0, 1) := by decide +kernel
theorem dX10_init_122 : decode cX10_init 122 = .ok (.getfield 12, 3) := by decide +kernel
theorem dX10_init_125 : decode cX10_init 125 = .ok (.invokespecial 75, 3) := by decide +kernel
theorem dX10_init_128 : decode cX10_init 128 = .ok (.putfield 76, 3) := by decide +kernel
theorem dX10_init_131 : decode cX10_init 131 = .ok (.aload_n 0, 1) := by decide +kernel
theorem dX10_init_132 : decode cX10_init 132 = .ok (.bipush 8, 2) := by decide +kernel
theorem dX10_init_134 : decode cX10_init 134 = .ok (.newarray .int, 2) := by decide +kernel
theorem dX10_init_136 : decode cX10_init 136 = .ok (.putfield 80, 3) := by decide +kernel
theorem dX10_init_139 : decode cX10_init 139 = .ok (.aload_n 0, 1) := by decide +kernel
theorem dX10_init_140 : decode cX10_init 140 = .ok (.bipush 8, 2) := by decide +kernel
theorem dX10_init_142 : decode cX10_init 142 = .ok (.newarray .int, 2) := by decide +kernel
theorem dX10_init_144 : decode cX10_init 144 = .ok (.putfield 84, 3) := by decide +kernel
theorem dX10_init_147 : decode cX10_init 147 = .ok (.aload_n 0, 1) := by decide +kernel
theorem dX10_init_148 : decode cX10_init 148 = .ok (.bipush 8, 2) := by decide +kernel
theorem dX10_init_150 : decode cX10_init 150 = .ok (.newarray .int, 2) := by decide +kernel
theorem dX10_init_152 : decode cX10_init 152 = .ok (.putfield 87, 3) := by decide +kernel
theorem dX10_init_155 : decode cX10_init 155 = .ok (.aload_n 0, 1) := by decide +kernel
theorem dX10_init_156 : decode cX10_init 156 = .ok (.getfield 12, 3) := by decide +kernel
theorem dX10_init_159 : decode cX10_init 159 = .ok (.iconst 2, 1) := by decide +kernel
theorem dX10_init_160 : decode cX10_init 160 = .ok (.invokevirtual 90, 3) := by decide +kernel
theorem dX10_init_163 : decode cX10_init 163 = .ok (.aload_n 0, 1) := by decide +kernel
theorem dX10_init_164 : decode cX10_init 164 = .ok (.getfield 12, 3) := by decide +kernel
theorem dX10_init_167 : decode cX10_init 167 = .ok (.iconst 0, 1) := by decide +kernel
theorem dX10_init_168 : decode cX10_init 168 = .ok (.iconst 1, 1) := by decide +kernel
theorem dX10_init_169 : decode cX10_init 169 = .ok (.invokevirtual 94, 3) := by decide +kernel
theorem dX10_init_172 : decode cX10_init 172 = .ok (.return_, 1) := by decide +kernel
def iC_s0 : Sto := fun k i => if k = 1 ∧ i = 0 then 2 else 0
theorem iC_last : dl76 = (List.range (nc (SL 0))).map (dOf (SL 0) iC_s0) := by decide +kernel
theorem iC_z : ∀ k, k < nc (SL 0) → kd (SL 0) k ≠ 0 → ∀ i, iC_s0 k i = 0 := by
  intro k hk h i
  unfold iC_s0
  refine if_neg (fun q => h ?_)
  rw [q.1]
  rfl
theorem iC_r : ∀ k, k < nc (SL 0) → kd (SL 0) k = 5 ∨ kd (SL 0) k = 6 → ∀ i, fr (SL 0) k i = if i < ln (SL 0) k then some (k + 1 + i) else none := by
  intro k hk h i
  have hk2 : k = 4 ∨ k = 18 ∨ k = 33 ∨ k = 44 ∨ k = 57 := by
    have := (show ∀ k, k < nc (SL 0) → kd (SL 0) k = 5 ∨ kd (SL 0) k = 6 → k = 4 ∨ k = 18 ∨ k = 33 ∨ k = 44 ∨ k = 57 from by decide +kernel) k hk h
    exact this
  rcases hk2 with rfl | rfl | rfl | rfl | rfl <;> rfl
set_option maxRecDepth 20000 in
theorem n_Cg_init {Q1 Q2 : Sto → Prop} (h1 : K_Gr_clear 0 2 iC_s0 Q1) (h2 : ∀ s1, Q1 s1 → K_Gr_append 0 0 1 s1 (fun s2 => Q2 s2)) : SpC yX10_init (Cond.code yX10_init cX10_init 1 none) { frames := 3, cells := 189, slots := 3548, locals := 66 } [.ref 0] 1 (wc dl1) (fun _ => True) (fun ad cA w => ∃ s, Q2 s ∧ w = wd (SL 0) ad cA s) := by
  refine SpC.body (by decide) rfl (Nat.le_of_ble_eq_true rfl) ?_
  show Gc (cX10_init, RX10, 1, none, { frames := 3, cells := 189, slots := 3548, locals := 66 }) _ _ 0 0 0 [(0, .ref 0)] [] 1 (wc dl1)
  refine c_aload_n (npc := 1) dX10_init_0 rfl rfl rfl ?_
  refine c_obj (npc := 4) dX10_init_1 rfl ⟨twc_48, twc_49, twc_50⟩ ⟨by decide, Nat.le_of_ble_eq_true rfl⟩ ?_
  refine c_aload_n (npc := 5) dX10_init_4 rfl rfl rfl ?_
  refine c_new (npc := 8) (j := 1) (C := RX2) (T := TX2) (N := 8) (ci := 2) (fs := [.int 0, .int 0, .int 0, .null, .null, .null, .null, .null]) dX10_init_5 rfl ⟨twc_51, twc_52, twc_32⟩ rfl inw_X2 tyX2 tyX2_ok (by decide) (fun _ => rfl) rfl (by decide) ⟨by decide, by decide⟩ ?_
  show Gc _ _ _ 1 8 8 _ _ 2 (wc dl2)
  refine c_dup (npc := 9) dX10_init_8 rfl rfl ?_
  refine c_callN (npc := 12) (as := []) (k := 1) dX10_init_9 rfl rfl ⟨by decide +kernel, twc_32, twc_54, twc_55⟩ ⟨by decide, by decide, by decide +kernel⟩ rfl rfl (Nat.le_of_ble_eq_true rfl) ⟨by decide, by decide⟩ ⟨by decide, by decide⟩ n_Gr_init ?_
  show Gc _ _ _ 14 136 12 _ _ 15 (wc dl15)
  refine c_putF (npc := 15) (f := 0) (k := 0) (fs := [.null, .null, .null, .null, .null, .null, .null, .null, .null, .null, .null, .null]) tyX10 dX10_init_12 rfl rfl (by decide) (Nat.le_of_ble_eq_true rfl) rfl inw_X10 tyX10_ok nmX10 (by decide) twc_270 rfl rfl (fun _ => ⟨rfl, rfl⟩) (by decide) ?_
  show Gc _ _ _ 14 136 15 _ _ 15 (wc dl16)
  refine c_aload_n (npc := 16) dX10_init_15 rfl rfl rfl ?_
  refine c_new (npc := 19) (j := 15) (C := RX8) (T := TX8) (N := 2) (ci := 7) (fs := [.int 0, .null]) dX10_init_16 rfl ⟨twc_110, twc_111, twc_33⟩ rfl inw_X8 tyX8 tyX8_ok (by decide) (fun _ => rfl) rfl (by decide) ⟨by decide, by decide⟩ ?_
  show Gc _ _ _ 15 138 19 _ _ 16 (wc dl17)
  refine c_dup (npc := 20) dX10_init_19 rfl rfl ?_
  refine c_callN (npc := 23) (as := []) (k := 15) dX10_init_20 rfl rfl ⟨by decide +kernel, twc_33, twc_113, twc_114⟩ ⟨by decide, by decide, by decide +kernel⟩ rfl rfl (Nat.le_of_ble_eq_true rfl) ⟨by decide, by decide⟩ ⟨by decide, by decide⟩ n_Tx_init ?_
  show Gc _ _ _ 16 150 23 _ _ 17 (wc dl20)
  refine c_putF (npc := 26) (f := 1) (k := 0) (fs := [.ref 1, .null, .null, .null, .null, .null, .null, .null, .null, .null, .null, .null]) tyX10 dX10_init_23 rfl rfl (by decide) (Nat.le_of_ble_eq_true rfl) rfl inw_X10 tyX10_ok nmX10 (by decide) twc_271 rfl rfl (fun _ => ⟨rfl, rfl⟩) (by decide) ?_
  show Gc _ _ _ 16 150 26 _ _ 17 (wc dl21)
  refine c_aload_n (npc := 27) dX10_init_26 rfl rfl rfl ?_
  refine c_new (npc := 30) (j := 17) (C := RX3) (T := TX3) (N := 3) (ci := 3) (fs := [.int 0, .int 0, .null]) dX10_init_27 rfl ⟨twc_124, twc_125, twc_34⟩ rfl inw_X3 tyX3 tyX3_ok (by decide) (fun _ => rfl) rfl (by decide) ⟨by decide, by decide⟩ ?_
  show Gc _ _ _ 17 153 30 _ _ 18 (wc dl22)
  refine c_dup (npc := 31) dX10_init_30 rfl rfl ?_
  refine c_callN (npc := 34) (as := []) (k := 17) dX10_init_31 rfl rfl ⟨by decide +kernel, twc_34, twc_127, twc_128⟩ ⟨by decide, by decide, by decide +kernel⟩ rfl rfl (Nat.le_of_ble_eq_true rfl) ⟨by decide, by decide⟩ ⟨by decide, by decide⟩ n_Hi_init ?_
  show Gc _ _ _ 30 261 34 _ _ 31 (wc dl26)
  refine c_putF (npc := 37) (f := 2) (k := 0) (fs := [.ref 1, .ref 15, .null, .null, .null, .null, .null, .null, .null, .null, .null, .null]) tyX10 dX10_init_34 rfl rfl (by decide) (Nat.le_of_ble_eq_true rfl) rfl inw_X10 tyX10_ok nmX10 (by decide) twc_272 rfl rfl (fun _ => ⟨rfl, rfl⟩) (by decide) ?_
  show Gc _ _ _ 30 261 37 _ _ 31 (wc dl27)
  refine c_aload_n (npc := 38) dX10_init_37 rfl rfl rfl ?_
  refine c_new (npc := 41) (j := 31) (C := RX7) (T := TX7) (N := 2) (ci := 6) (fs := [.null, .null]) dX10_init_38 rfl ⟨twc_142, twc_143, twc_35⟩ rfl inw_X7 tyX7 tyX7_ok (by decide) (fun _ => rfl) rfl (by decide) ⟨by decide, by decide⟩ ?_
  show Gc _ _ _ 31 263 41 _ _ 32 (wc dl28)
  refine c_dup (npc := 42) dX10_init_41 rfl rfl ?_
  refine c_callN (npc := 45) (as := []) (k := 31) dX10_init_42 rfl rfl ⟨by decide +kernel, twc_35, twc_145, twc_146⟩ ⟨by decide, by decide, by decide +kernel⟩ rfl rfl (Nat.le_of_ble_eq_true rfl) ⟨by decide, by decide⟩ ⟨by decide, by decide⟩ n_Sl_init ?_
  show Gc _ _ _ 36 293 45 _ _ 37 (wc dl32)
  refine c_putF (npc := 48) (f := 3) (k := 0) (fs := [.ref 1, .ref 15, .ref 17, .null, .null, .null, .null, .null, .null, .null, .null, .null]) tyX10 dX10_init_45 rfl rfl (by decide) (Nat.le_of_ble_eq_true rfl) rfl inw_X10 tyX10_ok nmX10 (by decide) twc_273 rfl rfl (fun _ => ⟨rfl, rfl⟩) (by decide) ?_
  show Gc _ _ _ 36 293 48 _ _ 37 (wc dl33)
  refine c_aload_n (npc := 49) dX10_init_48 rfl rfl rfl ?_
  refine c_new (npc := 52) (j := 37) (C := RX0) (T := TX0) (N := 3) (ci := 0) (fs := [.null, .null, .null]) dX10_init_49 rfl ⟨twc_157, twc_158, twc_36⟩ rfl inw_X0 tyX0 tyX0_ok (by decide) (fun _ => rfl) rfl (by decide) ⟨by decide, by decide⟩ ?_
  show Gc _ _ _ 37 296 52 _ _ 38 (wc dl34)
  refine c_dup (npc := 53) dX10_init_52 rfl rfl ?_
  refine c_aload_n (npc := 54) dX10_init_53 rfl rfl rfl ?_
  refine c_get (npc := 57) (f := 0) (k := 0) (v := .ref 1) (fs := [.ref 1, .ref 15, .ref 17, .ref 31, .null, .null, .null, .null, .null, .null, .null, .null]) dX10_init_54 rfl rfl rfl inw_X10 (by decide) twc_270 rfl rfl ?_
  refine c_callI (npc := 60) (as := [.ref 1]) (k := 37) dX10_init_57 rfl rfl ⟨twc_159, twc_36, twc_160, twc_161⟩ ⟨by decide, by decide, by decide +kernel⟩ rfl rfl (Nat.le_of_ble_eq_true rfl) ⟨by decide, by decide⟩ ⟨by decide, by decide⟩ n_Bu_init ?_
  show Gc _ _ _ 39 312 60 _ _ 40 (wc dl39)
  refine c_putF (npc := 63) (f := 4) (k := 0) (fs := [.ref 1, .ref 15, .ref 17, .ref 31, .null, .null, .null, .null, .null, .null, .null, .null]) tyX10 dX10_init_60 rfl rfl (by decide) (Nat.le_of_ble_eq_true rfl) rfl inw_X10 tyX10_ok nmX10 (by decide) twc_274 rfl rfl (fun _ => ⟨rfl, rfl⟩) (by decide) ?_
  show Gc _ _ _ 39 312 63 _ _ 40 (wc dl40)
  refine c_aload_n (npc := 64) dX10_init_63 rfl rfl rfl ?_
  refine c_new (npc := 67) (j := 40) (C := RX1) (T := TX1) (N := 3) (ci := 1) (fs := [.null, .null, .null]) dX10_init_64 rfl ⟨twc_174, twc_175, twc_37⟩ rfl inw_X1 tyX1 tyX1_ok (by decide) (fun _ => rfl) rfl (by decide) ⟨by decide, by decide⟩ ?_
  show Gc _ _ _ 40 315 67 _ _ 41 (wc dl41)
  refine c_dup (npc := 68) dX10_init_67 rfl rfl ?_
  refine c_aload_n (npc := 69) dX10_init_68 rfl rfl rfl ?_
  refine c_get (npc := 72) (f := 0) (k := 0) (v := .ref 1) (fs := [.ref 1, .ref 15, .ref 17, .ref 31, .ref 37, .null, .null, .null, .null, .null, .null, .null]) dX10_init_69 rfl rfl rfl inw_X10 (by decide) twc_270 rfl rfl ?_
  refine c_aload_n (npc := 73) dX10_init_72 rfl rfl rfl ?_
  refine c_get (npc := 76) (f := 4) (k := 0) (v := .ref 37) (fs := [.ref 1, .ref 15, .ref 17, .ref 31, .ref 37, .null, .null, .null, .null, .null, .null, .null]) dX10_init_73 rfl rfl rfl inw_X10 (by decide) twc_274 rfl rfl ?_
  refine c_callI (npc := 79) (as := [.ref 1, .ref 37]) (k := 40) dX10_init_76 rfl rfl ⟨twc_176, twc_37, twc_177, twc_178⟩ ⟨by decide, by decide, by decide +kernel⟩ rfl rfl (Nat.le_of_ble_eq_true rfl) ⟨by decide, by decide⟩ ⟨by decide, by decide⟩ n_Fi_init ?_
  show Gc _ _ _ 41 323 79 _ _ 42 (wc dl45)
  refine c_putF (npc := 82) (f := 5) (k := 0) (fs := [.ref 1, .ref 15, .ref 17, .ref 31, .ref 37, .null, .null, .null, .null, .null, .null, .null]) tyX10 dX10_init_79 rfl rfl (by decide) (Nat.le_of_ble_eq_true rfl) rfl inw_X10 tyX10_ok nmX10 (by decide) twc_275 rfl rfl (fun _ => ⟨rfl, rfl⟩) (by decide) ?_
  show Gc _ _ _ 41 323 82 _ _ 42 (wc dl46)
  refine c_aload_n (npc := 83) dX10_init_82 rfl rfl rfl ?_
  refine c_new (npc := 86) (j := 42) (C := RX5) (T := TX5) (N := 5) (ci := 5) (fs := [.null, .int 0, .null, .null, .int 0]) dX10_init_83 rfl ⟨twc_191, twc_192, twc_38⟩ rfl inw_X5 tyX5 tyX5_ok (by decide) (fun _ => rfl) rfl (by decide) ⟨by decide, by decide⟩ ?_
  show Gc _ _ _ 42 328 86 _ _ 43 (wc dl47)
  refine c_dup (npc := 87) dX10_init_86 rfl rfl ?_
  refine c_aload_n (npc := 88) dX10_init_87 rfl rfl rfl ?_
  refine c_get (npc := 91) (f := 0) (k := 0) (v := .ref 1) (fs := [.ref 1, .ref 15, .ref 17, .ref 31, .ref 37, .ref 40, .null, .null, .null, .null, .null, .null]) dX10_init_88 rfl rfl rfl inw_X10 (by decide) twc_270 rfl rfl ?_
  refine c_callI (npc := 94) (as := [.ref 1]) (k := 42) dX10_init_91 rfl rfl ⟨twc_193, twc_38, twc_194, twc_195⟩ ⟨by decide, by decide, by decide +kernel⟩ rfl rfl (Nat.le_of_ble_eq_true rfl) ⟨by decide, by decide⟩ ⟨by decide, by decide⟩ n_Ma_init ?_
  show Gc _ _ _ 52 416 94 _ _ 53 (wc dl54)
  refine c_putF (npc := 97) (f := 6) (k := 0) (fs := [.ref 1, .ref 15, .ref 17, .ref 31, .ref 37, .ref 40, .null, .null, .null, .null, .null, .null]) tyX10 dX10_init_94 rfl rfl (by decide) (Nat.le_of_ble_eq_true rfl) rfl inw_X10 tyX10_ok nmX10 (by decide) twc_276 rfl rfl (fun _ => ⟨rfl, rfl⟩) (by decide) ?_
  show Gc _ _ _ 52 416 97 _ _ 53 (wc dl55)
  refine c_aload_n (npc := 98) dX10_init_97 rfl rfl rfl ?_
  refine c_new (npc := 101) (j := 53) (C := RX9) (T := TX9) (N := 3) (ci := 8) (fs := [.null, .null, .null]) dX10_init_98 rfl ⟨twc_218, twc_219, twc_39⟩ rfl inw_X9 tyX9 tyX9_ok (by decide) (fun _ => rfl) rfl (by decide) ⟨by decide, by decide⟩ ?_
  show Gc _ _ _ 53 419 101 _ _ 54 (wc dl56)
  refine c_dup (npc := 102) dX10_init_101 rfl rfl ?_
  refine c_aload_n (npc := 103) dX10_init_102 rfl rfl rfl ?_
  refine c_get (npc := 106) (f := 0) (k := 0) (v := .ref 1) (fs := [.ref 1, .ref 15, .ref 17, .ref 31, .ref 37, .ref 40, .ref 42, .null, .null, .null, .null, .null]) dX10_init_103 rfl rfl rfl inw_X10 (by decide) twc_270 rfl rfl ?_
  refine c_aload_n (npc := 107) dX10_init_106 rfl rfl rfl ?_
  refine c_get (npc := 110) (f := 6) (k := 0) (v := .ref 42) (fs := [.ref 1, .ref 15, .ref 17, .ref 31, .ref 37, .ref 40, .ref 42, .null, .null, .null, .null, .null]) dX10_init_107 rfl rfl rfl inw_X10 (by decide) twc_276 rfl rfl ?_
  refine c_callI (npc := 113) (as := [.ref 1, .ref 42]) (k := 53) dX10_init_110 rfl rfl ⟨twc_220, twc_39, twc_221, twc_222⟩ ⟨by decide, by decide, by decide +kernel⟩ rfl rfl (Nat.le_of_ble_eq_true rfl) ⟨by decide, by decide⟩ ⟨by decide, by decide⟩ n_Tr_init ?_
  show Gc _ _ _ 54 427 113 _ _ 55 (wc dl60)
  refine c_putF (npc := 116) (f := 7) (k := 0) (fs := [.ref 1, .ref 15, .ref 17, .ref 31, .ref 37, .ref 40, .ref 42, .null, .null, .null, .null, .null]) tyX10 dX10_init_113 rfl rfl (by decide) (Nat.le_of_ble_eq_true rfl) rfl inw_X10 tyX10_ok nmX10 (by decide) twc_277 rfl rfl (fun _ => ⟨rfl, rfl⟩) (by decide) ?_
  show Gc _ _ _ 54 427 116 _ _ 55 (wc dl61)
  refine c_aload_n (npc := 117) dX10_init_116 rfl rfl rfl ?_
  refine c_new (npc := 120) (j := 55) (C := RX4) (T := TX4) (N := 4) (ci := 4) (fs := [.null, .null, .null, .null]) dX10_init_117 rfl ⟨twc_234, twc_235, twc_40⟩ rfl inw_X4 tyX4 tyX4_ok (by decide) (fun _ => rfl) rfl (by decide) ⟨by decide, by decide⟩ ?_
  show Gc _ _ _ 55 431 120 _ _ 56 (wc dl62)
  refine c_dup (npc := 121) dX10_init_120 rfl rfl ?_
  refine c_aload_n (npc := 122) dX10_init_121 rfl rfl rfl ?_
  refine c_get (npc := 125) (f := 0) (k := 0) (v := .ref 1) (fs := [.ref 1, .ref 15, .ref 17, .ref 31, .ref 37, .ref 40, .ref 42, .ref 53, .null, .null, .null, .null]) dX10_init_122 rfl rfl rfl inw_X10 (by decide) twc_270 rfl rfl ?_
  refine c_callI (npc := 128) (as := [.ref 1]) (k := 55) dX10_init_125 rfl rfl ⟨twc_236, twc_40, twc_237, twc_238⟩ ⟨by decide, by decide, by decide +kernel⟩ rfl rfl (Nat.le_of_ble_eq_true rfl) ⟨by decide, by decide⟩ ⟨by decide, by decide⟩ n_Le_init ?_
  show Gc _ _ _ 186 3524 128 _ _ 187 (wc dl69)
  refine c_putF (npc := 131) (f := 8) (k := 0) (fs := [.ref 1, .ref 15, .ref 17, .ref 31, .ref 37, .ref 40, .ref 42, .ref 53, .null, .null, .null, .null]) tyX10 dX10_init_128 rfl rfl (by decide) (Nat.le_of_ble_eq_true rfl) rfl inw_X10 tyX10_ok nmX10 (by decide) twc_278 rfl rfl (fun _ => ⟨rfl, rfl⟩) (by decide) ?_
  show Gc _ _ _ 186 3524 131 _ _ 187 (wc dl70)
  refine c_aload_n (npc := 132) dX10_init_131 rfl rfl rfl ?_
  refine c_bipush (npc := 134) (x := 8) dX10_init_132 rfl (by decide) ?_
  refine c_newI (npc := 136) (j := 187) (n := 8) dX10_init_134 rfl twc_109 (by decide) rfl (by decide) ⟨by decide, by decide⟩ ?_
  show Gc _ _ _ 187 3532 136 _ _ 188 (wc dl71)
  refine c_putF (npc := 139) (f := 9) (k := 0) (fs := [.ref 1, .ref 15, .ref 17, .ref 31, .ref 37, .ref 40, .ref 42, .ref 53, .ref 55, .null, .null, .null]) tyX10 dX10_init_136 rfl rfl (by decide) (Nat.le_of_ble_eq_true rfl) rfl inw_X10 tyX10_ok nmX10 (by decide) twc_279 rfl rfl (fun _ => ⟨rfl, rfl⟩) (by decide) ?_
  show Gc _ _ _ 187 3532 139 _ _ 188 (wc dl72)
  refine c_aload_n (npc := 140) dX10_init_139 rfl rfl rfl ?_
  refine c_bipush (npc := 142) (x := 8) dX10_init_140 rfl (by decide) ?_
  refine c_newI (npc := 144) (j := 188) (n := 8) dX10_init_142 rfl twc_109 (by decide) rfl (by decide) ⟨by decide, by decide⟩ ?_
  show Gc _ _ _ 188 3540 144 _ _ 189 (wc dl73)
  refine c_putF (npc := 147) (f := 10) (k := 0) (fs := [.ref 1, .ref 15, .ref 17, .ref 31, .ref 37, .ref 40, .ref 42, .ref 53, .ref 55, .ref 187, .null, .null]) tyX10 dX10_init_144 rfl rfl (by decide) (Nat.le_of_ble_eq_true rfl) rfl inw_X10 tyX10_ok nmX10 (by decide) twc_280 rfl rfl (fun _ => ⟨rfl, rfl⟩) (by decide) ?_
  show Gc _ _ _ 188 3540 147 _ _ 189 (wc dl74)
  refine c_aload_n (npc := 148) dX10_init_147 rfl rfl rfl ?_
  refine c_bipush (npc := 150) (x := 8) dX10_init_148 rfl (by decide) ?_
  refine c_newI (npc := 152) (j := 189) (n := 8) dX10_init_150 rfl twc_109 (by decide) rfl (by decide) ⟨by decide, by decide⟩ ?_
  show Gc _ _ _ 189 3548 152 _ _ 190 (wc dl75)
  refine c_putF (npc := 155) (f := 11) (k := 0) (fs := [.ref 1, .ref 15, .ref 17, .ref 31, .ref 37, .ref 40, .ref 42, .ref 53, .ref 55, .ref 187, .ref 188, .null]) tyX10 dX10_init_152 rfl rfl (by decide) (Nat.le_of_ble_eq_true rfl) rfl inw_X10 tyX10_ok nmX10 (by decide) twc_281 rfl rfl (fun _ => ⟨rfl, rfl⟩) (by decide) ?_
  show Gc _ _ _ 189 3548 155 _ _ 190 (wc dl76)
  have e0 : (wc dl76) = (fun ad cA => wd (SL 0) ad cA iC_s0) := by
    funext ad cA
    rw [iC_last]
    exact dOf_wd iC_z iC_r
  rw [e0]
  refine c_aload_n (npc := 156) dX10_init_155 rfl rfl rfl ?_
  refine c_getw (npc := 159) (f := 0) (k := 0) (v := .ref 1) dX10_init_156 rfl ⟨by decide, rfl, rfl⟩ rfl inw_X10 (by decide) twc_270 rfl rfl ?_
  refine c_iconst (npc := 160) dX10_init_159 rfl ?_
  refine c_sp (npc := 163) (as := [iV 2]) (st := []) (k := 1) dX10_init_160 rfl rfl (by decide) ⟨by decide, rfl⟩ rfl rfl ⟨⟨twc_254, twc_255, twc_256, twc_32, twc_257⟩, rfl, by decide, by decide, by decide +kernel⟩ rfl (by decide) ⟨rfl, rfl⟩ ⟨by decide, by decide⟩ ⟨by decide, by decide⟩ h1 (fun s1 e1 j1 => ?_)
  refine c_aload_n (npc := 164) dX10_init_163 rfl rfl rfl ?_
  refine c_getw (npc := 167) (f := 0) (k := 0) (v := .ref 1) dX10_init_164 rfl ⟨by decide, rfl, rfl⟩ rfl inw_X10 (by decide) twc_270 rfl rfl ?_
  refine c_iconst (npc := 168) dX10_init_167 rfl ?_
  refine c_iconst (npc := 169) dX10_init_168 rfl ?_
  refine c_sp (npc := 172) (as := [iV 0, iV 1]) (st := []) (k := 1) dX10_init_169 rfl rfl (by decide) ⟨by decide, rfl⟩ rfl rfl ⟨⟨twc_258, twc_259, twc_260, twc_32, twc_261⟩, rfl, by decide, by decide, by decide +kernel⟩ rfl (by decide) ⟨rfl, rfl⟩ ⟨by decide, by decide⟩ ⟨by decide, by decide⟩ (h2 _ e1) (fun s2 e2 j2 => ?_)
  exact c_ret dX10_init_172 trivial (fun _ _ => ⟨s2, e2, rfl⟩) ⟨by decide, by decide⟩
