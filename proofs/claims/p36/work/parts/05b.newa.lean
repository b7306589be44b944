/-! CORE 6: rounding up the counters; an array of eight ints is made -/
theorem Go.widen {S : Shp} {M : Mth} {F : Option Value → Sto → Prop} {cs ss cs2 ss2 pc : Nat} {l : List (Nat × Value)} {st : List Value} {s : Sto} (h1 : cs ≤ cs2) (h2 : ss ≤ ss2) (k : Go S M F cs2 ss2 pc l st s) : Go S M F cs ss pc l st s := by
  intro p lc e u m args below meth c D cA ad H locs ls A Z X hP hS hl
  exact W.widen h1 h2 (k p lc e u m args below meth c D cA ad H locs ls A Z X hP hS hl)
/-- a cell becomes zeros -/
def zr (s : Sto) (k : Nat) : Sto := fun k' i' => if k' = k then 0 else s k' i'
theorem zr_eq (s : Sto) (k i : Nat) : zr s k k i = 0 := if_pos rfl
theorem zr_ne {s : Sto} {k k' i : Nat} (h : k' ≠ k) : zr s k k' i = s k' i := if_neg h
theorem fI_nr (Q : Int → Sto → Prop) : ∀ r s', fI Q r s' → ∀ k : Nat, r ≠ some (.ref k) := by
  intro r s' ⟨x, h, _⟩ k e
  rw [h] at e
  cases e
def adq (ad : Nat → Nat) (k0 q : Nat) : Nat → Nat := fun k => if k = k0 then q else ad k
theorem tv_adq {ad : Nat → Nat} {k0 q : Nat} {v : Value} (h : v ≠ .ref k0) : tv (adq ad k0 q) v = tv ad v := by
  cases v with
  | ref k =>
    have : k ≠ k0 := fun e => h (by rw [e])
    simp [tv, adq, this]
  | _ => rfl
theorem ts_adq {ad : Nat → Nat} {k0 q : Nat} {st : List Value} (h : ∀ v ∈ st, v ≠ .ref k0) : ts (adq ad k0 q) st = ts ad st := by
  apply List.map_congr_left
  intro v hv
  exact tv_adq (h v hv)
theorem tl_adq {ad : Nat → Nat} {k0 q : Nat} {l : List (Nat × Value)} (h : ∀ v ∈ l, v.2 ≠ .ref k0) : tl (adq ad k0 q) l = tl ad l := by
  apply List.map_congr_left
  intro v hv
  rw [tv_adq (h v hv)]
theorem getD_lt {l : List (Option Nat)} {i j : Nat} (hl : l.all (fun o => o.all (fun j => j < 190)) = true) (h : l.getD i none = some j) : j < 190 := by
  rw [List.getD_eq_getElem?_getD] at h
  cases hi : l[i]? with
  | none => rw [hi] at h; cases h
  | some o =>
    rw [hi] at h
    have h' : o = some j := h
    have hm := List.all_eq_true.mp hl o (List.mem_of_getElem? hi)
    rw [h'] at hm
    simpa using hm
theorem if_lt {i c b j : Nat} (hc : b + c ≤ 190) (h : (if i < c then some (b + i) else none) = some j) : j < 190 := by
  by_cases hi : i < c
  · rw [if_pos hi] at h; have := Option.some.inj h; omega
  · rw [if_neg hi] at h; cases h
theorem rSC_lt {k i j : Nat} (h : rSC k i = some j) : j < 190 := by
  unfold rSC at h
  split at h <;> first | exact getD_lt (by decide) h | exact if_lt (by decide) h | cases h
theorem cE_adq {n : Nat} {ad : Nat → Nat} {cA : Nat → ClassId} {s : Sto} {q k : Nat} (hk : k < 190 + n) : cE (SL (n + 1)) (adq ad (190 + n) q) cA s k = cE (SL n) ad cA s k := by
  have hf : ∀ i, (fr (SL (n + 1)) k i).map (adq ad (190 + n) q) = (fr (SL n) k i).map ad := by
    intro i
    show (rSC k i).map _ = (rSC k i).map _
    cases h : rSC k i with
    | none => rfl
    | some j =>
      have := rSC_lt h
      show some (adq ad (190 + n) q j) = some (ad j)
      unfold adq
      rw [if_neg (by omega)]
  have hv : fV (SL (n + 1)) (adq ad (190 + n) q) s k = fV (SL n) ad s k := by
    funext i
    show (match rSC k i with | some j => Value.ref (adq ad (190 + n) q j) | none => .int (Int32.ofInt (s k i))) = (match rSC k i with | some j => Value.ref (ad j) | none => .int (Int32.ofInt (s k i)))
    cases h : rSC k i with
    | none => rfl
    | some j =>
      have := rSC_lt h
      show Value.ref (adq ad (190 + n) q j) = .ref (ad j)
      unfold adq
      rw [if_neg (by omega)]
  have h1 : kd (SL (n + 1)) k = kd (SL n) k := rfl
  have h2 : ln (SL (n + 1)) k = ln (SL n) k := rfl
  have h3 : ci (SL (n + 1)) k = ci (SL n) k := rfl
  unfold cE
  rw [hv, h1, h2, h3]
  simp only [hf]
theorem cE_zr {S : Shp} {ad : Nat → Nat} {cA : Nat → ClassId} {s : Sto} {k0 k : Nat} (h : k ≠ k0) : cE S ad cA (zr s k0) k = cE S ad cA s k := by
  have e : ∀ i', zr s k0 k i' = s k i' := fun i' => zr_ne h
  have e2 : fV S ad (zr s k0) k = fV S ad s k := by
    funext i'
    unfold fV
    cases fr S k i' with
    | some _ => rfl
    | none => simp [e]
  unfold cE
  simp only [e, e2]
theorem wd_adq {n : Nat} {ad : Nat → Nat} {cA : Nat → ClassId} {s : Sto} {q : Nat} : wd (SL (n + 1)) (adq ad (190 + n) q) cA s = wd (SL n) ad cA s ++ [(q, cE (SL (n + 1)) (adq ad (190 + n) q) cA s (190 + n))] := by
  have hn : nc (SL (n + 1)) = nc (SL n) + 1 := rfl
  unfold wd
  rw [hn, List.range_succ, List.map_append]
  congr 1
  · apply List.map_congr_left
    intro k hk
    have hk' : k < 190 + n := List.mem_range.mp hk
    show (adq ad (190 + n) q k, _) = _
    rw [cE_adq hk', show adq ad (190 + n) q k = ad k from if_neg (by omega)]
  · show [(adq ad (190 + n) q (190 + n), _)] = _
    rw [show adq ad (190 + n) q (190 + n) = q from if_pos rfl]
    rfl
def nrf (k : Nat) (v : Value) : Bool := match v with
  | .ref a => a != k
  | _ => true
theorem nrf_ne {k : Nat} {v : Value} (h : nrf k v = true) : v ≠ .ref k := by
  intro e
  rw [e] at h
  simp [nrf] at h
theorem g_newI {n cs ss pc npc : Nat} {M : Mth} {F : Option Value → Sto → Prop} {l : List (Nat × Value)} {st : List Value} {s : Sto} (hd : decode M.1 pc = .ok (.newarray .int, 2)) (hn : pc + 2 = npc) (hw : Cond.arrayClass .int ∈ TW) (hn9 : n < 100) (hR : cs + 1 ≤ M.2.2.2.2.cells ∧ ss + 8 ≤ M.2.2.2.2.slots) (hF : ∀ r s', F r s' → ∀ k : Nat, r ≠ some (.ref k)) (hl8 : l.all (fun q => nrf (190 + n) q.2) = true) (hs8 : st.all (nrf (190 + n)) = true)
    (k : Go (SL (n + 1)) M F (cs + 1) (ss + 8) npc l (.ref (190 + n) :: st) (zr s (190 + n))) : Go (SL n) M F cs ss pc l (iV 8 :: st) s := by
  subst hn
  have hl9 : ∀ q ∈ l, q.2 ≠ .ref (190 + n) := fun q hq => nrf_ne (List.all_eq_true.mp hl8 q hq)
  have hs9 : ∀ v ∈ st, v ≠ .ref (190 + n) := fun v hv => nrf_ne (List.all_eq_true.mp hs8 v hv)
  intro p lc e u m args below meth c D cA ad H locs ls A Z X hP hS hl
  obtain ⟨hx, hb, hret, hml, hown, hts, hlk, hK, hDJ, hN, hXS, hA, hA2, hRet⟩ := X
  refine va_newaK (N := 8) hx hb (atype := .int) (hts _ hw) rfl hd rfl (by decide) rfl (by decide) hR.1 hR.2 rfl fun H1 cA' e1 z1 o1 hAr hNm => ?_
  have hcA : cA' = cA 1 := by
    have h9 : u.vm.findClass ("[" ++ (FieldType.int).toString) = some (cA 1) := (hK.2 0 _ rfl).2
    exact Option.some.inj (hNm.symm.trans h9)
  subst hcA
  have hlt : ∀ k, k < 190 + n → ad k < H.size := fun k hk => (hP k _ (wd_at hk)).lt
  have hk9 : adq ad (190 + n) H.size (190 + n) = H.size := if_pos rfl
  have hko : ∀ k, k ≠ 190 + n → adq ad (190 + n) H.size k = ad k := fun k hk => if_neg hk
  have h20 : adq ad (190 + n) H.size 2000 = ad 2000 := hko 2000 (by omega)
  have hP1 : va_P D vwCl (wd (SL (n + 1)) (adq ad (190 + n) H.size) cA (zr s (190 + n))) H1 := by
    rw [wd_adq]
    have hw : wd (SL n) ad cA (zr s (190 + n)) = wd (SL n) ad cA s := by
      apply List.map_congr_left
      intro k hk
      have hk' : k < 190 + n := List.mem_range.mp hk
      rw [cE_zr (by omega)]
    rw [hw]
    refine (hP.kept (fun k x hx => o1 x.1 ((hP k x hx).lt))).app (fun k x hx => ?_)
    have hz : k < 1 := (List.getElem?_eq_some_iff.mp hx).1
    rw [show k = 0 by omega] at hx
    cases hx
    have hce : cE (SL (n + 1)) (adq ad (190 + n) H.size) cA (zr s (190 + n)) (190 + n) = .inl (cA 1, 8, .inl (fun _ => 0)) := by
      have h := (arX (n := n + 1) (k := 190 + n) (by omega) (by omega))
      unfold cE
      rw [h.2.1, h.2.2.1]
      simp only [zr_eq]
      rfl
    show va_at D vwCl (H.size, cE (SL (n + 1)) (adq ad (190 + n) H.size) cA (zr s (190 + n)) (190 + n)) H1
    rw [hce]
    exact e1
  have := k p lc e u m args below meth c D cA (adq ad (190 + n) H.size) H1 locs ls A Z ⟨hx, hb, hret, hml, hown, hts, hlk, hK, ?_, hN, ?_, ?_, hA2, ?_⟩ hP1 ⟨Nat.le_trans hS.1 (by omega), fun x h1 h2 => (o1 x (Nat.lt_of_lt_of_le h1 hS.1)).trans (hS.2.1 x h1 h2), hS.2.2⟩ (by rw [tl_adq hl9]; exact hl)
  · have es : ts (adq ad (190 + n) H.size) (.ref (190 + n) :: st) = .ref H.size :: ts ad st := by
      show tv _ _ :: ts _ st = _
      rw [ts_adq hs9]
      show Value.ref (adq ad (190 + n) H.size (190 + n)) :: _ = _
      rw [hk9]
    rw [es] at this
    exact this
  · intro i j hi hj eij
    have hi' : i < 190 + n + 1 := hi
    have hj' : j < 190 + n + 1 := hj
    by_cases ci : i = 190 + n
    · by_cases cj : j = 190 + n
      · omega
      · exfalso
        rw [ci, hk9, hko j cj] at eij
        have := hlt j (by omega)
        omega
    · by_cases cj : j = 190 + n
      · exfalso
        rw [cj, hk9, hko i ci] at eij
        have := hlt i (by omega)
        omega
      · rw [hko i ci, hko j cj] at eij
        exact hDJ i j (show i < 190 + n by omega) (show j < 190 + n by omega) eij
  · obtain ⟨L, xs, a1, a2, a3, a4⟩ := hXS
    exact ⟨L, xs, by rw [h20]; exact a1, a2, by rw [h20]; exact a3, by rw [h20]; exact a4⟩
  · intro k hk
    have hk' : k < 190 + n + 1 := hk
    by_cases ck : k = 190 + n
    · rw [ck, hk9]; exact hA2 _ hS.1
    · rw [hko k ck]; exact hA k (show k < 190 + n by omega)
  · intro H' locs' ls' pc' cs' ss' r s' hFr hP' hS' hr hc
    have es : ts (adq ad (190 + n) H.size) r.toList = ts ad r.toList := by
      apply ts_adq
      intro v hv
      cases r with
      | none => cases hv
      | some w =>
        have : v = w := by simpa using hv
        rw [this]
        exact fun e => hF _ _ hFr _ (by rw [e])
    rw [es]
    refine hRet H' locs' ls' pc' cs' ss' r s' hFr (fun k x hx => ?_) hS' hr hc
    rw [wd_adq] at hP'
    have hl := (List.getElem?_eq_some_iff.mp hx).1
    exact hP' k x (by rw [List.getElem?_append_left hl]; exact hx)
