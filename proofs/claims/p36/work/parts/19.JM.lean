/-! blocks of java/lang/Math -/
theorem dJ9_floorMod_f86c9_0 : decode cJ9_floorMod_f86c9 0 = .ok (.lload_n 0, 1) := by decide +kernel
theorem dJ9_floorMod_f86c9_1 : decode cJ9_floorMod_f86c9 1 = .ok (.lload_n 2, 1) := by decide +kernel
theorem dJ9_floorMod_f86c9_2 : decode cJ9_floorMod_f86c9 2 = .ok (.lrem, 1) := by decide +kernel
theorem dJ9_floorMod_f86c9_3 : decode cJ9_floorMod_f86c9 3 = .ok (.lstore 4, 2) := by decide +kernel
theorem dJ9_floorMod_f86c9_5 : decode cJ9_floorMod_f86c9 5 = .ok (.lload_n 0, 1) := by decide +kernel
theorem dJ9_floorMod_f86c9_6 : decode cJ9_floorMod_f86c9 6 = .ok (.lload_n 2, 1) := by decide +kernel
theorem dJ9_floorMod_f86c9_7 : decode cJ9_floorMod_f86c9 7 = .ok (.lxor, 1) := by decide +kernel
theorem dJ9_floorMod_f86c9_8 : decode cJ9_floorMod_f86c9 8 = .ok (.lconst 0, 1) := by decide +kernel
theorem dJ9_floorMod_f86c9_9 : decode cJ9_floorMod_f86c9 9 = .ok (.lcmp, 1) := by decide +kernel
theorem dJ9_floorMod_f86c9_10 : decode cJ9_floorMod_f86c9 10 = .ok (.ifCond .ge 15, 3) := by decide +kernel
theorem dJ9_floorMod_f86c9_13 : decode cJ9_floorMod_f86c9 13 = .ok (.lload 4, 2) := by decide +kernel
theorem dJ9_floorMod_f86c9_15 : decode cJ9_floorMod_f86c9 15 = .ok (.lconst 0, 1) := by decide +kernel
theorem dJ9_floorMod_f86c9_16 : decode cJ9_floorMod_f86c9 16 = .ok (.lcmp, 1) := by decide +kernel
theorem dJ9_floorMod_f86c9_17 : decode cJ9_floorMod_f86c9 17 = .ok (.ifCond .eq 8, 3) := by decide +kernel
theorem dJ9_floorMod_f86c9_20 : decode cJ9_floorMod_f86c9 20 = .ok (.lload 4, 2) := by decide +kernel
theorem dJ9_floorMod_f86c9_22 : decode cJ9_floorMod_f86c9 22 = .ok (.lload_n 2, 1) := by decide +kernel
theorem dJ9_floorMod_f86c9_23 : decode cJ9_floorMod_f86c9 23 = .ok (.ladd, 1) := by decide +kernel
theorem dJ9_floorMod_f86c9_24 : decode cJ9_floorMod_f86c9 24 = .ok (.lreturn, 1) := by decide +kernel
theorem dJ9_floorMod_f86c9_25 : decode cJ9_floorMod_f86c9 25 = .ok (.lload 4, 2) := by decide +kernel
theorem dJ9_floorMod_f86c9_27 : decode cJ9_floorMod_f86c9 27 = .ok (.lreturn, 1) := by decide +kernel
set_option maxRecDepth 20000 in
theorem e_JM_floorMod {n : Nat} {x0 : Int} {x2 : Int} {s : Sto} {Q : Int → Sto → Prop} (hT : (((-9223372036854775808 ≤ x0 ∧ x0 < 9223372036854775808) ∧ -9223372036854775808 ≤ x2 ∧ x2 < 9223372036854775808) ∧ ¬ x2 = 0) ∧ (-9223372036854775808 ≤ (lxor x0 x2) ∧ (lxor x0 x2) < 9223372036854775808) ∧ ((0 ≤ (lxor x0 x2)) → Q (Int.tmod x0 x2) s) ∧ (((lxor x0 x2) < 0) → (-9223372036854775808 ≤ (Int.tmod x0 x2) ∧ (Int.tmod x0 x2) < 9223372036854775808) ∧ (((Int.tmod x0 x2) = 0) → Q (Int.tmod x0 x2) s) ∧ ((¬ (Int.tmod x0 x2) = 0) → Q ((Int.tmod x0 x2) + x2) s))) : K_JM_floorMod n x0 x2 s Q := by
  refine Sp.body (by decide +kernel) (Nat.le_of_ble_eq_true rfl) ?_
  show Go (SL n) M_JM_floorMod (fJ Q) 0 0 0 [(0, jV x0), (2, jV x2)] [] s
  refine g_lload_n (npc := 1) dJ9_floorMod_f86c9_0 rfl rfl rfl ?_
  refine g_lload_n (npc := 2) dJ9_floorMod_f86c9_1 rfl rfl rfl ?_
  obtain ⟨h1, hT⟩ := hT
  refine g_lrem (npc := 3) dJ9_floorMod_f86c9_2 rfl h1.1 h1.2 ?_
  refine g_lstore (npc := 5) (l' := [(0, jV x0), (2, jV x2), (4, jV (Int.tmod x0 x2))]) dJ9_floorMod_f86c9_3 rfl (by decide) rfl ?_
  refine g_lload_n (npc := 6) dJ9_floorMod_f86c9_5 rfl rfl rfl ?_
  refine g_lload_n (npc := 7) dJ9_floorMod_f86c9_6 rfl rfl rfl ?_
  refine g_lxor (npc := 8) dJ9_floorMod_f86c9_7 rfl ?_
  refine g_lconst (npc := 9) (x := 0) dJ9_floorMod_f86c9_8 rfl (by decide) ?_
  obtain ⟨h2, hTt, hTf⟩ := hT
  refine g_lge (pc2 := 10) (npc := 13) (tgt := 25) dJ9_floorMod_f86c9_9 rfl dJ9_floorMod_f86c9_10 rfl (by decide) ⟨h2, by decide, by decide⟩ (fun c3 => ?_) (fun c3 => ?_)
  · replace hT := hTt c3
    refine g_lload (npc := 27) dJ9_floorMod_f86c9_25 rfl rfl ?_
    exact g_lret dJ9_floorMod_f86c9_27 rfl (by decide) ⟨_, rfl, hT⟩
  · replace hT := hTf (Int.not_le.mp c3)
    refine g_lload (npc := 15) dJ9_floorMod_f86c9_13 rfl rfl ?_
    refine g_lconst (npc := 16) (x := 0) dJ9_floorMod_f86c9_15 rfl (by decide) ?_
    obtain ⟨h4, hTt, hTf⟩ := hT
    refine g_leq (pc2 := 17) (npc := 20) (tgt := 25) dJ9_floorMod_f86c9_16 rfl dJ9_floorMod_f86c9_17 rfl (by decide) ⟨h4, by decide, by decide⟩ (fun c5 => ?_) (fun c5 => ?_)
    · replace hT := hTt c5
      refine g_lload (npc := 27) dJ9_floorMod_f86c9_25 rfl rfl ?_
      exact g_lret dJ9_floorMod_f86c9_27 rfl (by decide) ⟨_, rfl, hT⟩
    · replace hT := hTf c5
      refine g_lload (npc := 22) dJ9_floorMod_f86c9_20 rfl rfl ?_
      refine g_lload_n (npc := 23) dJ9_floorMod_f86c9_22 rfl rfl rfl ?_
      refine g_ladd (npc := 24) dJ9_floorMod_f86c9_23 rfl ?_
      exact g_lret dJ9_floorMod_f86c9_24 rfl (by decide) ⟨_, rfl, hT⟩
