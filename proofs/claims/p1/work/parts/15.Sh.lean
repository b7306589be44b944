/-! blocks of ChipGame$Shapes -/
theorem dX6_draw_0 : decode cX6_draw 0 = .ok (.iload_n 1, 1) := by decide +kernel
theorem dX6_draw_1 : decode cX6_draw 1 = .ok (.tableswitch 121 0 4 #[35, 46, 65, 87, 96], 35) := by decide +kernel
theorem dX6_draw_36 : decode cX6_draw 36 = .ok (.aload_n 0, 1) := by decide +kernel
theorem dX6_draw_37 : decode cX6_draw 37 = .ok (.iconst 0, 1) := by decide +kernel
theorem dX6_draw_38 : decode cX6_draw 38 = .ok (.iload_n 2, 1) := by decide +kernel
theorem dX6_draw_39 : decode cX6_draw 39 = .ok (.iconst 1, 1) := by decide +kernel
theorem dX6_draw_40 : decode cX6_draw 40 = .ok (.isub, 1) := by decide +kernel
theorem dX6_draw_41 : decode cX6_draw 41 = .ok (.invokestatic 28, 3) := by decide +kernel
theorem dX6_draw_44 : decode cX6_draw 44 = .ok (.goto 78, 3) := by decide +kernel
theorem dX6_draw_47 : decode cX6_draw 47 = .ok (.aload_n 0, 1) := by decide +kernel
theorem dX6_draw_48 : decode cX6_draw 48 = .ok (.iconst 0, 1) := by decide +kernel
theorem dX6_draw_49 : decode cX6_draw 49 = .ok (.iload_n 2, 1) := by decide +kernel
theorem dX6_draw_50 : decode cX6_draw 50 = .ok (.iconst 1, 1) := by decide +kernel
theorem dX6_draw_51 : decode cX6_draw 51 = .ok (.isub, 1) := by decide +kernel
theorem dX6_draw_52 : decode cX6_draw 52 = .ok (.invokestatic 28, 3) := by decide +kernel
theorem dX6_draw_55 : decode cX6_draw 55 = .ok (.aload_n 0, 1) := by decide +kernel
theorem dX6_draw_56 : decode cX6_draw 56 = .ok (.iload_n 2, 1) := by decide +kernel
theorem dX6_draw_57 : decode cX6_draw 57 = .ok (.iconst 1, 1) := by decide +kernel
theorem dX6_draw_58 : decode cX6_draw 58 = .ok (.isub, 1) := by decide +kernel
theorem dX6_draw_59 : decode cX6_draw 59 = .ok (.iconst 0, 1) := by decide +kernel
theorem dX6_draw_60 : decode cX6_draw 60 = .ok (.invokevirtual 32, 3) := by decide +kernel
theorem dX6_draw_63 : decode cX6_draw 63 = .ok (.goto 59, 3) := by decide +kernel
theorem dX6_draw_66 : decode cX6_draw 66 = .ok (.iconst 0, 1) := by decide +kernel
theorem dX6_draw_67 : decode cX6_draw 67 = .ok (.istore_n 3, 1) := by decide +kernel
theorem dX6_draw_68 : decode cX6_draw 68 = .ok (.iload_n 3, 1) := by decide +kernel
theorem dX6_draw_69 : decode cX6_draw 69 = .ok (.iload_n 2, 1) := by decide +kernel
theorem dX6_draw_70 : decode cX6_draw 70 = .ok (.if_icmp .ge 15, 3) := by decide +kernel
theorem dX6_draw_73 : decode cX6_draw 73 = .ok (.aload_n 0, 1) := by decide +kernel
theorem dX6_draw_74 : decode cX6_draw 74 = .ok (.iload_n 3, 1) := by decide +kernel
theorem dX6_draw_75 : decode cX6_draw 75 = .ok (.iload_n 2, 1) := by decide +kernel
theorem dX6_draw_76 : decode cX6_draw 76 = .ok (.invokestatic 38, 3) := by decide +kernel
theorem dX6_draw_79 : decode cX6_draw 79 = .ok (.iinc 3 1, 3) := by decide +kernel
theorem dX6_draw_82 : decode cX6_draw 82 = .ok (.goto (-14), 3) := by decide +kernel
theorem dX6_draw_85 : decode cX6_draw 85 = .ok (.goto 37, 3) := by decide +kernel
theorem dX6_draw_88 : decode cX6_draw 88 = .ok (.aload_n 0, 1) := by decide +kernel
theorem dX6_draw_89 : decode cX6_draw 89 = .ok (.iconst 0, 1) := by decide +kernel
theorem dX6_draw_90 : decode cX6_draw 90 = .ok (.iload_n 2, 1) := by decide +kernel
theorem dX6_draw_91 : decode cX6_draw 91 = .ok (.invokestatic 38, 3) := by decide +kernel
theorem dX6_draw_94 : decode cX6_draw 94 = .ok (.goto 28, 3) := by decide +kernel
theorem dX6_draw_97 : decode cX6_draw 97 = .ok (.aload_n 0, 1) := by decide +kernel
theorem dX6_draw_98 : decode cX6_draw 98 = .ok (.iconst 0, 1) := by decide +kernel
theorem dX6_draw_99 : decode cX6_draw 99 = .ok (.iload_n 2, 1) := by decide +kernel
theorem dX6_draw_100 : decode cX6_draw 100 = .ok (.invokestatic 38, 3) := by decide +kernel
theorem dX6_draw_103 : decode cX6_draw 103 = .ok (.aload_n 0, 1) := by decide +kernel
theorem dX6_draw_104 : decode cX6_draw 104 = .ok (.iconst 1, 1) := by decide +kernel
theorem dX6_draw_105 : decode cX6_draw 105 = .ok (.iload_n 2, 1) := by decide +kernel
theorem dX6_draw_106 : decode cX6_draw 106 = .ok (.iconst 1, 1) := by decide +kernel
theorem dX6_draw_107 : decode cX6_draw 107 = .ok (.isub, 1) := by decide +kernel
theorem dX6_draw_108 : decode cX6_draw 108 = .ok (.invokestatic 28, 3) := by decide +kernel
theorem dX6_draw_111 : decode cX6_draw 111 = .ok (.aload_n 0, 1) := by decide +kernel
theorem dX6_draw_112 : decode cX6_draw 112 = .ok (.iload_n 2, 1) := by decide +kernel
theorem dX6_draw_113 : decode cX6_draw 113 = .ok (.iconst 1, 1) := by decide +kernel
theorem dX6_draw_114 : decode cX6_draw 114 = .ok (.isub, 1) := by decide +kernel
theorem dX6_draw_115 : decode cX6_draw 115 = .ok (.iconst 1, 1) := by decide +kernel
theorem dX6_draw_116 : decode cX6_draw 116 = .ok (.invokevirtual 32, 3) := by decide +kernel
theorem dX6_draw_119 : decode cX6_draw 119 = .ok (.goto 3, 3) := by decide +kernel
theorem dX6_draw_122 : decode cX6_draw 122 = .ok (.return_, 1) := by decide +kernel
theorem dX6_drawPath_0 : decode cX6_drawPath 0 = .ok (.iload_n 1, 1) := by decide +kernel
theorem dX6_drawPath_1 : decode cX6_drawPath 1 = .ok (.istore_n 3, 1) := by decide +kernel
theorem dX6_drawPath_2 : decode cX6_drawPath 2 = .ok (.iload_n 3, 1) := by decide +kernel
theorem dX6_drawPath_3 : decode cX6_drawPath 3 = .ok (.iload_n 2, 1) := by decide +kernel
theorem dX6_drawPath_4 : decode cX6_drawPath 4 = .ok (.if_icmp .ge 17, 3) := by decide +kernel
theorem dX6_drawPath_7 : decode cX6_drawPath 7 = .ok (.aload_n 0, 1) := by decide +kernel
theorem dX6_drawPath_8 : decode cX6_drawPath 8 = .ok (.iload_n 3, 1) := by decide +kernel
theorem dX6_drawPath_9 : decode cX6_drawPath 9 = .ok (.iload_n 3, 1) := by decide +kernel
theorem dX6_drawPath_10 : decode cX6_drawPath 10 = .ok (.iconst 1, 1) := by decide +kernel
theorem dX6_drawPath_11 : decode cX6_drawPath 11 = .ok (.iadd, 1) := by decide +kernel
theorem dX6_drawPath_12 : decode cX6_drawPath 12 = .ok (.invokevirtual 32, 3) := by decide +kernel
theorem dX6_drawPath_15 : decode cX6_drawPath 15 = .ok (.iinc 3 1, 3) := by decide +kernel
theorem dX6_drawPath_18 : decode cX6_drawPath 18 = .ok (.goto (-16), 3) := by decide +kernel
theorem dX6_drawPath_21 : decode cX6_drawPath 21 = .ok (.return_, 1) := by decide +kernel
theorem dX6_drawRays_0 : decode cX6_drawRays 0 = .ok (.iload_n 1, 1) := by decide +kernel
theorem dX6_drawRays_1 : decode cX6_drawRays 1 = .ok (.iconst 1, 1) := by decide +kernel
theorem dX6_drawRays_2 : decode cX6_drawRays 2 = .ok (.iadd, 1) := by decide +kernel
theorem dX6_drawRays_3 : decode cX6_drawRays 3 = .ok (.istore_n 3, 1) := by decide +kernel
theorem dX6_drawRays_4 : decode cX6_drawRays 4 = .ok (.iload_n 3, 1) := by decide +kernel
theorem dX6_drawRays_5 : decode cX6_drawRays 5 = .ok (.iload_n 2, 1) := by decide +kernel
theorem dX6_drawRays_6 : decode cX6_drawRays 6 = .ok (.if_icmp .ge 15, 3) := by decide +kernel
theorem dX6_drawRays_9 : decode cX6_drawRays 9 = .ok (.aload_n 0, 1) := by decide +kernel
theorem dX6_drawRays_10 : decode cX6_drawRays 10 = .ok (.iload_n 1, 1) := by decide +kernel
theorem dX6_drawRays_11 : decode cX6_drawRays 11 = .ok (.iload_n 3, 1) := by decide +kernel
theorem dX6_drawRays_12 : decode cX6_drawRays 12 = .ok (.invokevirtual 32, 3) := by decide +kernel
theorem dX6_drawRays_15 : decode cX6_drawRays 15 = .ok (.iinc 3 1, 3) := by decide +kernel
theorem dX6_drawRays_18 : decode cX6_drawRays 18 = .ok (.goto (-14), 3) := by decide +kernel
theorem dX6_drawRays_21 : decode cX6_drawRays 21 = .ok (.return_, 1) := by decide +kernel
abbrev H_Sh_drawPath_2 (Q : Sto → Prop) (x2 : Int) (x3 : Int) (s : Sto) : Prop := Go SC M_Sh_drawPath (fV0 Q) 2 [(0, .ref 1), (2, iV x2), (3, iV x3)] [] s
set_option maxRecDepth 20000 in
theorem b_Sh_drawPath_2 {Q : Sto → Prop} {x2 : Int} {x3 : Int} {s : Sto} (hT : ((-2147483648 ≤ x3 ∧ x3 < 2147483648) ∧ -2147483648 ≤ x2 ∧ x2 < 2147483648) ∧ ((x2 ≤ x3) → Q s) ∧ ((x3 < x2) → ∃ Q3 : Sto → Prop, K_Gr_append x3 (x3 + 1) s Q3 ∧ ∀ s5, Q3 s5 → H_Sh_drawPath_2 Q x2 (x3 + 1) s5)) : H_Sh_drawPath_2 Q x2 x3 s := by
  refine g_iload_n (npc := 3) dX6_drawPath_2 rfl rfl rfl ?_
  refine g_iload_n (npc := 4) dX6_drawPath_3 rfl rfl rfl ?_
  obtain ⟨h1, hTt, hTf⟩ := hT
  refine g_icmp_ge (npc := 7) (tgt := 21) dX6_drawPath_4 rfl (by decide) h1 (fun c2 => ?_) (fun c2 => ?_)
  · replace hT := hTt c2
    exact g_ret dX6_drawPath_21 rfl ⟨rfl, hT⟩
  · replace hT := hTf (Int.not_le.mp c2)
    refine g_aload_n (npc := 8) dX6_drawPath_7 rfl rfl rfl ?_
    refine g_iload_n (npc := 9) dX6_drawPath_8 rfl rfl rfl ?_
    refine g_iload_n (npc := 10) dX6_drawPath_9 rfl rfl rfl ?_
    refine g_iconst (npc := 11) dX6_drawPath_10 rfl ?_
    refine g_iadd (npc := 12) dX6_drawPath_11 rfl ?_
    obtain ⟨Q3, h4, hT⟩ := hT
    refine iv_Sh_32 (npc := 15) dX6_drawPath_12 rfl rfl (Nat.le_of_ble_eq_true rfl) (by decide) h4 (fun s5 e7 => ?_)
    replace hT := hT s5 e7
    refine g_iinc (npc := 18) (y := (x3 + 1)) (l' := [(0, .ref 1), (2, iV x2), (3, iV (x3 + 1))]) dX6_drawPath_15 rfl (by decide) rfl (by omega) rfl ?_
    refine g_goto (npc := 2) dX6_drawPath_18 (by decide) ?_
    exact hT
set_option maxRecDepth 20000 in
theorem e_Sh_drawPath {x1 : Int} {x2 : Int} {s : Sto} {Q : Sto → Prop} (hT : H_Sh_drawPath_2 Q x2 x1 s) : K_Sh_drawPath x1 x2 s Q := by
  refine Sp.body (by decide) (Nat.le_of_ble_eq_true rfl) ?_
  show Go SC M_Sh_drawPath (fV0 Q) 0 [(0, .ref 1), (1, iV x1), (2, iV x2)] [] s
  refine g_iload_n (npc := 1) dX6_drawPath_0 rfl rfl rfl ?_
  refine g_istore_n (npc := 2) (l' := [(0, .ref 1), (1, iV x1), (2, iV x2), (3, iV x1)]) dX6_drawPath_1 rfl rfl (by decide) rfl ?_
  refine Go.lsub [0, 2, 3] rfl ?_
  exact hT
abbrev H_Sh_drawRays_4 (Q : Sto → Prop) (x1 : Int) (x2 : Int) (x3 : Int) (s : Sto) : Prop := Go SC M_Sh_drawRays (fV0 Q) 4 [(0, .ref 1), (1, iV x1), (2, iV x2), (3, iV x3)] [] s
set_option maxRecDepth 20000 in
theorem b_Sh_drawRays_4 {Q : Sto → Prop} {x1 : Int} {x2 : Int} {x3 : Int} {s : Sto} (hT : ((-2147483648 ≤ x3 ∧ x3 < 2147483648) ∧ -2147483648 ≤ x2 ∧ x2 < 2147483648) ∧ ((x2 ≤ x3) → Q s) ∧ ((x3 < x2) → ∃ Q3 : Sto → Prop, K_Gr_append x1 x3 s Q3 ∧ ∀ s5, Q3 s5 → H_Sh_drawRays_4 Q x1 x2 (x3 + 1) s5)) : H_Sh_drawRays_4 Q x1 x2 x3 s := by
  refine g_iload_n (npc := 5) dX6_drawRays_4 rfl rfl rfl ?_
  refine g_iload_n (npc := 6) dX6_drawRays_5 rfl rfl rfl ?_
  obtain ⟨h1, hTt, hTf⟩ := hT
  refine g_icmp_ge (npc := 9) (tgt := 21) dX6_drawRays_6 rfl (by decide) h1 (fun c2 => ?_) (fun c2 => ?_)
  · replace hT := hTt c2
    exact g_ret dX6_drawRays_21 rfl ⟨rfl, hT⟩
  · replace hT := hTf (Int.not_le.mp c2)
    refine g_aload_n (npc := 10) dX6_drawRays_9 rfl rfl rfl ?_
    refine g_iload_n (npc := 11) dX6_drawRays_10 rfl rfl rfl ?_
    refine g_iload_n (npc := 12) dX6_drawRays_11 rfl rfl rfl ?_
    obtain ⟨Q3, h4, hT⟩ := hT
    refine iv_Sh_32 (npc := 15) dX6_drawRays_12 rfl rfl (Nat.le_of_ble_eq_true rfl) (by decide) h4 (fun s5 e7 => ?_)
    replace hT := hT s5 e7
    refine g_iinc (npc := 18) (y := (x3 + 1)) (l' := [(0, .ref 1), (1, iV x1), (2, iV x2), (3, iV (x3 + 1))]) dX6_drawRays_15 rfl (by decide) rfl (by omega) rfl ?_
    refine g_goto (npc := 4) dX6_drawRays_18 (by decide) ?_
    exact hT
set_option maxRecDepth 20000 in
theorem e_Sh_drawRays {x1 : Int} {x2 : Int} {s : Sto} {Q : Sto → Prop} (hT : H_Sh_drawRays_4 Q x1 x2 (x1 + 1) s) : K_Sh_drawRays x1 x2 s Q := by
  refine Sp.body (by decide) (Nat.le_of_ble_eq_true rfl) ?_
  show Go SC M_Sh_drawRays (fV0 Q) 0 [(0, .ref 1), (1, iV x1), (2, iV x2)] [] s
  refine g_iload_n (npc := 1) dX6_drawRays_0 rfl rfl rfl ?_
  refine g_iconst (npc := 2) dX6_drawRays_1 rfl ?_
  refine g_iadd (npc := 3) dX6_drawRays_2 rfl ?_
  refine g_istore_n (npc := 4) (l' := [(0, .ref 1), (1, iV x1), (2, iV x2), (3, iV (x1 + 1))]) dX6_drawRays_3 rfl rfl (by decide) rfl ?_
  exact hT
abbrev H_Sh_draw_68 (Q : Sto → Prop) (x2 : Int) (x3 : Int) (s : Sto) : Prop := Go SC M_Sh_draw (fV0 Q) 68 [(0, .ref 1), (2, iV x2), (3, iV x3)] [] s
set_option maxRecDepth 20000 in
theorem b_Sh_draw_68 {Q : Sto → Prop} {x2 : Int} {x3 : Int} {s : Sto} (hT : ((-2147483648 ≤ x3 ∧ x3 < 2147483648) ∧ -2147483648 ≤ x2 ∧ x2 < 2147483648) ∧ ((x2 ≤ x3) → Q s) ∧ ((x3 < x2) → ∃ Q46 : Sto → Prop, K_Sh_drawRays x3 x2 s Q46 ∧ ∀ s48, Q46 s48 → H_Sh_draw_68 Q x2 (x3 + 1) s48)) : H_Sh_draw_68 Q x2 x3 s := by
  refine g_iload_n (npc := 69) dX6_draw_68 rfl rfl rfl ?_
  refine g_iload_n (npc := 70) dX6_draw_69 rfl rfl rfl ?_
  obtain ⟨h44, hTt, hTf⟩ := hT
  refine g_icmp_ge (npc := 73) (tgt := 85) dX6_draw_70 rfl (by decide) h44 (fun c45 => ?_) (fun c45 => ?_)
  · replace hT := hTt c45
    refine g_goto (npc := 122) dX6_draw_85 (by decide) ?_
    exact g_ret dX6_draw_122 rfl ⟨rfl, hT⟩
  · replace hT := hTf (Int.not_le.mp c45)
    refine g_aload_n (npc := 74) dX6_draw_73 rfl rfl rfl ?_
    refine g_iload_n (npc := 75) dX6_draw_74 rfl rfl rfl ?_
    refine g_iload_n (npc := 76) dX6_draw_75 rfl rfl rfl ?_
    obtain ⟨Q46, h47, hT⟩ := hT
    refine iv_Sh_38 (npc := 79) dX6_draw_76 rfl rfl (Nat.le_of_ble_eq_true rfl) (by decide) h47 (fun s48 e50 => ?_)
    replace hT := hT s48 e50
    refine g_iinc (npc := 82) (y := (x3 + 1)) (l' := [(0, .ref 1), (2, iV x2), (3, iV (x3 + 1))]) dX6_draw_79 rfl (by decide) rfl (by omega) rfl ?_
    refine g_goto (npc := 68) dX6_draw_82 (by decide) ?_
    exact hT
set_option maxRecDepth 20000 in
theorem e_Sh_draw {x1 : Int} {x2 : Int} {s : Sto} {Q : Sto → Prop} (hT : (-2147483648 ≤ x1 ∧ x1 < 2147483648) ∧ (x1 = 0 → ∃ Q2 : Sto → Prop, K_Sh_drawPath 0 (x2 - 1) s Q2 ∧ ∀ s4, Q2 s4 → Q s4) ∧ (x1 = 1 → ∃ Q7 : Sto → Prop, K_Sh_drawPath 0 (x2 - 1) s Q7 ∧ ∀ s9, Q7 s9 → ∃ Q12 : Sto → Prop, K_Gr_append (x2 - 1) 0 s9 Q12 ∧ ∀ s14, Q12 s14 → Q s14) ∧ (x1 = 2 → H_Sh_draw_68 Q x2 0 s) ∧ (x1 = 3 → ∃ Q17 : Sto → Prop, K_Sh_drawRays 0 x2 s Q17 ∧ ∀ s19, Q17 s19 → Q s19) ∧ (x1 = 4 → ∃ Q22 : Sto → Prop, K_Sh_drawRays 0 x2 s Q22 ∧ ∀ s24, Q22 s24 → ∃ Q27 : Sto → Prop, K_Sh_drawPath 1 (x2 - 1) s24 Q27 ∧ ∀ s29, Q27 s29 → ∃ Q32 : Sto → Prop, K_Gr_append (x2 - 1) 1 s29 Q32 ∧ ∀ s34, Q32 s34 → Q s34) ∧ ((x1 < 0 ∨ 4 < x1) → Q s)) : K_Sh_draw x1 x2 s Q := by
  refine Sp.body (by decide) (Nat.le_of_ble_eq_true rfl) ?_
  show Go SC M_Sh_draw (fV0 Q) 0 [(0, .ref 1), (1, iV x1), (2, iV x2)] [] s
  refine g_iload_n (npc := 1) dX6_draw_0 rfl rfl rfl ?_
  obtain ⟨h1, hs37, hs38, hs39, hs40, hs41, hs42⟩ := hT
  rcases (show x1 = 0 ∨ x1 = 1 ∨ x1 = 2 ∨ x1 = 3 ∨ x1 = 4 ∨ (x1 < 0 ∨ 4 < x1) from by omega) with c43 | c43 | c43 | c43 | c43 | c43
  · replace hT := hs37 c43
    refine g_tabIn (j := 0) (tgt := 36) dX6_draw_1 h1 (by omega) (by omega) rfl (by decide) ?_
    refine g_aload_n (npc := 37) dX6_draw_36 rfl rfl rfl ?_
    refine g_iconst (npc := 38) dX6_draw_37 rfl ?_
    refine g_iload_n (npc := 39) dX6_draw_38 rfl rfl rfl ?_
    refine g_iconst (npc := 40) dX6_draw_39 rfl ?_
    refine g_isub (npc := 41) dX6_draw_40 rfl ?_
    obtain ⟨Q2, h3, hT⟩ := hT
    refine iv_Sh_28 (npc := 44) dX6_draw_41 rfl rfl (Nat.le_of_ble_eq_true rfl) (by decide) h3 (fun s4 e6 => ?_)
    replace hT := hT s4 e6
    refine g_goto (npc := 122) dX6_draw_44 (by decide) ?_
    exact g_ret dX6_draw_122 rfl ⟨rfl, hT⟩
  · replace hT := hs38 c43
    refine g_tabIn (j := 1) (tgt := 47) dX6_draw_1 h1 (by omega) (by omega) rfl (by decide) ?_
    refine g_aload_n (npc := 48) dX6_draw_47 rfl rfl rfl ?_
    refine g_iconst (npc := 49) dX6_draw_48 rfl ?_
    refine g_iload_n (npc := 50) dX6_draw_49 rfl rfl rfl ?_
    refine g_iconst (npc := 51) dX6_draw_50 rfl ?_
    refine g_isub (npc := 52) dX6_draw_51 rfl ?_
    obtain ⟨Q7, h8, hT⟩ := hT
    refine iv_Sh_28 (npc := 55) dX6_draw_52 rfl rfl (Nat.le_of_ble_eq_true rfl) (by decide) h8 (fun s9 e11 => ?_)
    replace hT := hT s9 e11
    refine g_aload_n (npc := 56) dX6_draw_55 rfl rfl rfl ?_
    refine g_iload_n (npc := 57) dX6_draw_56 rfl rfl rfl ?_
    refine g_iconst (npc := 58) dX6_draw_57 rfl ?_
    refine g_isub (npc := 59) dX6_draw_58 rfl ?_
    refine g_iconst (npc := 60) dX6_draw_59 rfl ?_
    obtain ⟨Q12, h13, hT⟩ := hT
    refine iv_Sh_32 (npc := 63) dX6_draw_60 rfl rfl (Nat.le_of_ble_eq_true rfl) (by decide) h13 (fun s14 e16 => ?_)
    replace hT := hT s14 e16
    refine g_goto (npc := 122) dX6_draw_63 (by decide) ?_
    exact g_ret dX6_draw_122 rfl ⟨rfl, hT⟩
  · replace hT := hs39 c43
    refine g_tabIn (j := 2) (tgt := 66) dX6_draw_1 h1 (by omega) (by omega) rfl (by decide) ?_
    refine g_iconst (npc := 67) dX6_draw_66 rfl ?_
    refine g_istore_n (npc := 68) (l' := [(0, .ref 1), (1, iV x1), (2, iV x2), (3, iV 0)]) dX6_draw_67 rfl rfl (by decide) rfl ?_
    refine Go.lsub [0, 2, 3] rfl ?_
    exact hT
  · replace hT := hs40 c43
    refine g_tabIn (j := 3) (tgt := 88) dX6_draw_1 h1 (by omega) (by omega) rfl (by decide) ?_
    refine g_aload_n (npc := 89) dX6_draw_88 rfl rfl rfl ?_
    refine g_iconst (npc := 90) dX6_draw_89 rfl ?_
    refine g_iload_n (npc := 91) dX6_draw_90 rfl rfl rfl ?_
    obtain ⟨Q17, h18, hT⟩ := hT
    refine iv_Sh_38 (npc := 94) dX6_draw_91 rfl rfl (Nat.le_of_ble_eq_true rfl) (by decide) h18 (fun s19 e21 => ?_)
    replace hT := hT s19 e21
    refine g_goto (npc := 122) dX6_draw_94 (by decide) ?_
    exact g_ret dX6_draw_122 rfl ⟨rfl, hT⟩
  · replace hT := hs41 c43
    refine g_tabIn (j := 4) (tgt := 97) dX6_draw_1 h1 (by omega) (by omega) rfl (by decide) ?_
    refine g_aload_n (npc := 98) dX6_draw_97 rfl rfl rfl ?_
    refine g_iconst (npc := 99) dX6_draw_98 rfl ?_
    refine g_iload_n (npc := 100) dX6_draw_99 rfl rfl rfl ?_
    obtain ⟨Q22, h23, hT⟩ := hT
    refine iv_Sh_38 (npc := 103) dX6_draw_100 rfl rfl (Nat.le_of_ble_eq_true rfl) (by decide) h23 (fun s24 e26 => ?_)
    replace hT := hT s24 e26
    refine g_aload_n (npc := 104) dX6_draw_103 rfl rfl rfl ?_
    refine g_iconst (npc := 105) dX6_draw_104 rfl ?_
    refine g_iload_n (npc := 106) dX6_draw_105 rfl rfl rfl ?_
    refine g_iconst (npc := 107) dX6_draw_106 rfl ?_
    refine g_isub (npc := 108) dX6_draw_107 rfl ?_
    obtain ⟨Q27, h28, hT⟩ := hT
    refine iv_Sh_28 (npc := 111) dX6_draw_108 rfl rfl (Nat.le_of_ble_eq_true rfl) (by decide) h28 (fun s29 e31 => ?_)
    replace hT := hT s29 e31
    refine g_aload_n (npc := 112) dX6_draw_111 rfl rfl rfl ?_
    refine g_iload_n (npc := 113) dX6_draw_112 rfl rfl rfl ?_
    refine g_iconst (npc := 114) dX6_draw_113 rfl ?_
    refine g_isub (npc := 115) dX6_draw_114 rfl ?_
    refine g_iconst (npc := 116) dX6_draw_115 rfl ?_
    obtain ⟨Q32, h33, hT⟩ := hT
    refine iv_Sh_32 (npc := 119) dX6_draw_116 rfl rfl (Nat.le_of_ble_eq_true rfl) (by decide) h33 (fun s34 e36 => ?_)
    replace hT := hT s34 e36
    refine g_goto (npc := 122) dX6_draw_119 (by decide) ?_
    exact g_ret dX6_draw_122 rfl ⟨rfl, hT⟩
  · replace hT := hs42 c43
    refine g_tabOut (tgt := 122) dX6_draw_1 h1 c43 (by decide) ?_
    exact g_ret dX6_draw_122 rfl ⟨rfl, hT⟩
