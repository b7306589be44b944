/-! rows of rows, made at once (the first theorem is the printed one) -/
theorem vr_outer (c : ClassId) (N h0 : Nat) : ∀ i : Nat, Jvm.Free.Multi.outerC c N h0 i = arrV c N (fun j => va_rf (if j < i then some (h0 + 1 + j) else none))
  | 0 => by
    show ({ cls := c, slots := Array.replicate N .null, vm := .none } : Cell) = _
    rw [arrV_new]
    refine congrArg (arrV c N) (funext fun j => ?_)
    simp [va_rf]
  | i + 1 => by
    show (Jvm.Free.Multi.outerC c N h0 i).setSlot i (.ref (h0 + 1 + i)) = _
    rw [vr_outer c N h0 i, arrV_store]
    refine congrArg (arrV c N) (funext fun j => ?_)
    by_cases e : j = i
    · subst e
      simp [updV, va_rf]
    · by_cases h : j < i
      · simp [updV, e, h, Nat.lt_succ_of_lt h]
      · simp [updV, e, h, show ¬ j < i + 1 by omega]
theorem c_mna5 {M : Mth} {jf : Nat → Prop} {cs ss pc npc j n k2 idx : Nat} {Wf : (Nat → Nat) → (Nat → ClassId) → va_W → Prop} {Ds : List Dc} {l : List (Nat × Value)} {st : List Value} (hd : decode M.1 pc = .ok (.multianewarray idx 2, 4)) (hn : pc + 4 = npc) (hw : Cond.classLink M.2.1 idx "[[I" ∈ TW ∧ Cond.arrayClass .int ∈ TW) (hnn : n < 1000) (hkk : k2 < 1000) (hj : Ds.length = j) (hlt : j + n < 999) (hR : cs + (1 + n) ≤ M.2.2.2.2.cells ∧ ss + (n + n * k2) ≤ M.2.2.2.2.slots)
    (k : Gc M jf Wf (cs + 1 + n) (ss + n + n * k2) npc l (.ref j :: st) (j + 1 + n) (wc (Ds ++ ((5, n, [.ref (j + 1)]) :: List.replicate n (1, k2, []))))) : Gc M jf Wf cs ss pc l (iV (k2 : Int) :: iV (n : Int) :: st) j (wc Ds) := by
  subst hn hj
  intro p lc e u m args below meth c D cA ad b H locs ls X hz hP hS hl
  obtain ⟨hx, hb, hr, hml, hown, hts, hlk, hK, hN, hin, hbu, hB, hXS⟩ := X
  obtain ⟨w1, w3⟩ := hw
  have en : ∀ z : Nat, z < 1000 → (Int32.ofInt (z : Int)).toInt = (z : Int) := fun z hz => ofInt_toInt32 (by omega)
  have en2 : ∀ z : Nat, z < 1000 → (Int32.ofInt (z : Int)).toNatClampNeg = z := fun z hz => by show (Int32.ofInt (z : Int)).toInt.toNat = z; rw [en z hz]; omega
  have en3 : ∀ z : Nat, z < 1000 → ¬ Int32.ofInt (z : Int) < 0 := fun z hz => by rw [Int32.lt_iff_toInt_lt, en z hz]; show ¬ (z : Int) < 0; omega
  intro T hT Y
  obtain ⟨vm₁, c5, comp, hWm, fA, fC, hO, hI, X', step⟩ := Y.multianewarray2F hx (own := M.2.1) (index := idx) (ty := .int) hown (hts _ w1) ((ao_vm rfl).trans hN.2.1) (hts _ w3) (g := F0 m pc ls (.int (Int32.ofInt (k2 : Int)) :: .int (Int32.ofInt (n : Int)) :: ts ad st)) rfl (by rw [hb]; exact hd) rfl (en3 n hnn) (en3 k2 hkk) (by rw [en2 n hnn]; omega) (by rw [en2 k2 hkk]; show k2 * 4 ≤ _; omega) (by rw [en2 k2 hkk]; omega) rfl rfl (by rw [en2 n hnn]; exact hR.1) (by rw [en2 n hnn, en2 k2 hkk]; exact hR.2)
  rw [en2 n hnn, en2 k2 hkk] at X' step
  have h5 : c5 = cA 5 := by
    have h9 : u.vm.findClass ("[" ++ (FieldType.array .int).toString) = some (cA 5) := (hK.2 4 _ rfl).2
    exact Option.some.inj (fA.symm.trans h9)
  have h1 : comp = cA 1 := by
    have h9 : u.vm.findClass ("[" ++ (FieldType.int).toString) = some (cA 1) := (hK.2 0 _ rfl).2
    exact Option.some.inj (fC.symm.trans h9)
  subst h5 h1
  have hTh : (T.setVm vm₁).heap = H := hT
  have hTs : (T.setVm vm₁).heap.size = b + Ds.length := by rw [hTh]; exact hz
  obtain ⟨f1, f2, -, -⟩ := Jvm.Free.Multi.fill_facts (T.setVm vm₁) (cA 5) (cA 1) n k2 (defaultValue .int) n
  have hold := fun (x : Nat) (hx : x < (T.setVm vm₁).heap.size) => Jvm.Free.Multi.fill_old (T.setVm vm₁) (cA 5) (cA 1) n k2 (defaultValue .int) (a := x) hx n
  have hrow := fun (i : Nat) (hi : i < n) => Jvm.Free.Multi.fill_inner (T.setVm vm₁) (cA 5) (cA 1) n k2 (defaultValue .int) n i hi
  generalize hF : Jvm.Free.Multi.fill (T.setVm vm₁) (cA 5) (cA 1) n k2 (defaultValue .int) n = F at X' step f1 f2 hold hrow
  rw [hTs] at f1 f2 hrow
  have hP1 : va_P D vwCl (wc (Ds ++ ((5, n, [.ref (Ds.length + 1)]) :: List.replicate n (1, k2, []))) ad cA) F.heap := by
    intro i x hx
    rw [wc_at] at hx
    by_cases hi : i < Ds.length
    · rw [List.getElem?_append_left hi, ← wc_at] at hx
      exact (hP i x hx).kept (by have := (hP i x hx).lt; rw [hold x.1 (by rw [hTh]; exact this), hTh])
    · rw [List.getElem?_append_right (by omega)] at hx
      by_cases h0 : i = Ds.length
      · subst h0
        rw [Nat.sub_self] at hx
        cases hx
        show F.heap[ad Ds.length]? = some (vp_cell (cA 5) (n, .inr (.inr (.inr (.inr (eR ad n [.ref (Ds.length + 1)]))))))
        rw [hB _ (by omega), f2, vr_outer, vp_cell_q]
        congr 2
        funext q
        show va_rf (if q < n then some (b + Ds.length + 1 + q) else none) = va_rf (if q < n then some (ad (Ds.length + 1 + q)) else none)
        by_cases hq : q < n
        · rw [if_pos hq, if_pos hq, hB _ (by omega)]
          congr 2
          omega
        · rw [if_neg hq, if_neg hq]
      · obtain ⟨q, rfl⟩ : ∃ q, i = Ds.length + 1 + q := ⟨i - Ds.length - 1, by omega⟩
        rw [show Ds.length + 1 + q - Ds.length = q + 1 by omega, List.getElem?_cons_succ] at hx
        by_cases hq : q < n
        · rw [List.getElem?_replicate_of_lt hq] at hx
          cases hx
          show F.heap[ad (Ds.length + 1 + q)]? = some (vp_cell (cA 1) (k2, .inl (fun _ => 0)))
          rw [hB _ (by omega), show b + (Ds.length + 1 + q) = b + Ds.length + 1 + q by omega, hrow q hq]
          congr 1
          exact arrV_new _ _ _
        · rw [List.getElem?_eq_none (by simp; omega)] at hx
          cases hx
  have hS1 : va_S (fun q => b ≤ q) u.heap F.heap locs := ⟨Nat.le_trans hS.1 (by rw [f1, hz]; omega), fun x h1 h2 => by
    have : x < H.size := by have := hS.1; omega
    rw [hold x (by rw [hTh]; exact this), hTh]
    exact hS.2.1 x h1 h2, hS.2.2⟩
  obtain ⟨t, a1, b1⟩ := k p lc e u m args below meth c D cA ad b F.heap locs ls ⟨hx, hb, hr, hml, hown, hts, hlk, hK, hN, hin, hbu, hB, hXS⟩ (by rw [f1]; omega) hP1 hS1 hl F rfl X'
  refine ⟨t, step t ?_, b1⟩
  have e9 : ts ad (.ref Ds.length :: st) = .ref T.heap.size :: ts ad st := by
    show Value.ref (ad Ds.length) :: _ = _
    rw [hB _ (by omega), hT, hz]
    rfl
  rw [e9] at a1
  exact a1
theorem c_mna6 {M : Mth} {jf : Nat → Prop} {cs ss pc npc j n k2 idx : Nat} {Wf : (Nat → Nat) → (Nat → ClassId) → va_W → Prop} {Ds : List Dc} {l : List (Nat × Value)} {st : List Value} (hd : decode M.1 pc = .ok (.multianewarray idx 2, 4)) (hn : pc + 4 = npc) (hw : Cond.classLink M.2.1 idx "[[J" ∈ TW ∧ Cond.arrayClass .long ∈ TW) (hnn : n < 1000) (hkk : k2 < 1000) (hj : Ds.length = j) (hlt : j + n < 999) (hR : cs + (1 + n) ≤ M.2.2.2.2.cells ∧ ss + (n + n * k2) ≤ M.2.2.2.2.slots)
    (k : Gc M jf Wf (cs + 1 + n) (ss + n + n * k2) npc l (.ref j :: st) (j + 1 + n) (wc (Ds ++ ((6, n, [.ref (j + 1)]) :: List.replicate n (2, k2, []))))) : Gc M jf Wf cs ss pc l (iV (k2 : Int) :: iV (n : Int) :: st) j (wc Ds) := by
  subst hn hj
  intro p lc e u m args below meth c D cA ad b H locs ls X hz hP hS hl
  obtain ⟨hx, hb, hr, hml, hown, hts, hlk, hK, hN, hin, hbu, hB, hXS⟩ := X
  obtain ⟨w1, w3⟩ := hw
  have en : ∀ z : Nat, z < 1000 → (Int32.ofInt (z : Int)).toInt = (z : Int) := fun z hz => ofInt_toInt32 (by omega)
  have en2 : ∀ z : Nat, z < 1000 → (Int32.ofInt (z : Int)).toNatClampNeg = z := fun z hz => by show (Int32.ofInt (z : Int)).toInt.toNat = z; rw [en z hz]; omega
  have en3 : ∀ z : Nat, z < 1000 → ¬ Int32.ofInt (z : Int) < 0 := fun z hz => by rw [Int32.lt_iff_toInt_lt, en z hz]; show ¬ (z : Int) < 0; omega
  intro T hT Y
  obtain ⟨vm₁, c5, comp, hWm, fA, fC, hO, hI, X', step⟩ := Y.multianewarray2F hx (own := M.2.1) (index := idx) (ty := .long) hown (hts _ w1) ((ao_vm rfl).trans hN.2.2) (hts _ w3) (g := F0 m pc ls (.int (Int32.ofInt (k2 : Int)) :: .int (Int32.ofInt (n : Int)) :: ts ad st)) rfl (by rw [hb]; exact hd) rfl (en3 n hnn) (en3 k2 hkk) (by rw [en2 n hnn]; omega) (by rw [en2 k2 hkk]; show k2 * 8 ≤ _; omega) (by rw [en2 k2 hkk]; omega) rfl rfl (by rw [en2 n hnn]; exact hR.1) (by rw [en2 n hnn, en2 k2 hkk]; exact hR.2)
  rw [en2 n hnn, en2 k2 hkk] at X' step
  have h5 : c5 = cA 6 := by
    have h9 : u.vm.findClass ("[" ++ (FieldType.array .long).toString) = some (cA 6) := (hK.2 5 _ rfl).2
    exact Option.some.inj (fA.symm.trans h9)
  have h1 : comp = cA 2 := by
    have h9 : u.vm.findClass ("[" ++ (FieldType.long).toString) = some (cA 2) := (hK.2 1 _ rfl).2
    exact Option.some.inj (fC.symm.trans h9)
  subst h5 h1
  have hTh : (T.setVm vm₁).heap = H := hT
  have hTs : (T.setVm vm₁).heap.size = b + Ds.length := by rw [hTh]; exact hz
  obtain ⟨f1, f2, -, -⟩ := Jvm.Free.Multi.fill_facts (T.setVm vm₁) (cA 6) (cA 2) n k2 (defaultValue .long) n
  have hold := fun (x : Nat) (hx : x < (T.setVm vm₁).heap.size) => Jvm.Free.Multi.fill_old (T.setVm vm₁) (cA 6) (cA 2) n k2 (defaultValue .long) (a := x) hx n
  have hrow := fun (i : Nat) (hi : i < n) => Jvm.Free.Multi.fill_inner (T.setVm vm₁) (cA 6) (cA 2) n k2 (defaultValue .long) n i hi
  generalize hF : Jvm.Free.Multi.fill (T.setVm vm₁) (cA 6) (cA 2) n k2 (defaultValue .long) n = F at X' step f1 f2 hold hrow
  rw [hTs] at f1 f2 hrow
  have hP1 : va_P D vwCl (wc (Ds ++ ((6, n, [.ref (Ds.length + 1)]) :: List.replicate n (2, k2, []))) ad cA) F.heap := by
    intro i x hx
    rw [wc_at] at hx
    by_cases hi : i < Ds.length
    · rw [List.getElem?_append_left hi, ← wc_at] at hx
      exact (hP i x hx).kept (by have := (hP i x hx).lt; rw [hold x.1 (by rw [hTh]; exact this), hTh])
    · rw [List.getElem?_append_right (by omega)] at hx
      by_cases h0 : i = Ds.length
      · subst h0
        rw [Nat.sub_self] at hx
        cases hx
        show F.heap[ad Ds.length]? = some (vp_cell (cA 6) (n, .inr (.inr (.inr (.inr (eR ad n [.ref (Ds.length + 1)]))))))
        rw [hB _ (by omega), f2, vr_outer, vp_cell_q]
        congr 2
        funext q
        show va_rf (if q < n then some (b + Ds.length + 1 + q) else none) = va_rf (if q < n then some (ad (Ds.length + 1 + q)) else none)
        by_cases hq : q < n
        · rw [if_pos hq, if_pos hq, hB _ (by omega)]
          congr 2
          omega
        · rw [if_neg hq, if_neg hq]
      · obtain ⟨q, rfl⟩ : ∃ q, i = Ds.length + 1 + q := ⟨i - Ds.length - 1, by omega⟩
        rw [show Ds.length + 1 + q - Ds.length = q + 1 by omega, List.getElem?_cons_succ] at hx
        by_cases hq : q < n
        · rw [List.getElem?_replicate_of_lt hq] at hx
          cases hx
          show F.heap[ad (Ds.length + 1 + q)]? = some (vp_cell (cA 2) (k2, .inr (.inl (fun _ => 0))))
          rw [hB _ (by omega), show b + (Ds.length + 1 + q) = b + Ds.length + 1 + q by omega, hrow q hq]
          congr 1
          exact arrV_new _ _ _
        · rw [List.getElem?_eq_none (by simp; omega)] at hx
          cases hx
  have hS1 : va_S (fun q => b ≤ q) u.heap F.heap locs := ⟨Nat.le_trans hS.1 (by rw [f1, hz]; omega), fun x h1 h2 => by
    have : x < H.size := by have := hS.1; omega
    rw [hold x (by rw [hTh]; exact this), hTh]
    exact hS.2.1 x h1 h2, hS.2.2⟩
  obtain ⟨t, a1, b1⟩ := k p lc e u m args below meth c D cA ad b F.heap locs ls ⟨hx, hb, hr, hml, hown, hts, hlk, hK, hN, hin, hbu, hB, hXS⟩ (by rw [f1]; omega) hP1 hS1 hl F rfl X'
  refine ⟨t, step t ?_, b1⟩
  have e9 : ts ad (.ref Ds.length :: st) = .ref T.heap.size :: ts ad st := by
    show Value.ref (ad Ds.length) :: _ = _
    rw [hB _ (by omega), hT, hz]
    rfl
  rw [e9] at a1
  exact a1
