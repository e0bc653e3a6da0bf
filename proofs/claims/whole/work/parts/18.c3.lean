set_option maxHeartbeats 4000000 in
set_option maxRecDepth 100000 in
theorem ct_X0_gatherSums (l : Launch) (dC : Nat → ClassId) (dI : Nat → Nat → Nat) (cy : ClassId) (o : Nat) (a : Nat → Nat) (Z X : Nat → Nat → Nat) (sz : Nat) (p : Nat) (x : Nat) (hI : Inv Z) (hp : p < 8) (hx0 : x < 2 ^ 32) : Met l yX0_gatherSums (wS yX0_gatherSums cX0_gatherSums 5 (Option.some Jvm.ClassFile.FieldType.int)) (rmF 4 91) (va_Pc [.ref o, .int (nI p), .int (nI x)] (cS dC dI cy o a Z X sz)) (va_Qi (fun r (u : ST × ST) => r = nI (gN Z p) ∧ u.1 = Z ∧ gat Z (fun w => smS Z w (fun q => x.testBit q)) p (u.2 0) (Z 0 2) (gN Z p)) (cE dC dI cy o a (cA cy o a Z X sz)) (cA cy o a Z X sz)) 0 0 (cA cy o a Z X sz) := by
  refine Met.ofW (cc := cX0_gatherSums) (maxL := 5) (ret := (Option.some Jvm.ClassFile.FieldType.int)) (by decide) rfl ?_
  intro pg en sv mi ag bw mt cd s₁ BL hml hv
  obtain ⟨rfl, hsz, hP, hK, hD0⟩ := hv
  have hx := BL.exec
  have hb := BL.bytes
  have hr := BL.returns
  have hts : ∀ w ∈ lw_ok, w.before _ sv = true := fun w hw => atoms_spec (ws := wS yX0_gatherSums cX0_gatherSums 5 (Option.some Jvm.ClassFile.FieldType.int)) BL.pre w (List.mem_cons_of_mem _ hw)
  have hown : sv.vm.findClass RX0 = some mi.cls := findClass_of_methodNamed BL.named
  have hlocks := BL.notSynchronized
  have fx : CallFix pg mi cd cX0_gatherSums 5 sv _ lw_ok RX0 := ⟨hx, hb, hml, hown, hts⟩
  have hl := lv_entry ([.ref o, .int (nI p), .int (nI x)]) (n := 5) (Nat.le_of_ble_eq_true rfl)
  rw [lg_entry_eq]
  generalize (lg_sl ([.ref o, .int (nI p), .int (nI x)]) ++ List.replicate (5 - (lg_sl ([.ref o, .int (nI p), .int (nI x)])).length) Slot.unset).toArray = ls at hl ⊢
  replace hl : lv_has ls 5 [(0, .ref o), (1, .int (nI p)), (2, .int (nI x))] := hl
  subst hsz
  have hD : va_D (cA cy o a Z X sv.heap.size) (cw cy o a Z X) := hD0.self (sz := sv.heap.size)
  clear hD0
  generalize hAe : cA cy o a Z X sv.heap.size = A at hD ⊢
  have hA : ∀ q : Nat, sv.heap.size ≤ q → A q := fun q h => by rw [← hAe]; exact Or.inr h
  clear hAe
  refine x_start (fun H locs eH eL => ?_)
  replace hP : va_P (dC, dI) vwCl (cw cy o a Z X) H := by rw [eH]; exact hP
  have hS : va_S A sv.heap H locs := by rw [eH, eL]; exact va_S.rf
  clear eH eL
  obtain ⟨b0, b1, b2⟩ := hI.bd
  refine lv_iconst (v := nI 0) hx hb dX0_gatherSums_0 (by decide) ?_
  refine lv_istore_n (lv' := [(3, .int (nI 0)), (0, .ref o), (1, .int (nI p)), (2, .int (nI x))]) hx hb dX0_gatherSums_1 rfl hl (by decide) rfl (fun ls hl => ?_)
  refine lv_iconst (v := nI 0) hx hb dX0_gatherSums_2 (by decide) ?_
  refine lv_istore (lv' := [(4, .int (nI 0)), (3, .int (nI 0)), (0, .ref o), (1, .int (nI p)), (2, .int (nI x))]) hx hb dX0_gatherSums_3 hl (by decide) rfl (fun ls hl => ?_)
  obtain ⟨j, ej⟩ : ∃ j : Nat, j = 0 := ⟨_, rfl⟩
  obtain ⟨n, en⟩ : ∃ n : Nat, n = 0 := ⟨_, rfl⟩
  replace hl : lv_has ls 5 [(4, .int (nI j)), (3, .int (nI n)), (0, .ref o), (1, .int (nI p)), (2, .int (nI x))] := by subst ej en; exact lv_sub hl [0, 1, 2, 3, 4] rfl
  obtain ⟨X1, eX1⟩ : ∃ X1 : Nat → Nat → Nat, X1 = X := ⟨_, rfl⟩
  rw [← eX1] at hP hD
  have hj : j ≤ Z 0 2 := by subst ej en eX1; omega
  have hn : n = fb_ct (fun u => Z 11 u == p) j := by subst ej en eX1; rfl
  have hg : gat Z (fun w => smS Z w (fun q => x.testBit q)) p (X1 0) j n := by subst ej en eX1; exact gat_0 _ _ _ _
  clear ej en eX1
  obtain ⟨n5, hn5⟩ : ∃ n_0 : Nat, Z 0 2 - j < n_0 := ⟨_, Nat.lt_succ_self _⟩
  induction n5 generalizing H locs X1 j n ls with
  | zero => exact absurd hn5 (Nat.not_lt_zero _)
  | succ n5 ih5 =>
    have hnj : n ≤ j := by rw [hn]; exact fb_ct_le _ _
    refine lv_iload hx hb dX0_gatherSums_5 (lv_at hl 0 rfl) ?_
    refine lv_aload_n hx hb dX0_gatherSums_7 rfl (lv_at hl 2 rfl) ?_
    refine c_g2 hx hb hts hown hK hP dX0_gatherSums_8 ?_
    refine x_icmp_ge (x := j) (y := Z 0 2) (tgt := 47) hx hb (by omega) (by omega) dX0_gatherSums_11 (by decide) (fun c_11 => ?_) (fun c_11 => ?_)
    ·
      refine lv_iload_n hx hb dX0_gatherSums_47 rfl (lv_at hl 1 rfl) ?_
      refine W.iret (v := (nI n)) hx hb hr (fun t9 ht9 hW9 => ⟨⟨_, (Z, X1), rfl, ?_, cE_mk ht9 hP hK hW9 hD⟩, hS.F ht9⟩) hS.2.2 dX0_gatherSums_48
      obtain rfl : j = Z 0 2 := by omega
      exact ⟨by rw [hn]; rfl, rfl, by rw [show gN Z p = n from hn.symm]; exact hg⟩
    ·
      have hpu := hI.pu (u := j) (by omega)
      refine lv_aload_n hx hb dX0_gatherSums_14 rfl (lv_at hl 2 rfl) ?_
      refine c_g11 hx hb hts hown hK hP dX0_gatherSums_15 ?_
      refine lv_iload hx hb dX0_gatherSums_18 (lv_at hl 0 rfl) ?_
      refine c_l11 (j := j) hx hb hK hP (by omega) dX0_gatherSums_20 ?_
      refine lv_iload_n hx hb dX0_gatherSums_21 rfl (lv_at hl 3 rfl) ?_
      refine x_icmp_ne (x := Z 11 j) (y := p) (tgt := 41) hx hb (by omega) (by omega) dX0_gatherSums_22 (by decide) (fun c_22 => ?_) (fun c_22 => ?_)
      ·
        refine lv_iinc (v := nI (j + 1)) (lv' := [(4, .int (nI (j + 1))), (3, .int (nI n)), (0, .ref o), (1, .int (nI p)), (2, .int (nI x))]) hx hb dX0_gatherSums_41 hl (k := 0) rfl (x_inc1 _) (by decide) rfl (fun ls hl => ?_)
        refine lv_goto (tgt := 5) hx hb dX0_gatherSums_44 (by decide) ?_
        exact ih5 (H := H) (locs := locs) (ls := ls) (X1 := X1) (j := (j + 1)) (n := n) (hl := lv_sub hl [0, 1, 2, 3, 4] rfl) (hP := hP) (hD := hD) (hS := hS) (hj := (by omega)) (hn := (by rw [fb_ct_succ, ← hn]; simp [c_22])) (hg := (by first | exact gat_no hg c_22 | exact gat_row (gat_yes hg c_22))) (hn5 := by omega)
      ·
        refine lv_aload_n hx hb dX0_gatherSums_25 rfl (lv_at hl 2 rfl) ?_
        refine c_g15 hx hb hts hown hK hP dX0_gatherSums_26 ?_
        refine lv_iload_n hx hb dX0_gatherSums_29 rfl (lv_at hl 1 rfl) ?_
        refine lv_aload_n hx hb dX0_gatherSums_30 rfl (lv_at hl 2 rfl) ?_
        refine lv_iload hx hb dX0_gatherSums_31 (lv_at hl 0 rfl) ?_
        refine lv_iload_n hx hb dX0_gatherSums_33 rfl (lv_at hl 4 rfl) ?_
        refine r_Vi (As := [.int (nI j), .int (nI x)]) (rest := [.int (nI n), .ref (a 15)]) fx (ct_X0_sumOver l dC dI cy o a Z X1 j x hI (by first | assumption | omega) (by first | assumption | omega)) fyX0_sumOver tM_RX0_121 rfl rfl ⟨Nat.le_of_ble_eq_true rfl, Nat.le_of_ble_eq_true rfl⟩ (c_pre hK hP) rfl hl.1 rfl (Nat.le_of_ble_eq_true rfl) dX0_gatherSums_34 ⟨Nat.le_of_ble_eq_true rfl, Nat.le_of_ble_eq_true rfl⟩ (fun r_34 hr_34 => ?_)
        subst hr_34
        refine c_s15 (j := n) (v := smS Z j (fun q => x.testBit q)) hx hb hK hP hD hS (by omega) dX0_gatherSums_37 (fun H locs hP hD hS => ?_)
        refine lv_iinc (v := nI (n + 1)) (lv' := [(3, .int (nI (n + 1))), (4, .int (nI j)), (0, .ref o), (1, .int (nI p)), (2, .int (nI x))]) hx hb dX0_gatherSums_38 hl (k := 1) rfl (x_inc1 _) (by decide) rfl (fun ls hl => ?_)
        refine lv_iinc (v := nI (j + 1)) (lv' := [(4, .int (nI (j + 1))), (3, .int (nI (n + 1))), (0, .ref o), (1, .int (nI p)), (2, .int (nI x))]) hx hb dX0_gatherSums_41 hl (k := 1) rfl (x_inc1 _) (by decide) rfl (fun ls hl => ?_)
        refine lv_goto (tgt := 5) hx hb dX0_gatherSums_44 (by decide) ?_
        exact ih5 (H := H) (locs := locs) (ls := ls) (X1 := (zu X1 0 n (smS Z j (fun q => x.testBit q)))) (j := (j + 1)) (n := (n + 1)) (hl := lv_sub hl [0, 1, 2, 3, 4] rfl) (hP := hP) (hD := hD) (hS := hS) (hj := (by omega)) (hn := (by rw [fb_ct_succ, ← hn]; simp [c_22])) (hg := (by first | exact gat_no hg c_22 | exact gat_row (gat_yes hg c_22))) (hn5 := by omega)

set_option maxHeartbeats 4000000 in
set_option maxRecDepth 100000 in
theorem ct_X0_tallyPlaces (l : Launch) (dC : Nat → ClassId) (dI : Nat → Nat → Nat) (cy : ClassId) (o : Nat) (a : Nat → Nat) (Z X : Nat → Nat → Nat) (sz : Nat) (q : Nat) (hI : Inv Z) (hq : q < Z 0 0) : Met l yX0_tallyPlaces (wS yX0_tallyPlaces cX0_tallyPlaces 4 (Option.none : Option Jvm.ClassFile.FieldType)) (rmF 4 89) (va_Pc [.ref o, .int (nI q)] (cS dC dI cy o a Z X sz)) (va_Qv (fun (u : ST × ST) => u.1 = Z ∧ tal Z q u.2 (Z 0 2)) (cE dC dI cy o a (cA cy o a Z X sz)) (cA cy o a Z X sz)) 0 0 (cA cy o a Z X sz) := by
  refine Met.ofW (cc := cX0_tallyPlaces) (maxL := 4) (ret := (Option.none : Option Jvm.ClassFile.FieldType)) (by decide) rfl ?_
  intro pg en sv mi ag bw mt cd s₁ BL hml hv
  obtain ⟨rfl, hsz, hP, hK, hD0⟩ := hv
  have hx := BL.exec
  have hb := BL.bytes
  have hr := BL.returns
  have hts : ∀ w ∈ lw_ok, w.before _ sv = true := fun w hw => atoms_spec (ws := wS yX0_tallyPlaces cX0_tallyPlaces 4 (Option.none : Option Jvm.ClassFile.FieldType)) BL.pre w (List.mem_cons_of_mem _ hw)
  have hown : sv.vm.findClass RX0 = some mi.cls := findClass_of_methodNamed BL.named
  have hlocks := BL.notSynchronized
  have fx : CallFix pg mi cd cX0_tallyPlaces 4 sv _ lw_ok RX0 := ⟨hx, hb, hml, hown, hts⟩
  have hl := lv_entry ([.ref o, .int (nI q)]) (n := 4) (Nat.le_of_ble_eq_true rfl)
  rw [lg_entry_eq]
  generalize (lg_sl ([.ref o, .int (nI q)]) ++ List.replicate (4 - (lg_sl ([.ref o, .int (nI q)])).length) Slot.unset).toArray = ls at hl ⊢
  replace hl : lv_has ls 4 [(0, .ref o), (1, .int (nI q))] := hl
  subst hsz
  have hD : va_D (cA cy o a Z X sv.heap.size) (cw cy o a Z X) := hD0.self (sz := sv.heap.size)
  clear hD0
  generalize hAe : cA cy o a Z X sv.heap.size = A at hD ⊢
  have hA : ∀ q : Nat, sv.heap.size ≤ q → A q := fun q h => by rw [← hAe]; exact Or.inr h
  clear hAe
  refine x_start (fun H locs eH eL => ?_)
  replace hP : va_P (dC, dI) vwCl (cw cy o a Z X) H := by rw [eH]; exact hP
  have hS : va_S A sv.heap H locs := by rw [eH, eL]; exact va_S.rf
  clear eH eL
  obtain ⟨b0, b1, b2⟩ := hI.bd
  have hqq := hI.q hq
  refine lv_aload_n hx hb dX0_tallyPlaces_0 rfl (lv_at hl 0 rfl) ?_
  refine c_g16 hx hb hts hown hK hP dX0_tallyPlaces_1 ?_
  refine lv_iconst (v := nI 0) hx hb dX0_tallyPlaces_4 (by decide) ?_
  refine c_fill16 (v := 0) fx ⟨Nat.le_of_ble_eq_true rfl, Nat.le_of_ble_eq_true rfl⟩ hK hP hD hS hA hl.1 (Nat.le_of_ble_eq_true rfl) dX0_tallyPlaces_5 ⟨Nat.le_of_ble_eq_true rfl, Nat.le_of_ble_eq_true rfl⟩ (fun H locs hP hD hS => ?_)
  refine lv_aload_n hx hb dX0_tallyPlaces_8 rfl (lv_at hl 0 rfl) ?_
  refine c_g17 hx hb hts hown hK hP dX0_tallyPlaces_9 ?_
  refine lv_iconst (v := nI 0) hx hb dX0_tallyPlaces_12 (by decide) ?_
  refine c_fill17 (v := 0) fx ⟨Nat.le_of_ble_eq_true rfl, Nat.le_of_ble_eq_true rfl⟩ hK hP hD hS hA hl.1 (Nat.le_of_ble_eq_true rfl) dX0_tallyPlaces_13 ⟨Nat.le_of_ble_eq_true rfl, Nat.le_of_ble_eq_true rfl⟩ (fun H locs hP hD hS => ?_)
  refine lv_iconst (v := nI 0) hx hb dX0_tallyPlaces_16 (by decide) ?_
  refine lv_istore_n (lv' := [(2, .int (nI 0)), (0, .ref o), (1, .int (nI q))]) hx hb dX0_tallyPlaces_17 rfl hl (by decide) rfl (fun ls hl => ?_)
  obtain ⟨j, ej⟩ : ∃ j : Nat, j = 0 := ⟨_, rfl⟩
  replace hl : lv_has ls 4 [(2, .int (nI j)), (0, .ref o), (1, .int (nI q))] := by subst ej; exact lv_sub hl [0, 1, 2] rfl
  obtain ⟨X1, eX1⟩ : ∃ X1 : Nat → Nat → Nat, X1 = zf (zf X 1 4 0) 2 4 0 := ⟨_, rfl⟩
  rw [← eX1] at hP hD
  have hj : j ≤ Z 0 2 := by subst ej eX1; omega
  have ht : tal Z q X1 j := by subst ej eX1; exact tal_0 _ _ _
  clear ej eX1
  obtain ⟨n18, hn18⟩ : ∃ n_0 : Nat, Z 0 2 - j < n_0 := ⟨_, Nat.lt_succ_self _⟩
  induction n18 generalizing H locs X1 j ls with
  | zero => exact absurd hn18 (Nat.not_lt_zero _)
  | succ n18 ih18 =>
    refine lv_iload_n hx hb dX0_tallyPlaces_18 rfl (lv_at hl 0 rfl) ?_
    refine lv_aload_n hx hb dX0_tallyPlaces_19 rfl (lv_at hl 1 rfl) ?_
    refine c_g2 hx hb hts hown hK hP dX0_tallyPlaces_20 ?_
    refine x_icmp_ge (x := j) (y := Z 0 2) (tgt := 89) hx hb (by omega) (by omega) dX0_tallyPlaces_23 (by decide) (fun c_23 => ?_) (fun c_23 => ?_)
    ·
      refine W.vret hx hb hr (fun t9 ht9 hW9 => ⟨⟨(Z, X1), rfl, ?_, cE_mk ht9 hP hK hW9 hD⟩, hS.F ht9⟩) hS.2.2 dX0_tallyPlaces_89
      exact ⟨rfl, by rw [show Z 0 2 = j by omega]; exact ht⟩
    ·
      have hpu := hI.pu (u := j) (by omega)
      have hsz := hI.sz (p := Z 11 j) (by omega)
      refine lv_aload_n hx hb dX0_tallyPlaces_26 rfl (lv_at hl 1 rfl) ?_
      refine lv_iload_n hx hb dX0_tallyPlaces_27 rfl (lv_at hl 0 rfl) ?_
      refine lv_iload_n hx hb dX0_tallyPlaces_28 rfl (lv_at hl 2 rfl) ?_
      refine r_Vi (As := [.int (nI j), .int (nI q)]) (rest := []) fx (ct_X0_spotComeTo l dC dI cy o a Z X1 j q hI (by first | assumption | omega) (by first | assumption | omega)) fyX0_spotComeTo tM_RX0_129 rfl rfl ⟨Nat.le_of_ble_eq_true rfl, Nat.le_of_ble_eq_true rfl⟩ (c_pre hK hP) rfl hl.1 rfl (Nat.le_of_ble_eq_true rfl) dX0_tallyPlaces_29 ⟨Nat.le_of_ble_eq_true rfl, Nat.le_of_ble_eq_true rfl⟩ (fun r_29 hr_29 => ?_)
      rcases hr_29 with ⟨rfl, hs_29⟩ | ⟨i_29, hi_29, hs_29, hq_29, hc_29, rfl⟩
      ·
        refine lv_istore_n (lv' := [(3, .int (-1)), (2, .int (nI j)), (0, .ref o), (1, .int (nI q))]) hx hb dX0_tallyPlaces_32 rfl hl (by decide) rfl (fun ls hl => ?_)
        refine lv_iload_n hx hb dX0_tallyPlaces_33 rfl (lv_at hl 0 rfl) ?_
        refine lv_iconst (v := -1) hx hb dX0_tallyPlaces_34 (by decide) ?_
        refine x_icmp_eq_T (tgt := 83) hx hb (by decide) dX0_tallyPlaces_35 (by decide) ?_
        refine lv_iinc (v := nI (j + 1)) (lv' := [(2, .int (nI (j + 1))), (3, .int (-1)), (0, .ref o), (1, .int (nI q))]) hx hb dX0_tallyPlaces_83 hl (k := 1) rfl (x_inc1 _) (by decide) rfl (fun ls hl => ?_)
        refine lv_goto (tgt := 18) hx hb dX0_tallyPlaces_86 (by decide) ?_
        exact ih18 (H := H) (locs := locs) (ls := ls) (X1 := X1) (j := (j + 1)) (hl := lv_sub hl [0, 2, 3] rfl) (hP := hP) (hD := hD) (hS := hS) (hj := (by omega)) (ht := (by first | exact tal_no ht hs_29 | exact tal_c ht hcq c_65 | exact tal_cf ht hcq c_65)) (hn18 := by omega)
      ·
        have hcq : cqP Z q j := ⟨by omega, by rw [hs_29]; exact hc_29⟩
        have hmk := mrk_le hI (u := j) (i := i_29) (by omega) hi_29
        have hme : mkq Z q j = mrk Z j i_29 := by rw [mkq, hs_29]
        refine lv_istore_n (lv' := [(3, .int (nI i_29)), (2, .int (nI j)), (0, .ref o), (1, .int (nI q))]) hx hb dX0_tallyPlaces_32 rfl hl (by decide) rfl (fun ls hl => ?_)
        refine lv_iload_n hx hb dX0_tallyPlaces_33 rfl (lv_at hl 0 rfl) ?_
        refine lv_iconst (v := -1) hx hb dX0_tallyPlaces_34 (by decide) ?_
        refine x_icmp_eq_F (tgt := 83) hx hb (nI_ne_m1 (by omega)) dX0_tallyPlaces_35 (by decide) ?_
        refine lv_aload_n hx hb dX0_tallyPlaces_38 rfl (lv_at hl 2 rfl) ?_
        refine c_g16 hx hb hts hown hK hP dX0_tallyPlaces_39 ?_
        refine lv_aload_n hx hb dX0_tallyPlaces_42 rfl (lv_at hl 2 rfl) ?_
        refine c_g12 hx hb hts hown hK hP dX0_tallyPlaces_43 ?_
        refine lv_iload_n hx hb dX0_tallyPlaces_46 rfl (lv_at hl 1 rfl) ?_
        refine c_l12 (j := j) hx hb hK hP (by omega) dX0_tallyPlaces_47 ?_
        refine lv_dup2_11 hx hb dX0_tallyPlaces_48 rfl rfl ?_
        refine c_l16 (j := Z 12 j) hx hb hK hP (by omega) dX0_tallyPlaces_49 ?_
        refine lv_iconst (v := nI 1) hx hb dX0_tallyPlaces_50 (by decide) ?_
        refine x_iadd hx hb dX0_tallyPlaces_51 ?_
        refine c_s16 (j := Z 12 j) (v := (X1 1 (Z 12 j)) + 1) hx hb hK hP hD hS (by omega) dX0_tallyPlaces_52 (fun H locs hP hD hS => ?_)
        refine lv_aload_n hx hb dX0_tallyPlaces_53 rfl (lv_at hl 2 rfl) ?_
        refine lv_iload_n hx hb dX0_tallyPlaces_54 rfl (lv_at hl 1 rfl) ?_
        refine lv_iload_n hx hb dX0_tallyPlaces_55 rfl (lv_at hl 0 rfl) ?_
        refine r_Vi (As := [.int (nI j), .int (nI i_29)]) (rest := []) fx (ct_X0_markAt l dC dI cy o a Z (zu X1 1 (Z 12 j) ((X1 1 (Z 12 j)) + 1)) j i_29 hI (by first | assumption | omega) (by first | assumption | omega)) fyX0_markAt tM_RX0_111 rfl rfl ⟨Nat.le_of_ble_eq_true rfl, Nat.le_of_ble_eq_true rfl⟩ (c_pre hK hP) rfl hl.1 rfl (Nat.le_of_ble_eq_true rfl) dX0_tallyPlaces_56 ⟨Nat.le_of_ble_eq_true rfl, Nat.le_of_ble_eq_true rfl⟩ (fun r_56 hr_56 => ?_)
        subst hr_56
        rw [← hme]
        have hmk2 : mkq Z q j ≤ 10 := by omega
        refine lv_aload_n hx hb dX0_tallyPlaces_59 rfl (lv_at hl 2 rfl) ?_
        refine c_g6 hx hb hts hown hK hP dX0_tallyPlaces_60 ?_
        refine lv_iload_n hx hb dX0_tallyPlaces_63 rfl (lv_at hl 3 rfl) ?_
        refine c_l6 (j := q) hx hb hK hP (by omega) dX0_tallyPlaces_64 ?_
        refine x_icmp_ne (x := mkq Z q j) (y := Z 6 q) (tgt := 83) hx hb (by omega) (by omega) dX0_tallyPlaces_65 (by decide) (fun c_65 => ?_) (fun c_65 => ?_)
        ·
          refine lv_iinc (v := nI (j + 1)) (lv' := [(2, .int (nI (j + 1))), (3, .int (nI i_29)), (0, .ref o), (1, .int (nI q))]) hx hb dX0_tallyPlaces_83 hl (k := 1) rfl (x_inc1 _) (by decide) rfl (fun ls hl => ?_)
          refine lv_goto (tgt := 18) hx hb dX0_tallyPlaces_86 (by decide) ?_
          exact ih18 (H := H) (locs := locs) (ls := ls) (X1 := (zu X1 1 (Z 12 j) ((X1 1 (Z 12 j)) + 1))) (j := (j + 1)) (hl := lv_sub hl [0, 2, 3] rfl) (hP := hP) (hD := hD) (hS := hS) (hj := (by omega)) (ht := (by first | exact tal_no ht hs_29 | exact tal_c ht hcq c_65 | exact tal_cf ht hcq c_65)) (hn18 := by omega)
        ·
          refine lv_aload_n hx hb dX0_tallyPlaces_68 rfl (lv_at hl 2 rfl) ?_
          refine c_g17 hx hb hts hown hK hP dX0_tallyPlaces_69 ?_
          refine lv_aload_n hx hb dX0_tallyPlaces_72 rfl (lv_at hl 2 rfl) ?_
          refine c_g12 hx hb hts hown hK hP dX0_tallyPlaces_73 ?_
          refine lv_iload_n hx hb dX0_tallyPlaces_76 rfl (lv_at hl 1 rfl) ?_
          refine c_l12 (j := j) hx hb hK hP (by omega) dX0_tallyPlaces_77 ?_
          refine lv_dup2_11 hx hb dX0_tallyPlaces_78 rfl rfl ?_
          refine c_l17 (j := Z 12 j) hx hb hK hP (by omega) dX0_tallyPlaces_79 ?_
          refine lv_iconst (v := nI 1) hx hb dX0_tallyPlaces_80 (by decide) ?_
          refine x_iadd hx hb dX0_tallyPlaces_81 ?_
          refine c_s17 (j := Z 12 j) (v := ((zu X1 1 (Z 12 j) ((X1 1 (Z 12 j)) + 1)) 2 (Z 12 j)) + 1) hx hb hK hP hD hS (by omega) dX0_tallyPlaces_82 (fun H locs hP hD hS => ?_)
          refine lv_iinc (v := nI (j + 1)) (lv' := [(2, .int (nI (j + 1))), (3, .int (nI i_29)), (0, .ref o), (1, .int (nI q))]) hx hb dX0_tallyPlaces_83 hl (k := 1) rfl (x_inc1 _) (by decide) rfl (fun ls hl => ?_)
          refine lv_goto (tgt := 18) hx hb dX0_tallyPlaces_86 (by decide) ?_
          exact ih18 (H := H) (locs := locs) (ls := ls) (X1 := (zu (zu X1 1 (Z 12 j) ((X1 1 (Z 12 j)) + 1)) 2 (Z 12 j) (((zu X1 1 (Z 12 j) ((X1 1 (Z 12 j)) + 1)) 2 (Z 12 j)) + 1))) (j := (j + 1)) (hl := lv_sub hl [0, 2, 3] rfl) (hP := hP) (hD := hD) (hS := hS) (hj := (by omega)) (ht := (by first | exact tal_no ht hs_29 | exact tal_c ht hcq c_65 | exact tal_cf ht hcq c_65)) (hn18 := by omega)
