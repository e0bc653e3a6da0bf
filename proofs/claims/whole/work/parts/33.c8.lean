set_option maxHeartbeats 4000000 in
set_option maxRecDepth 100000 in
theorem ct_X0_leak (l : Launch) (dC : Nat → ClassId) (dI : Nat → Nat → Nat) (cy : ClassId) (o : Nat) (a : Nat → Nat) (Z X : Nat → Nat → Nat) (sz : Nat) (b : Int32) (i : Int32) (hI : Inv Z) : Met l yX0_leak (wS yX0_leak cX0_leak 6 (Option.some Jvm.ClassFile.FieldType.int)) (rmF 5 112) (va_Pc [.ref o, .int b, .int i] (cS dC dI cy o a Z X sz)) (va_Qi (fun r (u : ST × ST) => r = fLek Z b i ∧ u.1 = Z) (cE dC dI cy o a (cA cy o a Z X sz)) (cA cy o a Z X sz)) 0 0 (cA cy o a Z X sz) := by
  refine Met.ofW (cc := cX0_leak) (maxL := 6) (ret := (Option.some Jvm.ClassFile.FieldType.int)) (by decide) rfl ?_
  intro pg en sv mi ag bw mt cd s₁ BL hml hv
  obtain ⟨rfl, hsz, hP, hK, hD0⟩ := hv
  have hx := BL.exec
  have hb := BL.bytes
  have hr := BL.returns
  have hts : ∀ w ∈ lw_ok, w.before _ sv = true := fun w hw => atoms_spec (ws := wS yX0_leak cX0_leak 6 (Option.some Jvm.ClassFile.FieldType.int)) BL.pre w (List.mem_cons_of_mem _ hw)
  have hown : sv.vm.findClass RX0 = some mi.cls := findClass_of_methodNamed BL.named
  have hlocks := BL.notSynchronized
  have fx : CallFix pg mi cd cX0_leak 6 sv _ lw_ok RX0 := ⟨hx, hb, hml, hown, hts⟩
  have hl := lv_entry ([.ref o, .int b, .int i]) (n := 6) (Nat.le_of_ble_eq_true rfl)
  rw [lg_entry_eq]
  generalize (lg_sl ([.ref o, .int b, .int i]) ++ List.replicate (6 - (lg_sl ([.ref o, .int b, .int i])).length) Slot.unset).toArray = ls at hl ⊢
  replace hl : lv_has ls 6 [(0, .ref o), (1, .int b), (2, .int i)] := hl
  subst hsz
  have hD : va_D (cA cy o a Z X sv.heap.size) (cw cy o a Z X) := hD0.self (sz := sv.heap.size)
  clear hD0
  generalize hAe : cA cy o a Z X sv.heap.size = A at hD ⊢
  have hA : ∀ q : Nat, sv.heap.size ≤ q → A q := fun q h => by rw [← hAe]; exact Or.inr h
  clear hAe
  refine x_start (fun H locs eH eL => ?_)
  replace hP : va_P (dC, dI) vwCl (cw cy o a Z X) H := by rw [eH]; exact hP
  have hS : va_S A sv.heap H locs := by rw [eH, eL]; exact va_S.rf
  clear eH eL
  obtain ⟨b0, b1, b2⟩ := hI.bd
  refine lv_iload_n hx hb dX0_leak_0 rfl (lv_at hl 2 rfl) ?_
  refine lv_if_ge (tgt := 6) hx hb dX0_leak_1 (by decide) (fun c_1 => ?_) (fun c_1 => ?_)
  ·
    have hd0 : ¬ i < 0 := fun h => (fa_of_lt h).2.1 c_1
    obtain ⟨i1, h_i1, rfl⟩ := nI_of hd0
    have t_i : tn (nI i1) = i1 := tn_nI h_i1
    refine lv_iload_n hx hb dX0_leak_6 rfl (lv_at hl 1 rfl) ?_
    refine r_Si (As := [.int b]) (rest := []) fx (ct_X0_isBar l b) fyX0_isBar tM_RX0_136 rfl rfl ⟨Nat.le_of_ble_eq_true rfl, Nat.le_of_ble_eq_true rfl⟩ rfl hl.1 rfl (Nat.le_of_ble_eq_true rfl) dX0_leak_7 ⟨Nat.le_of_ble_eq_true rfl, Nat.le_of_ble_eq_true rfl⟩ (fun r_7 hr_7 => ?_)
    rcases hr_7 with ⟨rfl, hr_7⟩ | ⟨rfl, hr_7⟩
    ·
      refine x_if_ne_F (tgt := 16) hx hb (by decide) dX0_leak_10 (by decide) ?_
      refine lv_bipush (v := -2) hx hb dX0_leak_13 (by decide) ?_
      refine W.iret (v := (-2)) hx hb hr (fun t9 ht9 hW9 => ⟨⟨_, (Z, X), rfl, ?_, cE_mk ht9 hP hK hW9 hD⟩, hS.F ht9⟩) hS.2.2 dX0_leak_15
      exact ⟨by rw [fLek, if_neg hd0, if_neg hr_7], rfl⟩
    ·
      have i_b := hr_7
      obtain ⟨b9, -, h_b9, rfl⟩ := inR_of i_b
      have t_b : tn (nI b9) = b9 := tn_nI (by omega)
      refine x_if_ne_T (tgt := 16) hx hb (by decide) dX0_leak_10 (by decide) ?_
      refine lv_iconst (v := nI 0) hx hb dX0_leak_16 (by decide) ?_
      refine lv_istore_n (lv' := [(3, .int (nI 0)), (0, .ref o), (1, .int (nI b9)), (2, .int (nI i1))]) hx hb dX0_leak_17 rfl hl (by decide) rfl (fun ls hl => ?_)
      refine lv_iconst (v := nI 0) hx hb dX0_leak_18 (by decide) ?_
      refine lv_istore (lv' := [(4, .int (nI 0)), (3, .int (nI 0)), (0, .ref o), (1, .int (nI b9)), (2, .int (nI i1))]) hx hb dX0_leak_19 hl (by decide) rfl (fun ls hl => ?_)
      obtain ⟨j, ej⟩ : ∃ j : Nat, j = 0 := ⟨_, rfl⟩
      obtain ⟨n, en⟩ : ∃ n : Nat, n = 0 := ⟨_, rfl⟩
      replace hl : lv_has ls 6 [(4, .int (nI j)), (3, .int (nI n)), (0, .ref o), (1, .int (nI b9)), (2, .int (nI i1))] := by subst ej en; exact lv_sub hl [0, 1, 2, 3, 4] rfl
      obtain ⟨X1, eX1⟩ : ∃ X1 : Nat → Nat → Nat, X1 = X := ⟨_, rfl⟩
      rw [← eX1] at hP hD
      have hj : j ≤ Z 0 0 := by subst ej en eX1; omega
      have hf : n = fb_ct (lkB Z b9) (j * 4) := by subst ej en eX1; rfl
      have hle : n ≤ i1 := by subst ej en eX1; omega
      clear ej en eX1
      obtain ⟨n21, hn21⟩ : ∃ n_0 : Nat, Z 0 0 - j < n_0 := ⟨_, Nat.lt_succ_self _⟩
      induction n21 generalizing H locs X1 j n ls with
      | zero => exact absurd hn21 (Nat.not_lt_zero _)
      | succ n21 ih21 =>
        refine lv_iload hx hb dX0_leak_21 (lv_at hl 0 rfl) ?_
        refine lv_aload_n hx hb dX0_leak_23 rfl (lv_at hl 2 rfl) ?_
        refine c_g0 hx hb hts hown hK hP dX0_leak_24 ?_
        refine x_icmp_ge (x := j) (y := Z 0 0) (tgt := 83) hx hb (by omega) (by omega) dX0_leak_27 (by decide) (fun c_27 => ?_) (fun c_27 => ?_)
        ·
          refine lv_iconst (v := -1) hx hb dX0_leak_83 (by decide) ?_
          refine W.iret (v := (-1)) hx hb hr (fun t9 ht9 hW9 => ⟨⟨_, (Z, X1), rfl, ?_, cE_mk ht9 hP hK hW9 hD⟩, hS.F ht9⟩) hS.2.2 dX0_leak_84
          refine ⟨?_, rfl⟩
          rw [fLek, if_neg hd0, if_pos i_b, t_b, t_i, kth_none (by rw [show Z 0 0 * 4 = j * 4 by omega]; omega)]
        ·
          refine lv_aload_n hx hb dX0_leak_30 rfl (lv_at hl 2 rfl) ?_
          refine lv_iload hx hb dX0_leak_31 (lv_at hl 0 rfl) ?_
          refine c_Mv (As := [.int (nI j)]) (rest := []) fx (ct_X0_tallyPlaces l dC dI cy o a Z X1 _ j hI (by first | assumption | omega)) fyX0_tallyPlaces tM_RX0_139 rfl rfl ⟨Nat.le_of_ble_eq_true rfl, Nat.le_of_ble_eq_true rfl⟩ hK hP hD hS hA rfl hl.1 rfl (Nat.le_of_ble_eq_true rfl) dX0_leak_33 ⟨Nat.le_of_ble_eq_true rfl, Nat.le_of_ble_eq_true rfl⟩ (fun Z_33 X_33 H locs hw_33 hP hD hS => ?_)
          try dsimp only at hw_33
          obtain ⟨ez_33, ht_33⟩ := hw_33
          rw [ez_33] at hP hD
          refine lv_iconst (v := nI 0) hx hb dX0_leak_36 (by decide) ?_
          refine lv_istore (lv' := [(5, .int (nI 0)), (4, .int (nI j)), (3, .int (nI n)), (0, .ref o), (1, .int (nI b9)), (2, .int (nI i1))]) hx hb dX0_leak_37 hl (by decide) rfl (fun ls hl => ?_)
          obtain ⟨k, ek⟩ : ∃ k : Nat, k = 0 := ⟨_, rfl⟩
          obtain ⟨f, ef⟩ : ∃ f : Nat, f = n := ⟨_, rfl⟩
          replace hl : lv_has ls 6 [(5, .int (nI k)), (4, .int (nI j)), (3, .int (nI f)), (0, .ref o), (1, .int (nI b9)), (2, .int (nI i1))] := by subst ek ef; exact lv_sub hl [0, 1, 2, 3, 4, 5] rfl
          have hk : k ≤ 4 := by subst ek ef; omega
          have hf2 : f = fb_ct (lkB Z b9) (j * 4 + k) := by subst ek ef; exact hf
          have hle2 : f ≤ i1 := by subst ek ef; omega
          clear ek ef
          obtain ⟨n39, hn39⟩ : ∃ n_0 : Nat, 4 - k < n_0 := ⟨_, Nat.lt_succ_self _⟩
          induction n39 generalizing H locs k f ls with
          | zero => exact absurd hn39 (Nat.not_lt_zero _)
          | succ n39 ih39 =>
            refine lv_iload hx hb dX0_leak_39 (lv_at hl 0 rfl) ?_
            refine lv_iconst (v := nI 4) hx hb dX0_leak_41 (by decide) ?_
            refine x_icmp_ge (x := k) (y := 4) (tgt := 77) hx hb (by omega) (by omega) dX0_leak_42 (by decide) (fun c_42 => ?_) (fun c_42 => ?_)
            ·
              refine lv_iinc (v := nI (j + 1)) (lv' := [(4, .int (nI (j + 1))), (5, .int (nI k)), (3, .int (nI f)), (0, .ref o), (1, .int (nI b9)), (2, .int (nI i1))]) hx hb dX0_leak_77 hl (k := 1) rfl (x_inc1 _) (by decide) rfl (fun ls hl => ?_)
              refine lv_goto (tgt := 21) hx hb dX0_leak_80 (by decide) ?_
              exact ih21 (H := H) (locs := locs) (ls := ls) (X1 := X_33) (j := (j + 1)) (n := f) (hl := lv_sub hl [0, 2, 3, 4, 5] rfl) (hP := hP) (hD := hD) (hS := hS) (hj := (by omega)) (hf := (by rw [hf2, show (j + 1) * 4 = j * 4 + k by omega])) (hle := (by omega)) (hn21 := by omega)
            ·
              refine lv_aload_n hx hb dX0_leak_45 rfl (lv_at hl 3 rfl) ?_
              refine lv_iload hx hb dX0_leak_46 (lv_at hl 0 rfl) ?_
              refine lv_iload_n hx hb dX0_leak_48 rfl (lv_at hl 4 rfl) ?_
              refine r_Vi (As := [.int (nI k), .int (nI b9)]) (rest := []) fx (ct_X0_isLeakyByTally l dC dI cy o a Z X_33 k b9 (by first | assumption | omega) (by first | assumption | omega) (tal_X ht_33 hI)) fyX0_isLeakyByTally tM_RX0_143 rfl rfl ⟨Nat.le_of_ble_eq_true rfl, Nat.le_of_ble_eq_true rfl⟩ (c_pre hK hP) rfl hl.1 rfl (Nat.le_of_ble_eq_true rfl) dX0_leak_49 ⟨Nat.le_of_ble_eq_true rfl, Nat.le_of_ble_eq_true rfl⟩ (fun r_49 hr_49 => ?_)
              rcases hr_49 with ⟨rfl, hr_49⟩ | ⟨rfl, hr_49⟩
              ·
                have hlb : lkB Z b9 (j * 4 + k) = false := by rw [lkB_at (by omega)]; exact decide_eq_false (fun h => hr_49 ((tal_lk ht_33 (by omega)).mpr h))
                refine x_if_eq_T (tgt := 71) hx hb (by decide) dX0_leak_52 (by decide) ?_
                refine lv_iinc (v := nI (k + 1)) (lv' := [(5, .int (nI (k + 1))), (4, .int (nI j)), (3, .int (nI f)), (0, .ref o), (1, .int (nI b9)), (2, .int (nI i1))]) hx hb dX0_leak_71 hl (k := 0) rfl (x_inc1 _) (by decide) rfl (fun ls hl => ?_)
                refine lv_goto (tgt := 39) hx hb dX0_leak_74 (by decide) ?_
                exact ih39 (H := H) (locs := locs) (ls := ls) (k := (k + 1)) (f := f) (hl := lv_sub hl [0, 1, 2, 3, 4, 5] rfl) (hP := hP) (hS := hS) (hk := (by omega)) (hf2 := (by rw [show j * 4 + (k + 1) = j * 4 + k + 1 from rfl, fb_ct_succ, ← hf2, hlb]; rfl)) (hle2 := (by omega)) (hn39 := by omega)
              ·
                have hlb : lkB Z b9 (j * 4 + k) = true := by rw [lkB_at (by omega)]; exact decide_eq_true ((tal_lk ht_33 (by omega)).mp hr_49)
                refine x_if_eq_F (tgt := 71) hx hb (by decide) dX0_leak_52 (by decide) ?_
                refine lv_iload_n hx hb dX0_leak_55 rfl (lv_at hl 2 rfl) ?_
                refine lv_iload_n hx hb dX0_leak_56 rfl (lv_at hl 5 rfl) ?_
                refine x_icmp_ne (x := f) (y := i1) (tgt := 68) hx hb (by omega) (by omega) dX0_leak_57 (by decide) (fun c_57 => ?_) (fun c_57 => ?_)
                ·
                  refine lv_iinc (v := nI (f + 1)) (lv' := [(3, .int (nI (f + 1))), (5, .int (nI k)), (4, .int (nI j)), (0, .ref o), (1, .int (nI b9)), (2, .int (nI i1))]) hx hb dX0_leak_68 hl (k := 2) rfl (x_inc1 _) (by decide) rfl (fun ls hl => ?_)
                  refine lv_iinc (v := nI (k + 1)) (lv' := [(5, .int (nI (k + 1))), (3, .int (nI (f + 1))), (4, .int (nI j)), (0, .ref o), (1, .int (nI b9)), (2, .int (nI i1))]) hx hb dX0_leak_71 hl (k := 1) rfl (x_inc1 _) (by decide) rfl (fun ls hl => ?_)
                  refine lv_goto (tgt := 39) hx hb dX0_leak_74 (by decide) ?_
                  exact ih39 (H := H) (locs := locs) (ls := ls) (k := (k + 1)) (f := (f + 1)) (hl := lv_sub hl [0, 2, 1, 3, 4, 5] rfl) (hP := hP) (hS := hS) (hk := (by omega)) (hf2 := (by rw [show j * 4 + (k + 1) = j * 4 + k + 1 from rfl, fb_ct_succ, ← hf2, hlb]; rfl)) (hle2 := (by omega)) (hn39 := by omega)
                ·
                  refine lv_iconst (v := nI 4) hx hb dX0_leak_60 (by decide) ?_
                  refine lv_iload hx hb dX0_leak_61 (lv_at hl 1 rfl) ?_
                  refine x_imulc hx hb dX0_leak_63 ?_
                  refine lv_iload hx hb dX0_leak_64 (lv_at hl 0 rfl) ?_
                  refine x_iadd hx hb dX0_leak_66 ?_
                  refine W.iret (v := (nI (j * 4 + k))) hx hb hr (fun t9 ht9 hW9 => ⟨⟨_, (Z, X_33), rfl, ?_, cE_mk ht9 hP hK hW9 hD⟩, hS.F ht9⟩) hS.2.2 dX0_leak_67
                  refine ⟨?_, rfl⟩
                  rw [fLek, if_neg hd0, if_pos i_b, t_b, t_i, kth_at (show j * 4 + k < Z 0 0 * 4 by omega) hlb (by omega)]
  ·
    refine lv_iconst (v := -1) hx hb dX0_leak_4 (by decide) ?_
    refine W.iret (v := (-1)) hx hb hr (fun t9 ht9 hW9 => ⟨⟨_, (Z, X), rfl, ?_, cE_mk ht9 hP hK hW9 hD⟩, hS.F ht9⟩) hS.2.2 dX0_leak_5
    exact ⟨by rw [fLek, if_pos (fa_of_nle c_1)], rfl⟩

set_option maxHeartbeats 4000000 in
set_option maxRecDepth 100000 in
theorem ct_X0_pair (l : Launch) (dC : Nat → ClassId) (dI : Nat → Nat → Nat) (cy : ClassId) (o : Nat) (a : Nat → Nat) (Z X : Nat → Nat → Nat) (p : Int32) (m : Int32) (i : Int32) (hI : Inv Z) : Met l yX0_pair (wS yX0_pair cX0_pair 7 (Option.some Jvm.ClassFile.FieldType.int)) (rmF 5 116) (va_Pc [.ref o, .int p, .int m, .int i] (cR dC dI cy o a Z X)) (vp_Si (fun r => r = fPar Z p m i)) 0 0 (fun _ => False) := by
  refine Met.ofW (cc := cX0_pair) (maxL := 7) (ret := (Option.some Jvm.ClassFile.FieldType.int)) (by decide) rfl ?_
  intro pg en sv mi ag bw mt cd s₁ BL hml hv
  obtain ⟨rfl, hP, hK⟩ := hv
  have hx := BL.exec
  have hb := BL.bytes
  have hr := BL.returns
  have hts : ∀ w ∈ lw_ok, w.before _ sv = true := fun w hw => atoms_spec (ws := wS yX0_pair cX0_pair 7 (Option.some Jvm.ClassFile.FieldType.int)) BL.pre w (List.mem_cons_of_mem _ hw)
  have hown : sv.vm.findClass RX0 = some mi.cls := findClass_of_methodNamed BL.named
  have hlocks := BL.notSynchronized
  have fx : CallFix pg mi cd cX0_pair 7 sv _ lw_ok RX0 := ⟨hx, hb, hml, hown, hts⟩
  have hl := lv_entry ([.ref o, .int p, .int m, .int i]) (n := 7) (Nat.le_of_ble_eq_true rfl)
  rw [lg_entry_eq]
  generalize (lg_sl ([.ref o, .int p, .int m, .int i]) ++ List.replicate (7 - (lg_sl ([.ref o, .int p, .int m, .int i])).length) Slot.unset).toArray = ls at hl ⊢
  replace hl : lv_has ls 7 [(0, .ref o), (1, .int p), (2, .int m), (3, .int i)] := hl
  obtain ⟨b0, b1, b2⟩ := hI.bd
  refine lv_aload_n hx hb dX0_pair_0 rfl (lv_at hl 0 rfl) ?_
  refine lv_iload_n hx hb dX0_pair_1 rfl (lv_at hl 1 rfl) ?_
  refine r_Vi (As := [.int p]) (rest := []) fx (ct_X0_isPaper l dC dI cy o a Z X p hI) fyX0_isPaper tM_RX0_81 rfl rfl ⟨Nat.le_of_ble_eq_true rfl, Nat.le_of_ble_eq_true rfl⟩ (c_pre hK hP) rfl hl.1 rfl (Nat.le_of_ble_eq_true rfl) dX0_pair_2 ⟨Nat.le_of_ble_eq_true rfl, Nat.le_of_ble_eq_true rfl⟩ (fun r_2 hr_2 => ?_)
  rcases hr_2 with ⟨rfl, hr_2⟩ | ⟨rfl, hr_2⟩
  ·
    refine x_if_eq_T (tgt := 12) hx hb (by decide) dX0_pair_5 (by decide) ?_
    refine lv_iconst (v := -1) hx hb dX0_pair_12 (by decide) ?_
    refine W.iret (v := (-1)) hx hb hr (fun t9 ht9 hW9 => ⟨_, rfl, ?_, ht9⟩) (fun q h => by cases h) dX0_pair_13
    first
    | (rw [fPar, if_neg (fun h => hr_2 h.1)]; done)
    | (rw [fPar, if_neg (fun h => h.2 (fa_of_nle c_9))]; done)
  ·
    have i_p := hr_2
    obtain ⟨p1, -, h_p1, rfl⟩ := inR_of i_p
    have t_p : tn (nI p1) = p1 := tn_nI (by omega)
    refine x_if_eq_F (tgt := 12) hx hb (by decide) dX0_pair_5 (by decide) ?_
    refine lv_iload_n hx hb dX0_pair_8 rfl (lv_at hl 3 rfl) ?_
    refine lv_if_ge (tgt := 14) hx hb dX0_pair_9 (by decide) (fun c_9 => ?_) (fun c_9 => ?_)
    ·
      have hd0 : ¬ i < 0 := fun h => (fa_of_lt h).2.1 c_9
      obtain ⟨i1, h_i1, rfl⟩ := nI_of hd0
      have t_i : tn (nI i1) = i1 := tn_nI h_i1
      refine lv_iload_n hx hb dX0_pair_14 rfl (lv_at hl 2 rfl) ?_
      refine lv_iconst (v := nI 1) hx hb dX0_pair_15 (by decide) ?_
      refine lv_icmp_ge (tgt := 22) hx hb dX0_pair_16 (by decide) (fun c_16 => ?_) (fun c_16 => ?_)
      ·
        refine lv_iconst (v := nI 0) hx hb dX0_pair_22 (by decide) ?_
        refine lv_istore (lv' := [(4, .int (nI 0)), (0, .ref o), (1, .int (nI p1)), (2, .int m), (3, .int (nI i1))]) hx hb dX0_pair_23 hl (by decide) rfl (fun ls hl => ?_)
        refine lv_iconst (v := nI 0) hx hb dX0_pair_25 (by decide) ?_
        refine lv_istore (lv' := [(5, .int (nI 0)), (4, .int (nI 0)), (0, .ref o), (1, .int (nI p1)), (2, .int m), (3, .int (nI i1))]) hx hb dX0_pair_26 hl (by decide) rfl (fun ls hl => ?_)
        obtain ⟨u, eu⟩ : ∃ u : Nat, u = 0 := ⟨_, rfl⟩
        obtain ⟨n, en⟩ : ∃ n : Nat, n = 0 := ⟨_, rfl⟩
        replace hl : lv_has ls 7 [(5, .int (nI u)), (4, .int (nI n)), (0, .ref o), (1, .int (nI p1)), (2, .int m), (3, .int (nI i1))] := by subst eu en; exact lv_sub hl [0, 1, 2, 3, 4, 5] rfl
        have hu : u ≤ Z 0 2 := by subst eu en; omega
        have hf : n = fb_ct (prB Z p1 m) (u * 64) := by subst eu en; rfl
        have hle : n ≤ i1 := by subst eu en; omega
        clear eu en
        obtain ⟨n28, hn28⟩ : ∃ n_0 : Nat, Z 0 2 - u < n_0 := ⟨_, Nat.lt_succ_self _⟩
        induction n28 generalizing u n ls with
        | zero => exact absurd hn28 (Nat.not_lt_zero _)
        | succ n28 ih28 =>
          refine lv_iload hx hb dX0_pair_28 (lv_at hl 0 rfl) ?_
          refine lv_aload_n hx hb dX0_pair_30 rfl (lv_at hl 2 rfl) ?_
          refine c_g2 hx hb hts hown hK hP dX0_pair_31 ?_
          refine x_icmp_ge (x := u) (y := Z 0 2) (tgt := 95) hx hb (by omega) (by omega) dX0_pair_34 (by decide) (fun c_34 => ?_) (fun c_34 => ?_)
          ·
            refine lv_iconst (v := -1) hx hb dX0_pair_95 (by decide) ?_
            refine W.iret (v := (-1)) hx hb hr (fun t9 ht9 hW9 => ⟨_, rfl, ?_, ht9⟩) (fun q h => by cases h) dX0_pair_96
            rw [fPar, if_pos ⟨i_p, hd0⟩, if_neg (show ¬ m < 1 from fun h => (fa_of_lt h).2.1 c_16), t_p, t_i, kth_none (by rw [show Z 0 2 * 64 = u * 64 by omega]; omega)]
          ·
            refine lv_iload hx hb dX0_pair_37 (lv_at hl 0 rfl) ?_
            refine lv_iconst (v := nI 1) hx hb dX0_pair_39 (by decide) ?_
            refine x_iadd hx hb dX0_pair_40 ?_
            refine lv_istore (lv' := [(6, .int (nI (u + 1))), (5, .int (nI u)), (4, .int (nI n)), (0, .ref o), (1, .int (nI p1)), (2, .int m), (3, .int (nI i1))]) hx hb dX0_pair_41 hl (by decide) rfl (fun ls hl => ?_)
            obtain ⟨v, ev⟩ : ∃ v : Nat, v = u + 1 := ⟨_, rfl⟩
            obtain ⟨f, ef⟩ : ∃ f : Nat, f = n := ⟨_, rfl⟩
            replace hl : lv_has ls 7 [(6, .int (nI v)), (5, .int (nI u)), (4, .int (nI f)), (0, .ref o), (1, .int (nI p1)), (2, .int m), (3, .int (nI i1))] := by subst ev ef; exact lv_sub hl [0, 1, 2, 3, 4, 5, 6] rfl
            have hv : u + 1 ≤ v ∧ v ≤ Z 0 2 := by subst ev ef; omega
            have hf2 : f = fb_ct (prB Z p1 m) (u * 64 + v) := by subst ev ef; rw [prB_lo (by omega)]; exact hf
            have hle2 : f ≤ i1 := by subst ev ef; omega
            clear ev ef
            obtain ⟨n43, hn43⟩ : ∃ n_0 : Nat, Z 0 2 - v < n_0 := ⟨_, Nat.lt_succ_self _⟩
            induction n43 generalizing v f ls with
            | zero => exact absurd hn43 (Nat.not_lt_zero _)
            | succ n43 ih43 =>
              refine lv_iload hx hb dX0_pair_43 (lv_at hl 0 rfl) ?_
              refine lv_aload_n hx hb dX0_pair_45 rfl (lv_at hl 3 rfl) ?_
              refine c_g2 hx hb hts hown hK hP dX0_pair_46 ?_
              refine x_icmp_ge (x := v) (y := Z 0 2) (tgt := 89) hx hb (by omega) (by omega) dX0_pair_49 (by decide) (fun c_49 => ?_) (fun c_49 => ?_)
              ·
                refine lv_iinc (v := nI (u + 1)) (lv' := [(5, .int (nI (u + 1))), (6, .int (nI v)), (4, .int (nI f)), (0, .ref o), (1, .int (nI p1)), (2, .int m), (3, .int (nI i1))]) hx hb dX0_pair_89 hl (k := 1) rfl (x_inc1 _) (by decide) rfl (fun ls hl => ?_)
                refine lv_goto (tgt := 28) hx hb dX0_pair_92 (by decide) ?_
                exact ih28 ls (u + 1) f (lv_sub hl [0, 2, 3, 4, 5, 6] rfl) (by omega) (by rw [prB_hi hI, hf2, show Z 0 2 = v by omega]) (by omega) (by omega)
              ·
                refine lv_aload_n hx hb dX0_pair_52 rfl (lv_at hl 3 rfl) ?_
                refine lv_iload_n hx hb dX0_pair_53 rfl (lv_at hl 4 rfl) ?_
                refine lv_iload hx hb dX0_pair_54 (lv_at hl 1 rfl) ?_
                refine lv_iload hx hb dX0_pair_56 (lv_at hl 0 rfl) ?_
                refine lv_iload_n hx hb dX0_pair_58 rfl (lv_at hl 5 rfl) ?_
                refine r_Vi (As := [.int (nI p1), .int (nI u), .int (nI v), .int m]) (rest := []) fx (ct_X0_areAlikeOf l dC dI cy o a Z X p1 u v m hI (by first | assumption | omega) (by first | assumption | omega) (by first | assumption | omega)) fyX0_areAlikeOf tM_RX0_196 rfl rfl ⟨Nat.le_of_ble_eq_true rfl, Nat.le_of_ble_eq_true rfl⟩ (c_pre hK hP) rfl hl.1 rfl (Nat.le_of_ble_eq_true rfl) dX0_pair_59 ⟨Nat.le_of_ble_eq_true rfl, Nat.le_of_ble_eq_true rfl⟩ (fun r_59 hr_59 => ?_)
                rcases hr_59 with ⟨rfl, hr_59⟩ | ⟨rfl, hr_59⟩
                ·
                  have hlb : prB Z p1 m (u * 64 + v) = false := by rw [prB_at (by omega)]; exact decide_eq_false (fun h => hr_59 h.2.2)
                  refine x_if_eq_T (tgt := 83) hx hb (by decide) dX0_pair_62 (by decide) ?_
                  refine lv_iinc (v := nI (v + 1)) (lv' := [(6, .int (nI (v + 1))), (5, .int (nI u)), (4, .int (nI f)), (0, .ref o), (1, .int (nI p1)), (2, .int m), (3, .int (nI i1))]) hx hb dX0_pair_83 hl (k := 0) rfl (x_inc1 _) (by decide) rfl (fun ls hl => ?_)
                  refine lv_goto (tgt := 43) hx hb dX0_pair_86 (by decide) ?_
                  exact ih43 ls (v + 1) f (lv_sub hl [0, 1, 2, 3, 4, 5, 6] rfl) (by omega) (by rw [show u * 64 + (v + 1) = u * 64 + v + 1 from rfl, fb_ct_succ, ← hf2, hlb]; rfl) (by omega) (by omega)
                ·
                  have hlb : prB Z p1 m (u * 64 + v) = true := by rw [prB_at (by omega)]; exact decide_eq_true ⟨by omega, by omega, hr_59⟩
                  refine x_if_eq_F (tgt := 83) hx hb (by decide) dX0_pair_62 (by decide) ?_
                  refine lv_iload hx hb dX0_pair_65 (lv_at hl 2 rfl) ?_
                  refine lv_iload_n hx hb dX0_pair_67 rfl (lv_at hl 6 rfl) ?_
                  refine x_icmp_ne (x := f) (y := i1) (tgt := 80) hx hb (by omega) (by omega) dX0_pair_68 (by decide) (fun c_68 => ?_) (fun c_68 => ?_)
                  ·
                    refine lv_iinc (v := nI (f + 1)) (lv' := [(4, .int (nI (f + 1))), (6, .int (nI v)), (5, .int (nI u)), (0, .ref o), (1, .int (nI p1)), (2, .int m), (3, .int (nI i1))]) hx hb dX0_pair_80 hl (k := 2) rfl (x_inc1 _) (by decide) rfl (fun ls hl => ?_)
                    refine lv_iinc (v := nI (v + 1)) (lv' := [(6, .int (nI (v + 1))), (4, .int (nI (f + 1))), (5, .int (nI u)), (0, .ref o), (1, .int (nI p1)), (2, .int m), (3, .int (nI i1))]) hx hb dX0_pair_83 hl (k := 1) rfl (x_inc1 _) (by decide) rfl (fun ls hl => ?_)
                    refine lv_goto (tgt := 43) hx hb dX0_pair_86 (by decide) ?_
                    exact ih43 ls (v + 1) (f + 1) (lv_sub hl [0, 2, 1, 3, 4, 5, 6] rfl) (by omega) (by rw [show u * 64 + (v + 1) = u * 64 + v + 1 from rfl, fb_ct_succ, ← hf2, hlb]; rfl) (by omega) (by omega)
                  ·
                    refine lv_bipush (v := nI 64) hx hb dX0_pair_71 (by decide) ?_
                    refine lv_iload hx hb dX0_pair_73 (lv_at hl 1 rfl) ?_
                    refine x_imulc hx hb dX0_pair_75 ?_
                    refine lv_iload hx hb dX0_pair_76 (lv_at hl 0 rfl) ?_
                    refine x_iadd hx hb dX0_pair_78 ?_
                    refine W.iret (v := (nI (u * 64 + v))) hx hb hr (fun t9 ht9 hW9 => ⟨_, rfl, ?_, ht9⟩) (fun q h => by cases h) dX0_pair_79
                    rw [fPar, if_pos ⟨i_p, hd0⟩, if_neg (show ¬ m < 1 from fun h => (fa_of_lt h).2.1 c_16), t_p, t_i, kth_at (show u * 64 + v < Z 0 2 * 64 by omega) hlb (by omega)]
      ·
        refine lv_bipush (v := -2) hx hb dX0_pair_19 (by decide) ?_
        refine W.iret (v := (-2)) hx hb hr (fun t9 ht9 hW9 => ⟨_, rfl, ?_, ht9⟩) (fun q h => by cases h) dX0_pair_21
        rw [fPar, if_pos ⟨i_p, hd0⟩, if_pos (show m < 1 from fa_of_nle c_16)]
    ·
      refine lv_iconst (v := -1) hx hb dX0_pair_12 (by decide) ?_
      refine W.iret (v := (-1)) hx hb hr (fun t9 ht9 hW9 => ⟨_, rfl, ?_, ht9⟩) (fun q h => by cases h) dX0_pair_13
      first
      | (rw [fPar, if_neg (fun h => hr_2 h.1)]; done)
      | (rw [fPar, if_neg (fun h => h.2 (fa_of_nle c_9))]; done)

set_option maxHeartbeats 4000000 in
set_option maxRecDepth 100000 in
theorem ct_X1_leak (l : Launch) (dC : Nat → ClassId) (dI : Nat → Nat → Nat) (cy cz : ClassId) (o : Nat) (a : Nat → Nat) (Z : Nat → Nat → Nat) (G T K : Nat → Nat) (b : Int32) (i : Int32) (hI : Inv Z) (hR : MRel Z G T K) : Met l yX1_leak (wS yX1_leak cX1_leak 5 (Option.some Jvm.ClassFile.FieldType.int)) (rmF 4 100) (va_Pc [.ref o, .int b, .int i] (mR dC dI cy cz o a Z G T K)) (vp_Si (fun r => r = fLek Z b i)) 0 0 (fun _ => False) := by
  refine Met.ofW (cc := cX1_leak) (maxL := 5) (ret := (Option.some Jvm.ClassFile.FieldType.int)) (by decide) rfl ?_
  intro pg en sv mi ag bw mt cd s₁ BL hml hv
  obtain ⟨rfl, hP, hK⟩ := hv
  have hx := BL.exec
  have hb := BL.bytes
  have hr := BL.returns
  have hts : ∀ w ∈ lw_ok, w.before _ sv = true := fun w hw => atoms_spec (ws := wS yX1_leak cX1_leak 5 (Option.some Jvm.ClassFile.FieldType.int)) BL.pre w (List.mem_cons_of_mem _ hw)
  have hown : sv.vm.findClass RX1 = some mi.cls := findClass_of_methodNamed BL.named
  have hlocks := BL.notSynchronized
  have fx : CallFix pg mi cd cX1_leak 5 sv _ lw_ok RX1 := ⟨hx, hb, hml, hown, hts⟩
  have hl := lv_entry ([.ref o, .int b, .int i]) (n := 5) (Nat.le_of_ble_eq_true rfl)
  rw [lg_entry_eq]
  generalize (lg_sl ([.ref o, .int b, .int i]) ++ List.replicate (5 - (lg_sl ([.ref o, .int b, .int i])).length) Slot.unset).toArray = ls at hl ⊢
  replace hl : lv_has ls 5 [(0, .ref o), (1, .int b), (2, .int i)] := hl
  obtain ⟨b0, b1, b2⟩ := hI.bd
  refine lv_iload_n hx hb dX1_leak_0 rfl (lv_at hl 2 rfl) ?_
  refine lv_if_ge (tgt := 6) hx hb dX1_leak_1 (by decide) (fun c_1 => ?_) (fun c_1 => ?_)
  ·
    have hd0 : ¬ i < 0 := fun h => (fa_of_lt h).2.1 c_1
    obtain ⟨i1, h_i1, rfl⟩ := nI_of hd0
    have t_i : tn (nI i1) = i1 := tn_nI h_i1
    refine lv_aload_n hx hb dX1_leak_6 rfl (lv_at hl 0 rfl) ?_
    refine lv_iload_n hx hb dX1_leak_7 rfl (lv_at hl 1 rfl) ?_
    refine lv_iconst (v := nI 1) hx hb dX1_leak_8 (by decide) ?_
    refine lv_bipush (v := nI 100) hx hb dX1_leak_9 (by decide) ?_
    refine r_Vi (As := [.int b, .int (nI 1), .int (nI 100)]) (rest := []) fx (ct_X1_in l dC dI cy cz o a Z G T K b ((nI 1)) ((nI 100))) fyX1_in tM_RX1_51 rfl rfl ⟨Nat.le_of_ble_eq_true rfl, Nat.le_of_ble_eq_true rfl⟩ (m_pre hK hP) rfl hl.1 rfl (Nat.le_of_ble_eq_true rfl) dX1_leak_11 ⟨Nat.le_of_ble_eq_true rfl, Nat.le_of_ble_eq_true rfl⟩ (fun r_11 hr_11 => ?_)
    rcases hr_11 with ⟨rfl, hr_11⟩ | ⟨rfl, hr_11⟩
    ·
      refine x_if_ne_F (tgt := 20) hx hb (by decide) dX1_leak_14 (by decide) ?_
      refine lv_bipush (v := -2) hx hb dX1_leak_17 (by decide) ?_
      refine W.iret (v := (-2)) hx hb hr (fun t9 ht9 hW9 => ⟨_, rfl, ?_, ht9⟩) (fun q h => by cases h) dX1_leak_19
      rw [fLek, if_neg hd0, if_neg (fun h => hr_11 ((in_lh (by decide) (by decide)).mpr h))]
    ·
      have i_b : inR b 1 101 := (in_lh (lo := 1) (hi := 100) (by decide) (by decide)).mp hr_11
      obtain ⟨b9, l_b9, h_b9, rfl⟩ := inR_of i_b
      have t_b : tn (nI b9) = b9 := tn_nI (by omega)
      refine x_if_ne_T (tgt := 20) hx hb (by decide) dX1_leak_14 (by decide) ?_
      refine lv_iload_n hx hb dX1_leak_20 rfl (lv_at hl 2 rfl) ?_
      refine lv_istore_n (lv' := [(3, .int (nI i1)), (0, .ref o), (1, .int (nI b9)), (2, .int (nI i1))]) hx hb dX1_leak_21 rfl hl (by decide) rfl (fun ls hl => ?_)
      refine lv_iconst (v := nI 0) hx hb dX1_leak_22 (by decide) ?_
      refine lv_istore (lv' := [(4, .int (nI 0)), (3, .int (nI i1)), (0, .ref o), (1, .int (nI b9)), (2, .int (nI i1))]) hx hb dX1_leak_23 hl (by decide) rfl (fun ls hl => ?_)
      obtain ⟨k, ek⟩ : ∃ k : Nat, k = 0 := ⟨_, rfl⟩
      obtain ⟨lf, elf⟩ : ∃ lf : Nat, lf = i1 := ⟨_, rfl⟩
      replace hl : lv_has ls 5 [(4, .int (nI k)), (3, .int (nI lf)), (0, .ref o), (1, .int (nI b9)), (2, .int (nI i1))] := by subst ek elf; exact lv_sub hl [0, 1, 2, 3, 4] rfl
      have hk : k ≤ Z 0 0 * 4 := by subst ek elf; omega
      have hll : lf + fb_ct (lkB Z b9) k = i1 := by subst ek elf; rfl
      clear ek elf
      obtain ⟨n25, hn25⟩ : ∃ n_0 : Nat, Z 0 0 * 4 - k < n_0 := ⟨_, Nat.lt_succ_self _⟩
      induction n25 generalizing k lf ls with
      | zero => exact absurd hn25 (Nat.not_lt_zero _)
      | succ n25 ih25 =>
        refine lv_iload hx hb dX1_leak_25 (lv_at hl 0 rfl) ?_
        refine lv_iconst (v := nI 4) hx hb dX1_leak_27 (by decide) ?_
        refine lv_aload_n hx hb dX1_leak_28 rfl (lv_at hl 2 rfl) ?_
        refine m_g0 hx hb hts hown hK hP dX1_leak_29 ?_
        refine x_imulc hx hb dX1_leak_32 ?_
        refine x_icmp_ge (x := k) (y := (Z 0 0) * 4) (tgt := 71) hx hb (by omega) (by omega) dX1_leak_33 (by decide) (fun c_33 => ?_) (fun c_33 => ?_)
        ·
          refine lv_iconst (v := -1) hx hb dX1_leak_71 (by decide) ?_
          refine W.iret (v := (-1)) hx hb hr (fun t9 ht9 hW9 => ⟨_, rfl, ?_, ht9⟩) (fun q h => by cases h) dX1_leak_72
          rw [fLek, if_neg hd0, if_pos i_b, t_b, t_i, kth_none (by rw [show Z 0 0 * 4 = k by omega]; omega)]
        ·
          refine lv_aload_n hx hb dX1_leak_36 rfl (lv_at hl 2 rfl) ?_
          refine lv_iload hx hb dX1_leak_37 (lv_at hl 0 rfl) ?_
          refine lv_iconst (v := nI 4) hx hb dX1_leak_39 (by decide) ?_
          refine lv_idiv hx hb dX1_leak_40 (by decide) ?_
          rw [pk_div (by omega) (by decide) (by decide)]
          refine lv_iload hx hb dX1_leak_41 (lv_at hl 0 rfl) ?_
          refine lv_iconst (v := nI 4) hx hb dX1_leak_43 (by decide) ?_
          refine lv_irem hx hb dX1_leak_44 (by decide) ?_
          rw [pk_rem (by omega) (by decide) (by decide)]
          refine lv_iload_n hx hb dX1_leak_45 rfl (lv_at hl 3 rfl) ?_
          refine r_Vi (As := [.int (nI (k / 4)), .int (nI (k % 4)), .int (nI b9)]) (rest := []) fx (ct_X1_leaks l dC dI cy cz o a Z G T K (k / 4) (k % 4) b9 hI hR (by first | assumption | omega) (by first | assumption | omega) (by first | assumption | omega)) fyX1_leaks tM_RX1_112 rfl rfl ⟨Nat.le_of_ble_eq_true rfl, Nat.le_of_ble_eq_true rfl⟩ (m_pre hK hP) rfl hl.1 rfl (Nat.le_of_ble_eq_true rfl) dX1_leak_46 ⟨Nat.le_of_ble_eq_true rfl, Nat.le_of_ble_eq_true rfl⟩ (fun r_46 hr_46 => ?_)
          rcases hr_46 with ⟨rfl, hr_46⟩ | ⟨rfl, hr_46⟩
          ·
            have hlb : lkB Z b9 k = false := decide_eq_false hr_46
            refine x_if_ne_F (tgt := 55) hx hb (by decide) dX1_leak_49 (by decide) ?_
            refine lv_goto (tgt := 65) hx hb dX1_leak_52 (by decide) ?_
            refine lv_iinc (v := nI (k + 1)) (lv' := [(4, .int (nI (k + 1))), (3, .int (nI lf)), (0, .ref o), (1, .int (nI b9)), (2, .int (nI i1))]) hx hb dX1_leak_65 hl (k := 0) rfl (x_inc1 _) (by decide) rfl (fun ls hl => ?_)
            refine lv_goto (tgt := 25) hx hb dX1_leak_68 (by decide) ?_
            exact ih25 ls (k + 1) lf (lv_sub hl [0, 1, 2, 3, 4] rfl) (by omega) (by rw [fb_ct_succ, hlb]; first | (show lf - 1 + (fb_ct (lkB Z b9) k + 1) = _; omega) | (show lf + fb_ct (lkB Z b9) k = _; exact hll)) (by omega)
          ·
            have hlb : lkB Z b9 k = true := decide_eq_true hr_46
            refine x_if_ne_T (tgt := 55) hx hb (by decide) dX1_leak_49 (by decide) ?_
            refine lv_iload_n hx hb dX1_leak_55 rfl (lv_at hl 1 rfl) ?_
            refine x_ifn_ne (x := lf) (tgt := 62) hx hb (by omega) dX1_leak_56 (by decide) (fun c_56 => ?_) (fun c_56 => ?_)
            ·
              refine lv_iinc (v := nI (lf - 1)) (lv' := [(3, .int (nI (lf - 1))), (4, .int (nI k)), (0, .ref o), (1, .int (nI b9)), (2, .int (nI i1))]) hx hb dX1_leak_62 hl (k := 1) rfl (x_dec1 (by omega)) (by decide) rfl (fun ls hl => ?_)
              refine lv_iinc (v := nI (k + 1)) (lv' := [(4, .int (nI (k + 1))), (3, .int (nI (lf - 1))), (0, .ref o), (1, .int (nI b9)), (2, .int (nI i1))]) hx hb dX1_leak_65 hl (k := 1) rfl (x_inc1 _) (by decide) rfl (fun ls hl => ?_)
              refine lv_goto (tgt := 25) hx hb dX1_leak_68 (by decide) ?_
              exact ih25 ls (k + 1) (lf - 1) (lv_sub hl [0, 1, 2, 3, 4] rfl) (by omega) (by rw [fb_ct_succ, hlb]; first | (show lf - 1 + (fb_ct (lkB Z b9) k + 1) = _; omega) | (show lf + fb_ct (lkB Z b9) k = _; exact hll)) (by omega)
            ·
              refine lv_iload hx hb dX1_leak_59 (lv_at hl 0 rfl) ?_
              refine W.iret (v := (nI k)) hx hb hr (fun t9 ht9 hW9 => ⟨_, rfl, ?_, ht9⟩) (fun q h => by cases h) dX1_leak_61
              rw [fLek, if_neg hd0, if_pos i_b, t_b, t_i, kth_at (show k < Z 0 0 * 4 by omega) hlb (by omega)]
  ·
    refine lv_iconst (v := -1) hx hb dX1_leak_4 (by decide) ?_
    refine W.iret (v := (-1)) hx hb hr (fun t9 ht9 hW9 => ⟨_, rfl, ?_, ht9⟩) (fun q h => by cases h) dX1_leak_5
    rw [fLek, if_pos (fa_of_nle c_1)]

set_option maxHeartbeats 4000000 in
set_option maxRecDepth 100000 in
theorem ct_X1_pair (l : Launch) (dC : Nat → ClassId) (dI : Nat → Nat → Nat) (cy cz : ClassId) (o : Nat) (a : Nat → Nat) (Z : Nat → Nat → Nat) (G T K : Nat → Nat) (p : Int32) (m : Int32) (i : Int32) (hI : Inv Z) (hR : MRel Z G T K) : Met l yX1_pair (wS yX1_pair cX1_pair 7 (Option.some Jvm.ClassFile.FieldType.int)) (rmF 3 70) (va_Pc [.ref o, .int p, .int m, .int i] (mR dC dI cy cz o a Z G T K)) (vp_Si (fun r => r = fPar Z p m i)) 0 0 (fun _ => False) := by
  refine Met.ofW (cc := cX1_pair) (maxL := 7) (ret := (Option.some Jvm.ClassFile.FieldType.int)) (by decide) rfl ?_
  intro pg en sv mi ag bw mt cd s₁ BL hml hv
  obtain ⟨rfl, hP, hK⟩ := hv
  have hx := BL.exec
  have hb := BL.bytes
  have hr := BL.returns
  have hts : ∀ w ∈ lw_ok, w.before _ sv = true := fun w hw => atoms_spec (ws := wS yX1_pair cX1_pair 7 (Option.some Jvm.ClassFile.FieldType.int)) BL.pre w (List.mem_cons_of_mem _ hw)
  have hown : sv.vm.findClass RX1 = some mi.cls := findClass_of_methodNamed BL.named
  have hlocks := BL.notSynchronized
  have fx : CallFix pg mi cd cX1_pair 7 sv _ lw_ok RX1 := ⟨hx, hb, hml, hown, hts⟩
  have hl := lv_entry ([.ref o, .int p, .int m, .int i]) (n := 7) (Nat.le_of_ble_eq_true rfl)
  rw [lg_entry_eq]
  generalize (lg_sl ([.ref o, .int p, .int m, .int i]) ++ List.replicate (7 - (lg_sl ([.ref o, .int p, .int m, .int i])).length) Slot.unset).toArray = ls at hl ⊢
  replace hl : lv_has ls 7 [(0, .ref o), (1, .int p), (2, .int m), (3, .int i)] := hl
  obtain ⟨b0, b1, b2⟩ := hI.bd
  refine lv_aload_n hx hb dX1_pair_0 rfl (lv_at hl 0 rfl) ?_
  refine lv_iload_n hx hb dX1_pair_1 rfl (lv_at hl 1 rfl) ?_
  refine r_Vi (As := [.int p]) (rest := []) fx (ct_X1_isPaper l dC dI cy cz o a Z G T K p hI) fyX1_isPaper tM_RX1_63 rfl rfl ⟨Nat.le_of_ble_eq_true rfl, Nat.le_of_ble_eq_true rfl⟩ (m_pre hK hP) rfl hl.1 rfl (Nat.le_of_ble_eq_true rfl) dX1_pair_2 ⟨Nat.le_of_ble_eq_true rfl, Nat.le_of_ble_eq_true rfl⟩ (fun r_2 hr_2 => ?_)
  rcases hr_2 with ⟨rfl, hr_2⟩ | ⟨rfl, hr_2⟩
  ·
    refine x_if_eq_T (tgt := 12) hx hb (by decide) dX1_pair_5 (by decide) ?_
    refine lv_iconst (v := -1) hx hb dX1_pair_12 (by decide) ?_
    refine W.iret (v := (-1)) hx hb hr (fun t9 ht9 hW9 => ⟨_, rfl, ?_, ht9⟩) (fun q h => by cases h) dX1_pair_13
    first
    | (rw [fPar, if_neg (fun h => hr_2 h.1)]; done)
    | (rw [fPar, if_neg (fun h => h.2 (fa_of_nle c_9))]; done)
  ·
    have i_p := hr_2
    obtain ⟨p1, -, h_p1, rfl⟩ := inR_of i_p
    have t_p : tn (nI p1) = p1 := tn_nI (by omega)
    refine x_if_eq_F (tgt := 12) hx hb (by decide) dX1_pair_5 (by decide) ?_
    refine lv_iload_n hx hb dX1_pair_8 rfl (lv_at hl 3 rfl) ?_
    refine lv_if_ge (tgt := 14) hx hb dX1_pair_9 (by decide) (fun c_9 => ?_) (fun c_9 => ?_)
    ·
      have hd0 : ¬ i < 0 := fun h => (fa_of_lt h).2.1 c_9
      obtain ⟨i1, h_i1, rfl⟩ := nI_of hd0
      have t_i : tn (nI i1) = i1 := tn_nI h_i1
      refine lv_iload_n hx hb dX1_pair_14 rfl (lv_at hl 2 rfl) ?_
      refine lv_iconst (v := nI 1) hx hb dX1_pair_15 (by decide) ?_
      refine lv_icmp_ge (tgt := 22) hx hb dX1_pair_16 (by decide) (fun c_16 => ?_) (fun c_16 => ?_)
      ·
        refine lv_iload_n hx hb dX1_pair_22 rfl (lv_at hl 3 rfl) ?_
        refine lv_istore (lv' := [(4, .int (nI i1)), (0, .ref o), (1, .int (nI p1)), (2, .int m), (3, .int (nI i1))]) hx hb dX1_pair_23 hl (by decide) rfl (fun ls hl => ?_)
        refine lv_iconst (v := nI 0) hx hb dX1_pair_25 (by decide) ?_
        refine lv_istore (lv' := [(5, .int (nI 0)), (4, .int (nI i1)), (0, .ref o), (1, .int (nI p1)), (2, .int m), (3, .int (nI i1))]) hx hb dX1_pair_26 hl (by decide) rfl (fun ls hl => ?_)
        obtain ⟨u, eu⟩ : ∃ u : Nat, u = 0 := ⟨_, rfl⟩
        obtain ⟨lf, elf⟩ : ∃ lf : Nat, lf = i1 := ⟨_, rfl⟩
        replace hl : lv_has ls 7 [(5, .int (nI u)), (4, .int (nI lf)), (0, .ref o), (1, .int (nI p1)), (2, .int m), (3, .int (nI i1))] := by subst eu elf; exact lv_sub hl [0, 1, 2, 3, 4, 5] rfl
        have hu : u ≤ Z 0 2 := by subst eu elf; omega
        have hll : lf + fb_ct (prB Z p1 m) (u * 64) = i1 := by subst eu elf; rfl
        clear eu elf
        obtain ⟨n28, hn28⟩ : ∃ n_0 : Nat, Z 0 2 - u < n_0 := ⟨_, Nat.lt_succ_self _⟩
        induction n28 generalizing u lf ls with
        | zero => exact absurd hn28 (Nat.not_lt_zero _)
        | succ n28 ih28 =>
          refine lv_iload hx hb dX1_pair_28 (lv_at hl 0 rfl) ?_
          refine lv_aload_n hx hb dX1_pair_30 rfl (lv_at hl 2 rfl) ?_
          refine m_g2 hx hb hts hown hK hP dX1_pair_31 ?_
          refine x_icmp_ge (x := u) (y := Z 0 2) (tgt := 118) hx hb (by omega) (by omega) dX1_pair_34 (by decide) (fun c_34 => ?_) (fun c_34 => ?_)
          ·
            refine lv_iconst (v := -1) hx hb dX1_pair_118 (by decide) ?_
            refine W.iret (v := (-1)) hx hb hr (fun t9 ht9 hW9 => ⟨_, rfl, ?_, ht9⟩) (fun q h => by cases h) dX1_pair_119
            rw [fPar, if_pos ⟨i_p, hd0⟩, if_neg (show ¬ m < 1 from fun h => (fa_of_lt h).2.1 c_16), t_p, t_i, kth_none (by rw [show Z 0 2 * 64 = u * 64 by omega]; omega)]
          ·
            have hpu := hI.pu (u := u) (by omega)
            refine lv_iload hx hb dX1_pair_37 (lv_at hl 0 rfl) ?_
            refine lv_iconst (v := nI 1) hx hb dX1_pair_39 (by decide) ?_
            refine x_iadd hx hb dX1_pair_40 ?_
            refine lv_istore (lv' := [(6, .int (nI (u + 1))), (5, .int (nI u)), (4, .int (nI lf)), (0, .ref o), (1, .int (nI p1)), (2, .int m), (3, .int (nI i1))]) hx hb dX1_pair_41 hl (by decide) rfl (fun ls hl => ?_)
            obtain ⟨v, ev⟩ : ∃ v : Nat, v = u + 1 := ⟨_, rfl⟩
            obtain ⟨lg, elg⟩ : ∃ lg : Nat, lg = lf := ⟨_, rfl⟩
            replace hl : lv_has ls 7 [(6, .int (nI v)), (5, .int (nI u)), (4, .int (nI lg)), (0, .ref o), (1, .int (nI p1)), (2, .int m), (3, .int (nI i1))] := by subst ev elg; exact lv_sub hl [0, 1, 2, 3, 4, 5, 6] rfl
            have hv : u + 1 ≤ v ∧ v ≤ Z 0 2 := by subst ev elg; omega
            have hl2 : lg + fb_ct (prB Z p1 m) (u * 64 + v) = i1 := by subst ev elg; rw [prB_lo (by omega)]; exact hll
            clear ev elg
            obtain ⟨n43, hn43⟩ : ∃ n_0 : Nat, Z 0 2 - v < n_0 := ⟨_, Nat.lt_succ_self _⟩
            induction n43 generalizing v lg ls with
            | zero => exact absurd hn43 (Nat.not_lt_zero _)
            | succ n43 ih43 =>
              refine lv_iload hx hb dX1_pair_43 (lv_at hl 0 rfl) ?_
              refine lv_aload_n hx hb dX1_pair_45 rfl (lv_at hl 3 rfl) ?_
              refine m_g2 hx hb hts hown hK hP dX1_pair_46 ?_
              refine x_icmp_ge (x := v) (y := Z 0 2) (tgt := 112) hx hb (by omega) (by omega) dX1_pair_49 (by decide) (fun c_49 => ?_) (fun c_49 => ?_)
              ·
                refine lv_iinc (v := nI (u + 1)) (lv' := [(5, .int (nI (u + 1))), (6, .int (nI v)), (4, .int (nI lg)), (0, .ref o), (1, .int (nI p1)), (2, .int m), (3, .int (nI i1))]) hx hb dX1_pair_112 hl (k := 1) rfl (x_inc1 _) (by decide) rfl (fun ls hl => ?_)
                refine lv_goto (tgt := 28) hx hb dX1_pair_115 (by decide) ?_
                exact ih28 ls (u + 1) lg (lv_sub hl [0, 2, 3, 4, 5, 6] rfl) (by omega) (by rw [prB_hi hI, show Z 0 2 = v by omega]; exact hl2) (by omega)
              ·
                have hpv := hI.pu (u := v) (by omega)
                refine lv_aload_n hx hb dX1_pair_52 rfl (lv_at hl 3 rfl) ?_
                refine m_g9 hx hb hts hown hK hP dX1_pair_53 ?_
                refine lv_iload hx hb dX1_pair_56 (lv_at hl 1 rfl) ?_
                refine m_l9 (j := u) hx hb hK hP (by omega) dX1_pair_58 ?_
                refine lv_iload_n hx hb dX1_pair_59 rfl (lv_at hl 4 rfl) ?_
                refine x_icmp_ne (x := Z 11 u) (y := p1) (tgt := 106) hx hb (by omega) (by omega) dX1_pair_60 (by decide) (fun c_60 => ?_) (fun c_60 => ?_)
                ·
                  have hlb : prB Z p1 m (u * 64 + v) = false := by rw [prB_at (by omega)]; exact decide_eq_false (fun h => c_60 h.2.2.1)
                  refine lv_iinc (v := nI (v + 1)) (lv' := [(6, .int (nI (v + 1))), (5, .int (nI u)), (4, .int (nI lg)), (0, .ref o), (1, .int (nI p1)), (2, .int m), (3, .int (nI i1))]) hx hb dX1_pair_106 hl (k := 0) rfl (x_inc1 _) (by decide) rfl (fun ls hl => ?_)
                  refine lv_goto (tgt := 43) hx hb dX1_pair_109 (by decide) ?_
                  exact ih43 ls (v + 1) lg (lv_sub hl [0, 1, 2, 3, 4, 5, 6] rfl) (by omega) (by rw [show u * 64 + (v + 1) = u * 64 + v + 1 from rfl, fb_ct_succ, hlb]; first | (show lg - 1 + (fb_ct (prB Z p1 m) (u * 64 + v) + 1) = _; omega) | (show lg + fb_ct (prB Z p1 m) (u * 64 + v) = _; exact hl2)) (by omega)
                ·
                  refine lv_aload_n hx hb dX1_pair_63 rfl (lv_at hl 3 rfl) ?_
                  refine m_g9 hx hb hts hown hK hP dX1_pair_64 ?_
                  refine lv_iload hx hb dX1_pair_67 (lv_at hl 0 rfl) ?_
                  refine m_l9 (j := v) hx hb hK hP (by omega) dX1_pair_69 ?_
                  refine lv_iload_n hx hb dX1_pair_70 rfl (lv_at hl 4 rfl) ?_
                  refine x_icmp_ne (x := Z 11 v) (y := p1) (tgt := 106) hx hb (by omega) (by omega) dX1_pair_71 (by decide) (fun c_71 => ?_) (fun c_71 => ?_)
                  ·
                    have hlb : prB Z p1 m (u * 64 + v) = false := by rw [prB_at (by omega)]; exact decide_eq_false (fun h => c_71 h.2.2.2.1)
                    refine lv_iinc (v := nI (v + 1)) (lv' := [(6, .int (nI (v + 1))), (5, .int (nI u)), (4, .int (nI lg)), (0, .ref o), (1, .int (nI p1)), (2, .int m), (3, .int (nI i1))]) hx hb dX1_pair_106 hl (k := 0) rfl (x_inc1 _) (by decide) rfl (fun ls hl => ?_)
                    refine lv_goto (tgt := 43) hx hb dX1_pair_109 (by decide) ?_
                    exact ih43 ls (v + 1) lg (lv_sub hl [0, 1, 2, 3, 4, 5, 6] rfl) (by omega) (by rw [show u * 64 + (v + 1) = u * 64 + v + 1 from rfl, fb_ct_succ, hlb]; first | (show lg - 1 + (fb_ct (prB Z p1 m) (u * 64 + v) + 1) = _; omega) | (show lg + fb_ct (prB Z p1 m) (u * 64 + v) = _; exact hl2)) (by omega)
                  ·
                    refine lv_aload_n hx hb dX1_pair_74 rfl (lv_at hl 3 rfl) ?_
                    refine lv_iload hx hb dX1_pair_75 (lv_at hl 1 rfl) ?_
                    refine lv_iload hx hb dX1_pair_77 (lv_at hl 0 rfl) ?_
                    refine r_Vi (As := [.int (nI u), .int (nI v)]) (rest := []) fx (ct_X1_alikeMany l dC dI cy cz o a Z G T K u v hI hR (by first | assumption | omega) (by first | assumption | omega) (by first | assumption | omega)) fyX1_alikeMany tM_RX1_148 rfl rfl ⟨Nat.le_of_ble_eq_true rfl, Nat.le_of_ble_eq_true rfl⟩ (m_pre hK hP) rfl hl.1 rfl (Nat.le_of_ble_eq_true rfl) dX1_pair_79 ⟨Nat.le_of_ble_eq_true rfl, Nat.le_of_ble_eq_true rfl⟩ (fun r_79 hr_79 => ?_)
                    subst hr_79
                    refine lv_iload_n hx hb dX1_pair_82 rfl (lv_at hl 5 rfl) ?_
                    refine lv_icmp_ge (tgt := 89) hx hb dX1_pair_83 (by decide) (fun c_83 => ?_) (fun c_83 => ?_)
                    ·
                      have hlb : prB Z p1 m (u * 64 + v) = true := by rw [prB_at (by omega)]; exact decide_eq_true ⟨by omega, by omega, c_60, c_71, fun h => (fa_of_lt h).2.1 c_83⟩
                      refine lv_iload hx hb dX1_pair_89 (lv_at hl 2 rfl) ?_
                      refine x_ifn_ne (x := lg) (tgt := 103) hx hb (by omega) dX1_pair_91 (by decide) (fun c_91 => ?_) (fun c_91 => ?_)
                      ·
                        refine lv_iinc (v := nI (lg - 1)) (lv' := [(4, .int (nI (lg - 1))), (6, .int (nI v)), (5, .int (nI u)), (0, .ref o), (1, .int (nI p1)), (2, .int m), (3, .int (nI i1))]) hx hb dX1_pair_103 hl (k := 2) rfl (x_dec1 (by omega)) (by decide) rfl (fun ls hl => ?_)
                        refine lv_iinc (v := nI (v + 1)) (lv' := [(6, .int (nI (v + 1))), (4, .int (nI (lg - 1))), (5, .int (nI u)), (0, .ref o), (1, .int (nI p1)), (2, .int m), (3, .int (nI i1))]) hx hb dX1_pair_106 hl (k := 1) rfl (x_inc1 _) (by decide) rfl (fun ls hl => ?_)
                        refine lv_goto (tgt := 43) hx hb dX1_pair_109 (by decide) ?_
                        exact ih43 ls (v + 1) (lg - 1) (lv_sub hl [0, 2, 1, 3, 4, 5, 6] rfl) (by omega) (by rw [show u * 64 + (v + 1) = u * 64 + v + 1 from rfl, fb_ct_succ, hlb]; first | (show lg - 1 + (fb_ct (prB Z p1 m) (u * 64 + v) + 1) = _; omega) | (show lg + fb_ct (prB Z p1 m) (u * 64 + v) = _; exact hl2)) (by omega)
                      ·
                        refine lv_bipush (v := nI 64) hx hb dX1_pair_94 (by decide) ?_
                        refine lv_iload hx hb dX1_pair_96 (lv_at hl 1 rfl) ?_
                        refine x_imulc hx hb dX1_pair_98 ?_
                        refine lv_iload hx hb dX1_pair_99 (lv_at hl 0 rfl) ?_
                        refine x_iadd hx hb dX1_pair_101 ?_
                        refine W.iret (v := (nI (u * 64 + v))) hx hb hr (fun t9 ht9 hW9 => ⟨_, rfl, ?_, ht9⟩) (fun q h => by cases h) dX1_pair_102
                        rw [fPar, if_pos ⟨i_p, hd0⟩, if_neg (show ¬ m < 1 from fun h => (fa_of_lt h).2.1 c_16), t_p, t_i, kth_at (show u * 64 + v < Z 0 2 * 64 by omega) hlb (by omega)]
                    ·
                      have hlb : prB Z p1 m (u * 64 + v) = false := by rw [prB_at (by omega)]; exact decide_eq_false (fun h => h.2.2.2.2 (fa_of_nle c_83))
                      refine lv_goto (tgt := 106) hx hb dX1_pair_86 (by decide) ?_
                      refine lv_iinc (v := nI (v + 1)) (lv' := [(6, .int (nI (v + 1))), (5, .int (nI u)), (4, .int (nI lg)), (0, .ref o), (1, .int (nI p1)), (2, .int m), (3, .int (nI i1))]) hx hb dX1_pair_106 hl (k := 0) rfl (x_inc1 _) (by decide) rfl (fun ls hl => ?_)
                      refine lv_goto (tgt := 43) hx hb dX1_pair_109 (by decide) ?_
                      exact ih43 ls (v + 1) lg (lv_sub hl [0, 1, 2, 3, 4, 5, 6] rfl) (by omega) (by rw [show u * 64 + (v + 1) = u * 64 + v + 1 from rfl, fb_ct_succ, hlb]; first | (show lg - 1 + (fb_ct (prB Z p1 m) (u * 64 + v) + 1) = _; omega) | (show lg + fb_ct (prB Z p1 m) (u * 64 + v) = _; exact hl2)) (by omega)
      ·
        refine lv_bipush (v := -2) hx hb dX1_pair_19 (by decide) ?_
        refine W.iret (v := (-2)) hx hb hr (fun t9 ht9 hW9 => ⟨_, rfl, ?_, ht9⟩) (fun q h => by cases h) dX1_pair_21
        rw [fPar, if_pos ⟨i_p, hd0⟩, if_pos (show m < 1 from fa_of_nle c_16)]
    ·
      refine lv_iconst (v := -1) hx hb dX1_pair_12 (by decide) ?_
      refine W.iret (v := (-1)) hx hb hr (fun t9 ht9 hW9 => ⟨_, rfl, ?_, ht9⟩) (fun q h => by cases h) dX1_pair_13
      first
      | (rw [fPar, if_neg (fun h => hr_2 h.1)]; done)
      | (rw [fPar, if_neg (fun h => h.2 (fa_of_nle c_9))]; done)

set_option maxHeartbeats 4000000 in
set_option maxRecDepth 100000 in
theorem ct_X1_count (l : Launch) (dC : Nat → ClassId) (dI : Nat → Nat → Nat) (cy cz : ClassId) (o : Nat) (a : Nat → Nat) (Z : Nat → Nat → Nat) (G T K : Nat → Nat) (w : Int32) (hI : Inv Z) (hR : MRel Z G T K) : Met l yX1_count (wS yX1_count cX1_count 5 (Option.some Jvm.ClassFile.FieldType.int)) (rmF 4 89) (va_Pc [.ref o, .int w] (mR dC dI cy cz o a Z G T K)) (vp_Si (fun r => r = fCnt Z w)) 0 0 (fun _ => False) := by
  refine Met.ofW (cc := cX1_count) (maxL := 5) (ret := (Option.some Jvm.ClassFile.FieldType.int)) (by decide) rfl ?_
  intro pg en sv mi ag bw mt cd s₁ BL hml hv
  obtain ⟨rfl, hP, hK⟩ := hv
  have hx := BL.exec
  have hb := BL.bytes
  have hr := BL.returns
  have hts : ∀ w ∈ lw_ok, w.before _ sv = true := fun w hw => atoms_spec (ws := wS yX1_count cX1_count 5 (Option.some Jvm.ClassFile.FieldType.int)) BL.pre w (List.mem_cons_of_mem _ hw)
  have hown : sv.vm.findClass RX1 = some mi.cls := findClass_of_methodNamed BL.named
  have hlocks := BL.notSynchronized
  have fx : CallFix pg mi cd cX1_count 5 sv _ lw_ok RX1 := ⟨hx, hb, hml, hown, hts⟩
  have hl := lv_entry ([.ref o, .int w]) (n := 5) (Nat.le_of_ble_eq_true rfl)
  rw [lg_entry_eq]
  generalize (lg_sl ([.ref o, .int w]) ++ List.replicate (5 - (lg_sl ([.ref o, .int w])).length) Slot.unset).toArray = ls at hl ⊢
  replace hl : lv_has ls 5 [(0, .ref o), (1, .int w)] := hl
  obtain ⟨b0, b1, b2⟩ := hI.bd
  refine lv_iconst (v := nI 0) hx hb dX1_count_0 (by decide) ?_
  refine lv_istore_n (lv' := [(2, .int (nI 0)), (0, .ref o), (1, .int w)]) hx hb dX1_count_1 rfl hl (by decide) rfl (fun ls hl => ?_)
  refine lv_iload_n hx hb dX1_count_2 rfl (lv_at hl 2 rfl) ?_
  by_cases e_0 : w = nI 0
  ·
    subst e_0
    refine lv_tableIn (off := 37) (tgt := 40) hx hb dX1_count_3 (by decide) (by decide) (by decide) (by decide) ?_
    refine lv_aload_n hx hb dX1_count_40 rfl (lv_at hl 1 rfl) ?_
    refine m_g0 hx hb hts hown hK hP dX1_count_41 ?_
    refine W.iret (v := (nI (Z 0 0))) hx hb hr (fun t9 ht9 hW9 => ⟨_, rfl, ?_, ht9⟩) (fun q h => by cases h) dX1_count_44
    rfl
  by_cases e_1 : w = nI 1
  ·
    subst e_1
    refine lv_tableIn (off := 42) (tgt := 45) hx hb dX1_count_3 (by decide) (by decide) (by decide) (by decide) ?_
    refine lv_aload_n hx hb dX1_count_45 rfl (lv_at hl 1 rfl) ?_
    refine m_g1 hx hb hts hown hK hP dX1_count_46 ?_
    refine W.iret (v := (nI (Z 0 1))) hx hb hr (fun t9 ht9 hW9 => ⟨_, rfl, ?_, ht9⟩) (fun q h => by cases h) dX1_count_49
    rfl
  by_cases e_2 : w = nI 2
  ·
    subst e_2
    refine lv_tableIn (off := 47) (tgt := 50) hx hb dX1_count_3 (by decide) (by decide) (by decide) (by decide) ?_
    refine lv_aload_n hx hb dX1_count_50 rfl (lv_at hl 1 rfl) ?_
    refine m_g2 hx hb hts hown hK hP dX1_count_51 ?_
    refine W.iret (v := (nI (Z 0 2))) hx hb hr (fun t9 ht9 hW9 => ⟨_, rfl, ?_, ht9⟩) (fun q h => by cases h) dX1_count_54
    rfl
  by_cases e_3 : w = nI 3
  ·
    subst e_3
    refine lv_tableIn (off := 52) (tgt := 55) hx hb dX1_count_3 (by decide) (by decide) (by decide) (by decide) ?_
    refine lv_iconst (v := nI 0) hx hb dX1_count_55 (by decide) ?_
    refine lv_istore_n (lv' := [(3, .int (nI 0)), (2, .int (nI 0)), (0, .ref o), (1, .int (nI 3))]) hx hb dX1_count_56 rfl hl (by decide) rfl (fun ls hl => ?_)
    obtain ⟨u, eu⟩ : ∃ u : Nat, u = 0 := ⟨_, rfl⟩
    obtain ⟨t, et⟩ : ∃ t : Nat, t = 0 := ⟨_, rfl⟩
    replace hl : lv_has ls 5 [(3, .int (nI u)), (2, .int (nI t)), (0, .ref o), (1, .int (nI 3))] := by subst eu et; exact lv_sub hl [0, 1, 2, 3] rfl
    have hu : u ≤ Z 0 2 := by subst eu et; omega
    have ht : t = fb_ct (fun i => !(Z 13 i == 0)) (u * 12) := by subst eu et; rfl
    clear eu et
    obtain ⟨n57, hn57⟩ : ∃ n_0 : Nat, Z 0 2 - u < n_0 := ⟨_, Nat.lt_succ_self _⟩
    induction n57 generalizing u t ls with
    | zero => exact absurd hn57 (Nat.not_lt_zero _)
    | succ n57 ih57 =>
      refine lv_iload_n hx hb dX1_count_57 rfl (lv_at hl 0 rfl) ?_
      refine lv_aload_n hx hb dX1_count_58 rfl (lv_at hl 2 rfl) ?_
      refine m_g2 hx hb hts hown hK hP dX1_count_59 ?_
      refine x_icmp_ge (x := u) (y := Z 0 2) (tgt := 119) hx hb (by omega) (by omega) dX1_count_62 (by decide) (fun c_62 => ?_) (fun c_62 => ?_)
      ·
        refine lv_iload_n hx hb dX1_count_119 rfl (lv_at hl 1 rfl) ?_
        refine W.iret (v := (nI t)) hx hb hr (fun t9 ht9 hW9 => ⟨_, rfl, ?_, ht9⟩) (fun q h => by cases h) dX1_count_120
        rw [ht, show u = Z 0 2 by omega]; rfl
      ·
        have hpu := hI.pu (u := u) (by omega)
        have hsz := hI.sz (p := Z 11 u) (by omega)
        refine lv_iconst (v := nI 0) hx hb dX1_count_65 (by decide) ?_
        refine lv_istore (lv' := [(4, .int (nI 0)), (3, .int (nI u)), (2, .int (nI t)), (0, .ref o), (1, .int (nI 3))]) hx hb dX1_count_66 hl (by decide) rfl (fun ls hl => ?_)
        obtain ⟨i, ei⟩ : ∃ i : Nat, i = 0 := ⟨_, rfl⟩
        obtain ⟨s, es⟩ : ∃ s : Nat, s = t := ⟨_, rfl⟩
        replace hl : lv_has ls 5 [(4, .int (nI i)), (3, .int (nI u)), (2, .int (nI s)), (0, .ref o), (1, .int (nI 3))] := by subst ei es; exact lv_sub hl [0, 1, 2, 3, 4] rfl
        have hi : i ≤ Z 8 (Z 11 u) := by subst ei es; omega
        have ht2 : s = fb_ct (fun i => !(Z 13 i == 0)) (u * 12 + i) := by subst ei es; exact ht
        clear ei es
        obtain ⟨n68, hn68⟩ : ∃ n_0 : Nat, Z 8 (Z 11 u) - i < n_0 := ⟨_, Nat.lt_succ_self _⟩
        induction n68 generalizing i s ls with
        | zero => exact absurd hn68 (Nat.not_lt_zero _)
        | succ n68 ih68 =>
          refine lv_iload hx hb dX1_count_68 (lv_at hl 0 rfl) ?_
          refine lv_aload_n hx hb dX1_count_70 rfl (lv_at hl 3 rfl) ?_
          refine m_g8 hx hb hts hown hK hP dX1_count_71 ?_
          refine lv_aload_n hx hb dX1_count_74 rfl (lv_at hl 3 rfl) ?_
          refine m_g9 hx hb hts hown hK hP dX1_count_75 ?_
          refine lv_iload_n hx hb dX1_count_78 rfl (lv_at hl 1 rfl) ?_
          refine m_l9 (j := u) hx hb hK hP (by omega) dX1_count_79 ?_
          refine m_l8 (j := Z 11 u) hx hb hK hP (by omega) dX1_count_80 ?_
          refine x_icmp_ge (x := i) (y := Z 8 (Z 11 u)) (tgt := 113) hx hb (by omega) (by omega) dX1_count_81 (by decide) (fun c_81 => ?_) (fun c_81 => ?_)
          ·
            refine lv_iinc (v := nI (u + 1)) (lv' := [(3, .int (nI (u + 1))), (4, .int (nI i)), (2, .int (nI s)), (0, .ref o), (1, .int (nI 3))]) hx hb dX1_count_113 hl (k := 1) rfl (x_inc1 _) (by decide) rfl (fun ls hl => ?_)
            refine lv_goto (tgt := 57) hx hb dX1_count_116 (by decide) ?_
            exact ih57 ls (u + 1) s (lv_sub hl [0, 2, 3, 4] rfl) (by omega) (by rw [cntA_row hI (by omega), ht2, show Z 8 (Z 11 u) = i by omega]) (by omega)
          ·
            refine lv_iload_n hx hb dX1_count_84 rfl (lv_at hl 2 rfl) ?_
            refine lv_aload_n hx hb dX1_count_85 rfl (lv_at hl 3 rfl) ?_
            refine m_g11 hx hb hts hown hK hP dX1_count_86 ?_
            refine lv_bipush (v := nI 12) hx hb dX1_count_89 (by decide) ?_
            refine lv_iload_n hx hb dX1_count_91 rfl (lv_at hl 1 rfl) ?_
            refine x_imulc hx hb dX1_count_92 ?_
            refine lv_iload hx hb dX1_count_93 (lv_at hl 0 rfl) ?_
            refine x_iadd hx hb dX1_count_95 ?_
            refine m_l11 (j := u * 12 + i) hx hb hK hP (by omega) dX1_count_96 ?_
            rw [hR.g (show u < Z 0 2 by omega) (show i < 12 by omega)]
            refine x_gap (fun hg_96 => ?_) (fun kg_96 hg_96 => ?_)
            ·
              refine x_if_lt_T (tgt := 104) hx hb (by decide) dX1_count_97 (by decide) ?_
              refine lv_iconst (v := nI 0) hx hb dX1_count_104 (by decide) ?_
              refine x_iadd hx hb dX1_count_105 ?_
              refine lv_istore_n (lv' := [(2, .int (nI (s + 0))), (4, .int (nI i)), (3, .int (nI u)), (0, .ref o), (1, .int (nI 3))]) hx hb dX1_count_106 rfl hl (by decide) rfl (fun ls hl => ?_)
              refine lv_iinc (v := nI (i + 1)) (lv' := [(4, .int (nI (i + 1))), (2, .int (nI (s + 0))), (3, .int (nI u)), (0, .ref o), (1, .int (nI 3))]) hx hb dX1_count_107 hl (k := 1) rfl (x_inc1 _) (by decide) rfl (fun ls hl => ?_)
              refine lv_goto (tgt := 68) hx hb dX1_count_110 (by decide) ?_
              exact ih68 ls (i + 1) (s + 0) (lv_sub hl [0, 2, 1, 3, 4] rfl) (by omega) (by rw [show u * 12 + (i + 1) = u * 12 + i + 1 from rfl, fb_ct_succ, ← ht2]; simp [hg_96]) (by omega)
            ·
              have hkt := an_le hI (show u * 12 + i < 720 by omega)
              refine x_if_lt_F (tgt := 104) hx hb (nI_pos (by omega)) dX1_count_97 (by decide) ?_
              refine lv_iconst (v := nI 1) hx hb dX1_count_100 (by decide) ?_
              refine lv_goto (tgt := 105) hx hb dX1_count_101 (by decide) ?_
              refine x_iadd hx hb dX1_count_105 ?_
              refine lv_istore_n (lv' := [(2, .int (nI (s + 1))), (4, .int (nI i)), (3, .int (nI u)), (0, .ref o), (1, .int (nI 3))]) hx hb dX1_count_106 rfl hl (by decide) rfl (fun ls hl => ?_)
              refine lv_iinc (v := nI (i + 1)) (lv' := [(4, .int (nI (i + 1))), (2, .int (nI (s + 1))), (3, .int (nI u)), (0, .ref o), (1, .int (nI 3))]) hx hb dX1_count_107 hl (k := 1) rfl (x_inc1 _) (by decide) rfl (fun ls hl => ?_)
              refine lv_goto (tgt := 68) hx hb dX1_count_110 (by decide) ?_
              exact ih68 ls (i + 1) (s + 1) (lv_sub hl [0, 2, 1, 3, 4] rfl) (by omega) (by rw [show u * 12 + (i + 1) = u * 12 + i + 1 from rfl, fb_ct_succ, ← ht2]; simp [hg_96]) (by omega)
  by_cases e_4 : w = nI 4
  ·
    subst e_4
    refine lv_tableIn (off := 118) (tgt := 121) hx hb dX1_count_3 (by decide) (by decide) (by decide) (by decide) ?_
    refine lv_iconst (v := nI 0) hx hb dX1_count_121 (by decide) ?_
    refine lv_istore_n (lv' := [(3, .int (nI 0)), (2, .int (nI 0)), (0, .ref o), (1, .int (nI 4))]) hx hb dX1_count_122 rfl hl (by decide) rfl (fun ls hl => ?_)
    obtain ⟨j, ej⟩ : ∃ j : Nat, j = 0 := ⟨_, rfl⟩
    obtain ⟨t, et⟩ : ∃ t : Nat, t = 0 := ⟨_, rfl⟩
    replace hl : lv_has ls 5 [(3, .int (nI j)), (2, .int (nI t)), (0, .ref o), (1, .int (nI 4))] := by subst ej et; exact lv_sub hl [0, 1, 2, 3] rfl
    have hj : j ≤ Z 0 0 := by subst ej et; omega
    have ht : t = fb_ct (fun q => (Z 0 3).testBit q) j := by subst ej et; rfl
    clear ej et
    obtain ⟨n123, hn123⟩ : ∃ n_0 : Nat, Z 0 0 - j < n_0 := ⟨_, Nat.lt_succ_self _⟩
    induction n123 generalizing j t ls with
    | zero => exact absurd hn123 (Nat.not_lt_zero _)
    | succ n123 ih123 =>
      refine lv_iload_n hx hb dX1_count_123 rfl (lv_at hl 0 rfl) ?_
      refine lv_aload_n hx hb dX1_count_124 rfl (lv_at hl 2 rfl) ?_
      refine m_g0 hx hb hts hown hK hP dX1_count_125 ?_
      refine x_icmp_ge (x := j) (y := Z 0 0) (tgt := 154) hx hb (by omega) (by omega) dX1_count_128 (by decide) (fun c_128 => ?_) (fun c_128 => ?_)
      ·
        refine lv_iload_n hx hb dX1_count_154 rfl (lv_at hl 1 rfl) ?_
        refine W.iret (v := (nI t)) hx hb hr (fun t9 ht9 hW9 => ⟨_, rfl, ?_, ht9⟩) (fun q h => by cases h) dX1_count_155
        rw [ht, show j = Z 0 0 by omega]; rfl
      ·
        refine lv_iload_n hx hb dX1_count_131 rfl (lv_at hl 1 rfl) ?_
        refine lv_aload_n hx hb dX1_count_132 rfl (lv_at hl 2 rfl) ?_
        refine m_g6 hx hb hts hown hK hP dX1_count_133 ?_
        refine lv_iload_n hx hb dX1_count_136 rfl (lv_at hl 0 rfl) ?_
        refine m_l6 (j := j) hx hb hK hP (by omega) dX1_count_137 ?_
        rw [hR.k (show j < 30 by omega)]
        refine x_ifn_eq (x := if (Z 0 3).testBit j then 1 else 0) (tgt := 145) hx hb (by split <;> decide) dX1_count_138 (by decide) (fun c_138 => ?_) (fun c_138 => ?_)
        ·
          have hbt : (Z 0 3).testBit j = false := by
            cases h : (Z 0 3).testBit j with
            | false => rfl
            | true => rw [h] at c_138; exact absurd c_138 (by decide)
          refine lv_iconst (v := nI 0) hx hb dX1_count_145 (by decide) ?_
          refine x_iadd hx hb dX1_count_146 ?_
          refine lv_istore_n (lv' := [(2, .int (nI (t + 0))), (3, .int (nI j)), (0, .ref o), (1, .int (nI 4))]) hx hb dX1_count_147 rfl hl (by decide) rfl (fun ls hl => ?_)
          refine lv_iinc (v := nI (j + 1)) (lv' := [(3, .int (nI (j + 1))), (2, .int (nI (t + 0))), (0, .ref o), (1, .int (nI 4))]) hx hb dX1_count_148 hl (k := 1) rfl (x_inc1 _) (by decide) rfl (fun ls hl => ?_)
          refine lv_goto (tgt := 123) hx hb dX1_count_151 (by decide) ?_
          exact ih123 ls (j + 1) (t + 0) (lv_sub hl [0, 1, 2, 3] rfl) (by omega) (by rw [fb_ct_succ, ← ht, hbt]; rfl) (by omega)
        ·
          have hbt : (Z 0 3).testBit j = true := by
            cases h : (Z 0 3).testBit j with
            | true => rfl
            | false => rw [h] at c_138; exact absurd rfl c_138
          refine lv_iconst (v := nI 1) hx hb dX1_count_141 (by decide) ?_
          refine lv_goto (tgt := 146) hx hb dX1_count_142 (by decide) ?_
          refine x_iadd hx hb dX1_count_146 ?_
          refine lv_istore_n (lv' := [(2, .int (nI (t + 1))), (3, .int (nI j)), (0, .ref o), (1, .int (nI 4))]) hx hb dX1_count_147 rfl hl (by decide) rfl (fun ls hl => ?_)
          refine lv_iinc (v := nI (j + 1)) (lv' := [(3, .int (nI (j + 1))), (2, .int (nI (t + 1))), (0, .ref o), (1, .int (nI 4))]) hx hb dX1_count_148 hl (k := 1) rfl (x_inc1 _) (by decide) rfl (fun ls hl => ?_)
          refine lv_goto (tgt := 123) hx hb dX1_count_151 (by decide) ?_
          exact ih123 ls (j + 1) (t + 1) (lv_sub hl [0, 1, 2, 3] rfl) (by omega) (by rw [fb_ct_succ, ← ht, hbt]; rfl) (by omega)
  by_cases e_5 : w = nI 5
  ·
    subst e_5
    refine lv_tableIn (off := 153) (tgt := 156) hx hb dX1_count_3 (by decide) (by decide) (by decide) (by decide) ?_
    refine lv_iconst (v := nI 0) hx hb dX1_count_156 (by decide) ?_
    refine lv_istore_n (lv' := [(3, .int (nI 0)), (2, .int (nI 0)), (0, .ref o), (1, .int (nI 5))]) hx hb dX1_count_157 rfl hl (by decide) rfl (fun ls hl => ?_)
    obtain ⟨j, ej⟩ : ∃ j : Nat, j = 0 := ⟨_, rfl⟩
    obtain ⟨t, et⟩ : ∃ t : Nat, t = 0 := ⟨_, rfl⟩
    replace hl : lv_has ls 5 [(3, .int (nI j)), (2, .int (nI t)), (0, .ref o), (1, .int (nI 5))] := by subst ej et; exact lv_sub hl [0, 1, 2, 3] rfl
    have hj : j ≤ Z 0 2 := by subst ej et; omega
    have ht : t = fb_ct (fun u => decide (pas Z u)) j := by subst ej et; rfl
    clear ej et
    obtain ⟨n158, hn158⟩ : ∃ n_0 : Nat, Z 0 2 - j < n_0 := ⟨_, Nat.lt_succ_self _⟩
    induction n158 generalizing j t ls with
    | zero => exact absurd hn158 (Nat.not_lt_zero _)
    | succ n158 ih158 =>
      refine lv_iload_n hx hb dX1_count_158 rfl (lv_at hl 0 rfl) ?_
      refine lv_aload_n hx hb dX1_count_159 rfl (lv_at hl 2 rfl) ?_
      refine m_g2 hx hb hts hown hK hP dX1_count_160 ?_
      refine x_icmp_ge (x := j) (y := Z 0 2) (tgt := 188) hx hb (by omega) (by omega) dX1_count_163 (by decide) (fun c_163 => ?_) (fun c_163 => ?_)
      ·
        refine lv_iload_n hx hb dX1_count_188 rfl (lv_at hl 1 rfl) ?_
        refine W.iret (v := (nI t)) hx hb hr (fun t9 ht9 hW9 => ⟨_, rfl, ?_, ht9⟩) (fun q h => by cases h) dX1_count_189
        rw [ht, show j = Z 0 2 by omega]; rfl
      ·
        refine lv_iload_n hx hb dX1_count_166 rfl (lv_at hl 1 rfl) ?_
        refine lv_aload_n hx hb dX1_count_167 rfl (lv_at hl 2 rfl) ?_
        refine lv_iload_n hx hb dX1_count_168 rfl (lv_at hl 0 rfl) ?_
        refine r_Vi (As := [.int (nI j)]) (rest := [.int (nI t)]) fx (ct_X1_isPassed l dC dI cy cz o a Z G T K j hI hR (by first | assumption | omega)) fyX1_isPassed tM_RX1_145 rfl rfl ⟨Nat.le_of_ble_eq_true rfl, Nat.le_of_ble_eq_true rfl⟩ (m_pre hK hP) rfl hl.1 rfl (Nat.le_of_ble_eq_true rfl) dX1_count_169 ⟨Nat.le_of_ble_eq_true rfl, Nat.le_of_ble_eq_true rfl⟩ (fun r_169 hr_169 => ?_)
        rcases hr_169 with ⟨rfl, hr_169⟩ | ⟨rfl, hr_169⟩
        ·
          refine x_if_eq_T (tgt := 179) hx hb (by decide) dX1_count_172 (by decide) ?_
          refine lv_iconst (v := nI 0) hx hb dX1_count_179 (by decide) ?_
          refine x_iadd hx hb dX1_count_180 ?_
          refine lv_istore_n (lv' := [(2, .int (nI (t + 0))), (3, .int (nI j)), (0, .ref o), (1, .int (nI 5))]) hx hb dX1_count_181 rfl hl (by decide) rfl (fun ls hl => ?_)
          refine lv_iinc (v := nI (j + 1)) (lv' := [(3, .int (nI (j + 1))), (2, .int (nI (t + 0))), (0, .ref o), (1, .int (nI 5))]) hx hb dX1_count_182 hl (k := 1) rfl (x_inc1 _) (by decide) rfl (fun ls hl => ?_)
          refine lv_goto (tgt := 158) hx hb dX1_count_185 (by decide) ?_
          exact ih158 ls (j + 1) (t + 0) (lv_sub hl [0, 1, 2, 3] rfl) (by omega) (by rw [fb_ct_succ, ← ht]; first | (rw [if_pos (decide_eq_true hr_169)]; done) | (rw [if_neg (by simpa using hr_169)]; done)) (by omega)
        ·
          refine x_if_eq_F (tgt := 179) hx hb (by decide) dX1_count_172 (by decide) ?_
          refine lv_iconst (v := nI 1) hx hb dX1_count_175 (by decide) ?_
          refine lv_goto (tgt := 180) hx hb dX1_count_176 (by decide) ?_
          refine x_iadd hx hb dX1_count_180 ?_
          refine lv_istore_n (lv' := [(2, .int (nI (t + 1))), (3, .int (nI j)), (0, .ref o), (1, .int (nI 5))]) hx hb dX1_count_181 rfl hl (by decide) rfl (fun ls hl => ?_)
          refine lv_iinc (v := nI (j + 1)) (lv' := [(3, .int (nI (j + 1))), (2, .int (nI (t + 1))), (0, .ref o), (1, .int (nI 5))]) hx hb dX1_count_182 hl (k := 1) rfl (x_inc1 _) (by decide) rfl (fun ls hl => ?_)
          refine lv_goto (tgt := 158) hx hb dX1_count_185 (by decide) ?_
          exact ih158 ls (j + 1) (t + 1) (lv_sub hl [0, 1, 2, 3] rfl) (by omega) (by rw [fb_ct_succ, ← ht]; first | (rw [if_pos (decide_eq_true hr_169)]; done) | (rw [if_neg (by simpa using hr_169)]; done)) (by omega)
  have e_out := tab_out (n := 5) (by decide) (fun k hk => by rcases (show k = 0 ∨ k = 1 ∨ k = 2 ∨ k = 3 ∨ k = 4 ∨ k = 5 by omega) with e | e | e | e | e | e <;> subst e <;> assumption)
  refine lv_tableOut (tgt := 190) hx hb dX1_count_3 e_out (by decide) ?_
  refine lv_iconst (v := -1) hx hb dX1_count_190 (by decide) ?_
  refine W.iret (v := (-1)) hx hb hr (fun t9 ht9 hW9 => ⟨_, rfl, ?_, ht9⟩) (fun q h => by cases h) dX1_count_191
  rw [fCnt, if_neg (show ¬ w = 0 from e_0), if_neg (show ¬ w = 1 from e_1), if_neg (show ¬ w = 2 from e_2), if_neg (show ¬ w = 3 from e_3), if_neg (show ¬ w = 4 from e_4), if_neg (show ¬ w = 5 from e_5)]

set_option maxHeartbeats 4000000 in
set_option maxRecDepth 100000 in
theorem ct_X1_sharp (l : Launch) (dC : Nat → ClassId) (dI : Nat → Nat → Nat) (cy cz : ClassId) (o : Nat) (a : Nat → Nat) (Z : Nat → Nat → Nat) (G T K : Nat → Nat) (q : Int32) (hI : Inv Z) (hR : MRel Z G T K) : Met l yX1_sharp (wS yX1_sharp cX1_sharp 16 (Option.some Jvm.ClassFile.FieldType.long)) (rmF 3 68) (va_Pc [.ref o, .int q] (mR dC dI cy cz o a Z G T K)) (vp_Sl (fun r => r = fShp Z q)) 0 0 (fun _ => False) := by
  refine Met.ofW (cc := cX1_sharp) (maxL := 16) (ret := (Option.some Jvm.ClassFile.FieldType.long)) (by decide) rfl ?_
  intro pg en sv mi ag bw mt cd s₁ BL hml hv
  obtain ⟨rfl, hP, hK⟩ := hv
  have hx := BL.exec
  have hb := BL.bytes
  have hr := BL.returns
  have hts : ∀ w ∈ lw_ok, w.before _ sv = true := fun w hw => atoms_spec (ws := wS yX1_sharp cX1_sharp 16 (Option.some Jvm.ClassFile.FieldType.long)) BL.pre w (List.mem_cons_of_mem _ hw)
  have hown : sv.vm.findClass RX1 = some mi.cls := findClass_of_methodNamed BL.named
  have hlocks := BL.notSynchronized
  have fx : CallFix pg mi cd cX1_sharp 16 sv _ lw_ok RX1 := ⟨hx, hb, hml, hown, hts⟩
  have hl := lv_entry ([.ref o, .int q]) (n := 16) (Nat.le_of_ble_eq_true rfl)
  rw [lg_entry_eq]
  generalize (lg_sl ([.ref o, .int q]) ++ List.replicate (16 - (lg_sl ([.ref o, .int q])).length) Slot.unset).toArray = ls at hl ⊢
  replace hl : lv_has ls 16 [(0, .ref o), (1, .int q)] := hl
  obtain ⟨b0, b1, b2⟩ := hI.bd
  refine lv_aload_n hx hb dX1_sharp_0 rfl (lv_at hl 0 rfl) ?_
  refine lv_iload_n hx hb dX1_sharp_1 rfl (lv_at hl 1 rfl) ?_
  refine r_Vi (As := [.int q]) (rest := []) fx (ct_X1_isQuestion l dC dI cy cz o a Z G T K q hI) fyX1_isQuestion tM_RX1_59 rfl rfl ⟨Nat.le_of_ble_eq_true rfl, Nat.le_of_ble_eq_true rfl⟩ (m_pre hK hP) rfl hl.1 rfl (Nat.le_of_ble_eq_true rfl) dX1_sharp_2 ⟨Nat.le_of_ble_eq_true rfl, Nat.le_of_ble_eq_true rfl⟩ (fun r_2 hr_2 => ?_)
  rcases hr_2 with ⟨rfl, hr_2⟩ | ⟨rfl, hr_2⟩
  ·
    refine x_if_ne_F (tgt := 12) hx hb (by decide) dX1_sharp_5 (by decide) ?_
    refine lv_ldc2 (v := -9223372036854775808) hx hb hown (hts _ (ok_of tJ_RX1_104 rfl)) dX1_sharp_8 ?_
    refine W.lret (v := ((-9223372036854775808))) hx hb hr (fun t9 ht9 hW9 => ⟨_, rfl, ?_, ht9⟩) (fun q h => by cases h) dX1_sharp_11
    rw [fShp, if_neg hr_2]
  ·
    have i_q := hr_2
    obtain ⟨q1, -, h_q1, rfl⟩ := inR_of i_q
    have t_q : tn (nI q1) = q1 := tn_nI (by omega)
    have hqq := hI.q h_q1
    refine x_if_ne_T (tgt := 12) hx hb (by decide) dX1_sharp_5 (by decide) ?_
    refine lv_lconst (v := lN 0) hx hb dX1_sharp_12 (by decide) ?_
    refine lv_lstore_n (lv' := [(2, .long (lN 0)), (0, .ref o), (1, .int (nI q1))]) hx hb dX1_sharp_13 rfl hl (by decide) rfl (fun ls hl => ?_)
    refine lv_lconst (v := lN 0) hx hb dX1_sharp_14 (by decide) ?_
    refine lv_lstore (lv' := [(4, .long (lN 0)), (2, .long (lN 0)), (0, .ref o), (1, .int (nI q1))]) hx hb dX1_sharp_15 hl (by decide) rfl (fun ls hl => ?_)
    refine lv_lconst (v := lN 0) hx hb dX1_sharp_17 (by decide) ?_
    refine lv_lstore (lv' := [(6, .long (lN 0)), (4, .long (lN 0)), (2, .long (lN 0)), (0, .ref o), (1, .int (nI q1))]) hx hb dX1_sharp_18 hl (by decide) rfl (fun ls hl => ?_)
    refine lv_lconst (v := lN 0) hx hb dX1_sharp_20 (by decide) ?_
    refine lv_lstore (lv' := [(8, .long (lN 0)), (6, .long (lN 0)), (4, .long (lN 0)), (2, .long (lN 0)), (0, .ref o), (1, .int (nI q1))]) hx hb dX1_sharp_21 hl (by decide) rfl (fun ls hl => ?_)
    refine lv_iconst (v := nI 0) hx hb dX1_sharp_23 (by decide) ?_
    refine lv_istore (lv' := [(10, .int (nI 0)), (8, .long (lN 0)), (6, .long (lN 0)), (4, .long (lN 0)), (2, .long (lN 0)), (0, .ref o), (1, .int (nI q1))]) hx hb dX1_sharp_24 hl (by decide) rfl (fun ls hl => ?_)
    obtain ⟨j, ej⟩ : ∃ j : Nat, j = 0 := ⟨_, rfl⟩
    obtain ⟨n, en⟩ : ∃ n : Nat, n = 0 := ⟨_, rfl⟩
    obtain ⟨t, et⟩ : ∃ t : Nat, t = 0 := ⟨_, rfl⟩
    obtain ⟨rs, ers⟩ : ∃ rs : Nat, rs = 0 := ⟨_, rfl⟩
    obtain ⟨ps, eps⟩ : ∃ ps : Nat, ps = 0 := ⟨_, rfl⟩
    replace hl : lv_has ls 16 [(10, .int (nI j)), (8, .long (lN rs)), (6, .long (lN t)), (4, .long (lN ps)), (2, .long (lN n)), (0, .ref o), (1, .int (nI q1))] := by subst ej en et ers eps; exact lv_sub hl [0, 1, 2, 3, 4, 5, 6] rfl
    have hj : j ≤ Z 0 2 := by subst ej en et ers eps; omega
    have hn : n = fb_ct (cqB Z q1) j := by subst ej en et ers eps; rfl
    have hm : t = fb_sm (fun u => if cqB Z q1 u then mkq Z q1 u else 0) j := by subst ej en et ers eps; rfl
    have hr1 : rs = fb_sm (fun u => if cqB Z q1 u then rst Z q1 u else 0) j := by subst ej en et ers eps; rfl
    have hp1 : ps = fb_sm (fun u => if cqB Z q1 u then mkq Z q1 u * rst Z q1 u else 0) j := by subst ej en et ers eps; rfl
    clear ej en et ers eps
    obtain ⟨n26, hn26⟩ : ∃ n_0 : Nat, Z 0 2 - j < n_0 := ⟨_, Nat.lt_succ_self _⟩
    induction n26 generalizing j n t rs ps ls with
    | zero => exact absurd hn26 (Nat.not_lt_zero _)
    | succ n26 ih26 =>
      refine lv_iload hx hb dX1_sharp_26 (lv_at hl 0 rfl) ?_
      refine lv_aload_n hx hb dX1_sharp_28 rfl (lv_at hl 5 rfl) ?_
      refine m_g2 hx hb hts hown hK hP dX1_sharp_29 ?_
      refine x_icmp_ge (x := j) (y := Z 0 2) (tgt := 132) hx hb (by omega) (by omega) dX1_sharp_32 (by decide) (fun c_32 => ?_) (fun c_32 => ?_)
      ·
        refine lv_lload_n hx hb dX1_sharp_132 rfl (lv_at hl 4 rfl) ?_
        refine lv_lload hx hb dX1_sharp_133 (lv_at hl 3 rfl) ?_
        refine x_lmul hx hb dX1_sharp_135 ?_
        refine lv_lload hx hb dX1_sharp_136 (lv_at hl 2 rfl) ?_
        refine lv_lload hx hb dX1_sharp_138 (lv_at hl 1 rfl) ?_
        refine x_lmul hx hb dX1_sharp_140 ?_
        refine lv_lsub hx hb dX1_sharp_141 ?_
        refine W.lret (v := ((lN (n * ps)) - (lN (t * rs)))) hx hb hr (fun t9 ht9 hW9 => ⟨_, rfl, ?_, ht9⟩) (fun q h => by cases h) dX1_sharp_142
        obtain rfl : j = Z 0 2 := by omega
        rw [fShp, if_pos i_q, t_q, hn, hm, hr1, hp1]
        rfl
      ·
        have hpu := hI.pu (u := j) (by omega)
        have hsz := hI.sz (p := Z 11 j) (by omega)
        refine lv_aload_n hx hb dX1_sharp_35 rfl (lv_at hl 5 rfl) ?_
        refine lv_iload hx hb dX1_sharp_36 (lv_at hl 0 rfl) ?_
        refine lv_iload_n hx hb dX1_sharp_38 rfl (lv_at hl 6 rfl) ?_
        refine r_Vi (As := [.int (nI j), .int (nI q1)]) (rest := []) fx (ct_X1_own l dC dI cy cz o a Z G T K ((nI j)) ((nI q1)) hI) fyX1_own tM_RX1_77 rfl rfl ⟨Nat.le_of_ble_eq_true rfl, Nat.le_of_ble_eq_true rfl⟩ (m_pre hK hP) rfl hl.1 rfl (Nat.le_of_ble_eq_true rfl) dX1_sharp_39 ⟨Nat.le_of_ble_eq_true rfl, Nat.le_of_ble_eq_true rfl⟩ (fun r_39 hr_39 => ?_)
        rcases hr_39 with ⟨rfl, ho_39⟩ | ⟨x_39, y_39, i_39, hx_39, hy_39, eu_39, eq_39, hi_39, hs_39, hr_39, ho_39, rfl⟩
        ·
          have hnc : ¬ cqP Z q1 j := fun h => ho_39 ((own_nI hI (by omega) h_q1).mpr h.1)
          refine lv_istore (lv' := [(11, .int (-1)), (10, .int (nI j)), (8, .long (lN rs)), (6, .long (lN t)), (4, .long (lN ps)), (2, .long (lN n)), (0, .ref o), (1, .int (nI q1))]) hx hb dX1_sharp_42 hl (by decide) rfl (fun ls hl => ?_)
          refine lv_iload hx hb dX1_sharp_44 (lv_at hl 0 rfl) ?_
          refine x_if_lt_T (tgt := 126) hx hb (by decide) dX1_sharp_46 (by decide) ?_
          refine lv_iinc (v := nI (j + 1)) (lv' := [(10, .int (nI (j + 1))), (11, .int (-1)), (8, .long (lN rs)), (6, .long (lN t)), (4, .long (lN ps)), (2, .long (lN n)), (0, .ref o), (1, .int (nI q1))]) hx hb dX1_sharp_126 hl (k := 1) rfl (x_inc1 _) (by decide) rfl (fun ls hl => ?_)
          refine lv_goto (tgt := 26) hx hb dX1_sharp_129 (by decide) ?_
          exact ih26 ls (j + 1) n t rs ps (lv_sub hl [0, 2, 3, 4, 5, 6, 7] rfl) (by omega) (by rw [fb_ct_succ, ← hn]; first | (rw [cqB_t hcq]; rfl) | (rw [cqB_f hnc]; rfl)) (by rw [fb_sm_succ, ← hm]; first | (rw [cqB_t hcq]; rfl) | (rw [cqB_f hnc]; rfl)) (by rw [fb_sm_succ, ← hr1]; first | (rw [cqB_t hcq]; rfl) | (rw [cqB_f hnc]; rfl)) (by rw [fb_sm_succ, ← hp1]; first | (rw [cqB_t hcq]; rfl) | (rw [cqB_f hnc]; rfl)) (by omega)
        ·
          have e1 := (nI_eq (by omega) (by omega)).mp eu_39
          have e2 := (nI_eq (by omega) (by omega)).mp eq_39
          subst e1 e2
          have hmk := mrk_le hI (u := j) (i := i_39) (by omega) hi_39
          have hme : mkq Z q1 j = mrk Z j i_39 := by rw [mkq, hs_39]
          have hrm := rst_m hI (q := q1) (u := j) (by omega) (by omega)
          have htl := tot_le hI (u := j) (by omega)
          refine lv_istore (lv' := [(11, .int (nI i_39)), (10, .int (nI j)), (8, .long (lN rs)), (6, .long (lN t)), (4, .long (lN ps)), (2, .long (lN n)), (0, .ref o), (1, .int (nI q1))]) hx hb dX1_sharp_42 hl (by decide) rfl (fun ls hl => ?_)
          refine lv_iload hx hb dX1_sharp_44 (lv_at hl 0 rfl) ?_
          refine x_if_lt_F (tgt := 126) hx hb (nI_pos (by omega)) dX1_sharp_46 (by decide) ?_
          refine lv_aload_n hx hb dX1_sharp_49 rfl (lv_at hl 6 rfl) ?_
          refine lv_iload hx hb dX1_sharp_50 (lv_at hl 1 rfl) ?_
          refine lv_iload hx hb dX1_sharp_52 (lv_at hl 0 rfl) ?_
          refine r_Vi (As := [.int (nI j), .int (nI i_39)]) (rest := []) fx (ct_X1_cameTo l dC dI cy cz o a Z G T K j i_39 hI hR (by first | assumption | omega) (by first | assumption | omega)) fyX1_cameTo tM_RX1_91 rfl rfl ⟨Nat.le_of_ble_eq_true rfl, Nat.le_of_ble_eq_true rfl⟩ (m_pre hK hP) rfl hl.1 rfl (Nat.le_of_ble_eq_true rfl) dX1_sharp_54 ⟨Nat.le_of_ble_eq_true rfl, Nat.le_of_ble_eq_true rfl⟩ (fun r_54 hr_54 => ?_)
          rcases hr_54 with ⟨rfl, hr_54⟩ | ⟨rfl, hr_54⟩
          ·
            have hnc : ¬ cqP Z q1 j := fun h => hr_54 (by have h2 := h.2; rw [hs_39] at h2; exact h2)
            refine x_if_ne_F (tgt := 63) hx hb (by decide) dX1_sharp_57 (by decide) ?_
            refine lv_goto (tgt := 126) hx hb dX1_sharp_60 (by decide) ?_
            refine lv_iinc (v := nI (j + 1)) (lv' := [(10, .int (nI (j + 1))), (11, .int (nI i_39)), (8, .long (lN rs)), (6, .long (lN t)), (4, .long (lN ps)), (2, .long (lN n)), (0, .ref o), (1, .int (nI q1))]) hx hb dX1_sharp_126 hl (k := 1) rfl (x_inc1 _) (by decide) rfl (fun ls hl => ?_)
            refine lv_goto (tgt := 26) hx hb dX1_sharp_129 (by decide) ?_
            exact ih26 ls (j + 1) n t rs ps (lv_sub hl [0, 2, 3, 4, 5, 6, 7] rfl) (by omega) (by rw [fb_ct_succ, ← hn]; first | (rw [cqB_t hcq]; rfl) | (rw [cqB_f hnc]; rfl)) (by rw [fb_sm_succ, ← hm]; first | (rw [cqB_t hcq]; rfl) | (rw [cqB_f hnc]; rfl)) (by rw [fb_sm_succ, ← hr1]; first | (rw [cqB_t hcq]; rfl) | (rw [cqB_f hnc]; rfl)) (by rw [fb_sm_succ, ← hp1]; first | (rw [cqB_t hcq]; rfl) | (rw [cqB_f hnc]; rfl)) (by omega)
          ·
            have hcq : cqP Z q1 j := ⟨by omega, by rw [hs_39]; exact hr_54⟩
            refine x_if_ne_T (tgt := 63) hx hb (by decide) dX1_sharp_57 (by decide) ?_
            refine lv_aload_n hx hb dX1_sharp_63 rfl (lv_at hl 6 rfl) ?_
            refine lv_iload hx hb dX1_sharp_64 (lv_at hl 1 rfl) ?_
            refine lv_iload hx hb dX1_sharp_66 (lv_at hl 0 rfl) ?_
            refine r_Vi (As := [.int (nI j), .int (nI i_39)]) (rest := []) fx (ct_X1_markAt l dC dI cy cz o a Z G T K j i_39 hI hR (by first | assumption | omega) (by first | assumption | omega)) fyX1_markAt tM_RX1_88 rfl rfl ⟨Nat.le_of_ble_eq_true rfl, Nat.le_of_ble_eq_true rfl⟩ (m_pre hK hP) rfl hl.1 rfl (Nat.le_of_ble_eq_true rfl) dX1_sharp_68 ⟨Nat.le_of_ble_eq_true rfl, Nat.le_of_ble_eq_true rfl⟩ (fun r_68 hr_68 => ?_)
            subst hr_68
            rw [← hme]
            have hmk2 : mkq Z q1 j ≤ 10 := by omega
            refine lv_i2l (v := lN (mkq Z q1 j)) hx hb dX1_sharp_71 (nI_l (by omega)) ?_
            refine lv_lstore (lv' := [(12, .long (lN (mkq Z q1 j))), (11, .int (nI i_39)), (10, .int (nI j)), (8, .long (lN rs)), (6, .long (lN t)), (4, .long (lN ps)), (2, .long (lN n)), (0, .ref o), (1, .int (nI q1))]) hx hb dX1_sharp_72 hl (by decide) rfl (fun ls hl => ?_)
            refine lv_aload_n hx hb dX1_sharp_74 rfl (lv_at hl 7 rfl) ?_
            refine lv_iload hx hb dX1_sharp_75 (lv_at hl 2 rfl) ?_
            refine r_Vi (As := [.int (nI j)]) (rest := []) fx (ct_X1_totalOf l dC dI cy cz o a Z G T K j hI hR (by first | assumption | omega)) fyX1_totalOf tM_RX1_97 rfl rfl ⟨Nat.le_of_ble_eq_true rfl, Nat.le_of_ble_eq_true rfl⟩ (m_pre hK hP) rfl hl.1 rfl (Nat.le_of_ble_eq_true rfl) dX1_sharp_77 ⟨Nat.le_of_ble_eq_true rfl, Nat.le_of_ble_eq_true rfl⟩ (fun r_77 hr_77 => ?_)
            subst hr_77
            refine lv_i2l (v := lN (tot Z j)) hx hb dX1_sharp_80 (nI_l (by omega)) ?_
            refine lv_aload_n hx hb dX1_sharp_81 rfl (lv_at hl 7 rfl) ?_
            refine lv_iload_n hx hb dX1_sharp_82 rfl (lv_at hl 8 rfl) ?_
            refine r_Vi (As := [.int (nI q1)]) (rest := [.long (lN (tot Z j))]) fx (ct_X1_isCounted l dC dI cy cz o a Z G T K q1 hI hR (by first | assumption | omega)) fyX1_isCounted tM_RX1_94 rfl rfl ⟨Nat.le_of_ble_eq_true rfl, Nat.le_of_ble_eq_true rfl⟩ (m_pre hK hP) rfl hl.1 rfl (Nat.le_of_ble_eq_true rfl) dX1_sharp_83 ⟨Nat.le_of_ble_eq_true rfl, Nat.le_of_ble_eq_true rfl⟩ (fun r_83 hr_83 => ?_)
            rcases hr_83 with ⟨rfl, hr_83⟩ | ⟨rfl, hr_83⟩
            ·
              have hre : lN (tot Z j) - lN 0 = lN (rst Z q1 j) := by rw [if_neg hr_83] at hrm; rw [lN_sub (by omega)]; exact congrArg lN (by omega)
              refine x_if_eq_T (tgt := 94) hx hb (by decide) dX1_sharp_86 (by decide) ?_
              refine lv_lconst (v := lN 0) hx hb dX1_sharp_94 (by decide) ?_
              refine lv_lsub hx hb dX1_sharp_95 ?_
              rw [hre]
              refine lv_lstore (lv' := [(14, .long (lN (rst Z q1 j))), (12, .long (lN (mkq Z q1 j))), (11, .int (nI i_39)), (10, .int (nI j)), (8, .long (lN rs)), (6, .long (lN t)), (4, .long (lN ps)), (2, .long (lN n)), (0, .ref o), (1, .int (nI q1))]) hx hb dX1_sharp_96 hl (by decide) rfl (fun ls hl => ?_)
              refine lv_lload_n hx hb dX1_sharp_98 rfl (lv_at hl 7 rfl) ?_
              refine lv_lconst (v := lN 1) hx hb dX1_sharp_99 (by decide) ?_
              refine x_ladd hx hb dX1_sharp_100 ?_
              refine lv_lstore_n (lv' := [(2, .long (lN (n + 1))), (14, .long (lN (rst Z q1 j))), (12, .long (lN (mkq Z q1 j))), (11, .int (nI i_39)), (10, .int (nI j)), (8, .long (lN rs)), (6, .long (lN t)), (4, .long (lN ps)), (0, .ref o), (1, .int (nI q1))]) hx hb dX1_sharp_101 rfl hl (by decide) rfl (fun ls hl => ?_)
              refine lv_lload hx hb dX1_sharp_102 (lv_at hl 7 rfl) ?_
              refine lv_lload hx hb dX1_sharp_104 (lv_at hl 2 rfl) ?_
              refine lv_lload hx hb dX1_sharp_106 (lv_at hl 1 rfl) ?_
              refine x_lmul hx hb dX1_sharp_108 ?_
              refine x_ladd hx hb dX1_sharp_109 ?_
              refine lv_lstore (lv' := [(4, .long (lN (ps + ((mkq Z q1 j) * (rst Z q1 j))))), (2, .long (lN (n + 1))), (14, .long (lN (rst Z q1 j))), (12, .long (lN (mkq Z q1 j))), (11, .int (nI i_39)), (10, .int (nI j)), (8, .long (lN rs)), (6, .long (lN t)), (0, .ref o), (1, .int (nI q1))]) hx hb dX1_sharp_110 hl (by decide) rfl (fun ls hl => ?_)
              refine lv_lload hx hb dX1_sharp_112 (lv_at hl 7 rfl) ?_
              refine lv_lload hx hb dX1_sharp_114 (lv_at hl 3 rfl) ?_
              refine x_ladd hx hb dX1_sharp_116 ?_
              refine lv_lstore (lv' := [(6, .long (lN (t + (mkq Z q1 j)))), (4, .long (lN (ps + ((mkq Z q1 j) * (rst Z q1 j))))), (2, .long (lN (n + 1))), (14, .long (lN (rst Z q1 j))), (12, .long (lN (mkq Z q1 j))), (11, .int (nI i_39)), (10, .int (nI j)), (8, .long (lN rs)), (0, .ref o), (1, .int (nI q1))]) hx hb dX1_sharp_117 hl (by decide) rfl (fun ls hl => ?_)
              refine lv_lload hx hb dX1_sharp_119 (lv_at hl 7 rfl) ?_
              refine lv_lload hx hb dX1_sharp_121 (lv_at hl 3 rfl) ?_
              refine x_ladd hx hb dX1_sharp_123 ?_
              refine lv_lstore (lv' := [(8, .long (lN (rs + (rst Z q1 j)))), (6, .long (lN (t + (mkq Z q1 j)))), (4, .long (lN (ps + ((mkq Z q1 j) * (rst Z q1 j))))), (2, .long (lN (n + 1))), (14, .long (lN (rst Z q1 j))), (12, .long (lN (mkq Z q1 j))), (11, .int (nI i_39)), (10, .int (nI j)), (0, .ref o), (1, .int (nI q1))]) hx hb dX1_sharp_124 hl (by decide) rfl (fun ls hl => ?_)
              refine lv_iinc (v := nI (j + 1)) (lv' := [(10, .int (nI (j + 1))), (8, .long (lN (rs + (rst Z q1 j)))), (6, .long (lN (t + (mkq Z q1 j)))), (4, .long (lN (ps + ((mkq Z q1 j) * (rst Z q1 j))))), (2, .long (lN (n + 1))), (14, .long (lN (rst Z q1 j))), (12, .long (lN (mkq Z q1 j))), (11, .int (nI i_39)), (0, .ref o), (1, .int (nI q1))]) hx hb dX1_sharp_126 hl (k := 7) rfl (x_inc1 _) (by decide) rfl (fun ls hl => ?_)
              refine lv_goto (tgt := 26) hx hb dX1_sharp_129 (by decide) ?_
              exact ih26 ls (j + 1) (n + 1) (t + (mkq Z q1 j)) (rs + (rst Z q1 j)) (ps + ((mkq Z q1 j) * (rst Z q1 j))) (lv_sub hl [0, 1, 2, 3, 4, 8, 9] rfl) (by omega) (by rw [fb_ct_succ, ← hn]; first | (rw [cqB_t hcq]; rfl) | (rw [cqB_f hnc]; rfl)) (by rw [fb_sm_succ, ← hm]; first | (rw [cqB_t hcq]; rfl) | (rw [cqB_f hnc]; rfl)) (by rw [fb_sm_succ, ← hr1]; first | (rw [cqB_t hcq]; rfl) | (rw [cqB_f hnc]; rfl)) (by rw [fb_sm_succ, ← hp1]; first | (rw [cqB_t hcq]; rfl) | (rw [cqB_f hnc]; rfl)) (by omega)
            ·
              have hre : lN (tot Z j) - lN (mkq Z q1 j) = lN (rst Z q1 j) := by rw [if_pos hr_83] at hrm; rw [lN_sub (by omega)]; exact congrArg lN (by omega)
              refine x_if_eq_F (tgt := 94) hx hb (by decide) dX1_sharp_86 (by decide) ?_
              refine lv_lload hx hb dX1_sharp_89 (lv_at hl 0 rfl) ?_
              refine lv_goto (tgt := 95) hx hb dX1_sharp_91 (by decide) ?_
              refine lv_lsub hx hb dX1_sharp_95 ?_
              rw [hre]
              refine lv_lstore (lv' := [(14, .long (lN (rst Z q1 j))), (12, .long (lN (mkq Z q1 j))), (11, .int (nI i_39)), (10, .int (nI j)), (8, .long (lN rs)), (6, .long (lN t)), (4, .long (lN ps)), (2, .long (lN n)), (0, .ref o), (1, .int (nI q1))]) hx hb dX1_sharp_96 hl (by decide) rfl (fun ls hl => ?_)
              refine lv_lload_n hx hb dX1_sharp_98 rfl (lv_at hl 7 rfl) ?_
              refine lv_lconst (v := lN 1) hx hb dX1_sharp_99 (by decide) ?_
              refine x_ladd hx hb dX1_sharp_100 ?_
              refine lv_lstore_n (lv' := [(2, .long (lN (n + 1))), (14, .long (lN (rst Z q1 j))), (12, .long (lN (mkq Z q1 j))), (11, .int (nI i_39)), (10, .int (nI j)), (8, .long (lN rs)), (6, .long (lN t)), (4, .long (lN ps)), (0, .ref o), (1, .int (nI q1))]) hx hb dX1_sharp_101 rfl hl (by decide) rfl (fun ls hl => ?_)
              refine lv_lload hx hb dX1_sharp_102 (lv_at hl 7 rfl) ?_
              refine lv_lload hx hb dX1_sharp_104 (lv_at hl 2 rfl) ?_
              refine lv_lload hx hb dX1_sharp_106 (lv_at hl 1 rfl) ?_
              refine x_lmul hx hb dX1_sharp_108 ?_
              refine x_ladd hx hb dX1_sharp_109 ?_
              refine lv_lstore (lv' := [(4, .long (lN (ps + ((mkq Z q1 j) * (rst Z q1 j))))), (2, .long (lN (n + 1))), (14, .long (lN (rst Z q1 j))), (12, .long (lN (mkq Z q1 j))), (11, .int (nI i_39)), (10, .int (nI j)), (8, .long (lN rs)), (6, .long (lN t)), (0, .ref o), (1, .int (nI q1))]) hx hb dX1_sharp_110 hl (by decide) rfl (fun ls hl => ?_)
              refine lv_lload hx hb dX1_sharp_112 (lv_at hl 7 rfl) ?_
              refine lv_lload hx hb dX1_sharp_114 (lv_at hl 3 rfl) ?_
              refine x_ladd hx hb dX1_sharp_116 ?_
              refine lv_lstore (lv' := [(6, .long (lN (t + (mkq Z q1 j)))), (4, .long (lN (ps + ((mkq Z q1 j) * (rst Z q1 j))))), (2, .long (lN (n + 1))), (14, .long (lN (rst Z q1 j))), (12, .long (lN (mkq Z q1 j))), (11, .int (nI i_39)), (10, .int (nI j)), (8, .long (lN rs)), (0, .ref o), (1, .int (nI q1))]) hx hb dX1_sharp_117 hl (by decide) rfl (fun ls hl => ?_)
              refine lv_lload hx hb dX1_sharp_119 (lv_at hl 7 rfl) ?_
              refine lv_lload hx hb dX1_sharp_121 (lv_at hl 3 rfl) ?_
              refine x_ladd hx hb dX1_sharp_123 ?_
              refine lv_lstore (lv' := [(8, .long (lN (rs + (rst Z q1 j)))), (6, .long (lN (t + (mkq Z q1 j)))), (4, .long (lN (ps + ((mkq Z q1 j) * (rst Z q1 j))))), (2, .long (lN (n + 1))), (14, .long (lN (rst Z q1 j))), (12, .long (lN (mkq Z q1 j))), (11, .int (nI i_39)), (10, .int (nI j)), (0, .ref o), (1, .int (nI q1))]) hx hb dX1_sharp_124 hl (by decide) rfl (fun ls hl => ?_)
              refine lv_iinc (v := nI (j + 1)) (lv' := [(10, .int (nI (j + 1))), (8, .long (lN (rs + (rst Z q1 j)))), (6, .long (lN (t + (mkq Z q1 j)))), (4, .long (lN (ps + ((mkq Z q1 j) * (rst Z q1 j))))), (2, .long (lN (n + 1))), (14, .long (lN (rst Z q1 j))), (12, .long (lN (mkq Z q1 j))), (11, .int (nI i_39)), (0, .ref o), (1, .int (nI q1))]) hx hb dX1_sharp_126 hl (k := 7) rfl (x_inc1 _) (by decide) rfl (fun ls hl => ?_)
              refine lv_goto (tgt := 26) hx hb dX1_sharp_129 (by decide) ?_
              exact ih26 ls (j + 1) (n + 1) (t + (mkq Z q1 j)) (rs + (rst Z q1 j)) (ps + ((mkq Z q1 j) * (rst Z q1 j))) (lv_sub hl [0, 1, 2, 3, 4, 8, 9] rfl) (by omega) (by rw [fb_ct_succ, ← hn]; first | (rw [cqB_t hcq]; rfl) | (rw [cqB_f hnc]; rfl)) (by rw [fb_sm_succ, ← hm]; first | (rw [cqB_t hcq]; rfl) | (rw [cqB_f hnc]; rfl)) (by rw [fb_sm_succ, ← hr1]; first | (rw [cqB_t hcq]; rfl) | (rw [cqB_f hnc]; rfl)) (by rw [fb_sm_succ, ← hp1]; first | (rw [cqB_t hcq]; rfl) | (rw [cqB_f hnc]; rfl)) (by omega)
