set_option maxHeartbeats 4000000 in
set_option maxRecDepth 100000 in
theorem ct_X0_key (l : Launch) (dC : Nat → ClassId) (dI : Nat → Nat → Nat) (cy : ClassId) (o : Nat) (a : Nat → Nat) (Z X : Nat → Nat → Nat) (sz : Nat) (q : Int32) (k : Int32) (hI : Inv Z) : Met l yX0_key (wS yX0_key cX0_key 4 (Option.some Jvm.ClassFile.FieldType.int)) (rmF 1 21) (va_Pc [.ref o, .int q, .int k] (cS dC dI cy o a Z X sz)) (va_Qi (fun r (u : ST × ST) => r = fKey Z q k ∧ u.1 = sKey Z q k) (cE dC dI cy o a (cA cy o a Z X sz)) (cA cy o a Z X sz)) 0 0 (cA cy o a Z X sz) := by
  refine Met.ofW (cc := cX0_key) (maxL := 4) (ret := (Option.some Jvm.ClassFile.FieldType.int)) (by decide) rfl ?_
  intro pg en sv mi ag bw mt cd s₁ BL hml hv
  obtain ⟨rfl, hsz, hP, hK, hD0⟩ := hv
  have hx := BL.exec
  have hb := BL.bytes
  have hr := BL.returns
  have hts : ∀ w ∈ lw_ok, w.before _ sv = true := fun w hw => atoms_spec (ws := wS yX0_key cX0_key 4 (Option.some Jvm.ClassFile.FieldType.int)) BL.pre w (List.mem_cons_of_mem _ hw)
  have hown : sv.vm.findClass RX0 = some mi.cls := findClass_of_methodNamed BL.named
  have hlocks := BL.notSynchronized
  have fx : CallFix pg mi cd cX0_key 4 sv _ lw_ok RX0 := ⟨hx, hb, hml, hown, hts⟩
  have hl := lv_entry ([.ref o, .int q, .int k]) (n := 4) (Nat.le_of_ble_eq_true rfl)
  rw [lg_entry_eq]
  generalize (lg_sl ([.ref o, .int q, .int k]) ++ List.replicate (4 - (lg_sl ([.ref o, .int q, .int k])).length) Slot.unset).toArray = ls at hl ⊢
  replace hl : lv_has ls 4 [(0, .ref o), (1, .int q), (2, .int k)] := hl
  subst hsz
  have hD : va_D (cA cy o a Z X sv.heap.size) (cw cy o a Z X) := hD0.self (sz := sv.heap.size)
  clear hD0
  generalize hAe : cA cy o a Z X sv.heap.size = A at hD ⊢
  have hA : ∀ q : Nat, sv.heap.size ≤ q → A q := fun q h => by rw [← hAe]; exact Or.inr h
  clear hAe
  refine x_start (fun H locs eH eL => ?_)
  replace hP : va_P (dC, dI) vwCl (cw cy o a Z X) H := by rw [eH]; exact hP
  have hS : va_S A sv.heap H locs := by rw [eH, eL]; exact va_S.rf
  clear eH eL
  obtain ⟨b0, b1, b2⟩ := hI.bd
  refine lv_aload_n hx hb dX0_key_0 rfl (lv_at hl 0 rfl) ?_
  refine lv_iload_n hx hb dX0_key_1 rfl (lv_at hl 1 rfl) ?_
  refine r_Vi (As := [.int q]) (rest := []) fx (ct_X0_isQuestion l dC dI cy o a Z X q hI) fyX0_isQuestion tM_RX0_68 rfl rfl ⟨Nat.le_of_ble_eq_true rfl, Nat.le_of_ble_eq_true rfl⟩ (c_pre hK hP) rfl hl.1 rfl (Nat.le_of_ble_eq_true rfl) dX0_key_2 ⟨Nat.le_of_ble_eq_true rfl, Nat.le_of_ble_eq_true rfl⟩ (fun r_2 hr_2 => ?_)
  rcases hr_2 with ⟨rfl, hr_2⟩ | ⟨rfl, hr_2⟩
  ·
    refine x_if_ne_F (tgt := 10) hx hb (by decide) dX0_key_5 (by decide) ?_
    refine lv_iconst (v := -1) hx hb dX0_key_8 (by decide) ?_
    refine W.iret (v := (-1)) hx hb hr (fun t9 ht9 hW9 => ⟨⟨_, (Z, X), rfl, ?_, cE_mk ht9 hP hK hW9 hD⟩, hS.F ht9⟩) hS.2.2 dX0_key_9
    exact ⟨by rw [fKey, if_neg hr_2], by rw [sKey, if_neg (fun h => hr_2 h.1)]⟩
  ·
    have i_q := hr_2
    obtain ⟨q1, -, h_q1, rfl⟩ := inR_of i_q
    have t_q : tn (nI q1) = q1 := tn_nI (by omega)
    have hqq := hI.q h_q1
    refine x_if_ne_T (tgt := 10) hx hb (by decide) dX0_key_5 (by decide) ?_
    refine lv_iload_n hx hb dX0_key_10 rfl (lv_at hl 2 rfl) ?_
    refine r_Si (As := [.int k]) (rest := []) fx (ct_X0_isKey l k) fyX0_isKey tM_RX0_57 rfl rfl ⟨Nat.le_of_ble_eq_true rfl, Nat.le_of_ble_eq_true rfl⟩ rfl hl.1 rfl (Nat.le_of_ble_eq_true rfl) dX0_key_11 ⟨Nat.le_of_ble_eq_true rfl, Nat.le_of_ble_eq_true rfl⟩ (fun r_11 hr_11 => ?_)
    rcases hr_11 with ⟨rfl, hr_11⟩ | ⟨rfl, hr_11⟩
    ·
      refine x_if_ne_F (tgt := 20) hx hb (by decide) dX0_key_14 (by decide) ?_
      refine lv_bipush (v := -2) hx hb dX0_key_17 (by decide) ?_
      refine W.iret (v := (-2)) hx hb hr (fun t9 ht9 hW9 => ⟨⟨_, (Z, X), rfl, ?_, cE_mk ht9 hP hK hW9 hD⟩, hS.F ht9⟩) hS.2.2 dX0_key_19
      exact ⟨by rw [fKey, if_pos i_q, if_neg hr_11], by rw [sKey, if_neg (fun h => hr_11 h.2.1)]⟩
    ·
      have i_k := hr_11
      obtain ⟨k1, -, h_k1, rfl⟩ := inR_of i_k
      have t_k : tn (nI k1) = k1 := tn_nI (by omega)
      refine x_if_ne_T (tgt := 20) hx hb (by decide) dX0_key_14 (by decide) ?_
      refine lv_aload_n hx hb dX0_key_20 rfl (lv_at hl 0 rfl) ?_
      refine c_g5 hx hb hts hown hK hP dX0_key_21 ?_
      refine lv_iload_n hx hb dX0_key_24 rfl (lv_at hl 1 rfl) ?_
      refine c_l5 (j := q1) hx hb hK hP (by omega) dX0_key_25 ?_
      refine lv_iconst (v := nI 1) hx hb dX0_key_26 (by decide) ?_
      refine x_icmp_eq (x := Z 5 q1) (y := 1) (tgt := 33) hx hb (by omega) (by omega) dX0_key_27 (by decide) (fun c_27 => ?_) (fun c_27 => ?_)
      ·
        refine lv_aload_n hx hb dX0_key_33 rfl (lv_at hl 0 rfl) ?_
        refine c_g7 hx hb hts hown hK hP dX0_key_34 ?_
        refine lv_iload_n hx hb dX0_key_37 rfl (lv_at hl 1 rfl) ?_
        refine c_l7 (j := q1) hx hb hK hP (by omega) dX0_key_38 ?_
        refine lv_istore_n (lv' := [(3, .int (nI (Z 7 q1))), (0, .ref o), (1, .int (nI q1)), (2, .int (nI k1))]) hx hb dX0_key_39 rfl hl (by decide) rfl (fun ls hl => ?_)
        refine lv_aload_n hx hb dX0_key_40 rfl (lv_at hl 1 rfl) ?_
        refine c_g7 hx hb hts hown hK hP dX0_key_41 ?_
        refine lv_iload_n hx hb dX0_key_44 rfl (lv_at hl 2 rfl) ?_
        refine lv_iload_n hx hb dX0_key_45 rfl (lv_at hl 3 rfl) ?_
        refine c_s7 (j := q1) (v := k1) hx hb hK hP hD hS (by omega) dX0_key_46 (fun H locs hP hD hS => ?_)
        refine lv_iload_n hx hb dX0_key_47 rfl (lv_at hl 0 rfl) ?_
        refine W.iret (v := (nI (Z 7 q1))) hx hb hr (fun t9 ht9 hW9 => ⟨⟨_, (zu Z 7 q1 k1, X), rfl, ?_, cE_mk ht9 hP hK hW9 hD⟩, hS.F ht9⟩) hS.2.2 dX0_key_48
        exact ⟨by rw [fKey, if_pos i_q, if_pos i_k, t_q, if_pos c_27], by rw [sKey, if_pos ⟨i_q, i_k, by rw [t_q]; exact c_27⟩, t_q, t_k]⟩
      ·
        refine lv_bipush (v := -3) hx hb dX0_key_30 (by decide) ?_
        refine W.iret (v := (-3)) hx hb hr (fun t9 ht9 hW9 => ⟨⟨_, (Z, X), rfl, ?_, cE_mk ht9 hP hK hW9 hD⟩, hS.F ht9⟩) hS.2.2 dX0_key_32
        exact ⟨by rw [fKey, if_pos i_q, if_pos i_k, t_q, if_neg c_27], by rw [sKey, if_neg (fun h => c_27 (by have h2 := h.2.2; rw [t_q] at h2; exact h2))]⟩

set_option maxHeartbeats 4000000 in
set_option maxRecDepth 100000 in
theorem ct_X0_strike (l : Launch) (dC : Nat → ClassId) (dI : Nat → Nat → Nat) (cy : ClassId) (o : Nat) (a : Nat → Nat) (Z X : Nat → Nat → Nat) (sz : Nat) (q : Int32) (i : Int32) (hI : Inv Z) : Met l yX0_strike (wS yX0_strike cX0_strike 4 (Option.some Jvm.ClassFile.FieldType.int)) (rmF 1 21) (va_Pc [.ref o, .int q, .int i] (cS dC dI cy o a Z X sz)) (va_Qi (fun r (u : ST × ST) => r = fStr Z q i ∧ u.1 = sStr Z q i) (cE dC dI cy o a (cA cy o a Z X sz)) (cA cy o a Z X sz)) 0 0 (cA cy o a Z X sz) := by
  refine Met.ofW (cc := cX0_strike) (maxL := 4) (ret := (Option.some Jvm.ClassFile.FieldType.int)) (by decide) rfl ?_
  intro pg en sv mi ag bw mt cd s₁ BL hml hv
  obtain ⟨rfl, hsz, hP, hK, hD0⟩ := hv
  have hx := BL.exec
  have hb := BL.bytes
  have hr := BL.returns
  have hts : ∀ w ∈ lw_ok, w.before _ sv = true := fun w hw => atoms_spec (ws := wS yX0_strike cX0_strike 4 (Option.some Jvm.ClassFile.FieldType.int)) BL.pre w (List.mem_cons_of_mem _ hw)
  have hown : sv.vm.findClass RX0 = some mi.cls := findClass_of_methodNamed BL.named
  have hlocks := BL.notSynchronized
  have fx : CallFix pg mi cd cX0_strike 4 sv _ lw_ok RX0 := ⟨hx, hb, hml, hown, hts⟩
  have hl := lv_entry ([.ref o, .int q, .int i]) (n := 4) (Nat.le_of_ble_eq_true rfl)
  rw [lg_entry_eq]
  generalize (lg_sl ([.ref o, .int q, .int i]) ++ List.replicate (4 - (lg_sl ([.ref o, .int q, .int i])).length) Slot.unset).toArray = ls at hl ⊢
  replace hl : lv_has ls 4 [(0, .ref o), (1, .int q), (2, .int i)] := hl
  subst hsz
  have hD : va_D (cA cy o a Z X sv.heap.size) (cw cy o a Z X) := hD0.self (sz := sv.heap.size)
  clear hD0
  generalize hAe : cA cy o a Z X sv.heap.size = A at hD ⊢
  have hA : ∀ q : Nat, sv.heap.size ≤ q → A q := fun q h => by rw [← hAe]; exact Or.inr h
  clear hAe
  refine x_start (fun H locs eH eL => ?_)
  replace hP : va_P (dC, dI) vwCl (cw cy o a Z X) H := by rw [eH]; exact hP
  have hS : va_S A sv.heap H locs := by rw [eH, eL]; exact va_S.rf
  clear eH eL
  obtain ⟨b0, b1, b2⟩ := hI.bd
  have hst := hI.sets
  refine lv_aload_n hx hb dX0_strike_0 rfl (lv_at hl 0 rfl) ?_
  refine lv_iload_n hx hb dX0_strike_1 rfl (lv_at hl 1 rfl) ?_
  refine r_Vi (As := [.int q]) (rest := []) fx (ct_X0_isQuestion l dC dI cy o a Z X q hI) fyX0_isQuestion tM_RX0_68 rfl rfl ⟨Nat.le_of_ble_eq_true rfl, Nat.le_of_ble_eq_true rfl⟩ (c_pre hK hP) rfl hl.1 rfl (Nat.le_of_ble_eq_true rfl) dX0_strike_2 ⟨Nat.le_of_ble_eq_true rfl, Nat.le_of_ble_eq_true rfl⟩ (fun r_2 hr_2 => ?_)
  rcases hr_2 with ⟨rfl, hr_2⟩ | ⟨rfl, hr_2⟩
  ·
    refine x_if_ne_F (tgt := 10) hx hb (by decide) dX0_strike_5 (by decide) ?_
    refine lv_iconst (v := -1) hx hb dX0_strike_8 (by decide) ?_
    refine W.iret (v := (-1)) hx hb hr (fun t9 ht9 hW9 => ⟨⟨_, (Z, X), rfl, ?_, cE_mk ht9 hP hK hW9 hD⟩, hS.F ht9⟩) hS.2.2 dX0_strike_9
    exact ⟨by rw [fStr, if_neg hr_2], by rw [sStr, if_neg (fun h => hr_2 h.1)]⟩
  ·
    have i_q := hr_2
    obtain ⟨q1, -, h_q1, rfl⟩ := inR_of i_q
    have t_q : tn (nI q1) = q1 := tn_nI (by omega)
    refine x_if_ne_T (tgt := 10) hx hb (by decide) dX0_strike_5 (by decide) ?_
    refine lv_iload_n hx hb dX0_strike_10 rfl (lv_at hl 2 rfl) ?_
    refine lv_if_eq (tgt := 22) hx hb dX0_strike_11 (by decide) (fun c_11 => ?_) (fun c_11 => ?_)
    ·
      have e_i : i = nI 0 := c_11
      subst e_i
      have i_i : inR (nI 0) 0 2 := by decide
      have t_i : tn (nI 0) = 0 := rfl
      refine lv_aload_n hx hb dX0_strike_22 rfl (lv_at hl 0 rfl) ?_
      refine c_g3 hx hb hts hown hK hP dX0_strike_23 ?_
      refine lv_iload_n hx hb dX0_strike_26 rfl (lv_at hl 1 rfl) ?_
      refine r_Si (As := [.int (nI (Z 0 3)), .int (nI q1)]) (rest := []) fx (ct_X0_isIn l (Z 0 3) q1 (by first | assumption | omega) (by first | assumption | omega)) fyX0_isIn tM_RX0_74 rfl rfl ⟨Nat.le_of_ble_eq_true rfl, Nat.le_of_ble_eq_true rfl⟩ rfl hl.1 rfl (Nat.le_of_ble_eq_true rfl) dX0_strike_27 ⟨Nat.le_of_ble_eq_true rfl, Nat.le_of_ble_eq_true rfl⟩ (fun r_27 hr_27 => ?_)
      rcases hr_27 with ⟨rfl, hr_27⟩ | ⟨rfl, hr_27⟩
      ·
        refine x_if_eq_T (tgt := 37) hx hb (by decide) dX0_strike_30 (by decide) ?_
        refine lv_iconst (v := nI 0) hx hb dX0_strike_37 (by decide) ?_
        refine lv_istore_n (lv' := [(3, .int (nI 0)), (0, .ref o), (1, .int (nI q1)), (2, .int (nI 0))]) hx hb dX0_strike_38 rfl hl (by decide) rfl (fun ls hl => ?_)
        refine lv_aload_n hx hb dX0_strike_39 rfl (lv_at hl 1 rfl) ?_
        refine lv_aload_n hx hb dX0_strike_40 rfl (lv_at hl 1 rfl) ?_
        refine c_g3 hx hb hts hown hK hP dX0_strike_41 ?_
        refine lv_iconst (v := nI 1) hx hb dX0_strike_44 (by decide) ?_
        refine lv_iload_n hx hb dX0_strike_45 rfl (lv_at hl 2 rfl) ?_
        refine x_ishl1 hx hb (by omega) dX0_strike_46 ?_
        refine lv_iconst (v := -1) hx hb dX0_strike_47 (by decide) ?_
        refine x_ixorm hx hb dX0_strike_48 ?_
        refine x_iand hx hb dX0_strike_49 ?_
        refine lv_iload_n hx hb dX0_strike_50 rfl (lv_at hl 3 rfl) ?_
        refine lv_iload_n hx hb dX0_strike_51 rfl (lv_at hl 2 rfl) ?_
        refine x_ishl hx hb (by omega) (by omega) dX0_strike_52 ?_
        refine x_ior hx hb dX0_strike_53 ?_
        refine c_p3 (v := ((Z 0 3) &&& ((2 ^ q1) ^^^ 4294967295)) ||| (0 * 2 ^ q1)) hx hb hts hown hK hP hD hS dX0_strike_54 (fun H locs hP hD hS => ?_)
        refine lv_iload_n hx hb dX0_strike_57 rfl (lv_at hl 0 rfl) ?_
        refine W.iret (v := (nI 0)) hx hb hr (fun t9 ht9 hW9 => ⟨⟨_, (zu Z 0 3 (((Z 0 3) &&& ((2 ^ q1) ^^^ 4294967295)) ||| (0 * 2 ^ q1)), X), rfl, ?_, cE_mk ht9 hP hK hW9 hD⟩, hS.F ht9⟩) hS.2.2 dX0_strike_58
        refine ⟨?_, by rw [sStr, if_pos ⟨i_q, i_i⟩, t_q, t_i, stB] <;> first | rfl | rw [Nat.one_mul]⟩
        rw [fStr, if_pos i_q, if_pos i_i, t_q]
        first | (rw [hr_27]; rfl) | (rw [Bool.eq_false_iff.mpr hr_27]; rfl)
      ·
        refine x_if_eq_F (tgt := 37) hx hb (by decide) dX0_strike_30 (by decide) ?_
        refine lv_iconst (v := nI 1) hx hb dX0_strike_33 (by decide) ?_
        refine lv_goto (tgt := 38) hx hb dX0_strike_34 (by decide) ?_
        refine lv_istore_n (lv' := [(3, .int (nI 1)), (0, .ref o), (1, .int (nI q1)), (2, .int (nI 0))]) hx hb dX0_strike_38 rfl hl (by decide) rfl (fun ls hl => ?_)
        refine lv_aload_n hx hb dX0_strike_39 rfl (lv_at hl 1 rfl) ?_
        refine lv_aload_n hx hb dX0_strike_40 rfl (lv_at hl 1 rfl) ?_
        refine c_g3 hx hb hts hown hK hP dX0_strike_41 ?_
        refine lv_iconst (v := nI 1) hx hb dX0_strike_44 (by decide) ?_
        refine lv_iload_n hx hb dX0_strike_45 rfl (lv_at hl 2 rfl) ?_
        refine x_ishl1 hx hb (by omega) dX0_strike_46 ?_
        refine lv_iconst (v := -1) hx hb dX0_strike_47 (by decide) ?_
        refine x_ixorm hx hb dX0_strike_48 ?_
        refine x_iand hx hb dX0_strike_49 ?_
        refine lv_iload_n hx hb dX0_strike_50 rfl (lv_at hl 3 rfl) ?_
        refine lv_iload_n hx hb dX0_strike_51 rfl (lv_at hl 2 rfl) ?_
        refine x_ishl hx hb (by omega) (by omega) dX0_strike_52 ?_
        refine x_ior hx hb dX0_strike_53 ?_
        refine c_p3 (v := ((Z 0 3) &&& ((2 ^ q1) ^^^ 4294967295)) ||| (0 * 2 ^ q1)) hx hb hts hown hK hP hD hS dX0_strike_54 (fun H locs hP hD hS => ?_)
        refine lv_iload_n hx hb dX0_strike_57 rfl (lv_at hl 0 rfl) ?_
        refine W.iret (v := (nI 1)) hx hb hr (fun t9 ht9 hW9 => ⟨⟨_, (zu Z 0 3 (((Z 0 3) &&& ((2 ^ q1) ^^^ 4294967295)) ||| (0 * 2 ^ q1)), X), rfl, ?_, cE_mk ht9 hP hK hW9 hD⟩, hS.F ht9⟩) hS.2.2 dX0_strike_58
        refine ⟨?_, by rw [sStr, if_pos ⟨i_q, i_i⟩, t_q, t_i, stB] <;> first | rfl | rw [Nat.one_mul]⟩
        rw [fStr, if_pos i_q, if_pos i_i, t_q]
        first | (rw [hr_27]; rfl) | (rw [Bool.eq_false_iff.mpr hr_27]; rfl)
    ·
      refine lv_iload_n hx hb dX0_strike_14 rfl (lv_at hl 2 rfl) ?_
      refine lv_iconst (v := nI 1) hx hb dX0_strike_15 (by decide) ?_
      refine lv_icmp_eq (tgt := 22) hx hb dX0_strike_16 (by decide) (fun c_16 => ?_) (fun c_16 => ?_)
      ·
        have e_i : i = nI 1 := c_16
        subst e_i
        have i_i : inR (nI 1) 0 2 := by decide
        have t_i : tn (nI 1) = 1 := rfl
        refine lv_aload_n hx hb dX0_strike_22 rfl (lv_at hl 0 rfl) ?_
        refine c_g3 hx hb hts hown hK hP dX0_strike_23 ?_
        refine lv_iload_n hx hb dX0_strike_26 rfl (lv_at hl 1 rfl) ?_
        refine r_Si (As := [.int (nI (Z 0 3)), .int (nI q1)]) (rest := []) fx (ct_X0_isIn l (Z 0 3) q1 (by first | assumption | omega) (by first | assumption | omega)) fyX0_isIn tM_RX0_74 rfl rfl ⟨Nat.le_of_ble_eq_true rfl, Nat.le_of_ble_eq_true rfl⟩ rfl hl.1 rfl (Nat.le_of_ble_eq_true rfl) dX0_strike_27 ⟨Nat.le_of_ble_eq_true rfl, Nat.le_of_ble_eq_true rfl⟩ (fun r_27 hr_27 => ?_)
        rcases hr_27 with ⟨rfl, hr_27⟩ | ⟨rfl, hr_27⟩
        ·
          refine x_if_eq_T (tgt := 37) hx hb (by decide) dX0_strike_30 (by decide) ?_
          refine lv_iconst (v := nI 0) hx hb dX0_strike_37 (by decide) ?_
          refine lv_istore_n (lv' := [(3, .int (nI 0)), (0, .ref o), (1, .int (nI q1)), (2, .int (nI 1))]) hx hb dX0_strike_38 rfl hl (by decide) rfl (fun ls hl => ?_)
          refine lv_aload_n hx hb dX0_strike_39 rfl (lv_at hl 1 rfl) ?_
          refine lv_aload_n hx hb dX0_strike_40 rfl (lv_at hl 1 rfl) ?_
          refine c_g3 hx hb hts hown hK hP dX0_strike_41 ?_
          refine lv_iconst (v := nI 1) hx hb dX0_strike_44 (by decide) ?_
          refine lv_iload_n hx hb dX0_strike_45 rfl (lv_at hl 2 rfl) ?_
          refine x_ishl1 hx hb (by omega) dX0_strike_46 ?_
          refine lv_iconst (v := -1) hx hb dX0_strike_47 (by decide) ?_
          refine x_ixorm hx hb dX0_strike_48 ?_
          refine x_iand hx hb dX0_strike_49 ?_
          refine lv_iload_n hx hb dX0_strike_50 rfl (lv_at hl 3 rfl) ?_
          refine lv_iload_n hx hb dX0_strike_51 rfl (lv_at hl 2 rfl) ?_
          refine x_ishl1 hx hb (by omega) dX0_strike_52 ?_
          refine x_ior hx hb dX0_strike_53 ?_
          refine c_p3 (v := ((Z 0 3) &&& ((2 ^ q1) ^^^ 4294967295)) ||| (2 ^ q1)) hx hb hts hown hK hP hD hS dX0_strike_54 (fun H locs hP hD hS => ?_)
          refine lv_iload_n hx hb dX0_strike_57 rfl (lv_at hl 0 rfl) ?_
          refine W.iret (v := (nI 0)) hx hb hr (fun t9 ht9 hW9 => ⟨⟨_, (zu Z 0 3 (((Z 0 3) &&& ((2 ^ q1) ^^^ 4294967295)) ||| (2 ^ q1)), X), rfl, ?_, cE_mk ht9 hP hK hW9 hD⟩, hS.F ht9⟩) hS.2.2 dX0_strike_58
          refine ⟨?_, by rw [sStr, if_pos ⟨i_q, i_i⟩, t_q, t_i, stB] <;> first | rfl | rw [Nat.one_mul]⟩
          rw [fStr, if_pos i_q, if_pos i_i, t_q]
          first | (rw [hr_27]; rfl) | (rw [Bool.eq_false_iff.mpr hr_27]; rfl)
        ·
          refine x_if_eq_F (tgt := 37) hx hb (by decide) dX0_strike_30 (by decide) ?_
          refine lv_iconst (v := nI 1) hx hb dX0_strike_33 (by decide) ?_
          refine lv_goto (tgt := 38) hx hb dX0_strike_34 (by decide) ?_
          refine lv_istore_n (lv' := [(3, .int (nI 1)), (0, .ref o), (1, .int (nI q1)), (2, .int (nI 1))]) hx hb dX0_strike_38 rfl hl (by decide) rfl (fun ls hl => ?_)
          refine lv_aload_n hx hb dX0_strike_39 rfl (lv_at hl 1 rfl) ?_
          refine lv_aload_n hx hb dX0_strike_40 rfl (lv_at hl 1 rfl) ?_
          refine c_g3 hx hb hts hown hK hP dX0_strike_41 ?_
          refine lv_iconst (v := nI 1) hx hb dX0_strike_44 (by decide) ?_
          refine lv_iload_n hx hb dX0_strike_45 rfl (lv_at hl 2 rfl) ?_
          refine x_ishl1 hx hb (by omega) dX0_strike_46 ?_
          refine lv_iconst (v := -1) hx hb dX0_strike_47 (by decide) ?_
          refine x_ixorm hx hb dX0_strike_48 ?_
          refine x_iand hx hb dX0_strike_49 ?_
          refine lv_iload_n hx hb dX0_strike_50 rfl (lv_at hl 3 rfl) ?_
          refine lv_iload_n hx hb dX0_strike_51 rfl (lv_at hl 2 rfl) ?_
          refine x_ishl1 hx hb (by omega) dX0_strike_52 ?_
          refine x_ior hx hb dX0_strike_53 ?_
          refine c_p3 (v := ((Z 0 3) &&& ((2 ^ q1) ^^^ 4294967295)) ||| (2 ^ q1)) hx hb hts hown hK hP hD hS dX0_strike_54 (fun H locs hP hD hS => ?_)
          refine lv_iload_n hx hb dX0_strike_57 rfl (lv_at hl 0 rfl) ?_
          refine W.iret (v := (nI 1)) hx hb hr (fun t9 ht9 hW9 => ⟨⟨_, (zu Z 0 3 (((Z 0 3) &&& ((2 ^ q1) ^^^ 4294967295)) ||| (2 ^ q1)), X), rfl, ?_, cE_mk ht9 hP hK hW9 hD⟩, hS.F ht9⟩) hS.2.2 dX0_strike_58
          refine ⟨?_, by rw [sStr, if_pos ⟨i_q, i_i⟩, t_q, t_i, stB] <;> first | rfl | rw [Nat.one_mul]⟩
          rw [fStr, if_pos i_q, if_pos i_i, t_q]
          first | (rw [hr_27]; rfl) | (rw [Bool.eq_false_iff.mpr hr_27]; rfl)
      ·
        have hno : ¬ inR i 0 2 := fun h => by
          obtain ⟨j, -, hj, e⟩ := inR_of h
          subst e
          rcases (show j = 0 ∨ j = 1 by omega) with e | e <;> subst e
          · exact c_11 rfl
          · exact c_16 rfl
        refine lv_bipush (v := -2) hx hb dX0_strike_19 (by decide) ?_
        refine W.iret (v := (-2)) hx hb hr (fun t9 ht9 hW9 => ⟨⟨_, (Z, X), rfl, ?_, cE_mk ht9 hP hK hW9 hD⟩, hS.F ht9⟩) hS.2.2 dX0_strike_21
        exact ⟨by rw [fStr, if_pos i_q, if_neg hno], by rw [sStr, if_neg (fun h => hno h.2)]⟩

set_option maxHeartbeats 4000000 in
set_option maxRecDepth 100000 in
theorem ct_X0_paper (l : Launch) (dC : Nat → ClassId) (dI : Nat → Nat → Nat) (cy : ClassId) (o : Nat) (a : Nat → Nat) (Z X : Nat → Nat → Nat) (sz : Nat)  (hI : Inv Z) : Met l yX0_paper (wS yX0_paper cX0_paper 2 (Option.some Jvm.ClassFile.FieldType.int)) (rmF 0 0) (va_Pc [.ref o] (cS dC dI cy o a Z X sz)) (va_Qi (fun r (u : ST × ST) => r = fPap Z ∧ u.1 = sPap Z) (cE dC dI cy o a (cA cy o a Z X sz)) (cA cy o a Z X sz)) 0 0 (cA cy o a Z X sz) := by
  refine Met.ofW (cc := cX0_paper) (maxL := 2) (ret := (Option.some Jvm.ClassFile.FieldType.int)) (by decide) rfl ?_
  intro pg en sv mi ag bw mt cd s₁ BL hml hv
  obtain ⟨rfl, hsz, hP, hK, hD0⟩ := hv
  have hx := BL.exec
  have hb := BL.bytes
  have hr := BL.returns
  have hts : ∀ w ∈ lw_ok, w.before _ sv = true := fun w hw => atoms_spec (ws := wS yX0_paper cX0_paper 2 (Option.some Jvm.ClassFile.FieldType.int)) BL.pre w (List.mem_cons_of_mem _ hw)
  have hown : sv.vm.findClass RX0 = some mi.cls := findClass_of_methodNamed BL.named
  have hlocks := BL.notSynchronized
  have fx : CallFix pg mi cd cX0_paper 2 sv _ lw_ok RX0 := ⟨hx, hb, hml, hown, hts⟩
  have hl := lv_entry ([.ref o]) (n := 2) (Nat.le_of_ble_eq_true rfl)
  rw [lg_entry_eq]
  generalize (lg_sl ([.ref o]) ++ List.replicate (2 - (lg_sl ([.ref o])).length) Slot.unset).toArray = ls at hl ⊢
  replace hl : lv_has ls 2 [(0, .ref o)] := hl
  subst hsz
  have hD : va_D (cA cy o a Z X sv.heap.size) (cw cy o a Z X) := hD0.self (sz := sv.heap.size)
  clear hD0
  generalize hAe : cA cy o a Z X sv.heap.size = A at hD ⊢
  have hA : ∀ q : Nat, sv.heap.size ≤ q → A q := fun q h => by rw [← hAe]; exact Or.inr h
  clear hAe
  refine x_start (fun H locs eH eL => ?_)
  replace hP : va_P (dC, dI) vwCl (cw cy o a Z X) H := by rw [eH]; exact hP
  have hS : va_S A sv.heap H locs := by rw [eH, eL]; exact va_S.rf
  clear eH eL
  obtain ⟨b0, b1, b2⟩ := hI.bd
  refine lv_aload_n hx hb dX0_paper_0 rfl (lv_at hl 0 rfl) ?_
  refine c_g1 hx hb hts hown hK hP dX0_paper_1 ?_
  refine lv_bipush (v := nI 8) hx hb dX0_paper_4 (by decide) ?_
  refine x_icmp_lt (x := Z 0 1) (y := 8) (tgt := 12) hx hb (by omega) (by omega) dX0_paper_6 (by decide) (fun c_6 => ?_) (fun c_6 => ?_)
  ·
    refine lv_aload_n hx hb dX0_paper_12 rfl (lv_at hl 0 rfl) ?_
    refine c_g1 hx hb hts hown hK hP dX0_paper_13 ?_
    refine lv_istore_n (lv' := [(1, .int (nI (Z 0 1))), (0, .ref o)]) hx hb dX0_paper_16 rfl hl (by decide) rfl (fun ls hl => ?_)
    refine lv_aload_n hx hb dX0_paper_17 rfl (lv_at hl 1 rfl) ?_
    refine lv_dup hx hb dX0_paper_18 rfl ?_
    refine c_g1 hx hb hts hown hK hP dX0_paper_19 ?_
    refine lv_iconst (v := nI 1) hx hb dX0_paper_22 (by decide) ?_
    refine x_iadd hx hb dX0_paper_23 ?_
    refine c_p1 (v := (Z 0 1) + 1) hx hb hts hown hK hP hD hS dX0_paper_24 (fun H locs hP hD hS => ?_)
    refine lv_iload_n hx hb dX0_paper_27 rfl (lv_at hl 0 rfl) ?_
    refine W.iret (v := (nI (Z 0 1))) hx hb hr (fun t9 ht9 hW9 => ⟨⟨_, (zu Z 0 1 ((Z 0 1) + 1), X), rfl, ?_, cE_mk ht9 hP hK hW9 hD⟩, hS.F ht9⟩) hS.2.2 dX0_paper_28
    exact ⟨by rw [fPap, if_pos c_6], by rw [sPap, if_pos c_6]⟩
  ·
    refine lv_bipush (v := -4) hx hb dX0_paper_9 (by decide) ?_
    refine W.iret (v := (-4)) hx hb hr (fun t9 ht9 hW9 => ⟨⟨_, (Z, X), rfl, ?_, cE_mk ht9 hP hK hW9 hD⟩, hS.F ht9⟩) hS.2.2 dX0_paper_11
    exact ⟨by rw [fPap, if_neg c_6], by rw [sPap, if_neg c_6]⟩

set_option maxHeartbeats 4000000 in
set_option maxRecDepth 100000 in
theorem ct_X0_put (l : Launch) (dC : Nat → ClassId) (dI : Nat → Nat → Nat) (cy : ClassId) (o : Nat) (a : Nat → Nat) (Z X : Nat → Nat → Nat) (sz : Nat) (p : Int32) (q : Int32) (hI : Inv Z) : Met l yX0_put (wS yX0_put cX0_put 4 (Option.some Jvm.ClassFile.FieldType.int)) (rmF 1 22) (va_Pc [.ref o, .int p, .int q] (cS dC dI cy o a Z X sz)) (va_Qi (fun r (u : ST × ST) => r = fPut Z p q ∧ u.1 = sPut Z p q) (cE dC dI cy o a (cA cy o a Z X sz)) (cA cy o a Z X sz)) 0 0 (cA cy o a Z X sz) := by
  refine Met.ofW (cc := cX0_put) (maxL := 4) (ret := (Option.some Jvm.ClassFile.FieldType.int)) (by decide) rfl ?_
  intro pg en sv mi ag bw mt cd s₁ BL hml hv
  obtain ⟨rfl, hsz, hP, hK, hD0⟩ := hv
  have hx := BL.exec
  have hb := BL.bytes
  have hr := BL.returns
  have hts : ∀ w ∈ lw_ok, w.before _ sv = true := fun w hw => atoms_spec (ws := wS yX0_put cX0_put 4 (Option.some Jvm.ClassFile.FieldType.int)) BL.pre w (List.mem_cons_of_mem _ hw)
  have hown : sv.vm.findClass RX0 = some mi.cls := findClass_of_methodNamed BL.named
  have hlocks := BL.notSynchronized
  have fx : CallFix pg mi cd cX0_put 4 sv _ lw_ok RX0 := ⟨hx, hb, hml, hown, hts⟩
  have hl := lv_entry ([.ref o, .int p, .int q]) (n := 4) (Nat.le_of_ble_eq_true rfl)
  rw [lg_entry_eq]
  generalize (lg_sl ([.ref o, .int p, .int q]) ++ List.replicate (4 - (lg_sl ([.ref o, .int p, .int q])).length) Slot.unset).toArray = ls at hl ⊢
  replace hl : lv_has ls 4 [(0, .ref o), (1, .int p), (2, .int q)] := hl
  subst hsz
  have hD : va_D (cA cy o a Z X sv.heap.size) (cw cy o a Z X) := hD0.self (sz := sv.heap.size)
  clear hD0
  generalize hAe : cA cy o a Z X sv.heap.size = A at hD ⊢
  have hA : ∀ q : Nat, sv.heap.size ≤ q → A q := fun q h => by rw [← hAe]; exact Or.inr h
  clear hAe
  refine x_start (fun H locs eH eL => ?_)
  replace hP : va_P (dC, dI) vwCl (cw cy o a Z X) H := by rw [eH]; exact hP
  have hS : va_S A sv.heap H locs := by rw [eH, eL]; exact va_S.rf
  clear eH eL
  obtain ⟨b0, b1, b2⟩ := hI.bd
  refine lv_aload_n hx hb dX0_put_0 rfl (lv_at hl 0 rfl) ?_
  refine lv_iload_n hx hb dX0_put_1 rfl (lv_at hl 1 rfl) ?_
  refine r_Vi (As := [.int p]) (rest := []) fx (ct_X0_isPaper l dC dI cy o a Z X p hI) fyX0_isPaper tM_RX0_81 rfl rfl ⟨Nat.le_of_ble_eq_true rfl, Nat.le_of_ble_eq_true rfl⟩ (c_pre hK hP) rfl hl.1 rfl (Nat.le_of_ble_eq_true rfl) dX0_put_2 ⟨Nat.le_of_ble_eq_true rfl, Nat.le_of_ble_eq_true rfl⟩ (fun r_2 hr_2 => ?_)
  rcases hr_2 with ⟨rfl, hr_2⟩ | ⟨rfl, hr_2⟩
  ·
    refine x_if_eq_T (tgt := 16) hx hb (by decide) dX0_put_5 (by decide) ?_
    refine lv_iconst (v := -1) hx hb dX0_put_16 (by decide) ?_
    refine W.iret (v := (-1)) hx hb hr (fun t9 ht9 hW9 => ⟨⟨_, (Z, X), rfl, ?_, cE_mk ht9 hP hK hW9 hD⟩, hS.F ht9⟩) hS.2.2 dX0_put_17
    first
    | (constructor; (rw [fPut, if_neg (fun h => hr_2 h.1)]); (rw [sPut, if_neg (fun h => hr_2 h.1.1)]); done)
    | (constructor; (rw [fPut, if_neg (fun h => hr_10 h.2)]); (rw [sPut, if_neg (fun h => hr_10 h.1.2)]); done)
  ·
    have i_p := hr_2
    obtain ⟨p1, -, h_p1, rfl⟩ := inR_of i_p
    have t_p : tn (nI p1) = p1 := tn_nI (by omega)
    have bs := hI.sz (p := p1) (by omega)
    refine x_if_eq_F (tgt := 16) hx hb (by decide) dX0_put_5 (by decide) ?_
    refine lv_aload_n hx hb dX0_put_8 rfl (lv_at hl 0 rfl) ?_
    refine lv_iload_n hx hb dX0_put_9 rfl (lv_at hl 2 rfl) ?_
    refine r_Vi (As := [.int q]) (rest := []) fx (ct_X0_isQuestion l dC dI cy o a Z X q hI) fyX0_isQuestion tM_RX0_68 rfl rfl ⟨Nat.le_of_ble_eq_true rfl, Nat.le_of_ble_eq_true rfl⟩ (c_pre hK hP) rfl hl.1 rfl (Nat.le_of_ble_eq_true rfl) dX0_put_10 ⟨Nat.le_of_ble_eq_true rfl, Nat.le_of_ble_eq_true rfl⟩ (fun r_10 hr_10 => ?_)
    rcases hr_10 with ⟨rfl, hr_10⟩ | ⟨rfl, hr_10⟩
    ·
      refine x_if_ne_F (tgt := 18) hx hb (by decide) dX0_put_13 (by decide) ?_
      refine lv_iconst (v := -1) hx hb dX0_put_16 (by decide) ?_
      refine W.iret (v := (-1)) hx hb hr (fun t9 ht9 hW9 => ⟨⟨_, (Z, X), rfl, ?_, cE_mk ht9 hP hK hW9 hD⟩, hS.F ht9⟩) hS.2.2 dX0_put_17
      first
      | (constructor; (rw [fPut, if_neg (fun h => hr_2 h.1)]); (rw [sPut, if_neg (fun h => hr_2 h.1.1)]); done)
      | (constructor; (rw [fPut, if_neg (fun h => hr_10 h.2)]); (rw [sPut, if_neg (fun h => hr_10 h.1.2)]); done)
    ·
      have i_q := hr_10
      obtain ⟨q1, -, h_q1, rfl⟩ := inR_of i_q
      have t_q : tn (nI q1) = q1 := tn_nI (by omega)
      have hss := set_spt hI (p := p1) (q := q1) (by omega) (by omega)
      refine x_if_ne_T (tgt := 18) hx hb (by decide) dX0_put_13 (by decide) ?_
      refine lv_aload_n hx hb dX0_put_18 rfl (lv_at hl 0 rfl) ?_
      refine c_g9 hx hb hts hown hK hP dX0_put_19 ?_
      refine lv_iload_n hx hb dX0_put_22 rfl (lv_at hl 1 rfl) ?_
      refine c_l9 (j := p1) hx hb hK hP (by omega) dX0_put_23 ?_
      refine lv_iload_n hx hb dX0_put_24 rfl (lv_at hl 2 rfl) ?_
      refine r_Si (As := [.int (nI (Z 9 p1)), .int (nI q1)]) (rest := []) fx (ct_X0_isIn l (Z 9 p1) q1 (by first | assumption | omega) (by first | assumption | omega)) fyX0_isIn tM_RX0_74 rfl rfl ⟨Nat.le_of_ble_eq_true rfl, Nat.le_of_ble_eq_true rfl⟩ rfl hl.1 rfl (Nat.le_of_ble_eq_true rfl) dX0_put_25 ⟨Nat.le_of_ble_eq_true rfl, Nat.le_of_ble_eq_true rfl⟩ (fun r_25 hr_25 => ?_)
      rcases hr_25 with ⟨rfl, hr_25⟩ | ⟨rfl, hr_25⟩
      ·
        refine x_if_ne_F (tgt := 39) hx hb (by decide) dX0_put_28 (by decide) ?_
        refine lv_aload_n hx hb dX0_put_31 rfl (lv_at hl 0 rfl) ?_
        refine lv_iload_n hx hb dX0_put_32 rfl (lv_at hl 1 rfl) ?_
        refine r_Vi (As := [.int (nI p1)]) (rest := []) fx (ct_X0_hasPupil l dC dI cy o a Z X p1 hI (by first | assumption | omega)) fyX0_hasPupil tM_RX0_84 rfl rfl ⟨Nat.le_of_ble_eq_true rfl, Nat.le_of_ble_eq_true rfl⟩ (c_pre hK hP) rfl hl.1 rfl (Nat.le_of_ble_eq_true rfl) dX0_put_33 ⟨Nat.le_of_ble_eq_true rfl, Nat.le_of_ble_eq_true rfl⟩ (fun r_33 hr_33 => ?_)
        rcases hr_33 with ⟨rfl, hr_33⟩ | ⟨rfl, hr_33⟩
        ·
          refine x_if_eq_T (tgt := 42) hx hb (by decide) dX0_put_36 (by decide) ?_
          refine lv_aload_n hx hb dX0_put_42 rfl (lv_at hl 0 rfl) ?_
          refine c_g8 hx hb hts hown hK hP dX0_put_43 ?_
          refine lv_iload_n hx hb dX0_put_46 rfl (lv_at hl 1 rfl) ?_
          refine c_l8 (j := p1) hx hb hK hP (by omega) dX0_put_47 ?_
          refine lv_istore_n (lv' := [(3, .int (nI (Z 8 p1))), (0, .ref o), (1, .int (nI p1)), (2, .int (nI q1))]) hx hb dX0_put_48 rfl hl (by decide) rfl (fun ls hl => ?_)
          refine lv_iload_n hx hb dX0_put_49 rfl (lv_at hl 0 rfl) ?_
          refine lv_bipush (v := nI 12) hx hb dX0_put_50 (by decide) ?_
          refine x_icmp_lt (x := Z 8 p1) (y := 12) (tgt := 58) hx hb (by omega) (by omega) dX0_put_52 (by decide) (fun c_52 => ?_) (fun c_52 => ?_)
          ·
            refine lv_aload_n hx hb dX0_put_58 rfl (lv_at hl 1 rfl) ?_
            refine c_g10 hx hb hts hown hK hP dX0_put_59 ?_
            refine lv_iload_n hx hb dX0_put_62 rfl (lv_at hl 2 rfl) ?_
            refine lv_bipush (v := nI 12) hx hb dX0_put_63 (by decide) ?_
            refine x_imul hx hb dX0_put_65 ?_
            refine lv_iload_n hx hb dX0_put_66 rfl (lv_at hl 0 rfl) ?_
            refine x_iadd hx hb dX0_put_67 ?_
            refine lv_iload_n hx hb dX0_put_68 rfl (lv_at hl 3 rfl) ?_
            refine c_s10 (j := p1 * 12 + (Z 8 p1)) (v := q1) hx hb hK hP hD hS (by omega) dX0_put_69 (fun H locs hP hD hS => ?_)
            refine lv_aload_n hx hb dX0_put_70 rfl (lv_at hl 1 rfl) ?_
            refine c_g9 hx hb hts hown hK hP dX0_put_71 ?_
            refine lv_iload_n hx hb dX0_put_74 rfl (lv_at hl 2 rfl) ?_
            refine lv_dup2_11 hx hb dX0_put_75 rfl rfl ?_
            refine c_l9 (j := p1) hx hb hK hP (by omega) dX0_put_76 ?_
            refine lv_iconst (v := nI 1) hx hb dX0_put_77 (by decide) ?_
            refine lv_iload_n hx hb dX0_put_78 rfl (lv_at hl 3 rfl) ?_
            refine x_ishl1 hx hb (by omega) dX0_put_79 ?_
            refine x_ior hx hb dX0_put_80 ?_
            refine c_s9 (j := p1) (v := ((zu Z 10 (p1 * 12 + (Z 8 p1)) q1) 9 p1) ||| (2 ^ q1)) hx hb hK hP hD hS (by omega) dX0_put_81 (fun H locs hP hD hS => ?_)
            refine lv_aload_n hx hb dX0_put_82 rfl (lv_at hl 1 rfl) ?_
            refine c_g8 hx hb hts hown hK hP dX0_put_83 ?_
            refine lv_iload_n hx hb dX0_put_86 rfl (lv_at hl 2 rfl) ?_
            refine lv_dup2_11 hx hb dX0_put_87 rfl rfl ?_
            refine c_l8 (j := p1) hx hb hK hP (by omega) dX0_put_88 ?_
            refine lv_iconst (v := nI 1) hx hb dX0_put_89 (by decide) ?_
            refine x_iadd hx hb dX0_put_90 ?_
            refine c_s8 (j := p1) (v := ((zu (zu Z 10 (p1 * 12 + (Z 8 p1)) q1) 9 p1 (((zu Z 10 (p1 * 12 + (Z 8 p1)) q1) 9 p1) ||| (2 ^ q1))) 8 p1) + 1) hx hb hK hP hD hS (by omega) dX0_put_91 (fun H locs hP hD hS => ?_)
            refine lv_iload_n hx hb dX0_put_92 rfl (lv_at hl 0 rfl) ?_
            refine W.iret (v := (nI (Z 8 p1))) hx hb hr (fun t9 ht9 hW9 => ⟨⟨_, (zu (zu (zu Z 10 (p1 * 12 + (Z 8 p1)) q1) 9 p1 (((zu Z 10 (p1 * 12 + (Z 8 p1)) q1) 9 p1) ||| (2 ^ q1))) 8 p1 (((zu (zu Z 10 (p1 * 12 + (Z 8 p1)) q1) 9 p1 (((zu Z 10 (p1 * 12 + (Z 8 p1)) q1) 9 p1) ||| (2 ^ q1))) 8 p1) + 1), X), rfl, ?_, cE_mk ht9 hP hK hW9 hD⟩, hS.F ht9⟩) hS.2.2 dX0_put_93
            have ho : oPut Z p1 q1 := ⟨Classical.byContradiction (fun h => hr_25 (hss.mpr h)), Classical.byContradiction (fun h => hr_33 (gN_ex.mpr h))⟩
            refine ⟨by rw [fPut, if_pos ⟨i_p, i_q⟩, t_p, t_q, if_pos ho, if_pos c_52], ?_⟩
            rw [sPut, if_pos ⟨⟨i_p, i_q⟩, by rw [t_p, t_q]; exact ho, by rw [t_p]; exact c_52⟩, t_p, t_q]
            rfl
          ·
            refine lv_bipush (v := -4) hx hb dX0_put_55 (by decide) ?_
            refine W.iret (v := (-4)) hx hb hr (fun t9 ht9 hW9 => ⟨⟨_, (Z, X), rfl, ?_, cE_mk ht9 hP hK hW9 hD⟩, hS.F ht9⟩) hS.2.2 dX0_put_57
            have ho : oPut Z p1 q1 := ⟨Classical.byContradiction (fun h => hr_25 (hss.mpr h)), Classical.byContradiction (fun h => hr_33 (gN_ex.mpr h))⟩
            exact ⟨by rw [fPut, if_pos ⟨i_p, i_q⟩, t_p, t_q, if_pos ho, if_neg c_52], by rw [sPut, if_neg (fun h => c_52 (by have h2 := h.2.2; rw [t_p] at h2; exact h2))]⟩
        ·
          refine x_if_eq_F (tgt := 42) hx hb (by decide) dX0_put_36 (by decide) ?_
          refine lv_bipush (v := -3) hx hb dX0_put_39 (by decide) ?_
          refine W.iret (v := (-3)) hx hb hr (fun t9 ht9 hW9 => ⟨⟨_, (Z, X), rfl, ?_, cE_mk ht9 hP hK hW9 hD⟩, hS.F ht9⟩) hS.2.2 dX0_put_41
          have hno : ¬ oPut Z p1 q1 := by first | exact fun h => (hss.mp hr_25) h.1 | exact fun h => gN_ex.mp hr_33 h.2
          exact ⟨by rw [fPut, if_pos ⟨i_p, i_q⟩, t_p, t_q, if_neg hno], by rw [sPut, if_neg (fun h => hno (by have h2 := h.2.1; rw [t_p, t_q] at h2; exact h2))]⟩
      ·
        refine x_if_ne_T (tgt := 39) hx hb (by decide) dX0_put_28 (by decide) ?_
        refine lv_bipush (v := -3) hx hb dX0_put_39 (by decide) ?_
        refine W.iret (v := (-3)) hx hb hr (fun t9 ht9 hW9 => ⟨⟨_, (Z, X), rfl, ?_, cE_mk ht9 hP hK hW9 hD⟩, hS.F ht9⟩) hS.2.2 dX0_put_41
        have hno : ¬ oPut Z p1 q1 := by first | exact fun h => (hss.mp hr_25) h.1 | exact fun h => gN_ex.mp hr_33 h.2
        exact ⟨by rw [fPut, if_pos ⟨i_p, i_q⟩, t_p, t_q, if_neg hno], by rw [sPut, if_neg (fun h => hno (by have h2 := h.2.1; rw [t_p, t_q] at h2; exact h2))]⟩

set_option maxHeartbeats 4000000 in
set_option maxRecDepth 100000 in
theorem ct_X0_at (l : Launch) (dC : Nat → ClassId) (dI : Nat → Nat → Nat) (cy : ClassId) (o : Nat) (a : Nat → Nat) (Z X : Nat → Nat → Nat) (p : Int32) (i : Int32) (hI : Inv Z) : Met l yX0_at (wS yX0_at cX0_at 3 (Option.some Jvm.ClassFile.FieldType.int)) (rmF 1 21) (va_Pc [.ref o, .int p, .int i] (cR dC dI cy o a Z X)) (vp_Si (fun r => r = fAt Z p i)) 0 0 (fun _ => False) := by
  refine Met.ofW (cc := cX0_at) (maxL := 3) (ret := (Option.some Jvm.ClassFile.FieldType.int)) (by decide) rfl ?_
  intro pg en sv mi ag bw mt cd s₁ BL hml hv
  obtain ⟨rfl, hP, hK⟩ := hv
  have hx := BL.exec
  have hb := BL.bytes
  have hr := BL.returns
  have hts : ∀ w ∈ lw_ok, w.before _ sv = true := fun w hw => atoms_spec (ws := wS yX0_at cX0_at 3 (Option.some Jvm.ClassFile.FieldType.int)) BL.pre w (List.mem_cons_of_mem _ hw)
  have hown : sv.vm.findClass RX0 = some mi.cls := findClass_of_methodNamed BL.named
  have hlocks := BL.notSynchronized
  have fx : CallFix pg mi cd cX0_at 3 sv _ lw_ok RX0 := ⟨hx, hb, hml, hown, hts⟩
  have hl := lv_entry ([.ref o, .int p, .int i]) (n := 3) (Nat.le_of_ble_eq_true rfl)
  rw [lg_entry_eq]
  generalize (lg_sl ([.ref o, .int p, .int i]) ++ List.replicate (3 - (lg_sl ([.ref o, .int p, .int i])).length) Slot.unset).toArray = ls at hl ⊢
  replace hl : lv_has ls 3 [(0, .ref o), (1, .int p), (2, .int i)] := hl
  obtain ⟨b0, b1, b2⟩ := hI.bd
  refine lv_aload_n hx hb dX0_at_0 rfl (lv_at hl 0 rfl) ?_
  refine lv_iload_n hx hb dX0_at_1 rfl (lv_at hl 1 rfl) ?_
  refine r_Vi (As := [.int p]) (rest := []) fx (ct_X0_isPaper l dC dI cy o a Z X p hI) fyX0_isPaper tM_RX0_81 rfl rfl ⟨Nat.le_of_ble_eq_true rfl, Nat.le_of_ble_eq_true rfl⟩ (c_pre hK hP) rfl hl.1 rfl (Nat.le_of_ble_eq_true rfl) dX0_at_2 ⟨Nat.le_of_ble_eq_true rfl, Nat.le_of_ble_eq_true rfl⟩ (fun r_2 hr_2 => ?_)
  rcases hr_2 with ⟨rfl, hr_2⟩ | ⟨rfl, hr_2⟩
  ·
    refine x_if_eq_T (tgt := 22) hx hb (by decide) dX0_at_5 (by decide) ?_
    refine lv_iconst (v := -1) hx hb dX0_at_22 (by decide) ?_
    refine W.iret (v := (-1)) hx hb hr (fun t9 ht9 hW9 => ⟨_, rfl, ?_, ht9⟩) (fun q h => by cases h) dX0_at_23
    first
    | (rw [fAt, if_neg (fun h => hr_2 h.1)]; done)
    | (rw [fAt, if_neg (fun h => inR_lo c_9 h.2)]; done)
    | (rw [fAt, if_neg (fun h => c_19 (by have h2 := h.2; rw [t_p] at h2; exact Classical.byContradiction (fun q => inR_hi (by omega) (fa_of_nlt q) h2)))]; done)
  ·
    have i_p := hr_2
    obtain ⟨p1, -, h_p1, rfl⟩ := inR_of i_p
    have t_p : tn (nI p1) = p1 := tn_nI (by omega)
    have bs := hI.sz (p := p1) (by omega)
    refine x_if_eq_F (tgt := 22) hx hb (by decide) dX0_at_5 (by decide) ?_
    refine lv_iload_n hx hb dX0_at_8 rfl (lv_at hl 2 rfl) ?_
    refine lv_if_lt (tgt := 22) hx hb dX0_at_9 (by decide) (fun c_9 => ?_) (fun c_9 => ?_)
    ·
      refine lv_iconst (v := -1) hx hb dX0_at_22 (by decide) ?_
      refine W.iret (v := (-1)) hx hb hr (fun t9 ht9 hW9 => ⟨_, rfl, ?_, ht9⟩) (fun q h => by cases h) dX0_at_23
      first
      | (rw [fAt, if_neg (fun h => hr_2 h.1)]; done)
      | (rw [fAt, if_neg (fun h => inR_lo c_9 h.2)]; done)
      | (rw [fAt, if_neg (fun h => c_19 (by have h2 := h.2; rw [t_p] at h2; exact Classical.byContradiction (fun q => inR_hi (by omega) (fa_of_nlt q) h2)))]; done)
    ·
      refine lv_iload_n hx hb dX0_at_12 rfl (lv_at hl 2 rfl) ?_
      refine lv_aload_n hx hb dX0_at_13 rfl (lv_at hl 0 rfl) ?_
      refine c_g8 hx hb hts hown hK hP dX0_at_14 ?_
      refine lv_iload_n hx hb dX0_at_17 rfl (lv_at hl 1 rfl) ?_
      refine c_l8 (j := p1) hx hb hK hP (by omega) dX0_at_18 ?_
      refine lv_icmp_lt (tgt := 24) hx hb dX0_at_19 (by decide) (fun c_19 => ?_) (fun c_19 => ?_)
      ·
        have i_i : inR i 0 (Z 8 p1) := inR_mk (by omega) c_9 (fun h => (fa_of_lt c_19).2.1 h)
        obtain ⟨i1, -, h_i1, rfl⟩ := inR_of i_i
        have t_i : tn (nI i1) = i1 := tn_nI (by omega)
        have hro := hI.row (p := p1) (by omega) h_i1
        refine lv_aload_n hx hb dX0_at_24 rfl (lv_at hl 0 rfl) ?_
        refine c_g10 hx hb hts hown hK hP dX0_at_25 ?_
        refine lv_iload_n hx hb dX0_at_28 rfl (lv_at hl 1 rfl) ?_
        refine lv_bipush (v := nI 12) hx hb dX0_at_29 (by decide) ?_
        refine x_imul hx hb dX0_at_31 ?_
        refine lv_iload_n hx hb dX0_at_32 rfl (lv_at hl 2 rfl) ?_
        refine x_iadd hx hb dX0_at_33 ?_
        refine c_l10 (j := p1 * 12 + i1) hx hb hK hP (by omega) dX0_at_34 ?_
        refine W.iret (v := (nI (Z 10 (p1 * 12 + i1)))) hx hb hr (fun t9 ht9 hW9 => ⟨_, rfl, ?_, ht9⟩) (fun q h => by cases h) dX0_at_35
        rw [fAt, if_pos ⟨i_p, by rw [t_p]; exact i_i⟩, t_p, t_i]
      ·
        refine lv_iconst (v := -1) hx hb dX0_at_22 (by decide) ?_
        refine W.iret (v := (-1)) hx hb hr (fun t9 ht9 hW9 => ⟨_, rfl, ?_, ht9⟩) (fun q h => by cases h) dX0_at_23
        first
        | (rw [fAt, if_neg (fun h => hr_2 h.1)]; done)
        | (rw [fAt, if_neg (fun h => inR_lo c_9 h.2)]; done)
        | (rw [fAt, if_neg (fun h => c_19 (by have h2 := h.2; rw [t_p] at h2; exact Classical.byContradiction (fun q => inR_hi (by omega) (fa_of_nlt q) h2)))]; done)

set_option maxHeartbeats 4000000 in
set_option maxRecDepth 100000 in
theorem ct_X0_pupil (l : Launch) (dC : Nat → ClassId) (dI : Nat → Nat → Nat) (cy : ClassId) (o : Nat) (a : Nat → Nat) (Z X : Nat → Nat → Nat) (sz : Nat) (p : Int32) (k : Int32) (hI : Inv Z) : Met l yX0_pupil (wS yX0_pupil cX0_pupil 4 (Option.some Jvm.ClassFile.FieldType.int)) (rmF 1 21) (va_Pc [.ref o, .int p, .int k] (cS dC dI cy o a Z X sz)) (va_Qi (fun r (u : ST × ST) => r = fPup Z p k ∧ u.1 = sPup Z p k) (cE dC dI cy o a (cA cy o a Z X sz)) (cA cy o a Z X sz)) 0 0 (cA cy o a Z X sz) := by
  refine Met.ofW (cc := cX0_pupil) (maxL := 4) (ret := (Option.some Jvm.ClassFile.FieldType.int)) (by decide) rfl ?_
  intro pg en sv mi ag bw mt cd s₁ BL hml hv
  obtain ⟨rfl, hsz, hP, hK, hD0⟩ := hv
  have hx := BL.exec
  have hb := BL.bytes
  have hr := BL.returns
  have hts : ∀ w ∈ lw_ok, w.before _ sv = true := fun w hw => atoms_spec (ws := wS yX0_pupil cX0_pupil 4 (Option.some Jvm.ClassFile.FieldType.int)) BL.pre w (List.mem_cons_of_mem _ hw)
  have hown : sv.vm.findClass RX0 = some mi.cls := findClass_of_methodNamed BL.named
  have hlocks := BL.notSynchronized
  have fx : CallFix pg mi cd cX0_pupil 4 sv _ lw_ok RX0 := ⟨hx, hb, hml, hown, hts⟩
  have hl := lv_entry ([.ref o, .int p, .int k]) (n := 4) (Nat.le_of_ble_eq_true rfl)
  rw [lg_entry_eq]
  generalize (lg_sl ([.ref o, .int p, .int k]) ++ List.replicate (4 - (lg_sl ([.ref o, .int p, .int k])).length) Slot.unset).toArray = ls at hl ⊢
  replace hl : lv_has ls 4 [(0, .ref o), (1, .int p), (2, .int k)] := hl
  subst hsz
  have hD : va_D (cA cy o a Z X sv.heap.size) (cw cy o a Z X) := hD0.self (sz := sv.heap.size)
  clear hD0
  generalize hAe : cA cy o a Z X sv.heap.size = A at hD ⊢
  have hA : ∀ q : Nat, sv.heap.size ≤ q → A q := fun q h => by rw [← hAe]; exact Or.inr h
  clear hAe
  refine x_start (fun H locs eH eL => ?_)
  replace hP : va_P (dC, dI) vwCl (cw cy o a Z X) H := by rw [eH]; exact hP
  have hS : va_S A sv.heap H locs := by rw [eH, eL]; exact va_S.rf
  clear eH eL
  obtain ⟨b0, b1, b2⟩ := hI.bd
  refine lv_aload_n hx hb dX0_pupil_0 rfl (lv_at hl 0 rfl) ?_
  refine lv_iload_n hx hb dX0_pupil_1 rfl (lv_at hl 1 rfl) ?_
  refine r_Vi (As := [.int p]) (rest := []) fx (ct_X0_isPaper l dC dI cy o a Z X p hI) fyX0_isPaper tM_RX0_81 rfl rfl ⟨Nat.le_of_ble_eq_true rfl, Nat.le_of_ble_eq_true rfl⟩ (c_pre hK hP) rfl hl.1 rfl (Nat.le_of_ble_eq_true rfl) dX0_pupil_2 ⟨Nat.le_of_ble_eq_true rfl, Nat.le_of_ble_eq_true rfl⟩ (fun r_2 hr_2 => ?_)
  rcases hr_2 with ⟨rfl, hr_2⟩ | ⟨rfl, hr_2⟩
  ·
    refine x_if_eq_T (tgt := 15) hx hb (by decide) dX0_pupil_5 (by decide) ?_
    refine lv_iconst (v := -1) hx hb dX0_pupil_15 (by decide) ?_
    refine W.iret (v := (-1)) hx hb hr (fun t9 ht9 hW9 => ⟨⟨_, (Z, X), rfl, ?_, cE_mk ht9 hP hK hW9 hD⟩, hS.F ht9⟩) hS.2.2 dX0_pupil_16
    first
    | (constructor; (rw [fPup, if_neg (fun h => hr_2 h.1)]); (rw [sPup, if_neg (fun h => hr_2 h.1.1)]); done)
    | (constructor; (rw [fPup, if_neg (fun h => hr_9 h.2)]); (rw [sPup, if_neg (fun h => hr_9 h.1.2)]); done)
  ·
    have i_p := hr_2
    obtain ⟨p1, -, h_p1, rfl⟩ := inR_of i_p
    have t_p : tn (nI p1) = p1 := tn_nI (by omega)
    refine x_if_eq_F (tgt := 15) hx hb (by decide) dX0_pupil_5 (by decide) ?_
    refine lv_iload_n hx hb dX0_pupil_8 rfl (lv_at hl 2 rfl) ?_
    refine r_Si (As := [.int k]) (rest := []) fx (ct_X0_isPlace l k) fyX0_isPlace tM_RX0_87 rfl rfl ⟨Nat.le_of_ble_eq_true rfl, Nat.le_of_ble_eq_true rfl⟩ rfl hl.1 rfl (Nat.le_of_ble_eq_true rfl) dX0_pupil_9 ⟨Nat.le_of_ble_eq_true rfl, Nat.le_of_ble_eq_true rfl⟩ (fun r_9 hr_9 => ?_)
    rcases hr_9 with ⟨rfl, hr_9⟩ | ⟨rfl, hr_9⟩
    ·
      refine x_if_ne_F (tgt := 17) hx hb (by decide) dX0_pupil_12 (by decide) ?_
      refine lv_iconst (v := -1) hx hb dX0_pupil_15 (by decide) ?_
      refine W.iret (v := (-1)) hx hb hr (fun t9 ht9 hW9 => ⟨⟨_, (Z, X), rfl, ?_, cE_mk ht9 hP hK hW9 hD⟩, hS.F ht9⟩) hS.2.2 dX0_pupil_16
      first
      | (constructor; (rw [fPup, if_neg (fun h => hr_2 h.1)]); (rw [sPup, if_neg (fun h => hr_2 h.1.1)]); done)
      | (constructor; (rw [fPup, if_neg (fun h => hr_9 h.2)]); (rw [sPup, if_neg (fun h => hr_9 h.1.2)]); done)
    ·
      have i_k := hr_9
      obtain ⟨k1, -, h_k1, rfl⟩ := inR_of i_k
      have t_k : tn (nI k1) = k1 := tn_nI (by omega)
      refine x_if_ne_T (tgt := 17) hx hb (by decide) dX0_pupil_12 (by decide) ?_
      refine lv_aload_n hx hb dX0_pupil_17 rfl (lv_at hl 0 rfl) ?_
      refine c_g2 hx hb hts hown hK hP dX0_pupil_18 ?_
      refine lv_bipush (v := nI 60) hx hb dX0_pupil_21 (by decide) ?_
      refine x_icmp_lt (x := Z 0 2) (y := 60) (tgt := 29) hx hb (by omega) (by omega) dX0_pupil_23 (by decide) (fun c_23 => ?_) (fun c_23 => ?_)
      ·
        refine lv_aload_n hx hb dX0_pupil_29 rfl (lv_at hl 0 rfl) ?_
        refine c_g2 hx hb hts hown hK hP dX0_pupil_30 ?_
        refine lv_istore_n (lv' := [(3, .int (nI (Z 0 2))), (0, .ref o), (1, .int (nI p1)), (2, .int (nI k1))]) hx hb dX0_pupil_33 rfl hl (by decide) rfl (fun ls hl => ?_)
        refine lv_aload_n hx hb dX0_pupil_34 rfl (lv_at hl 1 rfl) ?_
        refine c_g11 hx hb hts hown hK hP dX0_pupil_35 ?_
        refine lv_iload_n hx hb dX0_pupil_38 rfl (lv_at hl 0 rfl) ?_
        refine lv_iload_n hx hb dX0_pupil_39 rfl (lv_at hl 2 rfl) ?_
        refine c_s11 (j := Z 0 2) (v := p1) hx hb hK hP hD hS (by omega) dX0_pupil_40 (fun H locs hP hD hS => ?_)
        refine lv_aload_n hx hb dX0_pupil_41 rfl (lv_at hl 1 rfl) ?_
        refine c_g12 hx hb hts hown hK hP dX0_pupil_42 ?_
        refine lv_iload_n hx hb dX0_pupil_45 rfl (lv_at hl 0 rfl) ?_
        refine lv_iload_n hx hb dX0_pupil_46 rfl (lv_at hl 3 rfl) ?_
        refine c_s12 (j := Z 0 2) (v := k1) hx hb hK hP hD hS (by omega) dX0_pupil_47 (fun H locs hP hD hS => ?_)
        refine lv_aload_n hx hb dX0_pupil_48 rfl (lv_at hl 1 rfl) ?_
        refine lv_dup hx hb dX0_pupil_49 rfl ?_
        refine c_g2 hx hb hts hown hK hP dX0_pupil_50 ?_
        refine lv_iconst (v := nI 1) hx hb dX0_pupil_53 (by decide) ?_
        refine x_iadd hx hb dX0_pupil_54 ?_
        refine c_p2 (v := ((zu (zu Z 11 (Z 0 2) p1) 12 (Z 0 2) k1) 0 2) + 1) hx hb hts hown hK hP hD hS dX0_pupil_55 (fun H locs hP hD hS => ?_)
        refine lv_iload_n hx hb dX0_pupil_58 rfl (lv_at hl 0 rfl) ?_
        refine W.iret (v := (nI (Z 0 2))) hx hb hr (fun t9 ht9 hW9 => ⟨⟨_, (zu (zu (zu Z 11 (Z 0 2) p1) 12 (Z 0 2) k1) 0 2 (((zu (zu Z 11 (Z 0 2) p1) 12 (Z 0 2) k1) 0 2) + 1), X), rfl, ?_, cE_mk ht9 hP hK hW9 hD⟩, hS.F ht9⟩) hS.2.2 dX0_pupil_59
        exact ⟨by rw [fPup, if_pos ⟨i_p, i_k⟩, if_pos c_23], by rw [sPup, if_pos ⟨⟨i_p, i_k⟩, c_23⟩, t_p, t_k]; rfl⟩
      ·
        refine lv_bipush (v := -4) hx hb dX0_pupil_26 (by decide) ?_
        refine W.iret (v := (-4)) hx hb hr (fun t9 ht9 hW9 => ⟨⟨_, (Z, X), rfl, ?_, cE_mk ht9 hP hK hW9 hD⟩, hS.F ht9⟩) hS.2.2 dX0_pupil_28
        exact ⟨by rw [fPup, if_pos ⟨i_p, i_k⟩, if_neg c_23], by rw [sPup, if_neg (fun h => c_23 h.2)]⟩

set_option maxHeartbeats 4000000 in
set_option maxRecDepth 100000 in
theorem ct_X0_answer (l : Launch) (dC : Nat → ClassId) (dI : Nat → Nat → Nat) (cy : ClassId) (o : Nat) (a : Nat → Nat) (Z X : Nat → Nat → Nat) (sz : Nat) (u : Int32) (q : Int32) (v : Int32) (hI : Inv Z) : Met l yX0_answer (wS yX0_answer cX0_answer 5 (Option.some Jvm.ClassFile.FieldType.int)) (rmF 3 66) (va_Pc [.ref o, .int u, .int q, .int v] (cS dC dI cy o a Z X sz)) (va_Qi (fun r (uu : ST × ST) => r = fAns Z u q v ∧ uu.1 = sAns Z u q v) (cE dC dI cy o a (cA cy o a Z X sz)) (cA cy o a Z X sz)) 0 0 (cA cy o a Z X sz) := by
  refine Met.ofW (cc := cX0_answer) (maxL := 5) (ret := (Option.some Jvm.ClassFile.FieldType.int)) (by decide) rfl ?_
  intro pg en sv mi ag bw mt cd s₁ BL hml hv
  obtain ⟨rfl, hsz, hP, hK, hD0⟩ := hv
  have hx := BL.exec
  have hb := BL.bytes
  have hr := BL.returns
  have hts : ∀ w ∈ lw_ok, w.before _ sv = true := fun w hw => atoms_spec (ws := wS yX0_answer cX0_answer 5 (Option.some Jvm.ClassFile.FieldType.int)) BL.pre w (List.mem_cons_of_mem _ hw)
  have hown : sv.vm.findClass RX0 = some mi.cls := findClass_of_methodNamed BL.named
  have hlocks := BL.notSynchronized
  have fx : CallFix pg mi cd cX0_answer 5 sv _ lw_ok RX0 := ⟨hx, hb, hml, hown, hts⟩
  have hl := lv_entry ([.ref o, .int u, .int q, .int v]) (n := 5) (Nat.le_of_ble_eq_true rfl)
  rw [lg_entry_eq]
  generalize (lg_sl ([.ref o, .int u, .int q, .int v]) ++ List.replicate (5 - (lg_sl ([.ref o, .int u, .int q, .int v])).length) Slot.unset).toArray = ls at hl ⊢
  replace hl : lv_has ls 5 [(0, .ref o), (1, .int u), (2, .int q), (3, .int v)] := hl
  subst hsz
  have hD : va_D (cA cy o a Z X sv.heap.size) (cw cy o a Z X) := hD0.self (sz := sv.heap.size)
  clear hD0
  generalize hAe : cA cy o a Z X sv.heap.size = A at hD ⊢
  have hA : ∀ q : Nat, sv.heap.size ≤ q → A q := fun q h => by rw [← hAe]; exact Or.inr h
  clear hAe
  refine x_start (fun H locs eH eL => ?_)
  replace hP : va_P (dC, dI) vwCl (cw cy o a Z X) H := by rw [eH]; exact hP
  have hS : va_S A sv.heap H locs := by rw [eH, eL]; exact va_S.rf
  clear eH eL
  obtain ⟨b0, b1, b2⟩ := hI.bd
  refine lv_aload_n hx hb dX0_answer_0 rfl (lv_at hl 0 rfl) ?_
  refine lv_iload_n hx hb dX0_answer_1 rfl (lv_at hl 1 rfl) ?_
  refine lv_iload_n hx hb dX0_answer_2 rfl (lv_at hl 2 rfl) ?_
  refine r_Vi (As := [.int u, .int q]) (rest := []) fx (ct_X0_spotFor l dC dI cy o a Z X u q hI) fyX0_spotFor tM_RX0_93 rfl rfl ⟨Nat.le_of_ble_eq_true rfl, Nat.le_of_ble_eq_true rfl⟩ (c_pre hK hP) rfl hl.1 rfl (Nat.le_of_ble_eq_true rfl) dX0_answer_3 ⟨Nat.le_of_ble_eq_true rfl, Nat.le_of_ble_eq_true rfl⟩ (fun r_3 hr_3 => ?_)
  rcases hr_3 with ⟨rfl, ho_3⟩ | ⟨x_3, y_3, i_3, hx_3, hy_3, eu_3, eq_3, hi_3, hs_3, hr_3, ho_3, rfl⟩
  ·
    refine lv_istore (lv' := [(4, .int (-1)), (0, .ref o), (1, .int u), (2, .int q), (3, .int v)]) hx hb dX0_answer_6 hl (by decide) rfl (fun ls hl => ?_)
    refine lv_iload hx hb dX0_answer_8 (lv_at hl 0 rfl) ?_
    refine lv_iconst (v := -1) hx hb dX0_answer_10 (by decide) ?_
    refine x_icmp_ne_F (tgt := 16) hx hb (by decide) dX0_answer_11 (by decide) ?_
    refine lv_iconst (v := -1) hx hb dX0_answer_14 (by decide) ?_
    refine W.iret (v := (-1)) hx hb hr (fun t9 ht9 hW9 => ⟨⟨_, (Z, X), rfl, ?_, cE_mk ht9 hP hK hW9 hD⟩, hS.F ht9⟩) hS.2.2 dX0_answer_15
    exact ⟨by rw [fAns, if_neg ho_3], by rw [sAns, if_neg (fun h => ho_3 h.1)]⟩
  ·
    subst eu_3 eq_3
    have t_u : tn (nI x_3) = x_3 := tn_nI (by omega)
    have t_q : tn (nI y_3) = y_3 := tn_nI (by omega)
    have hpu := hI.pu hx_3
    have bs := hI.sz (p := Z 11 x_3) (by omega)
    have hspo : spo Z (nI x_3) (nI y_3) = i_3 := by show spt Z (Z 11 (tn (nI x_3))) (tn (nI y_3)) = i_3; rw [t_u, t_q]; exact hs_3
    have htt := topA_le hI hy_3
    refine lv_istore (lv' := [(4, .int (nI i_3)), (0, .ref o), (1, .int (nI x_3)), (2, .int (nI y_3)), (3, .int v)]) hx hb dX0_answer_6 hl (by decide) rfl (fun ls hl => ?_)
    refine lv_iload hx hb dX0_answer_8 (lv_at hl 0 rfl) ?_
    refine lv_iconst (v := -1) hx hb dX0_answer_10 (by decide) ?_
    refine x_icmp_ne_T (tgt := 16) hx hb (nI_ne_m1 (by omega)) dX0_answer_11 (by decide) ?_
    refine lv_aload_n hx hb dX0_answer_16 rfl (lv_at hl 1 rfl) ?_
    refine lv_iload_n hx hb dX0_answer_17 rfl (lv_at hl 3 rfl) ?_
    refine lv_iload_n hx hb dX0_answer_18 rfl (lv_at hl 4 rfl) ?_
    refine r_Vi (As := [.int (nI y_3), .int v]) (rest := []) fx (ct_X0_isAnswer l dC dI cy o a Z X y_3 v hI (by first | assumption | omega)) fyX0_isAnswer tM_RX0_97 rfl rfl ⟨Nat.le_of_ble_eq_true rfl, Nat.le_of_ble_eq_true rfl⟩ (c_pre hK hP) rfl hl.1 rfl (Nat.le_of_ble_eq_true rfl) dX0_answer_19 ⟨Nat.le_of_ble_eq_true rfl, Nat.le_of_ble_eq_true rfl⟩ (fun r_19 hr_19 => ?_)
    rcases hr_19 with ⟨rfl, hr_19⟩ | ⟨rfl, hr_19⟩
    ·
      refine x_if_ne_F (tgt := 28) hx hb (by decide) dX0_answer_22 (by decide) ?_
      refine lv_bipush (v := -2) hx hb dX0_answer_25 (by decide) ?_
      refine W.iret (v := (-2)) hx hb hr (fun t9 ht9 hW9 => ⟨⟨_, (Z, X), rfl, ?_, cE_mk ht9 hP hK hW9 hD⟩, hS.F ht9⟩) hS.2.2 dX0_answer_27
      exact ⟨by rw [fAns, if_pos ho_3, if_neg (by rw [t_q]; exact hr_19)], by rw [sAns, if_neg (fun h => hr_19 (by have h2 := h.2; rw [t_q] at h2; exact h2))]⟩
    ·
      have i_v := hr_19
      obtain ⟨v1, -, h_v1, rfl⟩ := inR_of i_v
      have t_v : tn (nI v1) = v1 := tn_nI (by omega)
      have hok : okA Z y_3 v1 := by show v1 ≤ topA Z y_3; omega
      refine x_if_ne_T (tgt := 28) hx hb (by decide) dX0_answer_22 (by decide) ?_
      refine lv_aload_n hx hb dX0_answer_28 rfl (lv_at hl 1 rfl) ?_
      refine c_g13 hx hb hts hown hK hP dX0_answer_29 ?_
      refine lv_iload_n hx hb dX0_answer_32 rfl (lv_at hl 2 rfl) ?_
      refine lv_bipush (v := nI 12) hx hb dX0_answer_33 (by decide) ?_
      refine x_imul hx hb dX0_answer_35 ?_
      refine lv_iload hx hb dX0_answer_36 (lv_at hl 0 rfl) ?_
      refine x_iadd hx hb dX0_answer_38 ?_
      refine lv_iload_n hx hb dX0_answer_39 rfl (lv_at hl 4 rfl) ?_
      refine W.eq (g2 := F0 mi 40 ls [.int (gv (v1 + 1)), .int (nI (x_3 * 12 + i_3)), .ref (a 13)]) (by rw [gv_s]) ?_
      refine c_s13 (j := x_3 * 12 + i_3) (v := v1 + 1) hx hb hK hP hD hS (by omega) dX0_answer_40 (fun H locs hP hD hS => ?_)
      refine lv_aload_n hx hb dX0_answer_41 rfl (lv_at hl 1 rfl) ?_
      refine lv_iload_n hx hb dX0_answer_42 rfl (lv_at hl 3 rfl) ?_
      refine lv_iload_n hx hb dX0_answer_43 rfl (lv_at hl 4 rfl) ?_
      refine r_Vi (As := [.int (nI y_3), .int (nI v1)]) (rest := []) fx (ct_X0_worth l dC dI cy o a (zu Z 13 (x_3 * 12 + i_3) (v1 + 1)) X y_3 v1 (hI.an0 hx_3 hi_3 (Or.inr (by rw [hr_3, Nat.add_sub_cancel]; exact hok))) hy_3 hok) fyX0_worth tM_RX0_100 rfl rfl ⟨Nat.le_of_ble_eq_true rfl, Nat.le_of_ble_eq_true rfl⟩ (c_pre hK hP) rfl hl.1 rfl (Nat.le_of_ble_eq_true rfl) dX0_answer_44 ⟨Nat.le_of_ble_eq_true rfl, Nat.le_of_ble_eq_true rfl⟩ (fun r_44 hr_44 => ?_)
      subst hr_44
      refine W.iret (v := (nI (wor (zu Z 13 (x_3 * 12 + i_3) (v1 + 1)) y_3 v1))) hx hb hr (fun t9 ht9 hW9 => ⟨⟨_, (zu Z 13 (x_3 * 12 + i_3) (v1 + 1), X), rfl, ?_, cE_mk ht9 hP hK hW9 hD⟩, hS.F ht9⟩) hS.2.2 dX0_answer_47
      refine ⟨?_, by rw [sAns, if_pos ⟨ho_3, by rw [t_q]; exact i_v⟩, hspo, t_u, t_v]⟩
      rw [fAns, if_pos ho_3, if_pos (by rw [t_q]; exact i_v), t_q, t_v] <;> rfl

set_option maxHeartbeats 4000000 in
set_option maxRecDepth 100000 in
theorem ct_X0_gap (l : Launch) (dC : Nat → ClassId) (dI : Nat → Nat → Nat) (cy : ClassId) (o : Nat) (a : Nat → Nat) (Z X : Nat → Nat → Nat) (sz : Nat) (u : Int32) (q : Int32) (hI : Inv Z) : Met l yX0_gap (wS yX0_gap cX0_gap 5 (Option.some Jvm.ClassFile.FieldType.int)) (rmF 3 66) (va_Pc [.ref o, .int u, .int q] (cS dC dI cy o a Z X sz)) (va_Qi (fun r (uu : ST × ST) => r = fGap Z u q ∧ uu.1 = sGap Z u q) (cE dC dI cy o a (cA cy o a Z X sz)) (cA cy o a Z X sz)) 0 0 (cA cy o a Z X sz) := by
  refine Met.ofW (cc := cX0_gap) (maxL := 5) (ret := (Option.some Jvm.ClassFile.FieldType.int)) (by decide) rfl ?_
  intro pg en sv mi ag bw mt cd s₁ BL hml hv
  obtain ⟨rfl, hsz, hP, hK, hD0⟩ := hv
  have hx := BL.exec
  have hb := BL.bytes
  have hr := BL.returns
  have hts : ∀ w ∈ lw_ok, w.before _ sv = true := fun w hw => atoms_spec (ws := wS yX0_gap cX0_gap 5 (Option.some Jvm.ClassFile.FieldType.int)) BL.pre w (List.mem_cons_of_mem _ hw)
  have hown : sv.vm.findClass RX0 = some mi.cls := findClass_of_methodNamed BL.named
  have hlocks := BL.notSynchronized
  have fx : CallFix pg mi cd cX0_gap 5 sv _ lw_ok RX0 := ⟨hx, hb, hml, hown, hts⟩
  have hl := lv_entry ([.ref o, .int u, .int q]) (n := 5) (Nat.le_of_ble_eq_true rfl)
  rw [lg_entry_eq]
  generalize (lg_sl ([.ref o, .int u, .int q]) ++ List.replicate (5 - (lg_sl ([.ref o, .int u, .int q])).length) Slot.unset).toArray = ls at hl ⊢
  replace hl : lv_has ls 5 [(0, .ref o), (1, .int u), (2, .int q)] := hl
  subst hsz
  have hD : va_D (cA cy o a Z X sv.heap.size) (cw cy o a Z X) := hD0.self (sz := sv.heap.size)
  clear hD0
  generalize hAe : cA cy o a Z X sv.heap.size = A at hD ⊢
  have hA : ∀ q : Nat, sv.heap.size ≤ q → A q := fun q h => by rw [← hAe]; exact Or.inr h
  clear hAe
  refine x_start (fun H locs eH eL => ?_)
  replace hP : va_P (dC, dI) vwCl (cw cy o a Z X) H := by rw [eH]; exact hP
  have hS : va_S A sv.heap H locs := by rw [eH, eL]; exact va_S.rf
  clear eH eL
  obtain ⟨b0, b1, b2⟩ := hI.bd
  refine lv_aload_n hx hb dX0_gap_0 rfl (lv_at hl 0 rfl) ?_
  refine lv_iload_n hx hb dX0_gap_1 rfl (lv_at hl 1 rfl) ?_
  refine lv_iload_n hx hb dX0_gap_2 rfl (lv_at hl 2 rfl) ?_
  refine r_Vi (As := [.int u, .int q]) (rest := []) fx (ct_X0_spotFor l dC dI cy o a Z X u q hI) fyX0_spotFor tM_RX0_93 rfl rfl ⟨Nat.le_of_ble_eq_true rfl, Nat.le_of_ble_eq_true rfl⟩ (c_pre hK hP) rfl hl.1 rfl (Nat.le_of_ble_eq_true rfl) dX0_gap_3 ⟨Nat.le_of_ble_eq_true rfl, Nat.le_of_ble_eq_true rfl⟩ (fun r_3 hr_3 => ?_)
  rcases hr_3 with ⟨rfl, ho_3⟩ | ⟨x_3, y_3, i_3, hx_3, hy_3, eu_3, eq_3, hi_3, hs_3, hr_3, ho_3, rfl⟩
  ·
    refine lv_istore_n (lv' := [(3, .int (-1)), (0, .ref o), (1, .int u), (2, .int q)]) hx hb dX0_gap_6 rfl hl (by decide) rfl (fun ls hl => ?_)
    refine lv_iload_n hx hb dX0_gap_7 rfl (lv_at hl 0 rfl) ?_
    refine lv_iconst (v := -1) hx hb dX0_gap_8 (by decide) ?_
    refine x_icmp_ne_F (tgt := 14) hx hb (by decide) dX0_gap_9 (by decide) ?_
    refine lv_iconst (v := -1) hx hb dX0_gap_12 (by decide) ?_
    refine W.iret (v := (-1)) hx hb hr (fun t9 ht9 hW9 => ⟨⟨_, (Z, X), rfl, ?_, cE_mk ht9 hP hK hW9 hD⟩, hS.F ht9⟩) hS.2.2 dX0_gap_13
    exact ⟨by rw [fGap, if_neg ho_3], by rw [sGap, if_neg ho_3]⟩
  ·
    subst eu_3 eq_3
    have t_u : tn (nI x_3) = x_3 := tn_nI (by omega)
    have t_q : tn (nI y_3) = y_3 := tn_nI (by omega)
    have hpu := hI.pu hx_3
    have bs := hI.sz (p := Z 11 x_3) (by omega)
    have hspo : spo Z (nI x_3) (nI y_3) = i_3 := by show spt Z (Z 11 (tn (nI x_3))) (tn (nI y_3)) = i_3; rw [t_u, t_q]; exact hs_3
    refine lv_istore_n (lv' := [(3, .int (nI i_3)), (0, .ref o), (1, .int (nI x_3)), (2, .int (nI y_3))]) hx hb dX0_gap_6 rfl hl (by decide) rfl (fun ls hl => ?_)
    refine lv_iload_n hx hb dX0_gap_7 rfl (lv_at hl 0 rfl) ?_
    refine lv_iconst (v := -1) hx hb dX0_gap_8 (by decide) ?_
    refine x_icmp_ne_T (tgt := 14) hx hb (nI_ne_m1 (by omega)) dX0_gap_9 (by decide) ?_
    refine lv_aload_n hx hb dX0_gap_14 rfl (lv_at hl 1 rfl) ?_
    refine c_g13 hx hb hts hown hK hP dX0_gap_15 ?_
    refine lv_iload_n hx hb dX0_gap_18 rfl (lv_at hl 2 rfl) ?_
    refine lv_bipush (v := nI 12) hx hb dX0_gap_19 (by decide) ?_
    refine x_imul hx hb dX0_gap_21 ?_
    refine lv_iload_n hx hb dX0_gap_22 rfl (lv_at hl 0 rfl) ?_
    refine x_iadd hx hb dX0_gap_23 ?_
    refine c_l13 (j := x_3 * 12 + i_3) hx hb hK hP (by omega) dX0_gap_24 ?_
    refine lv_istore (lv' := [(4, .int (gv (Z 13 (x_3 * 12 + i_3)))), (3, .int (nI i_3)), (0, .ref o), (1, .int (nI x_3)), (2, .int (nI y_3))]) hx hb dX0_gap_25 hl (by decide) rfl (fun ls hl => ?_)
    refine lv_aload_n hx hb dX0_gap_27 rfl (lv_at hl 2 rfl) ?_
    refine c_g13 hx hb hts hown hK hP dX0_gap_28 ?_
    refine lv_iload_n hx hb dX0_gap_31 rfl (lv_at hl 3 rfl) ?_
    refine lv_bipush (v := nI 12) hx hb dX0_gap_32 (by decide) ?_
    refine x_imul hx hb dX0_gap_34 ?_
    refine lv_iload_n hx hb dX0_gap_35 rfl (lv_at hl 1 rfl) ?_
    refine x_iadd hx hb dX0_gap_36 ?_
    refine lv_iconst (v := -1) hx hb dX0_gap_37 (by decide) ?_
    refine W.eq (g2 := F0 mi 38 ls [.int (gv 0), .int (nI (x_3 * 12 + i_3)), .ref (a 13)]) rfl ?_
    refine c_s13 (j := x_3 * 12 + i_3) (v := 0) hx hb hK hP hD hS (by omega) dX0_gap_38 (fun H locs hP hD hS => ?_)
    refine lv_iload hx hb dX0_gap_39 (lv_at hl 0 rfl) ?_
    refine W.iret (v := (gv (Z 13 (x_3 * 12 + i_3)))) hx hb hr (fun t9 ht9 hW9 => ⟨⟨_, (zu Z 13 (x_3 * 12 + i_3) 0, X), rfl, ?_, cE_mk ht9 hP hK hW9 hD⟩, hS.F ht9⟩) hS.2.2 dX0_gap_41
    exact ⟨by rw [fGap, if_pos ho_3, hspo, t_u], by rw [sGap, if_pos ho_3, hspo, t_u]⟩

set_option maxHeartbeats 4000000 in
set_option maxRecDepth 100000 in
theorem ct_X0_mark (l : Launch) (dC : Nat → ClassId) (dI : Nat → Nat → Nat) (cy : ClassId) (o : Nat) (a : Nat → Nat) (Z X : Nat → Nat → Nat) (u : Int32) (q : Int32) (hI : Inv Z) : Met l yX0_mark (wS yX0_mark cX0_mark 4 (Option.some Jvm.ClassFile.FieldType.int)) (rmF 3 66) (va_Pc [.ref o, .int u, .int q] (cR dC dI cy o a Z X)) (vp_Si (fun r => r = fMark Z u q)) 0 0 (fun _ => False) := by
  refine Met.ofW (cc := cX0_mark) (maxL := 4) (ret := (Option.some Jvm.ClassFile.FieldType.int)) (by decide) rfl ?_
  intro pg en sv mi ag bw mt cd s₁ BL hml hv
  obtain ⟨rfl, hP, hK⟩ := hv
  have hx := BL.exec
  have hb := BL.bytes
  have hr := BL.returns
  have hts : ∀ w ∈ lw_ok, w.before _ sv = true := fun w hw => atoms_spec (ws := wS yX0_mark cX0_mark 4 (Option.some Jvm.ClassFile.FieldType.int)) BL.pre w (List.mem_cons_of_mem _ hw)
  have hown : sv.vm.findClass RX0 = some mi.cls := findClass_of_methodNamed BL.named
  have hlocks := BL.notSynchronized
  have fx : CallFix pg mi cd cX0_mark 4 sv _ lw_ok RX0 := ⟨hx, hb, hml, hown, hts⟩
  have hl := lv_entry ([.ref o, .int u, .int q]) (n := 4) (Nat.le_of_ble_eq_true rfl)
  rw [lg_entry_eq]
  generalize (lg_sl ([.ref o, .int u, .int q]) ++ List.replicate (4 - (lg_sl ([.ref o, .int u, .int q])).length) Slot.unset).toArray = ls at hl ⊢
  replace hl : lv_has ls 4 [(0, .ref o), (1, .int u), (2, .int q)] := hl
  obtain ⟨b0, b1, b2⟩ := hI.bd
  refine lv_aload_n hx hb dX0_mark_0 rfl (lv_at hl 0 rfl) ?_
  refine lv_iload_n hx hb dX0_mark_1 rfl (lv_at hl 1 rfl) ?_
  refine lv_iload_n hx hb dX0_mark_2 rfl (lv_at hl 2 rfl) ?_
  refine r_Vi (As := [.int u, .int q]) (rest := []) fx (ct_X0_spotFor l dC dI cy o a Z X u q hI) fyX0_spotFor tM_RX0_93 rfl rfl ⟨Nat.le_of_ble_eq_true rfl, Nat.le_of_ble_eq_true rfl⟩ (c_pre hK hP) rfl hl.1 rfl (Nat.le_of_ble_eq_true rfl) dX0_mark_3 ⟨Nat.le_of_ble_eq_true rfl, Nat.le_of_ble_eq_true rfl⟩ (fun r_3 hr_3 => ?_)
  rcases hr_3 with ⟨rfl, ho_3⟩ | ⟨x_3, y_3, i_3, hx_3, hy_3, eu_3, eq_3, hi_3, hs_3, hr_3, ho_3, rfl⟩
  ·
    refine lv_istore_n (lv' := [(3, .int (-1)), (0, .ref o), (1, .int u), (2, .int q)]) hx hb dX0_mark_6 rfl hl (by decide) rfl (fun ls hl => ?_)
    refine lv_iload_n hx hb dX0_mark_7 rfl (lv_at hl 0 rfl) ?_
    refine lv_iconst (v := -1) hx hb dX0_mark_8 (by decide) ?_
    refine x_icmp_ne_F (tgt := 16) hx hb (by decide) dX0_mark_9 (by decide) ?_
    refine lv_iconst (v := -1) hx hb dX0_mark_12 (by decide) ?_
    refine lv_goto (tgt := 22) hx hb dX0_mark_13 (by decide) ?_
    refine W.iret (v := (-1)) hx hb hr (fun t9 ht9 hW9 => ⟨_, rfl, ?_, ht9⟩) (fun q h => by cases h) dX0_mark_22
    first | (rw [fMark, if_neg ho_3]; done) | (rw [fMark, if_pos ho_3, hspo, t_u]; done)
  ·
    subst eu_3 eq_3
    have t_u : tn (nI x_3) = x_3 := tn_nI (by omega)
    have t_q : tn (nI y_3) = y_3 := tn_nI (by omega)
    have hpu := hI.pu hx_3
    have bs := hI.sz (p := Z 11 x_3) (by omega)
    have hspo : spo Z (nI x_3) (nI y_3) = i_3 := by show spt Z (Z 11 (tn (nI x_3))) (tn (nI y_3)) = i_3; rw [t_u, t_q]; exact hs_3
    refine lv_istore_n (lv' := [(3, .int (nI i_3)), (0, .ref o), (1, .int (nI x_3)), (2, .int (nI y_3))]) hx hb dX0_mark_6 rfl hl (by decide) rfl (fun ls hl => ?_)
    refine lv_iload_n hx hb dX0_mark_7 rfl (lv_at hl 0 rfl) ?_
    refine lv_iconst (v := -1) hx hb dX0_mark_8 (by decide) ?_
    refine x_icmp_ne_T (tgt := 16) hx hb (nI_ne_m1 (by omega)) dX0_mark_9 (by decide) ?_
    refine lv_aload_n hx hb dX0_mark_16 rfl (lv_at hl 1 rfl) ?_
    refine lv_iload_n hx hb dX0_mark_17 rfl (lv_at hl 2 rfl) ?_
    refine lv_iload_n hx hb dX0_mark_18 rfl (lv_at hl 0 rfl) ?_
    refine r_Vi (As := [.int (nI x_3), .int (nI i_3)]) (rest := []) fx (ct_X0_markAt l dC dI cy o a Z X x_3 i_3 hI (by first | assumption | omega) (by first | assumption | omega)) fyX0_markAt tM_RX0_111 rfl rfl ⟨Nat.le_of_ble_eq_true rfl, Nat.le_of_ble_eq_true rfl⟩ (c_pre hK hP) rfl hl.1 rfl (Nat.le_of_ble_eq_true rfl) dX0_mark_19 ⟨Nat.le_of_ble_eq_true rfl, Nat.le_of_ble_eq_true rfl⟩ (fun r_19 hr_19 => ?_)
    subst hr_19
    refine W.iret (v := (nI (mrk Z x_3 i_3))) hx hb hr (fun t9 ht9 hW9 => ⟨_, rfl, ?_, ht9⟩) (fun q h => by cases h) dX0_mark_22
    first | (rw [fMark, if_neg ho_3]; done) | (rw [fMark, if_pos ho_3, hspo, t_u]; done)

set_option maxHeartbeats 4000000 in
set_option maxRecDepth 100000 in
theorem ct_X0_come (l : Launch) (dC : Nat → ClassId) (dI : Nat → Nat → Nat) (cy : ClassId) (o : Nat) (a : Nat → Nat) (Z X : Nat → Nat → Nat) (u : Int32) (q : Int32) (hI : Inv Z) : Met l yX0_come (wS yX0_come cX0_come 4 (Option.some Jvm.ClassFile.FieldType.int)) (rmF 3 66) (va_Pc [.ref o, .int u, .int q] (cR dC dI cy o a Z X)) (vp_Si (fun r => r = fCome Z u q)) 0 0 (fun _ => False) := by
  refine Met.ofW (cc := cX0_come) (maxL := 4) (ret := (Option.some Jvm.ClassFile.FieldType.int)) (by decide) rfl ?_
  intro pg en sv mi ag bw mt cd s₁ BL hml hv
  obtain ⟨rfl, hP, hK⟩ := hv
  have hx := BL.exec
  have hb := BL.bytes
  have hr := BL.returns
  have hts : ∀ w ∈ lw_ok, w.before _ sv = true := fun w hw => atoms_spec (ws := wS yX0_come cX0_come 4 (Option.some Jvm.ClassFile.FieldType.int)) BL.pre w (List.mem_cons_of_mem _ hw)
  have hown : sv.vm.findClass RX0 = some mi.cls := findClass_of_methodNamed BL.named
  have hlocks := BL.notSynchronized
  have fx : CallFix pg mi cd cX0_come 4 sv _ lw_ok RX0 := ⟨hx, hb, hml, hown, hts⟩
  have hl := lv_entry ([.ref o, .int u, .int q]) (n := 4) (Nat.le_of_ble_eq_true rfl)
  rw [lg_entry_eq]
  generalize (lg_sl ([.ref o, .int u, .int q]) ++ List.replicate (4 - (lg_sl ([.ref o, .int u, .int q])).length) Slot.unset).toArray = ls at hl ⊢
  replace hl : lv_has ls 4 [(0, .ref o), (1, .int u), (2, .int q)] := hl
  obtain ⟨b0, b1, b2⟩ := hI.bd
  refine lv_aload_n hx hb dX0_come_0 rfl (lv_at hl 0 rfl) ?_
  refine lv_iload_n hx hb dX0_come_1 rfl (lv_at hl 1 rfl) ?_
  refine lv_iload_n hx hb dX0_come_2 rfl (lv_at hl 2 rfl) ?_
  refine r_Vi (As := [.int u, .int q]) (rest := []) fx (ct_X0_spotFor l dC dI cy o a Z X u q hI) fyX0_spotFor tM_RX0_93 rfl rfl ⟨Nat.le_of_ble_eq_true rfl, Nat.le_of_ble_eq_true rfl⟩ (c_pre hK hP) rfl hl.1 rfl (Nat.le_of_ble_eq_true rfl) dX0_come_3 ⟨Nat.le_of_ble_eq_true rfl, Nat.le_of_ble_eq_true rfl⟩ (fun r_3 hr_3 => ?_)
  rcases hr_3 with ⟨rfl, ho_3⟩ | ⟨x_3, y_3, i_3, hx_3, hy_3, eu_3, eq_3, hi_3, hs_3, hr_3, ho_3, rfl⟩
  ·
    refine lv_istore_n (lv' := [(3, .int (-1)), (0, .ref o), (1, .int u), (2, .int q)]) hx hb dX0_come_6 rfl hl (by decide) rfl (fun ls hl => ?_)
    refine lv_iload_n hx hb dX0_come_7 rfl (lv_at hl 0 rfl) ?_
    refine lv_iconst (v := -1) hx hb dX0_come_8 (by decide) ?_
    refine x_icmp_ne_F (tgt := 14) hx hb (by decide) dX0_come_9 (by decide) ?_
    refine lv_iconst (v := -1) hx hb dX0_come_12 (by decide) ?_
    refine W.iret (v := (-1)) hx hb hr (fun t9 ht9 hW9 => ⟨_, rfl, ?_, ht9⟩) (fun q h => by cases h) dX0_come_13
    first | (rw [fCome, if_neg ho_3]; done) | (rw [fCome, if_pos ho_3, t_u, t_q, cqB_t (show cqP Z y_3 x_3 from ⟨by omega, by rw [hs_3]; exact hr_17⟩)]; rfl) | (rw [fCome, if_pos ho_3, t_u, t_q, cqB_f (show ¬ cqP Z y_3 x_3 from fun h => hr_17 (by have h2 := h.2; rw [hs_3] at h2; exact h2))]; rfl)
  ·
    subst eu_3 eq_3
    have t_u : tn (nI x_3) = x_3 := tn_nI (by omega)
    have t_q : tn (nI y_3) = y_3 := tn_nI (by omega)
    have hpu := hI.pu hx_3
    have bs := hI.sz (p := Z 11 x_3) (by omega)
    have hspo : spo Z (nI x_3) (nI y_3) = i_3 := by show spt Z (Z 11 (tn (nI x_3))) (tn (nI y_3)) = i_3; rw [t_u, t_q]; exact hs_3
    refine lv_istore_n (lv' := [(3, .int (nI i_3)), (0, .ref o), (1, .int (nI x_3)), (2, .int (nI y_3))]) hx hb dX0_come_6 rfl hl (by decide) rfl (fun ls hl => ?_)
    refine lv_iload_n hx hb dX0_come_7 rfl (lv_at hl 0 rfl) ?_
    refine lv_iconst (v := -1) hx hb dX0_come_8 (by decide) ?_
    refine x_icmp_ne_T (tgt := 14) hx hb (nI_ne_m1 (by omega)) dX0_come_9 (by decide) ?_
    refine lv_aload_n hx hb dX0_come_14 rfl (lv_at hl 1 rfl) ?_
    refine lv_iload_n hx hb dX0_come_15 rfl (lv_at hl 2 rfl) ?_
    refine lv_iload_n hx hb dX0_come_16 rfl (lv_at hl 0 rfl) ?_
    refine r_Vi (As := [.int (nI x_3), .int (nI i_3)]) (rest := []) fx (ct_X0_hasComeTo l dC dI cy o a Z X x_3 i_3 hI (by first | assumption | omega) (by first | assumption | omega)) fyX0_hasComeTo tM_RX0_114 rfl rfl ⟨Nat.le_of_ble_eq_true rfl, Nat.le_of_ble_eq_true rfl⟩ (c_pre hK hP) rfl hl.1 rfl (Nat.le_of_ble_eq_true rfl) dX0_come_17 ⟨Nat.le_of_ble_eq_true rfl, Nat.le_of_ble_eq_true rfl⟩ (fun r_17 hr_17 => ?_)
    rcases hr_17 with ⟨rfl, hr_17⟩ | ⟨rfl, hr_17⟩
    ·
      refine x_if_eq_T (tgt := 27) hx hb (by decide) dX0_come_20 (by decide) ?_
      refine lv_iconst (v := nI 0) hx hb dX0_come_27 (by decide) ?_
      refine W.iret (v := (nI 0)) hx hb hr (fun t9 ht9 hW9 => ⟨_, rfl, ?_, ht9⟩) (fun q h => by cases h) dX0_come_28
      first | (rw [fCome, if_neg ho_3]; done) | (rw [fCome, if_pos ho_3, t_u, t_q, cqB_t (show cqP Z y_3 x_3 from ⟨by omega, by rw [hs_3]; exact hr_17⟩)]; rfl) | (rw [fCome, if_pos ho_3, t_u, t_q, cqB_f (show ¬ cqP Z y_3 x_3 from fun h => hr_17 (by have h2 := h.2; rw [hs_3] at h2; exact h2))]; rfl)
    ·
      refine x_if_eq_F (tgt := 27) hx hb (by decide) dX0_come_20 (by decide) ?_
      refine lv_iconst (v := nI 1) hx hb dX0_come_23 (by decide) ?_
      refine lv_goto (tgt := 28) hx hb dX0_come_24 (by decide) ?_
      refine W.iret (v := (nI 1)) hx hb hr (fun t9 ht9 hW9 => ⟨_, rfl, ?_, ht9⟩) (fun q h => by cases h) dX0_come_28
      first | (rw [fCome, if_neg ho_3]; done) | (rw [fCome, if_pos ho_3, t_u, t_q, cqB_t (show cqP Z y_3 x_3 from ⟨by omega, by rw [hs_3]; exact hr_17⟩)]; rfl) | (rw [fCome, if_pos ho_3, t_u, t_q, cqB_f (show ¬ cqP Z y_3 x_3 from fun h => hr_17 (by have h2 := h.2; rw [hs_3] at h2; exact h2))]; rfl)

set_option maxHeartbeats 4000000 in
set_option maxRecDepth 100000 in
theorem ct_X0_total (l : Launch) (dC : Nat → ClassId) (dI : Nat → Nat → Nat) (cy : ClassId) (o : Nat) (a : Nat → Nat) (Z X : Nat → Nat → Nat) (u : Int32) (hI : Inv Z) : Met l yX0_total (wS yX0_total cX0_total 2 (Option.some Jvm.ClassFile.FieldType.int)) (rmF 4 91) (va_Pc [.ref o, .int u] (cR dC dI cy o a Z X)) (vp_Si (fun r => r = fTot Z u)) 0 0 (fun _ => False) := by
  refine Met.ofW (cc := cX0_total) (maxL := 2) (ret := (Option.some Jvm.ClassFile.FieldType.int)) (by decide) rfl ?_
  intro pg en sv mi ag bw mt cd s₁ BL hml hv
  obtain ⟨rfl, hP, hK⟩ := hv
  have hx := BL.exec
  have hb := BL.bytes
  have hr := BL.returns
  have hts : ∀ w ∈ lw_ok, w.before _ sv = true := fun w hw => atoms_spec (ws := wS yX0_total cX0_total 2 (Option.some Jvm.ClassFile.FieldType.int)) BL.pre w (List.mem_cons_of_mem _ hw)
  have hown : sv.vm.findClass RX0 = some mi.cls := findClass_of_methodNamed BL.named
  have hlocks := BL.notSynchronized
  have fx : CallFix pg mi cd cX0_total 2 sv _ lw_ok RX0 := ⟨hx, hb, hml, hown, hts⟩
  have hl := lv_entry ([.ref o, .int u]) (n := 2) (Nat.le_of_ble_eq_true rfl)
  rw [lg_entry_eq]
  generalize (lg_sl ([.ref o, .int u]) ++ List.replicate (2 - (lg_sl ([.ref o, .int u])).length) Slot.unset).toArray = ls at hl ⊢
  replace hl : lv_has ls 2 [(0, .ref o), (1, .int u)] := hl
  obtain ⟨b0, b1, b2⟩ := hI.bd
  have hcs := cset_lt hI
  refine lv_aload_n hx hb dX0_total_0 rfl (lv_at hl 0 rfl) ?_
  refine lv_iload_n hx hb dX0_total_1 rfl (lv_at hl 1 rfl) ?_
  refine r_Vi (As := [.int u]) (rest := []) fx (ct_X0_isPupil l dC dI cy o a Z X u hI) fyX0_isPupil tM_RX0_103 rfl rfl ⟨Nat.le_of_ble_eq_true rfl, Nat.le_of_ble_eq_true rfl⟩ (c_pre hK hP) rfl hl.1 rfl (Nat.le_of_ble_eq_true rfl) dX0_total_2 ⟨Nat.le_of_ble_eq_true rfl, Nat.le_of_ble_eq_true rfl⟩ (fun r_2 hr_2 => ?_)
  rcases hr_2 with ⟨rfl, hr_2⟩ | ⟨rfl, hr_2⟩
  ·
    refine x_if_eq_T (tgt := 20) hx hb (by decide) dX0_total_5 (by decide) ?_
    refine lv_iconst (v := -1) hx hb dX0_total_20 (by decide) ?_
    refine W.iret (v := (-1)) hx hb hr (fun t9 ht9 hW9 => ⟨_, rfl, ?_, ht9⟩) (fun q h => by cases h) dX0_total_21
    first | (rw [fTot, if_neg hr_2]; done) | (rw [fTot, if_pos i_u, t_u, tot_cs hI h_u1]; done)
  ·
    have i_u := hr_2
    obtain ⟨u1, -, h_u1, rfl⟩ := inR_of i_u
    have t_u : tn (nI u1) = u1 := tn_nI (by omega)
    refine x_if_eq_F (tgt := 20) hx hb (by decide) dX0_total_5 (by decide) ?_
    refine lv_aload_n hx hb dX0_total_8 rfl (lv_at hl 0 rfl) ?_
    refine lv_iload_n hx hb dX0_total_9 rfl (lv_at hl 1 rfl) ?_
    refine lv_aload_n hx hb dX0_total_10 rfl (lv_at hl 0 rfl) ?_
    refine r_Vi (As := []) (rest := [.int (nI u1), .ref o]) fx (ct_X0_countingSet l dC dI cy o a Z X ) fyX0_countingSet tM_RX0_117 rfl rfl ⟨Nat.le_of_ble_eq_true rfl, Nat.le_of_ble_eq_true rfl⟩ (c_pre hK hP) rfl hl.1 rfl (Nat.le_of_ble_eq_true rfl) dX0_total_11 ⟨Nat.le_of_ble_eq_true rfl, Nat.le_of_ble_eq_true rfl⟩ (fun r_11 hr_11 => ?_)
    subst hr_11
    refine r_Vi (As := [.int (nI u1), .int (nI (cset Z))]) (rest := []) fx (ct_X0_sumOver l dC dI cy o a Z X u1 (cset Z) hI (by first | assumption | omega) (by first | assumption | omega)) fyX0_sumOver tM_RX0_121 rfl rfl ⟨Nat.le_of_ble_eq_true rfl, Nat.le_of_ble_eq_true rfl⟩ (c_pre hK hP) rfl hl.1 rfl (Nat.le_of_ble_eq_true rfl) dX0_total_14 ⟨Nat.le_of_ble_eq_true rfl, Nat.le_of_ble_eq_true rfl⟩ (fun r_14 hr_14 => ?_)
    subst hr_14
    refine lv_goto (tgt := 21) hx hb dX0_total_17 (by decide) ?_
    refine W.iret (v := (nI (smS Z u1 (fun q => (cset Z).testBit q)))) hx hb hr (fun t9 ht9 hW9 => ⟨_, rfl, ?_, ht9⟩) (fun q h => by cases h) dX0_total_21
    first | (rw [fTot, if_neg hr_2]; done) | (rw [fTot, if_pos i_u, t_u, tot_cs hI h_u1]; done)
