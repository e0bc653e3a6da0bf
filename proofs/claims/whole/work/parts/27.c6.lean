set_option maxHeartbeats 4000000 in
set_option maxRecDepth 100000 in
theorem ct_X0_sum (l : Launch) (dC : Nat → ClassId) (dI : Nat → Nat → Nat) (cy : ClassId) (o : Nat) (a : Nat → Nat) (Z X : Nat → Nat → Nat) (u : Int32) (q : Int32) (hI : Inv Z) : Met l yX0_sum (wS yX0_sum cX0_sum 4 (Option.some Jvm.ClassFile.FieldType.int)) (rmF 4 91) (va_Pc [.ref o, .int u, .int q] (cR dC dI cy o a Z X)) (vp_Si (fun r => r = fSum Z u q)) 0 0 (fun _ => False) := by
  refine Met.ofW (cc := cX0_sum) (maxL := 4) (ret := (Option.some Jvm.ClassFile.FieldType.int)) (by decide) rfl ?_
  intro pg en sv mi ag bw mt cd s₁ BL hml hv
  obtain ⟨rfl, hP, hK⟩ := hv
  have hx := BL.exec
  have hb := BL.bytes
  have hr := BL.returns
  have hts : ∀ w ∈ lw_ok, w.before _ sv = true := fun w hw => atoms_spec (ws := wS yX0_sum cX0_sum 4 (Option.some Jvm.ClassFile.FieldType.int)) BL.pre w (List.mem_cons_of_mem _ hw)
  have hown : sv.vm.findClass RX0 = some mi.cls := findClass_of_methodNamed BL.named
  have hlocks := BL.notSynchronized
  have fx : CallFix pg mi cd cX0_sum 4 sv _ lw_ok RX0 := ⟨hx, hb, hml, hown, hts⟩
  have hl := lv_entry ([.ref o, .int u, .int q]) (n := 4) (Nat.le_of_ble_eq_true rfl)
  rw [lg_entry_eq]
  generalize (lg_sl ([.ref o, .int u, .int q]) ++ List.replicate (4 - (lg_sl ([.ref o, .int u, .int q])).length) Slot.unset).toArray = ls at hl ⊢
  replace hl : lv_has ls 4 [(0, .ref o), (1, .int u), (2, .int q)] := hl
  obtain ⟨b0, b1, b2⟩ := hI.bd
  have hcs := cset_lt hI
  refine lv_aload_n hx hb dX0_sum_0 rfl (lv_at hl 0 rfl) ?_
  refine lv_iload_n hx hb dX0_sum_1 rfl (lv_at hl 1 rfl) ?_
  refine r_Vi (As := [.int u]) (rest := []) fx (ct_X0_isPupil l dC dI cy o a Z X u hI) fyX0_isPupil tM_RX0_103 rfl rfl ⟨Nat.le_of_ble_eq_true rfl, Nat.le_of_ble_eq_true rfl⟩ (c_pre hK hP) rfl hl.1 rfl (Nat.le_of_ble_eq_true rfl) dX0_sum_2 ⟨Nat.le_of_ble_eq_true rfl, Nat.le_of_ble_eq_true rfl⟩ (fun r_2 hr_2 => ?_)
  rcases hr_2 with ⟨rfl, hr_2⟩ | ⟨rfl, hr_2⟩
  ·
    refine x_if_eq_T (tgt := 16) hx hb (by decide) dX0_sum_5 (by decide) ?_
    refine lv_iconst (v := -1) hx hb dX0_sum_16 (by decide) ?_
    refine W.iret (v := (-1)) hx hb hr (fun t9 ht9 hW9 => ⟨_, rfl, ?_, ht9⟩) (fun q h => by cases h) dX0_sum_17
    first
    | (rw [fSum, if_neg (fun h => hr_2 h.1)]; done)
    | (rw [fSum, if_neg (fun h => hr_10 h.2)]; done)
    | (rw [fSum, if_pos ⟨i_u, i_q⟩, t_u, t_q, if_pos c_27]; done)
    | (rw [fSum, if_pos ⟨i_u, i_q⟩, t_u, t_q, if_neg c_27, smS_sh hI h_u1 (by omega)]; done)
  ·
    have i_u := hr_2
    obtain ⟨u1, -, h_u1, rfl⟩ := inR_of i_u
    have t_u : tn (nI u1) = u1 := tn_nI (by omega)
    have hpu := hI.pu h_u1
    refine x_if_eq_F (tgt := 16) hx hb (by decide) dX0_sum_5 (by decide) ?_
    refine lv_aload_n hx hb dX0_sum_8 rfl (lv_at hl 0 rfl) ?_
    refine lv_iload_n hx hb dX0_sum_9 rfl (lv_at hl 2 rfl) ?_
    refine r_Vi (As := [.int q]) (rest := []) fx (ct_X0_isPaper l dC dI cy o a Z X q hI) fyX0_isPaper tM_RX0_81 rfl rfl ⟨Nat.le_of_ble_eq_true rfl, Nat.le_of_ble_eq_true rfl⟩ (c_pre hK hP) rfl hl.1 rfl (Nat.le_of_ble_eq_true rfl) dX0_sum_10 ⟨Nat.le_of_ble_eq_true rfl, Nat.le_of_ble_eq_true rfl⟩ (fun r_10 hr_10 => ?_)
    rcases hr_10 with ⟨rfl, hr_10⟩ | ⟨rfl, hr_10⟩
    ·
      refine x_if_ne_F (tgt := 18) hx hb (by decide) dX0_sum_13 (by decide) ?_
      refine lv_iconst (v := -1) hx hb dX0_sum_16 (by decide) ?_
      refine W.iret (v := (-1)) hx hb hr (fun t9 ht9 hW9 => ⟨_, rfl, ?_, ht9⟩) (fun q h => by cases h) dX0_sum_17
      first
      | (rw [fSum, if_neg (fun h => hr_2 h.1)]; done)
      | (rw [fSum, if_neg (fun h => hr_10 h.2)]; done)
      | (rw [fSum, if_pos ⟨i_u, i_q⟩, t_u, t_q, if_pos c_27]; done)
      | (rw [fSum, if_pos ⟨i_u, i_q⟩, t_u, t_q, if_neg c_27, smS_sh hI h_u1 (by omega)]; done)
    ·
      have i_q := hr_10
      obtain ⟨q1, -, h_q1, rfl⟩ := inR_of i_q
      have t_q : tn (nI q1) = q1 := tn_nI (by omega)
      refine x_if_ne_T (tgt := 18) hx hb (by decide) dX0_sum_13 (by decide) ?_
      refine lv_aload_n hx hb dX0_sum_18 rfl (lv_at hl 0 rfl) ?_
      refine c_g11 hx hb hts hown hK hP dX0_sum_19 ?_
      refine lv_iload_n hx hb dX0_sum_22 rfl (lv_at hl 1 rfl) ?_
      refine c_l11 (j := u1) hx hb hK hP (by omega) dX0_sum_23 ?_
      refine lv_istore_n (lv' := [(3, .int (nI (Z 11 u1))), (0, .ref o), (1, .int (nI u1)), (2, .int (nI q1))]) hx hb dX0_sum_24 rfl hl (by decide) rfl (fun ls hl => ?_)
      refine lv_iload_n hx hb dX0_sum_25 rfl (lv_at hl 0 rfl) ?_
      refine lv_iload_n hx hb dX0_sum_26 rfl (lv_at hl 3 rfl) ?_
      refine x_icmp_ne (x := Z 11 u1) (y := q1) (tgt := 35) hx hb (by omega) (by omega) dX0_sum_27 (by decide) (fun c_27 => ?_) (fun c_27 => ?_)
      ·
        refine lv_aload_n hx hb dX0_sum_35 rfl (lv_at hl 1 rfl) ?_
        refine lv_iload_n hx hb dX0_sum_36 rfl (lv_at hl 2 rfl) ?_
        refine lv_aload_n hx hb dX0_sum_37 rfl (lv_at hl 1 rfl) ?_
        refine lv_iload_n hx hb dX0_sum_38 rfl (lv_at hl 0 rfl) ?_
        refine lv_iload_n hx hb dX0_sum_39 rfl (lv_at hl 3 rfl) ?_
        refine r_Vi (As := [.int (nI (Z 11 u1)), .int (nI q1)]) (rest := [.int (nI u1), .ref o]) fx (ct_X0_sharedSet l dC dI cy o a Z X (Z 11 u1) q1 (by first | assumption | omega) (by first | assumption | omega)) fyX0_sharedSet tM_RX0_146 rfl rfl ⟨Nat.le_of_ble_eq_true rfl, Nat.le_of_ble_eq_true rfl⟩ (c_pre hK hP) rfl hl.1 rfl (Nat.le_of_ble_eq_true rfl) dX0_sum_40 ⟨Nat.le_of_ble_eq_true rfl, Nat.le_of_ble_eq_true rfl⟩ (fun r_40 hr_40 => ?_)
        subst hr_40
        refine r_Vi (As := [.int (nI u1), .int (nI (Z 9 (Z 11 u1) &&& Z 9 q1 &&& cset Z))]) (rest := []) fx (ct_X0_sumOver l dC dI cy o a Z X u1 (Z 9 (Z 11 u1) &&& Z 9 q1 &&& cset Z) hI (by first | assumption | omega) (Nat.lt_of_le_of_lt Nat.and_le_right hcs)) fyX0_sumOver tM_RX0_121 rfl rfl ⟨Nat.le_of_ble_eq_true rfl, Nat.le_of_ble_eq_true rfl⟩ (c_pre hK hP) rfl hl.1 rfl (Nat.le_of_ble_eq_true rfl) dX0_sum_43 ⟨Nat.le_of_ble_eq_true rfl, Nat.le_of_ble_eq_true rfl⟩ (fun r_43 hr_43 => ?_)
        subst hr_43
        refine W.iret (v := (nI (smS Z u1 (fun q => (Z 9 (Z 11 u1) &&& Z 9 q1 &&& cset Z).testBit q)))) hx hb hr (fun t9 ht9 hW9 => ⟨_, rfl, ?_, ht9⟩) (fun q h => by cases h) dX0_sum_46
        first
        | (rw [fSum, if_neg (fun h => hr_2 h.1)]; done)
        | (rw [fSum, if_neg (fun h => hr_10 h.2)]; done)
        | (rw [fSum, if_pos ⟨i_u, i_q⟩, t_u, t_q, if_pos c_27]; done)
        | (rw [fSum, if_pos ⟨i_u, i_q⟩, t_u, t_q, if_neg c_27, smS_sh hI h_u1 (by omega)]; done)
      ·
        refine lv_bipush (v := -2) hx hb dX0_sum_30 (by decide) ?_
        refine lv_goto (tgt := 46) hx hb dX0_sum_32 (by decide) ?_
        refine W.iret (v := (-2)) hx hb hr (fun t9 ht9 hW9 => ⟨_, rfl, ?_, ht9⟩) (fun q h => by cases h) dX0_sum_46
        first
        | (rw [fSum, if_neg (fun h => hr_2 h.1)]; done)
        | (rw [fSum, if_neg (fun h => hr_10 h.2)]; done)
        | (rw [fSum, if_pos ⟨i_u, i_q⟩, t_u, t_q, if_pos c_27]; done)
        | (rw [fSum, if_pos ⟨i_u, i_q⟩, t_u, t_q, if_neg c_27, smS_sh hI h_u1 (by omega)]; done)

set_option maxHeartbeats 4000000 in
set_option maxRecDepth 100000 in
theorem ct_X0_alike (l : Launch) (dC : Nat → ClassId) (dI : Nat → Nat → Nat) (cy : ClassId) (o : Nat) (a : Nat → Nat) (Z X : Nat → Nat → Nat) (u : Int32) (v : Int32) (hI : Inv Z) : Met l yX0_alike (wS yX0_alike cX0_alike 3 (Option.some Jvm.ClassFile.FieldType.int)) (rmF 4 92) (va_Pc [.ref o, .int u, .int v] (cR dC dI cy o a Z X)) (vp_Si (fun r => r = fAlk Z u v)) 0 0 (fun _ => False) := by
  refine Met.ofW (cc := cX0_alike) (maxL := 3) (ret := (Option.some Jvm.ClassFile.FieldType.int)) (by decide) rfl ?_
  intro pg en sv mi ag bw mt cd s₁ BL hml hv
  obtain ⟨rfl, hP, hK⟩ := hv
  have hx := BL.exec
  have hb := BL.bytes
  have hr := BL.returns
  have hts : ∀ w ∈ lw_ok, w.before _ sv = true := fun w hw => atoms_spec (ws := wS yX0_alike cX0_alike 3 (Option.some Jvm.ClassFile.FieldType.int)) BL.pre w (List.mem_cons_of_mem _ hw)
  have hown : sv.vm.findClass RX0 = some mi.cls := findClass_of_methodNamed BL.named
  have hlocks := BL.notSynchronized
  have fx : CallFix pg mi cd cX0_alike 3 sv _ lw_ok RX0 := ⟨hx, hb, hml, hown, hts⟩
  have hl := lv_entry ([.ref o, .int u, .int v]) (n := 3) (Nat.le_of_ble_eq_true rfl)
  rw [lg_entry_eq]
  generalize (lg_sl ([.ref o, .int u, .int v]) ++ List.replicate (3 - (lg_sl ([.ref o, .int u, .int v])).length) Slot.unset).toArray = ls at hl ⊢
  replace hl : lv_has ls 3 [(0, .ref o), (1, .int u), (2, .int v)] := hl
  obtain ⟨b0, b1, b2⟩ := hI.bd
  refine lv_aload_n hx hb dX0_alike_0 rfl (lv_at hl 0 rfl) ?_
  refine lv_iload_n hx hb dX0_alike_1 rfl (lv_at hl 1 rfl) ?_
  refine r_Vi (As := [.int u]) (rest := []) fx (ct_X0_isPupil l dC dI cy o a Z X u hI) fyX0_isPupil tM_RX0_103 rfl rfl ⟨Nat.le_of_ble_eq_true rfl, Nat.le_of_ble_eq_true rfl⟩ (c_pre hK hP) rfl hl.1 rfl (Nat.le_of_ble_eq_true rfl) dX0_alike_2 ⟨Nat.le_of_ble_eq_true rfl, Nat.le_of_ble_eq_true rfl⟩ (fun r_2 hr_2 => ?_)
  rcases hr_2 with ⟨rfl, hr_2⟩ | ⟨rfl, hr_2⟩
  ·
    refine x_if_eq_T (tgt := 16) hx hb (by decide) dX0_alike_5 (by decide) ?_
    refine lv_iconst (v := -1) hx hb dX0_alike_16 (by decide) ?_
    refine W.iret (v := (-1)) hx hb hr (fun t9 ht9 hW9 => ⟨_, rfl, ?_, ht9⟩) (fun q h => by cases h) dX0_alike_17
    first
    | (rw [fAlk, if_neg (fun h => hr_2 h.1)]; done)
    | (rw [fAlk, if_neg (fun h => hr_10 h.2)]; done)
    | (rw [fAlk, if_pos ⟨i_u, i_v⟩, t_u, t_v, if_pos (Or.inl c_20)]; done)
    | (rw [fAlk, if_pos ⟨i_u, i_v⟩, t_u, t_v, if_pos (Or.inr c_35)]; done)
    | (rw [fAlk, if_pos ⟨i_u, i_v⟩, t_u, t_v, if_neg (fun h => h.elim c_20 (fun q => q c_35))]; done)
  ·
    have i_u := hr_2
    obtain ⟨u1, -, h_u1, rfl⟩ := inR_of i_u
    have t_u : tn (nI u1) = u1 := tn_nI (by omega)
    have hpu := hI.pu h_u1
    refine x_if_eq_F (tgt := 16) hx hb (by decide) dX0_alike_5 (by decide) ?_
    refine lv_aload_n hx hb dX0_alike_8 rfl (lv_at hl 0 rfl) ?_
    refine lv_iload_n hx hb dX0_alike_9 rfl (lv_at hl 2 rfl) ?_
    refine r_Vi (As := [.int v]) (rest := []) fx (ct_X0_isPupil l dC dI cy o a Z X v hI) fyX0_isPupil tM_RX0_103 rfl rfl ⟨Nat.le_of_ble_eq_true rfl, Nat.le_of_ble_eq_true rfl⟩ (c_pre hK hP) rfl hl.1 rfl (Nat.le_of_ble_eq_true rfl) dX0_alike_10 ⟨Nat.le_of_ble_eq_true rfl, Nat.le_of_ble_eq_true rfl⟩ (fun r_10 hr_10 => ?_)
    rcases hr_10 with ⟨rfl, hr_10⟩ | ⟨rfl, hr_10⟩
    ·
      refine x_if_ne_F (tgt := 18) hx hb (by decide) dX0_alike_13 (by decide) ?_
      refine lv_iconst (v := -1) hx hb dX0_alike_16 (by decide) ?_
      refine W.iret (v := (-1)) hx hb hr (fun t9 ht9 hW9 => ⟨_, rfl, ?_, ht9⟩) (fun q h => by cases h) dX0_alike_17
      first
      | (rw [fAlk, if_neg (fun h => hr_2 h.1)]; done)
      | (rw [fAlk, if_neg (fun h => hr_10 h.2)]; done)
      | (rw [fAlk, if_pos ⟨i_u, i_v⟩, t_u, t_v, if_pos (Or.inl c_20)]; done)
      | (rw [fAlk, if_pos ⟨i_u, i_v⟩, t_u, t_v, if_pos (Or.inr c_35)]; done)
      | (rw [fAlk, if_pos ⟨i_u, i_v⟩, t_u, t_v, if_neg (fun h => h.elim c_20 (fun q => q c_35))]; done)
    ·
      have i_v := hr_10
      obtain ⟨v1, -, h_v1, rfl⟩ := inR_of i_v
      have t_v : tn (nI v1) = v1 := tn_nI (by omega)
      have hpv := hI.pu h_v1
      refine x_if_ne_T (tgt := 18) hx hb (by decide) dX0_alike_13 (by decide) ?_
      refine lv_iload_n hx hb dX0_alike_18 rfl (lv_at hl 1 rfl) ?_
      refine lv_iload_n hx hb dX0_alike_19 rfl (lv_at hl 2 rfl) ?_
      refine x_icmp_eq (x := u1) (y := v1) (tgt := 38) hx hb (by omega) (by omega) dX0_alike_20 (by decide) (fun c_20 => ?_) (fun c_20 => ?_)
      ·
        refine lv_bipush (v := -2) hx hb dX0_alike_38 (by decide) ?_
        refine W.iret (v := (-2)) hx hb hr (fun t9 ht9 hW9 => ⟨_, rfl, ?_, ht9⟩) (fun q h => by cases h) dX0_alike_40
        first
        | (rw [fAlk, if_neg (fun h => hr_2 h.1)]; done)
        | (rw [fAlk, if_neg (fun h => hr_10 h.2)]; done)
        | (rw [fAlk, if_pos ⟨i_u, i_v⟩, t_u, t_v, if_pos (Or.inl c_20)]; done)
        | (rw [fAlk, if_pos ⟨i_u, i_v⟩, t_u, t_v, if_pos (Or.inr c_35)]; done)
        | (rw [fAlk, if_pos ⟨i_u, i_v⟩, t_u, t_v, if_neg (fun h => h.elim c_20 (fun q => q c_35))]; done)
      ·
        refine lv_aload_n hx hb dX0_alike_23 rfl (lv_at hl 0 rfl) ?_
        refine c_g11 hx hb hts hown hK hP dX0_alike_24 ?_
        refine lv_iload_n hx hb dX0_alike_27 rfl (lv_at hl 1 rfl) ?_
        refine c_l11 (j := u1) hx hb hK hP (by omega) dX0_alike_28 ?_
        refine lv_aload_n hx hb dX0_alike_29 rfl (lv_at hl 0 rfl) ?_
        refine c_g11 hx hb hts hown hK hP dX0_alike_30 ?_
        refine lv_iload_n hx hb dX0_alike_33 rfl (lv_at hl 2 rfl) ?_
        refine c_l11 (j := v1) hx hb hK hP (by omega) dX0_alike_34 ?_
        refine x_icmp_eq (x := Z 11 u1) (y := Z 11 v1) (tgt := 41) hx hb (by omega) (by omega) dX0_alike_35 (by decide) (fun c_35 => ?_) (fun c_35 => ?_)
        ·
          refine lv_aload_n hx hb dX0_alike_41 rfl (lv_at hl 0 rfl) ?_
          refine lv_iload_n hx hb dX0_alike_42 rfl (lv_at hl 1 rfl) ?_
          refine lv_iload_n hx hb dX0_alike_43 rfl (lv_at hl 2 rfl) ?_
          refine r_Vi (As := [.int (nI u1), .int (nI v1)]) (rest := []) fx (ct_X0_sameWrongs l dC dI cy o a Z X u1 v1 hI (by first | assumption | omega) (by first | assumption | omega) c_35.symm) fyX0_sameWrongs tM_RX0_193 rfl rfl ⟨Nat.le_of_ble_eq_true rfl, Nat.le_of_ble_eq_true rfl⟩ (c_pre hK hP) rfl hl.1 rfl (Nat.le_of_ble_eq_true rfl) dX0_alike_44 ⟨Nat.le_of_ble_eq_true rfl, Nat.le_of_ble_eq_true rfl⟩ (fun r_44 hr_44 => ?_)
          subst hr_44
          refine W.iret (v := (nI (alk Z u1 v1))) hx hb hr (fun t9 ht9 hW9 => ⟨_, rfl, ?_, ht9⟩) (fun q h => by cases h) dX0_alike_47
          first
          | (rw [fAlk, if_neg (fun h => hr_2 h.1)]; done)
          | (rw [fAlk, if_neg (fun h => hr_10 h.2)]; done)
          | (rw [fAlk, if_pos ⟨i_u, i_v⟩, t_u, t_v, if_pos (Or.inl c_20)]; done)
          | (rw [fAlk, if_pos ⟨i_u, i_v⟩, t_u, t_v, if_pos (Or.inr c_35)]; done)
          | (rw [fAlk, if_pos ⟨i_u, i_v⟩, t_u, t_v, if_neg (fun h => h.elim c_20 (fun q => q c_35))]; done)
        ·
          refine lv_bipush (v := -2) hx hb dX0_alike_38 (by decide) ?_
          refine W.iret (v := (-2)) hx hb hr (fun t9 ht9 hW9 => ⟨_, rfl, ?_, ht9⟩) (fun q h => by cases h) dX0_alike_40
          first
          | (rw [fAlk, if_neg (fun h => hr_2 h.1)]; done)
          | (rw [fAlk, if_neg (fun h => hr_10 h.2)]; done)
          | (rw [fAlk, if_pos ⟨i_u, i_v⟩, t_u, t_v, if_pos (Or.inl c_20)]; done)
          | (rw [fAlk, if_pos ⟨i_u, i_v⟩, t_u, t_v, if_pos (Or.inr c_35)]; done)
          | (rw [fAlk, if_pos ⟨i_u, i_v⟩, t_u, t_v, if_neg (fun h => h.elim c_20 (fun q => q c_35))]; done)

set_option maxHeartbeats 4000000 in
set_option maxRecDepth 100000 in
theorem ct_X0_passes (l : Launch) (dC : Nat → ClassId) (dI : Nat → Nat → Nat) (cy : ClassId) (o : Nat) (a : Nat → Nat) (Z X : Nat → Nat → Nat) (u : Int32) (hI : Inv Z) : Met l yX0_passes (wS yX0_passes cX0_passes 2 (Option.some Jvm.ClassFile.FieldType.int)) (rmF 5 112) (va_Pc [.ref o, .int u] (cR dC dI cy o a Z X)) (vp_Si (fun r => r = fPas Z u)) 0 0 (fun _ => False) := by
  refine Met.ofW (cc := cX0_passes) (maxL := 2) (ret := (Option.some Jvm.ClassFile.FieldType.int)) (by decide) rfl ?_
  intro pg en sv mi ag bw mt cd s₁ BL hml hv
  obtain ⟨rfl, hP, hK⟩ := hv
  have hx := BL.exec
  have hb := BL.bytes
  have hr := BL.returns
  have hts : ∀ w ∈ lw_ok, w.before _ sv = true := fun w hw => atoms_spec (ws := wS yX0_passes cX0_passes 2 (Option.some Jvm.ClassFile.FieldType.int)) BL.pre w (List.mem_cons_of_mem _ hw)
  have hown : sv.vm.findClass RX0 = some mi.cls := findClass_of_methodNamed BL.named
  have hlocks := BL.notSynchronized
  have fx : CallFix pg mi cd cX0_passes 2 sv _ lw_ok RX0 := ⟨hx, hb, hml, hown, hts⟩
  have hl := lv_entry ([.ref o, .int u]) (n := 2) (Nat.le_of_ble_eq_true rfl)
  rw [lg_entry_eq]
  generalize (lg_sl ([.ref o, .int u]) ++ List.replicate (2 - (lg_sl ([.ref o, .int u])).length) Slot.unset).toArray = ls at hl ⊢
  replace hl : lv_has ls 2 [(0, .ref o), (1, .int u)] := hl
  obtain ⟨b0, b1, b2⟩ := hI.bd
  refine lv_aload_n hx hb dX0_passes_0 rfl (lv_at hl 0 rfl) ?_
  refine lv_iload_n hx hb dX0_passes_1 rfl (lv_at hl 1 rfl) ?_
  refine r_Vi (As := [.int u]) (rest := []) fx (ct_X0_isPupil l dC dI cy o a Z X u hI) fyX0_isPupil tM_RX0_103 rfl rfl ⟨Nat.le_of_ble_eq_true rfl, Nat.le_of_ble_eq_true rfl⟩ (c_pre hK hP) rfl hl.1 rfl (Nat.le_of_ble_eq_true rfl) dX0_passes_2 ⟨Nat.le_of_ble_eq_true rfl, Nat.le_of_ble_eq_true rfl⟩ (fun r_2 hr_2 => ?_)
  rcases hr_2 with ⟨rfl, hr_2⟩ | ⟨rfl, hr_2⟩
  ·
    refine x_if_ne_F (tgt := 10) hx hb (by decide) dX0_passes_5 (by decide) ?_
    refine lv_iconst (v := -1) hx hb dX0_passes_8 (by decide) ?_
    refine W.iret (v := (-1)) hx hb hr (fun t9 ht9 hW9 => ⟨_, rfl, ?_, ht9⟩) (fun q h => by cases h) dX0_passes_9
    first
    | (rw [fPas, if_neg hr_2]; done)
    | (rw [fPas, if_pos i_u, t_u, if_pos hr_12]; rfl; done)
    | (rw [fPas, if_pos i_u, t_u, if_neg hr_12]; rfl; done)
  ·
    have i_u := hr_2
    obtain ⟨u1, -, h_u1, rfl⟩ := inR_of i_u
    have t_u : tn (nI u1) = u1 := tn_nI (by omega)
    refine x_if_ne_T (tgt := 10) hx hb (by decide) dX0_passes_5 (by decide) ?_
    refine lv_aload_n hx hb dX0_passes_10 rfl (lv_at hl 0 rfl) ?_
    refine lv_iload_n hx hb dX0_passes_11 rfl (lv_at hl 1 rfl) ?_
    refine r_Vi (As := [.int (nI u1)]) (rest := []) fx (ct_X0_isPassing l dC dI cy o a Z X u1 hI (by first | assumption | omega)) fyX0_isPassing tM_RX0_186 rfl rfl ⟨Nat.le_of_ble_eq_true rfl, Nat.le_of_ble_eq_true rfl⟩ (c_pre hK hP) rfl hl.1 rfl (Nat.le_of_ble_eq_true rfl) dX0_passes_12 ⟨Nat.le_of_ble_eq_true rfl, Nat.le_of_ble_eq_true rfl⟩ (fun r_12 hr_12 => ?_)
    rcases hr_12 with ⟨rfl, hr_12⟩ | ⟨rfl, hr_12⟩
    ·
      refine x_if_eq_T (tgt := 22) hx hb (by decide) dX0_passes_15 (by decide) ?_
      refine lv_iconst (v := nI 0) hx hb dX0_passes_22 (by decide) ?_
      refine W.iret (v := (nI 0)) hx hb hr (fun t9 ht9 hW9 => ⟨_, rfl, ?_, ht9⟩) (fun q h => by cases h) dX0_passes_23
      first
      | (rw [fPas, if_neg hr_2]; done)
      | (rw [fPas, if_pos i_u, t_u, if_pos hr_12]; rfl; done)
      | (rw [fPas, if_pos i_u, t_u, if_neg hr_12]; rfl; done)
    ·
      refine x_if_eq_F (tgt := 22) hx hb (by decide) dX0_passes_15 (by decide) ?_
      refine lv_iconst (v := nI 1) hx hb dX0_passes_18 (by decide) ?_
      refine lv_goto (tgt := 23) hx hb dX0_passes_19 (by decide) ?_
      refine W.iret (v := (nI 1)) hx hb hr (fun t9 ht9 hW9 => ⟨_, rfl, ?_, ht9⟩) (fun q h => by cases h) dX0_passes_23
      first
      | (rw [fPas, if_neg hr_2]; done)
      | (rw [fPas, if_pos i_u, t_u, if_pos hr_12]; rfl; done)
      | (rw [fPas, if_pos i_u, t_u, if_neg hr_12]; rfl; done)

set_option maxHeartbeats 4000000 in
set_option maxRecDepth 100000 in
theorem ct_X0_cut (l : Launch) (dC : Nat → ClassId) (dI : Nat → Nat → Nat) (cy : ClassId) (o : Nat) (a : Nat → Nat) (Z X : Nat → Nat → Nat) (p : Int32) (w : Int32) (hI : Inv Z) : Met l yX0_cut (wS yX0_cut cX0_cut 3 (Option.some Jvm.ClassFile.FieldType.long)) (rmF 2 56) (va_Pc [.ref o, .int p, .int w] (cR dC dI cy o a Z X)) (vp_Sl (fun r => r = fCut Z p w)) 0 0 (fun _ => False) := by
  refine Met.ofW (cc := cX0_cut) (maxL := 3) (ret := (Option.some Jvm.ClassFile.FieldType.long)) (by decide) rfl ?_
  intro pg en sv mi ag bw mt cd s₁ BL hml hv
  obtain ⟨rfl, hP, hK⟩ := hv
  have hx := BL.exec
  have hb := BL.bytes
  have hr := BL.returns
  have hts : ∀ w ∈ lw_ok, w.before _ sv = true := fun w hw => atoms_spec (ws := wS yX0_cut cX0_cut 3 (Option.some Jvm.ClassFile.FieldType.long)) BL.pre w (List.mem_cons_of_mem _ hw)
  have hown : sv.vm.findClass RX0 = some mi.cls := findClass_of_methodNamed BL.named
  have hlocks := BL.notSynchronized
  have fx : CallFix pg mi cd cX0_cut 3 sv _ lw_ok RX0 := ⟨hx, hb, hml, hown, hts⟩
  have hl := lv_entry ([.ref o, .int p, .int w]) (n := 3) (Nat.le_of_ble_eq_true rfl)
  rw [lg_entry_eq]
  generalize (lg_sl ([.ref o, .int p, .int w]) ++ List.replicate (3 - (lg_sl ([.ref o, .int p, .int w])).length) Slot.unset).toArray = ls at hl ⊢
  replace hl : lv_has ls 3 [(0, .ref o), (1, .int p), (2, .int w)] := hl
  obtain ⟨b0, b1, b2⟩ := hI.bd
  refine lv_aload_n hx hb dX0_cut_0 rfl (lv_at hl 0 rfl) ?_
  refine lv_iload_n hx hb dX0_cut_1 rfl (lv_at hl 1 rfl) ?_
  refine r_Vi (As := [.int p]) (rest := []) fx (ct_X0_isPaper l dC dI cy o a Z X p hI) fyX0_isPaper tM_RX0_81 rfl rfl ⟨Nat.le_of_ble_eq_true rfl, Nat.le_of_ble_eq_true rfl⟩ (c_pre hK hP) rfl hl.1 rfl (Nat.le_of_ble_eq_true rfl) dX0_cut_2 ⟨Nat.le_of_ble_eq_true rfl, Nat.le_of_ble_eq_true rfl⟩ (fun r_2 hr_2 => ?_)
  rcases hr_2 with ⟨rfl, hr_2⟩ | ⟨rfl, hr_2⟩
  ·
    refine x_if_eq_T (tgt := 15) hx hb (by decide) dX0_cut_5 (by decide) ?_
    refine lv_ldc2 (v := -9223372036854775808) hx hb hown (hts _ (ok_of tJ_RX0_127 rfl)) dX0_cut_15 ?_
    refine W.lret (v := ((-9223372036854775808))) hx hb hr (fun t9 ht9 hW9 => ⟨_, rfl, ?_, ht9⟩) (fun q h => by cases h) dX0_cut_18
    first
    | (rw [fCut, if_neg (fun h => hr_2 h.1)]; done)
    | (rw [fCut, if_neg (fun h => hr_9 h.2)]; done)
    | (rw [fCut, if_pos ⟨i_p, i_w⟩, t_p]; done)
  ·
    have i_p := hr_2
    obtain ⟨p1, -, h_p1, rfl⟩ := inR_of i_p
    have t_p : tn (nI p1) = p1 := tn_nI (by omega)
    have hcl := cutP_le hI (p := p1) (by omega)
    refine x_if_eq_F (tgt := 15) hx hb (by decide) dX0_cut_5 (by decide) ?_
    refine lv_iload_n hx hb dX0_cut_8 rfl (lv_at hl 2 rfl) ?_
    refine r_Si (As := [.int w]) (rest := []) fx (ct_X0_isPart l w) fyX0_isPart tM_RX0_124 rfl rfl ⟨Nat.le_of_ble_eq_true rfl, Nat.le_of_ble_eq_true rfl⟩ rfl hl.1 rfl (Nat.le_of_ble_eq_true rfl) dX0_cut_9 ⟨Nat.le_of_ble_eq_true rfl, Nat.le_of_ble_eq_true rfl⟩ (fun r_9 hr_9 => ?_)
    rcases hr_9 with ⟨rfl, hr_9⟩ | ⟨rfl, hr_9⟩
    ·
      refine x_if_ne_F (tgt := 19) hx hb (by decide) dX0_cut_12 (by decide) ?_
      refine lv_ldc2 (v := -9223372036854775808) hx hb hown (hts _ (ok_of tJ_RX0_127 rfl)) dX0_cut_15 ?_
      refine W.lret (v := ((-9223372036854775808))) hx hb hr (fun t9 ht9 hW9 => ⟨_, rfl, ?_, ht9⟩) (fun q h => by cases h) dX0_cut_18
      first
      | (rw [fCut, if_neg (fun h => hr_2 h.1)]; done)
      | (rw [fCut, if_neg (fun h => hr_9 h.2)]; done)
      | (rw [fCut, if_pos ⟨i_p, i_w⟩, t_p]; done)
    ·
      have i_w := hr_9
      refine x_if_ne_T (tgt := 19) hx hb (by decide) dX0_cut_12 (by decide) ?_
      refine lv_aload_n hx hb dX0_cut_19 rfl (lv_at hl 0 rfl) ?_
      refine lv_iload_n hx hb dX0_cut_20 rfl (lv_at hl 1 rfl) ?_
      refine r_Vi (As := [.int (nI p1)]) (rest := []) fx (ct_X0_cutParts l dC dI cy o a Z X p1 hI (by first | assumption | omega)) fyX0_cutParts tM_RX0_181 rfl rfl ⟨Nat.le_of_ble_eq_true rfl, Nat.le_of_ble_eq_true rfl⟩ (c_pre hK hP) rfl hl.1 rfl (Nat.le_of_ble_eq_true rfl) dX0_cut_21 ⟨Nat.le_of_ble_eq_true rfl, Nat.le_of_ble_eq_true rfl⟩ (fun r_21 hr_21 => ?_)
      subst hr_21
      refine lv_i2l (v := lN (cutP Z p1)) hx hb dX0_cut_24 (nI_l (by omega)) ?_
      refine lv_ldc2 (v := 840) hx hb hown (hts _ (ok_of tJ_RX0_184 rfl)) dX0_cut_25 ?_
      refine W.eq (g2 := F0 mi 28 ls (.long (lN 840) :: [.long (lN (cutP Z p1))])) rfl ?_
      refine lv_iload_n hx hb dX0_cut_28 rfl (lv_at hl 2 rfl) ?_
      refine r_Sl (As := [.long (lN (cutP Z p1)), .long (lN 840), .int w]) (rest := []) fx (ct_X0_fraction l ((lN (cutP Z p1))) 840 w (lN_tI (by omega)) (by decide) (by decide)) fyX0_fraction tM_RX0_132 rfl rfl ⟨Nat.le_of_ble_eq_true rfl, Nat.le_of_ble_eq_true rfl⟩ rfl hl.1 rfl (Nat.le_of_ble_eq_true rfl) dX0_cut_29 ⟨Nat.le_of_ble_eq_true rfl, Nat.le_of_ble_eq_true rfl⟩ (fun r_29 hr_29 => ?_)
      subst hr_29
      refine W.lret (v := (frc ((lN (cutP Z p1))) 840 w)) hx hb hr (fun t9 ht9 hW9 => ⟨_, rfl, ?_, ht9⟩) (fun q h => by cases h) dX0_cut_32
      first
      | (rw [fCut, if_neg (fun h => hr_2 h.1)]; done)
      | (rw [fCut, if_neg (fun h => hr_9 h.2)]; done)
      | (rw [fCut, if_pos ⟨i_p, i_w⟩, t_p]; done)

set_option maxHeartbeats 4000000 in
set_option maxRecDepth 100000 in
theorem ct_X0_rank (l : Launch) (dC : Nat → ClassId) (dI : Nat → Nat → Nat) (cy : ClassId) (o : Nat) (a : Nat → Nat) (Z X : Nat → Nat → Nat) (sz : Nat) (p : Int32) (v : Int32) (hI : Inv Z) : Met l yX0_rank (wS yX0_rank cX0_rank 3 (Option.some Jvm.ClassFile.FieldType.int)) (rmF 5 115) (va_Pc [.ref o, .int p, .int v] (cS dC dI cy o a Z X sz)) (va_Qi (fun r (u : ST × ST) => r = fRnk Z p v ∧ u.1 = Z) (cE dC dI cy o a (cA cy o a Z X sz)) (cA cy o a Z X sz)) 0 0 (cA cy o a Z X sz) := by
  refine Met.ofW (cc := cX0_rank) (maxL := 3) (ret := (Option.some Jvm.ClassFile.FieldType.int)) (by decide) rfl ?_
  intro pg en sv mi ag bw mt cd s₁ BL hml hv
  obtain ⟨rfl, hsz, hP, hK, hD0⟩ := hv
  have hx := BL.exec
  have hb := BL.bytes
  have hr := BL.returns
  have hts : ∀ w ∈ lw_ok, w.before _ sv = true := fun w hw => atoms_spec (ws := wS yX0_rank cX0_rank 3 (Option.some Jvm.ClassFile.FieldType.int)) BL.pre w (List.mem_cons_of_mem _ hw)
  have hown : sv.vm.findClass RX0 = some mi.cls := findClass_of_methodNamed BL.named
  have hlocks := BL.notSynchronized
  have fx : CallFix pg mi cd cX0_rank 3 sv _ lw_ok RX0 := ⟨hx, hb, hml, hown, hts⟩
  have hl := lv_entry ([.ref o, .int p, .int v]) (n := 3) (Nat.le_of_ble_eq_true rfl)
  rw [lg_entry_eq]
  generalize (lg_sl ([.ref o, .int p, .int v]) ++ List.replicate (3 - (lg_sl ([.ref o, .int p, .int v])).length) Slot.unset).toArray = ls at hl ⊢
  replace hl : lv_has ls 3 [(0, .ref o), (1, .int p), (2, .int v)] := hl
  subst hsz
  have hD : va_D (cA cy o a Z X sv.heap.size) (cw cy o a Z X) := hD0.self (sz := sv.heap.size)
  clear hD0
  generalize hAe : cA cy o a Z X sv.heap.size = A at hD ⊢
  have hA : ∀ q : Nat, sv.heap.size ≤ q → A q := fun q h => by rw [← hAe]; exact Or.inr h
  clear hAe
  refine x_start (fun H locs eH eL => ?_)
  replace hP : va_P (dC, dI) vwCl (cw cy o a Z X) H := by rw [eH]; exact hP
  have hS : va_S A sv.heap H locs := by rw [eH, eL]; exact va_S.rf
  clear eH eL
  obtain ⟨b0, b1, b2⟩ := hI.bd
  have hcs := cset_lt hI
  refine lv_aload_n hx hb dX0_rank_0 rfl (lv_at hl 0 rfl) ?_
  refine lv_iload_n hx hb dX0_rank_1 rfl (lv_at hl 1 rfl) ?_
  refine r_Vi (As := [.int p]) (rest := []) fx (ct_X0_isPaper l dC dI cy o a Z X p hI) fyX0_isPaper tM_RX0_81 rfl rfl ⟨Nat.le_of_ble_eq_true rfl, Nat.le_of_ble_eq_true rfl⟩ (c_pre hK hP) rfl hl.1 rfl (Nat.le_of_ble_eq_true rfl) dX0_rank_2 ⟨Nat.le_of_ble_eq_true rfl, Nat.le_of_ble_eq_true rfl⟩ (fun r_2 hr_2 => ?_)
  rcases hr_2 with ⟨rfl, hr_2⟩ | ⟨rfl, hr_2⟩
  ·
    refine x_if_eq_T (tgt := 16) hx hb (by decide) dX0_rank_5 (by decide) ?_
    refine lv_iconst (v := -1) hx hb dX0_rank_16 (by decide) ?_
    refine W.iret (v := (-1)) hx hb hr (fun t9 ht9 hW9 => ⟨⟨_, (Z, X), rfl, ?_, cE_mk ht9 hP hK hW9 hD⟩, hS.F ht9⟩) hS.2.2 dX0_rank_17
    first
    | exact ⟨by rw [fRnk, if_neg (fun h => hr_2 h.1)], rfl⟩
    | exact ⟨by rw [fRnk, if_neg (fun h => hr_10 (by have h2 := h.2; rw [t_p] at h2; exact gN_ex.mpr h2))], rfl⟩
    | exact ⟨by rw [fRnk, if_pos ⟨i_p, by rw [t_p]; exact gN_ex.mp hr_10⟩, t_p, gat_R hgt], rfl⟩
  ·
    have i_p := hr_2
    obtain ⟨p1, -, h_p1, rfl⟩ := inR_of i_p
    have t_p : tn (nI p1) = p1 := tn_nI (by omega)
    have hgl := gN_le hI p1
    refine x_if_eq_F (tgt := 16) hx hb (by decide) dX0_rank_5 (by decide) ?_
    refine lv_aload_n hx hb dX0_rank_8 rfl (lv_at hl 0 rfl) ?_
    refine lv_iload_n hx hb dX0_rank_9 rfl (lv_at hl 1 rfl) ?_
    refine r_Vi (As := [.int (nI p1)]) (rest := []) fx (ct_X0_hasPupil l dC dI cy o a Z X p1 hI (by first | assumption | omega)) fyX0_hasPupil tM_RX0_84 rfl rfl ⟨Nat.le_of_ble_eq_true rfl, Nat.le_of_ble_eq_true rfl⟩ (c_pre hK hP) rfl hl.1 rfl (Nat.le_of_ble_eq_true rfl) dX0_rank_10 ⟨Nat.le_of_ble_eq_true rfl, Nat.le_of_ble_eq_true rfl⟩ (fun r_10 hr_10 => ?_)
    rcases hr_10 with ⟨rfl, hr_10⟩ | ⟨rfl, hr_10⟩
    ·
      refine x_if_ne_F (tgt := 18) hx hb (by decide) dX0_rank_13 (by decide) ?_
      refine lv_iconst (v := -1) hx hb dX0_rank_16 (by decide) ?_
      refine W.iret (v := (-1)) hx hb hr (fun t9 ht9 hW9 => ⟨⟨_, (Z, X), rfl, ?_, cE_mk ht9 hP hK hW9 hD⟩, hS.F ht9⟩) hS.2.2 dX0_rank_17
      first
      | exact ⟨by rw [fRnk, if_neg (fun h => hr_2 h.1)], rfl⟩
      | exact ⟨by rw [fRnk, if_neg (fun h => hr_10 (by have h2 := h.2; rw [t_p] at h2; exact gN_ex.mpr h2))], rfl⟩
      | exact ⟨by rw [fRnk, if_pos ⟨i_p, by rw [t_p]; exact gN_ex.mp hr_10⟩, t_p, gat_R hgt], rfl⟩
    ·
      refine x_if_ne_T (tgt := 18) hx hb (by decide) dX0_rank_13 (by decide) ?_
      refine lv_aload_n hx hb dX0_rank_18 rfl (lv_at hl 0 rfl) ?_
      refine lv_aload_n hx hb dX0_rank_19 rfl (lv_at hl 0 rfl) ?_
      refine lv_iload_n hx hb dX0_rank_20 rfl (lv_at hl 1 rfl) ?_
      refine lv_aload_n hx hb dX0_rank_21 rfl (lv_at hl 0 rfl) ?_
      refine r_Vi (As := []) (rest := [.int (nI p1), .ref o, .ref o]) fx (ct_X0_countingSet l dC dI cy o a Z X ) fyX0_countingSet tM_RX0_117 rfl rfl ⟨Nat.le_of_ble_eq_true rfl, Nat.le_of_ble_eq_true rfl⟩ (c_pre hK hP) rfl hl.1 rfl (Nat.le_of_ble_eq_true rfl) dX0_rank_22 ⟨Nat.le_of_ble_eq_true rfl, Nat.le_of_ble_eq_true rfl⟩ (fun r_22 hr_22 => ?_)
      subst hr_22
      refine c_Mi (As := [.int (nI p1), .int (nI (cset Z))]) (rest := [.ref o]) fx (ct_X0_gatherSums l dC dI cy o a Z X _ p1 (cset Z) hI (by first | assumption | omega) (by first | assumption | omega)) fyX0_gatherSums tM_RX0_155 rfl rfl ⟨Nat.le_of_ble_eq_true rfl, Nat.le_of_ble_eq_true rfl⟩ hK hP hD hS hA rfl hl.1 rfl (Nat.le_of_ble_eq_true rfl) dX0_rank_25 ⟨Nat.le_of_ble_eq_true rfl, Nat.le_of_ble_eq_true rfl⟩ (fun r_25 Z_25 X_25 H locs hw_25 hP hD hS => ?_)
      try dsimp only at hw_25
      obtain ⟨rfl, ez_25, hg_25⟩ := hw_25
      rw [ez_25] at hP hD
      have hgt := gat_tot hI hg_25
      refine lv_iload_n hx hb dX0_rank_28 rfl (lv_at hl 2 rfl) ?_
      refine r_Vi (As := [.int (nI (gN Z p1)), .int v]) (rest := []) fx (ct_X0_rankInValues l dC dI cy o a Z X_25 (gN Z p1) v (by first | assumption | omega)) fyX0_rankInValues tM_RX0_172 rfl rfl ⟨Nat.le_of_ble_eq_true rfl, Nat.le_of_ble_eq_true rfl⟩ (c_pre hK hP) rfl hl.1 rfl (Nat.le_of_ble_eq_true rfl) dX0_rank_29 ⟨Nat.le_of_ble_eq_true rfl, Nat.le_of_ble_eq_true rfl⟩ (fun r_29 hr_29 => ?_)
      subst hr_29
      refine W.iret (v := (nI (fb_sm (fun k => rk (X_25 0 k) v) (gN Z p1)))) hx hb hr (fun t9 ht9 hW9 => ⟨⟨_, (Z, X_25), rfl, ?_, cE_mk ht9 hP hK hW9 hD⟩, hS.F ht9⟩) hS.2.2 dX0_rank_32
      first
      | exact ⟨by rw [fRnk, if_neg (fun h => hr_2 h.1)], rfl⟩
      | exact ⟨by rw [fRnk, if_neg (fun h => hr_10 (by have h2 := h.2; rw [t_p] at h2; exact gN_ex.mpr h2))], rfl⟩
      | exact ⟨by rw [fRnk, if_pos ⟨i_p, by rw [t_p]; exact gN_ex.mp hr_10⟩, t_p, gat_R hgt], rfl⟩

set_option maxHeartbeats 4000000 in
set_option maxRecDepth 100000 in
theorem ct_X0_group (l : Launch) (dC : Nat → ClassId) (dI : Nat → Nat → Nat) (cy : ClassId) (o : Nat) (a : Nat → Nat) (Z X : Nat → Nat → Nat) (sz : Nat) (p : Int32) (q : Int32) (w : Int32) (hI : Inv Z) : Met l yX0_group (wS yX0_group cX0_group 5 (Option.some Jvm.ClassFile.FieldType.long)) (rmF 5 115) (va_Pc [.ref o, .int p, .int q, .int w] (cS dC dI cy o a Z X sz)) (va_Ql (fun r (u : ST × ST) => r = fGrp Z p q w ∧ u.1 = Z) (cE dC dI cy o a (cA cy o a Z X sz)) (cA cy o a Z X sz)) 0 0 (cA cy o a Z X sz) := by
  refine Met.ofW (cc := cX0_group) (maxL := 5) (ret := (Option.some Jvm.ClassFile.FieldType.long)) (by decide) rfl ?_
  intro pg en sv mi ag bw mt cd s₁ BL hml hv
  obtain ⟨rfl, hsz, hP, hK, hD0⟩ := hv
  have hx := BL.exec
  have hb := BL.bytes
  have hr := BL.returns
  have hts : ∀ w ∈ lw_ok, w.before _ sv = true := fun w hw => atoms_spec (ws := wS yX0_group cX0_group 5 (Option.some Jvm.ClassFile.FieldType.long)) BL.pre w (List.mem_cons_of_mem _ hw)
  have hown : sv.vm.findClass RX0 = some mi.cls := findClass_of_methodNamed BL.named
  have hlocks := BL.notSynchronized
  have fx : CallFix pg mi cd cX0_group 5 sv _ lw_ok RX0 := ⟨hx, hb, hml, hown, hts⟩
  have hl := lv_entry ([.ref o, .int p, .int q, .int w]) (n := 5) (Nat.le_of_ble_eq_true rfl)
  rw [lg_entry_eq]
  generalize (lg_sl ([.ref o, .int p, .int q, .int w]) ++ List.replicate (5 - (lg_sl ([.ref o, .int p, .int q, .int w])).length) Slot.unset).toArray = ls at hl ⊢
  replace hl : lv_has ls 5 [(0, .ref o), (1, .int p), (2, .int q), (3, .int w)] := hl
  subst hsz
  have hD : va_D (cA cy o a Z X sv.heap.size) (cw cy o a Z X) := hD0.self (sz := sv.heap.size)
  clear hD0
  generalize hAe : cA cy o a Z X sv.heap.size = A at hD ⊢
  have hA : ∀ q : Nat, sv.heap.size ≤ q → A q := fun q h => by rw [← hAe]; exact Or.inr h
  clear hAe
  refine x_start (fun H locs eH eL => ?_)
  replace hP : va_P (dC, dI) vwCl (cw cy o a Z X) H := by rw [eH]; exact hP
  have hS : va_S A sv.heap H locs := by rw [eH, eL]; exact va_S.rf
  clear eH eL
  obtain ⟨b0, b1, b2⟩ := hI.bd
  have hcs := cset_lt hI
  refine lv_aload_n hx hb dX0_group_0 rfl (lv_at hl 0 rfl) ?_
  refine lv_iload_n hx hb dX0_group_1 rfl (lv_at hl 1 rfl) ?_
  refine r_Vi (As := [.int p]) (rest := []) fx (ct_X0_isPaper l dC dI cy o a Z X p hI) fyX0_isPaper tM_RX0_81 rfl rfl ⟨Nat.le_of_ble_eq_true rfl, Nat.le_of_ble_eq_true rfl⟩ (c_pre hK hP) rfl hl.1 rfl (Nat.le_of_ble_eq_true rfl) dX0_group_2 ⟨Nat.le_of_ble_eq_true rfl, Nat.le_of_ble_eq_true rfl⟩ (fun r_2 hr_2 => ?_)
  rcases hr_2 with ⟨rfl, hr_2⟩ | ⟨rfl, hr_2⟩
  ·
    refine x_if_eq_T (tgt := 16) hx hb (by decide) dX0_group_5 (by decide) ?_
    refine lv_ldc2 (v := -9223372036854775808) hx hb hown (hts _ (ok_of tJ_RX0_127 rfl)) dX0_group_16 ?_
    refine W.lret (v := ((-9223372036854775808))) hx hb hr (fun t9 ht9 hW9 => ⟨⟨_, (Z, X), rfl, ?_, cE_mk ht9 hP hK hW9 hD⟩, hS.F ht9⟩) hS.2.2 dX0_group_19
    first
    | exact ⟨by rw [fGrp, if_neg (fun h => hr_2 h.1)], rfl⟩
    | exact ⟨by rw [fGrp, if_neg (fun h => hr_10 h.2.1)], rfl⟩
  ·
    have i_p := hr_2
    obtain ⟨p1, -, h_p1, rfl⟩ := inR_of i_p
    have t_p : tn (nI p1) = p1 := tn_nI (by omega)
    have hgl := gN_le hI p1
    refine x_if_eq_F (tgt := 16) hx hb (by decide) dX0_group_5 (by decide) ?_
    refine lv_aload_n hx hb dX0_group_8 rfl (lv_at hl 0 rfl) ?_
    refine lv_iload_n hx hb dX0_group_9 rfl (lv_at hl 2 rfl) ?_
    refine r_Vi (As := [.int q]) (rest := []) fx (ct_X0_isPaper l dC dI cy o a Z X q hI) fyX0_isPaper tM_RX0_81 rfl rfl ⟨Nat.le_of_ble_eq_true rfl, Nat.le_of_ble_eq_true rfl⟩ (c_pre hK hP) rfl hl.1 rfl (Nat.le_of_ble_eq_true rfl) dX0_group_10 ⟨Nat.le_of_ble_eq_true rfl, Nat.le_of_ble_eq_true rfl⟩ (fun r_10 hr_10 => ?_)
    rcases hr_10 with ⟨rfl, hr_10⟩ | ⟨rfl, hr_10⟩
    ·
      refine x_if_ne_F (tgt := 20) hx hb (by decide) dX0_group_13 (by decide) ?_
      refine lv_ldc2 (v := -9223372036854775808) hx hb hown (hts _ (ok_of tJ_RX0_127 rfl)) dX0_group_16 ?_
      refine W.lret (v := ((-9223372036854775808))) hx hb hr (fun t9 ht9 hW9 => ⟨⟨_, (Z, X), rfl, ?_, cE_mk ht9 hP hK hW9 hD⟩, hS.F ht9⟩) hS.2.2 dX0_group_19
      first
      | exact ⟨by rw [fGrp, if_neg (fun h => hr_2 h.1)], rfl⟩
      | exact ⟨by rw [fGrp, if_neg (fun h => hr_10 h.2.1)], rfl⟩
    ·
      have i_q := hr_10
      obtain ⟨q1, -, h_q1, rfl⟩ := inR_of i_q
      have t_q : tn (nI q1) = q1 := tn_nI (by omega)
      refine x_if_ne_T (tgt := 20) hx hb (by decide) dX0_group_13 (by decide) ?_
      refine lv_aload_n hx hb dX0_group_20 rfl (lv_at hl 0 rfl) ?_
      refine lv_iload_n hx hb dX0_group_21 rfl (lv_at hl 1 rfl) ?_
      refine lv_aload_n hx hb dX0_group_22 rfl (lv_at hl 0 rfl) ?_
      refine lv_iload_n hx hb dX0_group_23 rfl (lv_at hl 1 rfl) ?_
      refine lv_iload_n hx hb dX0_group_24 rfl (lv_at hl 2 rfl) ?_
      refine r_Vi (As := [.int (nI p1), .int (nI q1)]) (rest := [.int (nI p1), .ref o]) fx (ct_X0_sharedSet l dC dI cy o a Z X p1 q1 (by first | assumption | omega) (by first | assumption | omega)) fyX0_sharedSet tM_RX0_146 rfl rfl ⟨Nat.le_of_ble_eq_true rfl, Nat.le_of_ble_eq_true rfl⟩ (c_pre hK hP) rfl hl.1 rfl (Nat.le_of_ble_eq_true rfl) dX0_group_25 ⟨Nat.le_of_ble_eq_true rfl, Nat.le_of_ble_eq_true rfl⟩ (fun r_25 hr_25 => ?_)
      subst hr_25
      refine c_Mi (As := [.int (nI p1), .int (nI (Z 9 p1 &&& Z 9 q1 &&& cset Z))]) (rest := []) fx (ct_X0_gatherSums l dC dI cy o a Z X _ p1 (Z 9 p1 &&& Z 9 q1 &&& cset Z) hI (by first | assumption | omega) (Nat.lt_of_le_of_lt Nat.and_le_right hcs)) fyX0_gatherSums tM_RX0_155 rfl rfl ⟨Nat.le_of_ble_eq_true rfl, Nat.le_of_ble_eq_true rfl⟩ hK hP hD hS hA rfl hl.1 rfl (Nat.le_of_ble_eq_true rfl) dX0_group_28 ⟨Nat.le_of_ble_eq_true rfl, Nat.le_of_ble_eq_true rfl⟩ (fun r_28 Z_28 X_28 H locs hw_28 hP hD hS => ?_)
      try dsimp only at hw_28
      obtain ⟨rfl, ez_28, hg_28⟩ := hw_28
      rw [ez_28] at hP hD
      have hgt := gat_grp hI (show q1 < 8 by omega) hg_28
      refine lv_istore (lv' := [(4, .int (nI (gN Z p1))), (0, .ref o), (1, .int (nI p1)), (2, .int (nI q1)), (3, .int w)]) hx hb dX0_group_31 hl (by decide) rfl (fun ls hl => ?_)
      refine lv_iload_n hx hb dX0_group_33 rfl (lv_at hl 4 rfl) ?_
      by_cases e_0 : w = nI 0
      ·
        subst e_0
        refine lv_tableIn (off := 26) (tgt := 60) hx hb dX0_group_34 (by decide) (by decide) (by decide) (by decide) ?_
        refine lv_iload hx hb dX0_group_60 (lv_at hl 0 rfl) ?_
        refine lv_i2l (v := lN (gN Z p1)) hx hb dX0_group_62 (nI_l (by omega)) ?_
        refine W.lret (v := (lN (gN Z p1))) hx hb hr (fun t9 ht9 hW9 => ⟨⟨_, (Z, X_28), rfl, ?_, cE_mk ht9 hP hK hW9 hD⟩, hS.F ht9⟩) hS.2.2 dX0_group_63
        exact ⟨by rw [fGrp, if_pos ⟨i_p, i_q, by decide⟩, if_pos (show nI 0 = 0 from rfl), t_p], rfl⟩
      by_cases e_1 : w = nI 1
      ·
        subst e_1
        refine lv_tableIn (off := 30) (tgt := 64) hx hb dX0_group_34 (by decide) (by decide) (by decide) (by decide) ?_
        refine lv_aload_n hx hb dX0_group_64 rfl (lv_at hl 1 rfl) ?_
        refine lv_iload hx hb dX0_group_65 (lv_at hl 0 rfl) ?_
        refine r_Vl (As := [.int (nI (gN Z p1))]) (rest := []) fx (ct_X0_sumOfValues l dC dI cy o a Z X_28 (gN Z p1) (by first | assumption | omega) (gat_le hI hg_28)) fyX0_sumOfValues tM_RX0_158 rfl rfl ⟨Nat.le_of_ble_eq_true rfl, Nat.le_of_ble_eq_true rfl⟩ (c_pre hK hP) rfl hl.1 rfl (Nat.le_of_ble_eq_true rfl) dX0_group_67 ⟨Nat.le_of_ble_eq_true rfl, Nat.le_of_ble_eq_true rfl⟩ (fun r_67 hr_67 => ?_)
        subst hr_67
        refine W.lret (v := (lN (fb_sm (X_28 0) (gN Z p1)))) hx hb hr (fun t9 ht9 hW9 => ⟨⟨_, (Z, X_28), rfl, ?_, cE_mk ht9 hP hK hW9 hD⟩, hS.F ht9⟩) hS.2.2 dX0_group_70
        exact ⟨by rw [fGrp, if_pos ⟨i_p, i_q, by decide⟩, if_neg (show ¬ nI 1 = 0 by decide), if_pos (show nI 1 = 1 from rfl), t_p, t_q, gat_S hgt], rfl⟩
      by_cases e_2 : w = nI 2
      ·
        subst e_2
        refine lv_tableIn (off := 37) (tgt := 71) hx hb dX0_group_34 (by decide) (by decide) (by decide) (by decide) ?_
        refine lv_aload_n hx hb dX0_group_71 rfl (lv_at hl 1 rfl) ?_
        refine lv_iload hx hb dX0_group_72 (lv_at hl 0 rfl) ?_
        refine r_Vl (As := [.int (nI (gN Z p1))]) (rest := []) fx (ct_X0_awayOfValues l dC dI cy o a Z X_28 (gN Z p1) (by first | assumption | omega) (gat_le hI hg_28)) fyX0_awayOfValues tM_RX0_162 rfl rfl ⟨Nat.le_of_ble_eq_true rfl, Nat.le_of_ble_eq_true rfl⟩ (c_pre hK hP) rfl hl.1 rfl (Nat.le_of_ble_eq_true rfl) dX0_group_74 ⟨Nat.le_of_ble_eq_true rfl, Nat.le_of_ble_eq_true rfl⟩ (fun r_74 hr_74 => ?_)
        subst hr_74
        refine W.lret (v := (lN (fb_sm (fun k => dst ((gN Z p1) * X_28 0 k) (fb_sm (X_28 0) (gN Z p1))) (gN Z p1)))) hx hb hr (fun t9 ht9 hW9 => ⟨⟨_, (Z, X_28), rfl, ?_, cE_mk ht9 hP hK hW9 hD⟩, hS.F ht9⟩) hS.2.2 dX0_group_77
        exact ⟨by rw [fGrp, if_pos ⟨i_p, i_q, by decide⟩, if_neg (show ¬ nI 2 = 0 by decide), if_neg (show ¬ nI 2 = 1 by decide), t_p, t_q, gat_A hgt], rfl⟩
      have e_out := tab_out (n := 2) (by decide) (fun k hk => by rcases (show k = 0 ∨ k = 1 ∨ k = 2 by omega) with e | e | e <;> subst e <;> assumption)
      refine lv_tableOut (tgt := 78) hx hb dX0_group_34 e_out (by decide) ?_
      refine lv_ldc2 (v := -9223372036854775808) hx hb hown (hts _ (ok_of tJ_RX0_127 rfl)) dX0_group_78 ?_
      refine W.lret (v := ((-9223372036854775808))) hx hb hr (fun t9 ht9 hW9 => ⟨⟨_, (Z, X_28), rfl, ?_, cE_mk ht9 hP hK hW9 hD⟩, hS.F ht9⟩) hS.2.2 dX0_group_81
      exact ⟨by rw [fGrp, if_neg (fun h => by have h2 := h.2.2; obtain ⟨h3, h4⟩ := h2; omega)], rfl⟩

set_option maxHeartbeats 4000000 in
set_option maxRecDepth 100000 in
theorem ct_X0_border (l : Launch) (dC : Nat → ClassId) (dI : Nat → Nat → Nat) (cy : ClassId) (o : Nat) (a : Nat → Nat) (Z X : Nat → Nat → Nat) (sz : Nat) (p : Int32) (d : Int32) (hI : Inv Z) : Met l yX0_border (wS yX0_border cX0_border 10 (Option.some Jvm.ClassFile.FieldType.int)) (rmF 5 115) (va_Pc [.ref o, .int p, .int d] (cS dC dI cy o a Z X sz)) (va_Qi (fun r (u : ST × ST) => r = fBor Z p d ∧ u.1 = Z) (cE dC dI cy o a (cA cy o a Z X sz)) (cA cy o a Z X sz)) 0 0 (cA cy o a Z X sz) := by
  refine Met.ofW (cc := cX0_border) (maxL := 10) (ret := (Option.some Jvm.ClassFile.FieldType.int)) (by decide) rfl ?_
  intro pg en sv mi ag bw mt cd s₁ BL hml hv
  obtain ⟨rfl, hsz, hP, hK, hD0⟩ := hv
  have hx := BL.exec
  have hb := BL.bytes
  have hr := BL.returns
  have hts : ∀ w ∈ lw_ok, w.before _ sv = true := fun w hw => atoms_spec (ws := wS yX0_border cX0_border 10 (Option.some Jvm.ClassFile.FieldType.int)) BL.pre w (List.mem_cons_of_mem _ hw)
  have hown : sv.vm.findClass RX0 = some mi.cls := findClass_of_methodNamed BL.named
  have hlocks := BL.notSynchronized
  have fx : CallFix pg mi cd cX0_border 10 sv _ lw_ok RX0 := ⟨hx, hb, hml, hown, hts⟩
  have hl := lv_entry ([.ref o, .int p, .int d]) (n := 10) (Nat.le_of_ble_eq_true rfl)
  rw [lg_entry_eq]
  generalize (lg_sl ([.ref o, .int p, .int d]) ++ List.replicate (10 - (lg_sl ([.ref o, .int p, .int d])).length) Slot.unset).toArray = ls at hl ⊢
  replace hl : lv_has ls 10 [(0, .ref o), (1, .int p), (2, .int d)] := hl
  subst hsz
  have hD : va_D (cA cy o a Z X sv.heap.size) (cw cy o a Z X) := hD0.self (sz := sv.heap.size)
  clear hD0
  generalize hAe : cA cy o a Z X sv.heap.size = A at hD ⊢
  have hA : ∀ q : Nat, sv.heap.size ≤ q → A q := fun q h => by rw [← hAe]; exact Or.inr h
  clear hAe
  refine x_start (fun H locs eH eL => ?_)
  replace hP : va_P (dC, dI) vwCl (cw cy o a Z X) H := by rw [eH]; exact hP
  have hS : va_S A sv.heap H locs := by rw [eH, eL]; exact va_S.rf
  clear eH eL
  obtain ⟨b0, b1, b2⟩ := hI.bd
  have hcs := cset_lt hI
  refine lv_aload_n hx hb dX0_border_0 rfl (lv_at hl 0 rfl) ?_
  refine lv_iload_n hx hb dX0_border_1 rfl (lv_at hl 1 rfl) ?_
  refine r_Vi (As := [.int p]) (rest := []) fx (ct_X0_isPaper l dC dI cy o a Z X p hI) fyX0_isPaper tM_RX0_81 rfl rfl ⟨Nat.le_of_ble_eq_true rfl, Nat.le_of_ble_eq_true rfl⟩ (c_pre hK hP) rfl hl.1 rfl (Nat.le_of_ble_eq_true rfl) dX0_border_2 ⟨Nat.le_of_ble_eq_true rfl, Nat.le_of_ble_eq_true rfl⟩ (fun r_2 hr_2 => ?_)
  rcases hr_2 with ⟨rfl, hr_2⟩ | ⟨rfl, hr_2⟩
  ·
    refine x_if_ne_F (tgt := 10) hx hb (by decide) dX0_border_5 (by decide) ?_
    refine lv_iconst (v := -1) hx hb dX0_border_8 (by decide) ?_
    refine W.iret (v := (-1)) hx hb hr (fun t9 ht9 hW9 => ⟨⟨_, (Z, X), rfl, ?_, cE_mk ht9 hP hK hW9 hD⟩, hS.F ht9⟩) hS.2.2 dX0_border_9
    exact ⟨by rw [fBor, if_neg hr_2], rfl⟩
  ·
    have i_p := hr_2
    obtain ⟨p1, -, h_p1, rfl⟩ := inR_of i_p
    have t_p : tn (nI p1) = p1 := tn_nI (by omega)
    have hgl := gN_le hI p1
    have hcl := cutP_le hI (p := p1) (by omega)
    refine x_if_ne_T (tgt := 10) hx hb (by decide) dX0_border_5 (by decide) ?_
    refine lv_iload_n hx hb dX0_border_10 rfl (lv_at hl 2 rfl) ?_
    refine lv_if_ge (tgt := 17) hx hb dX0_border_11 (by decide) (fun c_11 => ?_) (fun c_11 => ?_)
    ·
      have hd0 : ¬ d < 0 := fun h => (fa_of_lt h).2.1 c_11
      obtain ⟨d1, h_d1, rfl⟩ := nI_of hd0
      have t_d : tn (nI d1) = d1 := tn_nI h_d1
      refine lv_aload_n hx hb dX0_border_17 rfl (lv_at hl 0 rfl) ?_
      refine lv_iload_n hx hb dX0_border_18 rfl (lv_at hl 1 rfl) ?_
      refine r_Vi (As := [.int (nI p1)]) (rest := []) fx (ct_X0_cutParts l dC dI cy o a Z X p1 hI (by first | assumption | omega)) fyX0_cutParts tM_RX0_181 rfl rfl ⟨Nat.le_of_ble_eq_true rfl, Nat.le_of_ble_eq_true rfl⟩ (c_pre hK hP) rfl hl.1 rfl (Nat.le_of_ble_eq_true rfl) dX0_border_19 ⟨Nat.le_of_ble_eq_true rfl, Nat.le_of_ble_eq_true rfl⟩ (fun r_19 hr_19 => ?_)
      subst hr_19
      refine lv_i2l (v := lN (cutP Z p1)) hx hb dX0_border_22 (nI_l (by omega)) ?_
      refine lv_lstore_n (lv' := [(3, .long (lN (cutP Z p1))), (0, .ref o), (1, .int (nI p1)), (2, .int (nI d1))]) hx hb dX0_border_23 rfl hl (by decide) rfl (fun ls hl => ?_)
      refine lv_iload_n hx hb dX0_border_24 rfl (lv_at hl 3 rfl) ?_
      refine lv_i2l (v := lN d1) hx hb dX0_border_25 (nI_l (by omega)) ?_
      refine lv_ldc2 (v := 840) hx hb hown (hts _ (ok_of tJ_RX0_184 rfl)) dX0_border_26 ?_
      refine W.eq (g2 := F0 mi 29 ls (.long (lN 840) :: [.long (lN d1)])) rfl ?_
      refine x_lmul hx hb dX0_border_29 ?_
      refine lv_lstore (lv' := [(5, .long (lN (d1 * 840))), (3, .long (lN (cutP Z p1))), (0, .ref o), (1, .int (nI p1)), (2, .int (nI d1))]) hx hb dX0_border_30 hl (by decide) rfl (fun ls hl => ?_)
      refine lv_aload_n hx hb dX0_border_32 rfl (lv_at hl 2 rfl) ?_
      refine lv_iload_n hx hb dX0_border_33 rfl (lv_at hl 3 rfl) ?_
      refine lv_aload_n hx hb dX0_border_34 rfl (lv_at hl 2 rfl) ?_
      refine r_Vi (As := []) (rest := [.int (nI p1), .ref o]) fx (ct_X0_countingSet l dC dI cy o a Z X ) fyX0_countingSet tM_RX0_117 rfl rfl ⟨Nat.le_of_ble_eq_true rfl, Nat.le_of_ble_eq_true rfl⟩ (c_pre hK hP) rfl hl.1 rfl (Nat.le_of_ble_eq_true rfl) dX0_border_35 ⟨Nat.le_of_ble_eq_true rfl, Nat.le_of_ble_eq_true rfl⟩ (fun r_35 hr_35 => ?_)
      subst hr_35
      refine c_Mi (As := [.int (nI p1), .int (nI (cset Z))]) (rest := []) fx (ct_X0_gatherSums l dC dI cy o a Z X _ p1 (cset Z) hI (by first | assumption | omega) (by first | assumption | omega)) fyX0_gatherSums tM_RX0_155 rfl rfl ⟨Nat.le_of_ble_eq_true rfl, Nat.le_of_ble_eq_true rfl⟩ hK hP hD hS hA rfl hl.1 rfl (Nat.le_of_ble_eq_true rfl) dX0_border_38 ⟨Nat.le_of_ble_eq_true rfl, Nat.le_of_ble_eq_true rfl⟩ (fun r_38 Z_38 X_38 H locs hw_38 hP hD hS => ?_)
      try dsimp only at hw_38
      obtain ⟨rfl, ez_38, hg_38⟩ := hw_38
      rw [ez_38] at hP hD
      have hgt := gat_tot hI hg_38
      have hle := gat_le hI hg_38
      refine lv_istore (lv' := [(7, .int (nI (gN Z p1))), (5, .long (lN (d1 * 840))), (3, .long (lN (cutP Z p1))), (0, .ref o), (1, .int (nI p1)), (2, .int (nI d1))]) hx hb dX0_border_41 hl (by decide) rfl (fun ls hl => ?_)
      refine lv_iconst (v := nI 0) hx hb dX0_border_43 (by decide) ?_
      refine lv_istore (lv' := [(8, .int (nI 0)), (7, .int (nI (gN Z p1))), (5, .long (lN (d1 * 840))), (3, .long (lN (cutP Z p1))), (0, .ref o), (1, .int (nI p1)), (2, .int (nI d1))]) hx hb dX0_border_44 hl (by decide) rfl (fun ls hl => ?_)
      refine lv_iconst (v := nI 0) hx hb dX0_border_46 (by decide) ?_
      refine lv_istore (lv' := [(9, .int (nI 0)), (8, .int (nI 0)), (7, .int (nI (gN Z p1))), (5, .long (lN (d1 * 840))), (3, .long (lN (cutP Z p1))), (0, .ref o), (1, .int (nI p1)), (2, .int (nI d1))]) hx hb dX0_border_47 hl (by decide) rfl (fun ls hl => ?_)
      obtain ⟨j, ej⟩ : ∃ j : Nat, j = 0 := ⟨_, rfl⟩
      obtain ⟨t, et⟩ : ∃ t : Nat, t = 0 := ⟨_, rfl⟩
      replace hl : lv_has ls 10 [(9, .int (nI j)), (8, .int (nI t)), (7, .int (nI (gN Z p1))), (5, .long (lN (d1 * 840))), (3, .long (lN (cutP Z p1))), (0, .ref o), (1, .int (nI p1)), (2, .int (nI d1))] := by subst ej et; exact lv_sub hl [0, 1, 2, 3, 4, 5, 6, 7] rfl
      have hj : j ≤ gN Z p1 := by subst ej et; omega
      have ht : t = fb_ct (fun k => decide (dst (X_38 0 k * 840) (cutP Z p1) ≤ d1 * 840)) j := by subst ej et; rfl
      clear ej et
      obtain ⟨n49, hn49⟩ : ∃ n_0 : Nat, gN Z p1 - j < n_0 := ⟨_, Nat.lt_succ_self _⟩
      induction n49 generalizing H locs j t ls with
      | zero => exact absurd hn49 (Nat.not_lt_zero _)
      | succ n49 ih49 =>
        refine lv_iload hx hb dX0_border_49 (lv_at hl 0 rfl) ?_
        refine lv_iload hx hb dX0_border_51 (lv_at hl 2 rfl) ?_
        refine x_icmp_ge (x := j) (y := gN Z p1) (tgt := 88) hx hb (by omega) (by omega) dX0_border_53 (by decide) (fun c_53 => ?_) (fun c_53 => ?_)
        ·
          refine lv_iload hx hb dX0_border_88 (lv_at hl 1 rfl) ?_
          refine W.iret (v := (nI t)) hx hb hr (fun t9 ht9 hW9 => ⟨⟨_, (Z, X_38), rfl, ?_, cE_mk ht9 hP hK hW9 hD⟩, hS.F ht9⟩) hS.2.2 dX0_border_90
          exact ⟨by rw [fBor, if_pos i_p, if_neg hd0, t_p, t_d, ← gat_B hgt, ht, show j = gN Z p1 by omega], rfl⟩
        ·
          have hv1 := hle j (by omega)
          refine lv_aload_n hx hb dX0_border_56 rfl (lv_at hl 5 rfl) ?_
          refine c_g15 hx hb hts hown hK hP dX0_border_57 ?_
          refine lv_iload hx hb dX0_border_60 (lv_at hl 0 rfl) ?_
          refine c_l15 (j := j) hx hb hK hP (by omega) dX0_border_62 ?_
          refine lv_sipush (v := nI 840) hx hb dX0_border_63 (by decide) ?_
          refine x_imul hx hb dX0_border_66 ?_
          refine lv_i2l (v := lN ((X_38 0 j) * 840)) hx hb dX0_border_67 (nI_l (by omega)) ?_
          refine lv_lload_n hx hb dX0_border_68 rfl (lv_at hl 4 rfl) ?_
          refine lv_lsub hx hb dX0_border_69 ?_
          refine va_mabs_long hx hb (by rw [hml]; exact hl.1.symm) hown (hts _ (ok_of tM_RX0_189 rfl)) (hts _ (ok_of tS_yJ9_abs_067f4 rfl)) (hts _ (ok_of tI_RJ9 rfl)) (hts _ (ok_of tK_yJ9_abs_067f4 rfl)) (Nat.le_of_ble_eq_true rfl) (Nat.le_of_ble_eq_true rfl) (Nat.le_of_ble_eq_true rfl) (Nat.le_of_ble_eq_true rfl) dX0_border_70 ?_
          rw [lN_dist (by omega) (by omega)]
          refine lv_lload hx hb dX0_border_73 (lv_at hl 3 rfl) ?_
          refine x_lgt (x := (lN (dst (X_38 0 j * 840) (cutP Z p1)))) (y := (lN (d1 * 840))) (tgt := 82) hx hb dX0_border_75 dX0_border_76 (by decide) (fun c_75 => ?_) (fun c_75 => ?_)
          ·
            have hds := dst_le (a := X_38 0 j * 840) (b := cutP Z p1) (c := 806400) (by omega) hcl
            have hcmp : ¬ dst (X_38 0 j * 840) (cutP Z p1) ≤ d1 * 840 := fun h => by
              have h2 := (pk_lLT (by omega) (by omega)).mp c_75
              omega
            refine lv_iinc (v := nI (j + 1)) (lv' := [(9, .int (nI (j + 1))), (8, .int (nI t)), (7, .int (nI (gN Z p1))), (5, .long (lN (d1 * 840))), (3, .long (lN (cutP Z p1))), (0, .ref o), (1, .int (nI p1)), (2, .int (nI d1))]) hx hb dX0_border_82 hl (k := 0) rfl (x_inc1 _) (by decide) rfl (fun ls hl => ?_)
            refine lv_goto (tgt := 49) hx hb dX0_border_85 (by decide) ?_
            exact ih49 (H := H) (locs := locs) (ls := ls) (j := (j + 1)) (t := t) (hl := lv_sub hl [0, 1, 2, 3, 4, 5, 6, 7] rfl) (hP := hP) (hS := hS) (hj := (by omega)) (ht := (by rw [fb_ct_succ, ← ht]; first | (rw [if_pos (decide_eq_true hcmp)]; done) | (rw [if_neg (by simpa using hcmp)]; rfl))) (hn49 := by omega)
          ·
            have hds := dst_le (a := X_38 0 j * 840) (b := cutP Z p1) (c := 806400) (by omega) hcl
            have hcmp : dst (X_38 0 j * 840) (cutP Z p1) ≤ d1 * 840 := Nat.not_lt.mp (fun h => c_75 ((pk_lLT (by omega) (by omega)).mpr h))
            refine lv_iinc (v := nI (t + 1)) (lv' := [(8, .int (nI (t + 1))), (9, .int (nI j)), (7, .int (nI (gN Z p1))), (5, .long (lN (d1 * 840))), (3, .long (lN (cutP Z p1))), (0, .ref o), (1, .int (nI p1)), (2, .int (nI d1))]) hx hb dX0_border_79 hl (k := 1) rfl (x_inc1 _) (by decide) rfl (fun ls hl => ?_)
            refine lv_iinc (v := nI (j + 1)) (lv' := [(9, .int (nI (j + 1))), (8, .int (nI (t + 1))), (7, .int (nI (gN Z p1))), (5, .long (lN (d1 * 840))), (3, .long (lN (cutP Z p1))), (0, .ref o), (1, .int (nI p1)), (2, .int (nI d1))]) hx hb dX0_border_82 hl (k := 1) rfl (x_inc1 _) (by decide) rfl (fun ls hl => ?_)
            refine lv_goto (tgt := 49) hx hb dX0_border_85 (by decide) ?_
            exact ih49 (H := H) (locs := locs) (ls := ls) (j := (j + 1)) (t := (t + 1)) (hl := lv_sub hl [0, 1, 2, 3, 4, 5, 6, 7] rfl) (hP := hP) (hS := hS) (hj := (by omega)) (ht := (by rw [fb_ct_succ, ← ht]; first | (rw [if_pos (decide_eq_true hcmp)]; done) | (rw [if_neg (by simpa using hcmp)]; rfl))) (hn49 := by omega)
    ·
      refine lv_bipush (v := -2) hx hb dX0_border_14 (by decide) ?_
      refine W.iret (v := (-2)) hx hb hr (fun t9 ht9 hW9 => ⟨⟨_, (Z, X), rfl, ?_, cE_mk ht9 hP hK hW9 hD⟩, hS.F ht9⟩) hS.2.2 dX0_border_16
      exact ⟨by rw [fBor, if_pos i_p, if_pos (fa_of_nle c_11)], rfl⟩

set_option maxHeartbeats 4000000 in
set_option maxRecDepth 100000 in
theorem ct_X0_leaky (l : Launch) (dC : Nat → ClassId) (dI : Nat → Nat → Nat) (cy : ClassId) (o : Nat) (a : Nat → Nat) (Z X : Nat → Nat → Nat) (sz : Nat) (q : Int32) (k : Int32) (b : Int32) (hI : Inv Z) : Met l yX0_leaky (wS yX0_leaky cX0_leaky 4 (Option.some Jvm.ClassFile.FieldType.int)) (rmF 5 112) (va_Pc [.ref o, .int q, .int k, .int b] (cS dC dI cy o a Z X sz)) (va_Qi (fun r (u : ST × ST) => r = fLky Z q k b ∧ u.1 = Z) (cE dC dI cy o a (cA cy o a Z X sz)) (cA cy o a Z X sz)) 0 0 (cA cy o a Z X sz) := by
  refine Met.ofW (cc := cX0_leaky) (maxL := 4) (ret := (Option.some Jvm.ClassFile.FieldType.int)) (by decide) rfl ?_
  intro pg en sv mi ag bw mt cd s₁ BL hml hv
  obtain ⟨rfl, hsz, hP, hK, hD0⟩ := hv
  have hx := BL.exec
  have hb := BL.bytes
  have hr := BL.returns
  have hts : ∀ w ∈ lw_ok, w.before _ sv = true := fun w hw => atoms_spec (ws := wS yX0_leaky cX0_leaky 4 (Option.some Jvm.ClassFile.FieldType.int)) BL.pre w (List.mem_cons_of_mem _ hw)
  have hown : sv.vm.findClass RX0 = some mi.cls := findClass_of_methodNamed BL.named
  have hlocks := BL.notSynchronized
  have fx : CallFix pg mi cd cX0_leaky 4 sv _ lw_ok RX0 := ⟨hx, hb, hml, hown, hts⟩
  have hl := lv_entry ([.ref o, .int q, .int k, .int b]) (n := 4) (Nat.le_of_ble_eq_true rfl)
  rw [lg_entry_eq]
  generalize (lg_sl ([.ref o, .int q, .int k, .int b]) ++ List.replicate (4 - (lg_sl ([.ref o, .int q, .int k, .int b])).length) Slot.unset).toArray = ls at hl ⊢
  replace hl : lv_has ls 4 [(0, .ref o), (1, .int q), (2, .int k), (3, .int b)] := hl
  subst hsz
  have hD : va_D (cA cy o a Z X sv.heap.size) (cw cy o a Z X) := hD0.self (sz := sv.heap.size)
  clear hD0
  generalize hAe : cA cy o a Z X sv.heap.size = A at hD ⊢
  have hA : ∀ q : Nat, sv.heap.size ≤ q → A q := fun q h => by rw [← hAe]; exact Or.inr h
  clear hAe
  refine x_start (fun H locs eH eL => ?_)
  replace hP : va_P (dC, dI) vwCl (cw cy o a Z X) H := by rw [eH]; exact hP
  have hS : va_S A sv.heap H locs := by rw [eH, eL]; exact va_S.rf
  clear eH eL
  obtain ⟨b0, b1, b2⟩ := hI.bd
  refine lv_aload_n hx hb dX0_leaky_0 rfl (lv_at hl 0 rfl) ?_
  refine lv_iload_n hx hb dX0_leaky_1 rfl (lv_at hl 1 rfl) ?_
  refine r_Vi (As := [.int q]) (rest := []) fx (ct_X0_isQuestion l dC dI cy o a Z X q hI) fyX0_isQuestion tM_RX0_68 rfl rfl ⟨Nat.le_of_ble_eq_true rfl, Nat.le_of_ble_eq_true rfl⟩ (c_pre hK hP) rfl hl.1 rfl (Nat.le_of_ble_eq_true rfl) dX0_leaky_2 ⟨Nat.le_of_ble_eq_true rfl, Nat.le_of_ble_eq_true rfl⟩ (fun r_2 hr_2 => ?_)
  rcases hr_2 with ⟨rfl, hr_2⟩ | ⟨rfl, hr_2⟩
  ·
    refine x_if_eq_T (tgt := 15) hx hb (by decide) dX0_leaky_5 (by decide) ?_
    refine lv_iconst (v := -1) hx hb dX0_leaky_15 (by decide) ?_
    refine W.iret (v := (-1)) hx hb hr (fun t9 ht9 hW9 => ⟨⟨_, (Z, X), rfl, ?_, cE_mk ht9 hP hK hW9 hD⟩, hS.F ht9⟩) hS.2.2 dX0_leaky_16
    first
    | exact ⟨by rw [fLky, if_neg (fun h => hr_2 h.1)], rfl⟩
    | exact ⟨by rw [fLky, if_neg (fun h => hr_9 h.2)], rfl⟩
  ·
    have i_q := hr_2
    obtain ⟨q1, -, h_q1, rfl⟩ := inR_of i_q
    have t_q : tn (nI q1) = q1 := tn_nI (by omega)
    refine x_if_eq_F (tgt := 15) hx hb (by decide) dX0_leaky_5 (by decide) ?_
    refine lv_iload_n hx hb dX0_leaky_8 rfl (lv_at hl 2 rfl) ?_
    refine r_Si (As := [.int k]) (rest := []) fx (ct_X0_isPlace l k) fyX0_isPlace tM_RX0_87 rfl rfl ⟨Nat.le_of_ble_eq_true rfl, Nat.le_of_ble_eq_true rfl⟩ rfl hl.1 rfl (Nat.le_of_ble_eq_true rfl) dX0_leaky_9 ⟨Nat.le_of_ble_eq_true rfl, Nat.le_of_ble_eq_true rfl⟩ (fun r_9 hr_9 => ?_)
    rcases hr_9 with ⟨rfl, hr_9⟩ | ⟨rfl, hr_9⟩
    ·
      refine x_if_ne_F (tgt := 17) hx hb (by decide) dX0_leaky_12 (by decide) ?_
      refine lv_iconst (v := -1) hx hb dX0_leaky_15 (by decide) ?_
      refine W.iret (v := (-1)) hx hb hr (fun t9 ht9 hW9 => ⟨⟨_, (Z, X), rfl, ?_, cE_mk ht9 hP hK hW9 hD⟩, hS.F ht9⟩) hS.2.2 dX0_leaky_16
      first
      | exact ⟨by rw [fLky, if_neg (fun h => hr_2 h.1)], rfl⟩
      | exact ⟨by rw [fLky, if_neg (fun h => hr_9 h.2)], rfl⟩
    ·
      have i_k := hr_9
      obtain ⟨k1, -, h_k1, rfl⟩ := inR_of i_k
      have t_k : tn (nI k1) = k1 := tn_nI (by omega)
      refine x_if_ne_T (tgt := 17) hx hb (by decide) dX0_leaky_12 (by decide) ?_
      refine lv_iload_n hx hb dX0_leaky_17 rfl (lv_at hl 3 rfl) ?_
      refine r_Si (As := [.int b]) (rest := []) fx (ct_X0_isBar l b) fyX0_isBar tM_RX0_136 rfl rfl ⟨Nat.le_of_ble_eq_true rfl, Nat.le_of_ble_eq_true rfl⟩ rfl hl.1 rfl (Nat.le_of_ble_eq_true rfl) dX0_leaky_18 ⟨Nat.le_of_ble_eq_true rfl, Nat.le_of_ble_eq_true rfl⟩ (fun r_18 hr_18 => ?_)
      rcases hr_18 with ⟨rfl, hr_18⟩ | ⟨rfl, hr_18⟩
      ·
        refine x_if_ne_F (tgt := 27) hx hb (by decide) dX0_leaky_21 (by decide) ?_
        refine lv_bipush (v := -2) hx hb dX0_leaky_24 (by decide) ?_
        refine W.iret (v := (-2)) hx hb hr (fun t9 ht9 hW9 => ⟨⟨_, (Z, X), rfl, ?_, cE_mk ht9 hP hK hW9 hD⟩, hS.F ht9⟩) hS.2.2 dX0_leaky_26
        exact ⟨by rw [fLky, if_pos ⟨i_q, i_k⟩, if_neg hr_18], rfl⟩
      ·
        have i_b := hr_18
        obtain ⟨b9, -, h_b9, rfl⟩ := inR_of i_b
        have t_b : tn (nI b9) = b9 := tn_nI (by omega)
        refine x_if_ne_T (tgt := 27) hx hb (by decide) dX0_leaky_21 (by decide) ?_
        refine lv_aload_n hx hb dX0_leaky_27 rfl (lv_at hl 0 rfl) ?_
        refine lv_iload_n hx hb dX0_leaky_28 rfl (lv_at hl 1 rfl) ?_
        refine c_Mv (As := [.int (nI q1)]) (rest := []) fx (ct_X0_tallyPlaces l dC dI cy o a Z X _ q1 hI (by first | assumption | omega)) fyX0_tallyPlaces tM_RX0_139 rfl rfl ⟨Nat.le_of_ble_eq_true rfl, Nat.le_of_ble_eq_true rfl⟩ hK hP hD hS hA rfl hl.1 rfl (Nat.le_of_ble_eq_true rfl) dX0_leaky_29 ⟨Nat.le_of_ble_eq_true rfl, Nat.le_of_ble_eq_true rfl⟩ (fun Z_29 X_29 H locs hw_29 hP hD hS => ?_)
        try dsimp only at hw_29
        obtain ⟨ez_29, ht_29⟩ := hw_29
        rw [ez_29] at hP hD
        refine lv_aload_n hx hb dX0_leaky_32 rfl (lv_at hl 0 rfl) ?_
        refine lv_iload_n hx hb dX0_leaky_33 rfl (lv_at hl 2 rfl) ?_
        refine lv_iload_n hx hb dX0_leaky_34 rfl (lv_at hl 3 rfl) ?_
        refine r_Vi (As := [.int (nI k1), .int (nI b9)]) (rest := []) fx (ct_X0_isLeakyByTally l dC dI cy o a Z X_29 k1 b9 (by first | assumption | omega) (by first | assumption | omega) (tal_X ht_29 hI)) fyX0_isLeakyByTally tM_RX0_143 rfl rfl ⟨Nat.le_of_ble_eq_true rfl, Nat.le_of_ble_eq_true rfl⟩ (c_pre hK hP) rfl hl.1 rfl (Nat.le_of_ble_eq_true rfl) dX0_leaky_35 ⟨Nat.le_of_ble_eq_true rfl, Nat.le_of_ble_eq_true rfl⟩ (fun r_35 hr_35 => ?_)
        rcases hr_35 with ⟨rfl, hr_35⟩ | ⟨rfl, hr_35⟩
        ·
          refine x_if_eq_T (tgt := 45) hx hb (by decide) dX0_leaky_38 (by decide) ?_
          refine lv_iconst (v := nI 0) hx hb dX0_leaky_45 (by decide) ?_
          refine W.iret (v := (nI 0)) hx hb hr (fun t9 ht9 hW9 => ⟨⟨_, (Z, X_29), rfl, ?_, cE_mk ht9 hP hK hW9 hD⟩, hS.F ht9⟩) hS.2.2 dX0_leaky_46
          refine ⟨?_, rfl⟩
          rw [fLky, if_pos ⟨i_q, i_k⟩, if_pos i_b, t_q, t_k, t_b]
          first
          | (rw [if_pos ((tal_lk ht_29 h_k1).mp hr_35)]; rfl)
          | (rw [if_neg (fun h => hr_35 ((tal_lk ht_29 h_k1).mpr h))]; rfl)
        ·
          refine x_if_eq_F (tgt := 45) hx hb (by decide) dX0_leaky_38 (by decide) ?_
          refine lv_iconst (v := nI 1) hx hb dX0_leaky_41 (by decide) ?_
          refine lv_goto (tgt := 46) hx hb dX0_leaky_42 (by decide) ?_
          refine W.iret (v := (nI 1)) hx hb hr (fun t9 ht9 hW9 => ⟨⟨_, (Z, X_29), rfl, ?_, cE_mk ht9 hP hK hW9 hD⟩, hS.F ht9⟩) hS.2.2 dX0_leaky_46
          refine ⟨?_, rfl⟩
          rw [fLky, if_pos ⟨i_q, i_k⟩, if_pos i_b, t_q, t_k, t_b]
          first
          | (rw [if_pos ((tal_lk ht_29 h_k1).mp hr_35)]; rfl)
          | (rw [if_neg (fun h => hr_35 ((tal_lk ht_29 h_k1).mpr h))]; rfl)

set_option maxHeartbeats 4000000 in
set_option maxRecDepth 100000 in
theorem ct_X0_easy (l : Launch) (dC : Nat → ClassId) (dI : Nat → Nat → Nat) (cy : ClassId) (o : Nat) (a : Nat → Nat) (Z X : Nat → Nat → Nat) (q : Int32) (w : Int32) (hI : Inv Z) : Met l yX0_easy (wS yX0_easy cX0_easy 9 (Option.some Jvm.ClassFile.FieldType.long)) (rmF 4 89) (va_Pc [.ref o, .int q, .int w] (cR dC dI cy o a Z X)) (vp_Sl (fun r => r = fEas Z q w)) 0 0 (fun _ => False) := by
  refine Met.ofW (cc := cX0_easy) (maxL := 9) (ret := (Option.some Jvm.ClassFile.FieldType.long)) (by decide) rfl ?_
  intro pg en sv mi ag bw mt cd s₁ BL hml hv
  obtain ⟨rfl, hP, hK⟩ := hv
  have hx := BL.exec
  have hb := BL.bytes
  have hr := BL.returns
  have hts : ∀ w ∈ lw_ok, w.before _ sv = true := fun w hw => atoms_spec (ws := wS yX0_easy cX0_easy 9 (Option.some Jvm.ClassFile.FieldType.long)) BL.pre w (List.mem_cons_of_mem _ hw)
  have hown : sv.vm.findClass RX0 = some mi.cls := findClass_of_methodNamed BL.named
  have hlocks := BL.notSynchronized
  have fx : CallFix pg mi cd cX0_easy 9 sv _ lw_ok RX0 := ⟨hx, hb, hml, hown, hts⟩
  have hl := lv_entry ([.ref o, .int q, .int w]) (n := 9) (Nat.le_of_ble_eq_true rfl)
  rw [lg_entry_eq]
  generalize (lg_sl ([.ref o, .int q, .int w]) ++ List.replicate (9 - (lg_sl ([.ref o, .int q, .int w])).length) Slot.unset).toArray = ls at hl ⊢
  replace hl : lv_has ls 9 [(0, .ref o), (1, .int q), (2, .int w)] := hl
  obtain ⟨b0, b1, b2⟩ := hI.bd
  refine lv_aload_n hx hb dX0_easy_0 rfl (lv_at hl 0 rfl) ?_
  refine lv_iload_n hx hb dX0_easy_1 rfl (lv_at hl 1 rfl) ?_
  refine r_Vi (As := [.int q]) (rest := []) fx (ct_X0_isQuestion l dC dI cy o a Z X q hI) fyX0_isQuestion tM_RX0_68 rfl rfl ⟨Nat.le_of_ble_eq_true rfl, Nat.le_of_ble_eq_true rfl⟩ (c_pre hK hP) rfl hl.1 rfl (Nat.le_of_ble_eq_true rfl) dX0_easy_2 ⟨Nat.le_of_ble_eq_true rfl, Nat.le_of_ble_eq_true rfl⟩ (fun r_2 hr_2 => ?_)
  rcases hr_2 with ⟨rfl, hr_2⟩ | ⟨rfl, hr_2⟩
  ·
    refine x_if_eq_T (tgt := 15) hx hb (by decide) dX0_easy_5 (by decide) ?_
    refine lv_ldc2 (v := -9223372036854775808) hx hb hown (hts _ (ok_of tJ_RX0_127 rfl)) dX0_easy_15 ?_
    refine W.lret (v := ((-9223372036854775808))) hx hb hr (fun t9 ht9 hW9 => ⟨_, rfl, ?_, ht9⟩) (fun q h => by cases h) dX0_easy_18
    first
    | (rw [fEas, if_neg (fun h => hr_2 h.1)]; done)
    | (rw [fEas, if_neg (fun h => hr_9 h.2)]; done)
    | (rw [fEas, if_pos ⟨i_q, i_w⟩, t_q, if_pos hn0, ← prt_eq (by decide) (by decide)]; rfl)
    | (rw [fEas, if_pos ⟨i_q, i_w⟩, t_q, if_neg hn0, hn2, hm2, Nat.mul_comm]; done)
  ·
    have i_q := hr_2
    obtain ⟨q1, -, h_q1, rfl⟩ := inR_of i_q
    have t_q : tn (nI q1) = q1 := tn_nI (by omega)
    have hqq := hI.q h_q1
    have hen := eN_le hI q1
    refine x_if_eq_F (tgt := 15) hx hb (by decide) dX0_easy_5 (by decide) ?_
    refine lv_iload_n hx hb dX0_easy_8 rfl (lv_at hl 2 rfl) ?_
    refine r_Si (As := [.int w]) (rest := []) fx (ct_X0_isPart l w) fyX0_isPart tM_RX0_124 rfl rfl ⟨Nat.le_of_ble_eq_true rfl, Nat.le_of_ble_eq_true rfl⟩ rfl hl.1 rfl (Nat.le_of_ble_eq_true rfl) dX0_easy_9 ⟨Nat.le_of_ble_eq_true rfl, Nat.le_of_ble_eq_true rfl⟩ (fun r_9 hr_9 => ?_)
    rcases hr_9 with ⟨rfl, hr_9⟩ | ⟨rfl, hr_9⟩
    ·
      refine x_if_ne_F (tgt := 19) hx hb (by decide) dX0_easy_12 (by decide) ?_
      refine lv_ldc2 (v := -9223372036854775808) hx hb hown (hts _ (ok_of tJ_RX0_127 rfl)) dX0_easy_15 ?_
      refine W.lret (v := ((-9223372036854775808))) hx hb hr (fun t9 ht9 hW9 => ⟨_, rfl, ?_, ht9⟩) (fun q h => by cases h) dX0_easy_18
      first
      | (rw [fEas, if_neg (fun h => hr_2 h.1)]; done)
      | (rw [fEas, if_neg (fun h => hr_9 h.2)]; done)
      | (rw [fEas, if_pos ⟨i_q, i_w⟩, t_q, if_pos hn0, ← prt_eq (by decide) (by decide)]; rfl)
      | (rw [fEas, if_pos ⟨i_q, i_w⟩, t_q, if_neg hn0, hn2, hm2, Nat.mul_comm]; done)
    ·
      have i_w := hr_9
      refine x_if_ne_T (tgt := 19) hx hb (by decide) dX0_easy_12 (by decide) ?_
      refine lv_lconst (v := lN 0) hx hb dX0_easy_19 (by decide) ?_
      refine lv_lstore_n (lv' := [(3, .long (lN 0)), (0, .ref o), (1, .int (nI q1)), (2, .int w)]) hx hb dX0_easy_20 rfl hl (by decide) rfl (fun ls hl => ?_)
      refine lv_lconst (v := lN 0) hx hb dX0_easy_21 (by decide) ?_
      refine lv_lstore (lv' := [(5, .long (lN 0)), (3, .long (lN 0)), (0, .ref o), (1, .int (nI q1)), (2, .int w)]) hx hb dX0_easy_22 hl (by decide) rfl (fun ls hl => ?_)
      refine lv_iconst (v := nI 0) hx hb dX0_easy_24 (by decide) ?_
      refine lv_istore (lv' := [(7, .int (nI 0)), (5, .long (lN 0)), (3, .long (lN 0)), (0, .ref o), (1, .int (nI q1)), (2, .int w)]) hx hb dX0_easy_25 hl (by decide) rfl (fun ls hl => ?_)
      obtain ⟨j, ej⟩ : ∃ j : Nat, j = 0 := ⟨_, rfl⟩
      obtain ⟨n, en⟩ : ∃ n : Nat, n = 0 := ⟨_, rfl⟩
      obtain ⟨t, et⟩ : ∃ t : Nat, t = 0 := ⟨_, rfl⟩
      replace hl : lv_has ls 9 [(7, .int (nI j)), (5, .long (lN t)), (3, .long (lN n)), (0, .ref o), (1, .int (nI q1)), (2, .int w)] := by subst ej en et; exact lv_sub hl [0, 1, 2, 3, 4, 5] rfl
      have hj : j ≤ Z 0 2 := by subst ej en et; omega
      have hn : n = fb_ct (cqB Z q1) j := by subst ej en et; rfl
      have hm : t = fb_sm (fun u => if cqB Z q1 u then mkq Z q1 u else 0) j := by subst ej en et; rfl
      have hmb : t ≤ 60 * 120 := by subst ej en et; omega
      have hm10 : t ≤ j * 10 := by subst ej en et; omega
      clear ej en et
      obtain ⟨n27, hn27⟩ : ∃ n_0 : Nat, Z 0 2 - j < n_0 := ⟨_, Nat.lt_succ_self _⟩
      induction n27 generalizing j n t ls with
      | zero => exact absurd hn27 (Nat.not_lt_zero _)
      | succ n27 ih27 =>
        refine lv_iload hx hb dX0_easy_27 (lv_at hl 0 rfl) ?_
        refine lv_aload_n hx hb dX0_easy_29 rfl (lv_at hl 3 rfl) ?_
        refine c_g2 hx hb hts hown hK hP dX0_easy_30 ?_
        refine x_icmp_ge (x := j) (y := Z 0 2) (tgt := 75) hx hb (by omega) (by omega) dX0_easy_33 (by decide) (fun c_33 => ?_) (fun c_33 => ?_)
        ·
          obtain rfl : j = Z 0 2 := by omega
          have hn2 : n = eN Z q1 := hn
          have hm2 : t = eS Z q1 := hm
          have hesl : eS Z q1 ≤ 60 * 120 := by rw [← hm2]; exact hmb
          refine lv_lload_n hx hb dX0_easy_75 rfl (lv_at hl 2 rfl) ?_
          refine lv_lconst (v := lN 0) hx hb dX0_easy_76 (by decide) ?_
          refine x_lne (x := (lN n)) (y := (lN 0)) (tgt := 90) hx hb dX0_easy_77 dX0_easy_78 (by decide) (fun c_77 => ?_) (fun c_77 => ?_)
          ·
            have hn0 : ¬ eN Z q1 = 0 := fun h => c_77 (by rw [hn2, h])
            have hmu := Nat.mul_le_mul hqq.2.2.1 hen
            refine lv_lload hx hb dX0_easy_90 (lv_at hl 1 rfl) ?_
            refine lv_aload_n hx hb dX0_easy_92 rfl (lv_at hl 3 rfl) ?_
            refine c_g6 hx hb hts hown hK hP dX0_easy_93 ?_
            refine lv_iload_n hx hb dX0_easy_96 rfl (lv_at hl 4 rfl) ?_
            refine c_l6 (j := q1) hx hb hK hP (by omega) dX0_easy_97 ?_
            refine lv_i2l (v := lN (Z 6 q1)) hx hb dX0_easy_98 (nI_l (by omega)) ?_
            refine lv_lload_n hx hb dX0_easy_99 rfl (lv_at hl 2 rfl) ?_
            refine x_lmul hx hb dX0_easy_100 ?_
            refine lv_iload_n hx hb dX0_easy_101 rfl (lv_at hl 5 rfl) ?_
            refine r_Sl (As := [.long (lN t), .long (lN ((Z 6 q1) * n)), .int w]) (rest := []) fx (ct_X0_fraction l ((lN t)) ((Z 6 q1) * n) w (lN_tI (by omega)) (Nat.mul_pos (by omega) (by omega)) (by rw [hn2]; omega)) fyX0_fraction tM_RX0_132 rfl rfl ⟨Nat.le_of_ble_eq_true rfl, Nat.le_of_ble_eq_true rfl⟩ rfl hl.1 rfl (Nat.le_of_ble_eq_true rfl) dX0_easy_102 ⟨Nat.le_of_ble_eq_true rfl, Nat.le_of_ble_eq_true rfl⟩ (fun r_102 hr_102 => ?_)
            subst hr_102
            refine W.lret (v := (frc ((lN t)) ((Z 6 q1) * n) w)) hx hb hr (fun t9 ht9 hW9 => ⟨_, rfl, ?_, ht9⟩) (fun q h => by cases h) dX0_easy_105
            first
            | (rw [fEas, if_neg (fun h => hr_2 h.1)]; done)
            | (rw [fEas, if_neg (fun h => hr_9 h.2)]; done)
            | (rw [fEas, if_pos ⟨i_q, i_w⟩, t_q, if_pos hn0, ← prt_eq (by decide) (by decide)]; rfl)
            | (rw [fEas, if_pos ⟨i_q, i_w⟩, t_q, if_neg hn0, hn2, hm2, Nat.mul_comm]; done)
          ·
            have hn0 : eN Z q1 = 0 := by rw [← hn2]; exact (pk_lEQ (by omega) (by decide)).mp c_77
            refine lv_lconst (v := lN 0) hx hb dX0_easy_81 (by decide) ?_
            refine lv_lconst (v := lN 1) hx hb dX0_easy_82 (by decide) ?_
            refine lv_iload_n hx hb dX0_easy_83 rfl (lv_at hl 5 rfl) ?_
            refine r_Sl (As := [.long (lN 0), .long (lN 1), .int w]) (rest := []) fx (ct_X0_fraction l ((lN 0)) 1 w (lN_tI (by omega)) (by decide) (by decide)) fyX0_fraction tM_RX0_132 rfl rfl ⟨Nat.le_of_ble_eq_true rfl, Nat.le_of_ble_eq_true rfl⟩ rfl hl.1 rfl (Nat.le_of_ble_eq_true rfl) dX0_easy_84 ⟨Nat.le_of_ble_eq_true rfl, Nat.le_of_ble_eq_true rfl⟩ (fun r_84 hr_84 => ?_)
            subst hr_84
            refine lv_goto (tgt := 105) hx hb dX0_easy_87 (by decide) ?_
            refine W.lret (v := (frc ((lN 0)) 1 w)) hx hb hr (fun t9 ht9 hW9 => ⟨_, rfl, ?_, ht9⟩) (fun q h => by cases h) dX0_easy_105
            first
            | (rw [fEas, if_neg (fun h => hr_2 h.1)]; done)
            | (rw [fEas, if_neg (fun h => hr_9 h.2)]; done)
            | (rw [fEas, if_pos ⟨i_q, i_w⟩, t_q, if_pos hn0, ← prt_eq (by decide) (by decide)]; rfl)
            | (rw [fEas, if_pos ⟨i_q, i_w⟩, t_q, if_neg hn0, hn2, hm2, Nat.mul_comm]; done)
        ·
          have hpu := hI.pu (u := j) (by omega)
          have hsz := hI.sz (p := Z 11 j) (by omega)
          refine lv_aload_n hx hb dX0_easy_36 rfl (lv_at hl 3 rfl) ?_
          refine lv_iload hx hb dX0_easy_37 (lv_at hl 0 rfl) ?_
          refine lv_iload_n hx hb dX0_easy_39 rfl (lv_at hl 4 rfl) ?_
          refine r_Vi (As := [.int (nI j), .int (nI q1)]) (rest := []) fx (ct_X0_spotComeTo l dC dI cy o a Z X j q1 hI (by first | assumption | omega) (by first | assumption | omega)) fyX0_spotComeTo tM_RX0_129 rfl rfl ⟨Nat.le_of_ble_eq_true rfl, Nat.le_of_ble_eq_true rfl⟩ (c_pre hK hP) rfl hl.1 rfl (Nat.le_of_ble_eq_true rfl) dX0_easy_40 ⟨Nat.le_of_ble_eq_true rfl, Nat.le_of_ble_eq_true rfl⟩ (fun r_40 hr_40 => ?_)
          rcases hr_40 with ⟨rfl, hs_40⟩ | ⟨i_40, hi_40, hs_40, hq_40, hc_40, rfl⟩
          ·
            refine lv_istore (lv' := [(8, .int (-1)), (7, .int (nI j)), (5, .long (lN t)), (3, .long (lN n)), (0, .ref o), (1, .int (nI q1)), (2, .int w)]) hx hb dX0_easy_43 hl (by decide) rfl (fun ls hl => ?_)
            refine lv_iload hx hb dX0_easy_45 (lv_at hl 0 rfl) ?_
            refine lv_iconst (v := -1) hx hb dX0_easy_47 (by decide) ?_
            refine x_icmp_eq_T (tgt := 69) hx hb (by decide) dX0_easy_48 (by decide) ?_
            refine lv_iinc (v := nI (j + 1)) (lv' := [(7, .int (nI (j + 1))), (8, .int (-1)), (5, .long (lN t)), (3, .long (lN n)), (0, .ref o), (1, .int (nI q1)), (2, .int w)]) hx hb dX0_easy_69 hl (k := 1) rfl (x_inc1 _) (by decide) rfl (fun ls hl => ?_)
            refine lv_goto (tgt := 27) hx hb dX0_easy_72 (by decide) ?_
            exact ih27 ls (j + 1) n t (lv_sub hl [0, 2, 3, 4, 5, 6] rfl) (by omega) (by rw [fb_ct_succ, ← hn]; first | (rw [cqB_t hcq]; rfl) | (rw [cqB_f hs_40]; rfl)) (by rw [fb_sm_succ, ← hm]; first | (rw [cqB_t hcq, hme]; rfl) | (rw [cqB_f hs_40]; rfl)) (by first | omega | (have h7 : t ≤ j * 10 := hm10; omega)) (by omega) (by omega)
          ·
            have hcq : cqP Z q1 j := ⟨by omega, by rw [hs_40]; exact hc_40⟩
            have hmk := mrk_le hI (u := j) (i := i_40) (by omega) hi_40
            have hme : mkq Z q1 j = mrk Z j i_40 := by rw [mkq, hs_40]
            refine lv_istore (lv' := [(8, .int (nI i_40)), (7, .int (nI j)), (5, .long (lN t)), (3, .long (lN n)), (0, .ref o), (1, .int (nI q1)), (2, .int w)]) hx hb dX0_easy_43 hl (by decide) rfl (fun ls hl => ?_)
            refine lv_iload hx hb dX0_easy_45 (lv_at hl 0 rfl) ?_
            refine lv_iconst (v := -1) hx hb dX0_easy_47 (by decide) ?_
            refine x_icmp_eq_F (tgt := 69) hx hb (nI_ne_m1 (by omega)) dX0_easy_48 (by decide) ?_
            refine lv_lload_n hx hb dX0_easy_51 rfl (lv_at hl 3 rfl) ?_
            refine lv_lconst (v := lN 1) hx hb dX0_easy_52 (by decide) ?_
            refine x_ladd hx hb dX0_easy_53 ?_
            refine lv_lstore_n (lv' := [(3, .long (lN (n + 1))), (8, .int (nI i_40)), (7, .int (nI j)), (5, .long (lN t)), (0, .ref o), (1, .int (nI q1)), (2, .int w)]) hx hb dX0_easy_54 rfl hl (by decide) rfl (fun ls hl => ?_)
            refine lv_lload hx hb dX0_easy_55 (lv_at hl 3 rfl) ?_
            refine lv_aload_n hx hb dX0_easy_57 rfl (lv_at hl 4 rfl) ?_
            refine lv_iload hx hb dX0_easy_58 (lv_at hl 2 rfl) ?_
            refine lv_iload hx hb dX0_easy_60 (lv_at hl 1 rfl) ?_
            refine r_Vi (As := [.int (nI j), .int (nI i_40)]) (rest := [.long (lN t)]) fx (ct_X0_markAt l dC dI cy o a Z X j i_40 hI (by first | assumption | omega) (by first | assumption | omega)) fyX0_markAt tM_RX0_111 rfl rfl ⟨Nat.le_of_ble_eq_true rfl, Nat.le_of_ble_eq_true rfl⟩ (c_pre hK hP) rfl hl.1 rfl (Nat.le_of_ble_eq_true rfl) dX0_easy_62 ⟨Nat.le_of_ble_eq_true rfl, Nat.le_of_ble_eq_true rfl⟩ (fun r_62 hr_62 => ?_)
            subst hr_62
            refine lv_i2l (v := lN (mrk Z j i_40)) hx hb dX0_easy_65 (nI_l (by omega)) ?_
            refine x_ladd hx hb dX0_easy_66 ?_
            refine lv_lstore (lv' := [(5, .long (lN (t + (mrk Z j i_40)))), (3, .long (lN (n + 1))), (8, .int (nI i_40)), (7, .int (nI j)), (0, .ref o), (1, .int (nI q1)), (2, .int w)]) hx hb dX0_easy_67 hl (by decide) rfl (fun ls hl => ?_)
            refine lv_iinc (v := nI (j + 1)) (lv' := [(7, .int (nI (j + 1))), (5, .long (lN (t + (mrk Z j i_40)))), (3, .long (lN (n + 1))), (8, .int (nI i_40)), (0, .ref o), (1, .int (nI q1)), (2, .int w)]) hx hb dX0_easy_69 hl (k := 3) rfl (x_inc1 _) (by decide) rfl (fun ls hl => ?_)
            refine lv_goto (tgt := 27) hx hb dX0_easy_72 (by decide) ?_
            exact ih27 ls (j + 1) (n + 1) (t + (mrk Z j i_40)) (lv_sub hl [0, 1, 2, 4, 5, 6] rfl) (by omega) (by rw [fb_ct_succ, ← hn]; first | (rw [cqB_t hcq]; rfl) | (rw [cqB_f hs_40]; rfl)) (by rw [fb_sm_succ, ← hm]; first | (rw [cqB_t hcq, hme]; rfl) | (rw [cqB_f hs_40]; rfl)) (by first | omega | (have h7 : t ≤ j * 10 := hm10; omega)) (by omega) (by omega)
