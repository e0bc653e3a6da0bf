set_option maxHeartbeats 4000000 in
set_option maxRecDepth 100000 in
theorem ct_X1_key (l : Launch) (dC : Nat → ClassId) (dI : Nat → Nat → Nat) (cy cz : ClassId) (o : Nat) (a : Nat → Nat) (Z : Nat → Nat → Nat) (G T K : Nat → Nat) (sz : Nat) (q : Int32) (k : Int32) (hI : Inv Z) (hR : MRel Z G T K) : Met l yX1_key (wS yX1_key cX1_key 4 (Option.some Jvm.ClassFile.FieldType.int)) (rmF 2 44) (va_Pc [.ref o, .int q, .int k] (mS dC dI cy cz o a Z G T K sz)) (va_Qi (fun r (uu : MT) => r = fKey Z q k ∧ mwE uu.1 (sKey Z q k) ∧ MRel (sKey Z q k) uu.2.1 uu.2.2.1 uu.2.2.2) (mE dC dI cy cz o a (mA cy cz o a Z G T K sz)) (mA cy cz o a Z G T K sz)) 0 0 (mA cy cz o a Z G T K sz) := by
  refine Met.ofW (cc := cX1_key) (maxL := 4) (ret := (Option.some Jvm.ClassFile.FieldType.int)) (by decide) rfl ?_
  intro pg en sv mi ag bw mt cd s₁ BL hml hv
  obtain ⟨rfl, hsz, hP, hK, hD0⟩ := hv
  have hx := BL.exec
  have hb := BL.bytes
  have hr := BL.returns
  have hts : ∀ w ∈ lw_ok, w.before _ sv = true := fun w hw => atoms_spec (ws := wS yX1_key cX1_key 4 (Option.some Jvm.ClassFile.FieldType.int)) BL.pre w (List.mem_cons_of_mem _ hw)
  have hown : sv.vm.findClass RX1 = some mi.cls := findClass_of_methodNamed BL.named
  have hlocks := BL.notSynchronized
  have fx : CallFix pg mi cd cX1_key 4 sv _ lw_ok RX1 := ⟨hx, hb, hml, hown, hts⟩
  have hl := lv_entry ([.ref o, .int q, .int k]) (n := 4) (Nat.le_of_ble_eq_true rfl)
  rw [lg_entry_eq]
  generalize (lg_sl ([.ref o, .int q, .int k]) ++ List.replicate (4 - (lg_sl ([.ref o, .int q, .int k])).length) Slot.unset).toArray = ls at hl ⊢
  replace hl : lv_has ls 4 [(0, .ref o), (1, .int q), (2, .int k)] := hl
  subst hsz
  have hD : va_D (mA cy cz o a Z G T K sv.heap.size) (mw cy cz o a Z G T K) := hD0.self (sz := sv.heap.size)
  clear hD0
  generalize hAe : mA cy cz o a Z G T K sv.heap.size = A at hD ⊢
  have hA : ∀ q : Nat, sv.heap.size ≤ q → A q := fun q h => by rw [← hAe]; exact Or.inr h
  clear hAe
  refine x_start (fun H locs eH eL => ?_)
  replace hP : va_P (dC, dI) vwCl (mw cy cz o a Z G T K) H := by rw [eH]; exact hP
  have hS : va_S A sv.heap H locs := by rw [eH, eL]; exact va_S.rf
  clear eH eL
  obtain ⟨b0, b1, b2⟩ := hI.bd
  refine lv_aload_n hx hb dX1_key_0 rfl (lv_at hl 0 rfl) ?_
  refine lv_iload_n hx hb dX1_key_1 rfl (lv_at hl 1 rfl) ?_
  refine r_Vi (As := [.int q]) (rest := []) fx (ct_X1_isQuestion l dC dI cy cz o a Z G T K q hI) fyX1_isQuestion tM_RX1_59 rfl rfl ⟨Nat.le_of_ble_eq_true rfl, Nat.le_of_ble_eq_true rfl⟩ (m_pre hK hP) rfl hl.1 rfl (Nat.le_of_ble_eq_true rfl) dX1_key_2 ⟨Nat.le_of_ble_eq_true rfl, Nat.le_of_ble_eq_true rfl⟩ (fun r_2 hr_2 => ?_)
  rcases hr_2 with ⟨rfl, hr_2⟩ | ⟨rfl, hr_2⟩
  ·
    refine x_if_ne_F (tgt := 10) hx hb (by decide) dX1_key_5 (by decide) ?_
    refine lv_iconst (v := -1) hx hb dX1_key_8 (by decide) ?_
    refine W.iret (v := (-1)) hx hb hr (fun t9 ht9 hW9 => ⟨⟨_, (Z, G, T, K), rfl, ?_, mE_mk ht9 hP hK hW9 hD⟩, hS.F ht9⟩) hS.2.2 dX1_key_9
    refine ⟨by rw [fKey, if_neg hr_2], ?_⟩
    rw [sKey, if_neg (fun h => hr_2 h.1)]
    exact ⟨mwE.rf _, hR⟩
  ·
    have i_q := hr_2
    obtain ⟨q1, -, h_q1, rfl⟩ := inR_of i_q
    have t_q : tn (nI q1) = q1 := tn_nI (by omega)
    have hqq := hI.q h_q1
    refine x_if_ne_T (tgt := 10) hx hb (by decide) dX1_key_5 (by decide) ?_
    refine lv_aload_n hx hb dX1_key_10 rfl (lv_at hl 0 rfl) ?_
    refine lv_iload_n hx hb dX1_key_11 rfl (lv_at hl 2 rfl) ?_
    refine lv_iconst (v := nI 1) hx hb dX1_key_12 (by decide) ?_
    refine lv_sipush (v := nI 255) hx hb dX1_key_13 (by decide) ?_
    refine r_Vi (As := [.int k, .int (nI 1), .int (nI 255)]) (rest := []) fx (ct_X1_in l dC dI cy cz o a Z G T K k ((nI 1)) ((nI 255))) fyX1_in tM_RX1_51 rfl rfl ⟨Nat.le_of_ble_eq_true rfl, Nat.le_of_ble_eq_true rfl⟩ (m_pre hK hP) rfl hl.1 rfl (Nat.le_of_ble_eq_true rfl) dX1_key_16 ⟨Nat.le_of_ble_eq_true rfl, Nat.le_of_ble_eq_true rfl⟩ (fun r_16 hr_16 => ?_)
    rcases hr_16 with ⟨rfl, hr_16⟩ | ⟨rfl, hr_16⟩
    ·
      refine x_if_ne_F (tgt := 25) hx hb (by decide) dX1_key_19 (by decide) ?_
      refine lv_bipush (v := -2) hx hb dX1_key_22 (by decide) ?_
      refine W.iret (v := (-2)) hx hb hr (fun t9 ht9 hW9 => ⟨⟨_, (Z, G, T, K), rfl, ?_, mE_mk ht9 hP hK hW9 hD⟩, hS.F ht9⟩) hS.2.2 dX1_key_24
      refine ⟨by rw [fKey, if_pos i_q, if_neg (fun h => hr_16 ((in_lh (by decide) (by decide)).mpr h))], ?_⟩
      rw [sKey, if_neg (fun h => hr_16 ((in_lh (by decide) (by decide)).mpr h.2.1))]
      exact ⟨mwE.rf _, hR⟩
    ·
      have i_k : inR k 1 256 := (in_lh (lo := 1) (hi := 255) (by decide) (by decide)).mp hr_16
      obtain ⟨k1, l_k1, h_k1, rfl⟩ := inR_of i_k
      have t_k : tn (nI k1) = k1 := tn_nI (by omega)
      refine x_if_ne_T (tgt := 25) hx hb (by decide) dX1_key_19 (by decide) ?_
      refine lv_aload_n hx hb dX1_key_25 rfl (lv_at hl 0 rfl) ?_
      refine m_g3 hx hb hts hown hK hP dX1_key_26 ?_
      refine lv_iload_n hx hb dX1_key_29 rfl (lv_at hl 1 rfl) ?_
      refine m_l3 (j := q1) hx hb hK hP (by omega) dX1_key_30 ?_
      refine lv_iconst (v := nI 1) hx hb dX1_key_31 (by decide) ?_
      refine x_icmp_eq (x := Z 5 q1) (y := 1) (tgt := 38) hx hb (by omega) (by omega) dX1_key_32 (by decide) (fun c_32 => ?_) (fun c_32 => ?_)
      ·
        refine lv_aload_n hx hb dX1_key_38 rfl (lv_at hl 0 rfl) ?_
        refine m_g5 hx hb hts hown hK hP dX1_key_39 ?_
        refine lv_iload_n hx hb dX1_key_42 rfl (lv_at hl 1 rfl) ?_
        refine m_l5 (j := q1) hx hb hK hP (by omega) dX1_key_43 ?_
        refine lv_istore_n (lv' := [(3, .int (nI (Z 7 q1))), (0, .ref o), (1, .int (nI q1)), (2, .int (nI k1))]) hx hb dX1_key_44 rfl hl (by decide) rfl (fun ls hl => ?_)
        refine lv_aload_n hx hb dX1_key_45 rfl (lv_at hl 1 rfl) ?_
        refine m_g5 hx hb hts hown hK hP dX1_key_46 ?_
        refine lv_iload_n hx hb dX1_key_49 rfl (lv_at hl 2 rfl) ?_
        refine lv_iload_n hx hb dX1_key_50 rfl (lv_at hl 3 rfl) ?_
        refine m_s5 (j := q1) (v := k1) hx hb hK hP hD hS (by omega) dX1_key_51 (fun H locs hP hD hS => ?_)
        refine lv_iload_n hx hb dX1_key_52 rfl (lv_at hl 0 rfl) ?_
        refine W.iret (v := (nI (Z 7 q1))) hx hb hr (fun t9 ht9 hW9 => ⟨⟨_, (zu Z 7 q1 k1, G, T, K), rfl, ?_, mE_mk ht9 hP hK hW9 hD⟩, hS.F ht9⟩) hS.2.2 dX1_key_53
        refine ⟨by rw [fKey, if_pos i_q, if_pos i_k, t_q, if_pos c_32], ?_⟩
        rw [sKey, if_pos ⟨i_q, i_k, by rw [t_q]; exact c_32⟩, t_q, t_k]
        exact ⟨mwE.rf _, hR⟩
      ·
        refine lv_bipush (v := -3) hx hb dX1_key_35 (by decide) ?_
        refine W.iret (v := (-3)) hx hb hr (fun t9 ht9 hW9 => ⟨⟨_, (Z, G, T, K), rfl, ?_, mE_mk ht9 hP hK hW9 hD⟩, hS.F ht9⟩) hS.2.2 dX1_key_37
        refine ⟨by rw [fKey, if_pos i_q, if_pos i_k, t_q, if_neg c_32], ?_⟩
        rw [sKey, if_neg (fun h => c_32 (by have h2 := h.2.2; rw [t_q] at h2; exact h2))]
        exact ⟨mwE.rf _, hR⟩

set_option maxHeartbeats 4000000 in
set_option maxRecDepth 100000 in
theorem ct_X1_strike (l : Launch) (dC : Nat → ClassId) (dI : Nat → Nat → Nat) (cy cz : ClassId) (o : Nat) (a : Nat → Nat) (Z : Nat → Nat → Nat) (G T K : Nat → Nat) (sz : Nat) (q : Int32) (i : Int32) (hI : Inv Z) (hR : MRel Z G T K) : Met l yX1_strike (wS yX1_strike cX1_strike 4 (Option.some Jvm.ClassFile.FieldType.int)) (rmF 2 44) (va_Pc [.ref o, .int q, .int i] (mS dC dI cy cz o a Z G T K sz)) (va_Qi (fun r (uu : MT) => r = fStr Z q i ∧ mwE uu.1 (sStr Z q i) ∧ MRel (sStr Z q i) uu.2.1 uu.2.2.1 uu.2.2.2) (mE dC dI cy cz o a (mA cy cz o a Z G T K sz)) (mA cy cz o a Z G T K sz)) 0 0 (mA cy cz o a Z G T K sz) := by
  refine Met.ofW (cc := cX1_strike) (maxL := 4) (ret := (Option.some Jvm.ClassFile.FieldType.int)) (by decide) rfl ?_
  intro pg en sv mi ag bw mt cd s₁ BL hml hv
  obtain ⟨rfl, hsz, hP, hK, hD0⟩ := hv
  have hx := BL.exec
  have hb := BL.bytes
  have hr := BL.returns
  have hts : ∀ w ∈ lw_ok, w.before _ sv = true := fun w hw => atoms_spec (ws := wS yX1_strike cX1_strike 4 (Option.some Jvm.ClassFile.FieldType.int)) BL.pre w (List.mem_cons_of_mem _ hw)
  have hown : sv.vm.findClass RX1 = some mi.cls := findClass_of_methodNamed BL.named
  have hlocks := BL.notSynchronized
  have fx : CallFix pg mi cd cX1_strike 4 sv _ lw_ok RX1 := ⟨hx, hb, hml, hown, hts⟩
  have hl := lv_entry ([.ref o, .int q, .int i]) (n := 4) (Nat.le_of_ble_eq_true rfl)
  rw [lg_entry_eq]
  generalize (lg_sl ([.ref o, .int q, .int i]) ++ List.replicate (4 - (lg_sl ([.ref o, .int q, .int i])).length) Slot.unset).toArray = ls at hl ⊢
  replace hl : lv_has ls 4 [(0, .ref o), (1, .int q), (2, .int i)] := hl
  subst hsz
  have hD : va_D (mA cy cz o a Z G T K sv.heap.size) (mw cy cz o a Z G T K) := hD0.self (sz := sv.heap.size)
  clear hD0
  generalize hAe : mA cy cz o a Z G T K sv.heap.size = A at hD ⊢
  have hA : ∀ q : Nat, sv.heap.size ≤ q → A q := fun q h => by rw [← hAe]; exact Or.inr h
  clear hAe
  refine x_start (fun H locs eH eL => ?_)
  replace hP : va_P (dC, dI) vwCl (mw cy cz o a Z G T K) H := by rw [eH]; exact hP
  have hS : va_S A sv.heap H locs := by rw [eH, eL]; exact va_S.rf
  clear eH eL
  obtain ⟨b0, b1, b2⟩ := hI.bd
  refine lv_aload_n hx hb dX1_strike_0 rfl (lv_at hl 0 rfl) ?_
  refine lv_iload_n hx hb dX1_strike_1 rfl (lv_at hl 1 rfl) ?_
  refine r_Vi (As := [.int q]) (rest := []) fx (ct_X1_isQuestion l dC dI cy cz o a Z G T K q hI) fyX1_isQuestion tM_RX1_59 rfl rfl ⟨Nat.le_of_ble_eq_true rfl, Nat.le_of_ble_eq_true rfl⟩ (m_pre hK hP) rfl hl.1 rfl (Nat.le_of_ble_eq_true rfl) dX1_strike_2 ⟨Nat.le_of_ble_eq_true rfl, Nat.le_of_ble_eq_true rfl⟩ (fun r_2 hr_2 => ?_)
  rcases hr_2 with ⟨rfl, hr_2⟩ | ⟨rfl, hr_2⟩
  ·
    refine x_if_ne_F (tgt := 10) hx hb (by decide) dX1_strike_5 (by decide) ?_
    refine lv_iconst (v := -1) hx hb dX1_strike_8 (by decide) ?_
    refine W.iret (v := (-1)) hx hb hr (fun t9 ht9 hW9 => ⟨⟨_, (Z, G, T, K), rfl, ?_, mE_mk ht9 hP hK hW9 hD⟩, hS.F ht9⟩) hS.2.2 dX1_strike_9
    refine ⟨by rw [fStr, if_neg hr_2], ?_⟩
    rw [sStr, if_neg (fun h => hr_2 h.1)]
    exact ⟨mwE.rf _, hR⟩
  ·
    have i_q := hr_2
    obtain ⟨q1, -, h_q1, rfl⟩ := inR_of i_q
    have t_q : tn (nI q1) = q1 := tn_nI (by omega)
    refine x_if_ne_T (tgt := 10) hx hb (by decide) dX1_strike_5 (by decide) ?_
    refine lv_aload_n hx hb dX1_strike_10 rfl (lv_at hl 0 rfl) ?_
    refine lv_iload_n hx hb dX1_strike_11 rfl (lv_at hl 2 rfl) ?_
    refine lv_iconst (v := nI 0) hx hb dX1_strike_12 (by decide) ?_
    refine lv_iconst (v := nI 1) hx hb dX1_strike_13 (by decide) ?_
    refine r_Vi (As := [.int i, .int (nI 0), .int (nI 1)]) (rest := []) fx (ct_X1_in l dC dI cy cz o a Z G T K i ((nI 0)) ((nI 1))) fyX1_in tM_RX1_51 rfl rfl ⟨Nat.le_of_ble_eq_true rfl, Nat.le_of_ble_eq_true rfl⟩ (m_pre hK hP) rfl hl.1 rfl (Nat.le_of_ble_eq_true rfl) dX1_strike_14 ⟨Nat.le_of_ble_eq_true rfl, Nat.le_of_ble_eq_true rfl⟩ (fun r_14 hr_14 => ?_)
    rcases hr_14 with ⟨rfl, hr_14⟩ | ⟨rfl, hr_14⟩
    ·
      refine x_if_ne_F (tgt := 23) hx hb (by decide) dX1_strike_17 (by decide) ?_
      refine lv_bipush (v := -2) hx hb dX1_strike_20 (by decide) ?_
      refine W.iret (v := (-2)) hx hb hr (fun t9 ht9 hW9 => ⟨⟨_, (Z, G, T, K), rfl, ?_, mE_mk ht9 hP hK hW9 hD⟩, hS.F ht9⟩) hS.2.2 dX1_strike_22
      refine ⟨by rw [fStr, if_pos i_q, if_neg (fun h => hr_14 ((in_lh (by decide) (by decide)).mpr h))], ?_⟩
      rw [sStr, if_neg (fun h => hr_14 ((in_lh (by decide) (by decide)).mpr h.2))]
      exact ⟨mwE.rf _, hR⟩
    ·
      have i_i : inR i 0 2 := (in_lh (lo := 0) (hi := 1) (by decide) (by decide)).mp hr_14
      obtain ⟨i1, l_i1, h_i1, rfl⟩ := inR_of i_i
      have t_i : tn (nI i1) = i1 := tn_nI (by omega)
      refine x_if_ne_T (tgt := 23) hx hb (by decide) dX1_strike_17 (by decide) ?_
      refine lv_aload_n hx hb dX1_strike_23 rfl (lv_at hl 0 rfl) ?_
      refine m_g6 hx hb hts hown hK hP dX1_strike_24 ?_
      refine lv_iload_n hx hb dX1_strike_27 rfl (lv_at hl 1 rfl) ?_
      refine m_l6 (j := q1) hx hb hK hP (by omega) dX1_strike_28 ?_
      rw [hR.k (show q1 < 30 by omega)]
      refine x_ifn_eq (x := if (Z 0 3).testBit q1 then 1 else 0) (tgt := 36) hx hb (by split <;> decide) dX1_strike_29 (by decide) (fun c_29 => ?_) (fun c_29 => ?_)
      ·
        have hbt : (Z 0 3).testBit q1 = false := by
          cases h : (Z 0 3).testBit q1 with
          | false => rfl
          | true => rw [h] at c_29; exact absurd c_29 (by decide)
        refine lv_iconst (v := nI 0) hx hb dX1_strike_36 (by decide) ?_
        refine lv_istore_n (lv' := [(3, .int (nI 0)), (0, .ref o), (1, .int (nI q1)), (2, .int (nI i1))]) hx hb dX1_strike_37 rfl hl (by decide) rfl (fun ls hl => ?_)
        refine lv_aload_n hx hb dX1_strike_38 rfl (lv_at hl 1 rfl) ?_
        refine m_g6 hx hb hts hown hK hP dX1_strike_39 ?_
        refine lv_iload_n hx hb dX1_strike_42 rfl (lv_at hl 2 rfl) ?_
        refine lv_iload_n hx hb dX1_strike_43 rfl (lv_at hl 3 rfl) ?_
        refine lv_iconst (v := nI 1) hx hb dX1_strike_44 (by decide) ?_
        refine x_icmp_ne (x := i1) (y := 1) (tgt := 52) hx hb (by omega) (by omega) dX1_strike_45 (by decide) (fun c_45 => ?_) (fun c_45 => ?_)
        ·
          obtain rfl : i1 = 0 := by omega
          refine lv_iconst (v := nI 0) hx hb dX1_strike_52 (by decide) ?_
          refine m_s6 (j := q1) (v := 0) hx hb hK hP hD hS (by omega) (by decide) dX1_strike_53 (fun H locs hP hD hS => ?_)
          refine lv_iload_n hx hb dX1_strike_54 rfl (lv_at hl 0 rfl) ?_
          refine W.iret (v := (nI 0)) hx hb hr (fun t9 ht9 hW9 => ⟨⟨_, (Z, G, T, ru K q1 0), rfl, ?_, mE_mk ht9 hP hK hW9 hD⟩, hS.F ht9⟩) hS.2.2 dX1_strike_55
          refine ⟨by rw [fStr, if_pos i_q, if_pos i_i, t_q, hbt] <;> rfl, ?_⟩
          rw [sStr, if_pos ⟨i_q, i_i⟩, t_q, t_i]
          exact ⟨⟨rfl, rfl, rfl, rfl, rfl, rfl, rfl, rfl, rfl, rfl⟩, hR.strk (by decide)⟩
        ·
          obtain rfl : i1 = 1 := c_45
          refine lv_iconst (v := nI 1) hx hb dX1_strike_48 (by decide) ?_
          refine lv_goto (tgt := 53) hx hb dX1_strike_49 (by decide) ?_
          refine m_s6 (j := q1) (v := 1) hx hb hK hP hD hS (by omega) (by decide) dX1_strike_53 (fun H locs hP hD hS => ?_)
          refine lv_iload_n hx hb dX1_strike_54 rfl (lv_at hl 0 rfl) ?_
          refine W.iret (v := (nI 0)) hx hb hr (fun t9 ht9 hW9 => ⟨⟨_, (Z, G, T, ru K q1 1), rfl, ?_, mE_mk ht9 hP hK hW9 hD⟩, hS.F ht9⟩) hS.2.2 dX1_strike_55
          refine ⟨by rw [fStr, if_pos i_q, if_pos i_i, t_q, hbt] <;> rfl, ?_⟩
          rw [sStr, if_pos ⟨i_q, i_i⟩, t_q, t_i]
          exact ⟨⟨rfl, rfl, rfl, rfl, rfl, rfl, rfl, rfl, rfl, rfl⟩, hR.strk (by decide)⟩
      ·
        have hbt : (Z 0 3).testBit q1 = true := by
          cases h : (Z 0 3).testBit q1 with
          | true => rfl
          | false => rw [h] at c_29; exact absurd rfl c_29
        refine lv_iconst (v := nI 1) hx hb dX1_strike_32 (by decide) ?_
        refine lv_goto (tgt := 37) hx hb dX1_strike_33 (by decide) ?_
        refine lv_istore_n (lv' := [(3, .int (nI 1)), (0, .ref o), (1, .int (nI q1)), (2, .int (nI i1))]) hx hb dX1_strike_37 rfl hl (by decide) rfl (fun ls hl => ?_)
        refine lv_aload_n hx hb dX1_strike_38 rfl (lv_at hl 1 rfl) ?_
        refine m_g6 hx hb hts hown hK hP dX1_strike_39 ?_
        refine lv_iload_n hx hb dX1_strike_42 rfl (lv_at hl 2 rfl) ?_
        refine lv_iload_n hx hb dX1_strike_43 rfl (lv_at hl 3 rfl) ?_
        refine lv_iconst (v := nI 1) hx hb dX1_strike_44 (by decide) ?_
        refine x_icmp_ne (x := i1) (y := 1) (tgt := 52) hx hb (by omega) (by omega) dX1_strike_45 (by decide) (fun c_45 => ?_) (fun c_45 => ?_)
        ·
          obtain rfl : i1 = 0 := by omega
          refine lv_iconst (v := nI 0) hx hb dX1_strike_52 (by decide) ?_
          refine m_s6 (j := q1) (v := 0) hx hb hK hP hD hS (by omega) (by decide) dX1_strike_53 (fun H locs hP hD hS => ?_)
          refine lv_iload_n hx hb dX1_strike_54 rfl (lv_at hl 0 rfl) ?_
          refine W.iret (v := (nI 1)) hx hb hr (fun t9 ht9 hW9 => ⟨⟨_, (Z, G, T, ru K q1 0), rfl, ?_, mE_mk ht9 hP hK hW9 hD⟩, hS.F ht9⟩) hS.2.2 dX1_strike_55
          refine ⟨by rw [fStr, if_pos i_q, if_pos i_i, t_q, hbt] <;> rfl, ?_⟩
          rw [sStr, if_pos ⟨i_q, i_i⟩, t_q, t_i]
          exact ⟨⟨rfl, rfl, rfl, rfl, rfl, rfl, rfl, rfl, rfl, rfl⟩, hR.strk (by decide)⟩
        ·
          obtain rfl : i1 = 1 := c_45
          refine lv_iconst (v := nI 1) hx hb dX1_strike_48 (by decide) ?_
          refine lv_goto (tgt := 53) hx hb dX1_strike_49 (by decide) ?_
          refine m_s6 (j := q1) (v := 1) hx hb hK hP hD hS (by omega) (by decide) dX1_strike_53 (fun H locs hP hD hS => ?_)
          refine lv_iload_n hx hb dX1_strike_54 rfl (lv_at hl 0 rfl) ?_
          refine W.iret (v := (nI 1)) hx hb hr (fun t9 ht9 hW9 => ⟨⟨_, (Z, G, T, ru K q1 1), rfl, ?_, mE_mk ht9 hP hK hW9 hD⟩, hS.F ht9⟩) hS.2.2 dX1_strike_55
          refine ⟨by rw [fStr, if_pos i_q, if_pos i_i, t_q, hbt] <;> rfl, ?_⟩
          rw [sStr, if_pos ⟨i_q, i_i⟩, t_q, t_i]
          exact ⟨⟨rfl, rfl, rfl, rfl, rfl, rfl, rfl, rfl, rfl, rfl⟩, hR.strk (by decide)⟩

set_option maxHeartbeats 4000000 in
set_option maxRecDepth 100000 in
theorem ct_X1_paper (l : Launch) (dC : Nat → ClassId) (dI : Nat → Nat → Nat) (cy cz : ClassId) (o : Nat) (a : Nat → Nat) (Z : Nat → Nat → Nat) (G T K : Nat → Nat) (sz : Nat)  (hI : Inv Z) (hR : MRel Z G T K) : Met l yX1_paper (wS yX1_paper cX1_paper 1 (Option.some Jvm.ClassFile.FieldType.int)) (rmF 0 0) (va_Pc [.ref o] (mS dC dI cy cz o a Z G T K sz)) (va_Qi (fun r (uu : MT) => r = fPap Z ∧ mwE uu.1 (sPap Z) ∧ MRel (sPap Z) uu.2.1 uu.2.2.1 uu.2.2.2) (mE dC dI cy cz o a (mA cy cz o a Z G T K sz)) (mA cy cz o a Z G T K sz)) 0 0 (mA cy cz o a Z G T K sz) := by
  refine Met.ofW (cc := cX1_paper) (maxL := 1) (ret := (Option.some Jvm.ClassFile.FieldType.int)) (by decide) rfl ?_
  intro pg en sv mi ag bw mt cd s₁ BL hml hv
  obtain ⟨rfl, hsz, hP, hK, hD0⟩ := hv
  have hx := BL.exec
  have hb := BL.bytes
  have hr := BL.returns
  have hts : ∀ w ∈ lw_ok, w.before _ sv = true := fun w hw => atoms_spec (ws := wS yX1_paper cX1_paper 1 (Option.some Jvm.ClassFile.FieldType.int)) BL.pre w (List.mem_cons_of_mem _ hw)
  have hown : sv.vm.findClass RX1 = some mi.cls := findClass_of_methodNamed BL.named
  have hlocks := BL.notSynchronized
  have fx : CallFix pg mi cd cX1_paper 1 sv _ lw_ok RX1 := ⟨hx, hb, hml, hown, hts⟩
  have hl := lv_entry ([.ref o]) (n := 1) (Nat.le_of_ble_eq_true rfl)
  rw [lg_entry_eq]
  generalize (lg_sl ([.ref o]) ++ List.replicate (1 - (lg_sl ([.ref o])).length) Slot.unset).toArray = ls at hl ⊢
  replace hl : lv_has ls 1 [(0, .ref o)] := hl
  subst hsz
  have hD : va_D (mA cy cz o a Z G T K sv.heap.size) (mw cy cz o a Z G T K) := hD0.self (sz := sv.heap.size)
  clear hD0
  generalize hAe : mA cy cz o a Z G T K sv.heap.size = A at hD ⊢
  have hA : ∀ q : Nat, sv.heap.size ≤ q → A q := fun q h => by rw [← hAe]; exact Or.inr h
  clear hAe
  refine x_start (fun H locs eH eL => ?_)
  replace hP : va_P (dC, dI) vwCl (mw cy cz o a Z G T K) H := by rw [eH]; exact hP
  have hS : va_S A sv.heap H locs := by rw [eH, eL]; exact va_S.rf
  clear eH eL
  obtain ⟨b0, b1, b2⟩ := hI.bd
  refine lv_aload_n hx hb dX1_paper_0 rfl (lv_at hl 0 rfl) ?_
  refine m_g1 hx hb hts hown hK hP dX1_paper_1 ?_
  refine lv_bipush (v := nI 8) hx hb dX1_paper_4 (by decide) ?_
  refine x_icmp_ne (x := Z 0 1) (y := 8) (tgt := 12) hx hb (by omega) (by omega) dX1_paper_6 (by decide) (fun c_6 => ?_) (fun c_6 => ?_)
  ·
    refine lv_aload_n hx hb dX1_paper_12 rfl (lv_at hl 0 rfl) ?_
    refine m_g8 hx hb hts hown hK hP dX1_paper_13 ?_
    refine lv_aload_n hx hb dX1_paper_16 rfl (lv_at hl 0 rfl) ?_
    refine m_g1 hx hb hts hown hK hP dX1_paper_17 ?_
    refine lv_iconst (v := nI 0) hx hb dX1_paper_20 (by decide) ?_
    refine m_s8 (j := Z 0 1) (v := 0) hx hb hK hP hD hS (by omega) dX1_paper_21 (fun H locs hP hD hS => ?_)
    refine lv_aload_n hx hb dX1_paper_22 rfl (lv_at hl 0 rfl) ?_
    refine lv_dup hx hb dX1_paper_23 rfl ?_
    refine m_g1 hx hb hts hown hK hP dX1_paper_24 ?_
    refine W.eq (g2 := F0 mi 27 ls [.int (nI (Z 0 1)), .ref o]) rfl ?_
    refine lv_iconst (v := nI 1) hx hb dX1_paper_27 (by decide) ?_
    refine x_iadd hx hb dX1_paper_28 ?_
    refine m_p1 (v := (Z 0 1) + 1) hx hb hts hown hK hP hD hS dX1_paper_29 (fun H locs hP hD hS => ?_)
    refine lv_aload_n hx hb dX1_paper_32 rfl (lv_at hl 0 rfl) ?_
    refine m_g1 hx hb hts hown hK hP dX1_paper_33 ?_
    refine W.eq (g2 := F0 mi 36 ls [.int (nI (Z 0 1 + 1))]) rfl ?_
    refine lv_iconst (v := nI 1) hx hb dX1_paper_36 (by decide) ?_
    refine x_isub hx hb (by omega) dX1_paper_37 ?_
    refine W.iret (v := (nI ((Z 0 1 + 1) - 1))) hx hb hr (fun t9 ht9 hW9 => ⟨⟨_, (zu (zu Z 8 (Z 0 1) 0) 0 1 ((Z 0 1) + 1), G, T, K), rfl, ?_, mE_mk ht9 hP hK hW9 hD⟩, hS.F ht9⟩) hS.2.2 dX1_paper_38
    refine ⟨by rw [fPap, if_pos (by omega)] <;> rfl, ?_⟩
    rw [sPap, if_pos (by omega)]
    exact ⟨sPap_mw hI (by omega), hR⟩
  ·
    refine lv_bipush (v := -4) hx hb dX1_paper_9 (by decide) ?_
    refine W.iret (v := (-4)) hx hb hr (fun t9 ht9 hW9 => ⟨⟨_, (Z, G, T, K), rfl, ?_, mE_mk ht9 hP hK hW9 hD⟩, hS.F ht9⟩) hS.2.2 dX1_paper_11
    refine ⟨by rw [fPap, if_neg (by omega)], ?_⟩
    rw [sPap, if_neg (by omega)]
    exact ⟨mwE.rf _, hR⟩

set_option maxHeartbeats 4000000 in
set_option maxRecDepth 100000 in
theorem ct_X1_put (l : Launch) (dC : Nat → ClassId) (dI : Nat → Nat → Nat) (cy cz : ClassId) (o : Nat) (a : Nat → Nat) (Z : Nat → Nat → Nat) (G T K : Nat → Nat) (sz : Nat) (p : Int32) (q : Int32) (hI : Inv Z) (hR : MRel Z G T K) : Met l yX1_put (wS yX1_put cX1_put 4 (Option.some Jvm.ClassFile.FieldType.int)) (rmF 2 44) (va_Pc [.ref o, .int p, .int q] (mS dC dI cy cz o a Z G T K sz)) (va_Qi (fun r (uu : MT) => r = fPut Z p q ∧ mwE uu.1 (sPut Z p q) ∧ MRel (sPut Z p q) uu.2.1 uu.2.2.1 uu.2.2.2) (mE dC dI cy cz o a (mA cy cz o a Z G T K sz)) (mA cy cz o a Z G T K sz)) 0 0 (mA cy cz o a Z G T K sz) := by
  refine Met.ofW (cc := cX1_put) (maxL := 4) (ret := (Option.some Jvm.ClassFile.FieldType.int)) (by decide) rfl ?_
  intro pg en sv mi ag bw mt cd s₁ BL hml hv
  obtain ⟨rfl, hsz, hP, hK, hD0⟩ := hv
  have hx := BL.exec
  have hb := BL.bytes
  have hr := BL.returns
  have hts : ∀ w ∈ lw_ok, w.before _ sv = true := fun w hw => atoms_spec (ws := wS yX1_put cX1_put 4 (Option.some Jvm.ClassFile.FieldType.int)) BL.pre w (List.mem_cons_of_mem _ hw)
  have hown : sv.vm.findClass RX1 = some mi.cls := findClass_of_methodNamed BL.named
  have hlocks := BL.notSynchronized
  have fx : CallFix pg mi cd cX1_put 4 sv _ lw_ok RX1 := ⟨hx, hb, hml, hown, hts⟩
  have hl := lv_entry ([.ref o, .int p, .int q]) (n := 4) (Nat.le_of_ble_eq_true rfl)
  rw [lg_entry_eq]
  generalize (lg_sl ([.ref o, .int p, .int q]) ++ List.replicate (4 - (lg_sl ([.ref o, .int p, .int q])).length) Slot.unset).toArray = ls at hl ⊢
  replace hl : lv_has ls 4 [(0, .ref o), (1, .int p), (2, .int q)] := hl
  subst hsz
  have hD : va_D (mA cy cz o a Z G T K sv.heap.size) (mw cy cz o a Z G T K) := hD0.self (sz := sv.heap.size)
  clear hD0
  generalize hAe : mA cy cz o a Z G T K sv.heap.size = A at hD ⊢
  have hA : ∀ q : Nat, sv.heap.size ≤ q → A q := fun q h => by rw [← hAe]; exact Or.inr h
  clear hAe
  refine x_start (fun H locs eH eL => ?_)
  replace hP : va_P (dC, dI) vwCl (mw cy cz o a Z G T K) H := by rw [eH]; exact hP
  have hS : va_S A sv.heap H locs := by rw [eH, eL]; exact va_S.rf
  clear eH eL
  obtain ⟨b0, b1, b2⟩ := hI.bd
  refine lv_aload_n hx hb dX1_put_0 rfl (lv_at hl 0 rfl) ?_
  refine lv_iload_n hx hb dX1_put_1 rfl (lv_at hl 1 rfl) ?_
  refine r_Vi (As := [.int p]) (rest := []) fx (ct_X1_isPaper l dC dI cy cz o a Z G T K p hI) fyX1_isPaper tM_RX1_63 rfl rfl ⟨Nat.le_of_ble_eq_true rfl, Nat.le_of_ble_eq_true rfl⟩ (m_pre hK hP) rfl hl.1 rfl (Nat.le_of_ble_eq_true rfl) dX1_put_2 ⟨Nat.le_of_ble_eq_true rfl, Nat.le_of_ble_eq_true rfl⟩ (fun r_2 hr_2 => ?_)
  rcases hr_2 with ⟨rfl, hr_2⟩ | ⟨rfl, hr_2⟩
  ·
    refine x_if_eq_T (tgt := 16) hx hb (by decide) dX1_put_5 (by decide) ?_
    refine lv_iconst (v := -1) hx hb dX1_put_16 (by decide) ?_
    refine W.iret (v := (-1)) hx hb hr (fun t9 ht9 hW9 => ⟨⟨_, (Z, G, T, K), rfl, ?_, mE_mk ht9 hP hK hW9 hD⟩, hS.F ht9⟩) hS.2.2 dX1_put_17
    first
    | (refine ⟨?_, ?_⟩; (rw [fPut, if_neg (fun h => hr_2 h.1)]); (rw [sPut, if_neg (fun h => hr_2 h.1.1)]; exact ⟨mwE.rf _, hR⟩))
    | (refine ⟨?_, ?_⟩; (rw [fPut, if_neg (fun h => hr_10 h.2)]); (rw [sPut, if_neg (fun h => hr_10 h.1.2)]; exact ⟨mwE.rf _, hR⟩))
  ·
    have i_p := hr_2
    obtain ⟨p1, -, h_p1, rfl⟩ := inR_of i_p
    have t_p : tn (nI p1) = p1 := tn_nI (by omega)
    have bs := hI.sz (p := p1) (by omega)
    have hgl := gN_le hI p1
    refine x_if_eq_F (tgt := 16) hx hb (by decide) dX1_put_5 (by decide) ?_
    refine lv_aload_n hx hb dX1_put_8 rfl (lv_at hl 0 rfl) ?_
    refine lv_iload_n hx hb dX1_put_9 rfl (lv_at hl 2 rfl) ?_
    refine r_Vi (As := [.int q]) (rest := []) fx (ct_X1_isQuestion l dC dI cy cz o a Z G T K q hI) fyX1_isQuestion tM_RX1_59 rfl rfl ⟨Nat.le_of_ble_eq_true rfl, Nat.le_of_ble_eq_true rfl⟩ (m_pre hK hP) rfl hl.1 rfl (Nat.le_of_ble_eq_true rfl) dX1_put_10 ⟨Nat.le_of_ble_eq_true rfl, Nat.le_of_ble_eq_true rfl⟩ (fun r_10 hr_10 => ?_)
    rcases hr_10 with ⟨rfl, hr_10⟩ | ⟨rfl, hr_10⟩
    ·
      refine x_if_ne_F (tgt := 18) hx hb (by decide) dX1_put_13 (by decide) ?_
      refine lv_iconst (v := -1) hx hb dX1_put_16 (by decide) ?_
      refine W.iret (v := (-1)) hx hb hr (fun t9 ht9 hW9 => ⟨⟨_, (Z, G, T, K), rfl, ?_, mE_mk ht9 hP hK hW9 hD⟩, hS.F ht9⟩) hS.2.2 dX1_put_17
      first
      | (refine ⟨?_, ?_⟩; (rw [fPut, if_neg (fun h => hr_2 h.1)]); (rw [sPut, if_neg (fun h => hr_2 h.1.1)]; exact ⟨mwE.rf _, hR⟩))
      | (refine ⟨?_, ?_⟩; (rw [fPut, if_neg (fun h => hr_10 h.2)]); (rw [sPut, if_neg (fun h => hr_10 h.1.2)]; exact ⟨mwE.rf _, hR⟩))
    ·
      have i_q := hr_10
      obtain ⟨q1, -, h_q1, rfl⟩ := inR_of i_q
      have t_q : tn (nI q1) = q1 := tn_nI (by omega)
      refine x_if_ne_T (tgt := 18) hx hb (by decide) dX1_put_13 (by decide) ?_
      refine lv_aload_n hx hb dX1_put_18 rfl (lv_at hl 0 rfl) ?_
      refine lv_iload_n hx hb dX1_put_19 rfl (lv_at hl 1 rfl) ?_
      refine lv_iload_n hx hb dX1_put_20 rfl (lv_at hl 2 rfl) ?_
      refine r_Vi (As := [.int (nI p1), .int (nI q1)]) (rest := []) fx (ct_X1_spot l dC dI cy cz o a Z G T K p1 q1 hI (by first | assumption | omega) (by first | assumption | omega)) fyX1_spot tM_RX1_66 rfl rfl ⟨Nat.le_of_ble_eq_true rfl, Nat.le_of_ble_eq_true rfl⟩ (m_pre hK hP) rfl hl.1 rfl (Nat.le_of_ble_eq_true rfl) dX1_put_21 ⟨Nat.le_of_ble_eq_true rfl, Nat.le_of_ble_eq_true rfl⟩ (fun r_21 hr_21 => ?_)
      rcases hr_21 with ⟨rfl, hs_21⟩ | ⟨i_21, hi_21, hs_21, hq_21, rfl⟩
      ·
        refine x_if_ge_F (tgt := 35) hx hb (by decide) dX1_put_24 (by decide) ?_
        refine lv_aload_n hx hb dX1_put_27 rfl (lv_at hl 0 rfl) ?_
        refine lv_iload_n hx hb dX1_put_28 rfl (lv_at hl 1 rfl) ?_
        refine r_Vi (As := [.int (nI p1)]) (rest := []) fx (ct_X1_groupSize l dC dI cy cz o a Z G T K p1 hI (by first | assumption | omega)) fyX1_groupSize tM_RX1_70 rfl rfl ⟨Nat.le_of_ble_eq_true rfl, Nat.le_of_ble_eq_true rfl⟩ (m_pre hK hP) rfl hl.1 rfl (Nat.le_of_ble_eq_true rfl) dX1_put_29 ⟨Nat.le_of_ble_eq_true rfl, Nat.le_of_ble_eq_true rfl⟩ (fun r_29 hr_29 => ?_)
        subst hr_29
        refine x_ifn_le (x := gN Z p1) (tgt := 38) hx hb (by omega) dX1_put_32 (by decide) (fun c_32 => ?_) (fun c_32 => ?_)
        ·
          refine lv_aload_n hx hb dX1_put_38 rfl (lv_at hl 0 rfl) ?_
          refine m_g8 hx hb hts hown hK hP dX1_put_39 ?_
          refine lv_iload_n hx hb dX1_put_42 rfl (lv_at hl 1 rfl) ?_
          refine m_l8 (j := p1) hx hb hK hP (by omega) dX1_put_43 ?_
          refine lv_bipush (v := nI 12) hx hb dX1_put_44 (by decide) ?_
          refine x_icmp_ne (x := Z 8 p1) (y := 12) (tgt := 52) hx hb (by omega) (by omega) dX1_put_46 (by decide) (fun c_46 => ?_) (fun c_46 => ?_)
          ·
            refine lv_aload_n hx hb dX1_put_52 rfl (lv_at hl 0 rfl) ?_
            refine m_g7 hx hb hts hown hK hP dX1_put_53 ?_
            refine lv_bipush (v := nI 12) hx hb dX1_put_56 (by decide) ?_
            refine lv_iload_n hx hb dX1_put_58 rfl (lv_at hl 1 rfl) ?_
            refine x_imulc hx hb dX1_put_59 ?_
            refine lv_aload_n hx hb dX1_put_60 rfl (lv_at hl 0 rfl) ?_
            refine m_g8 hx hb hts hown hK hP dX1_put_61 ?_
            refine lv_iload_n hx hb dX1_put_64 rfl (lv_at hl 1 rfl) ?_
            refine m_l8 (j := p1) hx hb hK hP (by omega) dX1_put_65 ?_
            refine x_iadd hx hb dX1_put_66 ?_
            refine lv_iload_n hx hb dX1_put_67 rfl (lv_at hl 2 rfl) ?_
            refine m_s7 (j := p1 * 12 + (Z 8 p1)) (v := q1) hx hb hK hP hD hS (by omega) dX1_put_68 (fun H locs hP hD hS => ?_)
            refine lv_iconst (v := nI 0) hx hb dX1_put_69 (by decide) ?_
            refine lv_istore_n (lv' := [(3, .int (nI 0)), (0, .ref o), (1, .int (nI p1)), (2, .int (nI q1))]) hx hb dX1_put_70 rfl hl (by decide) rfl (fun ls hl => ?_)
            obtain ⟨j, ej⟩ : ∃ j : Nat, j = 0 := ⟨_, rfl⟩
            replace hl : lv_has ls 4 [(3, .int (nI j)), (0, .ref o), (1, .int (nI p1)), (2, .int (nI q1))] := by subst ej; exact lv_sub hl [0, 1, 2, 3] rfl
            obtain ⟨T1, eT1⟩ : ∃ T1 : Nat → Nat, T1 = T := ⟨_, rfl⟩
            rw [← eT1] at hP hD
            have hj : j ≤ 8 := by subst ej eT1; omega
            have hT : T1 = tFill T (p1 * 12 + Z 8 p1) j := by subst ej eT1; exact (tFill_0 _ _).symm
            clear ej eT1
            obtain ⟨n71, hn71⟩ : ∃ n_0 : Nat, 8 - j < n_0 := ⟨_, Nat.lt_succ_self _⟩
            induction n71 generalizing H locs T1 j ls with
            | zero => exact absurd hn71 (Nat.not_lt_zero _)
            | succ n71 ih71 =>
              refine lv_iload_n hx hb dX1_put_71 rfl (lv_at hl 0 rfl) ?_
              refine lv_bipush (v := nI 8) hx hb dX1_put_72 (by decide) ?_
              refine x_icmp_ge (x := j) (y := 8) (tgt := 105) hx hb (by omega) (by omega) dX1_put_74 (by decide) (fun c_74 => ?_) (fun c_74 => ?_)
              ·
                obtain rfl : j = 8 := by omega
                have hs12 : Z 8 p1 < 12 := by omega
                have ho : oPut Z p1 q1 := ⟨hs_21, c_32⟩
                refine lv_aload_n hx hb dX1_put_105 rfl (lv_at hl 1 rfl) ?_
                refine m_g8 hx hb hts hown hK hP dX1_put_106 ?_
                refine lv_iload_n hx hb dX1_put_109 rfl (lv_at hl 2 rfl) ?_
                refine lv_dup2_11 hx hb dX1_put_110 rfl rfl ?_
                refine m_l8 (j := p1) hx hb hK hP (by omega) dX1_put_111 ?_
                refine W.eq (g2 := F0 mi 112 ls [.int (nI (Z 8 p1)), .int (nI p1), .ref (a 8)]) rfl ?_
                refine lv_iconst (v := nI 1) hx hb dX1_put_112 (by decide) ?_
                refine x_iadd hx hb dX1_put_113 ?_
                refine m_s8 (j := p1) (v := (Z 8 p1) + 1) hx hb hK hP hD hS (by omega) dX1_put_114 (fun H locs hP hD hS => ?_)
                refine lv_aload_n hx hb dX1_put_115 rfl (lv_at hl 1 rfl) ?_
                refine m_g8 hx hb hts hown hK hP dX1_put_116 ?_
                refine lv_iload_n hx hb dX1_put_119 rfl (lv_at hl 2 rfl) ?_
                refine m_l8 (j := p1) hx hb hK hP (by omega) dX1_put_120 ?_
                refine W.eq (g2 := F0 mi 121 ls [.int (nI (Z 8 p1 + 1))]) (by rw [zu_in, if_pos rfl]) ?_
                refine lv_iconst (v := nI 1) hx hb dX1_put_121 (by decide) ?_
                refine x_isub hx hb (by omega) dX1_put_122 ?_
                refine W.iret (v := (nI ((Z 8 p1 + 1) - 1))) hx hb hr (fun t9 ht9 hW9 => ⟨⟨_, (zu (zu Z 10 (p1 * 12 + (Z 8 p1)) q1) 8 p1 ((Z 8 p1) + 1), G, T1, K), rfl, ?_, mE_mk ht9 hP hK hW9 hD⟩, hS.F ht9⟩) hS.2.2 dX1_put_123
                refine ⟨by rw [fPut, if_pos ⟨i_p, i_q⟩, t_p, t_q, if_pos ho, if_pos hs12] <;> rfl, ?_⟩
                rw [sPut, if_pos ⟨⟨i_p, i_q⟩, by rw [t_p, t_q]; exact ho, by rw [t_p]; exact hs12⟩, t_p, t_q]
                exact ⟨⟨rfl, rfl, rfl, rfl, rfl, rfl, rfl, rfl, rfl, rfl⟩, by rw [hT]; exact hR.put hI (by omega) hs12⟩
              ·
                refine lv_aload_n hx hb dX1_put_77 rfl (lv_at hl 1 rfl) ?_
                refine m_g12 hx hb hts hown hK hP dX1_put_78 ?_
                refine lv_bipush (v := nI 96) hx hb dX1_put_81 (by decide) ?_
                refine lv_iload_n hx hb dX1_put_83 rfl (lv_at hl 0 rfl) ?_
                refine x_imulc hx hb dX1_put_84 ?_
                refine lv_bipush (v := nI 12) hx hb dX1_put_85 (by decide) ?_
                refine lv_iload_n hx hb dX1_put_87 rfl (lv_at hl 2 rfl) ?_
                refine x_imulc hx hb dX1_put_88 ?_
                refine x_iadd hx hb dX1_put_89 ?_
                refine lv_aload_n hx hb dX1_put_90 rfl (lv_at hl 1 rfl) ?_
                refine m_g8 hx hb hts hown hK hP dX1_put_91 ?_
                refine lv_iload_n hx hb dX1_put_94 rfl (lv_at hl 2 rfl) ?_
                refine m_l8 (j := p1) hx hb hK hP (by omega) dX1_put_95 ?_
                refine W.eq (g2 := F0 mi 96 ls [.int (nI (Z 8 p1)), .int (nI (j * 96 + (p1 * 12))), .ref (a 12)]) rfl ?_
                refine x_iadd hx hb dX1_put_96 ?_
                refine lv_iconst (v := -1) hx hb dX1_put_97 (by decide) ?_
                refine W.eq (g2 := F0 mi 98 ls [.int (gv (0)), .int (nI ((j * 96 + (p1 * 12)) + (Z 8 p1))), .ref (a 12)]) rfl ?_
                refine m_s12 (j := (j * 96 + (p1 * 12)) + (Z 8 p1)) (v := 0) hx hb hK hP hD hS (by omega) dX1_put_98 (fun H locs hP hD hS => ?_)
                refine lv_iinc (v := nI (j + 1)) (lv' := [(3, .int (nI (j + 1))), (0, .ref o), (1, .int (nI p1)), (2, .int (nI q1))]) hx hb dX1_put_99 hl (k := 0) rfl (x_inc1 _) (by decide) rfl (fun ls hl => ?_)
                refine lv_goto (tgt := 71) hx hb dX1_put_102 (by decide) ?_
                exact ih71 (H := H) (locs := locs) (ls := ls) (T1 := (ru T1 ((j * 96 + (p1 * 12)) + (Z 8 p1)) 0)) (j := (j + 1)) (hl := lv_sub hl [0, 1, 2, 3] rfl) (hP := hP) (hD := hD) (hS := hS) (hj := (by omega)) (hT := (by rw [hT, Nat.add_assoc]; exact tFill_s T (by omega) j)) (hn71 := by omega)
          ·
            refine lv_bipush (v := -4) hx hb dX1_put_49 (by decide) ?_
            refine W.iret (v := (-4)) hx hb hr (fun t9 ht9 hW9 => ⟨⟨_, (Z, G, T, K), rfl, ?_, mE_mk ht9 hP hK hW9 hD⟩, hS.F ht9⟩) hS.2.2 dX1_put_51
            have ho : oPut Z p1 q1 := ⟨hs_21, c_32⟩
            refine ⟨by rw [fPut, if_pos ⟨i_p, i_q⟩, t_p, t_q, if_pos ho, if_neg (by omega)], ?_⟩
            rw [sPut, if_neg (fun h => by have h2 := h.2.2; rw [t_p] at h2; omega)]
            exact ⟨mwE.rf _, hR⟩
        ·
          refine lv_bipush (v := -3) hx hb dX1_put_35 (by decide) ?_
          refine W.iret (v := (-3)) hx hb hr (fun t9 ht9 hW9 => ⟨⟨_, (Z, G, T, K), rfl, ?_, mE_mk ht9 hP hK hW9 hD⟩, hS.F ht9⟩) hS.2.2 dX1_put_37
          have hno : ¬ oPut Z p1 q1 := by first | exact fun h => c_32 h.2 | (intro h; have h1 := h.1; omega)
          refine ⟨by rw [fPut, if_pos ⟨i_p, i_q⟩, t_p, t_q, if_neg hno], ?_⟩
          rw [sPut, if_neg (fun h => hno (by have h2 := h.2.1; rw [t_p, t_q] at h2; exact h2))]
          exact ⟨mwE.rf _, hR⟩
      ·
        refine x_if_ge_T (tgt := 35) hx hb (nI_pos' (by omega)) dX1_put_24 (by decide) ?_
        refine lv_bipush (v := -3) hx hb dX1_put_35 (by decide) ?_
        refine W.iret (v := (-3)) hx hb hr (fun t9 ht9 hW9 => ⟨⟨_, (Z, G, T, K), rfl, ?_, mE_mk ht9 hP hK hW9 hD⟩, hS.F ht9⟩) hS.2.2 dX1_put_37
        have hno : ¬ oPut Z p1 q1 := by first | exact fun h => c_32 h.2 | (intro h; have h1 := h.1; omega)
        refine ⟨by rw [fPut, if_pos ⟨i_p, i_q⟩, t_p, t_q, if_neg hno], ?_⟩
        rw [sPut, if_neg (fun h => hno (by have h2 := h.2.1; rw [t_p, t_q] at h2; exact h2))]
        exact ⟨mwE.rf _, hR⟩

set_option maxHeartbeats 4000000 in
set_option maxRecDepth 100000 in
theorem ct_X1_at (l : Launch) (dC : Nat → ClassId) (dI : Nat → Nat → Nat) (cy cz : ClassId) (o : Nat) (a : Nat → Nat) (Z : Nat → Nat → Nat) (G T K : Nat → Nat) (p : Int32) (i : Int32) (hI : Inv Z) (hR : MRel Z G T K) : Met l yX1_at (wS yX1_at cX1_at 3 (Option.some Jvm.ClassFile.FieldType.int)) (rmF 2 44) (va_Pc [.ref o, .int p, .int i] (mR dC dI cy cz o a Z G T K)) (vp_Si (fun r => r = fAt Z p i)) 0 0 (fun _ => False) := by
  refine Met.ofW (cc := cX1_at) (maxL := 3) (ret := (Option.some Jvm.ClassFile.FieldType.int)) (by decide) rfl ?_
  intro pg en sv mi ag bw mt cd s₁ BL hml hv
  obtain ⟨rfl, hP, hK⟩ := hv
  have hx := BL.exec
  have hb := BL.bytes
  have hr := BL.returns
  have hts : ∀ w ∈ lw_ok, w.before _ sv = true := fun w hw => atoms_spec (ws := wS yX1_at cX1_at 3 (Option.some Jvm.ClassFile.FieldType.int)) BL.pre w (List.mem_cons_of_mem _ hw)
  have hown : sv.vm.findClass RX1 = some mi.cls := findClass_of_methodNamed BL.named
  have hlocks := BL.notSynchronized
  have fx : CallFix pg mi cd cX1_at 3 sv _ lw_ok RX1 := ⟨hx, hb, hml, hown, hts⟩
  have hl := lv_entry ([.ref o, .int p, .int i]) (n := 3) (Nat.le_of_ble_eq_true rfl)
  rw [lg_entry_eq]
  generalize (lg_sl ([.ref o, .int p, .int i]) ++ List.replicate (3 - (lg_sl ([.ref o, .int p, .int i])).length) Slot.unset).toArray = ls at hl ⊢
  replace hl : lv_has ls 3 [(0, .ref o), (1, .int p), (2, .int i)] := hl
  obtain ⟨b0, b1, b2⟩ := hI.bd
  refine lv_aload_n hx hb dX1_at_0 rfl (lv_at hl 0 rfl) ?_
  refine lv_iload_n hx hb dX1_at_1 rfl (lv_at hl 1 rfl) ?_
  refine r_Vi (As := [.int p]) (rest := []) fx (ct_X1_isPaper l dC dI cy cz o a Z G T K p hI) fyX1_isPaper tM_RX1_63 rfl rfl ⟨Nat.le_of_ble_eq_true rfl, Nat.le_of_ble_eq_true rfl⟩ (m_pre hK hP) rfl hl.1 rfl (Nat.le_of_ble_eq_true rfl) dX1_at_2 ⟨Nat.le_of_ble_eq_true rfl, Nat.le_of_ble_eq_true rfl⟩ (fun r_2 hr_2 => ?_)
  rcases hr_2 with ⟨rfl, hr_2⟩ | ⟨rfl, hr_2⟩
  ·
    refine x_if_eq_T (tgt := 39) hx hb (by decide) dX1_at_5 (by decide) ?_
    refine lv_iconst (v := -1) hx hb dX1_at_39 (by decide) ?_
    refine W.iret (v := (-1)) hx hb hr (fun t9 ht9 hW9 => ⟨_, rfl, ?_, ht9⟩) (fun q h => by cases h) dX1_at_40
    first
    | (rw [fAt, if_pos ⟨i_p, by rw [t_p]; exact i_i⟩, t_p, t_i]; done)
    | (rw [fAt, if_neg (fun h => hr_2 h.1)]; done)
    | (rw [fAt, if_neg (fun h => hr_19 ((in_rng (by omega)).mpr (by have h2 := h.2; rw [t_p] at h2; exact h2)))]; done)
  ·
    have i_p := hr_2
    obtain ⟨p1, -, h_p1, rfl⟩ := inR_of i_p
    have t_p : tn (nI p1) = p1 := tn_nI (by omega)
    have bs := hI.sz (p := p1) (by omega)
    refine x_if_eq_F (tgt := 39) hx hb (by decide) dX1_at_5 (by decide) ?_
    refine lv_aload_n hx hb dX1_at_8 rfl (lv_at hl 0 rfl) ?_
    refine lv_iload_n hx hb dX1_at_9 rfl (lv_at hl 2 rfl) ?_
    refine lv_iconst (v := nI 0) hx hb dX1_at_10 (by decide) ?_
    refine lv_aload_n hx hb dX1_at_11 rfl (lv_at hl 0 rfl) ?_
    refine m_g8 hx hb hts hown hK hP dX1_at_12 ?_
    refine lv_iload_n hx hb dX1_at_15 rfl (lv_at hl 1 rfl) ?_
    refine m_l8 (j := p1) hx hb hK hP (by omega) dX1_at_16 ?_
    refine lv_iconst (v := nI 1) hx hb dX1_at_17 (by decide) ?_
    refine lv_isub hx hb dX1_at_18 ?_
    refine r_Vi (As := [.int i, .int (nI 0), .int ((nI (Z 8 p1)) - (nI 1))]) (rest := []) fx (ct_X1_in l dC dI cy cz o a Z G T K i ((nI 0)) (((nI (Z 8 p1)) - (nI 1)))) fyX1_in tM_RX1_51 rfl rfl ⟨Nat.le_of_ble_eq_true rfl, Nat.le_of_ble_eq_true rfl⟩ (m_pre hK hP) rfl hl.1 rfl (Nat.le_of_ble_eq_true rfl) dX1_at_19 ⟨Nat.le_of_ble_eq_true rfl, Nat.le_of_ble_eq_true rfl⟩ (fun r_19 hr_19 => ?_)
    rcases hr_19 with ⟨rfl, hr_19⟩ | ⟨rfl, hr_19⟩
    ·
      refine x_if_eq_T (tgt := 39) hx hb (by decide) dX1_at_22 (by decide) ?_
      refine lv_iconst (v := -1) hx hb dX1_at_39 (by decide) ?_
      refine W.iret (v := (-1)) hx hb hr (fun t9 ht9 hW9 => ⟨_, rfl, ?_, ht9⟩) (fun q h => by cases h) dX1_at_40
      first
      | (rw [fAt, if_pos ⟨i_p, by rw [t_p]; exact i_i⟩, t_p, t_i]; done)
      | (rw [fAt, if_neg (fun h => hr_2 h.1)]; done)
      | (rw [fAt, if_neg (fun h => hr_19 ((in_rng (by omega)).mpr (by have h2 := h.2; rw [t_p] at h2; exact h2)))]; done)
    ·
      have i_i : inR i 0 (Z 8 p1) := (in_rng (by omega)).mp hr_19
      obtain ⟨i1, -, h_i1, rfl⟩ := inR_of i_i
      have t_i : tn (nI i1) = i1 := tn_nI (by omega)
      have hro := hI.row (p := p1) (by omega) h_i1
      refine x_if_eq_F (tgt := 39) hx hb (by decide) dX1_at_22 (by decide) ?_
      refine lv_aload_n hx hb dX1_at_25 rfl (lv_at hl 0 rfl) ?_
      refine m_g7 hx hb hts hown hK hP dX1_at_26 ?_
      refine lv_bipush (v := nI 12) hx hb dX1_at_29 (by decide) ?_
      refine lv_iload_n hx hb dX1_at_31 rfl (lv_at hl 1 rfl) ?_
      refine x_imulc hx hb dX1_at_32 ?_
      refine lv_iload_n hx hb dX1_at_33 rfl (lv_at hl 2 rfl) ?_
      refine x_iadd hx hb dX1_at_34 ?_
      refine m_l7 (j := p1 * 12 + i1) hx hb hK hP (by omega) dX1_at_35 ?_
      refine lv_goto (tgt := 40) hx hb dX1_at_36 (by decide) ?_
      refine W.iret (v := (nI (Z 10 (p1 * 12 + i1)))) hx hb hr (fun t9 ht9 hW9 => ⟨_, rfl, ?_, ht9⟩) (fun q h => by cases h) dX1_at_40
      first
      | (rw [fAt, if_pos ⟨i_p, by rw [t_p]; exact i_i⟩, t_p, t_i]; done)
      | (rw [fAt, if_neg (fun h => hr_2 h.1)]; done)
      | (rw [fAt, if_neg (fun h => hr_19 ((in_rng (by omega)).mpr (by have h2 := h.2; rw [t_p] at h2; exact h2)))]; done)

set_option maxHeartbeats 4000000 in
set_option maxRecDepth 100000 in
theorem ct_X1_pupil (l : Launch) (dC : Nat → ClassId) (dI : Nat → Nat → Nat) (cy cz : ClassId) (o : Nat) (a : Nat → Nat) (Z : Nat → Nat → Nat) (G T K : Nat → Nat) (sz : Nat) (p : Int32) (k : Int32) (hI : Inv Z) (hR : MRel Z G T K) : Met l yX1_pupil (wS yX1_pupil cX1_pupil 4 (Option.some Jvm.ClassFile.FieldType.int)) (rmF 2 44) (va_Pc [.ref o, .int p, .int k] (mS dC dI cy cz o a Z G T K sz)) (va_Qi (fun r (uu : MT) => r = fPup Z p k ∧ mwE uu.1 (sPup Z p k) ∧ MRel (sPup Z p k) uu.2.1 uu.2.2.1 uu.2.2.2) (mE dC dI cy cz o a (mA cy cz o a Z G T K sz)) (mA cy cz o a Z G T K sz)) 0 0 (mA cy cz o a Z G T K sz) := by
  refine Met.ofW (cc := cX1_pupil) (maxL := 4) (ret := (Option.some Jvm.ClassFile.FieldType.int)) (by decide) rfl ?_
  intro pg en sv mi ag bw mt cd s₁ BL hml hv
  obtain ⟨rfl, hsz, hP, hK, hD0⟩ := hv
  have hx := BL.exec
  have hb := BL.bytes
  have hr := BL.returns
  have hts : ∀ w ∈ lw_ok, w.before _ sv = true := fun w hw => atoms_spec (ws := wS yX1_pupil cX1_pupil 4 (Option.some Jvm.ClassFile.FieldType.int)) BL.pre w (List.mem_cons_of_mem _ hw)
  have hown : sv.vm.findClass RX1 = some mi.cls := findClass_of_methodNamed BL.named
  have hlocks := BL.notSynchronized
  have fx : CallFix pg mi cd cX1_pupil 4 sv _ lw_ok RX1 := ⟨hx, hb, hml, hown, hts⟩
  have hl := lv_entry ([.ref o, .int p, .int k]) (n := 4) (Nat.le_of_ble_eq_true rfl)
  rw [lg_entry_eq]
  generalize (lg_sl ([.ref o, .int p, .int k]) ++ List.replicate (4 - (lg_sl ([.ref o, .int p, .int k])).length) Slot.unset).toArray = ls at hl ⊢
  replace hl : lv_has ls 4 [(0, .ref o), (1, .int p), (2, .int k)] := hl
  subst hsz
  have hD : va_D (mA cy cz o a Z G T K sv.heap.size) (mw cy cz o a Z G T K) := hD0.self (sz := sv.heap.size)
  clear hD0
  generalize hAe : mA cy cz o a Z G T K sv.heap.size = A at hD ⊢
  have hA : ∀ q : Nat, sv.heap.size ≤ q → A q := fun q h => by rw [← hAe]; exact Or.inr h
  clear hAe
  refine x_start (fun H locs eH eL => ?_)
  replace hP : va_P (dC, dI) vwCl (mw cy cz o a Z G T K) H := by rw [eH]; exact hP
  have hS : va_S A sv.heap H locs := by rw [eH, eL]; exact va_S.rf
  clear eH eL
  obtain ⟨b0, b1, b2⟩ := hI.bd
  refine lv_aload_n hx hb dX1_pupil_0 rfl (lv_at hl 0 rfl) ?_
  refine lv_iload_n hx hb dX1_pupil_1 rfl (lv_at hl 1 rfl) ?_
  refine r_Vi (As := [.int p]) (rest := []) fx (ct_X1_isPaper l dC dI cy cz o a Z G T K p hI) fyX1_isPaper tM_RX1_63 rfl rfl ⟨Nat.le_of_ble_eq_true rfl, Nat.le_of_ble_eq_true rfl⟩ (m_pre hK hP) rfl hl.1 rfl (Nat.le_of_ble_eq_true rfl) dX1_pupil_2 ⟨Nat.le_of_ble_eq_true rfl, Nat.le_of_ble_eq_true rfl⟩ (fun r_2 hr_2 => ?_)
  rcases hr_2 with ⟨rfl, hr_2⟩ | ⟨rfl, hr_2⟩
  ·
    refine x_if_eq_T (tgt := 18) hx hb (by decide) dX1_pupil_5 (by decide) ?_
    refine lv_iconst (v := -1) hx hb dX1_pupil_18 (by decide) ?_
    refine W.iret (v := (-1)) hx hb hr (fun t9 ht9 hW9 => ⟨⟨_, (Z, G, T, K), rfl, ?_, mE_mk ht9 hP hK hW9 hD⟩, hS.F ht9⟩) hS.2.2 dX1_pupil_19
    first
    | (refine ⟨?_, ?_⟩; (rw [fPup, if_neg (fun h => hr_2 h.1)]); (rw [sPup, if_neg (fun h => hr_2 h.1.1)]; exact ⟨mwE.rf _, hR⟩))
    | (refine ⟨?_, ?_⟩; (rw [fPup, if_neg (fun h => hr_12 ((in_lh (by decide) (by decide)).mpr h.2))]); (rw [sPup, if_neg (fun h => hr_12 ((in_lh (by decide) (by decide)).mpr h.1.2))]; exact ⟨mwE.rf _, hR⟩))
  ·
    have i_p := hr_2
    obtain ⟨p1, -, h_p1, rfl⟩ := inR_of i_p
    have t_p : tn (nI p1) = p1 := tn_nI (by omega)
    refine x_if_eq_F (tgt := 18) hx hb (by decide) dX1_pupil_5 (by decide) ?_
    refine lv_aload_n hx hb dX1_pupil_8 rfl (lv_at hl 0 rfl) ?_
    refine lv_iload_n hx hb dX1_pupil_9 rfl (lv_at hl 2 rfl) ?_
    refine lv_iconst (v := nI 0) hx hb dX1_pupil_10 (by decide) ?_
    refine lv_iconst (v := nI 3) hx hb dX1_pupil_11 (by decide) ?_
    refine r_Vi (As := [.int k, .int (nI 0), .int (nI 3)]) (rest := []) fx (ct_X1_in l dC dI cy cz o a Z G T K k ((nI 0)) ((nI 3))) fyX1_in tM_RX1_51 rfl rfl ⟨Nat.le_of_ble_eq_true rfl, Nat.le_of_ble_eq_true rfl⟩ (m_pre hK hP) rfl hl.1 rfl (Nat.le_of_ble_eq_true rfl) dX1_pupil_12 ⟨Nat.le_of_ble_eq_true rfl, Nat.le_of_ble_eq_true rfl⟩ (fun r_12 hr_12 => ?_)
    rcases hr_12 with ⟨rfl, hr_12⟩ | ⟨rfl, hr_12⟩
    ·
      refine x_if_ne_F (tgt := 20) hx hb (by decide) dX1_pupil_15 (by decide) ?_
      refine lv_iconst (v := -1) hx hb dX1_pupil_18 (by decide) ?_
      refine W.iret (v := (-1)) hx hb hr (fun t9 ht9 hW9 => ⟨⟨_, (Z, G, T, K), rfl, ?_, mE_mk ht9 hP hK hW9 hD⟩, hS.F ht9⟩) hS.2.2 dX1_pupil_19
      first
      | (refine ⟨?_, ?_⟩; (rw [fPup, if_neg (fun h => hr_2 h.1)]); (rw [sPup, if_neg (fun h => hr_2 h.1.1)]; exact ⟨mwE.rf _, hR⟩))
      | (refine ⟨?_, ?_⟩; (rw [fPup, if_neg (fun h => hr_12 ((in_lh (by decide) (by decide)).mpr h.2))]); (rw [sPup, if_neg (fun h => hr_12 ((in_lh (by decide) (by decide)).mpr h.1.2))]; exact ⟨mwE.rf _, hR⟩))
    ·
      have i_k : inR k 0 4 := (in_lh (lo := 0) (hi := 3) (by decide) (by decide)).mp hr_12
      obtain ⟨k1, l_k1, h_k1, rfl⟩ := inR_of i_k
      have t_k : tn (nI k1) = k1 := tn_nI (by omega)
      refine x_if_ne_T (tgt := 20) hx hb (by decide) dX1_pupil_15 (by decide) ?_
      refine lv_aload_n hx hb dX1_pupil_20 rfl (lv_at hl 0 rfl) ?_
      refine m_g2 hx hb hts hown hK hP dX1_pupil_21 ?_
      refine lv_bipush (v := nI 60) hx hb dX1_pupil_24 (by decide) ?_
      refine x_icmp_ne (x := Z 0 2) (y := 60) (tgt := 32) hx hb (by omega) (by omega) dX1_pupil_26 (by decide) (fun c_26 => ?_) (fun c_26 => ?_)
      ·
        refine lv_aload_n hx hb dX1_pupil_32 rfl (lv_at hl 0 rfl) ?_
        refine m_g9 hx hb hts hown hK hP dX1_pupil_33 ?_
        refine lv_aload_n hx hb dX1_pupil_36 rfl (lv_at hl 0 rfl) ?_
        refine m_g2 hx hb hts hown hK hP dX1_pupil_37 ?_
        refine lv_iload_n hx hb dX1_pupil_40 rfl (lv_at hl 1 rfl) ?_
        refine m_s9 (j := Z 0 2) (v := p1) hx hb hK hP hD hS (by omega) dX1_pupil_41 (fun H locs hP hD hS => ?_)
        refine lv_aload_n hx hb dX1_pupil_42 rfl (lv_at hl 0 rfl) ?_
        refine m_g10 hx hb hts hown hK hP dX1_pupil_43 ?_
        refine lv_aload_n hx hb dX1_pupil_46 rfl (lv_at hl 0 rfl) ?_
        refine m_g2 hx hb hts hown hK hP dX1_pupil_47 ?_
        refine W.eq (g2 := F0 mi 50 ls [.int (nI (Z 0 2)), .ref (a 10)]) rfl ?_
        refine lv_iload_n hx hb dX1_pupil_50 rfl (lv_at hl 2 rfl) ?_
        refine m_s10 (j := Z 0 2) (v := k1) hx hb hK hP hD hS (by omega) dX1_pupil_51 (fun H locs hP hD hS => ?_)
        refine lv_iconst (v := nI 0) hx hb dX1_pupil_52 (by decide) ?_
        refine lv_istore_n (lv' := [(3, .int (nI 0)), (0, .ref o), (1, .int (nI p1)), (2, .int (nI k1))]) hx hb dX1_pupil_53 rfl hl (by decide) rfl (fun ls hl => ?_)
        obtain ⟨j, ej⟩ : ∃ j : Nat, j = 0 := ⟨_, rfl⟩
        replace hl : lv_has ls 4 [(3, .int (nI j)), (0, .ref o), (1, .int (nI p1)), (2, .int (nI k1))] := by subst ej; exact lv_sub hl [0, 1, 2, 3] rfl
        obtain ⟨G1, eG1⟩ : ∃ G1 : Nat → Nat, G1 = G := ⟨_, rfl⟩
        rw [← eG1] at hP hD
        have hj : j ≤ 12 := by subst ej eG1; omega
        have hG : G1 = gFill G (Z 0 2) j := by subst ej eG1; exact (gFill_0 _ _).symm
        clear ej eG1
        obtain ⟨n54, hn54⟩ : ∃ n_0 : Nat, 12 - j < n_0 := ⟨_, Nat.lt_succ_self _⟩
        induction n54 generalizing H locs G1 j ls with
        | zero => exact absurd hn54 (Nat.not_lt_zero _)
        | succ n54 ih54 =>
          refine lv_iload_n hx hb dX1_pupil_54 rfl (lv_at hl 0 rfl) ?_
          refine lv_bipush (v := nI 12) hx hb dX1_pupil_55 (by decide) ?_
          refine x_icmp_ge (x := j) (y := 12) (tgt := 81) hx hb (by omega) (by omega) dX1_pupil_57 (by decide) (fun c_57 => ?_) (fun c_57 => ?_)
          ·
            obtain rfl : j = 12 := by omega
            have hn60 : Z 0 2 < 60 := by omega
            refine lv_aload_n hx hb dX1_pupil_81 rfl (lv_at hl 1 rfl) ?_
            refine lv_dup hx hb dX1_pupil_82 rfl ?_
            refine m_g2 hx hb hts hown hK hP dX1_pupil_83 ?_
            refine W.eq (g2 := F0 mi 86 ls [.int (nI (Z 0 2)), .ref o]) rfl ?_
            refine lv_iconst (v := nI 1) hx hb dX1_pupil_86 (by decide) ?_
            refine x_iadd hx hb dX1_pupil_87 ?_
            refine m_p2 (v := (Z 0 2) + 1) hx hb hts hown hK hP hD hS dX1_pupil_88 (fun H locs hP hD hS => ?_)
            refine lv_aload_n hx hb dX1_pupil_91 rfl (lv_at hl 1 rfl) ?_
            refine m_g2 hx hb hts hown hK hP dX1_pupil_92 ?_
            refine W.eq (g2 := F0 mi 95 ls [.int (nI (Z 0 2 + 1))]) rfl ?_
            refine lv_iconst (v := nI 1) hx hb dX1_pupil_95 (by decide) ?_
            refine x_isub hx hb (by omega) dX1_pupil_96 ?_
            refine W.iret (v := (nI ((Z 0 2 + 1) - 1))) hx hb hr (fun t9 ht9 hW9 => ⟨⟨_, (zu (zu (zu Z 11 (Z 0 2) p1) 12 (Z 0 2) k1) 0 2 ((Z 0 2) + 1), G1, T, K), rfl, ?_, mE_mk ht9 hP hK hW9 hD⟩, hS.F ht9⟩) hS.2.2 dX1_pupil_97
            refine ⟨by rw [fPup, if_pos ⟨i_p, i_k⟩, if_pos hn60] <;> rfl, ?_⟩
            rw [sPup, if_pos ⟨⟨i_p, i_k⟩, hn60⟩, t_p, t_k]
            exact ⟨mwE.rf _, by rw [hG]; exact hR.pup hI hn60⟩
          ·
            refine lv_aload_n hx hb dX1_pupil_60 rfl (lv_at hl 1 rfl) ?_
            refine m_g11 hx hb hts hown hK hP dX1_pupil_61 ?_
            refine lv_bipush (v := nI 12) hx hb dX1_pupil_64 (by decide) ?_
            refine lv_aload_n hx hb dX1_pupil_66 rfl (lv_at hl 1 rfl) ?_
            refine m_g2 hx hb hts hown hK hP dX1_pupil_67 ?_
            refine W.eq (g2 := F0 mi 70 ls [.int (nI (Z 0 2)), .int (nI 12), .ref (a 11)]) rfl ?_
            refine x_imulc hx hb dX1_pupil_70 ?_
            refine lv_iload_n hx hb dX1_pupil_71 rfl (lv_at hl 0 rfl) ?_
            refine x_iadd hx hb dX1_pupil_72 ?_
            refine lv_iconst (v := -1) hx hb dX1_pupil_73 (by decide) ?_
            refine W.eq (g2 := F0 mi 74 ls [.int (gv (0)), .int (nI (((Z 0 2) * 12) + j)), .ref (a 11)]) rfl ?_
            refine m_s11 (j := ((Z 0 2) * 12) + j) (v := 0) hx hb hK hP hD hS (by omega) dX1_pupil_74 (fun H locs hP hD hS => ?_)
            refine lv_iinc (v := nI (j + 1)) (lv' := [(3, .int (nI (j + 1))), (0, .ref o), (1, .int (nI p1)), (2, .int (nI k1))]) hx hb dX1_pupil_75 hl (k := 0) rfl (x_inc1 _) (by decide) rfl (fun ls hl => ?_)
            refine lv_goto (tgt := 54) hx hb dX1_pupil_78 (by decide) ?_
            exact ih54 (H := H) (locs := locs) (ls := ls) (G1 := (ru G1 (((Z 0 2) * 12) + j) 0)) (j := (j + 1)) (hl := lv_sub hl [0, 1, 2, 3] rfl) (hP := hP) (hD := hD) (hS := hS) (hj := (by omega)) (hG := (by rw [hG]; exact gFill_s G (Z 0 2) j)) (hn54 := by omega)
      ·
        refine lv_bipush (v := -4) hx hb dX1_pupil_29 (by decide) ?_
        refine W.iret (v := (-4)) hx hb hr (fun t9 ht9 hW9 => ⟨⟨_, (Z, G, T, K), rfl, ?_, mE_mk ht9 hP hK hW9 hD⟩, hS.F ht9⟩) hS.2.2 dX1_pupil_31
        refine ⟨by rw [fPup, if_pos ⟨i_p, i_k⟩, if_neg (by omega)], ?_⟩
        rw [sPup, if_neg (fun h => by have h2 := h.2; omega)]
        exact ⟨mwE.rf _, hR⟩

set_option maxHeartbeats 4000000 in
set_option maxRecDepth 100000 in
theorem ct_X1_answer (l : Launch) (dC : Nat → ClassId) (dI : Nat → Nat → Nat) (cy cz : ClassId) (o : Nat) (a : Nat → Nat) (Z : Nat → Nat → Nat) (G T K : Nat → Nat) (sz : Nat) (u : Int32) (q : Int32) (v : Int32) (hI : Inv Z) (hR : MRel Z G T K) : Met l yX1_answer (wS yX1_answer cX1_answer 5 (Option.some Jvm.ClassFile.FieldType.int)) (rmF 3 66) (va_Pc [.ref o, .int u, .int q, .int v] (mS dC dI cy cz o a Z G T K sz)) (va_Qi (fun r (uu : MT) => r = fAns Z u q v ∧ mwE uu.1 (sAns Z u q v) ∧ MRel (sAns Z u q v) uu.2.1 uu.2.2.1 uu.2.2.2) (mE dC dI cy cz o a (mA cy cz o a Z G T K sz)) (mA cy cz o a Z G T K sz)) 0 0 (mA cy cz o a Z G T K sz) := by
  refine Met.ofW (cc := cX1_answer) (maxL := 5) (ret := (Option.some Jvm.ClassFile.FieldType.int)) (by decide) rfl ?_
  intro pg en sv mi ag bw mt cd s₁ BL hml hv
  obtain ⟨rfl, hsz, hP, hK, hD0⟩ := hv
  have hx := BL.exec
  have hb := BL.bytes
  have hr := BL.returns
  have hts : ∀ w ∈ lw_ok, w.before _ sv = true := fun w hw => atoms_spec (ws := wS yX1_answer cX1_answer 5 (Option.some Jvm.ClassFile.FieldType.int)) BL.pre w (List.mem_cons_of_mem _ hw)
  have hown : sv.vm.findClass RX1 = some mi.cls := findClass_of_methodNamed BL.named
  have hlocks := BL.notSynchronized
  have fx : CallFix pg mi cd cX1_answer 5 sv _ lw_ok RX1 := ⟨hx, hb, hml, hown, hts⟩
  have hl := lv_entry ([.ref o, .int u, .int q, .int v]) (n := 5) (Nat.le_of_ble_eq_true rfl)
  rw [lg_entry_eq]
  generalize (lg_sl ([.ref o, .int u, .int q, .int v]) ++ List.replicate (5 - (lg_sl ([.ref o, .int u, .int q, .int v])).length) Slot.unset).toArray = ls at hl ⊢
  replace hl : lv_has ls 5 [(0, .ref o), (1, .int u), (2, .int q), (3, .int v)] := hl
  subst hsz
  have hD : va_D (mA cy cz o a Z G T K sv.heap.size) (mw cy cz o a Z G T K) := hD0.self (sz := sv.heap.size)
  clear hD0
  generalize hAe : mA cy cz o a Z G T K sv.heap.size = A at hD ⊢
  have hA : ∀ q : Nat, sv.heap.size ≤ q → A q := fun q h => by rw [← hAe]; exact Or.inr h
  clear hAe
  refine x_start (fun H locs eH eL => ?_)
  replace hP : va_P (dC, dI) vwCl (mw cy cz o a Z G T K) H := by rw [eH]; exact hP
  have hS : va_S A sv.heap H locs := by rw [eH, eL]; exact va_S.rf
  clear eH eL
  obtain ⟨b0, b1, b2⟩ := hI.bd
  refine lv_aload_n hx hb dX1_answer_0 rfl (lv_at hl 0 rfl) ?_
  refine lv_iload_n hx hb dX1_answer_1 rfl (lv_at hl 1 rfl) ?_
  refine lv_iload_n hx hb dX1_answer_2 rfl (lv_at hl 2 rfl) ?_
  refine r_Vi (As := [.int u, .int q]) (rest := []) fx (ct_X1_own l dC dI cy cz o a Z G T K u q hI) fyX1_own tM_RX1_77 rfl rfl ⟨Nat.le_of_ble_eq_true rfl, Nat.le_of_ble_eq_true rfl⟩ (m_pre hK hP) rfl hl.1 rfl (Nat.le_of_ble_eq_true rfl) dX1_answer_3 ⟨Nat.le_of_ble_eq_true rfl, Nat.le_of_ble_eq_true rfl⟩ (fun r_3 hr_3 => ?_)
  rcases hr_3 with ⟨rfl, ho_3⟩ | ⟨x_3, y_3, i_3, hx_3, hy_3, eu_3, eq_3, hi_3, hs_3, hr_3, ho_3, rfl⟩
  ·
    refine lv_istore (lv' := [(4, .int (-1)), (0, .ref o), (1, .int u), (2, .int q), (3, .int v)]) hx hb dX1_answer_6 hl (by decide) rfl (fun ls hl => ?_)
    refine lv_iload hx hb dX1_answer_8 (lv_at hl 0 rfl) ?_
    refine x_if_ge_F (tgt := 15) hx hb (by decide) dX1_answer_10 (by decide) ?_
    refine lv_iconst (v := -1) hx hb dX1_answer_13 (by decide) ?_
    refine W.iret (v := (-1)) hx hb hr (fun t9 ht9 hW9 => ⟨⟨_, (Z, G, T, K), rfl, ?_, mE_mk ht9 hP hK hW9 hD⟩, hS.F ht9⟩) hS.2.2 dX1_answer_14
    refine ⟨by rw [fAns, if_neg ho_3], ?_⟩
    rw [sAns, if_neg (fun h => ho_3 h.1)]
    exact ⟨mwE.rf _, hR⟩
  ·
    subst eu_3 eq_3
    have t_u : tn (nI x_3) = x_3 := tn_nI (by omega)
    have t_q : tn (nI y_3) = y_3 := tn_nI (by omega)
    have hpu := hI.pu hx_3
    have bs := hI.sz (p := Z 11 x_3) (by omega)
    have hspo : spo Z (nI x_3) (nI y_3) = i_3 := by show spt Z (Z 11 (tn (nI x_3))) (tn (nI y_3)) = i_3; rw [t_u, t_q]; exact hs_3
    have htt := topA_le hI hy_3
    refine lv_istore (lv' := [(4, .int (nI i_3)), (0, .ref o), (1, .int (nI x_3)), (2, .int (nI y_3)), (3, .int v)]) hx hb dX1_answer_6 hl (by decide) rfl (fun ls hl => ?_)
    refine lv_iload hx hb dX1_answer_8 (lv_at hl 0 rfl) ?_
    refine x_if_ge_T (tgt := 15) hx hb (nI_pos' (by omega)) dX1_answer_10 (by decide) ?_
    refine lv_aload_n hx hb dX1_answer_15 rfl (lv_at hl 1 rfl) ?_
    refine lv_iload_n hx hb dX1_answer_16 rfl (lv_at hl 3 rfl) ?_
    refine lv_iload_n hx hb dX1_answer_17 rfl (lv_at hl 4 rfl) ?_
    refine r_Vi (As := [.int (nI y_3), .int v]) (rest := []) fx (ct_X1_isAnswer l dC dI cy cz o a Z G T K y_3 v hI (by first | assumption | omega)) fyX1_isAnswer tM_RX1_80 rfl rfl ⟨Nat.le_of_ble_eq_true rfl, Nat.le_of_ble_eq_true rfl⟩ (m_pre hK hP) rfl hl.1 rfl (Nat.le_of_ble_eq_true rfl) dX1_answer_18 ⟨Nat.le_of_ble_eq_true rfl, Nat.le_of_ble_eq_true rfl⟩ (fun r_18 hr_18 => ?_)
    rcases hr_18 with ⟨rfl, hr_18⟩ | ⟨rfl, hr_18⟩
    ·
      refine x_if_ne_F (tgt := 27) hx hb (by decide) dX1_answer_21 (by decide) ?_
      refine lv_bipush (v := -2) hx hb dX1_answer_24 (by decide) ?_
      refine W.iret (v := (-2)) hx hb hr (fun t9 ht9 hW9 => ⟨⟨_, (Z, G, T, K), rfl, ?_, mE_mk ht9 hP hK hW9 hD⟩, hS.F ht9⟩) hS.2.2 dX1_answer_26
      refine ⟨by rw [fAns, if_pos ho_3, if_neg (by rw [t_q]; exact hr_18)], ?_⟩
      rw [sAns, if_neg (fun h => hr_18 (by have h2 := h.2; rw [t_q] at h2; exact h2))]
      exact ⟨mwE.rf _, hR⟩
    ·
      have i_v := hr_18
      obtain ⟨v1, -, h_v1, rfl⟩ := inR_of i_v
      have t_v : tn (nI v1) = v1 := tn_nI (by omega)
      have hok : okA Z y_3 v1 := by show v1 ≤ topA Z y_3; omega
      refine x_if_ne_T (tgt := 27) hx hb (by decide) dX1_answer_21 (by decide) ?_
      refine lv_aload_n hx hb dX1_answer_27 rfl (lv_at hl 1 rfl) ?_
      refine m_g11 hx hb hts hown hK hP dX1_answer_28 ?_
      refine lv_bipush (v := nI 12) hx hb dX1_answer_31 (by decide) ?_
      refine lv_iload_n hx hb dX1_answer_33 rfl (lv_at hl 2 rfl) ?_
      refine x_imulc hx hb dX1_answer_34 ?_
      refine lv_iload hx hb dX1_answer_35 (lv_at hl 0 rfl) ?_
      refine x_iadd hx hb dX1_answer_37 ?_
      refine lv_iload_n hx hb dX1_answer_38 rfl (lv_at hl 4 rfl) ?_
      refine W.eq (g2 := F0 mi 39 ls [.int (gv (v1 + 1)), .int (nI (x_3 * 12 + i_3)), .ref (a 11)]) (by rw [gv_s]) ?_
      refine m_s11 (j := x_3 * 12 + i_3) (v := v1 + 1) hx hb hK hP hD hS (by omega) dX1_answer_39 (fun H locs hP hD hS => ?_)
      refine lv_aload_n hx hb dX1_answer_40 rfl (lv_at hl 1 rfl) ?_
      refine lv_iload_n hx hb dX1_answer_41 rfl (lv_at hl 3 rfl) ?_
      refine lv_iload_n hx hb dX1_answer_42 rfl (lv_at hl 4 rfl) ?_
      refine r_Vi (As := [.int (nI y_3), .int (nI v1)]) (rest := []) fx (ct_X1_worth l dC dI cy cz o a Z (ru G (x_3 * 12 + i_3) (v1 + 1)) T K y_3 v1 hI (by first | assumption | omega) (by first | assumption | omega)) fyX1_worth tM_RX1_83 rfl rfl ⟨Nat.le_of_ble_eq_true rfl, Nat.le_of_ble_eq_true rfl⟩ (m_pre hK hP) rfl hl.1 rfl (Nat.le_of_ble_eq_true rfl) dX1_answer_43 ⟨Nat.le_of_ble_eq_true rfl, Nat.le_of_ble_eq_true rfl⟩ (fun r_43 hr_43 => ?_)
      subst hr_43
      refine W.iret (v := (nI (wor Z y_3 v1))) hx hb hr (fun t9 ht9 hW9 => ⟨⟨_, (Z, ru G (x_3 * 12 + i_3) (v1 + 1), T, K), rfl, ?_, mE_mk ht9 hP hK hW9 hD⟩, hS.F ht9⟩) hS.2.2 dX1_answer_46
      refine ⟨by rw [fAns, if_pos ho_3, if_pos (by rw [t_q]; exact i_v), t_q, t_v], ?_⟩
      rw [sAns, if_pos ⟨ho_3, by rw [t_q]; exact i_v⟩, hspo, t_u, t_v]
      exact ⟨⟨rfl, rfl, rfl, rfl, rfl, rfl, rfl, rfl, rfl, rfl⟩, hR.an (by omega)⟩

set_option maxHeartbeats 4000000 in
set_option maxRecDepth 100000 in
theorem ct_X1_gap (l : Launch) (dC : Nat → ClassId) (dI : Nat → Nat → Nat) (cy cz : ClassId) (o : Nat) (a : Nat → Nat) (Z : Nat → Nat → Nat) (G T K : Nat → Nat) (sz : Nat) (u : Int32) (q : Int32) (hI : Inv Z) (hR : MRel Z G T K) : Met l yX1_gap (wS yX1_gap cX1_gap 5 (Option.some Jvm.ClassFile.FieldType.int)) (rmF 3 66) (va_Pc [.ref o, .int u, .int q] (mS dC dI cy cz o a Z G T K sz)) (va_Qi (fun r (uu : MT) => r = fGap Z u q ∧ mwE uu.1 (sGap Z u q) ∧ MRel (sGap Z u q) uu.2.1 uu.2.2.1 uu.2.2.2) (mE dC dI cy cz o a (mA cy cz o a Z G T K sz)) (mA cy cz o a Z G T K sz)) 0 0 (mA cy cz o a Z G T K sz) := by
  refine Met.ofW (cc := cX1_gap) (maxL := 5) (ret := (Option.some Jvm.ClassFile.FieldType.int)) (by decide) rfl ?_
  intro pg en sv mi ag bw mt cd s₁ BL hml hv
  obtain ⟨rfl, hsz, hP, hK, hD0⟩ := hv
  have hx := BL.exec
  have hb := BL.bytes
  have hr := BL.returns
  have hts : ∀ w ∈ lw_ok, w.before _ sv = true := fun w hw => atoms_spec (ws := wS yX1_gap cX1_gap 5 (Option.some Jvm.ClassFile.FieldType.int)) BL.pre w (List.mem_cons_of_mem _ hw)
  have hown : sv.vm.findClass RX1 = some mi.cls := findClass_of_methodNamed BL.named
  have hlocks := BL.notSynchronized
  have fx : CallFix pg mi cd cX1_gap 5 sv _ lw_ok RX1 := ⟨hx, hb, hml, hown, hts⟩
  have hl := lv_entry ([.ref o, .int u, .int q]) (n := 5) (Nat.le_of_ble_eq_true rfl)
  rw [lg_entry_eq]
  generalize (lg_sl ([.ref o, .int u, .int q]) ++ List.replicate (5 - (lg_sl ([.ref o, .int u, .int q])).length) Slot.unset).toArray = ls at hl ⊢
  replace hl : lv_has ls 5 [(0, .ref o), (1, .int u), (2, .int q)] := hl
  subst hsz
  have hD : va_D (mA cy cz o a Z G T K sv.heap.size) (mw cy cz o a Z G T K) := hD0.self (sz := sv.heap.size)
  clear hD0
  generalize hAe : mA cy cz o a Z G T K sv.heap.size = A at hD ⊢
  have hA : ∀ q : Nat, sv.heap.size ≤ q → A q := fun q h => by rw [← hAe]; exact Or.inr h
  clear hAe
  refine x_start (fun H locs eH eL => ?_)
  replace hP : va_P (dC, dI) vwCl (mw cy cz o a Z G T K) H := by rw [eH]; exact hP
  have hS : va_S A sv.heap H locs := by rw [eH, eL]; exact va_S.rf
  clear eH eL
  obtain ⟨b0, b1, b2⟩ := hI.bd
  refine lv_aload_n hx hb dX1_gap_0 rfl (lv_at hl 0 rfl) ?_
  refine lv_iload_n hx hb dX1_gap_1 rfl (lv_at hl 1 rfl) ?_
  refine lv_iload_n hx hb dX1_gap_2 rfl (lv_at hl 2 rfl) ?_
  refine r_Vi (As := [.int u, .int q]) (rest := []) fx (ct_X1_own l dC dI cy cz o a Z G T K u q hI) fyX1_own tM_RX1_77 rfl rfl ⟨Nat.le_of_ble_eq_true rfl, Nat.le_of_ble_eq_true rfl⟩ (m_pre hK hP) rfl hl.1 rfl (Nat.le_of_ble_eq_true rfl) dX1_gap_3 ⟨Nat.le_of_ble_eq_true rfl, Nat.le_of_ble_eq_true rfl⟩ (fun r_3 hr_3 => ?_)
  rcases hr_3 with ⟨rfl, ho_3⟩ | ⟨x_3, y_3, i_3, hx_3, hy_3, eu_3, eq_3, hi_3, hs_3, hr_3, ho_3, rfl⟩
  ·
    refine lv_istore_n (lv' := [(3, .int (-1)), (0, .ref o), (1, .int u), (2, .int q)]) hx hb dX1_gap_6 rfl hl (by decide) rfl (fun ls hl => ?_)
    refine lv_iload_n hx hb dX1_gap_7 rfl (lv_at hl 0 rfl) ?_
    refine x_if_ge_F (tgt := 13) hx hb (by decide) dX1_gap_8 (by decide) ?_
    refine lv_iconst (v := -1) hx hb dX1_gap_11 (by decide) ?_
    refine W.iret (v := (-1)) hx hb hr (fun t9 ht9 hW9 => ⟨⟨_, (Z, G, T, K), rfl, ?_, mE_mk ht9 hP hK hW9 hD⟩, hS.F ht9⟩) hS.2.2 dX1_gap_12
    refine ⟨by rw [fGap, if_neg ho_3], ?_⟩
    rw [sGap, if_neg ho_3]
    exact ⟨mwE.rf _, hR⟩
  ·
    subst eu_3 eq_3
    have t_u : tn (nI x_3) = x_3 := tn_nI (by omega)
    have t_q : tn (nI y_3) = y_3 := tn_nI (by omega)
    have hpu := hI.pu hx_3
    have bs := hI.sz (p := Z 11 x_3) (by omega)
    have hspo : spo Z (nI x_3) (nI y_3) = i_3 := by show spt Z (Z 11 (tn (nI x_3))) (tn (nI y_3)) = i_3; rw [t_u, t_q]; exact hs_3
    refine lv_istore_n (lv' := [(3, .int (nI i_3)), (0, .ref o), (1, .int (nI x_3)), (2, .int (nI y_3))]) hx hb dX1_gap_6 rfl hl (by decide) rfl (fun ls hl => ?_)
    refine lv_iload_n hx hb dX1_gap_7 rfl (lv_at hl 0 rfl) ?_
    refine x_if_ge_T (tgt := 13) hx hb (nI_pos' (by omega)) dX1_gap_8 (by decide) ?_
    refine lv_aload_n hx hb dX1_gap_13 rfl (lv_at hl 1 rfl) ?_
    refine m_g11 hx hb hts hown hK hP dX1_gap_14 ?_
    refine lv_bipush (v := nI 12) hx hb dX1_gap_17 (by decide) ?_
    refine lv_iload_n hx hb dX1_gap_19 rfl (lv_at hl 2 rfl) ?_
    refine x_imulc hx hb dX1_gap_20 ?_
    refine lv_iload_n hx hb dX1_gap_21 rfl (lv_at hl 0 rfl) ?_
    refine x_iadd hx hb dX1_gap_22 ?_
    refine m_l11 (j := x_3 * 12 + i_3) hx hb hK hP (by omega) dX1_gap_23 ?_
    rw [hR.g hx_3 (show i_3 < 12 by omega)]
    refine lv_istore (lv' := [(4, .int (gv (Z 13 (x_3 * 12 + i_3)))), (3, .int (nI i_3)), (0, .ref o), (1, .int (nI x_3)), (2, .int (nI y_3))]) hx hb dX1_gap_24 hl (by decide) rfl (fun ls hl => ?_)
    refine lv_aload_n hx hb dX1_gap_26 rfl (lv_at hl 2 rfl) ?_
    refine m_g11 hx hb hts hown hK hP dX1_gap_27 ?_
    refine lv_bipush (v := nI 12) hx hb dX1_gap_30 (by decide) ?_
    refine lv_iload_n hx hb dX1_gap_32 rfl (lv_at hl 3 rfl) ?_
    refine x_imulc hx hb dX1_gap_33 ?_
    refine lv_iload_n hx hb dX1_gap_34 rfl (lv_at hl 1 rfl) ?_
    refine x_iadd hx hb dX1_gap_35 ?_
    refine lv_iconst (v := -1) hx hb dX1_gap_36 (by decide) ?_
    refine W.eq (g2 := F0 mi 37 ls [.int (gv (0)), .int (nI (x_3 * 12 + i_3)), .ref (a 11)]) rfl ?_
    refine m_s11 (j := x_3 * 12 + i_3) (v := 0) hx hb hK hP hD hS (by omega) dX1_gap_37 (fun H locs hP hD hS => ?_)
    refine lv_iload hx hb dX1_gap_38 (lv_at hl 0 rfl) ?_
    refine W.iret (v := (gv (Z 13 (x_3 * 12 + i_3)))) hx hb hr (fun t9 ht9 hW9 => ⟨⟨_, (Z, ru G (x_3 * 12 + i_3) 0, T, K), rfl, ?_, mE_mk ht9 hP hK hW9 hD⟩, hS.F ht9⟩) hS.2.2 dX1_gap_40
    refine ⟨by rw [fGap, if_pos ho_3, hspo, t_u], ?_⟩
    rw [sGap, if_pos ho_3, hspo, t_u]
    exact ⟨⟨rfl, rfl, rfl, rfl, rfl, rfl, rfl, rfl, rfl, rfl⟩, hR.an (by omega)⟩

set_option maxHeartbeats 4000000 in
set_option maxRecDepth 100000 in
theorem ct_X1_row (l : Launch) (dC : Nat → ClassId) (dI : Nat → Nat → Nat) (cy cz : ClassId) (o : Nat) (a : Nat → Nat) (Z : Nat → Nat → Nat) (G T K : Nat → Nat) (sz : Nat) (u : Int32) (w : Int64) (hI : Inv Z) (hR : MRel Z G T K) : Met l yX1_row (wS yX1_row cX1_row 7 (Option.some Jvm.ClassFile.FieldType.int)) (rmF 2 46) (va_Pc [.ref o, .int u, .long w] (mS dC dI cy cz o a Z G T K sz)) (va_Qi (fun r (uu : MT) => r = fRow Z u w ∧ mwE uu.1 (sRow Z u w) ∧ MRel (sRow Z u w) uu.2.1 uu.2.2.1 uu.2.2.2) (mE dC dI cy cz o a (mA cy cz o a Z G T K sz)) (mA cy cz o a Z G T K sz)) 0 0 (mA cy cz o a Z G T K sz) := by
  refine Met.ofW (cc := cX1_row) (maxL := 7) (ret := (Option.some Jvm.ClassFile.FieldType.int)) (by decide) rfl ?_
  intro pg en sv mi ag bw mt cd s₁ BL hml hv
  obtain ⟨rfl, hsz, hP, hK, hD0⟩ := hv
  have hx := BL.exec
  have hb := BL.bytes
  have hr := BL.returns
  have hts : ∀ w ∈ lw_ok, w.before _ sv = true := fun w hw => atoms_spec (ws := wS yX1_row cX1_row 7 (Option.some Jvm.ClassFile.FieldType.int)) BL.pre w (List.mem_cons_of_mem _ hw)
  have hown : sv.vm.findClass RX1 = some mi.cls := findClass_of_methodNamed BL.named
  have hlocks := BL.notSynchronized
  have fx : CallFix pg mi cd cX1_row 7 sv _ lw_ok RX1 := ⟨hx, hb, hml, hown, hts⟩
  have hl := lv_entry ([.ref o, .int u, .long w]) (n := 7) (Nat.le_of_ble_eq_true rfl)
  rw [lg_entry_eq]
  generalize (lg_sl ([.ref o, .int u, .long w]) ++ List.replicate (7 - (lg_sl ([.ref o, .int u, .long w])).length) Slot.unset).toArray = ls at hl ⊢
  replace hl : lv_has ls 7 [(0, .ref o), (1, .int u), (2, .long w)] := hl
  subst hsz
  have hD : va_D (mA cy cz o a Z G T K sv.heap.size) (mw cy cz o a Z G T K) := hD0.self (sz := sv.heap.size)
  clear hD0
  generalize hAe : mA cy cz o a Z G T K sv.heap.size = A at hD ⊢
  have hA : ∀ q : Nat, sv.heap.size ≤ q → A q := fun q h => by rw [← hAe]; exact Or.inr h
  clear hAe
  refine x_start (fun H locs eH eL => ?_)
  replace hP : va_P (dC, dI) vwCl (mw cy cz o a Z G T K) H := by rw [eH]; exact hP
  have hS : va_S A sv.heap H locs := by rw [eH, eL]; exact va_S.rf
  clear eH eL
  obtain ⟨b0, b1, b2⟩ := hI.bd
  refine lv_aload_n hx hb dX1_row_0 rfl (lv_at hl 0 rfl) ?_
  refine lv_iload_n hx hb dX1_row_1 rfl (lv_at hl 1 rfl) ?_
  refine r_Vi (As := [.int u]) (rest := []) fx (ct_X1_isPupil l dC dI cy cz o a Z G T K u hI) fyX1_isPupil tM_RX1_74 rfl rfl ⟨Nat.le_of_ble_eq_true rfl, Nat.le_of_ble_eq_true rfl⟩ (m_pre hK hP) rfl hl.1 rfl (Nat.le_of_ble_eq_true rfl) dX1_row_2 ⟨Nat.le_of_ble_eq_true rfl, Nat.le_of_ble_eq_true rfl⟩ (fun r_2 hr_2 => ?_)
  rcases hr_2 with ⟨rfl, hr_2⟩ | ⟨rfl, hr_2⟩
  ·
    refine x_if_ne_F (tgt := 10) hx hb (by decide) dX1_row_5 (by decide) ?_
    refine lv_iconst (v := -1) hx hb dX1_row_8 (by decide) ?_
    refine W.iret (v := (-1)) hx hb hr (fun t9 ht9 hW9 => ⟨⟨_, (Z, G, T, K), rfl, ?_, mE_mk ht9 hP hK hW9 hD⟩, hS.F ht9⟩) hS.2.2 dX1_row_9
    refine ⟨by rw [fRow, if_neg hr_2], ?_⟩
    rw [sRow, if_neg hr_2]
    exact ⟨mwE.rf _, hR⟩
  ·
    have i_u := hr_2
    obtain ⟨u1, -, h_u1, rfl⟩ := inR_of i_u
    have t_u : tn (nI u1) = u1 := tn_nI (by omega)
    have hpu := hI.pu h_u1
    have bs := hI.sz (p := Z 11 u1) (by omega)
    have hre := rEnd_le Z u1
    refine x_if_ne_T (tgt := 10) hx hb (by decide) dX1_row_5 (by decide) ?_
    refine lv_aload_n hx hb dX1_row_10 rfl (lv_at hl 0 rfl) ?_
    refine m_g9 hx hb hts hown hK hP dX1_row_11 ?_
    refine lv_iload_n hx hb dX1_row_14 rfl (lv_at hl 1 rfl) ?_
    refine m_l9 (j := u1) hx hb hK hP (by omega) dX1_row_15 ?_
    refine lv_istore (lv' := [(4, .int (nI (Z 11 u1))), (0, .ref o), (1, .int (nI u1)), (2, .long w)]) hx hb dX1_row_16 hl (by decide) rfl (fun ls hl => ?_)
    refine lv_iconst (v := nI 0) hx hb dX1_row_18 (by decide) ?_
    refine lv_istore (lv' := [(5, .int (nI 0)), (4, .int (nI (Z 11 u1))), (0, .ref o), (1, .int (nI u1)), (2, .long w)]) hx hb dX1_row_19 hl (by decide) rfl (fun ls hl => ?_)
    obtain ⟨j, ej⟩ : ∃ j : Nat, j = 0 := ⟨_, rfl⟩
    replace hl : lv_has ls 7 [(5, .int (nI j)), (4, .int (nI (Z 11 u1))), (0, .ref o), (1, .int (nI u1)), (2, .long w)] := by subst ej; exact lv_sub hl [0, 1, 2, 3, 4] rfl
    obtain ⟨G1, eG1⟩ : ∃ G1 : Nat → Nat, G1 = G := ⟨_, rfl⟩
    rw [← eG1] at hP hD
    have hj : j ≤ rEnd Z u1 := by subst ej eG1; omega
    have hR1 : MRel (sRow0 Z u1 w j) G1 T K := by subst ej eG1; rw [row0_0]; exact hR
    have hst : ∀ i, i < j → stopB Z u1 w i = false := by subst ej eG1; intro i hi; omega
    clear ej eG1
    obtain ⟨n21, hn21⟩ : ∃ n_0 : Nat, rEnd Z u1 - j < n_0 := ⟨_, Nat.lt_succ_self _⟩
    induction n21 generalizing H locs G1 j ls with
    | zero => exact absurd hn21 (Nat.not_lt_zero _)
    | succ n21 ih21 =>
      refine lv_iload hx hb dX1_row_21 (lv_at hl 0 rfl) ?_
      refine lv_bipush (v := nI 8) hx hb dX1_row_23 (by decide) ?_
      refine x_icmp_ge (x := j) (y := 8) (tgt := 130) hx hb (by omega) (by omega) dX1_row_25 (by decide) (fun c_25 => ?_) (fun c_25 => ?_)
      ·
        refine lv_iload hx hb dX1_row_130 (lv_at hl 0 rfl) ?_
        refine W.iret (v := (nI j)) hx hb hr (fun t9 ht9 hW9 => ⟨⟨_, (Z, G1, T, K), rfl, ?_, mE_mk ht9 hP hK hW9 hD⟩, hS.F ht9⟩) hS.2.2 dX1_row_132
        have hj2 : j = rEnd Z u1 := by
          have h6 := rEnd_le Z u1
          first | omega | (unfold rEnd at hj h6 ⊢; split at hj <;> omega)
        have hN : rN Z u1 w = j := first_eq hj hst (Or.inl hj2)
        refine ⟨by rw [fRow, if_pos i_u, t_u, hN], ?_⟩
        rw [sRow, if_pos i_u, t_u, hN]
        exact ⟨⟨rfl, rfl, rfl, rfl, rfl, rfl, rfl, rfl, rfl, rfl⟩, hR1⟩
      ·
        refine lv_iload hx hb dX1_row_28 (lv_at hl 0 rfl) ?_
        refine lv_aload_n hx hb dX1_row_30 rfl (lv_at hl 2 rfl) ?_
        refine m_g8 hx hb hts hown hK hP dX1_row_31 ?_
        refine lv_iload hx hb dX1_row_34 (lv_at hl 1 rfl) ?_
        refine m_l8 (j := Z 11 u1) hx hb hK hP (by omega) dX1_row_36 ?_
        refine x_icmp_ge (x := j) (y := Z 8 (Z 11 u1)) (tgt := 130) hx hb (by omega) (by omega) dX1_row_37 (by decide) (fun c_37 => ?_) (fun c_37 => ?_)
        ·
          refine lv_iload hx hb dX1_row_130 (lv_at hl 0 rfl) ?_
          refine W.iret (v := (nI j)) hx hb hr (fun t9 ht9 hW9 => ⟨⟨_, (Z, G1, T, K), rfl, ?_, mE_mk ht9 hP hK hW9 hD⟩, hS.F ht9⟩) hS.2.2 dX1_row_132
          have hj2 : j = rEnd Z u1 := by
            have h6 := rEnd_le Z u1
            first | omega | (unfold rEnd at hj h6 ⊢; split at hj <;> omega)
          have hN : rN Z u1 w = j := first_eq hj hst (Or.inl hj2)
          refine ⟨by rw [fRow, if_pos i_u, t_u, hN], ?_⟩
          rw [sRow, if_pos i_u, t_u, hN]
          exact ⟨⟨rfl, rfl, rfl, rfl, rfl, rfl, rfl, rfl, rfl, rfl⟩, hR1⟩
        ·
          have hro := hI.row (p := Z 11 u1) (i := j) (by omega) (by omega)
          refine lv_lload_n hx hb dX1_row_40 rfl (lv_at hl 4 rfl) ?_
          refine lv_bipush (v := nI 56) hx hb dX1_row_41 (by decide) ?_
          refine lv_bipush (v := nI 8) hx hb dX1_row_43 (by decide) ?_
          refine lv_iload hx hb dX1_row_45 (lv_at hl 0 rfl) ?_
          refine x_imulc hx hb dX1_row_47 ?_
          refine x_isub hx hb (by omega) dX1_row_48 ?_
          refine lv_lshr hx hb dX1_row_49 rfl ?_
          refine lv_ldc2 (v := 255) hx hb hown (hts _ (ok_of tJ_RX1_86 rfl)) dX1_row_50 ?_
          refine W.eq (g2 := F0 mi 53 ls (.long (lN 255) :: [.long (w >>> ((nI (56 - (j * 8))).toInt64 &&& 63))])) rfl ?_
          refine lv_land hx hb dX1_row_53 ?_
          refine lv_l2i hx hb dX1_row_54 rfl ?_
          rw [rb_m w (show j < 8 by omega)]
          have hrl := rb_lt w j
          refine lv_istore (lv' := [(6, .int (nI (rb w j))), (5, .int (nI j)), (4, .int (nI (Z 11 u1))), (0, .ref o), (1, .int (nI u1)), (2, .long w)]) hx hb dX1_row_55 hl (by decide) rfl (fun ls hl => ?_)
          refine lv_iload hx hb dX1_row_57 (lv_at hl 0 rfl) ?_
          refine lv_sipush (v := nI 254) hx hb dX1_row_59 (by decide) ?_
          refine x_icmp_eq (x := rb w j) (y := 254) (tgt := 95) hx hb (by omega) (by omega) dX1_row_62 (by decide) (fun c_62 => ?_) (fun c_62 => ?_)
          ·
            refine lv_iload hx hb dX1_row_95 (lv_at hl 1 rfl) ?_
            refine W.iret (v := (nI j)) hx hb hr (fun t9 ht9 hW9 => ⟨⟨_, (Z, G1, T, K), rfl, ?_, mE_mk ht9 hP hK hW9 hD⟩, hS.F ht9⟩) hS.2.2 dX1_row_97
            have hsj : stopB Z u1 w j = true := by
              unfold stopB
              first
              | (simp [c_62]; done)
              | (have h9 : ¬ rb w j ≤ topA Z (Z 10 (Z 11 u1 * 12 + j)) := fun h => hr_89 ((inR_nI (show rb w j < 2 ^ 31 by omega)).mpr ⟨Nat.zero_le _, Nat.lt_succ_of_le h⟩)
                 simp [c_70, h9]; done)
            have hN : rN Z u1 w = j := first_eq hj hst (Or.inr hsj)
            refine ⟨by rw [fRow, if_pos i_u, t_u, hN], ?_⟩
            rw [sRow, if_pos i_u, t_u, hN]
            exact ⟨⟨rfl, rfl, rfl, rfl, rfl, rfl, rfl, rfl, rfl, rfl⟩, hR1⟩
          ·
            refine lv_iload hx hb dX1_row_65 (lv_at hl 0 rfl) ?_
            refine lv_sipush (v := nI 255) hx hb dX1_row_67 (by decide) ?_
            refine x_icmp_eq (x := rb w j) (y := 255) (tgt := 98) hx hb (by omega) (by omega) dX1_row_70 (by decide) (fun c_70 => ?_) (fun c_70 => ?_)
            ·
              have hsj : stopB Z u1 w j = false := by
                unfold stopB
                first
                | (simp [c_70]; done)
                | (have h8 := (inR_nI (show rb w j < 2 ^ 31 by omega)).mp hr_89
                   have h9 : rb w j ≤ topA Z (Z 10 (Z 11 u1 * 12 + j)) := Nat.le_of_lt_succ h8.2
                   simp [c_62, c_70, h9]; done)
              refine lv_aload_n hx hb dX1_row_98 rfl (lv_at hl 3 rfl) ?_
              refine m_g11 hx hb hts hown hK hP dX1_row_99 ?_
              refine lv_bipush (v := nI 12) hx hb dX1_row_102 (by decide) ?_
              refine lv_iload_n hx hb dX1_row_104 rfl (lv_at hl 4 rfl) ?_
              refine x_imulc hx hb dX1_row_105 ?_
              refine lv_iload hx hb dX1_row_106 (lv_at hl 1 rfl) ?_
              refine x_iadd hx hb dX1_row_108 ?_
              refine lv_iload hx hb dX1_row_109 (lv_at hl 0 rfl) ?_
              refine lv_sipush (v := nI 255) hx hb dX1_row_111 (by decide) ?_
              refine x_icmp_ne (x := rb w j) (y := 255) (tgt := 121) hx hb (by omega) (by omega) dX1_row_114 (by decide) (fun c_114 => ?_) (fun c_114 => ?_)
              ·
                refine lv_iload hx hb dX1_row_121 (lv_at hl 0 rfl) ?_
                refine W.eq (g2 := F0 mi 123 ls [.int (gv ((rb w j) + 1)), .int (nI (u1 * 12 + j)), .ref (a 11)]) (by rw [gv_s]) ?_
                refine m_s11 (j := u1 * 12 + j) (v := (rb w j) + 1) hx hb hK hP hD hS (by omega) dX1_row_123 (fun H locs hP hD hS => ?_)
                refine lv_iinc (v := nI (j + 1)) (lv' := [(5, .int (nI (j + 1))), (6, .int (nI (rb w j))), (4, .int (nI (Z 11 u1))), (0, .ref o), (1, .int (nI u1)), (2, .long w)]) hx hb dX1_row_124 hl (k := 1) rfl (x_inc1 _) (by decide) rfl (fun ls hl => ?_)
                refine lv_goto (tgt := 21) hx hb dX1_row_127 (by decide) ?_
                exact ih21 (H := H) (locs := locs) (ls := ls) (G1 := (ru G1 (u1 * 12 + j) ((rb w j) + 1))) (j := (j + 1)) (hl := lv_sub hl [0, 2, 3, 4, 5] rfl) (hP := hP) (hD := hD) (hS := hS) (hj := (by unfold rEnd; split <;> omega)) (hR1 := (by rw [← row0_s, rowV]; first | (rw [if_pos c_114]; exact hR1.an (by omega)) | (rw [if_neg c_114]; exact hR1.an (by omega)))) (hst := (by intro i hi; rcases Nat.lt_or_ge i j with h | h; exact hst i h; rw [show i = j by omega]; exact hsj)) (hn21 := by have h5 : j + 1 ≤ rEnd Z u1 := (by unfold rEnd; split <;> omega); omega)
              ·
                refine lv_iconst (v := -1) hx hb dX1_row_117 (by decide) ?_
                refine lv_goto (tgt := 123) hx hb dX1_row_118 (by decide) ?_
                refine W.eq (g2 := F0 mi 123 ls [.int (gv (0)), .int (nI (u1 * 12 + j)), .ref (a 11)]) rfl ?_
                refine m_s11 (j := u1 * 12 + j) (v := 0) hx hb hK hP hD hS (by omega) dX1_row_123 (fun H locs hP hD hS => ?_)
                refine lv_iinc (v := nI (j + 1)) (lv' := [(5, .int (nI (j + 1))), (6, .int (nI (rb w j))), (4, .int (nI (Z 11 u1))), (0, .ref o), (1, .int (nI u1)), (2, .long w)]) hx hb dX1_row_124 hl (k := 1) rfl (x_inc1 _) (by decide) rfl (fun ls hl => ?_)
                refine lv_goto (tgt := 21) hx hb dX1_row_127 (by decide) ?_
                exact ih21 (H := H) (locs := locs) (ls := ls) (G1 := (ru G1 (u1 * 12 + j) 0)) (j := (j + 1)) (hl := lv_sub hl [0, 2, 3, 4, 5] rfl) (hP := hP) (hD := hD) (hS := hS) (hj := (by unfold rEnd; split <;> omega)) (hR1 := (by rw [← row0_s, rowV]; first | (rw [if_pos c_114]; exact hR1.an (by omega)) | (rw [if_neg c_114]; exact hR1.an (by omega)))) (hst := (by intro i hi; rcases Nat.lt_or_ge i j with h | h; exact hst i h; rw [show i = j by omega]; exact hsj)) (hn21 := by have h5 : j + 1 ≤ rEnd Z u1 := (by unfold rEnd; split <;> omega); omega)
            ·
              refine lv_aload_n hx hb dX1_row_73 rfl (lv_at hl 3 rfl) ?_
              refine lv_aload_n hx hb dX1_row_74 rfl (lv_at hl 3 rfl) ?_
              refine m_g7 hx hb hts hown hK hP dX1_row_75 ?_
              refine lv_bipush (v := nI 12) hx hb dX1_row_78 (by decide) ?_
              refine lv_iload hx hb dX1_row_80 (lv_at hl 2 rfl) ?_
              refine x_imulc hx hb dX1_row_82 ?_
              refine lv_iload hx hb dX1_row_83 (lv_at hl 1 rfl) ?_
              refine x_iadd hx hb dX1_row_85 ?_
              refine m_l7 (j := ((Z 11 u1) * 12) + j) hx hb hK hP (by omega) dX1_row_86 ?_
              refine lv_iload hx hb dX1_row_87 (lv_at hl 0 rfl) ?_
              refine r_Vi (As := [.int (nI (Z 10 (((Z 11 u1) * 12) + j))), .int (nI (rb w j))]) (rest := []) fx (ct_X1_isAnswer l dC dI cy cz o a Z G1 T K (Z 10 (((Z 11 u1) * 12) + j)) ((nI (rb w j))) hI (by first | assumption | omega)) fyX1_isAnswer tM_RX1_80 rfl rfl ⟨Nat.le_of_ble_eq_true rfl, Nat.le_of_ble_eq_true rfl⟩ (m_pre hK hP) rfl hl.1 rfl (Nat.le_of_ble_eq_true rfl) dX1_row_89 ⟨Nat.le_of_ble_eq_true rfl, Nat.le_of_ble_eq_true rfl⟩ (fun r_89 hr_89 => ?_)
              rcases hr_89 with ⟨rfl, hr_89⟩ | ⟨rfl, hr_89⟩
              ·
                refine x_if_ne_F (tgt := 98) hx hb (by decide) dX1_row_92 (by decide) ?_
                refine lv_iload hx hb dX1_row_95 (lv_at hl 1 rfl) ?_
                refine W.iret (v := (nI j)) hx hb hr (fun t9 ht9 hW9 => ⟨⟨_, (Z, G1, T, K), rfl, ?_, mE_mk ht9 hP hK hW9 hD⟩, hS.F ht9⟩) hS.2.2 dX1_row_97
                have hsj : stopB Z u1 w j = true := by
                  unfold stopB
                  first
                  | (simp [c_62]; done)
                  | (have h9 : ¬ rb w j ≤ topA Z (Z 10 (Z 11 u1 * 12 + j)) := fun h => hr_89 ((inR_nI (show rb w j < 2 ^ 31 by omega)).mpr ⟨Nat.zero_le _, Nat.lt_succ_of_le h⟩)
                     simp [c_70, h9]; done)
                have hN : rN Z u1 w = j := first_eq hj hst (Or.inr hsj)
                refine ⟨by rw [fRow, if_pos i_u, t_u, hN], ?_⟩
                rw [sRow, if_pos i_u, t_u, hN]
                exact ⟨⟨rfl, rfl, rfl, rfl, rfl, rfl, rfl, rfl, rfl, rfl⟩, hR1⟩
              ·
                refine x_if_ne_T (tgt := 98) hx hb (by decide) dX1_row_92 (by decide) ?_
                have hsj : stopB Z u1 w j = false := by
                  unfold stopB
                  first
                  | (simp [c_70]; done)
                  | (have h8 := (inR_nI (show rb w j < 2 ^ 31 by omega)).mp hr_89
                     have h9 : rb w j ≤ topA Z (Z 10 (Z 11 u1 * 12 + j)) := Nat.le_of_lt_succ h8.2
                     simp [c_62, c_70, h9]; done)
                refine lv_aload_n hx hb dX1_row_98 rfl (lv_at hl 3 rfl) ?_
                refine m_g11 hx hb hts hown hK hP dX1_row_99 ?_
                refine lv_bipush (v := nI 12) hx hb dX1_row_102 (by decide) ?_
                refine lv_iload_n hx hb dX1_row_104 rfl (lv_at hl 4 rfl) ?_
                refine x_imulc hx hb dX1_row_105 ?_
                refine lv_iload hx hb dX1_row_106 (lv_at hl 1 rfl) ?_
                refine x_iadd hx hb dX1_row_108 ?_
                refine lv_iload hx hb dX1_row_109 (lv_at hl 0 rfl) ?_
                refine lv_sipush (v := nI 255) hx hb dX1_row_111 (by decide) ?_
                refine x_icmp_ne (x := rb w j) (y := 255) (tgt := 121) hx hb (by omega) (by omega) dX1_row_114 (by decide) (fun c_114 => ?_) (fun c_114 => ?_)
                ·
                  refine lv_iload hx hb dX1_row_121 (lv_at hl 0 rfl) ?_
                  refine W.eq (g2 := F0 mi 123 ls [.int (gv ((rb w j) + 1)), .int (nI (u1 * 12 + j)), .ref (a 11)]) (by rw [gv_s]) ?_
                  refine m_s11 (j := u1 * 12 + j) (v := (rb w j) + 1) hx hb hK hP hD hS (by omega) dX1_row_123 (fun H locs hP hD hS => ?_)
                  refine lv_iinc (v := nI (j + 1)) (lv' := [(5, .int (nI (j + 1))), (6, .int (nI (rb w j))), (4, .int (nI (Z 11 u1))), (0, .ref o), (1, .int (nI u1)), (2, .long w)]) hx hb dX1_row_124 hl (k := 1) rfl (x_inc1 _) (by decide) rfl (fun ls hl => ?_)
                  refine lv_goto (tgt := 21) hx hb dX1_row_127 (by decide) ?_
                  exact ih21 (H := H) (locs := locs) (ls := ls) (G1 := (ru G1 (u1 * 12 + j) ((rb w j) + 1))) (j := (j + 1)) (hl := lv_sub hl [0, 2, 3, 4, 5] rfl) (hP := hP) (hD := hD) (hS := hS) (hj := (by unfold rEnd; split <;> omega)) (hR1 := (by rw [← row0_s, rowV]; first | (rw [if_pos c_114]; exact hR1.an (by omega)) | (rw [if_neg c_114]; exact hR1.an (by omega)))) (hst := (by intro i hi; rcases Nat.lt_or_ge i j with h | h; exact hst i h; rw [show i = j by omega]; exact hsj)) (hn21 := by have h5 : j + 1 ≤ rEnd Z u1 := (by unfold rEnd; split <;> omega); omega)
                ·
                  refine lv_iconst (v := -1) hx hb dX1_row_117 (by decide) ?_
                  refine lv_goto (tgt := 123) hx hb dX1_row_118 (by decide) ?_
                  refine W.eq (g2 := F0 mi 123 ls [.int (gv (0)), .int (nI (u1 * 12 + j)), .ref (a 11)]) rfl ?_
                  refine m_s11 (j := u1 * 12 + j) (v := 0) hx hb hK hP hD hS (by omega) dX1_row_123 (fun H locs hP hD hS => ?_)
                  refine lv_iinc (v := nI (j + 1)) (lv' := [(5, .int (nI (j + 1))), (6, .int (nI (rb w j))), (4, .int (nI (Z 11 u1))), (0, .ref o), (1, .int (nI u1)), (2, .long w)]) hx hb dX1_row_124 hl (k := 1) rfl (x_inc1 _) (by decide) rfl (fun ls hl => ?_)
                  refine lv_goto (tgt := 21) hx hb dX1_row_127 (by decide) ?_
                  exact ih21 (H := H) (locs := locs) (ls := ls) (G1 := (ru G1 (u1 * 12 + j) 0)) (j := (j + 1)) (hl := lv_sub hl [0, 2, 3, 4, 5] rfl) (hP := hP) (hD := hD) (hS := hS) (hj := (by unfold rEnd; split <;> omega)) (hR1 := (by rw [← row0_s, rowV]; first | (rw [if_pos c_114]; exact hR1.an (by omega)) | (rw [if_neg c_114]; exact hR1.an (by omega)))) (hst := (by intro i hi; rcases Nat.lt_or_ge i j with h | h; exact hst i h; rw [show i = j by omega]; exact hsj)) (hn21 := by have h5 : j + 1 ≤ rEnd Z u1 := (by unfold rEnd; split <;> omega); omega)

set_option maxHeartbeats 4000000 in
set_option maxRecDepth 100000 in
theorem ct_X1_mark (l : Launch) (dC : Nat → ClassId) (dI : Nat → Nat → Nat) (cy cz : ClassId) (o : Nat) (a : Nat → Nat) (Z : Nat → Nat → Nat) (G T K : Nat → Nat) (u : Int32) (q : Int32) (hI : Inv Z) (hR : MRel Z G T K) : Met l yX1_mark (wS yX1_mark cX1_mark 4 (Option.some Jvm.ClassFile.FieldType.int)) (rmF 3 66) (va_Pc [.ref o, .int u, .int q] (mR dC dI cy cz o a Z G T K)) (vp_Si (fun r => r = fMark Z u q)) 0 0 (fun _ => False) := by
  refine Met.ofW (cc := cX1_mark) (maxL := 4) (ret := (Option.some Jvm.ClassFile.FieldType.int)) (by decide) rfl ?_
  intro pg en sv mi ag bw mt cd s₁ BL hml hv
  obtain ⟨rfl, hP, hK⟩ := hv
  have hx := BL.exec
  have hb := BL.bytes
  have hr := BL.returns
  have hts : ∀ w ∈ lw_ok, w.before _ sv = true := fun w hw => atoms_spec (ws := wS yX1_mark cX1_mark 4 (Option.some Jvm.ClassFile.FieldType.int)) BL.pre w (List.mem_cons_of_mem _ hw)
  have hown : sv.vm.findClass RX1 = some mi.cls := findClass_of_methodNamed BL.named
  have hlocks := BL.notSynchronized
  have fx : CallFix pg mi cd cX1_mark 4 sv _ lw_ok RX1 := ⟨hx, hb, hml, hown, hts⟩
  have hl := lv_entry ([.ref o, .int u, .int q]) (n := 4) (Nat.le_of_ble_eq_true rfl)
  rw [lg_entry_eq]
  generalize (lg_sl ([.ref o, .int u, .int q]) ++ List.replicate (4 - (lg_sl ([.ref o, .int u, .int q])).length) Slot.unset).toArray = ls at hl ⊢
  replace hl : lv_has ls 4 [(0, .ref o), (1, .int u), (2, .int q)] := hl
  obtain ⟨b0, b1, b2⟩ := hI.bd
  refine lv_aload_n hx hb dX1_mark_0 rfl (lv_at hl 0 rfl) ?_
  refine lv_iload_n hx hb dX1_mark_1 rfl (lv_at hl 1 rfl) ?_
  refine lv_iload_n hx hb dX1_mark_2 rfl (lv_at hl 2 rfl) ?_
  refine r_Vi (As := [.int u, .int q]) (rest := []) fx (ct_X1_own l dC dI cy cz o a Z G T K u q hI) fyX1_own tM_RX1_77 rfl rfl ⟨Nat.le_of_ble_eq_true rfl, Nat.le_of_ble_eq_true rfl⟩ (m_pre hK hP) rfl hl.1 rfl (Nat.le_of_ble_eq_true rfl) dX1_mark_3 ⟨Nat.le_of_ble_eq_true rfl, Nat.le_of_ble_eq_true rfl⟩ (fun r_3 hr_3 => ?_)
  rcases hr_3 with ⟨rfl, ho_3⟩ | ⟨x_3, y_3, i_3, hx_3, hy_3, eu_3, eq_3, hi_3, hs_3, hr_3, ho_3, rfl⟩
  ·
    refine lv_istore_n (lv' := [(3, .int (-1)), (0, .ref o), (1, .int u), (2, .int q)]) hx hb dX1_mark_6 rfl hl (by decide) rfl (fun ls hl => ?_)
    refine lv_iload_n hx hb dX1_mark_7 rfl (lv_at hl 0 rfl) ?_
    refine x_if_ge_F (tgt := 15) hx hb (by decide) dX1_mark_8 (by decide) ?_
    refine lv_iconst (v := -1) hx hb dX1_mark_11 (by decide) ?_
    refine lv_goto (tgt := 21) hx hb dX1_mark_12 (by decide) ?_
    refine W.iret (v := (-1)) hx hb hr (fun t9 ht9 hW9 => ⟨_, rfl, ?_, ht9⟩) (fun q h => by cases h) dX1_mark_21
    first | (rw [fMark, if_neg ho_3]; done) | (rw [fMark, if_pos ho_3, hspo, t_u]; done)
  ·
    subst eu_3 eq_3
    have t_u : tn (nI x_3) = x_3 := tn_nI (by omega)
    have t_q : tn (nI y_3) = y_3 := tn_nI (by omega)
    have hpu := hI.pu hx_3
    have bs := hI.sz (p := Z 11 x_3) (by omega)
    have hspo : spo Z (nI x_3) (nI y_3) = i_3 := by show spt Z (Z 11 (tn (nI x_3))) (tn (nI y_3)) = i_3; rw [t_u, t_q]; exact hs_3
    refine lv_istore_n (lv' := [(3, .int (nI i_3)), (0, .ref o), (1, .int (nI x_3)), (2, .int (nI y_3))]) hx hb dX1_mark_6 rfl hl (by decide) rfl (fun ls hl => ?_)
    refine lv_iload_n hx hb dX1_mark_7 rfl (lv_at hl 0 rfl) ?_
    refine x_if_ge_T (tgt := 15) hx hb (nI_pos' (by omega)) dX1_mark_8 (by decide) ?_
    refine lv_aload_n hx hb dX1_mark_15 rfl (lv_at hl 1 rfl) ?_
    refine lv_iload_n hx hb dX1_mark_16 rfl (lv_at hl 2 rfl) ?_
    refine lv_iload_n hx hb dX1_mark_17 rfl (lv_at hl 0 rfl) ?_
    refine r_Vi (As := [.int (nI x_3), .int (nI i_3)]) (rest := []) fx (ct_X1_markAt l dC dI cy cz o a Z G T K x_3 i_3 hI hR (by first | assumption | omega) (by first | assumption | omega)) fyX1_markAt tM_RX1_88 rfl rfl ⟨Nat.le_of_ble_eq_true rfl, Nat.le_of_ble_eq_true rfl⟩ (m_pre hK hP) rfl hl.1 rfl (Nat.le_of_ble_eq_true rfl) dX1_mark_18 ⟨Nat.le_of_ble_eq_true rfl, Nat.le_of_ble_eq_true rfl⟩ (fun r_18 hr_18 => ?_)
    subst hr_18
    refine W.iret (v := (nI (mrk Z x_3 i_3))) hx hb hr (fun t9 ht9 hW9 => ⟨_, rfl, ?_, ht9⟩) (fun q h => by cases h) dX1_mark_21
    first | (rw [fMark, if_neg ho_3]; done) | (rw [fMark, if_pos ho_3, hspo, t_u]; done)

set_option maxHeartbeats 4000000 in
set_option maxRecDepth 100000 in
theorem ct_X1_come (l : Launch) (dC : Nat → ClassId) (dI : Nat → Nat → Nat) (cy cz : ClassId) (o : Nat) (a : Nat → Nat) (Z : Nat → Nat → Nat) (G T K : Nat → Nat) (u : Int32) (q : Int32) (hI : Inv Z) (hR : MRel Z G T K) : Met l yX1_come (wS yX1_come cX1_come 4 (Option.some Jvm.ClassFile.FieldType.int)) (rmF 3 66) (va_Pc [.ref o, .int u, .int q] (mR dC dI cy cz o a Z G T K)) (vp_Si (fun r => r = fCome Z u q)) 0 0 (fun _ => False) := by
  refine Met.ofW (cc := cX1_come) (maxL := 4) (ret := (Option.some Jvm.ClassFile.FieldType.int)) (by decide) rfl ?_
  intro pg en sv mi ag bw mt cd s₁ BL hml hv
  obtain ⟨rfl, hP, hK⟩ := hv
  have hx := BL.exec
  have hb := BL.bytes
  have hr := BL.returns
  have hts : ∀ w ∈ lw_ok, w.before _ sv = true := fun w hw => atoms_spec (ws := wS yX1_come cX1_come 4 (Option.some Jvm.ClassFile.FieldType.int)) BL.pre w (List.mem_cons_of_mem _ hw)
  have hown : sv.vm.findClass RX1 = some mi.cls := findClass_of_methodNamed BL.named
  have hlocks := BL.notSynchronized
  have fx : CallFix pg mi cd cX1_come 4 sv _ lw_ok RX1 := ⟨hx, hb, hml, hown, hts⟩
  have hl := lv_entry ([.ref o, .int u, .int q]) (n := 4) (Nat.le_of_ble_eq_true rfl)
  rw [lg_entry_eq]
  generalize (lg_sl ([.ref o, .int u, .int q]) ++ List.replicate (4 - (lg_sl ([.ref o, .int u, .int q])).length) Slot.unset).toArray = ls at hl ⊢
  replace hl : lv_has ls 4 [(0, .ref o), (1, .int u), (2, .int q)] := hl
  obtain ⟨b0, b1, b2⟩ := hI.bd
  refine lv_aload_n hx hb dX1_come_0 rfl (lv_at hl 0 rfl) ?_
  refine lv_iload_n hx hb dX1_come_1 rfl (lv_at hl 1 rfl) ?_
  refine lv_iload_n hx hb dX1_come_2 rfl (lv_at hl 2 rfl) ?_
  refine r_Vi (As := [.int u, .int q]) (rest := []) fx (ct_X1_own l dC dI cy cz o a Z G T K u q hI) fyX1_own tM_RX1_77 rfl rfl ⟨Nat.le_of_ble_eq_true rfl, Nat.le_of_ble_eq_true rfl⟩ (m_pre hK hP) rfl hl.1 rfl (Nat.le_of_ble_eq_true rfl) dX1_come_3 ⟨Nat.le_of_ble_eq_true rfl, Nat.le_of_ble_eq_true rfl⟩ (fun r_3 hr_3 => ?_)
  rcases hr_3 with ⟨rfl, ho_3⟩ | ⟨x_3, y_3, i_3, hx_3, hy_3, eu_3, eq_3, hi_3, hs_3, hr_3, ho_3, rfl⟩
  ·
    refine lv_istore_n (lv' := [(3, .int (-1)), (0, .ref o), (1, .int u), (2, .int q)]) hx hb dX1_come_6 rfl hl (by decide) rfl (fun ls hl => ?_)
    refine lv_iload_n hx hb dX1_come_7 rfl (lv_at hl 0 rfl) ?_
    refine x_if_ge_F (tgt := 15) hx hb (by decide) dX1_come_8 (by decide) ?_
    refine lv_iconst (v := -1) hx hb dX1_come_11 (by decide) ?_
    refine lv_goto (tgt := 29) hx hb dX1_come_12 (by decide) ?_
    refine W.iret (v := (-1)) hx hb hr (fun t9 ht9 hW9 => ⟨_, rfl, ?_, ht9⟩) (fun q h => by cases h) dX1_come_29
    first | (rw [fCome, if_neg ho_3]; done) | (rw [fCome, if_pos ho_3, t_u, t_q, cqB_t (show cqP Z y_3 x_3 from ⟨by omega, by rw [hs_3]; exact hr_18⟩)]; rfl) | (rw [fCome, if_pos ho_3, t_u, t_q, cqB_f (show ¬ cqP Z y_3 x_3 from fun h => hr_18 (by have h2 := h.2; rw [hs_3] at h2; exact h2))]; rfl)
  ·
    subst eu_3 eq_3
    have t_u : tn (nI x_3) = x_3 := tn_nI (by omega)
    have t_q : tn (nI y_3) = y_3 := tn_nI (by omega)
    have hpu := hI.pu hx_3
    have bs := hI.sz (p := Z 11 x_3) (by omega)
    have hspo : spo Z (nI x_3) (nI y_3) = i_3 := by show spt Z (Z 11 (tn (nI x_3))) (tn (nI y_3)) = i_3; rw [t_u, t_q]; exact hs_3
    refine lv_istore_n (lv' := [(3, .int (nI i_3)), (0, .ref o), (1, .int (nI x_3)), (2, .int (nI y_3))]) hx hb dX1_come_6 rfl hl (by decide) rfl (fun ls hl => ?_)
    refine lv_iload_n hx hb dX1_come_7 rfl (lv_at hl 0 rfl) ?_
    refine x_if_ge_T (tgt := 15) hx hb (nI_pos' (by omega)) dX1_come_8 (by decide) ?_
    refine lv_aload_n hx hb dX1_come_15 rfl (lv_at hl 1 rfl) ?_
    refine lv_iload_n hx hb dX1_come_16 rfl (lv_at hl 2 rfl) ?_
    refine lv_iload_n hx hb dX1_come_17 rfl (lv_at hl 0 rfl) ?_
    refine r_Vi (As := [.int (nI x_3), .int (nI i_3)]) (rest := []) fx (ct_X1_cameTo l dC dI cy cz o a Z G T K x_3 i_3 hI hR (by first | assumption | omega) (by first | assumption | omega)) fyX1_cameTo tM_RX1_91 rfl rfl ⟨Nat.le_of_ble_eq_true rfl, Nat.le_of_ble_eq_true rfl⟩ (m_pre hK hP) rfl hl.1 rfl (Nat.le_of_ble_eq_true rfl) dX1_come_18 ⟨Nat.le_of_ble_eq_true rfl, Nat.le_of_ble_eq_true rfl⟩ (fun r_18 hr_18 => ?_)
    rcases hr_18 with ⟨rfl, hr_18⟩ | ⟨rfl, hr_18⟩
    ·
      refine x_if_eq_T (tgt := 28) hx hb (by decide) dX1_come_21 (by decide) ?_
      refine lv_iconst (v := nI 0) hx hb dX1_come_28 (by decide) ?_
      refine W.iret (v := (nI 0)) hx hb hr (fun t9 ht9 hW9 => ⟨_, rfl, ?_, ht9⟩) (fun q h => by cases h) dX1_come_29
      first | (rw [fCome, if_neg ho_3]; done) | (rw [fCome, if_pos ho_3, t_u, t_q, cqB_t (show cqP Z y_3 x_3 from ⟨by omega, by rw [hs_3]; exact hr_18⟩)]; rfl) | (rw [fCome, if_pos ho_3, t_u, t_q, cqB_f (show ¬ cqP Z y_3 x_3 from fun h => hr_18 (by have h2 := h.2; rw [hs_3] at h2; exact h2))]; rfl)
    ·
      refine x_if_eq_F (tgt := 28) hx hb (by decide) dX1_come_21 (by decide) ?_
      refine lv_iconst (v := nI 1) hx hb dX1_come_24 (by decide) ?_
      refine lv_goto (tgt := 29) hx hb dX1_come_25 (by decide) ?_
      refine W.iret (v := (nI 1)) hx hb hr (fun t9 ht9 hW9 => ⟨_, rfl, ?_, ht9⟩) (fun q h => by cases h) dX1_come_29
      first | (rw [fCome, if_neg ho_3]; done) | (rw [fCome, if_pos ho_3, t_u, t_q, cqB_t (show cqP Z y_3 x_3 from ⟨by omega, by rw [hs_3]; exact hr_18⟩)]; rfl) | (rw [fCome, if_pos ho_3, t_u, t_q, cqB_f (show ¬ cqP Z y_3 x_3 from fun h => hr_18 (by have h2 := h.2; rw [hs_3] at h2; exact h2))]; rfl)

set_option maxHeartbeats 4000000 in
set_option maxRecDepth 100000 in
theorem ct_X1_total (l : Launch) (dC : Nat → ClassId) (dI : Nat → Nat → Nat) (cy cz : ClassId) (o : Nat) (a : Nat → Nat) (Z : Nat → Nat → Nat) (G T K : Nat → Nat) (u : Int32) (hI : Inv Z) (hR : MRel Z G T K) : Met l yX1_total (wS yX1_total cX1_total 2 (Option.some Jvm.ClassFile.FieldType.int)) (rmF 3 68) (va_Pc [.ref o, .int u] (mR dC dI cy cz o a Z G T K)) (vp_Si (fun r => r = fTot Z u)) 0 0 (fun _ => False) := by
  refine Met.ofW (cc := cX1_total) (maxL := 2) (ret := (Option.some Jvm.ClassFile.FieldType.int)) (by decide) rfl ?_
  intro pg en sv mi ag bw mt cd s₁ BL hml hv
  obtain ⟨rfl, hP, hK⟩ := hv
  have hx := BL.exec
  have hb := BL.bytes
  have hr := BL.returns
  have hts : ∀ w ∈ lw_ok, w.before _ sv = true := fun w hw => atoms_spec (ws := wS yX1_total cX1_total 2 (Option.some Jvm.ClassFile.FieldType.int)) BL.pre w (List.mem_cons_of_mem _ hw)
  have hown : sv.vm.findClass RX1 = some mi.cls := findClass_of_methodNamed BL.named
  have hlocks := BL.notSynchronized
  have fx : CallFix pg mi cd cX1_total 2 sv _ lw_ok RX1 := ⟨hx, hb, hml, hown, hts⟩
  have hl := lv_entry ([.ref o, .int u]) (n := 2) (Nat.le_of_ble_eq_true rfl)
  rw [lg_entry_eq]
  generalize (lg_sl ([.ref o, .int u]) ++ List.replicate (2 - (lg_sl ([.ref o, .int u])).length) Slot.unset).toArray = ls at hl ⊢
  replace hl : lv_has ls 2 [(0, .ref o), (1, .int u)] := hl
  obtain ⟨b0, b1, b2⟩ := hI.bd
  refine lv_aload_n hx hb dX1_total_0 rfl (lv_at hl 0 rfl) ?_
  refine lv_iload_n hx hb dX1_total_1 rfl (lv_at hl 1 rfl) ?_
  refine r_Vi (As := [.int u]) (rest := []) fx (ct_X1_isPupil l dC dI cy cz o a Z G T K u hI) fyX1_isPupil tM_RX1_74 rfl rfl ⟨Nat.le_of_ble_eq_true rfl, Nat.le_of_ble_eq_true rfl⟩ (m_pre hK hP) rfl hl.1 rfl (Nat.le_of_ble_eq_true rfl) dX1_total_2 ⟨Nat.le_of_ble_eq_true rfl, Nat.le_of_ble_eq_true rfl⟩ (fun r_2 hr_2 => ?_)
  rcases hr_2 with ⟨rfl, hr_2⟩ | ⟨rfl, hr_2⟩
  ·
    refine x_if_eq_T (tgt := 16) hx hb (by decide) dX1_total_5 (by decide) ?_
    refine lv_iconst (v := -1) hx hb dX1_total_16 (by decide) ?_
    refine W.iret (v := (-1)) hx hb hr (fun t9 ht9 hW9 => ⟨_, rfl, ?_, ht9⟩) (fun q h => by cases h) dX1_total_17
    first | (rw [fTot, if_neg hr_2]; done) | (rw [fTot, if_pos i_u, t_u]; done)
  ·
    have i_u := hr_2
    obtain ⟨u1, -, h_u1, rfl⟩ := inR_of i_u
    have t_u : tn (nI u1) = u1 := tn_nI (by omega)
    refine x_if_eq_F (tgt := 16) hx hb (by decide) dX1_total_5 (by decide) ?_
    refine lv_aload_n hx hb dX1_total_8 rfl (lv_at hl 0 rfl) ?_
    refine lv_iload_n hx hb dX1_total_9 rfl (lv_at hl 1 rfl) ?_
    refine r_Vi (As := [.int (nI u1)]) (rest := []) fx (ct_X1_totalOf l dC dI cy cz o a Z G T K u1 hI hR (by first | assumption | omega)) fyX1_totalOf tM_RX1_97 rfl rfl ⟨Nat.le_of_ble_eq_true rfl, Nat.le_of_ble_eq_true rfl⟩ (m_pre hK hP) rfl hl.1 rfl (Nat.le_of_ble_eq_true rfl) dX1_total_10 ⟨Nat.le_of_ble_eq_true rfl, Nat.le_of_ble_eq_true rfl⟩ (fun r_10 hr_10 => ?_)
    subst hr_10
    refine lv_goto (tgt := 17) hx hb dX1_total_13 (by decide) ?_
    refine W.iret (v := (nI (tot Z u1))) hx hb hr (fun t9 ht9 hW9 => ⟨_, rfl, ?_, ht9⟩) (fun q h => by cases h) dX1_total_17
    first | (rw [fTot, if_neg hr_2]; done) | (rw [fTot, if_pos i_u, t_u]; done)
