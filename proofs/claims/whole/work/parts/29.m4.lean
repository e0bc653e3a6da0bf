set_option maxHeartbeats 4000000 in
set_option maxRecDepth 100000 in
theorem ct_X1_question (l : Launch) (dC : Nat → ClassId) (dI : Nat → Nat → Nat) (cy cz : ClassId) (o : Nat) (a : Nat → Nat) (Z : Nat → Nat → Nat) (G T K : Nat → Nat) (sz : Nat) (k : Int32) (m : Int32) (v : Int32) (hI : Inv Z) (hR : MRel Z G T K) : Met l yX1_question (wS yX1_question cX1_question 4 (Option.some Jvm.ClassFile.FieldType.int)) (rmF 2 45) (va_Pc [.ref o, .int k, .int m, .int v] (mS dC dI cy cz o a Z G T K sz)) (va_Qi (fun r (uu : MT) => r = fQ Z k m v ∧ mwE uu.1 (sQ Z k m v) ∧ MRel (sQ Z k m v) uu.2.1 uu.2.2.1 uu.2.2.2) (mE dC dI cy cz o a (mA cy cz o a Z G T K sz)) (mA cy cz o a Z G T K sz)) 0 0 (mA cy cz o a Z G T K sz) := by
  refine Met.ofW (cc := cX1_question) (maxL := 4) (ret := (Option.some Jvm.ClassFile.FieldType.int)) (by decide) rfl ?_
  intro pg en sv mi ag bw mt cd s₁ BL hml hv
  obtain ⟨rfl, hsz, hP, hK, hD0⟩ := hv
  have hx := BL.exec
  have hb := BL.bytes
  have hr := BL.returns
  have hts : ∀ w ∈ lw_ok, w.before _ sv = true := fun w hw => atoms_spec (ws := wS yX1_question cX1_question 4 (Option.some Jvm.ClassFile.FieldType.int)) BL.pre w (List.mem_cons_of_mem _ hw)
  have hown : sv.vm.findClass RX1 = some mi.cls := findClass_of_methodNamed BL.named
  have hlocks := BL.notSynchronized
  have fx : CallFix pg mi cd cX1_question 4 sv _ lw_ok RX1 := ⟨hx, hb, hml, hown, hts⟩
  have hl := lv_entry ([.ref o, .int k, .int m, .int v]) (n := 4) (Nat.le_of_ble_eq_true rfl)
  rw [lg_entry_eq]
  generalize (lg_sl ([.ref o, .int k, .int m, .int v]) ++ List.replicate (4 - (lg_sl ([.ref o, .int k, .int m, .int v])).length) Slot.unset).toArray = ls at hl ⊢
  replace hl : lv_has ls 4 [(0, .ref o), (1, .int k), (2, .int m), (3, .int v)] := hl
  subst hsz
  have hD : va_D (mA cy cz o a Z G T K sv.heap.size) (mw cy cz o a Z G T K) := hD0.self (sz := sv.heap.size)
  clear hD0
  generalize hAe : mA cy cz o a Z G T K sv.heap.size = A at hD ⊢
  have hA : ∀ q : Nat, sv.heap.size ≤ q → A q := fun q h => by rw [← hAe]; exact Or.inr h
  clear hAe
  refine x_start (fun H locs eH eL => ?_)
  replace hP : va_P (dC, dI) vwCl (mw cy cz o a Z G T K) H := by rw [eH]; exact hP
  have hS : va_S A sv.heap H locs := by rw [eH, eL]; exact va_S.rf
  clear eH eL
  obtain ⟨b0, b1, b2⟩ := hI.bd
  refine lv_aload_n hx hb dX1_question_0 rfl (lv_at hl 0 rfl) ?_
  refine lv_iload_n hx hb dX1_question_1 rfl (lv_at hl 1 rfl) ?_
  refine lv_iconst (v := nI 0) hx hb dX1_question_2 (by decide) ?_
  refine lv_iconst (v := nI 3) hx hb dX1_question_3 (by decide) ?_
  refine r_Vi (As := [.int k, .int (nI 0), .int (nI 3)]) (rest := []) fx (ct_X1_in l dC dI cy cz o a Z G T K k ((nI 0)) ((nI 3))) fyX1_in tM_RX1_51 rfl rfl ⟨Nat.le_of_ble_eq_true rfl, Nat.le_of_ble_eq_true rfl⟩ (m_pre hK hP) rfl hl.1 rfl (Nat.le_of_ble_eq_true rfl) dX1_question_4 ⟨Nat.le_of_ble_eq_true rfl, Nat.le_of_ble_eq_true rfl⟩ (fun r_4 hr_4 => ?_)
  rcases hr_4 with ⟨rfl, hr_4⟩ | ⟨rfl, hr_4⟩
  ·
    refine x_if_eq_T (tgt := 30) hx hb (by decide) dX1_question_7 (by decide) ?_
    refine lv_bipush (v := -2) hx hb dX1_question_30 (by decide) ?_
    refine W.iret (v := (-2)) hx hb hr (fun t9 ht9 hW9 => ⟨⟨_, (Z, G, T, K), rfl, ?_, mE_mk ht9 hP hK hW9 hD⟩, hS.F ht9⟩) hS.2.2 dX1_question_32
    first
    | (refine ⟨?_, ?_⟩; (rw [fQ, if_neg (fun h => hr_4 ((in_lh (by decide) (by decide)).mpr h.1))]); (rw [sQ, if_neg (fun h => hr_4 ((in_lh (by decide) (by decide)).mpr h.1.1))]; exact ⟨mwE.rf _, hR⟩))
    | (refine ⟨?_, ?_⟩; (rw [fQ, if_neg (fun h => hr_15 ((in_lh (by decide) (by decide)).mpr h.2.1))]); (rw [sQ, if_neg (fun h => hr_15 ((in_lh (by decide) (by decide)).mpr h.1.2.1))]; exact ⟨mwE.rf _, hR⟩))
    | (refine ⟨?_, ?_⟩; (rw [fQ, if_neg (fun h => hr_24 h.2.2)]); (rw [sQ, if_neg (fun h => hr_24 h.1.2.2)]; exact ⟨mwE.rf _, hR⟩))
  ·
    have hk : inR k 0 4 := (in_lh (lo := 0) (hi := 3) (by decide) (by decide)).mp hr_4
    refine x_if_eq_F (tgt := 30) hx hb (by decide) dX1_question_7 (by decide) ?_
    refine lv_aload_n hx hb dX1_question_10 rfl (lv_at hl 0 rfl) ?_
    refine lv_iload_n hx hb dX1_question_11 rfl (lv_at hl 2 rfl) ?_
    refine lv_iconst (v := nI 1) hx hb dX1_question_12 (by decide) ?_
    refine lv_bipush (v := nI 10) hx hb dX1_question_13 (by decide) ?_
    refine r_Vi (As := [.int m, .int (nI 1), .int (nI 10)]) (rest := []) fx (ct_X1_in l dC dI cy cz o a Z G T K m ((nI 1)) ((nI 10))) fyX1_in tM_RX1_51 rfl rfl ⟨Nat.le_of_ble_eq_true rfl, Nat.le_of_ble_eq_true rfl⟩ (m_pre hK hP) rfl hl.1 rfl (Nat.le_of_ble_eq_true rfl) dX1_question_15 ⟨Nat.le_of_ble_eq_true rfl, Nat.le_of_ble_eq_true rfl⟩ (fun r_15 hr_15 => ?_)
    rcases hr_15 with ⟨rfl, hr_15⟩ | ⟨rfl, hr_15⟩
    ·
      refine x_if_eq_T (tgt := 30) hx hb (by decide) dX1_question_18 (by decide) ?_
      refine lv_bipush (v := -2) hx hb dX1_question_30 (by decide) ?_
      refine W.iret (v := (-2)) hx hb hr (fun t9 ht9 hW9 => ⟨⟨_, (Z, G, T, K), rfl, ?_, mE_mk ht9 hP hK hW9 hD⟩, hS.F ht9⟩) hS.2.2 dX1_question_32
      first
      | (refine ⟨?_, ?_⟩; (rw [fQ, if_neg (fun h => hr_4 ((in_lh (by decide) (by decide)).mpr h.1))]); (rw [sQ, if_neg (fun h => hr_4 ((in_lh (by decide) (by decide)).mpr h.1.1))]; exact ⟨mwE.rf _, hR⟩))
      | (refine ⟨?_, ?_⟩; (rw [fQ, if_neg (fun h => hr_15 ((in_lh (by decide) (by decide)).mpr h.2.1))]); (rw [sQ, if_neg (fun h => hr_15 ((in_lh (by decide) (by decide)).mpr h.1.2.1))]; exact ⟨mwE.rf _, hR⟩))
      | (refine ⟨?_, ?_⟩; (rw [fQ, if_neg (fun h => hr_24 h.2.2)]); (rw [sQ, if_neg (fun h => hr_24 h.1.2.2)]; exact ⟨mwE.rf _, hR⟩))
    ·
      have hm : inR m 1 11 := (in_lh (lo := 1) (hi := 10) (by decide) (by decide)).mp hr_15
      refine x_if_eq_F (tgt := 30) hx hb (by decide) dX1_question_18 (by decide) ?_
      refine lv_aload_n hx hb dX1_question_21 rfl (lv_at hl 0 rfl) ?_
      refine lv_iload_n hx hb dX1_question_22 rfl (lv_at hl 1 rfl) ?_
      refine lv_iload_n hx hb dX1_question_23 rfl (lv_at hl 3 rfl) ?_
      refine r_Vi (As := [.int k, .int v]) (rest := []) fx (ct_X1_isKey l dC dI cy cz o a Z G T K k v) fyX1_isKey tM_RX1_55 rfl rfl ⟨Nat.le_of_ble_eq_true rfl, Nat.le_of_ble_eq_true rfl⟩ (m_pre hK hP) rfl hl.1 rfl (Nat.le_of_ble_eq_true rfl) dX1_question_24 ⟨Nat.le_of_ble_eq_true rfl, Nat.le_of_ble_eq_true rfl⟩ (fun r_24 hr_24 => ?_)
      rcases hr_24 with ⟨rfl, hr_24⟩ | ⟨rfl, hr_24⟩
      ·
        refine x_if_ne_F (tgt := 33) hx hb (by decide) dX1_question_27 (by decide) ?_
        refine lv_bipush (v := -2) hx hb dX1_question_30 (by decide) ?_
        refine W.iret (v := (-2)) hx hb hr (fun t9 ht9 hW9 => ⟨⟨_, (Z, G, T, K), rfl, ?_, mE_mk ht9 hP hK hW9 hD⟩, hS.F ht9⟩) hS.2.2 dX1_question_32
        first
        | (refine ⟨?_, ?_⟩; (rw [fQ, if_neg (fun h => hr_4 ((in_lh (by decide) (by decide)).mpr h.1))]); (rw [sQ, if_neg (fun h => hr_4 ((in_lh (by decide) (by decide)).mpr h.1.1))]; exact ⟨mwE.rf _, hR⟩))
        | (refine ⟨?_, ?_⟩; (rw [fQ, if_neg (fun h => hr_15 ((in_lh (by decide) (by decide)).mpr h.2.1))]); (rw [sQ, if_neg (fun h => hr_15 ((in_lh (by decide) (by decide)).mpr h.1.2.1))]; exact ⟨mwE.rf _, hR⟩))
        | (refine ⟨?_, ?_⟩; (rw [fQ, if_neg (fun h => hr_24 h.2.2)]); (rw [sQ, if_neg (fun h => hr_24 h.1.2.2)]; exact ⟨mwE.rf _, hR⟩))
      ·
        refine x_if_ne_T (tgt := 33) hx hb (by decide) dX1_question_27 (by decide) ?_
        have hvq : vQ k m v := ⟨hk, hm, hr_24⟩
        obtain ⟨k1, -, h_k1, ek⟩ := inR_of hk
        obtain ⟨m1, l_m1, h_m1, em⟩ := inR_of hm
        obtain ⟨v1, h_v1, ev⟩ := kyOk_of hr_24
        subst ek em ev
        have t_k : tn (nI k1) = k1 := tn_nI (by omega)
        have t_m : tn (nI m1) = m1 := tn_nI (by omega)
        have t_v : tn (nI v1) = v1 := tn_nI (by omega)
        refine lv_aload_n hx hb dX1_question_33 rfl (lv_at hl 0 rfl) ?_
        refine m_g0 hx hb hts hown hK hP dX1_question_34 ?_
        refine lv_bipush (v := nI 30) hx hb dX1_question_37 (by decide) ?_
        refine x_icmp_ne (x := Z 0 0) (y := 30) (tgt := 45) hx hb (by omega) (by omega) dX1_question_39 (by decide) (fun c_39 => ?_) (fun c_39 => ?_)
        ·
          refine lv_aload_n hx hb dX1_question_45 rfl (lv_at hl 0 rfl) ?_
          refine m_g3 hx hb hts hown hK hP dX1_question_46 ?_
          refine lv_aload_n hx hb dX1_question_49 rfl (lv_at hl 0 rfl) ?_
          refine m_g0 hx hb hts hown hK hP dX1_question_50 ?_
          refine lv_iload_n hx hb dX1_question_53 rfl (lv_at hl 1 rfl) ?_
          refine m_s3 (j := Z 0 0) (v := k1) hx hb hK hP hD hS (by omega) dX1_question_54 (fun H locs hP hD hS => ?_)
          refine lv_aload_n hx hb dX1_question_55 rfl (lv_at hl 0 rfl) ?_
          refine m_g4 hx hb hts hown hK hP dX1_question_56 ?_
          refine lv_aload_n hx hb dX1_question_59 rfl (lv_at hl 0 rfl) ?_
          refine m_g0 hx hb hts hown hK hP dX1_question_60 ?_
          refine W.eq (g2 := F0 mi 63 ls [.int (nI (Z 0 0)), .ref (a 4)]) rfl ?_
          refine lv_iload_n hx hb dX1_question_63 rfl (lv_at hl 2 rfl) ?_
          refine m_s4 (j := Z 0 0) (v := m1) hx hb hK hP hD hS (by omega) dX1_question_64 (fun H locs hP hD hS => ?_)
          refine lv_aload_n hx hb dX1_question_65 rfl (lv_at hl 0 rfl) ?_
          refine m_g5 hx hb hts hown hK hP dX1_question_66 ?_
          refine lv_aload_n hx hb dX1_question_69 rfl (lv_at hl 0 rfl) ?_
          refine m_g0 hx hb hts hown hK hP dX1_question_70 ?_
          refine W.eq (g2 := F0 mi 73 ls [.int (nI (Z 0 0)), .ref (a 5)]) rfl ?_
          refine lv_iload_n hx hb dX1_question_73 rfl (lv_at hl 3 rfl) ?_
          refine m_s5 (j := Z 0 0) (v := v1) hx hb hK hP hD hS (by omega) dX1_question_74 (fun H locs hP hD hS => ?_)
          refine lv_aload_n hx hb dX1_question_75 rfl (lv_at hl 0 rfl) ?_
          refine lv_dup hx hb dX1_question_76 rfl ?_
          refine m_g0 hx hb hts hown hK hP dX1_question_77 ?_
          refine W.eq (g2 := F0 mi 80 ls [.int (nI (Z 0 0)), .ref o]) rfl ?_
          refine lv_iconst (v := nI 1) hx hb dX1_question_80 (by decide) ?_
          refine x_iadd hx hb dX1_question_81 ?_
          refine m_p0 (v := (Z 0 0) + 1) hx hb hts hown hK hP hD hS dX1_question_82 (fun H locs hP hD hS => ?_)
          refine lv_aload_n hx hb dX1_question_85 rfl (lv_at hl 0 rfl) ?_
          refine m_g0 hx hb hts hown hK hP dX1_question_86 ?_
          refine W.eq (g2 := F0 mi 89 ls [.int (nI (Z 0 0 + 1))]) rfl ?_
          refine lv_iconst (v := nI 1) hx hb dX1_question_89 (by decide) ?_
          refine x_isub hx hb (by omega) dX1_question_90 ?_
          refine W.iret (v := (nI ((Z 0 0 + 1) - 1))) hx hb hr (fun t9 ht9 hW9 => ⟨⟨_, (zu (zu (zu (zu Z 5 (Z 0 0) k1) 6 (Z 0 0) m1) 7 (Z 0 0) v1) 0 0 ((Z 0 0) + 1), G, T, K), rfl, ?_, mE_mk ht9 hP hK hW9 hD⟩, hS.F ht9⟩) hS.2.2 dX1_question_91
          have hn30 : Z 0 0 < 30 := by omega
          refine ⟨by rw [fQ, if_pos hvq, if_pos hn30] <;> rfl, ?_⟩
          rw [sQ, if_pos ⟨hvq, hn30⟩, t_k, t_m, t_v]
          exact ⟨sQ0_mw Z k1 m1 v1, hR.que k1 m1 v1⟩
        ·
          refine lv_bipush (v := -4) hx hb dX1_question_42 (by decide) ?_
          refine W.iret (v := (-4)) hx hb hr (fun t9 ht9 hW9 => ⟨⟨_, (Z, G, T, K), rfl, ?_, mE_mk ht9 hP hK hW9 hD⟩, hS.F ht9⟩) hS.2.2 dX1_question_44
          refine ⟨by rw [fQ, if_pos hvq, if_neg (by omega)], ?_⟩
          rw [sQ, if_neg (fun h => by have h2 := h.2; omega)]
          exact ⟨mwE.rf _, hR⟩

set_option maxHeartbeats 4000000 in
set_option maxRecDepth 100000 in
theorem ct_X1_judge (l : Launch) (dC : Nat → ClassId) (dI : Nat → Nat → Nat) (cy cz : ClassId) (o : Nat) (a : Nat → Nat) (Z : Nat → Nat → Nat) (G T K : Nat → Nat) (sz : Nat) (j : Int32) (p : Int32) (q : Int32) (v : Int32) (hI : Inv Z) (hR : MRel Z G T K) : Met l yX1_judge (wS yX1_judge cX1_judge 7 (Option.some Jvm.ClassFile.FieldType.int)) (rmF 2 44) (va_Pc [.ref o, .int j, .int p, .int q, .int v] (mS dC dI cy cz o a Z G T K sz)) (va_Qi (fun r (uu : MT) => r = fJud Z j p q v ∧ mwE uu.1 (sJud Z j p q v) ∧ MRel (sJud Z j p q v) uu.2.1 uu.2.2.1 uu.2.2.2) (mE dC dI cy cz o a (mA cy cz o a Z G T K sz)) (mA cy cz o a Z G T K sz)) 0 0 (mA cy cz o a Z G T K sz) := by
  refine Met.ofW (cc := cX1_judge) (maxL := 7) (ret := (Option.some Jvm.ClassFile.FieldType.int)) (by decide) rfl ?_
  intro pg en sv mi ag bw mt cd s₁ BL hml hv
  obtain ⟨rfl, hsz, hP, hK, hD0⟩ := hv
  have hx := BL.exec
  have hb := BL.bytes
  have hr := BL.returns
  have hts : ∀ w ∈ lw_ok, w.before _ sv = true := fun w hw => atoms_spec (ws := wS yX1_judge cX1_judge 7 (Option.some Jvm.ClassFile.FieldType.int)) BL.pre w (List.mem_cons_of_mem _ hw)
  have hown : sv.vm.findClass RX1 = some mi.cls := findClass_of_methodNamed BL.named
  have hlocks := BL.notSynchronized
  have fx : CallFix pg mi cd cX1_judge 7 sv _ lw_ok RX1 := ⟨hx, hb, hml, hown, hts⟩
  have hl := lv_entry ([.ref o, .int j, .int p, .int q, .int v]) (n := 7) (Nat.le_of_ble_eq_true rfl)
  rw [lg_entry_eq]
  generalize (lg_sl ([.ref o, .int j, .int p, .int q, .int v]) ++ List.replicate (7 - (lg_sl ([.ref o, .int j, .int p, .int q, .int v])).length) Slot.unset).toArray = ls at hl ⊢
  replace hl : lv_has ls 7 [(0, .ref o), (1, .int j), (2, .int p), (3, .int q), (4, .int v)] := hl
  subst hsz
  have hD : va_D (mA cy cz o a Z G T K sv.heap.size) (mw cy cz o a Z G T K) := hD0.self (sz := sv.heap.size)
  clear hD0
  generalize hAe : mA cy cz o a Z G T K sv.heap.size = A at hD ⊢
  have hA : ∀ q : Nat, sv.heap.size ≤ q → A q := fun q h => by rw [← hAe]; exact Or.inr h
  clear hAe
  refine x_start (fun H locs eH eL => ?_)
  replace hP : va_P (dC, dI) vwCl (mw cy cz o a Z G T K) H := by rw [eH]; exact hP
  have hS : va_S A sv.heap H locs := by rw [eH, eL]; exact va_S.rf
  clear eH eL
  obtain ⟨b0, b1, b2⟩ := hI.bd
  refine lv_aload_n hx hb dX1_judge_0 rfl (lv_at hl 0 rfl) ?_
  refine lv_iload_n hx hb dX1_judge_1 rfl (lv_at hl 1 rfl) ?_
  refine lv_iconst (v := nI 0) hx hb dX1_judge_2 (by decide) ?_
  refine lv_bipush (v := nI 7) hx hb dX1_judge_3 (by decide) ?_
  refine r_Vi (As := [.int j, .int (nI 0), .int (nI 7)]) (rest := []) fx (ct_X1_in l dC dI cy cz o a Z G T K j ((nI 0)) ((nI 7))) fyX1_in tM_RX1_51 rfl rfl ⟨Nat.le_of_ble_eq_true rfl, Nat.le_of_ble_eq_true rfl⟩ (m_pre hK hP) rfl hl.1 rfl (Nat.le_of_ble_eq_true rfl) dX1_judge_5 ⟨Nat.le_of_ble_eq_true rfl, Nat.le_of_ble_eq_true rfl⟩ (fun r_5 hr_5 => ?_)
  rcases hr_5 with ⟨rfl, hr_5⟩ | ⟨rfl, hr_5⟩
  ·
    refine x_if_eq_T (tgt := 27) hx hb (by decide) dX1_judge_8 (by decide) ?_
    refine lv_iconst (v := -1) hx hb dX1_judge_27 (by decide) ?_
    refine W.iret (v := (-1)) hx hb hr (fun t9 ht9 hW9 => ⟨⟨_, (Z, G, T, K), rfl, ?_, mE_mk ht9 hP hK hW9 hD⟩, hS.F ht9⟩) hS.2.2 dX1_judge_28
    first
    | (refine ⟨?_, ?_⟩; (rw [fJud, if_neg (fun h => hr_5 ((in_lh (by decide) (by decide)).mpr h.1.1))]); (rw [sJud, if_neg (fun h => hr_5 ((in_lh (by decide) (by decide)).mpr h.1.1.1))]; exact ⟨mwE.rf _, hR⟩))
    | (refine ⟨?_, ?_⟩; (rw [fJud, if_neg (fun h => hr_13 h.1.2.1)]); (rw [sJud, if_neg (fun h => hr_13 h.1.1.2.1)]; exact ⟨mwE.rf _, hR⟩))
    | (refine ⟨?_, ?_⟩; (rw [fJud, if_neg (fun h => hr_21 h.1.2.2)]); (rw [sJud, if_neg (fun h => hr_21 h.1.1.2.2)]; exact ⟨mwE.rf _, hR⟩))
  ·
    have i_j : inR j 0 8 := (in_lh (lo := 0) (hi := 7) (by decide) (by decide)).mp hr_5
    obtain ⟨j1, l_j1, h_j1, rfl⟩ := inR_of i_j
    have t_j : tn (nI j1) = j1 := tn_nI (by omega)
    refine x_if_eq_F (tgt := 27) hx hb (by decide) dX1_judge_8 (by decide) ?_
    refine lv_aload_n hx hb dX1_judge_11 rfl (lv_at hl 0 rfl) ?_
    refine lv_iload_n hx hb dX1_judge_12 rfl (lv_at hl 2 rfl) ?_
    refine r_Vi (As := [.int p]) (rest := []) fx (ct_X1_isPaper l dC dI cy cz o a Z G T K p hI) fyX1_isPaper tM_RX1_63 rfl rfl ⟨Nat.le_of_ble_eq_true rfl, Nat.le_of_ble_eq_true rfl⟩ (m_pre hK hP) rfl hl.1 rfl (Nat.le_of_ble_eq_true rfl) dX1_judge_13 ⟨Nat.le_of_ble_eq_true rfl, Nat.le_of_ble_eq_true rfl⟩ (fun r_13 hr_13 => ?_)
    rcases hr_13 with ⟨rfl, hr_13⟩ | ⟨rfl, hr_13⟩
    ·
      refine x_if_eq_T (tgt := 27) hx hb (by decide) dX1_judge_16 (by decide) ?_
      refine lv_iconst (v := -1) hx hb dX1_judge_27 (by decide) ?_
      refine W.iret (v := (-1)) hx hb hr (fun t9 ht9 hW9 => ⟨⟨_, (Z, G, T, K), rfl, ?_, mE_mk ht9 hP hK hW9 hD⟩, hS.F ht9⟩) hS.2.2 dX1_judge_28
      first
      | (refine ⟨?_, ?_⟩; (rw [fJud, if_neg (fun h => hr_5 ((in_lh (by decide) (by decide)).mpr h.1.1))]); (rw [sJud, if_neg (fun h => hr_5 ((in_lh (by decide) (by decide)).mpr h.1.1.1))]; exact ⟨mwE.rf _, hR⟩))
      | (refine ⟨?_, ?_⟩; (rw [fJud, if_neg (fun h => hr_13 h.1.2.1)]); (rw [sJud, if_neg (fun h => hr_13 h.1.1.2.1)]; exact ⟨mwE.rf _, hR⟩))
      | (refine ⟨?_, ?_⟩; (rw [fJud, if_neg (fun h => hr_21 h.1.2.2)]); (rw [sJud, if_neg (fun h => hr_21 h.1.1.2.2)]; exact ⟨mwE.rf _, hR⟩))
    ·
      have i_p := hr_13
      obtain ⟨p1, -, h_p1, rfl⟩ := inR_of i_p
      have t_p : tn (nI p1) = p1 := tn_nI (by omega)
      have bs := hI.sz (p := p1) (by omega)
      refine x_if_eq_F (tgt := 27) hx hb (by decide) dX1_judge_16 (by decide) ?_
      refine lv_aload_n hx hb dX1_judge_19 rfl (lv_at hl 0 rfl) ?_
      refine lv_iload_n hx hb dX1_judge_20 rfl (lv_at hl 3 rfl) ?_
      refine r_Vi (As := [.int q]) (rest := []) fx (ct_X1_isQuestion l dC dI cy cz o a Z G T K q hI) fyX1_isQuestion tM_RX1_59 rfl rfl ⟨Nat.le_of_ble_eq_true rfl, Nat.le_of_ble_eq_true rfl⟩ (m_pre hK hP) rfl hl.1 rfl (Nat.le_of_ble_eq_true rfl) dX1_judge_21 ⟨Nat.le_of_ble_eq_true rfl, Nat.le_of_ble_eq_true rfl⟩ (fun r_21 hr_21 => ?_)
      rcases hr_21 with ⟨rfl, hr_21⟩ | ⟨rfl, hr_21⟩
      ·
        refine x_if_ne_F (tgt := 29) hx hb (by decide) dX1_judge_24 (by decide) ?_
        refine lv_iconst (v := -1) hx hb dX1_judge_27 (by decide) ?_
        refine W.iret (v := (-1)) hx hb hr (fun t9 ht9 hW9 => ⟨⟨_, (Z, G, T, K), rfl, ?_, mE_mk ht9 hP hK hW9 hD⟩, hS.F ht9⟩) hS.2.2 dX1_judge_28
        first
        | (refine ⟨?_, ?_⟩; (rw [fJud, if_neg (fun h => hr_5 ((in_lh (by decide) (by decide)).mpr h.1.1))]); (rw [sJud, if_neg (fun h => hr_5 ((in_lh (by decide) (by decide)).mpr h.1.1.1))]; exact ⟨mwE.rf _, hR⟩))
        | (refine ⟨?_, ?_⟩; (rw [fJud, if_neg (fun h => hr_13 h.1.2.1)]); (rw [sJud, if_neg (fun h => hr_13 h.1.1.2.1)]; exact ⟨mwE.rf _, hR⟩))
        | (refine ⟨?_, ?_⟩; (rw [fJud, if_neg (fun h => hr_21 h.1.2.2)]); (rw [sJud, if_neg (fun h => hr_21 h.1.1.2.2)]; exact ⟨mwE.rf _, hR⟩))
      ·
        have i_q := hr_21
        obtain ⟨q1, -, h_q1, rfl⟩ := inR_of i_q
        have t_q : tn (nI q1) = q1 := tn_nI (by omega)
        have hqq := hI.q h_q1
        refine x_if_ne_T (tgt := 29) hx hb (by decide) dX1_judge_24 (by decide) ?_
        refine lv_aload_n hx hb dX1_judge_29 rfl (lv_at hl 0 rfl) ?_
        refine lv_iload_n hx hb dX1_judge_30 rfl (lv_at hl 2 rfl) ?_
        refine lv_iload_n hx hb dX1_judge_31 rfl (lv_at hl 3 rfl) ?_
        refine r_Vi (As := [.int (nI p1), .int (nI q1)]) (rest := []) fx (ct_X1_spot l dC dI cy cz o a Z G T K p1 q1 hI (by first | assumption | omega) (by first | assumption | omega)) fyX1_spot tM_RX1_66 rfl rfl ⟨Nat.le_of_ble_eq_true rfl, Nat.le_of_ble_eq_true rfl⟩ (m_pre hK hP) rfl hl.1 rfl (Nat.le_of_ble_eq_true rfl) dX1_judge_32 ⟨Nat.le_of_ble_eq_true rfl, Nat.le_of_ble_eq_true rfl⟩ (fun r_32 hr_32 => ?_)
        rcases hr_32 with ⟨rfl, hs_32⟩ | ⟨i_32, hi_32, hs_32, hq_32, rfl⟩
        ·
          refine lv_istore (lv' := [(5, .int (-1)), (0, .ref o), (1, .int (nI j1)), (2, .int (nI p1)), (3, .int (nI q1)), (4, .int v)]) hx hb dX1_judge_35 hl (by decide) rfl (fun ls hl => ?_)
          refine lv_iload hx hb dX1_judge_37 (lv_at hl 0 rfl) ?_
          refine x_if_ge_F (tgt := 44) hx hb (by decide) dX1_judge_39 (by decide) ?_
          refine lv_iconst (v := -1) hx hb dX1_judge_42 (by decide) ?_
          refine W.iret (v := (-1)) hx hb hr (fun t9 ht9 hW9 => ⟨⟨_, (Z, G, T, K), rfl, ?_, mE_mk ht9 hP hK hW9 hD⟩, hS.F ht9⟩) hS.2.2 dX1_judge_43
          have hno : ¬ spt Z (tn (nI p1)) (tn (nI q1)) < Z 8 (tn (nI p1)) := by rw [t_p, t_q]; omega
          refine ⟨by rw [fJud, if_neg (fun h => hno h.2)], ?_⟩
          rw [sJud, if_neg (fun h => hno h.1.2)]
          exact ⟨mwE.rf _, hR⟩
        ·
          have hjx : jx Z (nI j1) (nI p1) (nI q1) = (p1 * 12 + i_32) * 8 + j1 := by show (tn (nI p1) * 12 + spt Z (tn (nI p1)) (tn (nI q1))) * 8 + tn (nI j1) = _; rw [t_p, t_q, t_j, hs_32]
          have hsl : vJ Z (nI j1) (nI p1) (nI q1) ∧ spt Z (tn (nI p1)) (tn (nI q1)) < Z 8 (tn (nI p1)) := ⟨⟨i_j, i_p, i_q⟩, by rw [t_p, t_q, hs_32]; exact hi_32⟩
          refine lv_istore (lv' := [(5, .int (nI i_32)), (0, .ref o), (1, .int (nI j1)), (2, .int (nI p1)), (3, .int (nI q1)), (4, .int v)]) hx hb dX1_judge_35 hl (by decide) rfl (fun ls hl => ?_)
          refine lv_iload hx hb dX1_judge_37 (lv_at hl 0 rfl) ?_
          refine x_if_ge_T (tgt := 44) hx hb (nI_pos' (by omega)) dX1_judge_39 (by decide) ?_
          refine lv_aload_n hx hb dX1_judge_44 rfl (lv_at hl 1 rfl) ?_
          refine lv_iload hx hb dX1_judge_45 (lv_at hl 5 rfl) ?_
          refine lv_iconst (v := -1) hx hb dX1_judge_47 (by decide) ?_
          refine lv_aload_n hx hb dX1_judge_48 rfl (lv_at hl 1 rfl) ?_
          refine m_g4 hx hb hts hown hK hP dX1_judge_49 ?_
          refine lv_iload_n hx hb dX1_judge_52 rfl (lv_at hl 4 rfl) ?_
          refine m_l4 (j := q1) hx hb hK hP (by omega) dX1_judge_53 ?_
          refine r_Vi (As := [.int v, .int (-1), .int (nI (Z 6 q1))]) (rest := []) fx (ct_X1_in l dC dI cy cz o a Z G T K v ((-1)) ((nI (Z 6 q1)))) fyX1_in tM_RX1_51 rfl rfl ⟨Nat.le_of_ble_eq_true rfl, Nat.le_of_ble_eq_true rfl⟩ (m_pre hK hP) rfl hl.1 rfl (Nat.le_of_ble_eq_true rfl) dX1_judge_54 ⟨Nat.le_of_ble_eq_true rfl, Nat.le_of_ble_eq_true rfl⟩ (fun r_54 hr_54 => ?_)
          rcases hr_54 with ⟨rfl, hr_54⟩ | ⟨rfl, hr_54⟩
          ·
            have hno : ¬ vJ2 Z (nI q1) v := fun h => hr_54 ((vJ_in (by omega)).mpr (by have h2 : v = -1 ∨ inR v 0 (Z 6 (tn (nI q1)) + 1) := h; rw [t_q] at h2; exact h2))
            refine x_if_ne_F (tgt := 63) hx hb (by decide) dX1_judge_57 (by decide) ?_
            refine lv_bipush (v := -2) hx hb dX1_judge_60 (by decide) ?_
            refine W.iret (v := (-2)) hx hb hr (fun t9 ht9 hW9 => ⟨⟨_, (Z, G, T, K), rfl, ?_, mE_mk ht9 hP hK hW9 hD⟩, hS.F ht9⟩) hS.2.2 dX1_judge_62
            refine ⟨by rw [fJud, if_pos hsl, if_neg hno], ?_⟩
            rw [sJud, if_neg (fun h => hno h.2)]
            exact ⟨mwE.rf _, hR⟩
          ·
            have hv2 : vJ2 Z (nI q1) v := by
              show v = -1 ∨ inR v 0 (Z 6 (tn (nI q1)) + 1)
              rw [t_q]
              exact (vJ_in (by omega)).mp hr_54
            refine x_if_ne_T (tgt := 63) hx hb (by decide) dX1_judge_57 (by decide) ?_
            refine lv_aload_n hx hb dX1_judge_63 rfl (lv_at hl 1 rfl) ?_
            refine m_g12 hx hb hts hown hK hP dX1_judge_64 ?_
            refine lv_bipush (v := nI 96) hx hb dX1_judge_67 (by decide) ?_
            refine lv_iload_n hx hb dX1_judge_69 rfl (lv_at hl 2 rfl) ?_
            refine x_imulc hx hb dX1_judge_70 ?_
            refine lv_bipush (v := nI 12) hx hb dX1_judge_71 (by decide) ?_
            refine lv_iload_n hx hb dX1_judge_73 rfl (lv_at hl 3 rfl) ?_
            refine x_imulc hx hb dX1_judge_74 ?_
            refine x_iadd hx hb dX1_judge_75 ?_
            refine lv_iload hx hb dX1_judge_76 (lv_at hl 0 rfl) ?_
            refine x_iadd hx hb dX1_judge_78 ?_
            refine m_l12 (j := (j1 * 96 + (p1 * 12)) + i_32) hx hb hK hP (by omega) dX1_judge_79 ?_
            rw [hR.t (show p1 < 8 by omega) hi_32 h_j1]
            refine lv_istore (lv' := [(6, .int (gv (Z 14 ((p1 * 12 + i_32) * 8 + j1)))), (5, .int (nI i_32)), (0, .ref o), (1, .int (nI j1)), (2, .int (nI p1)), (3, .int (nI q1)), (4, .int v)]) hx hb dX1_judge_80 hl (by decide) rfl (fun ls hl => ?_)
            refine lv_aload_n hx hb dX1_judge_82 rfl (lv_at hl 2 rfl) ?_
            refine m_g12 hx hb hts hown hK hP dX1_judge_83 ?_
            refine lv_bipush (v := nI 96) hx hb dX1_judge_86 (by decide) ?_
            refine lv_iload_n hx hb dX1_judge_88 rfl (lv_at hl 3 rfl) ?_
            refine x_imulc hx hb dX1_judge_89 ?_
            refine lv_bipush (v := nI 12) hx hb dX1_judge_90 (by decide) ?_
            refine lv_iload_n hx hb dX1_judge_92 rfl (lv_at hl 4 rfl) ?_
            refine x_imulc hx hb dX1_judge_93 ?_
            refine x_iadd hx hb dX1_judge_94 ?_
            refine lv_iload hx hb dX1_judge_95 (lv_at hl 1 rfl) ?_
            refine x_iadd hx hb dX1_judge_97 ?_
            refine lv_iload hx hb dX1_judge_98 (lv_at hl 6 rfl) ?_
            refine W.eq (g2 := F0 mi 100 ls [.int (gv (jV v)), .int (nI ((j1 * 96 + (p1 * 12)) + i_32)), .ref (a 12)]) (by rw [jV_gv hv2]) ?_
            refine m_s12 (j := (j1 * 96 + (p1 * 12)) + i_32) (v := jV v) hx hb hK hP hD hS (by omega) dX1_judge_100 (fun H locs hP hD hS => ?_)
            refine lv_iload hx hb dX1_judge_101 (lv_at hl 0 rfl) ?_
            refine W.iret (v := (gv (Z 14 ((p1 * 12 + i_32) * 8 + j1)))) hx hb hr (fun t9 ht9 hW9 => ⟨⟨_, (Z, G, ru T ((j1 * 96 + (p1 * 12)) + i_32) (jV v), K), rfl, ?_, mE_mk ht9 hP hK hW9 hD⟩, hS.F ht9⟩) hS.2.2 dX1_judge_103
            refine ⟨by rw [fJud, if_pos hsl, if_pos hv2, hjx], ?_⟩
            rw [sJud, if_pos ⟨hsl, hv2⟩, hjx]
            exact ⟨⟨rfl, rfl, rfl, rfl, rfl, rfl, rfl, rfl, rfl, rfl⟩, hR.jud (by omega) (by omega) (by omega) hI⟩

set_option maxHeartbeats 4000000 in
set_option maxRecDepth 100000 in
theorem ct_X1_sum (l : Launch) (dC : Nat → ClassId) (dI : Nat → Nat → Nat) (cy cz : ClassId) (o : Nat) (a : Nat → Nat) (Z : Nat → Nat → Nat) (G T K : Nat → Nat) (u : Int32) (q : Int32) (hI : Inv Z) (hR : MRel Z G T K) : Met l yX1_sum (wS yX1_sum cX1_sum 3 (Option.some Jvm.ClassFile.FieldType.int)) (rmF 3 70) (va_Pc [.ref o, .int u, .int q] (mR dC dI cy cz o a Z G T K)) (vp_Si (fun r => r = fSum Z u q)) 0 0 (fun _ => False) := by
  refine Met.ofW (cc := cX1_sum) (maxL := 3) (ret := (Option.some Jvm.ClassFile.FieldType.int)) (by decide) rfl ?_
  intro pg en sv mi ag bw mt cd s₁ BL hml hv
  obtain ⟨rfl, hP, hK⟩ := hv
  have hx := BL.exec
  have hb := BL.bytes
  have hr := BL.returns
  have hts : ∀ w ∈ lw_ok, w.before _ sv = true := fun w hw => atoms_spec (ws := wS yX1_sum cX1_sum 3 (Option.some Jvm.ClassFile.FieldType.int)) BL.pre w (List.mem_cons_of_mem _ hw)
  have hown : sv.vm.findClass RX1 = some mi.cls := findClass_of_methodNamed BL.named
  have hlocks := BL.notSynchronized
  have fx : CallFix pg mi cd cX1_sum 3 sv _ lw_ok RX1 := ⟨hx, hb, hml, hown, hts⟩
  have hl := lv_entry ([.ref o, .int u, .int q]) (n := 3) (Nat.le_of_ble_eq_true rfl)
  rw [lg_entry_eq]
  generalize (lg_sl ([.ref o, .int u, .int q]) ++ List.replicate (3 - (lg_sl ([.ref o, .int u, .int q])).length) Slot.unset).toArray = ls at hl ⊢
  replace hl : lv_has ls 3 [(0, .ref o), (1, .int u), (2, .int q)] := hl
  obtain ⟨b0, b1, b2⟩ := hI.bd
  refine lv_aload_n hx hb dX1_sum_0 rfl (lv_at hl 0 rfl) ?_
  refine lv_iload_n hx hb dX1_sum_1 rfl (lv_at hl 1 rfl) ?_
  refine r_Vi (As := [.int u]) (rest := []) fx (ct_X1_isPupil l dC dI cy cz o a Z G T K u hI) fyX1_isPupil tM_RX1_74 rfl rfl ⟨Nat.le_of_ble_eq_true rfl, Nat.le_of_ble_eq_true rfl⟩ (m_pre hK hP) rfl hl.1 rfl (Nat.le_of_ble_eq_true rfl) dX1_sum_2 ⟨Nat.le_of_ble_eq_true rfl, Nat.le_of_ble_eq_true rfl⟩ (fun r_2 hr_2 => ?_)
  rcases hr_2 with ⟨rfl, hr_2⟩ | ⟨rfl, hr_2⟩
  ·
    refine x_if_eq_T (tgt := 16) hx hb (by decide) dX1_sum_5 (by decide) ?_
    refine lv_iconst (v := -1) hx hb dX1_sum_16 (by decide) ?_
    refine W.iret (v := (-1)) hx hb hr (fun t9 ht9 hW9 => ⟨_, rfl, ?_, ht9⟩) (fun q h => by cases h) dX1_sum_17
    first
    | (rw [fSum, if_neg (fun h => hr_2 h.1)]; done)
    | (rw [fSum, if_neg (fun h => hr_10 h.2)]; done)
    | (rw [fSum, if_pos ⟨i_u, i_q⟩, t_u, t_q, if_pos c_25]; done)
    | (rw [fSum, if_pos ⟨i_u, i_q⟩, t_u, t_q, if_neg c_25]; done)
  ·
    have i_u := hr_2
    obtain ⟨u1, -, h_u1, rfl⟩ := inR_of i_u
    have t_u : tn (nI u1) = u1 := tn_nI (by omega)
    have hpu := hI.pu h_u1
    refine x_if_eq_F (tgt := 16) hx hb (by decide) dX1_sum_5 (by decide) ?_
    refine lv_aload_n hx hb dX1_sum_8 rfl (lv_at hl 0 rfl) ?_
    refine lv_iload_n hx hb dX1_sum_9 rfl (lv_at hl 2 rfl) ?_
    refine r_Vi (As := [.int q]) (rest := []) fx (ct_X1_isPaper l dC dI cy cz o a Z G T K q hI) fyX1_isPaper tM_RX1_63 rfl rfl ⟨Nat.le_of_ble_eq_true rfl, Nat.le_of_ble_eq_true rfl⟩ (m_pre hK hP) rfl hl.1 rfl (Nat.le_of_ble_eq_true rfl) dX1_sum_10 ⟨Nat.le_of_ble_eq_true rfl, Nat.le_of_ble_eq_true rfl⟩ (fun r_10 hr_10 => ?_)
    rcases hr_10 with ⟨rfl, hr_10⟩ | ⟨rfl, hr_10⟩
    ·
      refine x_if_ne_F (tgt := 18) hx hb (by decide) dX1_sum_13 (by decide) ?_
      refine lv_iconst (v := -1) hx hb dX1_sum_16 (by decide) ?_
      refine W.iret (v := (-1)) hx hb hr (fun t9 ht9 hW9 => ⟨_, rfl, ?_, ht9⟩) (fun q h => by cases h) dX1_sum_17
      first
      | (rw [fSum, if_neg (fun h => hr_2 h.1)]; done)
      | (rw [fSum, if_neg (fun h => hr_10 h.2)]; done)
      | (rw [fSum, if_pos ⟨i_u, i_q⟩, t_u, t_q, if_pos c_25]; done)
      | (rw [fSum, if_pos ⟨i_u, i_q⟩, t_u, t_q, if_neg c_25]; done)
    ·
      have i_q := hr_10
      obtain ⟨q1, -, h_q1, rfl⟩ := inR_of i_q
      have t_q : tn (nI q1) = q1 := tn_nI (by omega)
      refine x_if_ne_T (tgt := 18) hx hb (by decide) dX1_sum_13 (by decide) ?_
      refine lv_aload_n hx hb dX1_sum_18 rfl (lv_at hl 0 rfl) ?_
      refine m_g9 hx hb hts hown hK hP dX1_sum_19 ?_
      refine lv_iload_n hx hb dX1_sum_22 rfl (lv_at hl 1 rfl) ?_
      refine m_l9 (j := u1) hx hb hK hP (by omega) dX1_sum_23 ?_
      refine lv_iload_n hx hb dX1_sum_24 rfl (lv_at hl 2 rfl) ?_
      refine x_icmp_ne (x := Z 11 u1) (y := q1) (tgt := 33) hx hb (by omega) (by omega) dX1_sum_25 (by decide) (fun c_25 => ?_) (fun c_25 => ?_)
      ·
        refine lv_aload_n hx hb dX1_sum_33 rfl (lv_at hl 0 rfl) ?_
        refine lv_iload_n hx hb dX1_sum_34 rfl (lv_at hl 1 rfl) ?_
        refine lv_iload_n hx hb dX1_sum_35 rfl (lv_at hl 2 rfl) ?_
        refine r_Vi (As := [.int (nI u1), .int (nI q1)]) (rest := []) fx (ct_X1_sharedSum l dC dI cy cz o a Z G T K u1 q1 hI hR (by first | assumption | omega) (by first | assumption | omega)) fyX1_sharedSum tM_RX1_121 rfl rfl ⟨Nat.le_of_ble_eq_true rfl, Nat.le_of_ble_eq_true rfl⟩ (m_pre hK hP) rfl hl.1 rfl (Nat.le_of_ble_eq_true rfl) dX1_sum_36 ⟨Nat.le_of_ble_eq_true rfl, Nat.le_of_ble_eq_true rfl⟩ (fun r_36 hr_36 => ?_)
        subst hr_36
        refine W.iret (v := (nI (smS Z u1 (shB Z q1)))) hx hb hr (fun t9 ht9 hW9 => ⟨_, rfl, ?_, ht9⟩) (fun q h => by cases h) dX1_sum_39
        first
        | (rw [fSum, if_neg (fun h => hr_2 h.1)]; done)
        | (rw [fSum, if_neg (fun h => hr_10 h.2)]; done)
        | (rw [fSum, if_pos ⟨i_u, i_q⟩, t_u, t_q, if_pos c_25]; done)
        | (rw [fSum, if_pos ⟨i_u, i_q⟩, t_u, t_q, if_neg c_25]; done)
      ·
        refine lv_bipush (v := -2) hx hb dX1_sum_28 (by decide) ?_
        refine lv_goto (tgt := 39) hx hb dX1_sum_30 (by decide) ?_
        refine W.iret (v := (-2)) hx hb hr (fun t9 ht9 hW9 => ⟨_, rfl, ?_, ht9⟩) (fun q h => by cases h) dX1_sum_39
        first
        | (rw [fSum, if_neg (fun h => hr_2 h.1)]; done)
        | (rw [fSum, if_neg (fun h => hr_10 h.2)]; done)
        | (rw [fSum, if_pos ⟨i_u, i_q⟩, t_u, t_q, if_pos c_25]; done)
        | (rw [fSum, if_pos ⟨i_u, i_q⟩, t_u, t_q, if_neg c_25]; done)

set_option maxHeartbeats 4000000 in
set_option maxRecDepth 100000 in
theorem ct_X1_alike (l : Launch) (dC : Nat → ClassId) (dI : Nat → Nat → Nat) (cy cz : ClassId) (o : Nat) (a : Nat → Nat) (Z : Nat → Nat → Nat) (G T K : Nat → Nat) (u : Int32) (v : Int32) (hI : Inv Z) (hR : MRel Z G T K) : Met l yX1_alike (wS yX1_alike cX1_alike 3 (Option.some Jvm.ClassFile.FieldType.int)) (rmF 3 70) (va_Pc [.ref o, .int u, .int v] (mR dC dI cy cz o a Z G T K)) (vp_Si (fun r => r = fAlk Z u v)) 0 0 (fun _ => False) := by
  refine Met.ofW (cc := cX1_alike) (maxL := 3) (ret := (Option.some Jvm.ClassFile.FieldType.int)) (by decide) rfl ?_
  intro pg en sv mi ag bw mt cd s₁ BL hml hv
  obtain ⟨rfl, hP, hK⟩ := hv
  have hx := BL.exec
  have hb := BL.bytes
  have hr := BL.returns
  have hts : ∀ w ∈ lw_ok, w.before _ sv = true := fun w hw => atoms_spec (ws := wS yX1_alike cX1_alike 3 (Option.some Jvm.ClassFile.FieldType.int)) BL.pre w (List.mem_cons_of_mem _ hw)
  have hown : sv.vm.findClass RX1 = some mi.cls := findClass_of_methodNamed BL.named
  have hlocks := BL.notSynchronized
  have fx : CallFix pg mi cd cX1_alike 3 sv _ lw_ok RX1 := ⟨hx, hb, hml, hown, hts⟩
  have hl := lv_entry ([.ref o, .int u, .int v]) (n := 3) (Nat.le_of_ble_eq_true rfl)
  rw [lg_entry_eq]
  generalize (lg_sl ([.ref o, .int u, .int v]) ++ List.replicate (3 - (lg_sl ([.ref o, .int u, .int v])).length) Slot.unset).toArray = ls at hl ⊢
  replace hl : lv_has ls 3 [(0, .ref o), (1, .int u), (2, .int v)] := hl
  obtain ⟨b0, b1, b2⟩ := hI.bd
  refine lv_aload_n hx hb dX1_alike_0 rfl (lv_at hl 0 rfl) ?_
  refine lv_iload_n hx hb dX1_alike_1 rfl (lv_at hl 1 rfl) ?_
  refine r_Vi (As := [.int u]) (rest := []) fx (ct_X1_isPupil l dC dI cy cz o a Z G T K u hI) fyX1_isPupil tM_RX1_74 rfl rfl ⟨Nat.le_of_ble_eq_true rfl, Nat.le_of_ble_eq_true rfl⟩ (m_pre hK hP) rfl hl.1 rfl (Nat.le_of_ble_eq_true rfl) dX1_alike_2 ⟨Nat.le_of_ble_eq_true rfl, Nat.le_of_ble_eq_true rfl⟩ (fun r_2 hr_2 => ?_)
  rcases hr_2 with ⟨rfl, hr_2⟩ | ⟨rfl, hr_2⟩
  ·
    refine x_if_eq_T (tgt := 16) hx hb (by decide) dX1_alike_5 (by decide) ?_
    refine lv_iconst (v := -1) hx hb dX1_alike_16 (by decide) ?_
    refine W.iret (v := (-1)) hx hb hr (fun t9 ht9 hW9 => ⟨_, rfl, ?_, ht9⟩) (fun q h => by cases h) dX1_alike_17
    first
    | (rw [fAlk, if_neg (fun h => hr_2 h.1)]; done)
    | (rw [fAlk, if_neg (fun h => hr_10 h.2)]; done)
    | (rw [fAlk, if_pos ⟨i_u, i_v⟩, t_u, t_v, if_pos (Or.inl c_20)]; done)
    | (rw [fAlk, if_pos ⟨i_u, i_v⟩, t_u, t_v, if_pos (Or.inr c_35)]; done)
    | (rw [fAlk, if_pos ⟨i_u, i_v⟩, t_u, t_v, if_neg (fun h => h.elim c_20 (fun q => q c_35))]; done)
  ·
    have i_u := hr_2
    obtain ⟨u1, -, h_u1, rfl⟩ := inR_of i_u
    have t_u : tn (nI u1) = u1 := tn_nI (by omega)
    have hpu := hI.pu h_u1
    refine x_if_eq_F (tgt := 16) hx hb (by decide) dX1_alike_5 (by decide) ?_
    refine lv_aload_n hx hb dX1_alike_8 rfl (lv_at hl 0 rfl) ?_
    refine lv_iload_n hx hb dX1_alike_9 rfl (lv_at hl 2 rfl) ?_
    refine r_Vi (As := [.int v]) (rest := []) fx (ct_X1_isPupil l dC dI cy cz o a Z G T K v hI) fyX1_isPupil tM_RX1_74 rfl rfl ⟨Nat.le_of_ble_eq_true rfl, Nat.le_of_ble_eq_true rfl⟩ (m_pre hK hP) rfl hl.1 rfl (Nat.le_of_ble_eq_true rfl) dX1_alike_10 ⟨Nat.le_of_ble_eq_true rfl, Nat.le_of_ble_eq_true rfl⟩ (fun r_10 hr_10 => ?_)
    rcases hr_10 with ⟨rfl, hr_10⟩ | ⟨rfl, hr_10⟩
    ·
      refine x_if_ne_F (tgt := 18) hx hb (by decide) dX1_alike_13 (by decide) ?_
      refine lv_iconst (v := -1) hx hb dX1_alike_16 (by decide) ?_
      refine W.iret (v := (-1)) hx hb hr (fun t9 ht9 hW9 => ⟨_, rfl, ?_, ht9⟩) (fun q h => by cases h) dX1_alike_17
      first
      | (rw [fAlk, if_neg (fun h => hr_2 h.1)]; done)
      | (rw [fAlk, if_neg (fun h => hr_10 h.2)]; done)
      | (rw [fAlk, if_pos ⟨i_u, i_v⟩, t_u, t_v, if_pos (Or.inl c_20)]; done)
      | (rw [fAlk, if_pos ⟨i_u, i_v⟩, t_u, t_v, if_pos (Or.inr c_35)]; done)
      | (rw [fAlk, if_pos ⟨i_u, i_v⟩, t_u, t_v, if_neg (fun h => h.elim c_20 (fun q => q c_35))]; done)
    ·
      have i_v := hr_10
      obtain ⟨v1, -, h_v1, rfl⟩ := inR_of i_v
      have t_v : tn (nI v1) = v1 := tn_nI (by omega)
      have hpv := hI.pu h_v1
      refine x_if_ne_T (tgt := 18) hx hb (by decide) dX1_alike_13 (by decide) ?_
      refine lv_iload_n hx hb dX1_alike_18 rfl (lv_at hl 1 rfl) ?_
      refine lv_iload_n hx hb dX1_alike_19 rfl (lv_at hl 2 rfl) ?_
      refine x_icmp_eq (x := u1) (y := v1) (tgt := 38) hx hb (by omega) (by omega) dX1_alike_20 (by decide) (fun c_20 => ?_) (fun c_20 => ?_)
      ·
        refine lv_bipush (v := -2) hx hb dX1_alike_38 (by decide) ?_
        refine lv_goto (tgt := 49) hx hb dX1_alike_40 (by decide) ?_
        refine W.iret (v := (-2)) hx hb hr (fun t9 ht9 hW9 => ⟨_, rfl, ?_, ht9⟩) (fun q h => by cases h) dX1_alike_49
        first
        | (rw [fAlk, if_neg (fun h => hr_2 h.1)]; done)
        | (rw [fAlk, if_neg (fun h => hr_10 h.2)]; done)
        | (rw [fAlk, if_pos ⟨i_u, i_v⟩, t_u, t_v, if_pos (Or.inl c_20)]; done)
        | (rw [fAlk, if_pos ⟨i_u, i_v⟩, t_u, t_v, if_pos (Or.inr c_35)]; done)
        | (rw [fAlk, if_pos ⟨i_u, i_v⟩, t_u, t_v, if_neg (fun h => h.elim c_20 (fun q => q c_35))]; done)
      ·
        refine lv_aload_n hx hb dX1_alike_23 rfl (lv_at hl 0 rfl) ?_
        refine m_g9 hx hb hts hown hK hP dX1_alike_24 ?_
        refine lv_iload_n hx hb dX1_alike_27 rfl (lv_at hl 1 rfl) ?_
        refine m_l9 (j := u1) hx hb hK hP (by omega) dX1_alike_28 ?_
        refine lv_aload_n hx hb dX1_alike_29 rfl (lv_at hl 0 rfl) ?_
        refine m_g9 hx hb hts hown hK hP dX1_alike_30 ?_
        refine lv_iload_n hx hb dX1_alike_33 rfl (lv_at hl 2 rfl) ?_
        refine m_l9 (j := v1) hx hb hK hP (by omega) dX1_alike_34 ?_
        refine x_icmp_eq (x := Z 11 u1) (y := Z 11 v1) (tgt := 43) hx hb (by omega) (by omega) dX1_alike_35 (by decide) (fun c_35 => ?_) (fun c_35 => ?_)
        ·
          refine lv_aload_n hx hb dX1_alike_43 rfl (lv_at hl 0 rfl) ?_
          refine lv_iload_n hx hb dX1_alike_44 rfl (lv_at hl 1 rfl) ?_
          refine lv_iload_n hx hb dX1_alike_45 rfl (lv_at hl 2 rfl) ?_
          refine r_Vi (As := [.int (nI u1), .int (nI v1)]) (rest := []) fx (ct_X1_alikeMany l dC dI cy cz o a Z G T K u1 v1 hI hR (by first | assumption | omega) (by first | assumption | omega) c_35.symm) fyX1_alikeMany tM_RX1_148 rfl rfl ⟨Nat.le_of_ble_eq_true rfl, Nat.le_of_ble_eq_true rfl⟩ (m_pre hK hP) rfl hl.1 rfl (Nat.le_of_ble_eq_true rfl) dX1_alike_46 ⟨Nat.le_of_ble_eq_true rfl, Nat.le_of_ble_eq_true rfl⟩ (fun r_46 hr_46 => ?_)
          subst hr_46
          refine W.iret (v := (nI (alk Z u1 v1))) hx hb hr (fun t9 ht9 hW9 => ⟨_, rfl, ?_, ht9⟩) (fun q h => by cases h) dX1_alike_49
          first
          | (rw [fAlk, if_neg (fun h => hr_2 h.1)]; done)
          | (rw [fAlk, if_neg (fun h => hr_10 h.2)]; done)
          | (rw [fAlk, if_pos ⟨i_u, i_v⟩, t_u, t_v, if_pos (Or.inl c_20)]; done)
          | (rw [fAlk, if_pos ⟨i_u, i_v⟩, t_u, t_v, if_pos (Or.inr c_35)]; done)
          | (rw [fAlk, if_pos ⟨i_u, i_v⟩, t_u, t_v, if_neg (fun h => h.elim c_20 (fun q => q c_35))]; done)
        ·
          refine lv_bipush (v := -2) hx hb dX1_alike_38 (by decide) ?_
          refine lv_goto (tgt := 49) hx hb dX1_alike_40 (by decide) ?_
          refine W.iret (v := (-2)) hx hb hr (fun t9 ht9 hW9 => ⟨_, rfl, ?_, ht9⟩) (fun q h => by cases h) dX1_alike_49
          first
          | (rw [fAlk, if_neg (fun h => hr_2 h.1)]; done)
          | (rw [fAlk, if_neg (fun h => hr_10 h.2)]; done)
          | (rw [fAlk, if_pos ⟨i_u, i_v⟩, t_u, t_v, if_pos (Or.inl c_20)]; done)
          | (rw [fAlk, if_pos ⟨i_u, i_v⟩, t_u, t_v, if_pos (Or.inr c_35)]; done)
          | (rw [fAlk, if_pos ⟨i_u, i_v⟩, t_u, t_v, if_neg (fun h => h.elim c_20 (fun q => q c_35))]; done)

set_option maxHeartbeats 4000000 in
set_option maxRecDepth 100000 in
theorem ct_X1_passes (l : Launch) (dC : Nat → ClassId) (dI : Nat → Nat → Nat) (cy cz : ClassId) (o : Nat) (a : Nat → Nat) (Z : Nat → Nat → Nat) (G T K : Nat → Nat) (u : Int32) (hI : Inv Z) (hR : MRel Z G T K) : Met l yX1_passes (wS yX1_passes cX1_passes 2 (Option.some Jvm.ClassFile.FieldType.int)) (rmF 4 89) (va_Pc [.ref o, .int u] (mR dC dI cy cz o a Z G T K)) (vp_Si (fun r => r = fPas Z u)) 0 0 (fun _ => False) := by
  refine Met.ofW (cc := cX1_passes) (maxL := 2) (ret := (Option.some Jvm.ClassFile.FieldType.int)) (by decide) rfl ?_
  intro pg en sv mi ag bw mt cd s₁ BL hml hv
  obtain ⟨rfl, hP, hK⟩ := hv
  have hx := BL.exec
  have hb := BL.bytes
  have hr := BL.returns
  have hts : ∀ w ∈ lw_ok, w.before _ sv = true := fun w hw => atoms_spec (ws := wS yX1_passes cX1_passes 2 (Option.some Jvm.ClassFile.FieldType.int)) BL.pre w (List.mem_cons_of_mem _ hw)
  have hown : sv.vm.findClass RX1 = some mi.cls := findClass_of_methodNamed BL.named
  have hlocks := BL.notSynchronized
  have fx : CallFix pg mi cd cX1_passes 2 sv _ lw_ok RX1 := ⟨hx, hb, hml, hown, hts⟩
  have hl := lv_entry ([.ref o, .int u]) (n := 2) (Nat.le_of_ble_eq_true rfl)
  rw [lg_entry_eq]
  generalize (lg_sl ([.ref o, .int u]) ++ List.replicate (2 - (lg_sl ([.ref o, .int u])).length) Slot.unset).toArray = ls at hl ⊢
  replace hl : lv_has ls 2 [(0, .ref o), (1, .int u)] := hl
  obtain ⟨b0, b1, b2⟩ := hI.bd
  refine lv_aload_n hx hb dX1_passes_0 rfl (lv_at hl 0 rfl) ?_
  refine lv_iload_n hx hb dX1_passes_1 rfl (lv_at hl 1 rfl) ?_
  refine r_Vi (As := [.int u]) (rest := []) fx (ct_X1_isPupil l dC dI cy cz o a Z G T K u hI) fyX1_isPupil tM_RX1_74 rfl rfl ⟨Nat.le_of_ble_eq_true rfl, Nat.le_of_ble_eq_true rfl⟩ (m_pre hK hP) rfl hl.1 rfl (Nat.le_of_ble_eq_true rfl) dX1_passes_2 ⟨Nat.le_of_ble_eq_true rfl, Nat.le_of_ble_eq_true rfl⟩ (fun r_2 hr_2 => ?_)
  rcases hr_2 with ⟨rfl, hr_2⟩ | ⟨rfl, hr_2⟩
  ·
    refine x_if_eq_T (tgt := 24) hx hb (by decide) dX1_passes_5 (by decide) ?_
    refine lv_iconst (v := -1) hx hb dX1_passes_24 (by decide) ?_
    refine W.iret (v := (-1)) hx hb hr (fun t9 ht9 hW9 => ⟨_, rfl, ?_, ht9⟩) (fun q h => by cases h) dX1_passes_25
    first
    | (rw [fPas, if_neg hr_2]; done)
    | (rw [fPas, if_pos i_u, t_u, if_pos hr_10]; rfl; done)
    | (rw [fPas, if_pos i_u, t_u, if_neg hr_10]; rfl; done)
  ·
    have i_u := hr_2
    obtain ⟨u1, -, h_u1, rfl⟩ := inR_of i_u
    have t_u : tn (nI u1) = u1 := tn_nI (by omega)
    refine x_if_eq_F (tgt := 24) hx hb (by decide) dX1_passes_5 (by decide) ?_
    refine lv_aload_n hx hb dX1_passes_8 rfl (lv_at hl 0 rfl) ?_
    refine lv_iload_n hx hb dX1_passes_9 rfl (lv_at hl 1 rfl) ?_
    refine r_Vi (As := [.int (nI u1)]) (rest := []) fx (ct_X1_isPassed l dC dI cy cz o a Z G T K u1 hI hR (by first | assumption | omega)) fyX1_isPassed tM_RX1_145 rfl rfl ⟨Nat.le_of_ble_eq_true rfl, Nat.le_of_ble_eq_true rfl⟩ (m_pre hK hP) rfl hl.1 rfl (Nat.le_of_ble_eq_true rfl) dX1_passes_10 ⟨Nat.le_of_ble_eq_true rfl, Nat.le_of_ble_eq_true rfl⟩ (fun r_10 hr_10 => ?_)
    rcases hr_10 with ⟨rfl, hr_10⟩ | ⟨rfl, hr_10⟩
    ·
      refine x_if_eq_T (tgt := 20) hx hb (by decide) dX1_passes_13 (by decide) ?_
      refine lv_iconst (v := nI 0) hx hb dX1_passes_20 (by decide) ?_
      refine lv_goto (tgt := 25) hx hb dX1_passes_21 (by decide) ?_
      refine W.iret (v := (nI 0)) hx hb hr (fun t9 ht9 hW9 => ⟨_, rfl, ?_, ht9⟩) (fun q h => by cases h) dX1_passes_25
      first
      | (rw [fPas, if_neg hr_2]; done)
      | (rw [fPas, if_pos i_u, t_u, if_pos hr_10]; rfl; done)
      | (rw [fPas, if_pos i_u, t_u, if_neg hr_10]; rfl; done)
    ·
      refine x_if_eq_F (tgt := 20) hx hb (by decide) dX1_passes_13 (by decide) ?_
      refine lv_iconst (v := nI 1) hx hb dX1_passes_16 (by decide) ?_
      refine lv_goto (tgt := 25) hx hb dX1_passes_17 (by decide) ?_
      refine W.iret (v := (nI 1)) hx hb hr (fun t9 ht9 hW9 => ⟨_, rfl, ?_, ht9⟩) (fun q h => by cases h) dX1_passes_25
      first
      | (rw [fPas, if_neg hr_2]; done)
      | (rw [fPas, if_pos i_u, t_u, if_pos hr_10]; rfl; done)
      | (rw [fPas, if_pos i_u, t_u, if_neg hr_10]; rfl; done)

set_option maxHeartbeats 4000000 in
set_option maxRecDepth 100000 in
theorem ct_X1_cut (l : Launch) (dC : Nat → ClassId) (dI : Nat → Nat → Nat) (cy cz : ClassId) (o : Nat) (a : Nat → Nat) (Z : Nat → Nat → Nat) (G T K : Nat → Nat) (p : Int32) (w : Int32) (hI : Inv Z) (hR : MRel Z G T K) : Met l yX1_cut (wS yX1_cut cX1_cut 3 (Option.some Jvm.ClassFile.FieldType.long)) (rmF 2 57) (va_Pc [.ref o, .int p, .int w] (mR dC dI cy cz o a Z G T K)) (vp_Sl (fun r => r = fCut Z p w)) 0 0 (fun _ => False) := by
  refine Met.ofW (cc := cX1_cut) (maxL := 3) (ret := (Option.some Jvm.ClassFile.FieldType.long)) (by decide) rfl ?_
  intro pg en sv mi ag bw mt cd s₁ BL hml hv
  obtain ⟨rfl, hP, hK⟩ := hv
  have hx := BL.exec
  have hb := BL.bytes
  have hr := BL.returns
  have hts : ∀ w ∈ lw_ok, w.before _ sv = true := fun w hw => atoms_spec (ws := wS yX1_cut cX1_cut 3 (Option.some Jvm.ClassFile.FieldType.long)) BL.pre w (List.mem_cons_of_mem _ hw)
  have hown : sv.vm.findClass RX1 = some mi.cls := findClass_of_methodNamed BL.named
  have hlocks := BL.notSynchronized
  have fx : CallFix pg mi cd cX1_cut 3 sv _ lw_ok RX1 := ⟨hx, hb, hml, hown, hts⟩
  have hl := lv_entry ([.ref o, .int p, .int w]) (n := 3) (Nat.le_of_ble_eq_true rfl)
  rw [lg_entry_eq]
  generalize (lg_sl ([.ref o, .int p, .int w]) ++ List.replicate (3 - (lg_sl ([.ref o, .int p, .int w])).length) Slot.unset).toArray = ls at hl ⊢
  replace hl : lv_has ls 3 [(0, .ref o), (1, .int p), (2, .int w)] := hl
  obtain ⟨b0, b1, b2⟩ := hI.bd
  refine lv_aload_n hx hb dX1_cut_0 rfl (lv_at hl 0 rfl) ?_
  refine lv_iload_n hx hb dX1_cut_1 rfl (lv_at hl 1 rfl) ?_
  refine r_Vi (As := [.int p]) (rest := []) fx (ct_X1_isPaper l dC dI cy cz o a Z G T K p hI) fyX1_isPaper tM_RX1_63 rfl rfl ⟨Nat.le_of_ble_eq_true rfl, Nat.le_of_ble_eq_true rfl⟩ (m_pre hK hP) rfl hl.1 rfl (Nat.le_of_ble_eq_true rfl) dX1_cut_2 ⟨Nat.le_of_ble_eq_true rfl, Nat.le_of_ble_eq_true rfl⟩ (fun r_2 hr_2 => ?_)
  rcases hr_2 with ⟨rfl, hr_2⟩ | ⟨rfl, hr_2⟩
  ·
    refine x_if_eq_T (tgt := 18) hx hb (by decide) dX1_cut_5 (by decide) ?_
    refine lv_ldc2 (v := -9223372036854775808) hx hb hown (hts _ (ok_of tJ_RX1_104 rfl)) dX1_cut_18 ?_
    refine W.lret (v := ((-9223372036854775808))) hx hb hr (fun t9 ht9 hW9 => ⟨_, rfl, ?_, ht9⟩) (fun q h => by cases h) dX1_cut_21
    first
    | (rw [fCut, if_neg (fun h => hr_2 h.1)]; done)
    | (rw [fCut, if_neg (fun h => hr_12 ((in_lh (by decide) (by decide)).mpr h.2))]; done)
    | (rw [fCut, if_pos ⟨i_p, i_w⟩, t_p, prt_eq (by decide) (by decide)]; done)
  ·
    have i_p := hr_2
    obtain ⟨p1, -, h_p1, rfl⟩ := inR_of i_p
    have t_p : tn (nI p1) = p1 := tn_nI (by omega)
    have hcl := cutP_le hI (p := p1) (by omega)
    refine x_if_eq_F (tgt := 18) hx hb (by decide) dX1_cut_5 (by decide) ?_
    refine lv_aload_n hx hb dX1_cut_8 rfl (lv_at hl 0 rfl) ?_
    refine lv_iload_n hx hb dX1_cut_9 rfl (lv_at hl 2 rfl) ?_
    refine lv_iconst (v := nI 0) hx hb dX1_cut_10 (by decide) ?_
    refine lv_iconst (v := nI 1) hx hb dX1_cut_11 (by decide) ?_
    refine r_Vi (As := [.int w, .int (nI 0), .int (nI 1)]) (rest := []) fx (ct_X1_in l dC dI cy cz o a Z G T K w ((nI 0)) ((nI 1))) fyX1_in tM_RX1_51 rfl rfl ⟨Nat.le_of_ble_eq_true rfl, Nat.le_of_ble_eq_true rfl⟩ (m_pre hK hP) rfl hl.1 rfl (Nat.le_of_ble_eq_true rfl) dX1_cut_12 ⟨Nat.le_of_ble_eq_true rfl, Nat.le_of_ble_eq_true rfl⟩ (fun r_12 hr_12 => ?_)
    rcases hr_12 with ⟨rfl, hr_12⟩ | ⟨rfl, hr_12⟩
    ·
      refine x_if_ne_F (tgt := 22) hx hb (by decide) dX1_cut_15 (by decide) ?_
      refine lv_ldc2 (v := -9223372036854775808) hx hb hown (hts _ (ok_of tJ_RX1_104 rfl)) dX1_cut_18 ?_
      refine W.lret (v := ((-9223372036854775808))) hx hb hr (fun t9 ht9 hW9 => ⟨_, rfl, ?_, ht9⟩) (fun q h => by cases h) dX1_cut_21
      first
      | (rw [fCut, if_neg (fun h => hr_2 h.1)]; done)
      | (rw [fCut, if_neg (fun h => hr_12 ((in_lh (by decide) (by decide)).mpr h.2))]; done)
      | (rw [fCut, if_pos ⟨i_p, i_w⟩, t_p, prt_eq (by decide) (by decide)]; done)
    ·
      have i_w : inR w 0 2 := (in_lh (lo := 0) (hi := 1) (by decide) (by decide)).mp hr_12
      refine x_if_ne_T (tgt := 22) hx hb (by decide) dX1_cut_15 (by decide) ?_
      refine lv_aload_n hx hb dX1_cut_22 rfl (lv_at hl 0 rfl) ?_
      refine lv_aload_n hx hb dX1_cut_23 rfl (lv_at hl 0 rfl) ?_
      refine lv_iload_n hx hb dX1_cut_24 rfl (lv_at hl 1 rfl) ?_
      refine r_Vl (As := [.int (nI p1)]) (rest := [.ref o]) fx (ct_X1_cutOf l dC dI cy cz o a Z G T K p1 hI hR (by first | assumption | omega)) fyX1_cutOf tM_RX1_141 rfl rfl ⟨Nat.le_of_ble_eq_true rfl, Nat.le_of_ble_eq_true rfl⟩ (m_pre hK hP) rfl hl.1 rfl (Nat.le_of_ble_eq_true rfl) dX1_cut_25 ⟨Nat.le_of_ble_eq_true rfl, Nat.le_of_ble_eq_true rfl⟩ (fun r_25 hr_25 => ?_)
      subst hr_25
      refine lv_ldc2 (v := 840) hx hb hown (hts _ (ok_of tJ_RX1_139 rfl)) dX1_cut_28 ?_
      refine W.eq (g2 := F0 mi 31 ls (.long (lN 840) :: [.long (lN (cutP Z p1)), .ref o])) rfl ?_
      refine lv_iload_n hx hb dX1_cut_31 rfl (lv_at hl 2 rfl) ?_
      refine r_Vl (As := [.long (lN (cutP Z p1)), .long (lN 840), .int w]) (rest := []) fx (ct_X1_part l dC dI cy cz o a Z G T K ((lN (cutP Z p1))) 840 w (lN_tI (by omega)) (Or.inr (by decide)) (by decide)) fyX1_part tM_RX1_106 rfl rfl ⟨Nat.le_of_ble_eq_true rfl, Nat.le_of_ble_eq_true rfl⟩ (m_pre hK hP) rfl hl.1 rfl (Nat.le_of_ble_eq_true rfl) dX1_cut_32 ⟨Nat.le_of_ble_eq_true rfl, Nat.le_of_ble_eq_true rfl⟩ (fun r_32 hr_32 => ?_)
      subst hr_32
      refine W.lret (v := (prt ((lN (cutP Z p1))) 840 w)) hx hb hr (fun t9 ht9 hW9 => ⟨_, rfl, ?_, ht9⟩) (fun q h => by cases h) dX1_cut_35
      first
      | (rw [fCut, if_neg (fun h => hr_2 h.1)]; done)
      | (rw [fCut, if_neg (fun h => hr_12 ((in_lh (by decide) (by decide)).mpr h.2))]; done)
      | (rw [fCut, if_pos ⟨i_p, i_w⟩, t_p, prt_eq (by decide) (by decide)]; done)

set_option maxHeartbeats 4000000 in
set_option maxRecDepth 100000 in
theorem ct_X1_rank (l : Launch) (dC : Nat → ClassId) (dI : Nat → Nat → Nat) (cy cz : ClassId) (o : Nat) (a : Nat → Nat) (Z : Nat → Nat → Nat) (G T K : Nat → Nat) (p : Int32) (v : Int32) (hI : Inv Z) (hR : MRel Z G T K) : Met l yX1_rank (wS yX1_rank cX1_rank 3 (Option.some Jvm.ClassFile.FieldType.int)) (rmF 4 94) (va_Pc [.ref o, .int p, .int v] (mR dC dI cy cz o a Z G T K)) (vp_Si (fun r => r = fRnk Z p v)) 0 0 (fun _ => False) := by
  refine Met.ofW (cc := cX1_rank) (maxL := 3) (ret := (Option.some Jvm.ClassFile.FieldType.int)) (by decide) rfl ?_
  intro pg en sv mi ag bw mt cd s₁ BL hml hv
  obtain ⟨rfl, hP, hK⟩ := hv
  have hx := BL.exec
  have hb := BL.bytes
  have hr := BL.returns
  have hts : ∀ w ∈ lw_ok, w.before _ sv = true := fun w hw => atoms_spec (ws := wS yX1_rank cX1_rank 3 (Option.some Jvm.ClassFile.FieldType.int)) BL.pre w (List.mem_cons_of_mem _ hw)
  have hown : sv.vm.findClass RX1 = some mi.cls := findClass_of_methodNamed BL.named
  have hlocks := BL.notSynchronized
  have fx : CallFix pg mi cd cX1_rank 3 sv _ lw_ok RX1 := ⟨hx, hb, hml, hown, hts⟩
  have hl := lv_entry ([.ref o, .int p, .int v]) (n := 3) (Nat.le_of_ble_eq_true rfl)
  rw [lg_entry_eq]
  generalize (lg_sl ([.ref o, .int p, .int v]) ++ List.replicate (3 - (lg_sl ([.ref o, .int p, .int v])).length) Slot.unset).toArray = ls at hl ⊢
  replace hl : lv_has ls 3 [(0, .ref o), (1, .int p), (2, .int v)] := hl
  obtain ⟨b0, b1, b2⟩ := hI.bd
  refine lv_aload_n hx hb dX1_rank_0 rfl (lv_at hl 0 rfl) ?_
  refine lv_iload_n hx hb dX1_rank_1 rfl (lv_at hl 1 rfl) ?_
  refine r_Vi (As := [.int p]) (rest := []) fx (ct_X1_isPaper l dC dI cy cz o a Z G T K p hI) fyX1_isPaper tM_RX1_63 rfl rfl ⟨Nat.le_of_ble_eq_true rfl, Nat.le_of_ble_eq_true rfl⟩ (m_pre hK hP) rfl hl.1 rfl (Nat.le_of_ble_eq_true rfl) dX1_rank_2 ⟨Nat.le_of_ble_eq_true rfl, Nat.le_of_ble_eq_true rfl⟩ (fun r_2 hr_2 => ?_)
  rcases hr_2 with ⟨rfl, hr_2⟩ | ⟨rfl, hr_2⟩
  ·
    refine x_if_eq_T (tgt := 16) hx hb (by decide) dX1_rank_5 (by decide) ?_
    refine lv_iconst (v := -1) hx hb dX1_rank_16 (by decide) ?_
    refine lv_goto (tgt := 27) hx hb dX1_rank_17 (by decide) ?_
    refine W.iret (v := (-1)) hx hb hr (fun t9 ht9 hW9 => ⟨_, rfl, ?_, ht9⟩) (fun q h => by cases h) dX1_rank_27
    first
    | (rw [fRnk, if_neg (fun h => hr_2 h.1)]; done)
    | (rw [fRnk, if_neg (fun h => h.2 (by rw [t_p]; exact c_13))]; done)
    | (rw [fRnk, if_pos ⟨i_p, by rw [t_p]; exact c_13⟩, t_p]; done)
  ·
    have i_p := hr_2
    obtain ⟨p1, -, h_p1, rfl⟩ := inR_of i_p
    have t_p : tn (nI p1) = p1 := tn_nI (by omega)
    have hgl := gN_le hI p1
    refine x_if_eq_F (tgt := 16) hx hb (by decide) dX1_rank_5 (by decide) ?_
    refine lv_aload_n hx hb dX1_rank_8 rfl (lv_at hl 0 rfl) ?_
    refine lv_iload_n hx hb dX1_rank_9 rfl (lv_at hl 1 rfl) ?_
    refine r_Vi (As := [.int (nI p1)]) (rest := []) fx (ct_X1_groupSize l dC dI cy cz o a Z G T K p1 hI (by first | assumption | omega)) fyX1_groupSize tM_RX1_70 rfl rfl ⟨Nat.le_of_ble_eq_true rfl, Nat.le_of_ble_eq_true rfl⟩ (m_pre hK hP) rfl hl.1 rfl (Nat.le_of_ble_eq_true rfl) dX1_rank_10 ⟨Nat.le_of_ble_eq_true rfl, Nat.le_of_ble_eq_true rfl⟩ (fun r_10 hr_10 => ?_)
    subst hr_10
    refine x_ifn_ne (x := gN Z p1) (tgt := 20) hx hb (by omega) dX1_rank_13 (by decide) (fun c_13 => ?_) (fun c_13 => ?_)
    ·
      refine lv_aload_n hx hb dX1_rank_20 rfl (lv_at hl 0 rfl) ?_
      refine lv_iload_n hx hb dX1_rank_21 rfl (lv_at hl 1 rfl) ?_
      refine lv_iload_n hx hb dX1_rank_22 rfl (lv_at hl 2 rfl) ?_
      refine r_Vl (As := [.int (nI p1), .int v]) (rest := []) fx (ct_X1_rankOf l dC dI cy cz o a Z G T K p1 v hI hR (by first | assumption | omega)) fyX1_rankOf tM_RX1_136 rfl rfl ⟨Nat.le_of_ble_eq_true rfl, Nat.le_of_ble_eq_true rfl⟩ (m_pre hK hP) rfl hl.1 rfl (Nat.le_of_ble_eq_true rfl) dX1_rank_23 ⟨Nat.le_of_ble_eq_true rfl, Nat.le_of_ble_eq_true rfl⟩ (fun r_23 hr_23 => ?_)
      subst hr_23
      refine lv_l2i (v := nI (rnk Z p1 v)) hx hb dX1_rank_26 (lN_i _) ?_
      refine W.iret (v := (nI (rnk Z p1 v))) hx hb hr (fun t9 ht9 hW9 => ⟨_, rfl, ?_, ht9⟩) (fun q h => by cases h) dX1_rank_27
      first
      | (rw [fRnk, if_neg (fun h => hr_2 h.1)]; done)
      | (rw [fRnk, if_neg (fun h => h.2 (by rw [t_p]; exact c_13))]; done)
      | (rw [fRnk, if_pos ⟨i_p, by rw [t_p]; exact c_13⟩, t_p]; done)
    ·
      refine lv_iconst (v := -1) hx hb dX1_rank_16 (by decide) ?_
      refine lv_goto (tgt := 27) hx hb dX1_rank_17 (by decide) ?_
      refine W.iret (v := (-1)) hx hb hr (fun t9 ht9 hW9 => ⟨_, rfl, ?_, ht9⟩) (fun q h => by cases h) dX1_rank_27
      first
      | (rw [fRnk, if_neg (fun h => hr_2 h.1)]; done)
      | (rw [fRnk, if_neg (fun h => h.2 (by rw [t_p]; exact c_13))]; done)
      | (rw [fRnk, if_pos ⟨i_p, by rw [t_p]; exact c_13⟩, t_p]; done)

set_option maxHeartbeats 4000000 in
set_option maxRecDepth 100000 in
theorem ct_X1_group (l : Launch) (dC : Nat → ClassId) (dI : Nat → Nat → Nat) (cy cz : ClassId) (o : Nat) (a : Nat → Nat) (Z : Nat → Nat → Nat) (G T K : Nat → Nat) (p : Int32) (q : Int32) (w : Int32) (hI : Inv Z) (hR : MRel Z G T K) : Met l yX1_group (wS yX1_group cX1_group 4 (Option.some Jvm.ClassFile.FieldType.long)) (rmF 6 148) (va_Pc [.ref o, .int p, .int q, .int w] (mR dC dI cy cz o a Z G T K)) (vp_Sl (fun r => r = fGrp Z p q w)) 0 0 (fun _ => False) := by
  refine Met.ofW (cc := cX1_group) (maxL := 4) (ret := (Option.some Jvm.ClassFile.FieldType.long)) (by decide) rfl ?_
  intro pg en sv mi ag bw mt cd s₁ BL hml hv
  obtain ⟨rfl, hP, hK⟩ := hv
  have hx := BL.exec
  have hb := BL.bytes
  have hr := BL.returns
  have hts : ∀ w ∈ lw_ok, w.before _ sv = true := fun w hw => atoms_spec (ws := wS yX1_group cX1_group 4 (Option.some Jvm.ClassFile.FieldType.long)) BL.pre w (List.mem_cons_of_mem _ hw)
  have hown : sv.vm.findClass RX1 = some mi.cls := findClass_of_methodNamed BL.named
  have hlocks := BL.notSynchronized
  have fx : CallFix pg mi cd cX1_group 4 sv _ lw_ok RX1 := ⟨hx, hb, hml, hown, hts⟩
  have hl := lv_entry ([.ref o, .int p, .int q, .int w]) (n := 4) (Nat.le_of_ble_eq_true rfl)
  rw [lg_entry_eq]
  generalize (lg_sl ([.ref o, .int p, .int q, .int w]) ++ List.replicate (4 - (lg_sl ([.ref o, .int p, .int q, .int w])).length) Slot.unset).toArray = ls at hl ⊢
  replace hl : lv_has ls 4 [(0, .ref o), (1, .int p), (2, .int q), (3, .int w)] := hl
  obtain ⟨b0, b1, b2⟩ := hI.bd
  refine lv_aload_n hx hb dX1_group_0 rfl (lv_at hl 0 rfl) ?_
  refine lv_iload_n hx hb dX1_group_1 rfl (lv_at hl 1 rfl) ?_
  refine r_Vi (As := [.int p]) (rest := []) fx (ct_X1_isPaper l dC dI cy cz o a Z G T K p hI) fyX1_isPaper tM_RX1_63 rfl rfl ⟨Nat.le_of_ble_eq_true rfl, Nat.le_of_ble_eq_true rfl⟩ (m_pre hK hP) rfl hl.1 rfl (Nat.le_of_ble_eq_true rfl) dX1_group_2 ⟨Nat.le_of_ble_eq_true rfl, Nat.le_of_ble_eq_true rfl⟩ (fun r_2 hr_2 => ?_)
  rcases hr_2 with ⟨rfl, hr_2⟩ | ⟨rfl, hr_2⟩
  ·
    refine x_if_eq_T (tgt := 26) hx hb (by decide) dX1_group_5 (by decide) ?_
    refine lv_ldc2 (v := -9223372036854775808) hx hb hown (hts _ (ok_of tJ_RX1_104 rfl)) dX1_group_26 ?_
    refine W.lret (v := ((-9223372036854775808))) hx hb hr (fun t9 ht9 hW9 => ⟨_, rfl, ?_, ht9⟩) (fun q h => by cases h) dX1_group_29
    first
    | (rw [fGrp, if_neg (fun h => hr_2 h.1)]; done)
    | (rw [fGrp, if_neg (fun h => hr_10 h.2.1)]; done)
    | (rw [fGrp, if_neg (fun h => hr_20 ((in_lh (by decide) (by decide)).mpr h.2.2))]; done)
    | (rw [fGrp, if_pos ⟨i_p, i_q, i_w⟩, if_pos c_31, t_p]; done)
    | (rw [fGrp, if_pos ⟨i_p, i_q, i_w⟩, if_neg c_31, if_pos (show w = 1 from c_45), t_p, t_q]; done)
    | (rw [fGrp, if_pos ⟨i_p, i_q, i_w⟩, if_neg c_31, if_neg (show ¬ w = 1 from c_45), t_p, t_q]; done)
  ·
    have i_p := hr_2
    obtain ⟨p1, -, h_p1, rfl⟩ := inR_of i_p
    have t_p : tn (nI p1) = p1 := tn_nI (by omega)
    have hgl := gN_le hI p1
    refine x_if_eq_F (tgt := 26) hx hb (by decide) dX1_group_5 (by decide) ?_
    refine lv_aload_n hx hb dX1_group_8 rfl (lv_at hl 0 rfl) ?_
    refine lv_iload_n hx hb dX1_group_9 rfl (lv_at hl 2 rfl) ?_
    refine r_Vi (As := [.int q]) (rest := []) fx (ct_X1_isPaper l dC dI cy cz o a Z G T K q hI) fyX1_isPaper tM_RX1_63 rfl rfl ⟨Nat.le_of_ble_eq_true rfl, Nat.le_of_ble_eq_true rfl⟩ (m_pre hK hP) rfl hl.1 rfl (Nat.le_of_ble_eq_true rfl) dX1_group_10 ⟨Nat.le_of_ble_eq_true rfl, Nat.le_of_ble_eq_true rfl⟩ (fun r_10 hr_10 => ?_)
    rcases hr_10 with ⟨rfl, hr_10⟩ | ⟨rfl, hr_10⟩
    ·
      refine x_if_eq_T (tgt := 26) hx hb (by decide) dX1_group_13 (by decide) ?_
      refine lv_ldc2 (v := -9223372036854775808) hx hb hown (hts _ (ok_of tJ_RX1_104 rfl)) dX1_group_26 ?_
      refine W.lret (v := ((-9223372036854775808))) hx hb hr (fun t9 ht9 hW9 => ⟨_, rfl, ?_, ht9⟩) (fun q h => by cases h) dX1_group_29
      first
      | (rw [fGrp, if_neg (fun h => hr_2 h.1)]; done)
      | (rw [fGrp, if_neg (fun h => hr_10 h.2.1)]; done)
      | (rw [fGrp, if_neg (fun h => hr_20 ((in_lh (by decide) (by decide)).mpr h.2.2))]; done)
      | (rw [fGrp, if_pos ⟨i_p, i_q, i_w⟩, if_pos c_31, t_p]; done)
      | (rw [fGrp, if_pos ⟨i_p, i_q, i_w⟩, if_neg c_31, if_pos (show w = 1 from c_45), t_p, t_q]; done)
      | (rw [fGrp, if_pos ⟨i_p, i_q, i_w⟩, if_neg c_31, if_neg (show ¬ w = 1 from c_45), t_p, t_q]; done)
    ·
      have i_q := hr_10
      obtain ⟨q1, -, h_q1, rfl⟩ := inR_of i_q
      have t_q : tn (nI q1) = q1 := tn_nI (by omega)
      refine x_if_eq_F (tgt := 26) hx hb (by decide) dX1_group_13 (by decide) ?_
      refine lv_aload_n hx hb dX1_group_16 rfl (lv_at hl 0 rfl) ?_
      refine lv_iload_n hx hb dX1_group_17 rfl (lv_at hl 3 rfl) ?_
      refine lv_iconst (v := nI 0) hx hb dX1_group_18 (by decide) ?_
      refine lv_iconst (v := nI 2) hx hb dX1_group_19 (by decide) ?_
      refine r_Vi (As := [.int w, .int (nI 0), .int (nI 2)]) (rest := []) fx (ct_X1_in l dC dI cy cz o a Z G T K w ((nI 0)) ((nI 2))) fyX1_in tM_RX1_51 rfl rfl ⟨Nat.le_of_ble_eq_true rfl, Nat.le_of_ble_eq_true rfl⟩ (m_pre hK hP) rfl hl.1 rfl (Nat.le_of_ble_eq_true rfl) dX1_group_20 ⟨Nat.le_of_ble_eq_true rfl, Nat.le_of_ble_eq_true rfl⟩ (fun r_20 hr_20 => ?_)
      rcases hr_20 with ⟨rfl, hr_20⟩ | ⟨rfl, hr_20⟩
      ·
        refine x_if_ne_F (tgt := 30) hx hb (by decide) dX1_group_23 (by decide) ?_
        refine lv_ldc2 (v := -9223372036854775808) hx hb hown (hts _ (ok_of tJ_RX1_104 rfl)) dX1_group_26 ?_
        refine W.lret (v := ((-9223372036854775808))) hx hb hr (fun t9 ht9 hW9 => ⟨_, rfl, ?_, ht9⟩) (fun q h => by cases h) dX1_group_29
        first
        | (rw [fGrp, if_neg (fun h => hr_2 h.1)]; done)
        | (rw [fGrp, if_neg (fun h => hr_10 h.2.1)]; done)
        | (rw [fGrp, if_neg (fun h => hr_20 ((in_lh (by decide) (by decide)).mpr h.2.2))]; done)
        | (rw [fGrp, if_pos ⟨i_p, i_q, i_w⟩, if_pos c_31, t_p]; done)
        | (rw [fGrp, if_pos ⟨i_p, i_q, i_w⟩, if_neg c_31, if_pos (show w = 1 from c_45), t_p, t_q]; done)
        | (rw [fGrp, if_pos ⟨i_p, i_q, i_w⟩, if_neg c_31, if_neg (show ¬ w = 1 from c_45), t_p, t_q]; done)
      ·
        have i_w : inR w 0 3 := (in_lh (lo := 0) (hi := 2) (by decide) (by decide)).mp hr_20
        refine x_if_ne_T (tgt := 30) hx hb (by decide) dX1_group_23 (by decide) ?_
        refine lv_iload_n hx hb dX1_group_30 rfl (lv_at hl 3 rfl) ?_
        refine lv_if_ne (tgt := 43) hx hb dX1_group_31 (by decide) (fun c_31 => ?_) (fun c_31 => ?_)
        ·
          refine lv_iload_n hx hb dX1_group_43 rfl (lv_at hl 3 rfl) ?_
          refine lv_iconst (v := nI 1) hx hb dX1_group_44 (by decide) ?_
          refine lv_icmp_ne (tgt := 57) hx hb dX1_group_45 (by decide) (fun c_45 => ?_) (fun c_45 => ?_)
          ·
            refine lv_aload_n hx hb dX1_group_57 rfl (lv_at hl 0 rfl) ?_
            refine lv_iload_n hx hb dX1_group_58 rfl (lv_at hl 1 rfl) ?_
            refine lv_iload_n hx hb dX1_group_59 rfl (lv_at hl 2 rfl) ?_
            refine r_Vl (As := [.int (nI p1), .int (nI q1)]) (rest := []) fx (ct_X1_away l dC dI cy cz o a Z G T K p1 q1 hI hR (by first | assumption | omega) (by first | assumption | omega)) fyX1_away tM_RX1_131 rfl rfl ⟨Nat.le_of_ble_eq_true rfl, Nat.le_of_ble_eq_true rfl⟩ (m_pre hK hP) rfl hl.1 rfl (Nat.le_of_ble_eq_true rfl) dX1_group_60 ⟨Nat.le_of_ble_eq_true rfl, Nat.le_of_ble_eq_true rfl⟩ (fun r_60 hr_60 => ?_)
            subst hr_60
            refine W.lret (v := (lN (gA Z p1 q1))) hx hb hr (fun t9 ht9 hW9 => ⟨_, rfl, ?_, ht9⟩) (fun q h => by cases h) dX1_group_63
            first
            | (rw [fGrp, if_neg (fun h => hr_2 h.1)]; done)
            | (rw [fGrp, if_neg (fun h => hr_10 h.2.1)]; done)
            | (rw [fGrp, if_neg (fun h => hr_20 ((in_lh (by decide) (by decide)).mpr h.2.2))]; done)
            | (rw [fGrp, if_pos ⟨i_p, i_q, i_w⟩, if_pos c_31, t_p]; done)
            | (rw [fGrp, if_pos ⟨i_p, i_q, i_w⟩, if_neg c_31, if_pos (show w = 1 from c_45), t_p, t_q]; done)
            | (rw [fGrp, if_pos ⟨i_p, i_q, i_w⟩, if_neg c_31, if_neg (show ¬ w = 1 from c_45), t_p, t_q]; done)
          ·
            refine lv_aload_n hx hb dX1_group_48 rfl (lv_at hl 0 rfl) ?_
            refine lv_iload_n hx hb dX1_group_49 rfl (lv_at hl 1 rfl) ?_
            refine lv_iload_n hx hb dX1_group_50 rfl (lv_at hl 2 rfl) ?_
            refine r_Vl (As := [.int (nI p1), .int (nI q1)]) (rest := []) fx (ct_X1_sumOf l dC dI cy cz o a Z G T K p1 q1 hI hR (by first | assumption | omega) (by first | assumption | omega)) fyX1_sumOf tM_RX1_128 rfl rfl ⟨Nat.le_of_ble_eq_true rfl, Nat.le_of_ble_eq_true rfl⟩ (m_pre hK hP) rfl hl.1 rfl (Nat.le_of_ble_eq_true rfl) dX1_group_51 ⟨Nat.le_of_ble_eq_true rfl, Nat.le_of_ble_eq_true rfl⟩ (fun r_51 hr_51 => ?_)
            subst hr_51
            refine lv_goto (tgt := 63) hx hb dX1_group_54 (by decide) ?_
            refine W.lret (v := (lN (gS Z p1 q1))) hx hb hr (fun t9 ht9 hW9 => ⟨_, rfl, ?_, ht9⟩) (fun q h => by cases h) dX1_group_63
            first
            | (rw [fGrp, if_neg (fun h => hr_2 h.1)]; done)
            | (rw [fGrp, if_neg (fun h => hr_10 h.2.1)]; done)
            | (rw [fGrp, if_neg (fun h => hr_20 ((in_lh (by decide) (by decide)).mpr h.2.2))]; done)
            | (rw [fGrp, if_pos ⟨i_p, i_q, i_w⟩, if_pos c_31, t_p]; done)
            | (rw [fGrp, if_pos ⟨i_p, i_q, i_w⟩, if_neg c_31, if_pos (show w = 1 from c_45), t_p, t_q]; done)
            | (rw [fGrp, if_pos ⟨i_p, i_q, i_w⟩, if_neg c_31, if_neg (show ¬ w = 1 from c_45), t_p, t_q]; done)
        ·
          refine lv_aload_n hx hb dX1_group_34 rfl (lv_at hl 0 rfl) ?_
          refine lv_iload_n hx hb dX1_group_35 rfl (lv_at hl 1 rfl) ?_
          refine r_Vi (As := [.int (nI p1)]) (rest := []) fx (ct_X1_groupSize l dC dI cy cz o a Z G T K p1 hI (by first | assumption | omega)) fyX1_groupSize tM_RX1_70 rfl rfl ⟨Nat.le_of_ble_eq_true rfl, Nat.le_of_ble_eq_true rfl⟩ (m_pre hK hP) rfl hl.1 rfl (Nat.le_of_ble_eq_true rfl) dX1_group_36 ⟨Nat.le_of_ble_eq_true rfl, Nat.le_of_ble_eq_true rfl⟩ (fun r_36 hr_36 => ?_)
          subst hr_36
          refine lv_i2l (v := lN (gN Z p1)) hx hb dX1_group_39 (nI_l (by omega)) ?_
          refine lv_goto (tgt := 63) hx hb dX1_group_40 (by decide) ?_
          refine W.lret (v := (lN (gN Z p1))) hx hb hr (fun t9 ht9 hW9 => ⟨_, rfl, ?_, ht9⟩) (fun q h => by cases h) dX1_group_63
          first
          | (rw [fGrp, if_neg (fun h => hr_2 h.1)]; done)
          | (rw [fGrp, if_neg (fun h => hr_10 h.2.1)]; done)
          | (rw [fGrp, if_neg (fun h => hr_20 ((in_lh (by decide) (by decide)).mpr h.2.2))]; done)
          | (rw [fGrp, if_pos ⟨i_p, i_q, i_w⟩, if_pos c_31, t_p]; done)
          | (rw [fGrp, if_pos ⟨i_p, i_q, i_w⟩, if_neg c_31, if_pos (show w = 1 from c_45), t_p, t_q]; done)
          | (rw [fGrp, if_pos ⟨i_p, i_q, i_w⟩, if_neg c_31, if_neg (show ¬ w = 1 from c_45), t_p, t_q]; done)

set_option maxHeartbeats 4000000 in
set_option maxRecDepth 100000 in
theorem ct_X1_shared (l : Launch) (dC : Nat → ClassId) (dI : Nat → Nat → Nat) (cy cz : ClassId) (o : Nat) (a : Nat → Nat) (Z : Nat → Nat → Nat) (G T K : Nat → Nat) (p : Int32) (q : Int32) (hI : Inv Z) (hR : MRel Z G T K) : Met l yX1_shared (wS yX1_shared cX1_shared 3 (Option.some Jvm.ClassFile.FieldType.int)) (rmF 3 70) (va_Pc [.ref o, .int p, .int q] (mR dC dI cy cz o a Z G T K)) (vp_Si (fun r => r = fShd Z p q)) 0 0 (fun _ => False) := by
  refine Met.ofW (cc := cX1_shared) (maxL := 3) (ret := (Option.some Jvm.ClassFile.FieldType.int)) (by decide) rfl ?_
  intro pg en sv mi ag bw mt cd s₁ BL hml hv
  obtain ⟨rfl, hP, hK⟩ := hv
  have hx := BL.exec
  have hb := BL.bytes
  have hr := BL.returns
  have hts : ∀ w ∈ lw_ok, w.before _ sv = true := fun w hw => atoms_spec (ws := wS yX1_shared cX1_shared 3 (Option.some Jvm.ClassFile.FieldType.int)) BL.pre w (List.mem_cons_of_mem _ hw)
  have hown : sv.vm.findClass RX1 = some mi.cls := findClass_of_methodNamed BL.named
  have hlocks := BL.notSynchronized
  have fx : CallFix pg mi cd cX1_shared 3 sv _ lw_ok RX1 := ⟨hx, hb, hml, hown, hts⟩
  have hl := lv_entry ([.ref o, .int p, .int q]) (n := 3) (Nat.le_of_ble_eq_true rfl)
  rw [lg_entry_eq]
  generalize (lg_sl ([.ref o, .int p, .int q]) ++ List.replicate (3 - (lg_sl ([.ref o, .int p, .int q])).length) Slot.unset).toArray = ls at hl ⊢
  replace hl : lv_has ls 3 [(0, .ref o), (1, .int p), (2, .int q)] := hl
  obtain ⟨b0, b1, b2⟩ := hI.bd
  refine lv_aload_n hx hb dX1_shared_0 rfl (lv_at hl 0 rfl) ?_
  refine lv_iload_n hx hb dX1_shared_1 rfl (lv_at hl 1 rfl) ?_
  refine r_Vi (As := [.int p]) (rest := []) fx (ct_X1_isPaper l dC dI cy cz o a Z G T K p hI) fyX1_isPaper tM_RX1_63 rfl rfl ⟨Nat.le_of_ble_eq_true rfl, Nat.le_of_ble_eq_true rfl⟩ (m_pre hK hP) rfl hl.1 rfl (Nat.le_of_ble_eq_true rfl) dX1_shared_2 ⟨Nat.le_of_ble_eq_true rfl, Nat.le_of_ble_eq_true rfl⟩ (fun r_2 hr_2 => ?_)
  rcases hr_2 with ⟨rfl, hr_2⟩ | ⟨rfl, hr_2⟩
  ·
    refine x_if_eq_T (tgt := 16) hx hb (by decide) dX1_shared_5 (by decide) ?_
    refine lv_iconst (v := -1) hx hb dX1_shared_16 (by decide) ?_
    refine W.iret (v := (-1)) hx hb hr (fun t9 ht9 hW9 => ⟨_, rfl, ?_, ht9⟩) (fun q h => by cases h) dX1_shared_17
    first
    | (rw [fShd, if_neg (fun h => hr_2 h.1)]; done)
    | (rw [fShd, if_neg (fun h => hr_10 h.2)]; done)
    | (rw [fShd, if_pos ⟨i_p, i_q⟩, t_p, t_q, if_pos c_20]; done)
    | (rw [fShd, if_pos ⟨i_p, i_q⟩, t_p, t_q, if_neg c_20]; done)
  ·
    have i_p := hr_2
    obtain ⟨p1, -, h_p1, rfl⟩ := inR_of i_p
    have t_p : tn (nI p1) = p1 := tn_nI (by omega)
    refine x_if_eq_F (tgt := 16) hx hb (by decide) dX1_shared_5 (by decide) ?_
    refine lv_aload_n hx hb dX1_shared_8 rfl (lv_at hl 0 rfl) ?_
    refine lv_iload_n hx hb dX1_shared_9 rfl (lv_at hl 2 rfl) ?_
    refine r_Vi (As := [.int q]) (rest := []) fx (ct_X1_isPaper l dC dI cy cz o a Z G T K q hI) fyX1_isPaper tM_RX1_63 rfl rfl ⟨Nat.le_of_ble_eq_true rfl, Nat.le_of_ble_eq_true rfl⟩ (m_pre hK hP) rfl hl.1 rfl (Nat.le_of_ble_eq_true rfl) dX1_shared_10 ⟨Nat.le_of_ble_eq_true rfl, Nat.le_of_ble_eq_true rfl⟩ (fun r_10 hr_10 => ?_)
    rcases hr_10 with ⟨rfl, hr_10⟩ | ⟨rfl, hr_10⟩
    ·
      refine x_if_ne_F (tgt := 18) hx hb (by decide) dX1_shared_13 (by decide) ?_
      refine lv_iconst (v := -1) hx hb dX1_shared_16 (by decide) ?_
      refine W.iret (v := (-1)) hx hb hr (fun t9 ht9 hW9 => ⟨_, rfl, ?_, ht9⟩) (fun q h => by cases h) dX1_shared_17
      first
      | (rw [fShd, if_neg (fun h => hr_2 h.1)]; done)
      | (rw [fShd, if_neg (fun h => hr_10 h.2)]; done)
      | (rw [fShd, if_pos ⟨i_p, i_q⟩, t_p, t_q, if_pos c_20]; done)
      | (rw [fShd, if_pos ⟨i_p, i_q⟩, t_p, t_q, if_neg c_20]; done)
    ·
      have i_q := hr_10
      obtain ⟨q1, -, h_q1, rfl⟩ := inR_of i_q
      have t_q : tn (nI q1) = q1 := tn_nI (by omega)
      refine x_if_ne_T (tgt := 18) hx hb (by decide) dX1_shared_13 (by decide) ?_
      refine lv_iload_n hx hb dX1_shared_18 rfl (lv_at hl 1 rfl) ?_
      refine lv_iload_n hx hb dX1_shared_19 rfl (lv_at hl 2 rfl) ?_
      refine x_icmp_ne (x := p1) (y := q1) (tgt := 28) hx hb (by omega) (by omega) dX1_shared_20 (by decide) (fun c_20 => ?_) (fun c_20 => ?_)
      ·
        refine lv_aload_n hx hb dX1_shared_28 rfl (lv_at hl 0 rfl) ?_
        refine lv_iload_n hx hb dX1_shared_29 rfl (lv_at hl 1 rfl) ?_
        refine lv_iload_n hx hb dX1_shared_30 rfl (lv_at hl 2 rfl) ?_
        refine r_Vi (As := [.int (nI p1), .int (nI q1)]) (rest := []) fx (ct_X1_sharedMany l dC dI cy cz o a Z G T K p1 q1 hI hR (by first | assumption | omega) (by first | assumption | omega)) fyX1_sharedMany tM_RX1_118 rfl rfl ⟨Nat.le_of_ble_eq_true rfl, Nat.le_of_ble_eq_true rfl⟩ (m_pre hK hP) rfl hl.1 rfl (Nat.le_of_ble_eq_true rfl) dX1_shared_31 ⟨Nat.le_of_ble_eq_true rfl, Nat.le_of_ble_eq_true rfl⟩ (fun r_31 hr_31 => ?_)
        subst hr_31
        refine W.iret (v := (nI (shM Z p1 q1))) hx hb hr (fun t9 ht9 hW9 => ⟨_, rfl, ?_, ht9⟩) (fun q h => by cases h) dX1_shared_34
        first
        | (rw [fShd, if_neg (fun h => hr_2 h.1)]; done)
        | (rw [fShd, if_neg (fun h => hr_10 h.2)]; done)
        | (rw [fShd, if_pos ⟨i_p, i_q⟩, t_p, t_q, if_pos c_20]; done)
        | (rw [fShd, if_pos ⟨i_p, i_q⟩, t_p, t_q, if_neg c_20]; done)
      ·
        refine lv_bipush (v := -2) hx hb dX1_shared_23 (by decide) ?_
        refine lv_goto (tgt := 34) hx hb dX1_shared_25 (by decide) ?_
        refine W.iret (v := (-2)) hx hb hr (fun t9 ht9 hW9 => ⟨_, rfl, ?_, ht9⟩) (fun q h => by cases h) dX1_shared_34
        first
        | (rw [fShd, if_neg (fun h => hr_2 h.1)]; done)
        | (rw [fShd, if_neg (fun h => hr_10 h.2)]; done)
        | (rw [fShd, if_pos ⟨i_p, i_q⟩, t_p, t_q, if_pos c_20]; done)
        | (rw [fShd, if_pos ⟨i_p, i_q⟩, t_p, t_q, if_neg c_20]; done)

set_option maxHeartbeats 4000000 in
set_option maxRecDepth 100000 in
theorem ct_X1_border (l : Launch) (dC : Nat → ClassId) (dI : Nat → Nat → Nat) (cy cz : ClassId) (o : Nat) (a : Nat → Nat) (Z : Nat → Nat → Nat) (G T K : Nat → Nat) (p : Int32) (d : Int32) (hI : Inv Z) (hR : MRel Z G T K) : Met l yX1_border (wS yX1_border cX1_border 7 (Option.some Jvm.ClassFile.FieldType.int)) (rmF 3 68) (va_Pc [.ref o, .int p, .int d] (mR dC dI cy cz o a Z G T K)) (vp_Si (fun r => r = fBor Z p d)) 0 0 (fun _ => False) := by
  refine Met.ofW (cc := cX1_border) (maxL := 7) (ret := (Option.some Jvm.ClassFile.FieldType.int)) (by decide) rfl ?_
  intro pg en sv mi ag bw mt cd s₁ BL hml hv
  obtain ⟨rfl, hP, hK⟩ := hv
  have hx := BL.exec
  have hb := BL.bytes
  have hr := BL.returns
  have hts : ∀ w ∈ lw_ok, w.before _ sv = true := fun w hw => atoms_spec (ws := wS yX1_border cX1_border 7 (Option.some Jvm.ClassFile.FieldType.int)) BL.pre w (List.mem_cons_of_mem _ hw)
  have hown : sv.vm.findClass RX1 = some mi.cls := findClass_of_methodNamed BL.named
  have hlocks := BL.notSynchronized
  have fx : CallFix pg mi cd cX1_border 7 sv _ lw_ok RX1 := ⟨hx, hb, hml, hown, hts⟩
  have hl := lv_entry ([.ref o, .int p, .int d]) (n := 7) (Nat.le_of_ble_eq_true rfl)
  rw [lg_entry_eq]
  generalize (lg_sl ([.ref o, .int p, .int d]) ++ List.replicate (7 - (lg_sl ([.ref o, .int p, .int d])).length) Slot.unset).toArray = ls at hl ⊢
  replace hl : lv_has ls 7 [(0, .ref o), (1, .int p), (2, .int d)] := hl
  obtain ⟨b0, b1, b2⟩ := hI.bd
  refine lv_aload_n hx hb dX1_border_0 rfl (lv_at hl 0 rfl) ?_
  refine lv_iload_n hx hb dX1_border_1 rfl (lv_at hl 1 rfl) ?_
  refine r_Vi (As := [.int p]) (rest := []) fx (ct_X1_isPaper l dC dI cy cz o a Z G T K p hI) fyX1_isPaper tM_RX1_63 rfl rfl ⟨Nat.le_of_ble_eq_true rfl, Nat.le_of_ble_eq_true rfl⟩ (m_pre hK hP) rfl hl.1 rfl (Nat.le_of_ble_eq_true rfl) dX1_border_2 ⟨Nat.le_of_ble_eq_true rfl, Nat.le_of_ble_eq_true rfl⟩ (fun r_2 hr_2 => ?_)
  rcases hr_2 with ⟨rfl, hr_2⟩ | ⟨rfl, hr_2⟩
  ·
    refine x_if_ne_F (tgt := 10) hx hb (by decide) dX1_border_5 (by decide) ?_
    refine lv_iconst (v := -1) hx hb dX1_border_8 (by decide) ?_
    refine W.iret (v := (-1)) hx hb hr (fun t9 ht9 hW9 => ⟨_, rfl, ?_, ht9⟩) (fun q h => by cases h) dX1_border_9
    rw [fBor, if_neg hr_2]
  ·
    have i_p := hr_2
    obtain ⟨p1, -, h_p1, rfl⟩ := inR_of i_p
    have t_p : tn (nI p1) = p1 := tn_nI (by omega)
    have hcl := cutP_le hI (p := p1) (by omega)
    refine x_if_ne_T (tgt := 10) hx hb (by decide) dX1_border_5 (by decide) ?_
    refine lv_iload_n hx hb dX1_border_10 rfl (lv_at hl 2 rfl) ?_
    refine lv_if_ge (tgt := 17) hx hb dX1_border_11 (by decide) (fun c_11 => ?_) (fun c_11 => ?_)
    ·
      have hd0 : ¬ d < 0 := fun h => (fa_of_lt h).2.1 c_11
      obtain ⟨d1, h_d1, rfl⟩ := nI_of hd0
      have t_d : tn (nI d1) = d1 := tn_nI h_d1
      refine lv_iconst (v := nI 0) hx hb dX1_border_17 (by decide) ?_
      refine lv_istore_n (lv' := [(3, .int (nI 0)), (0, .ref o), (1, .int (nI p1)), (2, .int (nI d1))]) hx hb dX1_border_18 rfl hl (by decide) rfl (fun ls hl => ?_)
      refine lv_iconst (v := nI 0) hx hb dX1_border_19 (by decide) ?_
      refine lv_istore (lv' := [(4, .int (nI 0)), (3, .int (nI 0)), (0, .ref o), (1, .int (nI p1)), (2, .int (nI d1))]) hx hb dX1_border_20 hl (by decide) rfl (fun ls hl => ?_)
      obtain ⟨j, ej⟩ : ∃ j : Nat, j = 0 := ⟨_, rfl⟩
      obtain ⟨t, et⟩ : ∃ t : Nat, t = 0 := ⟨_, rfl⟩
      replace hl : lv_has ls 7 [(4, .int (nI j)), (3, .int (nI t)), (0, .ref o), (1, .int (nI p1)), (2, .int (nI d1))] := by subst ej et; exact lv_sub hl [0, 1, 2, 3, 4] rfl
      have hj : j ≤ Z 0 2 := by subst ej et; omega
      have ht : t = fb_ct (bor Z p1 d1) j := by subst ej et; rfl
      clear ej et
      obtain ⟨n22, hn22⟩ : ∃ n_0 : Nat, Z 0 2 - j < n_0 := ⟨_, Nat.lt_succ_self _⟩
      induction n22 generalizing j t ls with
      | zero => exact absurd hn22 (Nat.not_lt_zero _)
      | succ n22 ih22 =>
        refine lv_iload hx hb dX1_border_22 (lv_at hl 0 rfl) ?_
        refine lv_aload_n hx hb dX1_border_24 rfl (lv_at hl 2 rfl) ?_
        refine m_g2 hx hb hts hown hK hP dX1_border_25 ?_
        refine x_icmp_ge (x := j) (y := Z 0 2) (tgt := 103) hx hb (by omega) (by omega) dX1_border_28 (by decide) (fun c_28 => ?_) (fun c_28 => ?_)
        ·
          refine lv_iload_n hx hb dX1_border_103 rfl (lv_at hl 1 rfl) ?_
          refine W.iret (v := (nI t)) hx hb hr (fun t9 ht9 hW9 => ⟨_, rfl, ?_, ht9⟩) (fun q h => by cases h) dX1_border_104
          rw [fBor, if_pos i_p, if_neg hd0, t_p, t_d, ht, show j = Z 0 2 by omega]
        ·
          have hpu := hI.pu (u := j) (by omega)
          have htl := tot_le hI (u := j) (by omega)
          refine lv_aload_n hx hb dX1_border_31 rfl (lv_at hl 2 rfl) ?_
          refine m_g9 hx hb hts hown hK hP dX1_border_32 ?_
          refine lv_iload hx hb dX1_border_35 (lv_at hl 0 rfl) ?_
          refine m_l9 (j := j) hx hb hK hP (by omega) dX1_border_37 ?_
          refine lv_iload_n hx hb dX1_border_38 rfl (lv_at hl 3 rfl) ?_
          refine x_icmp_eq (x := Z 11 j) (y := p1) (tgt := 45) hx hb (by omega) (by omega) dX1_border_39 (by decide) (fun c_39 => ?_) (fun c_39 => ?_)
          ·
            refine lv_ldc2 (v := 840) hx hb hown (hts _ (ok_of tJ_RX1_139 rfl)) dX1_border_45 ?_
            refine W.eq (g2 := F0 mi 48 ls (.long (lN 840) :: [])) rfl ?_
            refine lv_aload_n hx hb dX1_border_48 rfl (lv_at hl 2 rfl) ?_
            refine lv_iload hx hb dX1_border_49 (lv_at hl 0 rfl) ?_
            refine r_Vi (As := [.int (nI j)]) (rest := [.long (lN 840)]) fx (ct_X1_totalOf l dC dI cy cz o a Z G T K j hI hR (by first | assumption | omega)) fyX1_totalOf tM_RX1_97 rfl rfl ⟨Nat.le_of_ble_eq_true rfl, Nat.le_of_ble_eq_true rfl⟩ (m_pre hK hP) rfl hl.1 rfl (Nat.le_of_ble_eq_true rfl) dX1_border_51 ⟨Nat.le_of_ble_eq_true rfl, Nat.le_of_ble_eq_true rfl⟩ (fun r_51 hr_51 => ?_)
            subst hr_51
            refine lv_i2l (v := lN (tot Z j)) hx hb dX1_border_54 (nI_l (by omega)) ?_
            refine x_lmul hx hb dX1_border_55 ?_
            refine lv_aload_n hx hb dX1_border_56 rfl (lv_at hl 2 rfl) ?_
            refine lv_iload_n hx hb dX1_border_57 rfl (lv_at hl 3 rfl) ?_
            refine r_Vl (As := [.int (nI p1)]) (rest := [.long (lN (840 * (tot Z j)))]) fx (ct_X1_cutOf l dC dI cy cz o a Z G T K p1 hI hR (by first | assumption | omega)) fyX1_cutOf tM_RX1_141 rfl rfl ⟨Nat.le_of_ble_eq_true rfl, Nat.le_of_ble_eq_true rfl⟩ (m_pre hK hP) rfl hl.1 rfl (Nat.le_of_ble_eq_true rfl) dX1_border_58 ⟨Nat.le_of_ble_eq_true rfl, Nat.le_of_ble_eq_true rfl⟩ (fun r_58 hr_58 => ?_)
            subst hr_58
            refine lv_lsub hx hb dX1_border_61 ?_
            refine lv_lstore (lv' := [(5, .long ((lN (840 * (tot Z j))) - (lN (cutP Z p1)))), (4, .int (nI j)), (3, .int (nI t)), (0, .ref o), (1, .int (nI p1)), (2, .int (nI d1))]) hx hb dX1_border_62 hl (by decide) rfl (fun ls hl => ?_)
            refine lv_iload_n hx hb dX1_border_64 rfl (lv_at hl 2 rfl) ?_
            refine lv_lload hx hb dX1_border_65 (lv_at hl 0 rfl) ?_
            refine lv_lconst (v := lN 0) hx hb dX1_border_67 (by decide) ?_
            refine x_lge (x := ((lN (840 * (tot Z j))) - (lN (cutP Z p1)))) (y := (lN 0)) (tgt := 78) hx hb dX1_border_68 dX1_border_69 (by decide) (fun c_68 => ?_) (fun c_68 => ?_)
            ·
              have hde : lN (840 * tot Z j) - lN (cutP Z p1) = lN (dst (840 * tot Z j) (cutP Z p1)) := lN_ge0 (by omega) (by omega) c_68
              refine lv_lload hx hb dX1_border_78 (lv_at hl 0 rfl) ?_
              rw [hde]
              refine lv_ldc2 (v := 840) hx hb hown (hts _ (ok_of tJ_RX1_139 rfl)) dX1_border_80 ?_
              refine W.eq (g2 := F0 mi 83 ls (.long (lN 840) :: [.long (lN (dst (840 * tot Z j) (cutP Z p1))), .int (nI t)])) rfl ?_
              refine lv_iload_n hx hb dX1_border_83 rfl (lv_at hl 5 rfl) ?_
              refine lv_i2l (v := lN d1) hx hb dX1_border_84 (nI_l (by omega)) ?_
              refine x_lmul hx hb dX1_border_85 ?_
              refine x_lgt (x := (lN (dst (840 * tot Z j) (cutP Z p1)))) (y := (lN (840 * d1))) (tgt := 94) hx hb dX1_border_86 dX1_border_87 (by decide) (fun c_86 => ?_) (fun c_86 => ?_)
              ·
                have hds := dst_le (a := 840 * tot Z j) (b := cutP Z p1) (c := 806400) (by omega) hcl
                have hcmp : bor Z p1 d1 j = false := by
                  have h2 := (pk_lLT (by omega) (by omega)).mp c_86
                  unfold bor
                  rw [decide_eq_false (by rw [Nat.mul_comm]; omega), Bool.and_false]
                refine lv_iconst (v := nI 0) hx hb dX1_border_94 (by decide) ?_
                refine x_iadd hx hb dX1_border_95 ?_
                refine lv_istore_n (lv' := [(3, .int (nI (t + 0))), (5, .long ((lN (840 * (tot Z j))) - (lN (cutP Z p1)))), (4, .int (nI j)), (0, .ref o), (1, .int (nI p1)), (2, .int (nI d1))]) hx hb dX1_border_96 rfl hl (by decide) rfl (fun ls hl => ?_)
                refine lv_iinc (v := nI (j + 1)) (lv' := [(4, .int (nI (j + 1))), (3, .int (nI (t + 0))), (5, .long ((lN (840 * (tot Z j))) - (lN (cutP Z p1)))), (0, .ref o), (1, .int (nI p1)), (2, .int (nI d1))]) hx hb dX1_border_97 hl (k := 2) rfl (x_inc1 _) (by decide) rfl (fun ls hl => ?_)
                refine lv_goto (tgt := 22) hx hb dX1_border_100 (by decide) ?_
                exact ih22 ls (j + 1) (t + 0) (lv_sub hl [0, 1, 3, 4, 5] rfl) (by omega) (by rw [fb_ct_succ, ← ht, hcmp]; rfl) (by omega)
              ·
                have hds := dst_le (a := 840 * tot Z j) (b := cutP Z p1) (c := 806400) (by omega) hcl
                have hcmp : bor Z p1 d1 j = true := by
                  have h2 : dst (840 * tot Z j) (cutP Z p1) ≤ 840 * d1 := Nat.not_lt.mp (fun h => c_86 ((pk_lLT (by omega) (by omega)).mpr h))
                  unfold bor
                  rw [decide_eq_true (by rw [Nat.mul_comm, Nat.mul_comm d1]; exact h2), Bool.and_true]
                  simpa using c_39
                refine lv_iconst (v := nI 1) hx hb dX1_border_90 (by decide) ?_
                refine lv_goto (tgt := 95) hx hb dX1_border_91 (by decide) ?_
                refine x_iadd hx hb dX1_border_95 ?_
                refine lv_istore_n (lv' := [(3, .int (nI (t + 1))), (5, .long ((lN (840 * (tot Z j))) - (lN (cutP Z p1)))), (4, .int (nI j)), (0, .ref o), (1, .int (nI p1)), (2, .int (nI d1))]) hx hb dX1_border_96 rfl hl (by decide) rfl (fun ls hl => ?_)
                refine lv_iinc (v := nI (j + 1)) (lv' := [(4, .int (nI (j + 1))), (3, .int (nI (t + 1))), (5, .long ((lN (840 * (tot Z j))) - (lN (cutP Z p1)))), (0, .ref o), (1, .int (nI p1)), (2, .int (nI d1))]) hx hb dX1_border_97 hl (k := 2) rfl (x_inc1 _) (by decide) rfl (fun ls hl => ?_)
                refine lv_goto (tgt := 22) hx hb dX1_border_100 (by decide) ?_
                exact ih22 ls (j + 1) (t + 1) (lv_sub hl [0, 1, 3, 4, 5] rfl) (by omega) (by rw [fb_ct_succ, ← ht, hcmp]; rfl) (by omega)
            ·
              have hde : -(lN (840 * tot Z j) - lN (cutP Z p1)) = lN (dst (840 * tot Z j) (cutP Z p1)) := lN_lt0 (by omega) (by omega) c_68
              refine lv_lload hx hb dX1_border_72 (lv_at hl 0 rfl) ?_
              refine lv_lneg hx hb dX1_border_74 ?_
              refine lv_goto (tgt := 80) hx hb dX1_border_75 (by decide) ?_
              rw [hde]
              refine lv_ldc2 (v := 840) hx hb hown (hts _ (ok_of tJ_RX1_139 rfl)) dX1_border_80 ?_
              refine W.eq (g2 := F0 mi 83 ls (.long (lN 840) :: [.long (lN (dst (840 * tot Z j) (cutP Z p1))), .int (nI t)])) rfl ?_
              refine lv_iload_n hx hb dX1_border_83 rfl (lv_at hl 5 rfl) ?_
              refine lv_i2l (v := lN d1) hx hb dX1_border_84 (nI_l (by omega)) ?_
              refine x_lmul hx hb dX1_border_85 ?_
              refine x_lgt (x := (lN (dst (840 * tot Z j) (cutP Z p1)))) (y := (lN (840 * d1))) (tgt := 94) hx hb dX1_border_86 dX1_border_87 (by decide) (fun c_86 => ?_) (fun c_86 => ?_)
              ·
                have hds := dst_le (a := 840 * tot Z j) (b := cutP Z p1) (c := 806400) (by omega) hcl
                have hcmp : bor Z p1 d1 j = false := by
                  have h2 := (pk_lLT (by omega) (by omega)).mp c_86
                  unfold bor
                  rw [decide_eq_false (by rw [Nat.mul_comm]; omega), Bool.and_false]
                refine lv_iconst (v := nI 0) hx hb dX1_border_94 (by decide) ?_
                refine x_iadd hx hb dX1_border_95 ?_
                refine lv_istore_n (lv' := [(3, .int (nI (t + 0))), (5, .long ((lN (840 * (tot Z j))) - (lN (cutP Z p1)))), (4, .int (nI j)), (0, .ref o), (1, .int (nI p1)), (2, .int (nI d1))]) hx hb dX1_border_96 rfl hl (by decide) rfl (fun ls hl => ?_)
                refine lv_iinc (v := nI (j + 1)) (lv' := [(4, .int (nI (j + 1))), (3, .int (nI (t + 0))), (5, .long ((lN (840 * (tot Z j))) - (lN (cutP Z p1)))), (0, .ref o), (1, .int (nI p1)), (2, .int (nI d1))]) hx hb dX1_border_97 hl (k := 2) rfl (x_inc1 _) (by decide) rfl (fun ls hl => ?_)
                refine lv_goto (tgt := 22) hx hb dX1_border_100 (by decide) ?_
                exact ih22 ls (j + 1) (t + 0) (lv_sub hl [0, 1, 3, 4, 5] rfl) (by omega) (by rw [fb_ct_succ, ← ht, hcmp]; rfl) (by omega)
              ·
                have hds := dst_le (a := 840 * tot Z j) (b := cutP Z p1) (c := 806400) (by omega) hcl
                have hcmp : bor Z p1 d1 j = true := by
                  have h2 : dst (840 * tot Z j) (cutP Z p1) ≤ 840 * d1 := Nat.not_lt.mp (fun h => c_86 ((pk_lLT (by omega) (by omega)).mpr h))
                  unfold bor
                  rw [decide_eq_true (by rw [Nat.mul_comm, Nat.mul_comm d1]; exact h2), Bool.and_true]
                  simpa using c_39
                refine lv_iconst (v := nI 1) hx hb dX1_border_90 (by decide) ?_
                refine lv_goto (tgt := 95) hx hb dX1_border_91 (by decide) ?_
                refine x_iadd hx hb dX1_border_95 ?_
                refine lv_istore_n (lv' := [(3, .int (nI (t + 1))), (5, .long ((lN (840 * (tot Z j))) - (lN (cutP Z p1)))), (4, .int (nI j)), (0, .ref o), (1, .int (nI p1)), (2, .int (nI d1))]) hx hb dX1_border_96 rfl hl (by decide) rfl (fun ls hl => ?_)
                refine lv_iinc (v := nI (j + 1)) (lv' := [(4, .int (nI (j + 1))), (3, .int (nI (t + 1))), (5, .long ((lN (840 * (tot Z j))) - (lN (cutP Z p1)))), (0, .ref o), (1, .int (nI p1)), (2, .int (nI d1))]) hx hb dX1_border_97 hl (k := 2) rfl (x_inc1 _) (by decide) rfl (fun ls hl => ?_)
                refine lv_goto (tgt := 22) hx hb dX1_border_100 (by decide) ?_
                exact ih22 ls (j + 1) (t + 1) (lv_sub hl [0, 1, 3, 4, 5] rfl) (by omega) (by rw [fb_ct_succ, ← ht, hcmp]; rfl) (by omega)
          ·
            have hcmp : bor Z p1 d1 j = false := by
              unfold bor
              simp [c_39]
            refine lv_goto (tgt := 97) hx hb dX1_border_42 (by decide) ?_
            refine lv_iinc (v := nI (j + 1)) (lv' := [(4, .int (nI (j + 1))), (3, .int (nI t)), (0, .ref o), (1, .int (nI p1)), (2, .int (nI d1))]) hx hb dX1_border_97 hl (k := 0) rfl (x_inc1 _) (by decide) rfl (fun ls hl => ?_)
            refine lv_goto (tgt := 22) hx hb dX1_border_100 (by decide) ?_
            exact ih22 ls (j + 1) t (lv_sub hl [0, 1, 2, 3, 4] rfl) (by omega) (by rw [fb_ct_succ, ← ht, hcmp]; rfl) (by omega)
    ·
      refine lv_bipush (v := -2) hx hb dX1_border_14 (by decide) ?_
      refine W.iret (v := (-2)) hx hb hr (fun t9 ht9 hW9 => ⟨_, rfl, ?_, ht9⟩) (fun q h => by cases h) dX1_border_16
      rw [fBor, if_pos i_p, if_pos (fa_of_nle c_11)]

set_option maxHeartbeats 4000000 in
set_option maxRecDepth 100000 in
theorem ct_X1_leaks (l : Launch) (dC : Nat → ClassId) (dI : Nat → Nat → Nat) (cy cz : ClassId) (o : Nat) (a : Nat → Nat) (Z : Nat → Nat → Nat) (G T K : Nat → Nat) (q : Nat) (pl : Nat) (b : Nat) (hI : Inv Z) (hR : MRel Z G T K) (hq : q < Z 0 0) (hpl : pl < 4) (hb0 : b ≤ 100) : Met l yX1_leaks (wS yX1_leaks cX1_leaks 15 (Option.some Jvm.ClassFile.FieldType.boolean)) (rmF 3 66) (va_Pc [.ref o, .int (nI q), .int (nI pl), .int (nI b)] (mR dC dI cy cz o a Z G T K)) (vp_Si (fun r => isB r (lkT (cPl Z q) (fPl Z q) pl b))) 0 0 (fun _ => False) := by
  refine Met.ofW (cc := cX1_leaks) (maxL := 15) (ret := (Option.some Jvm.ClassFile.FieldType.boolean)) (by decide) rfl ?_
  intro pg en sv mi ag bw mt cd s₁ BL hml hv
  obtain ⟨rfl, hP, hK⟩ := hv
  have hx := BL.exec
  have hb := BL.bytes
  have hr := BL.returns
  have hts : ∀ w ∈ lw_ok, w.before _ sv = true := fun w hw => atoms_spec (ws := wS yX1_leaks cX1_leaks 15 (Option.some Jvm.ClassFile.FieldType.boolean)) BL.pre w (List.mem_cons_of_mem _ hw)
  have hown : sv.vm.findClass RX1 = some mi.cls := findClass_of_methodNamed BL.named
  have hlocks := BL.notSynchronized
  have fx : CallFix pg mi cd cX1_leaks 15 sv _ lw_ok RX1 := ⟨hx, hb, hml, hown, hts⟩
  have hl := lv_entry ([.ref o, .int (nI q), .int (nI pl), .int (nI b)]) (n := 15) (Nat.le_of_ble_eq_true rfl)
  rw [lg_entry_eq]
  generalize (lg_sl ([.ref o, .int (nI q), .int (nI pl), .int (nI b)]) ++ List.replicate (15 - (lg_sl ([.ref o, .int (nI q), .int (nI pl), .int (nI b)])).length) Slot.unset).toArray = ls at hl ⊢
  replace hl : lv_has ls 15 [(0, .ref o), (1, .int (nI q)), (2, .int (nI pl)), (3, .int (nI b))] := hl
  obtain ⟨b0, b1, b2⟩ := hI.bd
  have hqq := hI.q hq
  have hple := pl_le hI q pl
  refine lv_lconst (v := lN 0) hx hb dX1_leaks_0 (by decide) ?_
  refine lv_lstore (lv' := [(4, .long (lN 0)), (0, .ref o), (1, .int (nI q)), (2, .int (nI pl)), (3, .int (nI b))]) hx hb dX1_leaks_1 hl (by decide) rfl (fun ls hl => ?_)
  refine lv_lconst (v := lN 0) hx hb dX1_leaks_3 (by decide) ?_
  refine lv_lstore (lv' := [(6, .long (lN 0)), (4, .long (lN 0)), (0, .ref o), (1, .int (nI q)), (2, .int (nI pl)), (3, .int (nI b))]) hx hb dX1_leaks_4 hl (by decide) rfl (fun ls hl => ?_)
  refine lv_lconst (v := lN 0) hx hb dX1_leaks_6 (by decide) ?_
  refine lv_lstore (lv' := [(8, .long (lN 0)), (6, .long (lN 0)), (4, .long (lN 0)), (0, .ref o), (1, .int (nI q)), (2, .int (nI pl)), (3, .int (nI b))]) hx hb dX1_leaks_7 hl (by decide) rfl (fun ls hl => ?_)
  refine lv_lconst (v := lN 0) hx hb dX1_leaks_9 (by decide) ?_
  refine lv_lstore (lv' := [(10, .long (lN 0)), (8, .long (lN 0)), (6, .long (lN 0)), (4, .long (lN 0)), (0, .ref o), (1, .int (nI q)), (2, .int (nI pl)), (3, .int (nI b))]) hx hb dX1_leaks_10 hl (by decide) rfl (fun ls hl => ?_)
  refine lv_iconst (v := nI 0) hx hb dX1_leaks_12 (by decide) ?_
  refine lv_istore (lv' := [(12, .int (nI 0)), (10, .long (lN 0)), (8, .long (lN 0)), (6, .long (lN 0)), (4, .long (lN 0)), (0, .ref o), (1, .int (nI q)), (2, .int (nI pl)), (3, .int (nI b))]) hx hb dX1_leaks_13 hl (by decide) rfl (fun ls hl => ?_)
  obtain ⟨j, ej⟩ : ∃ j : Nat, j = 0 := ⟨_, rfl⟩
  obtain ⟨n1, en1⟩ : ∃ n1 : Nat, n1 = 0 := ⟨_, rfl⟩
  obtain ⟨n2, en2⟩ : ∃ n2 : Nat, n2 = 0 := ⟨_, rfl⟩
  obtain ⟨n3, en3⟩ : ∃ n3 : Nat, n3 = 0 := ⟨_, rfl⟩
  obtain ⟨n4, en4⟩ : ∃ n4 : Nat, n4 = 0 := ⟨_, rfl⟩
  replace hl : lv_has ls 15 [(12, .int (nI j)), (10, .long (lN n4)), (8, .long (lN n3)), (6, .long (lN n2)), (4, .long (lN n1)), (0, .ref o), (1, .int (nI q)), (2, .int (nI pl)), (3, .int (nI b))] := by subst ej en1 en2 en3 en4; exact lv_sub hl [0, 1, 2, 3, 4, 5, 6, 7, 8] rfl
  have hj : j ≤ Z 0 2 := by subst ej en1 en2 en3 en4; omega
  have h1 : n1 = fb_ct (fun u => cqB Z q u && (Z 12 u == pl)) j := by subst ej en1 en2 en3 en4; rfl
  have h2 : n2 = fb_ct (fun u => cqB Z q u && (Z 12 u == pl) && (mkq Z q u == Z 6 q)) j := by subst ej en1 en2 en3 en4; rfl
  have h3 : n3 = fb_ct (fun u => cqB Z q u && !(Z 12 u == pl)) j := by subst ej en1 en2 en3 en4; rfl
  have h4 : n4 = fb_ct (fun u => cqB Z q u && !(Z 12 u == pl) && (mkq Z q u == Z 6 q)) j := by subst ej en1 en2 en3 en4; rfl
  clear ej en1 en2 en3 en4
  obtain ⟨n15, hn15⟩ : ∃ n_0 : Nat, Z 0 2 - j < n_0 := ⟨_, Nat.lt_succ_self _⟩
  induction n15 generalizing j n1 n2 n3 n4 ls with
  | zero => exact absurd hn15 (Nat.not_lt_zero _)
  | succ n15 ih15 =>
    refine lv_iload hx hb dX1_leaks_15 (lv_at hl 0 rfl) ?_
    refine lv_aload_n hx hb dX1_leaks_17 rfl (lv_at hl 5 rfl) ?_
    refine m_g2 hx hb hts hown hK hP dX1_leaks_18 ?_
    refine x_icmp_ge (x := j) (y := Z 0 2) (tgt := 124) hx hb (by omega) (by omega) dX1_leaks_21 (by decide) (fun c_21 => ?_) (fun c_21 => ?_)
    ·
      obtain rfl : j = Z 0 2 := by omega
      have g1 : n1 = cPl Z q pl := h1
      have g2 : n2 = fPl Z q pl := h2
      have g3 : n3 = cNo Z q pl := h3
      have g4 : n4 = fNo Z q pl := h4
      subst g1 g2 g3 g4
      refine lv_lload hx hb dX1_leaks_124 (lv_at hl 4 rfl) ?_
      refine lv_lconst (v := lN 0) hx hb dX1_leaks_126 (by decide) ?_
      refine x_lle (x := (lN ((cPl Z q pl)))) (y := (lN 0)) (tgt := 169) hx hb dX1_leaks_127 dX1_leaks_128 (by decide) (fun c_127 => ?_) (fun c_127 => ?_)
      ·
        refine lv_iconst (v := nI 0) hx hb dX1_leaks_169 (by decide) ?_
        refine W.zret (v := (nI 0)) hx hb hr (by decide) (fun t9 ht9 hW9 => ⟨_, rfl, ?_, ht9⟩) (fun q h => by cases h) dX1_leaks_170
        rw [lkT, ← cNo_eq hI hpl, ← fNo_eq hI hpl]
        first
        | exact Or.inl ⟨rfl, fun h => h.1 ((lN_le0 (by omega)).mp c_127)⟩
        | exact Or.inl ⟨rfl, fun h => h.2.1 ((lN_le0 (by omega)).mp c_134)⟩
        | exact Or.inl ⟨rfl, fun h => h.2.2 ((lkL_cmp (by omega) (by omega) (by omega)).mp c_161)⟩
        | exact Or.inr ⟨rfl, fun h => c_127 ((lN_le0 (by omega)).mpr h), fun h => c_134 ((lN_le0 (by omega)).mpr h), fun h => c_161 ((lkL_cmp (by omega) (by omega) (by omega)).mpr h)⟩
      ·
        refine lv_lload hx hb dX1_leaks_131 (lv_at hl 2 rfl) ?_
        refine lv_lconst (v := lN 0) hx hb dX1_leaks_133 (by decide) ?_
        refine x_lle (x := (lN ((cNo Z q pl)))) (y := (lN 0)) (tgt := 169) hx hb dX1_leaks_134 dX1_leaks_135 (by decide) (fun c_134 => ?_) (fun c_134 => ?_)
        ·
          refine lv_iconst (v := nI 0) hx hb dX1_leaks_169 (by decide) ?_
          refine W.zret (v := (nI 0)) hx hb hr (by decide) (fun t9 ht9 hW9 => ⟨_, rfl, ?_, ht9⟩) (fun q h => by cases h) dX1_leaks_170
          rw [lkT, ← cNo_eq hI hpl, ← fNo_eq hI hpl]
          first
          | exact Or.inl ⟨rfl, fun h => h.1 ((lN_le0 (by omega)).mp c_127)⟩
          | exact Or.inl ⟨rfl, fun h => h.2.1 ((lN_le0 (by omega)).mp c_134)⟩
          | exact Or.inl ⟨rfl, fun h => h.2.2 ((lkL_cmp (by omega) (by omega) (by omega)).mp c_161)⟩
          | exact Or.inr ⟨rfl, fun h => c_127 ((lN_le0 (by omega)).mpr h), fun h => c_134 ((lN_le0 (by omega)).mpr h), fun h => c_161 ((lkL_cmp (by omega) (by omega) (by omega)).mpr h)⟩
        ·
          have hm1 := Nat.mul_le_mul hple.2.1 hple.2.2.1
          have hm2 := Nat.mul_le_mul hple.2.2.2 hple.1
          have hm3 := Nat.mul_le_mul (Nat.mul_le_mul hb0 hple.1) hple.2.2.1
          refine lv_ldc2 (v := 100) hx hb hown (hts _ (ok_of tJ_RX1_110 rfl)) dX1_leaks_138 ?_
          refine W.eq (g2 := F0 mi 141 ls (.long (lN 100) :: [])) rfl ?_
          refine lv_lload hx hb dX1_leaks_141 (lv_at hl 3 rfl) ?_
          refine lv_lload hx hb dX1_leaks_143 (lv_at hl 2 rfl) ?_
          refine x_lmul hx hb dX1_leaks_145 ?_
          refine lv_lload hx hb dX1_leaks_146 (lv_at hl 1 rfl) ?_
          refine lv_lload hx hb dX1_leaks_148 (lv_at hl 4 rfl) ?_
          refine x_lmul hx hb dX1_leaks_150 ?_
          refine lv_lsub hx hb dX1_leaks_151 ?_
          refine lv_lmul hx hb dX1_leaks_152 ?_
          refine lv_iload_n hx hb dX1_leaks_153 rfl (lv_at hl 8 rfl) ?_
          refine lv_i2l (v := lN b) hx hb dX1_leaks_154 (nI_l (by omega)) ?_
          refine lv_lload hx hb dX1_leaks_155 (lv_at hl 4 rfl) ?_
          refine x_lmul hx hb dX1_leaks_157 ?_
          refine lv_lload hx hb dX1_leaks_158 (lv_at hl 2 rfl) ?_
          refine x_lmul hx hb dX1_leaks_160 ?_
          refine x_lle (x := ((lN 100) * ((lN (((fPl Z q pl)) * ((cNo Z q pl)))) - (lN (((fNo Z q pl)) * ((cPl Z q pl))))))) (y := (lN ((b * ((cPl Z q pl))) * ((cNo Z q pl))))) (tgt := 169) hx hb dX1_leaks_161 dX1_leaks_162 (by decide) (fun c_161 => ?_) (fun c_161 => ?_)
          ·
            refine lv_iconst (v := nI 0) hx hb dX1_leaks_169 (by decide) ?_
            refine W.zret (v := (nI 0)) hx hb hr (by decide) (fun t9 ht9 hW9 => ⟨_, rfl, ?_, ht9⟩) (fun q h => by cases h) dX1_leaks_170
            rw [lkT, ← cNo_eq hI hpl, ← fNo_eq hI hpl]
            first
            | exact Or.inl ⟨rfl, fun h => h.1 ((lN_le0 (by omega)).mp c_127)⟩
            | exact Or.inl ⟨rfl, fun h => h.2.1 ((lN_le0 (by omega)).mp c_134)⟩
            | exact Or.inl ⟨rfl, fun h => h.2.2 ((lkL_cmp (by omega) (by omega) (by omega)).mp c_161)⟩
            | exact Or.inr ⟨rfl, fun h => c_127 ((lN_le0 (by omega)).mpr h), fun h => c_134 ((lN_le0 (by omega)).mpr h), fun h => c_161 ((lkL_cmp (by omega) (by omega) (by omega)).mpr h)⟩
          ·
            refine lv_iconst (v := nI 1) hx hb dX1_leaks_165 (by decide) ?_
            refine lv_goto (tgt := 170) hx hb dX1_leaks_166 (by decide) ?_
            refine W.zret (v := (nI 1)) hx hb hr (by decide) (fun t9 ht9 hW9 => ⟨_, rfl, ?_, ht9⟩) (fun q h => by cases h) dX1_leaks_170
            rw [lkT, ← cNo_eq hI hpl, ← fNo_eq hI hpl]
            first
            | exact Or.inl ⟨rfl, fun h => h.1 ((lN_le0 (by omega)).mp c_127)⟩
            | exact Or.inl ⟨rfl, fun h => h.2.1 ((lN_le0 (by omega)).mp c_134)⟩
            | exact Or.inl ⟨rfl, fun h => h.2.2 ((lkL_cmp (by omega) (by omega) (by omega)).mp c_161)⟩
            | exact Or.inr ⟨rfl, fun h => c_127 ((lN_le0 (by omega)).mpr h), fun h => c_134 ((lN_le0 (by omega)).mpr h), fun h => c_161 ((lkL_cmp (by omega) (by omega) (by omega)).mpr h)⟩
    ·
      have hpu := hI.pu (u := j) (by omega)
      have hsz := hI.sz (p := Z 11 j) (by omega)
      refine lv_aload_n hx hb dX1_leaks_24 rfl (lv_at hl 5 rfl) ?_
      refine lv_iload hx hb dX1_leaks_25 (lv_at hl 0 rfl) ?_
      refine lv_iload_n hx hb dX1_leaks_27 rfl (lv_at hl 6 rfl) ?_
      refine r_Vi (As := [.int (nI j), .int (nI q)]) (rest := []) fx (ct_X1_own l dC dI cy cz o a Z G T K ((nI j)) ((nI q)) hI) fyX1_own tM_RX1_77 rfl rfl ⟨Nat.le_of_ble_eq_true rfl, Nat.le_of_ble_eq_true rfl⟩ (m_pre hK hP) rfl hl.1 rfl (Nat.le_of_ble_eq_true rfl) dX1_leaks_28 ⟨Nat.le_of_ble_eq_true rfl, Nat.le_of_ble_eq_true rfl⟩ (fun r_28 hr_28 => ?_)
      rcases hr_28 with ⟨rfl, ho_28⟩ | ⟨x_28, y_28, i_28, hx_28, hy_28, eu_28, eq_28, hi_28, hs_28, hr_28, ho_28, rfl⟩
      ·
        have hnc : ¬ cqP Z q j := fun h => ho_28 ((own_nI hI (by omega) hq).mpr h.1)
        refine lv_istore (lv' := [(13, .int (-1)), (12, .int (nI j)), (10, .long (lN n4)), (8, .long (lN n3)), (6, .long (lN n2)), (4, .long (lN n1)), (0, .ref o), (1, .int (nI q)), (2, .int (nI pl)), (3, .int (nI b))]) hx hb dX1_leaks_31 hl (by decide) rfl (fun ls hl => ?_)
        refine lv_iload hx hb dX1_leaks_33 (lv_at hl 0 rfl) ?_
        refine x_if_lt_T (tgt := 118) hx hb (by decide) dX1_leaks_35 (by decide) ?_
        refine lv_iinc (v := nI (j + 1)) (lv' := [(12, .int (nI (j + 1))), (13, .int (-1)), (10, .long (lN n4)), (8, .long (lN n3)), (6, .long (lN n2)), (4, .long (lN n1)), (0, .ref o), (1, .int (nI q)), (2, .int (nI pl)), (3, .int (nI b))]) hx hb dX1_leaks_118 hl (k := 1) rfl (x_inc1 _) (by decide) rfl (fun ls hl => ?_)
        refine lv_goto (tgt := 15) hx hb dX1_leaks_121 (by decide) ?_
        exact ih15 ls (j + 1) n1 n2 n3 n4 (lv_sub hl [0, 2, 3, 4, 5, 6, 7, 8, 9] rfl) (by omega) (by rw [fb_ct_succ, ← h1]; first | (simp [cqB_f hnc]; done) | (simp [cqB_t hcq, c_84]; done) | (simp [cqB_t hcq, c_84, hme, c_66]; done)) (by rw [fb_ct_succ, ← h2]; first | (simp [cqB_f hnc]; done) | (simp [cqB_t hcq, c_84]; done) | (simp [cqB_t hcq, c_84, hme, c_66]; done)) (by rw [fb_ct_succ, ← h3]; first | (simp [cqB_f hnc]; done) | (simp [cqB_t hcq, c_84]; done) | (simp [cqB_t hcq, c_84, hme, c_66]; done)) (by rw [fb_ct_succ, ← h4]; first | (simp [cqB_f hnc]; done) | (simp [cqB_t hcq, c_84]; done) | (simp [cqB_t hcq, c_84, hme, c_66]; done)) (by omega)
      ·
        have e1 := (nI_eq (by omega) (by omega)).mp eu_28
        have e2 := (nI_eq (by omega) (by omega)).mp eq_28
        subst e1 e2
        have hmk := mrk_le hI (u := j) (i := i_28) (by omega) hi_28
        have hme : mkq Z q j = mrk Z j i_28 := by rw [mkq, hs_28]
        refine lv_istore (lv' := [(13, .int (nI i_28)), (12, .int (nI j)), (10, .long (lN n4)), (8, .long (lN n3)), (6, .long (lN n2)), (4, .long (lN n1)), (0, .ref o), (1, .int (nI q)), (2, .int (nI pl)), (3, .int (nI b))]) hx hb dX1_leaks_31 hl (by decide) rfl (fun ls hl => ?_)
        refine lv_iload hx hb dX1_leaks_33 (lv_at hl 0 rfl) ?_
        refine x_if_lt_F (tgt := 118) hx hb (nI_pos (by omega)) dX1_leaks_35 (by decide) ?_
        refine lv_aload_n hx hb dX1_leaks_38 rfl (lv_at hl 6 rfl) ?_
        refine lv_iload hx hb dX1_leaks_39 (lv_at hl 1 rfl) ?_
        refine lv_iload hx hb dX1_leaks_41 (lv_at hl 0 rfl) ?_
        refine r_Vi (As := [.int (nI j), .int (nI i_28)]) (rest := []) fx (ct_X1_cameTo l dC dI cy cz o a Z G T K j i_28 hI hR (by first | assumption | omega) (by first | assumption | omega)) fyX1_cameTo tM_RX1_91 rfl rfl ⟨Nat.le_of_ble_eq_true rfl, Nat.le_of_ble_eq_true rfl⟩ (m_pre hK hP) rfl hl.1 rfl (Nat.le_of_ble_eq_true rfl) dX1_leaks_43 ⟨Nat.le_of_ble_eq_true rfl, Nat.le_of_ble_eq_true rfl⟩ (fun r_43 hr_43 => ?_)
        rcases hr_43 with ⟨rfl, hr_43⟩ | ⟨rfl, hr_43⟩
        ·
          have hnc : ¬ cqP Z q j := fun h => hr_43 (by have h2 := h.2; rw [hs_28] at h2; exact h2)
          refine x_if_ne_F (tgt := 52) hx hb (by decide) dX1_leaks_46 (by decide) ?_
          refine lv_goto (tgt := 118) hx hb dX1_leaks_49 (by decide) ?_
          refine lv_iinc (v := nI (j + 1)) (lv' := [(12, .int (nI (j + 1))), (13, .int (nI i_28)), (10, .long (lN n4)), (8, .long (lN n3)), (6, .long (lN n2)), (4, .long (lN n1)), (0, .ref o), (1, .int (nI q)), (2, .int (nI pl)), (3, .int (nI b))]) hx hb dX1_leaks_118 hl (k := 1) rfl (x_inc1 _) (by decide) rfl (fun ls hl => ?_)
          refine lv_goto (tgt := 15) hx hb dX1_leaks_121 (by decide) ?_
          exact ih15 ls (j + 1) n1 n2 n3 n4 (lv_sub hl [0, 2, 3, 4, 5, 6, 7, 8, 9] rfl) (by omega) (by rw [fb_ct_succ, ← h1]; first | (simp [cqB_f hnc]; done) | (simp [cqB_t hcq, c_84]; done) | (simp [cqB_t hcq, c_84, hme, c_66]; done)) (by rw [fb_ct_succ, ← h2]; first | (simp [cqB_f hnc]; done) | (simp [cqB_t hcq, c_84]; done) | (simp [cqB_t hcq, c_84, hme, c_66]; done)) (by rw [fb_ct_succ, ← h3]; first | (simp [cqB_f hnc]; done) | (simp [cqB_t hcq, c_84]; done) | (simp [cqB_t hcq, c_84, hme, c_66]; done)) (by rw [fb_ct_succ, ← h4]; first | (simp [cqB_f hnc]; done) | (simp [cqB_t hcq, c_84]; done) | (simp [cqB_t hcq, c_84, hme, c_66]; done)) (by omega)
        ·
          have hcq : cqP Z q j := ⟨by omega, by rw [hs_28]; exact hr_43⟩
          refine x_if_ne_T (tgt := 52) hx hb (by decide) dX1_leaks_46 (by decide) ?_
          refine lv_aload_n hx hb dX1_leaks_52 rfl (lv_at hl 6 rfl) ?_
          refine lv_iload hx hb dX1_leaks_53 (lv_at hl 1 rfl) ?_
          refine lv_iload hx hb dX1_leaks_55 (lv_at hl 0 rfl) ?_
          refine r_Vi (As := [.int (nI j), .int (nI i_28)]) (rest := []) fx (ct_X1_markAt l dC dI cy cz o a Z G T K j i_28 hI hR (by first | assumption | omega) (by first | assumption | omega)) fyX1_markAt tM_RX1_88 rfl rfl ⟨Nat.le_of_ble_eq_true rfl, Nat.le_of_ble_eq_true rfl⟩ (m_pre hK hP) rfl hl.1 rfl (Nat.le_of_ble_eq_true rfl) dX1_leaks_57 ⟨Nat.le_of_ble_eq_true rfl, Nat.le_of_ble_eq_true rfl⟩ (fun r_57 hr_57 => ?_)
          subst hr_57
          refine lv_aload_n hx hb dX1_leaks_60 rfl (lv_at hl 6 rfl) ?_
          refine m_g4 hx hb hts hown hK hP dX1_leaks_61 ?_
          refine lv_iload_n hx hb dX1_leaks_64 rfl (lv_at hl 7 rfl) ?_
          refine m_l4 (j := q) hx hb hK hP (by omega) dX1_leaks_65 ?_
          refine x_icmp_ne (x := mrk Z j i_28) (y := Z 6 q) (tgt := 73) hx hb (by omega) (by omega) dX1_leaks_66 (by decide) (fun c_66 => ?_) (fun c_66 => ?_)
          ·
            refine lv_iconst (v := nI 0) hx hb dX1_leaks_73 (by decide) ?_
            refine lv_istore (lv' := [(14, .int (nI 0)), (13, .int (nI i_28)), (12, .int (nI j)), (10, .long (lN n4)), (8, .long (lN n3)), (6, .long (lN n2)), (4, .long (lN n1)), (0, .ref o), (1, .int (nI q)), (2, .int (nI pl)), (3, .int (nI b))]) hx hb dX1_leaks_74 hl (by decide) rfl (fun ls hl => ?_)
            refine lv_aload_n hx hb dX1_leaks_76 rfl (lv_at hl 7 rfl) ?_
            refine m_g10 hx hb hts hown hK hP dX1_leaks_77 ?_
            refine lv_iload hx hb dX1_leaks_80 (lv_at hl 2 rfl) ?_
            refine m_l10 (j := j) hx hb hK hP (by omega) dX1_leaks_82 ?_
            refine lv_iload_n hx hb dX1_leaks_83 rfl (lv_at hl 9 rfl) ?_
            refine x_icmp_ne (x := Z 12 j) (y := pl) (tgt := 104) hx hb (by omega) (by omega) dX1_leaks_84 (by decide) (fun c_84 => ?_) (fun c_84 => ?_)
            ·
              refine lv_lload hx hb dX1_leaks_104 (lv_at hl 4 rfl) ?_
              refine lv_lconst (v := lN 1) hx hb dX1_leaks_106 (by decide) ?_
              refine x_ladd hx hb dX1_leaks_107 ?_
              refine lv_lstore (lv' := [(8, .long (lN (n3 + 1))), (14, .int (nI 0)), (13, .int (nI i_28)), (12, .int (nI j)), (10, .long (lN n4)), (6, .long (lN n2)), (4, .long (lN n1)), (0, .ref o), (1, .int (nI q)), (2, .int (nI pl)), (3, .int (nI b))]) hx hb dX1_leaks_108 hl (by decide) rfl (fun ls hl => ?_)
              refine lv_lload hx hb dX1_leaks_110 (lv_at hl 4 rfl) ?_
              refine lv_iload hx hb dX1_leaks_112 (lv_at hl 1 rfl) ?_
              refine lv_i2l (v := lN 0) hx hb dX1_leaks_114 (nI_l (by omega)) ?_
              refine x_ladd hx hb dX1_leaks_115 ?_
              refine lv_lstore (lv' := [(10, .long (lN (n4 + 0))), (8, .long (lN (n3 + 1))), (14, .int (nI 0)), (13, .int (nI i_28)), (12, .int (nI j)), (6, .long (lN n2)), (4, .long (lN n1)), (0, .ref o), (1, .int (nI q)), (2, .int (nI pl)), (3, .int (nI b))]) hx hb dX1_leaks_116 hl (by decide) rfl (fun ls hl => ?_)
              refine lv_iinc (v := nI (j + 1)) (lv' := [(12, .int (nI (j + 1))), (10, .long (lN (n4 + 0))), (8, .long (lN (n3 + 1))), (14, .int (nI 0)), (13, .int (nI i_28)), (6, .long (lN n2)), (4, .long (lN n1)), (0, .ref o), (1, .int (nI q)), (2, .int (nI pl)), (3, .int (nI b))]) hx hb dX1_leaks_118 hl (k := 4) rfl (x_inc1 _) (by decide) rfl (fun ls hl => ?_)
              refine lv_goto (tgt := 15) hx hb dX1_leaks_121 (by decide) ?_
              exact ih15 ls (j + 1) n1 n2 (n3 + 1) (n4 + 0) (lv_sub hl [0, 1, 2, 5, 6, 7, 8, 9, 10] rfl) (by omega) (by rw [fb_ct_succ, ← h1]; first | (simp [cqB_f hnc]; done) | (simp [cqB_t hcq, c_84]; done) | (simp [cqB_t hcq, c_84, hme, c_66]; done)) (by rw [fb_ct_succ, ← h2]; first | (simp [cqB_f hnc]; done) | (simp [cqB_t hcq, c_84]; done) | (simp [cqB_t hcq, c_84, hme, c_66]; done)) (by rw [fb_ct_succ, ← h3]; first | (simp [cqB_f hnc]; done) | (simp [cqB_t hcq, c_84]; done) | (simp [cqB_t hcq, c_84, hme, c_66]; done)) (by rw [fb_ct_succ, ← h4]; first | (simp [cqB_f hnc]; done) | (simp [cqB_t hcq, c_84]; done) | (simp [cqB_t hcq, c_84, hme, c_66]; done)) (by omega)
            ·
              refine lv_lload hx hb dX1_leaks_87 (lv_at hl 6 rfl) ?_
              refine lv_lconst (v := lN 1) hx hb dX1_leaks_89 (by decide) ?_
              refine x_ladd hx hb dX1_leaks_90 ?_
              refine lv_lstore (lv' := [(4, .long (lN (n1 + 1))), (14, .int (nI 0)), (13, .int (nI i_28)), (12, .int (nI j)), (10, .long (lN n4)), (8, .long (lN n3)), (6, .long (lN n2)), (0, .ref o), (1, .int (nI q)), (2, .int (nI pl)), (3, .int (nI b))]) hx hb dX1_leaks_91 hl (by decide) rfl (fun ls hl => ?_)
              refine lv_lload hx hb dX1_leaks_93 (lv_at hl 6 rfl) ?_
              refine lv_iload hx hb dX1_leaks_95 (lv_at hl 1 rfl) ?_
              refine lv_i2l (v := lN 0) hx hb dX1_leaks_97 (nI_l (by omega)) ?_
              refine x_ladd hx hb dX1_leaks_98 ?_
              refine lv_lstore (lv' := [(6, .long (lN (n2 + 0))), (4, .long (lN (n1 + 1))), (14, .int (nI 0)), (13, .int (nI i_28)), (12, .int (nI j)), (10, .long (lN n4)), (8, .long (lN n3)), (0, .ref o), (1, .int (nI q)), (2, .int (nI pl)), (3, .int (nI b))]) hx hb dX1_leaks_99 hl (by decide) rfl (fun ls hl => ?_)
              refine lv_goto (tgt := 118) hx hb dX1_leaks_101 (by decide) ?_
              refine lv_iinc (v := nI (j + 1)) (lv' := [(12, .int (nI (j + 1))), (6, .long (lN (n2 + 0))), (4, .long (lN (n1 + 1))), (14, .int (nI 0)), (13, .int (nI i_28)), (10, .long (lN n4)), (8, .long (lN n3)), (0, .ref o), (1, .int (nI q)), (2, .int (nI pl)), (3, .int (nI b))]) hx hb dX1_leaks_118 hl (k := 4) rfl (x_inc1 _) (by decide) rfl (fun ls hl => ?_)
              refine lv_goto (tgt := 15) hx hb dX1_leaks_121 (by decide) ?_
              exact ih15 ls (j + 1) (n1 + 1) (n2 + 0) n3 n4 (lv_sub hl [0, 5, 6, 1, 2, 7, 8, 9, 10] rfl) (by omega) (by rw [fb_ct_succ, ← h1]; first | (simp [cqB_f hnc]; done) | (simp [cqB_t hcq, c_84]; done) | (simp [cqB_t hcq, c_84, hme, c_66]; done)) (by rw [fb_ct_succ, ← h2]; first | (simp [cqB_f hnc]; done) | (simp [cqB_t hcq, c_84]; done) | (simp [cqB_t hcq, c_84, hme, c_66]; done)) (by rw [fb_ct_succ, ← h3]; first | (simp [cqB_f hnc]; done) | (simp [cqB_t hcq, c_84]; done) | (simp [cqB_t hcq, c_84, hme, c_66]; done)) (by rw [fb_ct_succ, ← h4]; first | (simp [cqB_f hnc]; done) | (simp [cqB_t hcq, c_84]; done) | (simp [cqB_t hcq, c_84, hme, c_66]; done)) (by omega)
          ·
            refine lv_iconst (v := nI 1) hx hb dX1_leaks_69 (by decide) ?_
            refine lv_goto (tgt := 74) hx hb dX1_leaks_70 (by decide) ?_
            refine lv_istore (lv' := [(14, .int (nI 1)), (13, .int (nI i_28)), (12, .int (nI j)), (10, .long (lN n4)), (8, .long (lN n3)), (6, .long (lN n2)), (4, .long (lN n1)), (0, .ref o), (1, .int (nI q)), (2, .int (nI pl)), (3, .int (nI b))]) hx hb dX1_leaks_74 hl (by decide) rfl (fun ls hl => ?_)
            refine lv_aload_n hx hb dX1_leaks_76 rfl (lv_at hl 7 rfl) ?_
            refine m_g10 hx hb hts hown hK hP dX1_leaks_77 ?_
            refine lv_iload hx hb dX1_leaks_80 (lv_at hl 2 rfl) ?_
            refine m_l10 (j := j) hx hb hK hP (by omega) dX1_leaks_82 ?_
            refine lv_iload_n hx hb dX1_leaks_83 rfl (lv_at hl 9 rfl) ?_
            refine x_icmp_ne (x := Z 12 j) (y := pl) (tgt := 104) hx hb (by omega) (by omega) dX1_leaks_84 (by decide) (fun c_84 => ?_) (fun c_84 => ?_)
            ·
              refine lv_lload hx hb dX1_leaks_104 (lv_at hl 4 rfl) ?_
              refine lv_lconst (v := lN 1) hx hb dX1_leaks_106 (by decide) ?_
              refine x_ladd hx hb dX1_leaks_107 ?_
              refine lv_lstore (lv' := [(8, .long (lN (n3 + 1))), (14, .int (nI 1)), (13, .int (nI i_28)), (12, .int (nI j)), (10, .long (lN n4)), (6, .long (lN n2)), (4, .long (lN n1)), (0, .ref o), (1, .int (nI q)), (2, .int (nI pl)), (3, .int (nI b))]) hx hb dX1_leaks_108 hl (by decide) rfl (fun ls hl => ?_)
              refine lv_lload hx hb dX1_leaks_110 (lv_at hl 4 rfl) ?_
              refine lv_iload hx hb dX1_leaks_112 (lv_at hl 1 rfl) ?_
              refine lv_i2l (v := lN 1) hx hb dX1_leaks_114 (nI_l (by omega)) ?_
              refine x_ladd hx hb dX1_leaks_115 ?_
              refine lv_lstore (lv' := [(10, .long (lN (n4 + 1))), (8, .long (lN (n3 + 1))), (14, .int (nI 1)), (13, .int (nI i_28)), (12, .int (nI j)), (6, .long (lN n2)), (4, .long (lN n1)), (0, .ref o), (1, .int (nI q)), (2, .int (nI pl)), (3, .int (nI b))]) hx hb dX1_leaks_116 hl (by decide) rfl (fun ls hl => ?_)
              refine lv_iinc (v := nI (j + 1)) (lv' := [(12, .int (nI (j + 1))), (10, .long (lN (n4 + 1))), (8, .long (lN (n3 + 1))), (14, .int (nI 1)), (13, .int (nI i_28)), (6, .long (lN n2)), (4, .long (lN n1)), (0, .ref o), (1, .int (nI q)), (2, .int (nI pl)), (3, .int (nI b))]) hx hb dX1_leaks_118 hl (k := 4) rfl (x_inc1 _) (by decide) rfl (fun ls hl => ?_)
              refine lv_goto (tgt := 15) hx hb dX1_leaks_121 (by decide) ?_
              exact ih15 ls (j + 1) n1 n2 (n3 + 1) (n4 + 1) (lv_sub hl [0, 1, 2, 5, 6, 7, 8, 9, 10] rfl) (by omega) (by rw [fb_ct_succ, ← h1]; first | (simp [cqB_f hnc]; done) | (simp [cqB_t hcq, c_84]; done) | (simp [cqB_t hcq, c_84, hme, c_66]; done)) (by rw [fb_ct_succ, ← h2]; first | (simp [cqB_f hnc]; done) | (simp [cqB_t hcq, c_84]; done) | (simp [cqB_t hcq, c_84, hme, c_66]; done)) (by rw [fb_ct_succ, ← h3]; first | (simp [cqB_f hnc]; done) | (simp [cqB_t hcq, c_84]; done) | (simp [cqB_t hcq, c_84, hme, c_66]; done)) (by rw [fb_ct_succ, ← h4]; first | (simp [cqB_f hnc]; done) | (simp [cqB_t hcq, c_84]; done) | (simp [cqB_t hcq, c_84, hme, c_66]; done)) (by omega)
            ·
              refine lv_lload hx hb dX1_leaks_87 (lv_at hl 6 rfl) ?_
              refine lv_lconst (v := lN 1) hx hb dX1_leaks_89 (by decide) ?_
              refine x_ladd hx hb dX1_leaks_90 ?_
              refine lv_lstore (lv' := [(4, .long (lN (n1 + 1))), (14, .int (nI 1)), (13, .int (nI i_28)), (12, .int (nI j)), (10, .long (lN n4)), (8, .long (lN n3)), (6, .long (lN n2)), (0, .ref o), (1, .int (nI q)), (2, .int (nI pl)), (3, .int (nI b))]) hx hb dX1_leaks_91 hl (by decide) rfl (fun ls hl => ?_)
              refine lv_lload hx hb dX1_leaks_93 (lv_at hl 6 rfl) ?_
              refine lv_iload hx hb dX1_leaks_95 (lv_at hl 1 rfl) ?_
              refine lv_i2l (v := lN 1) hx hb dX1_leaks_97 (nI_l (by omega)) ?_
              refine x_ladd hx hb dX1_leaks_98 ?_
              refine lv_lstore (lv' := [(6, .long (lN (n2 + 1))), (4, .long (lN (n1 + 1))), (14, .int (nI 1)), (13, .int (nI i_28)), (12, .int (nI j)), (10, .long (lN n4)), (8, .long (lN n3)), (0, .ref o), (1, .int (nI q)), (2, .int (nI pl)), (3, .int (nI b))]) hx hb dX1_leaks_99 hl (by decide) rfl (fun ls hl => ?_)
              refine lv_goto (tgt := 118) hx hb dX1_leaks_101 (by decide) ?_
              refine lv_iinc (v := nI (j + 1)) (lv' := [(12, .int (nI (j + 1))), (6, .long (lN (n2 + 1))), (4, .long (lN (n1 + 1))), (14, .int (nI 1)), (13, .int (nI i_28)), (10, .long (lN n4)), (8, .long (lN n3)), (0, .ref o), (1, .int (nI q)), (2, .int (nI pl)), (3, .int (nI b))]) hx hb dX1_leaks_118 hl (k := 4) rfl (x_inc1 _) (by decide) rfl (fun ls hl => ?_)
              refine lv_goto (tgt := 15) hx hb dX1_leaks_121 (by decide) ?_
              exact ih15 ls (j + 1) (n1 + 1) (n2 + 1) n3 n4 (lv_sub hl [0, 5, 6, 1, 2, 7, 8, 9, 10] rfl) (by omega) (by rw [fb_ct_succ, ← h1]; first | (simp [cqB_f hnc]; done) | (simp [cqB_t hcq, c_84]; done) | (simp [cqB_t hcq, c_84, hme, c_66]; done)) (by rw [fb_ct_succ, ← h2]; first | (simp [cqB_f hnc]; done) | (simp [cqB_t hcq, c_84]; done) | (simp [cqB_t hcq, c_84, hme, c_66]; done)) (by rw [fb_ct_succ, ← h3]; first | (simp [cqB_f hnc]; done) | (simp [cqB_t hcq, c_84]; done) | (simp [cqB_t hcq, c_84, hme, c_66]; done)) (by rw [fb_ct_succ, ← h4]; first | (simp [cqB_f hnc]; done) | (simp [cqB_t hcq, c_84]; done) | (simp [cqB_t hcq, c_84, hme, c_66]; done)) (by omega)

set_option maxHeartbeats 4000000 in
set_option maxRecDepth 100000 in
theorem ct_X1_leaky (l : Launch) (dC : Nat → ClassId) (dI : Nat → Nat → Nat) (cy cz : ClassId) (o : Nat) (a : Nat → Nat) (Z : Nat → Nat → Nat) (G T K : Nat → Nat) (q : Int32) (k : Int32) (b : Int32) (hI : Inv Z) (hR : MRel Z G T K) : Met l yX1_leaky (wS yX1_leaky cX1_leaky 4 (Option.some Jvm.ClassFile.FieldType.int)) (rmF 4 100) (va_Pc [.ref o, .int q, .int k, .int b] (mR dC dI cy cz o a Z G T K)) (vp_Si (fun r => r = fLky Z q k b)) 0 0 (fun _ => False) := by
  refine Met.ofW (cc := cX1_leaky) (maxL := 4) (ret := (Option.some Jvm.ClassFile.FieldType.int)) (by decide) rfl ?_
  intro pg en sv mi ag bw mt cd s₁ BL hml hv
  obtain ⟨rfl, hP, hK⟩ := hv
  have hx := BL.exec
  have hb := BL.bytes
  have hr := BL.returns
  have hts : ∀ w ∈ lw_ok, w.before _ sv = true := fun w hw => atoms_spec (ws := wS yX1_leaky cX1_leaky 4 (Option.some Jvm.ClassFile.FieldType.int)) BL.pre w (List.mem_cons_of_mem _ hw)
  have hown : sv.vm.findClass RX1 = some mi.cls := findClass_of_methodNamed BL.named
  have hlocks := BL.notSynchronized
  have fx : CallFix pg mi cd cX1_leaky 4 sv _ lw_ok RX1 := ⟨hx, hb, hml, hown, hts⟩
  have hl := lv_entry ([.ref o, .int q, .int k, .int b]) (n := 4) (Nat.le_of_ble_eq_true rfl)
  rw [lg_entry_eq]
  generalize (lg_sl ([.ref o, .int q, .int k, .int b]) ++ List.replicate (4 - (lg_sl ([.ref o, .int q, .int k, .int b])).length) Slot.unset).toArray = ls at hl ⊢
  replace hl : lv_has ls 4 [(0, .ref o), (1, .int q), (2, .int k), (3, .int b)] := hl
  obtain ⟨b0, b1, b2⟩ := hI.bd
  refine lv_aload_n hx hb dX1_leaky_0 rfl (lv_at hl 0 rfl) ?_
  refine lv_iload_n hx hb dX1_leaky_1 rfl (lv_at hl 1 rfl) ?_
  refine r_Vi (As := [.int q]) (rest := []) fx (ct_X1_isQuestion l dC dI cy cz o a Z G T K q hI) fyX1_isQuestion tM_RX1_59 rfl rfl ⟨Nat.le_of_ble_eq_true rfl, Nat.le_of_ble_eq_true rfl⟩ (m_pre hK hP) rfl hl.1 rfl (Nat.le_of_ble_eq_true rfl) dX1_leaky_2 ⟨Nat.le_of_ble_eq_true rfl, Nat.le_of_ble_eq_true rfl⟩ (fun r_2 hr_2 => ?_)
  rcases hr_2 with ⟨rfl, hr_2⟩ | ⟨rfl, hr_2⟩
  ·
    refine x_if_eq_T (tgt := 18) hx hb (by decide) dX1_leaky_5 (by decide) ?_
    refine lv_iconst (v := -1) hx hb dX1_leaky_18 (by decide) ?_
    refine W.iret (v := (-1)) hx hb hr (fun t9 ht9 hW9 => ⟨_, rfl, ?_, ht9⟩) (fun q h => by cases h) dX1_leaky_19
    first
    | (rw [fLky, if_neg (fun h => hr_2 h.1)]; done)
    | (rw [fLky, if_neg (fun h => hr_12 ((in_lh (by decide) (by decide)).mpr h.2))]; done)
    | (rw [fLky, if_pos ⟨i_q, i_k⟩, if_neg (fun h => hr_25 ((in_lh (by decide) (by decide)).mpr h))]; done)
    | (rw [fLky, if_pos ⟨i_q, i_k⟩, if_pos i_b, t_q, t_k, t_b, if_pos hr_38]; rfl; done)
    | (rw [fLky, if_pos ⟨i_q, i_k⟩, if_pos i_b, t_q, t_k, t_b, if_neg hr_38]; rfl; done)
  ·
    have i_q := hr_2
    obtain ⟨q1, -, h_q1, rfl⟩ := inR_of i_q
    have t_q : tn (nI q1) = q1 := tn_nI (by omega)
    refine x_if_eq_F (tgt := 18) hx hb (by decide) dX1_leaky_5 (by decide) ?_
    refine lv_aload_n hx hb dX1_leaky_8 rfl (lv_at hl 0 rfl) ?_
    refine lv_iload_n hx hb dX1_leaky_9 rfl (lv_at hl 2 rfl) ?_
    refine lv_iconst (v := nI 0) hx hb dX1_leaky_10 (by decide) ?_
    refine lv_iconst (v := nI 3) hx hb dX1_leaky_11 (by decide) ?_
    refine r_Vi (As := [.int k, .int (nI 0), .int (nI 3)]) (rest := []) fx (ct_X1_in l dC dI cy cz o a Z G T K k ((nI 0)) ((nI 3))) fyX1_in tM_RX1_51 rfl rfl ⟨Nat.le_of_ble_eq_true rfl, Nat.le_of_ble_eq_true rfl⟩ (m_pre hK hP) rfl hl.1 rfl (Nat.le_of_ble_eq_true rfl) dX1_leaky_12 ⟨Nat.le_of_ble_eq_true rfl, Nat.le_of_ble_eq_true rfl⟩ (fun r_12 hr_12 => ?_)
    rcases hr_12 with ⟨rfl, hr_12⟩ | ⟨rfl, hr_12⟩
    ·
      refine x_if_ne_F (tgt := 20) hx hb (by decide) dX1_leaky_15 (by decide) ?_
      refine lv_iconst (v := -1) hx hb dX1_leaky_18 (by decide) ?_
      refine W.iret (v := (-1)) hx hb hr (fun t9 ht9 hW9 => ⟨_, rfl, ?_, ht9⟩) (fun q h => by cases h) dX1_leaky_19
      first
      | (rw [fLky, if_neg (fun h => hr_2 h.1)]; done)
      | (rw [fLky, if_neg (fun h => hr_12 ((in_lh (by decide) (by decide)).mpr h.2))]; done)
      | (rw [fLky, if_pos ⟨i_q, i_k⟩, if_neg (fun h => hr_25 ((in_lh (by decide) (by decide)).mpr h))]; done)
      | (rw [fLky, if_pos ⟨i_q, i_k⟩, if_pos i_b, t_q, t_k, t_b, if_pos hr_38]; rfl; done)
      | (rw [fLky, if_pos ⟨i_q, i_k⟩, if_pos i_b, t_q, t_k, t_b, if_neg hr_38]; rfl; done)
    ·
      have i_k : inR k 0 4 := (in_lh (lo := 0) (hi := 3) (by decide) (by decide)).mp hr_12
      obtain ⟨k1, l_k1, h_k1, rfl⟩ := inR_of i_k
      have t_k : tn (nI k1) = k1 := tn_nI (by omega)
      refine x_if_ne_T (tgt := 20) hx hb (by decide) dX1_leaky_15 (by decide) ?_
      refine lv_aload_n hx hb dX1_leaky_20 rfl (lv_at hl 0 rfl) ?_
      refine lv_iload_n hx hb dX1_leaky_21 rfl (lv_at hl 3 rfl) ?_
      refine lv_iconst (v := nI 1) hx hb dX1_leaky_22 (by decide) ?_
      refine lv_bipush (v := nI 100) hx hb dX1_leaky_23 (by decide) ?_
      refine r_Vi (As := [.int b, .int (nI 1), .int (nI 100)]) (rest := []) fx (ct_X1_in l dC dI cy cz o a Z G T K b ((nI 1)) ((nI 100))) fyX1_in tM_RX1_51 rfl rfl ⟨Nat.le_of_ble_eq_true rfl, Nat.le_of_ble_eq_true rfl⟩ (m_pre hK hP) rfl hl.1 rfl (Nat.le_of_ble_eq_true rfl) dX1_leaky_25 ⟨Nat.le_of_ble_eq_true rfl, Nat.le_of_ble_eq_true rfl⟩ (fun r_25 hr_25 => ?_)
      rcases hr_25 with ⟨rfl, hr_25⟩ | ⟨rfl, hr_25⟩
      ·
        refine x_if_ne_F (tgt := 34) hx hb (by decide) dX1_leaky_28 (by decide) ?_
        refine lv_bipush (v := -2) hx hb dX1_leaky_31 (by decide) ?_
        refine W.iret (v := (-2)) hx hb hr (fun t9 ht9 hW9 => ⟨_, rfl, ?_, ht9⟩) (fun q h => by cases h) dX1_leaky_33
        first
        | (rw [fLky, if_neg (fun h => hr_2 h.1)]; done)
        | (rw [fLky, if_neg (fun h => hr_12 ((in_lh (by decide) (by decide)).mpr h.2))]; done)
        | (rw [fLky, if_pos ⟨i_q, i_k⟩, if_neg (fun h => hr_25 ((in_lh (by decide) (by decide)).mpr h))]; done)
        | (rw [fLky, if_pos ⟨i_q, i_k⟩, if_pos i_b, t_q, t_k, t_b, if_pos hr_38]; rfl; done)
        | (rw [fLky, if_pos ⟨i_q, i_k⟩, if_pos i_b, t_q, t_k, t_b, if_neg hr_38]; rfl; done)
      ·
        have i_b : inR b 1 101 := (in_lh (lo := 1) (hi := 100) (by decide) (by decide)).mp hr_25
        obtain ⟨b9, l_b9, h_b9, rfl⟩ := inR_of i_b
        have t_b : tn (nI b9) = b9 := tn_nI (by omega)
        refine x_if_ne_T (tgt := 34) hx hb (by decide) dX1_leaky_28 (by decide) ?_
        refine lv_aload_n hx hb dX1_leaky_34 rfl (lv_at hl 0 rfl) ?_
        refine lv_iload_n hx hb dX1_leaky_35 rfl (lv_at hl 1 rfl) ?_
        refine lv_iload_n hx hb dX1_leaky_36 rfl (lv_at hl 2 rfl) ?_
        refine lv_iload_n hx hb dX1_leaky_37 rfl (lv_at hl 3 rfl) ?_
        refine r_Vi (As := [.int (nI q1), .int (nI k1), .int (nI b9)]) (rest := []) fx (ct_X1_leaks l dC dI cy cz o a Z G T K q1 k1 b9 hI hR (by first | assumption | omega) (by first | assumption | omega) (by first | assumption | omega)) fyX1_leaks tM_RX1_112 rfl rfl ⟨Nat.le_of_ble_eq_true rfl, Nat.le_of_ble_eq_true rfl⟩ (m_pre hK hP) rfl hl.1 rfl (Nat.le_of_ble_eq_true rfl) dX1_leaky_38 ⟨Nat.le_of_ble_eq_true rfl, Nat.le_of_ble_eq_true rfl⟩ (fun r_38 hr_38 => ?_)
        rcases hr_38 with ⟨rfl, hr_38⟩ | ⟨rfl, hr_38⟩
        ·
          refine x_if_eq_T (tgt := 48) hx hb (by decide) dX1_leaky_41 (by decide) ?_
          refine lv_iconst (v := nI 0) hx hb dX1_leaky_48 (by decide) ?_
          refine W.iret (v := (nI 0)) hx hb hr (fun t9 ht9 hW9 => ⟨_, rfl, ?_, ht9⟩) (fun q h => by cases h) dX1_leaky_49
          first
          | (rw [fLky, if_neg (fun h => hr_2 h.1)]; done)
          | (rw [fLky, if_neg (fun h => hr_12 ((in_lh (by decide) (by decide)).mpr h.2))]; done)
          | (rw [fLky, if_pos ⟨i_q, i_k⟩, if_neg (fun h => hr_25 ((in_lh (by decide) (by decide)).mpr h))]; done)
          | (rw [fLky, if_pos ⟨i_q, i_k⟩, if_pos i_b, t_q, t_k, t_b, if_pos hr_38]; rfl; done)
          | (rw [fLky, if_pos ⟨i_q, i_k⟩, if_pos i_b, t_q, t_k, t_b, if_neg hr_38]; rfl; done)
        ·
          refine x_if_eq_F (tgt := 48) hx hb (by decide) dX1_leaky_41 (by decide) ?_
          refine lv_iconst (v := nI 1) hx hb dX1_leaky_44 (by decide) ?_
          refine lv_goto (tgt := 49) hx hb dX1_leaky_45 (by decide) ?_
          refine W.iret (v := (nI 1)) hx hb hr (fun t9 ht9 hW9 => ⟨_, rfl, ?_, ht9⟩) (fun q h => by cases h) dX1_leaky_49
          first
          | (rw [fLky, if_neg (fun h => hr_2 h.1)]; done)
          | (rw [fLky, if_neg (fun h => hr_12 ((in_lh (by decide) (by decide)).mpr h.2))]; done)
          | (rw [fLky, if_pos ⟨i_q, i_k⟩, if_neg (fun h => hr_25 ((in_lh (by decide) (by decide)).mpr h))]; done)
          | (rw [fLky, if_pos ⟨i_q, i_k⟩, if_pos i_b, t_q, t_k, t_b, if_pos hr_38]; rfl; done)
          | (rw [fLky, if_pos ⟨i_q, i_k⟩, if_pos i_b, t_q, t_k, t_b, if_neg hr_38]; rfl; done)

set_option maxHeartbeats 4000000 in
set_option maxRecDepth 100000 in
theorem ct_X1_easy (l : Launch) (dC : Nat → ClassId) (dI : Nat → Nat → Nat) (cy cz : ClassId) (o : Nat) (a : Nat → Nat) (Z : Nat → Nat → Nat) (G T K : Nat → Nat) (q : Int32) (w : Int32) (hI : Inv Z) (hR : MRel Z G T K) : Met l yX1_easy (wS yX1_easy cX1_easy 9 (Option.some Jvm.ClassFile.FieldType.long)) (rmF 3 66) (va_Pc [.ref o, .int q, .int w] (mR dC dI cy cz o a Z G T K)) (vp_Sl (fun r => r = fEas Z q w)) 0 0 (fun _ => False) := by
  refine Met.ofW (cc := cX1_easy) (maxL := 9) (ret := (Option.some Jvm.ClassFile.FieldType.long)) (by decide) rfl ?_
  intro pg en sv mi ag bw mt cd s₁ BL hml hv
  obtain ⟨rfl, hP, hK⟩ := hv
  have hx := BL.exec
  have hb := BL.bytes
  have hr := BL.returns
  have hts : ∀ w ∈ lw_ok, w.before _ sv = true := fun w hw => atoms_spec (ws := wS yX1_easy cX1_easy 9 (Option.some Jvm.ClassFile.FieldType.long)) BL.pre w (List.mem_cons_of_mem _ hw)
  have hown : sv.vm.findClass RX1 = some mi.cls := findClass_of_methodNamed BL.named
  have hlocks := BL.notSynchronized
  have fx : CallFix pg mi cd cX1_easy 9 sv _ lw_ok RX1 := ⟨hx, hb, hml, hown, hts⟩
  have hl := lv_entry ([.ref o, .int q, .int w]) (n := 9) (Nat.le_of_ble_eq_true rfl)
  rw [lg_entry_eq]
  generalize (lg_sl ([.ref o, .int q, .int w]) ++ List.replicate (9 - (lg_sl ([.ref o, .int q, .int w])).length) Slot.unset).toArray = ls at hl ⊢
  replace hl : lv_has ls 9 [(0, .ref o), (1, .int q), (2, .int w)] := hl
  obtain ⟨b0, b1, b2⟩ := hI.bd
  refine lv_aload_n hx hb dX1_easy_0 rfl (lv_at hl 0 rfl) ?_
  refine lv_iload_n hx hb dX1_easy_1 rfl (lv_at hl 1 rfl) ?_
  refine r_Vi (As := [.int q]) (rest := []) fx (ct_X1_isQuestion l dC dI cy cz o a Z G T K q hI) fyX1_isQuestion tM_RX1_59 rfl rfl ⟨Nat.le_of_ble_eq_true rfl, Nat.le_of_ble_eq_true rfl⟩ (m_pre hK hP) rfl hl.1 rfl (Nat.le_of_ble_eq_true rfl) dX1_easy_2 ⟨Nat.le_of_ble_eq_true rfl, Nat.le_of_ble_eq_true rfl⟩ (fun r_2 hr_2 => ?_)
  rcases hr_2 with ⟨rfl, hr_2⟩ | ⟨rfl, hr_2⟩
  ·
    refine x_if_eq_T (tgt := 18) hx hb (by decide) dX1_easy_5 (by decide) ?_
    refine lv_ldc2 (v := -9223372036854775808) hx hb hown (hts _ (ok_of tJ_RX1_104 rfl)) dX1_easy_18 ?_
    refine W.lret (v := ((-9223372036854775808))) hx hb hr (fun t9 ht9 hW9 => ⟨_, rfl, ?_, ht9⟩) (fun q h => by cases h) dX1_easy_21
    first
    | (rw [fEas, if_neg (fun h => hr_2 h.1)]; done)
    | (rw [fEas, if_neg (fun h => hr_12 ((in_lh (by decide) (by decide)).mpr h.2))]; done)
    | (rw [fEas, if_pos ⟨i_q, i_w⟩, t_q]; by_cases e0 : eN Z q1 = 0; (rw [if_pos e0, prt, if_pos (show lN (eS Z q1) = 0 by rw [eS_0 e0]; rfl)]); (rw [if_neg e0, prt_eq (Nat.mul_pos (by omega) (by omega)) (by omega)]); done)
  ·
    have i_q := hr_2
    obtain ⟨q1, -, h_q1, rfl⟩ := inR_of i_q
    have t_q : tn (nI q1) = q1 := tn_nI (by omega)
    have hqq := hI.q h_q1
    have hen := eN_le hI q1
    refine x_if_eq_F (tgt := 18) hx hb (by decide) dX1_easy_5 (by decide) ?_
    refine lv_aload_n hx hb dX1_easy_8 rfl (lv_at hl 0 rfl) ?_
    refine lv_iload_n hx hb dX1_easy_9 rfl (lv_at hl 2 rfl) ?_
    refine lv_iconst (v := nI 0) hx hb dX1_easy_10 (by decide) ?_
    refine lv_iconst (v := nI 1) hx hb dX1_easy_11 (by decide) ?_
    refine r_Vi (As := [.int w, .int (nI 0), .int (nI 1)]) (rest := []) fx (ct_X1_in l dC dI cy cz o a Z G T K w ((nI 0)) ((nI 1))) fyX1_in tM_RX1_51 rfl rfl ⟨Nat.le_of_ble_eq_true rfl, Nat.le_of_ble_eq_true rfl⟩ (m_pre hK hP) rfl hl.1 rfl (Nat.le_of_ble_eq_true rfl) dX1_easy_12 ⟨Nat.le_of_ble_eq_true rfl, Nat.le_of_ble_eq_true rfl⟩ (fun r_12 hr_12 => ?_)
    rcases hr_12 with ⟨rfl, hr_12⟩ | ⟨rfl, hr_12⟩
    ·
      refine x_if_ne_F (tgt := 22) hx hb (by decide) dX1_easy_15 (by decide) ?_
      refine lv_ldc2 (v := -9223372036854775808) hx hb hown (hts _ (ok_of tJ_RX1_104 rfl)) dX1_easy_18 ?_
      refine W.lret (v := ((-9223372036854775808))) hx hb hr (fun t9 ht9 hW9 => ⟨_, rfl, ?_, ht9⟩) (fun q h => by cases h) dX1_easy_21
      first
      | (rw [fEas, if_neg (fun h => hr_2 h.1)]; done)
      | (rw [fEas, if_neg (fun h => hr_12 ((in_lh (by decide) (by decide)).mpr h.2))]; done)
      | (rw [fEas, if_pos ⟨i_q, i_w⟩, t_q]; by_cases e0 : eN Z q1 = 0; (rw [if_pos e0, prt, if_pos (show lN (eS Z q1) = 0 by rw [eS_0 e0]; rfl)]); (rw [if_neg e0, prt_eq (Nat.mul_pos (by omega) (by omega)) (by omega)]); done)
    ·
      have i_w : inR w 0 2 := (in_lh (lo := 0) (hi := 1) (by decide) (by decide)).mp hr_12
      refine x_if_ne_T (tgt := 22) hx hb (by decide) dX1_easy_15 (by decide) ?_
      refine lv_lconst (v := lN 0) hx hb dX1_easy_22 (by decide) ?_
      refine lv_lstore_n (lv' := [(3, .long (lN 0)), (0, .ref o), (1, .int (nI q1)), (2, .int w)]) hx hb dX1_easy_23 rfl hl (by decide) rfl (fun ls hl => ?_)
      refine lv_lconst (v := lN 0) hx hb dX1_easy_24 (by decide) ?_
      refine lv_lstore (lv' := [(5, .long (lN 0)), (3, .long (lN 0)), (0, .ref o), (1, .int (nI q1)), (2, .int w)]) hx hb dX1_easy_25 hl (by decide) rfl (fun ls hl => ?_)
      refine lv_iconst (v := nI 0) hx hb dX1_easy_27 (by decide) ?_
      refine lv_istore (lv' := [(7, .int (nI 0)), (5, .long (lN 0)), (3, .long (lN 0)), (0, .ref o), (1, .int (nI q1)), (2, .int w)]) hx hb dX1_easy_28 hl (by decide) rfl (fun ls hl => ?_)
      obtain ⟨j, ej⟩ : ∃ j : Nat, j = 0 := ⟨_, rfl⟩
      obtain ⟨n, en⟩ : ∃ n : Nat, n = 0 := ⟨_, rfl⟩
      obtain ⟨t, et⟩ : ∃ t : Nat, t = 0 := ⟨_, rfl⟩
      replace hl : lv_has ls 9 [(7, .int (nI j)), (5, .long (lN n)), (3, .long (lN t)), (0, .ref o), (1, .int (nI q1)), (2, .int w)] := by subst ej en et; exact lv_sub hl [0, 1, 2, 3, 4, 5] rfl
      have hj : j ≤ Z 0 2 := by subst ej en et; omega
      have hn : n = fb_ct (cqB Z q1) j := by subst ej en et; rfl
      have hm : t = fb_sm (fun u => if cqB Z q1 u then mkq Z q1 u else 0) j := by subst ej en et; rfl
      have hm10 : t ≤ j * 10 := by subst ej en et; omega
      clear ej en et
      obtain ⟨n30, hn30⟩ : ∃ n_0 : Nat, Z 0 2 - j < n_0 := ⟨_, Nat.lt_succ_self _⟩
      induction n30 generalizing j n t ls with
      | zero => exact absurd hn30 (Nat.not_lt_zero _)
      | succ n30 ih30 =>
        refine lv_iload hx hb dX1_easy_30 (lv_at hl 0 rfl) ?_
        refine lv_aload_n hx hb dX1_easy_32 rfl (lv_at hl 3 rfl) ?_
        refine m_g2 hx hb hts hown hK hP dX1_easy_33 ?_
        refine x_icmp_ge (x := j) (y := Z 0 2) (tgt := 91) hx hb (by omega) (by omega) dX1_easy_36 (by decide) (fun c_36 => ?_) (fun c_36 => ?_)
        ·
          obtain rfl : j = Z 0 2 := by omega
          have hn2 : n = eN Z q1 := hn
          have hm2 : t = eS Z q1 := hm
          have hmu := Nat.mul_le_mul hen hqq.2.2.1
          subst hn2 hm2
          have hB0 : lN (eS Z q1) = 0 ∨ 0 < eN Z q1 * Z 6 q1 := by
            rcases Nat.eq_zero_or_pos (eN Z q1) with h | h
            · left; rw [eS_0 h]; rfl
            · right; exact Nat.mul_pos h (by omega)
          refine lv_aload_n hx hb dX1_easy_91 rfl (lv_at hl 3 rfl) ?_
          refine lv_lload_n hx hb dX1_easy_92 rfl (lv_at hl 2 rfl) ?_
          refine lv_lload hx hb dX1_easy_93 (lv_at hl 1 rfl) ?_
          refine lv_aload_n hx hb dX1_easy_95 rfl (lv_at hl 3 rfl) ?_
          refine m_g4 hx hb hts hown hK hP dX1_easy_96 ?_
          refine lv_iload_n hx hb dX1_easy_99 rfl (lv_at hl 4 rfl) ?_
          refine m_l4 (j := q1) hx hb hK hP (by omega) dX1_easy_100 ?_
          refine lv_i2l (v := lN (Z 6 q1)) hx hb dX1_easy_101 (nI_l (by omega)) ?_
          refine x_lmul hx hb dX1_easy_102 ?_
          refine lv_iload_n hx hb dX1_easy_103 rfl (lv_at hl 5 rfl) ?_
          refine r_Vl (As := [.long (lN ((eS Z q1))), .long (lN (((eN Z q1)) * (Z 6 q1))), .int w]) (rest := []) fx (ct_X1_part l dC dI cy cz o a Z G T K ((lN ((eS Z q1)))) (((eN Z q1)) * (Z 6 q1)) w (lN_tI (by omega)) hB0 (by omega)) fyX1_part tM_RX1_106 rfl rfl ⟨Nat.le_of_ble_eq_true rfl, Nat.le_of_ble_eq_true rfl⟩ (m_pre hK hP) rfl hl.1 rfl (Nat.le_of_ble_eq_true rfl) dX1_easy_104 ⟨Nat.le_of_ble_eq_true rfl, Nat.le_of_ble_eq_true rfl⟩ (fun r_104 hr_104 => ?_)
          subst hr_104
          refine W.lret (v := (prt ((lN ((eS Z q1)))) (((eN Z q1)) * (Z 6 q1)) w)) hx hb hr (fun t9 ht9 hW9 => ⟨_, rfl, ?_, ht9⟩) (fun q h => by cases h) dX1_easy_107
          first
          | (rw [fEas, if_neg (fun h => hr_2 h.1)]; done)
          | (rw [fEas, if_neg (fun h => hr_12 ((in_lh (by decide) (by decide)).mpr h.2))]; done)
          | (rw [fEas, if_pos ⟨i_q, i_w⟩, t_q]; by_cases e0 : eN Z q1 = 0; (rw [if_pos e0, prt, if_pos (show lN (eS Z q1) = 0 by rw [eS_0 e0]; rfl)]); (rw [if_neg e0, prt_eq (Nat.mul_pos (by omega) (by omega)) (by omega)]); done)
        ·
          have hpu := hI.pu (u := j) (by omega)
          have hsz := hI.sz (p := Z 11 j) (by omega)
          refine lv_aload_n hx hb dX1_easy_39 rfl (lv_at hl 3 rfl) ?_
          refine lv_iload hx hb dX1_easy_40 (lv_at hl 0 rfl) ?_
          refine lv_iload_n hx hb dX1_easy_42 rfl (lv_at hl 4 rfl) ?_
          refine r_Vi (As := [.int (nI j), .int (nI q1)]) (rest := []) fx (ct_X1_own l dC dI cy cz o a Z G T K ((nI j)) ((nI q1)) hI) fyX1_own tM_RX1_77 rfl rfl ⟨Nat.le_of_ble_eq_true rfl, Nat.le_of_ble_eq_true rfl⟩ (m_pre hK hP) rfl hl.1 rfl (Nat.le_of_ble_eq_true rfl) dX1_easy_43 ⟨Nat.le_of_ble_eq_true rfl, Nat.le_of_ble_eq_true rfl⟩ (fun r_43 hr_43 => ?_)
          rcases hr_43 with ⟨rfl, ho_43⟩ | ⟨x_43, y_43, i_43, hx_43, hy_43, eu_43, eq_43, hi_43, hs_43, hr_43, ho_43, rfl⟩
          ·
            have hnc : ¬ cqP Z q1 j := fun h => ho_43 ((own_nI hI (by omega) h_q1).mpr h.1)
            refine lv_istore (lv' := [(8, .int (-1)), (7, .int (nI j)), (5, .long (lN n)), (3, .long (lN t)), (0, .ref o), (1, .int (nI q1)), (2, .int w)]) hx hb dX1_easy_46 hl (by decide) rfl (fun ls hl => ?_)
            refine lv_iload hx hb dX1_easy_48 (lv_at hl 0 rfl) ?_
            refine x_if_lt_T (tgt := 85) hx hb (by decide) dX1_easy_50 (by decide) ?_
            refine lv_iinc (v := nI (j + 1)) (lv' := [(7, .int (nI (j + 1))), (8, .int (-1)), (5, .long (lN n)), (3, .long (lN t)), (0, .ref o), (1, .int (nI q1)), (2, .int w)]) hx hb dX1_easy_85 hl (k := 1) rfl (x_inc1 _) (by decide) rfl (fun ls hl => ?_)
            refine lv_goto (tgt := 30) hx hb dX1_easy_88 (by decide) ?_
            exact ih30 ls (j + 1) n t (lv_sub hl [0, 2, 3, 4, 5, 6] rfl) (by omega) (by rw [fb_ct_succ, ← hn]; first | (rw [cqB_t hcq]; rfl) | (rw [cqB_f hnc]; rfl)) (by rw [fb_sm_succ, ← hm]; first | (rw [cqB_t hcq, hme]; rfl) | (rw [cqB_f hnc]; rfl)) (by omega) (by omega)
          ·
            have e1 := (nI_eq (by omega) (by omega)).mp eu_43
            have e2 := (nI_eq (by omega) (by omega)).mp eq_43
            subst e1 e2
            have hmk := mrk_le hI (u := j) (i := i_43) (by omega) hi_43
            have hme : mkq Z q1 j = mrk Z j i_43 := by rw [mkq, hs_43]
            refine lv_istore (lv' := [(8, .int (nI i_43)), (7, .int (nI j)), (5, .long (lN n)), (3, .long (lN t)), (0, .ref o), (1, .int (nI q1)), (2, .int w)]) hx hb dX1_easy_46 hl (by decide) rfl (fun ls hl => ?_)
            refine lv_iload hx hb dX1_easy_48 (lv_at hl 0 rfl) ?_
            refine x_if_lt_F (tgt := 85) hx hb (nI_pos (by omega)) dX1_easy_50 (by decide) ?_
            refine lv_aload_n hx hb dX1_easy_53 rfl (lv_at hl 4 rfl) ?_
            refine lv_iload hx hb dX1_easy_54 (lv_at hl 1 rfl) ?_
            refine lv_iload hx hb dX1_easy_56 (lv_at hl 0 rfl) ?_
            refine r_Vi (As := [.int (nI j), .int (nI i_43)]) (rest := []) fx (ct_X1_cameTo l dC dI cy cz o a Z G T K j i_43 hI hR (by first | assumption | omega) (by first | assumption | omega)) fyX1_cameTo tM_RX1_91 rfl rfl ⟨Nat.le_of_ble_eq_true rfl, Nat.le_of_ble_eq_true rfl⟩ (m_pre hK hP) rfl hl.1 rfl (Nat.le_of_ble_eq_true rfl) dX1_easy_58 ⟨Nat.le_of_ble_eq_true rfl, Nat.le_of_ble_eq_true rfl⟩ (fun r_58 hr_58 => ?_)
            rcases hr_58 with ⟨rfl, hr_58⟩ | ⟨rfl, hr_58⟩
            ·
              have hnc : ¬ cqP Z q1 j := fun h => hr_58 (by have h2 := h.2; rw [hs_43] at h2; exact h2)
              refine x_if_ne_F (tgt := 67) hx hb (by decide) dX1_easy_61 (by decide) ?_
              refine lv_goto (tgt := 85) hx hb dX1_easy_64 (by decide) ?_
              refine lv_iinc (v := nI (j + 1)) (lv' := [(7, .int (nI (j + 1))), (8, .int (nI i_43)), (5, .long (lN n)), (3, .long (lN t)), (0, .ref o), (1, .int (nI q1)), (2, .int w)]) hx hb dX1_easy_85 hl (k := 1) rfl (x_inc1 _) (by decide) rfl (fun ls hl => ?_)
              refine lv_goto (tgt := 30) hx hb dX1_easy_88 (by decide) ?_
              exact ih30 ls (j + 1) n t (lv_sub hl [0, 2, 3, 4, 5, 6] rfl) (by omega) (by rw [fb_ct_succ, ← hn]; first | (rw [cqB_t hcq]; rfl) | (rw [cqB_f hnc]; rfl)) (by rw [fb_sm_succ, ← hm]; first | (rw [cqB_t hcq, hme]; rfl) | (rw [cqB_f hnc]; rfl)) (by omega) (by omega)
            ·
              have hcq : cqP Z q1 j := ⟨by omega, by rw [hs_43]; exact hr_58⟩
              refine x_if_ne_T (tgt := 67) hx hb (by decide) dX1_easy_61 (by decide) ?_
              refine lv_lload_n hx hb dX1_easy_67 rfl (lv_at hl 3 rfl) ?_
              refine lv_aload_n hx hb dX1_easy_68 rfl (lv_at hl 4 rfl) ?_
              refine lv_iload hx hb dX1_easy_69 (lv_at hl 1 rfl) ?_
              refine lv_iload hx hb dX1_easy_71 (lv_at hl 0 rfl) ?_
              refine r_Vi (As := [.int (nI j), .int (nI i_43)]) (rest := [.long (lN t)]) fx (ct_X1_markAt l dC dI cy cz o a Z G T K j i_43 hI hR (by first | assumption | omega) (by first | assumption | omega)) fyX1_markAt tM_RX1_88 rfl rfl ⟨Nat.le_of_ble_eq_true rfl, Nat.le_of_ble_eq_true rfl⟩ (m_pre hK hP) rfl hl.1 rfl (Nat.le_of_ble_eq_true rfl) dX1_easy_73 ⟨Nat.le_of_ble_eq_true rfl, Nat.le_of_ble_eq_true rfl⟩ (fun r_73 hr_73 => ?_)
              subst hr_73
              refine lv_i2l (v := lN (mrk Z j i_43)) hx hb dX1_easy_76 (nI_l (by omega)) ?_
              refine x_ladd hx hb dX1_easy_77 ?_
              refine lv_lstore_n (lv' := [(3, .long (lN (t + (mrk Z j i_43)))), (8, .int (nI i_43)), (7, .int (nI j)), (5, .long (lN n)), (0, .ref o), (1, .int (nI q1)), (2, .int w)]) hx hb dX1_easy_78 rfl hl (by decide) rfl (fun ls hl => ?_)
              refine lv_lload hx hb dX1_easy_79 (lv_at hl 3 rfl) ?_
              refine lv_lconst (v := lN 1) hx hb dX1_easy_81 (by decide) ?_
              refine x_ladd hx hb dX1_easy_82 ?_
              refine lv_lstore (lv' := [(5, .long (lN (n + 1))), (3, .long (lN (t + (mrk Z j i_43)))), (8, .int (nI i_43)), (7, .int (nI j)), (0, .ref o), (1, .int (nI q1)), (2, .int w)]) hx hb dX1_easy_83 hl (by decide) rfl (fun ls hl => ?_)
              refine lv_iinc (v := nI (j + 1)) (lv' := [(7, .int (nI (j + 1))), (5, .long (lN (n + 1))), (3, .long (lN (t + (mrk Z j i_43)))), (8, .int (nI i_43)), (0, .ref o), (1, .int (nI q1)), (2, .int w)]) hx hb dX1_easy_85 hl (k := 3) rfl (x_inc1 _) (by decide) rfl (fun ls hl => ?_)
              refine lv_goto (tgt := 30) hx hb dX1_easy_88 (by decide) ?_
              exact ih30 ls (j + 1) (n + 1) (t + (mrk Z j i_43)) (lv_sub hl [0, 1, 2, 4, 5, 6] rfl) (by omega) (by rw [fb_ct_succ, ← hn]; first | (rw [cqB_t hcq]; rfl) | (rw [cqB_f hnc]; rfl)) (by rw [fb_sm_succ, ← hm]; first | (rw [cqB_t hcq, hme]; rfl) | (rw [cqB_f hnc]; rfl)) (by omega) (by omega)
