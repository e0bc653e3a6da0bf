set_option maxHeartbeats 4000000 in
set_option maxRecDepth 100000 in
theorem ct_X0_question (l : Launch) (dC : Nat → ClassId) (dI : Nat → Nat → Nat) (cy : ClassId) (o : Nat) (a : Nat → Nat) (Z X : Nat → Nat → Nat) (sz : Nat) (k : Int32) (m : Int32) (v : Int32) (hI : Inv Z) : Met l yX0_question (wS yX0_question cX0_question 5 (Option.some Jvm.ClassFile.FieldType.int)) (rmF 1 20) (va_Pc [.ref o, .int k, .int m, .int v] (cS dC dI cy o a Z X sz)) (va_Qi (fun r (u : ST × ST) => r = fQ Z k m v ∧ u.1 = sQ Z k m v) (cE dC dI cy o a (cA cy o a Z X sz)) (cA cy o a Z X sz)) 0 0 (cA cy o a Z X sz) := by
  refine Met.ofW (cc := cX0_question) (maxL := 5) (ret := (Option.some Jvm.ClassFile.FieldType.int)) (by decide) rfl ?_
  intro pg en sv mi ag bw mt cd s₁ BL hml hv
  obtain ⟨rfl, hsz, hP, hK, hD0⟩ := hv
  have hx := BL.exec
  have hb := BL.bytes
  have hr := BL.returns
  have hts : ∀ w ∈ lw_ok, w.before _ sv = true := fun w hw => atoms_spec (ws := wS yX0_question cX0_question 5 (Option.some Jvm.ClassFile.FieldType.int)) BL.pre w (List.mem_cons_of_mem _ hw)
  have hown : sv.vm.findClass RX0 = some mi.cls := findClass_of_methodNamed BL.named
  have hlocks := BL.notSynchronized
  have fx : CallFix pg mi cd cX0_question 5 sv _ lw_ok RX0 := ⟨hx, hb, hml, hown, hts⟩
  have hl := lv_entry ([.ref o, .int k, .int m, .int v]) (n := 5) (Nat.le_of_ble_eq_true rfl)
  rw [lg_entry_eq]
  generalize (lg_sl ([.ref o, .int k, .int m, .int v]) ++ List.replicate (5 - (lg_sl ([.ref o, .int k, .int m, .int v])).length) Slot.unset).toArray = ls at hl ⊢
  replace hl : lv_has ls 5 [(0, .ref o), (1, .int k), (2, .int m), (3, .int v)] := hl
  subst hsz
  have hD : va_D (cA cy o a Z X sv.heap.size) (cw cy o a Z X) := hD0.self (sz := sv.heap.size)
  clear hD0
  generalize hAe : cA cy o a Z X sv.heap.size = A at hD ⊢
  have hA : ∀ q : Nat, sv.heap.size ≤ q → A q := fun q h => by rw [← hAe]; exact Or.inr h
  clear hAe
  refine x_start (fun H locs eH eL => ?_)
  replace hP : va_P (dC, dI) vwCl (cw cy o a Z X) H := by rw [eH]; exact hP
  have hS : va_S A sv.heap H locs := by rw [eH, eL]; exact va_S.rf
  clear eH eL
  obtain ⟨b0, b1, b2⟩ := hI.bd
  refine lv_iload_n hx hb dX0_question_0 rfl (lv_at hl 1 rfl) ?_
  refine lv_if_lt (tgt := 20) hx hb dX0_question_1 (by decide) (fun c_1 => ?_) (fun c_1 => ?_)
  ·
    refine lv_bipush (v := -2) hx hb dX0_question_20 (by decide) ?_
    refine W.iret (v := (-2)) hx hb hr (fun t9 ht9 hW9 => ⟨⟨_, (Z, X), rfl, ?_, cE_mk ht9 hP hK hW9 hD⟩, hS.F ht9⟩) hS.2.2 dX0_question_22
    first
    | (constructor; (rw [fQ, if_neg (fun h => inR_lo c_1 h.1)]); (rw [sQ, if_neg (fun h => inR_lo c_1 h.1.1)]); done)
    | (constructor; (rw [fQ, if_neg (fun h => inR_gt (by decide) c_6 h.1)]); (rw [sQ, if_neg (fun h => inR_gt (by decide) c_6 h.1.1)]); done)
    | (constructor; (rw [fQ, if_neg (fun h => inR_lt (by decide) c_11 h.2.1)]); (rw [sQ, if_neg (fun h => inR_lt (by decide) c_11 h.1.2.1)]); done)
    | (constructor; (rw [fQ, if_neg (fun h => inR_gt (by decide) (fa_of_nle c_17) h.2.1)]); (rw [sQ, if_neg (fun h => inR_gt (by decide) (fa_of_nle c_17) h.1.2.1)]); done)
  ·
    refine lv_iload_n hx hb dX0_question_4 rfl (lv_at hl 1 rfl) ?_
    refine lv_iconst (v := nI 3) hx hb dX0_question_5 (by decide) ?_
    refine lv_icmp_gt (tgt := 20) hx hb dX0_question_6 (by decide) (fun c_6 => ?_) (fun c_6 => ?_)
    ·
      refine lv_bipush (v := -2) hx hb dX0_question_20 (by decide) ?_
      refine W.iret (v := (-2)) hx hb hr (fun t9 ht9 hW9 => ⟨⟨_, (Z, X), rfl, ?_, cE_mk ht9 hP hK hW9 hD⟩, hS.F ht9⟩) hS.2.2 dX0_question_22
      first
      | (constructor; (rw [fQ, if_neg (fun h => inR_lo c_1 h.1)]); (rw [sQ, if_neg (fun h => inR_lo c_1 h.1.1)]); done)
      | (constructor; (rw [fQ, if_neg (fun h => inR_gt (by decide) c_6 h.1)]); (rw [sQ, if_neg (fun h => inR_gt (by decide) c_6 h.1.1)]); done)
      | (constructor; (rw [fQ, if_neg (fun h => inR_lt (by decide) c_11 h.2.1)]); (rw [sQ, if_neg (fun h => inR_lt (by decide) c_11 h.1.2.1)]); done)
      | (constructor; (rw [fQ, if_neg (fun h => inR_gt (by decide) (fa_of_nle c_17) h.2.1)]); (rw [sQ, if_neg (fun h => inR_gt (by decide) (fa_of_nle c_17) h.1.2.1)]); done)
    ·
      refine lv_iload_n hx hb dX0_question_9 rfl (lv_at hl 2 rfl) ?_
      refine lv_iconst (v := nI 1) hx hb dX0_question_10 (by decide) ?_
      refine lv_icmp_lt (tgt := 20) hx hb dX0_question_11 (by decide) (fun c_11 => ?_) (fun c_11 => ?_)
      ·
        refine lv_bipush (v := -2) hx hb dX0_question_20 (by decide) ?_
        refine W.iret (v := (-2)) hx hb hr (fun t9 ht9 hW9 => ⟨⟨_, (Z, X), rfl, ?_, cE_mk ht9 hP hK hW9 hD⟩, hS.F ht9⟩) hS.2.2 dX0_question_22
        first
        | (constructor; (rw [fQ, if_neg (fun h => inR_lo c_1 h.1)]); (rw [sQ, if_neg (fun h => inR_lo c_1 h.1.1)]); done)
        | (constructor; (rw [fQ, if_neg (fun h => inR_gt (by decide) c_6 h.1)]); (rw [sQ, if_neg (fun h => inR_gt (by decide) c_6 h.1.1)]); done)
        | (constructor; (rw [fQ, if_neg (fun h => inR_lt (by decide) c_11 h.2.1)]); (rw [sQ, if_neg (fun h => inR_lt (by decide) c_11 h.1.2.1)]); done)
        | (constructor; (rw [fQ, if_neg (fun h => inR_gt (by decide) (fa_of_nle c_17) h.2.1)]); (rw [sQ, if_neg (fun h => inR_gt (by decide) (fa_of_nle c_17) h.1.2.1)]); done)
      ·
        refine lv_iload_n hx hb dX0_question_14 rfl (lv_at hl 2 rfl) ?_
        refine lv_bipush (v := nI 10) hx hb dX0_question_15 (by decide) ?_
        refine lv_icmp_le (tgt := 23) hx hb dX0_question_17 (by decide) (fun c_17 => ?_) (fun c_17 => ?_)
        ·
          refine lv_iload_n hx hb dX0_question_23 rfl (lv_at hl 1 rfl) ?_
          refine lv_iconst (v := nI 1) hx hb dX0_question_24 (by decide) ?_
          refine lv_icmp_ne (tgt := 38) hx hb dX0_question_25 (by decide) (fun c_25 => ?_) (fun c_25 => ?_)
          ·
            refine lv_iload_n hx hb dX0_question_38 rfl (lv_at hl 3 rfl) ?_
            refine lv_if_eq (tgt := 45) hx hb dX0_question_39 (by decide) (fun c_39 => ?_) (fun c_39 => ?_)
            ·
              have hk : inR k 0 4 := inR_mk2 (lo := 0) (n := 3) (by decide) (by decide) (show ¬ k < nI 0 from c_1) c_6
              have hm : inR m 1 11 := inR_mk2 (lo := 1) (n := 10) (by decide) (by decide) c_11 (fun h => (fa_of_lt h).2.1 c_17)
              have hv : kyOk k v := by
                first
                | exact Or.inl ⟨c_25, hr_29⟩
                | exact Or.inr ⟨c_25, c_39⟩
              have hvq : vQ k m v := ⟨hk, hm, hv⟩
              obtain ⟨k1, -, h_k1, ek⟩ := inR_of hk
              obtain ⟨m1, l_m1, h_m1, em⟩ := inR_of hm
              obtain ⟨v1, h_v1, ev⟩ := kyOk_of hv
              subst ek em ev
              have t_k : tn (nI k1) = k1 := tn_nI (by omega)
              have t_m : tn (nI m1) = m1 := tn_nI (by omega)
              have t_v : tn (nI v1) = v1 := tn_nI (by omega)
              refine lv_aload_n hx hb dX0_question_45 rfl (lv_at hl 0 rfl) ?_
              refine c_g0 hx hb hts hown hK hP dX0_question_46 ?_
              refine lv_bipush (v := nI 30) hx hb dX0_question_49 (by decide) ?_
              refine x_icmp_lt (x := Z 0 0) (y := 30) (tgt := 57) hx hb (by omega) (by omega) dX0_question_51 (by decide) (fun c_51 => ?_) (fun c_51 => ?_)
              ·
                refine lv_aload_n hx hb dX0_question_57 rfl (lv_at hl 0 rfl) ?_
                refine c_g0 hx hb hts hown hK hP dX0_question_58 ?_
                refine lv_istore (lv' := [(4, .int (nI (Z 0 0))), (0, .ref o), (1, .int (nI k1)), (2, .int (nI m1)), (3, .int (nI v1))]) hx hb dX0_question_61 hl (by decide) rfl (fun ls hl => ?_)
                refine lv_aload_n hx hb dX0_question_63 rfl (lv_at hl 1 rfl) ?_
                refine c_g5 hx hb hts hown hK hP dX0_question_64 ?_
                refine lv_iload hx hb dX0_question_67 (lv_at hl 0 rfl) ?_
                refine lv_iload_n hx hb dX0_question_69 rfl (lv_at hl 2 rfl) ?_
                refine c_s5 (j := Z 0 0) (v := k1) hx hb hK hP hD hS (by omega) dX0_question_70 (fun H locs hP hD hS => ?_)
                refine lv_aload_n hx hb dX0_question_71 rfl (lv_at hl 1 rfl) ?_
                refine c_g6 hx hb hts hown hK hP dX0_question_72 ?_
                refine lv_iload hx hb dX0_question_75 (lv_at hl 0 rfl) ?_
                refine lv_iload_n hx hb dX0_question_77 rfl (lv_at hl 3 rfl) ?_
                refine c_s6 (j := Z 0 0) (v := m1) hx hb hK hP hD hS (by omega) dX0_question_78 (fun H locs hP hD hS => ?_)
                refine lv_aload_n hx hb dX0_question_79 rfl (lv_at hl 1 rfl) ?_
                refine c_g7 hx hb hts hown hK hP dX0_question_80 ?_
                refine lv_iload hx hb dX0_question_83 (lv_at hl 0 rfl) ?_
                refine lv_iload_n hx hb dX0_question_85 rfl (lv_at hl 4 rfl) ?_
                refine c_s7 (j := Z 0 0) (v := v1) hx hb hK hP hD hS (by omega) dX0_question_86 (fun H locs hP hD hS => ?_)
                refine lv_iload_n hx hb dX0_question_87 rfl (lv_at hl 2 rfl) ?_
                refine lv_iconst (v := nI 3) hx hb dX0_question_88 (by decide) ?_
                refine x_icmp_ne (x := k1) (y := 3) (tgt := 105) hx hb (by omega) (by omega) dX0_question_89 (by decide) (fun c_89 => ?_) (fun c_89 => ?_)
                ·
                  refine lv_aload_n hx hb dX0_question_105 rfl (lv_at hl 1 rfl) ?_
                  refine lv_dup hx hb dX0_question_106 rfl ?_
                  refine c_g0 hx hb hts hown hK hP dX0_question_107 ?_
                  refine W.eq (g2 := F0 mi 110 ls [.int (nI (Z 0 0)), .ref o]) rfl ?_
                  refine lv_iconst (v := nI 1) hx hb dX0_question_110 (by decide) ?_
                  refine x_iadd hx hb dX0_question_111 ?_
                  refine c_p0 (v := (Z 0 0) + 1) hx hb hts hown hK hP hD hS dX0_question_112 (fun H locs hP hD hS => ?_)
                  refine lv_iload hx hb dX0_question_115 (lv_at hl 0 rfl) ?_
                  refine W.iret (v := (nI (Z 0 0))) hx hb hr (fun t9 ht9 hW9 => ⟨⟨_, (zu (zu (zu (zu Z 5 (Z 0 0) k1) 6 (Z 0 0) m1) 7 (Z 0 0) v1) 0 0 ((Z 0 0) + 1), X), rfl, ?_, cE_mk ht9 hP hK hW9 hD⟩, hS.F ht9⟩) hS.2.2 dX0_question_117
                  refine ⟨by rw [fQ, if_pos hvq, if_pos c_51], ?_⟩
                  rw [sQ, if_pos ⟨hvq, c_51⟩, t_k, t_m, t_v, sQ0]
                  first | (rw [if_pos c_89]; done) | (rw [if_neg c_89]; done) | (rw [if_pos c_89]; rfl) | (rw [if_neg c_89]; rfl)
                ·
                  refine lv_aload_n hx hb dX0_question_92 rfl (lv_at hl 1 rfl) ?_
                  refine lv_dup hx hb dX0_question_93 rfl ?_
                  refine c_g4 hx hb hts hown hK hP dX0_question_94 ?_
                  refine W.eq (g2 := F0 mi 97 ls [.int (nI (Z 0 4)), .ref o]) rfl ?_
                  refine lv_iconst (v := nI 1) hx hb dX0_question_97 (by decide) ?_
                  refine lv_iload hx hb dX0_question_98 (lv_at hl 0 rfl) ?_
                  refine x_ishl1 hx hb (by omega) dX0_question_100 ?_
                  refine x_ior hx hb dX0_question_101 ?_
                  refine c_p4 (v := (Z 0 4) ||| (2 ^ (Z 0 0))) hx hb hts hown hK hP hD hS dX0_question_102 (fun H locs hP hD hS => ?_)
                  refine lv_aload_n hx hb dX0_question_105 rfl (lv_at hl 1 rfl) ?_
                  refine lv_dup hx hb dX0_question_106 rfl ?_
                  refine c_g0 hx hb hts hown hK hP dX0_question_107 ?_
                  refine W.eq (g2 := F0 mi 110 ls [.int (nI (Z 0 0)), .ref o]) rfl ?_
                  refine lv_iconst (v := nI 1) hx hb dX0_question_110 (by decide) ?_
                  refine x_iadd hx hb dX0_question_111 ?_
                  refine c_p0 (v := (Z 0 0) + 1) hx hb hts hown hK hP hD hS dX0_question_112 (fun H locs hP hD hS => ?_)
                  refine lv_iload hx hb dX0_question_115 (lv_at hl 0 rfl) ?_
                  refine W.iret (v := (nI (Z 0 0))) hx hb hr (fun t9 ht9 hW9 => ⟨⟨_, (zu (zu (zu (zu (zu Z 5 (Z 0 0) k1) 6 (Z 0 0) m1) 7 (Z 0 0) v1) 0 4 ((Z 0 4) ||| (2 ^ (Z 0 0)))) 0 0 ((Z 0 0) + 1), X), rfl, ?_, cE_mk ht9 hP hK hW9 hD⟩, hS.F ht9⟩) hS.2.2 dX0_question_117
                  refine ⟨by rw [fQ, if_pos hvq, if_pos c_51], ?_⟩
                  rw [sQ, if_pos ⟨hvq, c_51⟩, t_k, t_m, t_v, sQ0]
                  first | (rw [if_pos c_89]; done) | (rw [if_neg c_89]; done) | (rw [if_pos c_89]; rfl) | (rw [if_neg c_89]; rfl)
              ·
                refine lv_bipush (v := -4) hx hb dX0_question_54 (by decide) ?_
                refine W.iret (v := (-4)) hx hb hr (fun t9 ht9 hW9 => ⟨⟨_, (Z, X), rfl, ?_, cE_mk ht9 hP hK hW9 hD⟩, hS.F ht9⟩) hS.2.2 dX0_question_56
                exact ⟨by rw [fQ, if_pos hvq, if_neg c_51], by rw [sQ, if_neg (fun h => c_51 h.2)]⟩
            ·
              refine lv_bipush (v := -2) hx hb dX0_question_42 (by decide) ?_
              refine W.iret (v := (-2)) hx hb hr (fun t9 ht9 hW9 => ⟨⟨_, (Z, X), rfl, ?_, cE_mk ht9 hP hK hW9 hD⟩, hS.F ht9⟩) hS.2.2 dX0_question_44
              first
              | (have hno : ¬ kyOk k v := fun h => h.elim (fun q => hr_29 q.2) (fun q => q.1 c_25)
                 constructor; (rw [fQ, if_neg (fun h => hno h.2.2)]); (rw [sQ, if_neg (fun h => hno h.1.2.2)]); done)
              | (have hno : ¬ kyOk k v := fun h => h.elim (fun q => c_25 q.1) (fun q => c_39 q.2)
                 constructor; (rw [fQ, if_neg (fun h => hno h.2.2)]); (rw [sQ, if_neg (fun h => hno h.1.2.2)]); done)
          ·
            refine lv_iload_n hx hb dX0_question_28 rfl (lv_at hl 3 rfl) ?_
            refine r_Si (As := [.int v]) (rest := []) fx (ct_X0_isKey l v) fyX0_isKey tM_RX0_57 rfl rfl ⟨Nat.le_of_ble_eq_true rfl, Nat.le_of_ble_eq_true rfl⟩ rfl hl.1 rfl (Nat.le_of_ble_eq_true rfl) dX0_question_29 ⟨Nat.le_of_ble_eq_true rfl, Nat.le_of_ble_eq_true rfl⟩ (fun r_29 hr_29 => ?_)
            rcases hr_29 with ⟨rfl, hr_29⟩ | ⟨rfl, hr_29⟩
            ·
              refine x_if_ne_F (tgt := 45) hx hb (by decide) dX0_question_32 (by decide) ?_
              refine lv_goto (tgt := 42) hx hb dX0_question_35 (by decide) ?_
              refine lv_bipush (v := -2) hx hb dX0_question_42 (by decide) ?_
              refine W.iret (v := (-2)) hx hb hr (fun t9 ht9 hW9 => ⟨⟨_, (Z, X), rfl, ?_, cE_mk ht9 hP hK hW9 hD⟩, hS.F ht9⟩) hS.2.2 dX0_question_44
              first
              | (have hno : ¬ kyOk k v := fun h => h.elim (fun q => hr_29 q.2) (fun q => q.1 c_25)
                 constructor; (rw [fQ, if_neg (fun h => hno h.2.2)]); (rw [sQ, if_neg (fun h => hno h.1.2.2)]); done)
              | (have hno : ¬ kyOk k v := fun h => h.elim (fun q => c_25 q.1) (fun q => c_39 q.2)
                 constructor; (rw [fQ, if_neg (fun h => hno h.2.2)]); (rw [sQ, if_neg (fun h => hno h.1.2.2)]); done)
            ·
              refine x_if_ne_T (tgt := 45) hx hb (by decide) dX0_question_32 (by decide) ?_
              have hk : inR k 0 4 := inR_mk2 (lo := 0) (n := 3) (by decide) (by decide) (show ¬ k < nI 0 from c_1) c_6
              have hm : inR m 1 11 := inR_mk2 (lo := 1) (n := 10) (by decide) (by decide) c_11 (fun h => (fa_of_lt h).2.1 c_17)
              have hv : kyOk k v := by
                first
                | exact Or.inl ⟨c_25, hr_29⟩
                | exact Or.inr ⟨c_25, c_39⟩
              have hvq : vQ k m v := ⟨hk, hm, hv⟩
              obtain ⟨k1, -, h_k1, ek⟩ := inR_of hk
              obtain ⟨m1, l_m1, h_m1, em⟩ := inR_of hm
              obtain ⟨v1, h_v1, ev⟩ := kyOk_of hv
              subst ek em ev
              have t_k : tn (nI k1) = k1 := tn_nI (by omega)
              have t_m : tn (nI m1) = m1 := tn_nI (by omega)
              have t_v : tn (nI v1) = v1 := tn_nI (by omega)
              refine lv_aload_n hx hb dX0_question_45 rfl (lv_at hl 0 rfl) ?_
              refine c_g0 hx hb hts hown hK hP dX0_question_46 ?_
              refine lv_bipush (v := nI 30) hx hb dX0_question_49 (by decide) ?_
              refine x_icmp_lt (x := Z 0 0) (y := 30) (tgt := 57) hx hb (by omega) (by omega) dX0_question_51 (by decide) (fun c_51 => ?_) (fun c_51 => ?_)
              ·
                refine lv_aload_n hx hb dX0_question_57 rfl (lv_at hl 0 rfl) ?_
                refine c_g0 hx hb hts hown hK hP dX0_question_58 ?_
                refine lv_istore (lv' := [(4, .int (nI (Z 0 0))), (0, .ref o), (1, .int (nI k1)), (2, .int (nI m1)), (3, .int (nI v1))]) hx hb dX0_question_61 hl (by decide) rfl (fun ls hl => ?_)
                refine lv_aload_n hx hb dX0_question_63 rfl (lv_at hl 1 rfl) ?_
                refine c_g5 hx hb hts hown hK hP dX0_question_64 ?_
                refine lv_iload hx hb dX0_question_67 (lv_at hl 0 rfl) ?_
                refine lv_iload_n hx hb dX0_question_69 rfl (lv_at hl 2 rfl) ?_
                refine c_s5 (j := Z 0 0) (v := k1) hx hb hK hP hD hS (by omega) dX0_question_70 (fun H locs hP hD hS => ?_)
                refine lv_aload_n hx hb dX0_question_71 rfl (lv_at hl 1 rfl) ?_
                refine c_g6 hx hb hts hown hK hP dX0_question_72 ?_
                refine lv_iload hx hb dX0_question_75 (lv_at hl 0 rfl) ?_
                refine lv_iload_n hx hb dX0_question_77 rfl (lv_at hl 3 rfl) ?_
                refine c_s6 (j := Z 0 0) (v := m1) hx hb hK hP hD hS (by omega) dX0_question_78 (fun H locs hP hD hS => ?_)
                refine lv_aload_n hx hb dX0_question_79 rfl (lv_at hl 1 rfl) ?_
                refine c_g7 hx hb hts hown hK hP dX0_question_80 ?_
                refine lv_iload hx hb dX0_question_83 (lv_at hl 0 rfl) ?_
                refine lv_iload_n hx hb dX0_question_85 rfl (lv_at hl 4 rfl) ?_
                refine c_s7 (j := Z 0 0) (v := v1) hx hb hK hP hD hS (by omega) dX0_question_86 (fun H locs hP hD hS => ?_)
                refine lv_iload_n hx hb dX0_question_87 rfl (lv_at hl 2 rfl) ?_
                refine lv_iconst (v := nI 3) hx hb dX0_question_88 (by decide) ?_
                refine x_icmp_ne (x := k1) (y := 3) (tgt := 105) hx hb (by omega) (by omega) dX0_question_89 (by decide) (fun c_89 => ?_) (fun c_89 => ?_)
                ·
                  refine lv_aload_n hx hb dX0_question_105 rfl (lv_at hl 1 rfl) ?_
                  refine lv_dup hx hb dX0_question_106 rfl ?_
                  refine c_g0 hx hb hts hown hK hP dX0_question_107 ?_
                  refine W.eq (g2 := F0 mi 110 ls [.int (nI (Z 0 0)), .ref o]) rfl ?_
                  refine lv_iconst (v := nI 1) hx hb dX0_question_110 (by decide) ?_
                  refine x_iadd hx hb dX0_question_111 ?_
                  refine c_p0 (v := (Z 0 0) + 1) hx hb hts hown hK hP hD hS dX0_question_112 (fun H locs hP hD hS => ?_)
                  refine lv_iload hx hb dX0_question_115 (lv_at hl 0 rfl) ?_
                  refine W.iret (v := (nI (Z 0 0))) hx hb hr (fun t9 ht9 hW9 => ⟨⟨_, (zu (zu (zu (zu Z 5 (Z 0 0) k1) 6 (Z 0 0) m1) 7 (Z 0 0) v1) 0 0 ((Z 0 0) + 1), X), rfl, ?_, cE_mk ht9 hP hK hW9 hD⟩, hS.F ht9⟩) hS.2.2 dX0_question_117
                  refine ⟨by rw [fQ, if_pos hvq, if_pos c_51], ?_⟩
                  rw [sQ, if_pos ⟨hvq, c_51⟩, t_k, t_m, t_v, sQ0]
                  first | (rw [if_pos c_89]; done) | (rw [if_neg c_89]; done) | (rw [if_pos c_89]; rfl) | (rw [if_neg c_89]; rfl)
                ·
                  refine lv_aload_n hx hb dX0_question_92 rfl (lv_at hl 1 rfl) ?_
                  refine lv_dup hx hb dX0_question_93 rfl ?_
                  refine c_g4 hx hb hts hown hK hP dX0_question_94 ?_
                  refine W.eq (g2 := F0 mi 97 ls [.int (nI (Z 0 4)), .ref o]) rfl ?_
                  refine lv_iconst (v := nI 1) hx hb dX0_question_97 (by decide) ?_
                  refine lv_iload hx hb dX0_question_98 (lv_at hl 0 rfl) ?_
                  refine x_ishl1 hx hb (by omega) dX0_question_100 ?_
                  refine x_ior hx hb dX0_question_101 ?_
                  refine c_p4 (v := (Z 0 4) ||| (2 ^ (Z 0 0))) hx hb hts hown hK hP hD hS dX0_question_102 (fun H locs hP hD hS => ?_)
                  refine lv_aload_n hx hb dX0_question_105 rfl (lv_at hl 1 rfl) ?_
                  refine lv_dup hx hb dX0_question_106 rfl ?_
                  refine c_g0 hx hb hts hown hK hP dX0_question_107 ?_
                  refine W.eq (g2 := F0 mi 110 ls [.int (nI (Z 0 0)), .ref o]) rfl ?_
                  refine lv_iconst (v := nI 1) hx hb dX0_question_110 (by decide) ?_
                  refine x_iadd hx hb dX0_question_111 ?_
                  refine c_p0 (v := (Z 0 0) + 1) hx hb hts hown hK hP hD hS dX0_question_112 (fun H locs hP hD hS => ?_)
                  refine lv_iload hx hb dX0_question_115 (lv_at hl 0 rfl) ?_
                  refine W.iret (v := (nI (Z 0 0))) hx hb hr (fun t9 ht9 hW9 => ⟨⟨_, (zu (zu (zu (zu (zu Z 5 (Z 0 0) k1) 6 (Z 0 0) m1) 7 (Z 0 0) v1) 0 4 ((Z 0 4) ||| (2 ^ (Z 0 0)))) 0 0 ((Z 0 0) + 1), X), rfl, ?_, cE_mk ht9 hP hK hW9 hD⟩, hS.F ht9⟩) hS.2.2 dX0_question_117
                  refine ⟨by rw [fQ, if_pos hvq, if_pos c_51], ?_⟩
                  rw [sQ, if_pos ⟨hvq, c_51⟩, t_k, t_m, t_v, sQ0]
                  first | (rw [if_pos c_89]; done) | (rw [if_neg c_89]; done) | (rw [if_pos c_89]; rfl) | (rw [if_neg c_89]; rfl)
              ·
                refine lv_bipush (v := -4) hx hb dX0_question_54 (by decide) ?_
                refine W.iret (v := (-4)) hx hb hr (fun t9 ht9 hW9 => ⟨⟨_, (Z, X), rfl, ?_, cE_mk ht9 hP hK hW9 hD⟩, hS.F ht9⟩) hS.2.2 dX0_question_56
                exact ⟨by rw [fQ, if_pos hvq, if_neg c_51], by rw [sQ, if_neg (fun h => c_51 h.2)]⟩
        ·
          refine lv_bipush (v := -2) hx hb dX0_question_20 (by decide) ?_
          refine W.iret (v := (-2)) hx hb hr (fun t9 ht9 hW9 => ⟨⟨_, (Z, X), rfl, ?_, cE_mk ht9 hP hK hW9 hD⟩, hS.F ht9⟩) hS.2.2 dX0_question_22
          first
          | (constructor; (rw [fQ, if_neg (fun h => inR_lo c_1 h.1)]); (rw [sQ, if_neg (fun h => inR_lo c_1 h.1.1)]); done)
          | (constructor; (rw [fQ, if_neg (fun h => inR_gt (by decide) c_6 h.1)]); (rw [sQ, if_neg (fun h => inR_gt (by decide) c_6 h.1.1)]); done)
          | (constructor; (rw [fQ, if_neg (fun h => inR_lt (by decide) c_11 h.2.1)]); (rw [sQ, if_neg (fun h => inR_lt (by decide) c_11 h.1.2.1)]); done)
          | (constructor; (rw [fQ, if_neg (fun h => inR_gt (by decide) (fa_of_nle c_17) h.2.1)]); (rw [sQ, if_neg (fun h => inR_gt (by decide) (fa_of_nle c_17) h.1.2.1)]); done)

set_option maxHeartbeats 4000000 in
set_option maxRecDepth 100000 in
theorem ct_X0_judge (l : Launch) (dC : Nat → ClassId) (dI : Nat → Nat → Nat) (cy : ClassId) (o : Nat) (a : Nat → Nat) (Z X : Nat → Nat → Nat) (sz : Nat) (j : Int32) (p : Int32) (q : Int32) (v : Int32) (hI : Inv Z) : Met l yX0_judge (wS yX0_judge cX0_judge 8 (Option.some Jvm.ClassFile.FieldType.int)) (rmF 2 44) (va_Pc [.ref o, .int j, .int p, .int q, .int v] (cS dC dI cy o a Z X sz)) (va_Qi (fun r (u : ST × ST) => r = fJud Z j p q v ∧ u.1 = sJud Z j p q v) (cE dC dI cy o a (cA cy o a Z X sz)) (cA cy o a Z X sz)) 0 0 (cA cy o a Z X sz) := by
  refine Met.ofW (cc := cX0_judge) (maxL := 8) (ret := (Option.some Jvm.ClassFile.FieldType.int)) (by decide) rfl ?_
  intro pg en sv mi ag bw mt cd s₁ BL hml hv
  obtain ⟨rfl, hsz, hP, hK, hD0⟩ := hv
  have hx := BL.exec
  have hb := BL.bytes
  have hr := BL.returns
  have hts : ∀ w ∈ lw_ok, w.before _ sv = true := fun w hw => atoms_spec (ws := wS yX0_judge cX0_judge 8 (Option.some Jvm.ClassFile.FieldType.int)) BL.pre w (List.mem_cons_of_mem _ hw)
  have hown : sv.vm.findClass RX0 = some mi.cls := findClass_of_methodNamed BL.named
  have hlocks := BL.notSynchronized
  have fx : CallFix pg mi cd cX0_judge 8 sv _ lw_ok RX0 := ⟨hx, hb, hml, hown, hts⟩
  have hl := lv_entry ([.ref o, .int j, .int p, .int q, .int v]) (n := 8) (Nat.le_of_ble_eq_true rfl)
  rw [lg_entry_eq]
  generalize (lg_sl ([.ref o, .int j, .int p, .int q, .int v]) ++ List.replicate (8 - (lg_sl ([.ref o, .int j, .int p, .int q, .int v])).length) Slot.unset).toArray = ls at hl ⊢
  replace hl : lv_has ls 8 [(0, .ref o), (1, .int j), (2, .int p), (3, .int q), (4, .int v)] := hl
  subst hsz
  have hD : va_D (cA cy o a Z X sv.heap.size) (cw cy o a Z X) := hD0.self (sz := sv.heap.size)
  clear hD0
  generalize hAe : cA cy o a Z X sv.heap.size = A at hD ⊢
  have hA : ∀ q : Nat, sv.heap.size ≤ q → A q := fun q h => by rw [← hAe]; exact Or.inr h
  clear hAe
  refine x_start (fun H locs eH eL => ?_)
  replace hP : va_P (dC, dI) vwCl (cw cy o a Z X) H := by rw [eH]; exact hP
  have hS : va_S A sv.heap H locs := by rw [eH, eL]; exact va_S.rf
  clear eH eL
  obtain ⟨b0, b1, b2⟩ := hI.bd
  refine lv_iload_n hx hb dX0_judge_0 rfl (lv_at hl 1 rfl) ?_
  refine lv_if_lt (tgt := 26) hx hb dX0_judge_1 (by decide) (fun c_1 => ?_) (fun c_1 => ?_)
  ·
    refine lv_iconst (v := -1) hx hb dX0_judge_26 (by decide) ?_
    refine W.iret (v := (-1)) hx hb hr (fun t9 ht9 hW9 => ⟨⟨_, (Z, X), rfl, ?_, cE_mk ht9 hP hK hW9 hD⟩, hS.F ht9⟩) hS.2.2 dX0_judge_27
    first
    | (constructor; (rw [fJud, if_neg (fun h => inR_lo c_1 h.1.1)]); (rw [sJud, if_neg (fun h => inR_lo c_1 h.1.1.1)]); done)
    | (constructor; (rw [fJud, if_neg (fun h => inR_hi (by decide) c_7 h.1.1)]); (rw [sJud, if_neg (fun h => inR_hi (by decide) c_7 h.1.1.1)]); done)
    | (constructor; (rw [fJud, if_neg (fun h => hr_12 h.1.2.1)]); (rw [sJud, if_neg (fun h => hr_12 h.1.1.2.1)]); done)
    | (constructor; (rw [fJud, if_neg (fun h => hr_20 h.1.2.2)]); (rw [sJud, if_neg (fun h => hr_20 h.1.1.2.2)]); done)
  ·
    refine lv_iload_n hx hb dX0_judge_4 rfl (lv_at hl 1 rfl) ?_
    refine lv_bipush (v := nI 8) hx hb dX0_judge_5 (by decide) ?_
    refine lv_icmp_ge (tgt := 26) hx hb dX0_judge_7 (by decide) (fun c_7 => ?_) (fun c_7 => ?_)
    ·
      refine lv_iconst (v := -1) hx hb dX0_judge_26 (by decide) ?_
      refine W.iret (v := (-1)) hx hb hr (fun t9 ht9 hW9 => ⟨⟨_, (Z, X), rfl, ?_, cE_mk ht9 hP hK hW9 hD⟩, hS.F ht9⟩) hS.2.2 dX0_judge_27
      first
      | (constructor; (rw [fJud, if_neg (fun h => inR_lo c_1 h.1.1)]); (rw [sJud, if_neg (fun h => inR_lo c_1 h.1.1.1)]); done)
      | (constructor; (rw [fJud, if_neg (fun h => inR_hi (by decide) c_7 h.1.1)]); (rw [sJud, if_neg (fun h => inR_hi (by decide) c_7 h.1.1.1)]); done)
      | (constructor; (rw [fJud, if_neg (fun h => hr_12 h.1.2.1)]); (rw [sJud, if_neg (fun h => hr_12 h.1.1.2.1)]); done)
      | (constructor; (rw [fJud, if_neg (fun h => hr_20 h.1.2.2)]); (rw [sJud, if_neg (fun h => hr_20 h.1.1.2.2)]); done)
    ·
      have i_j : inR j 0 8 := inR_mk (by decide) c_1 c_7
      obtain ⟨j1, -, h_j1, rfl⟩ := inR_of i_j
      have t_j : tn (nI j1) = j1 := tn_nI (by omega)
      refine lv_aload_n hx hb dX0_judge_10 rfl (lv_at hl 0 rfl) ?_
      refine lv_iload_n hx hb dX0_judge_11 rfl (lv_at hl 2 rfl) ?_
      refine r_Vi (As := [.int p]) (rest := []) fx (ct_X0_isPaper l dC dI cy o a Z X p hI) fyX0_isPaper tM_RX0_81 rfl rfl ⟨Nat.le_of_ble_eq_true rfl, Nat.le_of_ble_eq_true rfl⟩ (c_pre hK hP) rfl hl.1 rfl (Nat.le_of_ble_eq_true rfl) dX0_judge_12 ⟨Nat.le_of_ble_eq_true rfl, Nat.le_of_ble_eq_true rfl⟩ (fun r_12 hr_12 => ?_)
      rcases hr_12 with ⟨rfl, hr_12⟩ | ⟨rfl, hr_12⟩
      ·
        refine x_if_eq_T (tgt := 26) hx hb (by decide) dX0_judge_15 (by decide) ?_
        refine lv_iconst (v := -1) hx hb dX0_judge_26 (by decide) ?_
        refine W.iret (v := (-1)) hx hb hr (fun t9 ht9 hW9 => ⟨⟨_, (Z, X), rfl, ?_, cE_mk ht9 hP hK hW9 hD⟩, hS.F ht9⟩) hS.2.2 dX0_judge_27
        first
        | (constructor; (rw [fJud, if_neg (fun h => inR_lo c_1 h.1.1)]); (rw [sJud, if_neg (fun h => inR_lo c_1 h.1.1.1)]); done)
        | (constructor; (rw [fJud, if_neg (fun h => inR_hi (by decide) c_7 h.1.1)]); (rw [sJud, if_neg (fun h => inR_hi (by decide) c_7 h.1.1.1)]); done)
        | (constructor; (rw [fJud, if_neg (fun h => hr_12 h.1.2.1)]); (rw [sJud, if_neg (fun h => hr_12 h.1.1.2.1)]); done)
        | (constructor; (rw [fJud, if_neg (fun h => hr_20 h.1.2.2)]); (rw [sJud, if_neg (fun h => hr_20 h.1.1.2.2)]); done)
      ·
        have i_p := hr_12
        obtain ⟨p1, -, h_p1, rfl⟩ := inR_of i_p
        have t_p : tn (nI p1) = p1 := tn_nI (by omega)
        have bs := hI.sz (p := p1) (by omega)
        refine x_if_eq_F (tgt := 26) hx hb (by decide) dX0_judge_15 (by decide) ?_
        refine lv_aload_n hx hb dX0_judge_18 rfl (lv_at hl 0 rfl) ?_
        refine lv_iload_n hx hb dX0_judge_19 rfl (lv_at hl 3 rfl) ?_
        refine r_Vi (As := [.int q]) (rest := []) fx (ct_X0_isQuestion l dC dI cy o a Z X q hI) fyX0_isQuestion tM_RX0_68 rfl rfl ⟨Nat.le_of_ble_eq_true rfl, Nat.le_of_ble_eq_true rfl⟩ (c_pre hK hP) rfl hl.1 rfl (Nat.le_of_ble_eq_true rfl) dX0_judge_20 ⟨Nat.le_of_ble_eq_true rfl, Nat.le_of_ble_eq_true rfl⟩ (fun r_20 hr_20 => ?_)
        rcases hr_20 with ⟨rfl, hr_20⟩ | ⟨rfl, hr_20⟩
        ·
          refine x_if_ne_F (tgt := 28) hx hb (by decide) dX0_judge_23 (by decide) ?_
          refine lv_iconst (v := -1) hx hb dX0_judge_26 (by decide) ?_
          refine W.iret (v := (-1)) hx hb hr (fun t9 ht9 hW9 => ⟨⟨_, (Z, X), rfl, ?_, cE_mk ht9 hP hK hW9 hD⟩, hS.F ht9⟩) hS.2.2 dX0_judge_27
          first
          | (constructor; (rw [fJud, if_neg (fun h => inR_lo c_1 h.1.1)]); (rw [sJud, if_neg (fun h => inR_lo c_1 h.1.1.1)]); done)
          | (constructor; (rw [fJud, if_neg (fun h => inR_hi (by decide) c_7 h.1.1)]); (rw [sJud, if_neg (fun h => inR_hi (by decide) c_7 h.1.1.1)]); done)
          | (constructor; (rw [fJud, if_neg (fun h => hr_12 h.1.2.1)]); (rw [sJud, if_neg (fun h => hr_12 h.1.1.2.1)]); done)
          | (constructor; (rw [fJud, if_neg (fun h => hr_20 h.1.2.2)]); (rw [sJud, if_neg (fun h => hr_20 h.1.1.2.2)]); done)
        ·
          have i_q := hr_20
          obtain ⟨q1, -, h_q1, rfl⟩ := inR_of i_q
          have t_q : tn (nI q1) = q1 := tn_nI (by omega)
          have hqq := hI.q h_q1
          refine x_if_ne_T (tgt := 28) hx hb (by decide) dX0_judge_23 (by decide) ?_
          refine lv_aload_n hx hb dX0_judge_28 rfl (lv_at hl 0 rfl) ?_
          refine lv_iload_n hx hb dX0_judge_29 rfl (lv_at hl 2 rfl) ?_
          refine lv_iload_n hx hb dX0_judge_30 rfl (lv_at hl 3 rfl) ?_
          refine r_Vi (As := [.int (nI p1), .int (nI q1)]) (rest := []) fx (ct_X0_spotOf l dC dI cy o a Z X p1 q1 hI (by first | assumption | omega) (by first | assumption | omega)) fyX0_spotOf tM_RX0_178 rfl rfl ⟨Nat.le_of_ble_eq_true rfl, Nat.le_of_ble_eq_true rfl⟩ (c_pre hK hP) rfl hl.1 rfl (Nat.le_of_ble_eq_true rfl) dX0_judge_31 ⟨Nat.le_of_ble_eq_true rfl, Nat.le_of_ble_eq_true rfl⟩ (fun r_31 hr_31 => ?_)
          rcases hr_31 with ⟨rfl, hs_31⟩ | ⟨i_31, hi_31, hs_31, hq_31, rfl⟩
          ·
            refine lv_istore (lv' := [(5, .int (-1)), (0, .ref o), (1, .int (nI j1)), (2, .int (nI p1)), (3, .int (nI q1)), (4, .int v)]) hx hb dX0_judge_34 hl (by decide) rfl (fun ls hl => ?_)
            refine lv_iload hx hb dX0_judge_36 (lv_at hl 0 rfl) ?_
            refine lv_iconst (v := -1) hx hb dX0_judge_38 (by decide) ?_
            refine x_icmp_ne_F (tgt := 44) hx hb (by decide) dX0_judge_39 (by decide) ?_
            refine lv_iconst (v := -1) hx hb dX0_judge_42 (by decide) ?_
            refine W.iret (v := (-1)) hx hb hr (fun t9 ht9 hW9 => ⟨⟨_, (Z, X), rfl, ?_, cE_mk ht9 hP hK hW9 hD⟩, hS.F ht9⟩) hS.2.2 dX0_judge_43
            have hno : ¬ spt Z (tn (nI p1)) (tn (nI q1)) < Z 8 (tn (nI p1)) := by rw [t_p, t_q]; omega
            exact ⟨by rw [fJud, if_neg (fun h => hno h.2)], by rw [sJud, if_neg (fun h => hno h.1.2)]⟩
          ·
            have hjx : jx Z (nI j1) (nI p1) (nI q1) = (p1 * 12 + i_31) * 8 + j1 := by show (tn (nI p1) * 12 + spt Z (tn (nI p1)) (tn (nI q1))) * 8 + tn (nI j1) = _; rw [t_p, t_q, t_j, hs_31]
            have hsl : vJ Z (nI j1) (nI p1) (nI q1) ∧ spt Z (tn (nI p1)) (tn (nI q1)) < Z 8 (tn (nI p1)) := ⟨⟨i_j, i_p, i_q⟩, by rw [t_p, t_q, hs_31]; exact hi_31⟩
            refine lv_istore (lv' := [(5, .int (nI i_31)), (0, .ref o), (1, .int (nI j1)), (2, .int (nI p1)), (3, .int (nI q1)), (4, .int v)]) hx hb dX0_judge_34 hl (by decide) rfl (fun ls hl => ?_)
            refine lv_iload hx hb dX0_judge_36 (lv_at hl 0 rfl) ?_
            refine lv_iconst (v := -1) hx hb dX0_judge_38 (by decide) ?_
            refine x_icmp_ne_T (tgt := 44) hx hb (nI_ne_m1 (by omega)) dX0_judge_39 (by decide) ?_
            refine lv_iload hx hb dX0_judge_44 (lv_at hl 5 rfl) ?_
            refine lv_iconst (v := -1) hx hb dX0_judge_46 (by decide) ?_
            refine lv_icmp_lt (tgt := 61) hx hb dX0_judge_47 (by decide) (fun c_47 => ?_) (fun c_47 => ?_)
            ·
              refine lv_bipush (v := -2) hx hb dX0_judge_61 (by decide) ?_
              refine W.iret (v := (-2)) hx hb hr (fun t9 ht9 hW9 => ⟨⟨_, (Z, X), rfl, ?_, cE_mk ht9 hP hK hW9 hD⟩, hS.F ht9⟩) hS.2.2 dX0_judge_63
              have hno : ¬ vJ2 Z (nI q1) v := by
                have h1 : (-1 : Int32).toInt = -1 := rfl
                intro h
                rcases h with h | h
                · subst h
                  first | exact absurd c_47 (by decide) | exact c_58 ((Int32.le_iff_toInt_le).mpr (by rw [h1, nI_toInt (show Z 6 q1 < 2 ^ 31 by omega)]; omega))
                · have h2 : inR v 0 (Z 6 (tn (nI q1)) + 1) := h
                  rw [t_q] at h2
                  obtain ⟨h3, h4⟩ := h2
                  first | (rw [Int32.lt_iff_toInt_lt, h1] at c_47; omega) | (rw [Int32.le_iff_toInt_le, nI_toInt (show Z 6 q1 < 2 ^ 31 by omega)] at c_58; omega)
              exact ⟨by rw [fJud, if_pos hsl, if_neg hno], by rw [sJud, if_neg (fun h => hno h.2)]⟩
            ·
              refine lv_iload hx hb dX0_judge_50 (lv_at hl 5 rfl) ?_
              refine lv_aload_n hx hb dX0_judge_52 rfl (lv_at hl 1 rfl) ?_
              refine c_g6 hx hb hts hown hK hP dX0_judge_53 ?_
              refine lv_iload_n hx hb dX0_judge_56 rfl (lv_at hl 4 rfl) ?_
              refine c_l6 (j := q1) hx hb hK hP (by omega) dX0_judge_57 ?_
              refine lv_icmp_le (tgt := 64) hx hb dX0_judge_58 (by decide) (fun c_58 => ?_) (fun c_58 => ?_)
              ·
                have hv2 : vJ2 Z (nI q1) v := by
                  show v = -1 ∨ inR v 0 (Z 6 (tn (nI q1)) + 1)
                  rw [t_q]
                  have h1 : (-1 : Int32).toInt = -1 := rfl
                  rw [Int32.lt_iff_toInt_lt, h1] at c_47
                  rw [Int32.le_iff_toInt_le, nI_toInt (show Z 6 q1 < 2 ^ 31 by omega)] at c_58
                  by_cases e : v = -1
                  · exact Or.inl e
                  · right
                    have h2 : v.toInt ≠ -1 := fun h => e (Int32.toInt_inj.mp (by rw [h, h1]))
                    exact ⟨by omega, by omega⟩
                refine lv_iload_n hx hb dX0_judge_64 rfl (lv_at hl 3 rfl) ?_
                refine lv_bipush (v := nI 12) hx hb dX0_judge_65 (by decide) ?_
                refine x_imul hx hb dX0_judge_67 ?_
                refine lv_iload hx hb dX0_judge_68 (lv_at hl 0 rfl) ?_
                refine x_iadd hx hb dX0_judge_70 ?_
                refine lv_bipush (v := nI 8) hx hb dX0_judge_71 (by decide) ?_
                refine x_imul hx hb dX0_judge_73 ?_
                refine lv_iload_n hx hb dX0_judge_74 rfl (lv_at hl 2 rfl) ?_
                refine x_iadd hx hb dX0_judge_75 ?_
                refine lv_istore (lv' := [(6, .int (nI (((p1 * 12 + i_31) * 8) + j1))), (5, .int (nI i_31)), (0, .ref o), (1, .int (nI j1)), (2, .int (nI p1)), (3, .int (nI q1)), (4, .int v)]) hx hb dX0_judge_76 hl (by decide) rfl (fun ls hl => ?_)
                refine lv_aload_n hx hb dX0_judge_78 rfl (lv_at hl 2 rfl) ?_
                refine c_g14 hx hb hts hown hK hP dX0_judge_79 ?_
                refine lv_iload hx hb dX0_judge_82 (lv_at hl 0 rfl) ?_
                refine c_l14 (j := ((p1 * 12 + i_31) * 8) + j1) hx hb hK hP (by omega) dX0_judge_84 ?_
                refine lv_istore (lv' := [(7, .int (gv (Z 14 (((p1 * 12 + i_31) * 8) + j1)))), (6, .int (nI (((p1 * 12 + i_31) * 8) + j1))), (5, .int (nI i_31)), (0, .ref o), (1, .int (nI j1)), (2, .int (nI p1)), (3, .int (nI q1)), (4, .int v)]) hx hb dX0_judge_85 hl (by decide) rfl (fun ls hl => ?_)
                refine lv_aload_n hx hb dX0_judge_87 rfl (lv_at hl 3 rfl) ?_
                refine c_g14 hx hb hts hown hK hP dX0_judge_88 ?_
                refine lv_iload hx hb dX0_judge_91 (lv_at hl 1 rfl) ?_
                refine lv_iload hx hb dX0_judge_93 (lv_at hl 7 rfl) ?_
                refine W.eq (g2 := F0 mi 95 ls [.int (gv (jV v)), .int (nI (((p1 * 12 + i_31) * 8) + j1)), .ref (a 14)]) (by rw [jV_gv hv2]) ?_
                refine c_s14 (j := ((p1 * 12 + i_31) * 8) + j1) (v := jV v) hx hb hK hP hD hS (by omega) dX0_judge_95 (fun H locs hP hD hS => ?_)
                refine lv_iload hx hb dX0_judge_96 (lv_at hl 0 rfl) ?_
                refine W.iret (v := (gv (Z 14 (((p1 * 12 + i_31) * 8) + j1)))) hx hb hr (fun t9 ht9 hW9 => ⟨⟨_, (zu Z 14 (((p1 * 12 + i_31) * 8) + j1) (jV v), X), rfl, ?_, cE_mk ht9 hP hK hW9 hD⟩, hS.F ht9⟩) hS.2.2 dX0_judge_98
                exact ⟨by rw [fJud, if_pos hsl, if_pos hv2, hjx], by rw [sJud, if_pos ⟨hsl, hv2⟩, hjx]⟩
              ·
                refine lv_bipush (v := -2) hx hb dX0_judge_61 (by decide) ?_
                refine W.iret (v := (-2)) hx hb hr (fun t9 ht9 hW9 => ⟨⟨_, (Z, X), rfl, ?_, cE_mk ht9 hP hK hW9 hD⟩, hS.F ht9⟩) hS.2.2 dX0_judge_63
                have hno : ¬ vJ2 Z (nI q1) v := by
                  have h1 : (-1 : Int32).toInt = -1 := rfl
                  intro h
                  rcases h with h | h
                  · subst h
                    first | exact absurd c_47 (by decide) | exact c_58 ((Int32.le_iff_toInt_le).mpr (by rw [h1, nI_toInt (show Z 6 q1 < 2 ^ 31 by omega)]; omega))
                  · have h2 : inR v 0 (Z 6 (tn (nI q1)) + 1) := h
                    rw [t_q] at h2
                    obtain ⟨h3, h4⟩ := h2
                    first | (rw [Int32.lt_iff_toInt_lt, h1] at c_47; omega) | (rw [Int32.le_iff_toInt_le, nI_toInt (show Z 6 q1 < 2 ^ 31 by omega)] at c_58; omega)
                exact ⟨by rw [fJud, if_pos hsl, if_neg hno], by rw [sJud, if_neg (fun h => hno h.2)]⟩

set_option maxHeartbeats 4000000 in
set_option maxRecDepth 100000 in
theorem ct_X0_row (l : Launch) (dC : Nat → ClassId) (dI : Nat → Nat → Nat) (cy : ClassId) (o : Nat) (a : Nat → Nat) (Z X : Nat → Nat → Nat) (sz : Nat) (u : Int32) (w : Int64) (hI : Inv Z) : Met l yX0_row (wS yX0_row cX0_row 9 (Option.some Jvm.ClassFile.FieldType.int)) (rmF 1 30) (va_Pc [.ref o, .int u, .long w] (cS dC dI cy o a Z X sz)) (va_Qi (fun r (uu : ST × ST) => r = fRow Z u w ∧ uu.1 = sRow Z u w) (cE dC dI cy o a (cA cy o a Z X sz)) (cA cy o a Z X sz)) 0 0 (cA cy o a Z X sz) := by
  refine Met.ofW (cc := cX0_row) (maxL := 9) (ret := (Option.some Jvm.ClassFile.FieldType.int)) (by decide) rfl ?_
  intro pg en sv mi ag bw mt cd s₁ BL hml hv
  obtain ⟨rfl, hsz, hP, hK, hD0⟩ := hv
  have hx := BL.exec
  have hb := BL.bytes
  have hr := BL.returns
  have hts : ∀ w ∈ lw_ok, w.before _ sv = true := fun w hw => atoms_spec (ws := wS yX0_row cX0_row 9 (Option.some Jvm.ClassFile.FieldType.int)) BL.pre w (List.mem_cons_of_mem _ hw)
  have hown : sv.vm.findClass RX0 = some mi.cls := findClass_of_methodNamed BL.named
  have hlocks := BL.notSynchronized
  have fx : CallFix pg mi cd cX0_row 9 sv _ lw_ok RX0 := ⟨hx, hb, hml, hown, hts⟩
  have hl := lv_entry ([.ref o, .int u, .long w]) (n := 9) (Nat.le_of_ble_eq_true rfl)
  rw [lg_entry_eq]
  generalize (lg_sl ([.ref o, .int u, .long w]) ++ List.replicate (9 - (lg_sl ([.ref o, .int u, .long w])).length) Slot.unset).toArray = ls at hl ⊢
  replace hl : lv_has ls 9 [(0, .ref o), (1, .int u), (2, .long w)] := hl
  subst hsz
  have hD : va_D (cA cy o a Z X sv.heap.size) (cw cy o a Z X) := hD0.self (sz := sv.heap.size)
  clear hD0
  generalize hAe : cA cy o a Z X sv.heap.size = A at hD ⊢
  have hA : ∀ q : Nat, sv.heap.size ≤ q → A q := fun q h => by rw [← hAe]; exact Or.inr h
  clear hAe
  refine x_start (fun H locs eH eL => ?_)
  replace hP : va_P (dC, dI) vwCl (cw cy o a Z X) H := by rw [eH]; exact hP
  have hS : va_S A sv.heap H locs := by rw [eH, eL]; exact va_S.rf
  clear eH eL
  obtain ⟨b0, b1, b2⟩ := hI.bd
  refine lv_aload_n hx hb dX0_row_0 rfl (lv_at hl 0 rfl) ?_
  refine lv_iload_n hx hb dX0_row_1 rfl (lv_at hl 1 rfl) ?_
  refine r_Vi (As := [.int u]) (rest := []) fx (ct_X0_isPupil l dC dI cy o a Z X u hI) fyX0_isPupil tM_RX0_103 rfl rfl ⟨Nat.le_of_ble_eq_true rfl, Nat.le_of_ble_eq_true rfl⟩ (c_pre hK hP) rfl hl.1 rfl (Nat.le_of_ble_eq_true rfl) dX0_row_2 ⟨Nat.le_of_ble_eq_true rfl, Nat.le_of_ble_eq_true rfl⟩ (fun r_2 hr_2 => ?_)
  rcases hr_2 with ⟨rfl, hr_2⟩ | ⟨rfl, hr_2⟩
  ·
    refine x_if_ne_F (tgt := 10) hx hb (by decide) dX0_row_5 (by decide) ?_
    refine lv_iconst (v := -1) hx hb dX0_row_8 (by decide) ?_
    refine W.iret (v := (-1)) hx hb hr (fun t9 ht9 hW9 => ⟨⟨_, (Z, X), rfl, ?_, cE_mk ht9 hP hK hW9 hD⟩, hS.F ht9⟩) hS.2.2 dX0_row_9
    exact ⟨by rw [fRow, if_neg hr_2], by rw [sRow, if_neg hr_2]⟩
  ·
    have i_u := hr_2
    obtain ⟨u1, -, h_u1, rfl⟩ := inR_of i_u
    have t_u : tn (nI u1) = u1 := tn_nI (by omega)
    have hpu := hI.pu h_u1
    have bs := hI.sz (p := Z 11 u1) (by omega)
    have hre := rEnd_le Z u1
    refine x_if_ne_T (tgt := 10) hx hb (by decide) dX0_row_5 (by decide) ?_
    refine lv_aload_n hx hb dX0_row_10 rfl (lv_at hl 0 rfl) ?_
    refine c_g11 hx hb hts hown hK hP dX0_row_11 ?_
    refine lv_iload_n hx hb dX0_row_14 rfl (lv_at hl 1 rfl) ?_
    refine c_l11 (j := u1) hx hb hK hP (by omega) dX0_row_15 ?_
    refine lv_istore (lv' := [(4, .int (nI (Z 11 u1))), (0, .ref o), (1, .int (nI u1)), (2, .long w)]) hx hb dX0_row_16 hl (by decide) rfl (fun ls hl => ?_)
    refine lv_bipush (v := nI 8) hx hb dX0_row_18 (by decide) ?_
    refine lv_aload_n hx hb dX0_row_20 rfl (lv_at hl 1 rfl) ?_
    refine c_g8 hx hb hts hown hK hP dX0_row_21 ?_
    refine lv_iload hx hb dX0_row_24 (lv_at hl 0 rfl) ?_
    refine c_l8 (j := Z 11 u1) hx hb hK hP (by omega) dX0_row_26 ?_
    refine va_mmin hx hb (by rw [hml]; exact hl.1.symm) hown (hts _ (ok_of tM_RX0_106 rfl)) (hts _ (ok_of tS_yJ9_min_7cf53 rfl)) (hts _ (ok_of tI_RJ9 rfl)) (hts _ (ok_of tK_yJ9_min_7cf53 rfl)) (Nat.le_of_ble_eq_true rfl) (Nat.le_of_ble_eq_true rfl) (Nat.le_of_ble_eq_true rfl) (Nat.le_of_ble_eq_true rfl) dX0_row_27 ?_
    rw [min8 (by omega)]
    refine W.eq (g2 := F0 mi 30 ls [.int (nI (rEnd Z u1))]) rfl ?_
    refine lv_istore (lv' := [(5, .int (nI (rEnd Z u1))), (4, .int (nI (Z 11 u1))), (0, .ref o), (1, .int (nI u1)), (2, .long w)]) hx hb dX0_row_30 hl (by decide) rfl (fun ls hl => ?_)
    refine lv_iconst (v := nI 0) hx hb dX0_row_32 (by decide) ?_
    refine lv_istore (lv' := [(6, .int (nI 0)), (5, .int (nI (rEnd Z u1))), (4, .int (nI (Z 11 u1))), (0, .ref o), (1, .int (nI u1)), (2, .long w)]) hx hb dX0_row_33 hl (by decide) rfl (fun ls hl => ?_)
    obtain ⟨j, ej⟩ : ∃ j : Nat, j = 0 := ⟨_, rfl⟩
    replace hl : lv_has ls 9 [(6, .int (nI j)), (5, .int (nI (rEnd Z u1))), (4, .int (nI (Z 11 u1))), (0, .ref o), (1, .int (nI u1)), (2, .long w)] := by subst ej; exact lv_sub hl [0, 1, 2, 3, 4, 5] rfl
    obtain ⟨Z1, eZ1⟩ : ∃ Z1 : Nat → Nat → Nat, Z1 = Z := ⟨_, rfl⟩
    rw [← eZ1] at hP hD
    have hj : j ≤ rEnd Z u1 := by subst ej eZ1; omega
    have hZ : Z1 = sRow0 Z u1 w j := by subst ej eZ1; exact (row0_0 _ _ _).symm
    have hst : ∀ i, i < j → stopB Z u1 w i = false := by subst ej eZ1; intro i hi; omega
    clear ej eZ1
    obtain ⟨n35, hn35⟩ : ∃ n_0 : Nat, rEnd Z u1 - j < n_0 := ⟨_, Nat.lt_succ_self _⟩
    induction n35 generalizing H locs Z1 j ls with
    | zero => exact absurd hn35 (Nat.not_lt_zero _)
    | succ n35 ih35 =>
      subst hZ
      have hI1 := hI.row0 h_u1 w j (by omega) hst
      refine lv_iload hx hb dX0_row_35 (lv_at hl 0 rfl) ?_
      refine lv_iload hx hb dX0_row_37 (lv_at hl 1 rfl) ?_
      refine x_icmp_ge (x := j) (y := rEnd Z u1) (tgt := 141) hx hb (by omega) (by omega) dX0_row_39 (by decide) (fun c_39 => ?_) (fun c_39 => ?_)
      ·
        refine lv_iload hx hb dX0_row_141 (lv_at hl 1 rfl) ?_
        refine W.iret (v := (nI (rEnd Z u1))) hx hb hr (fun t9 ht9 hW9 => ⟨⟨_, (sRow0 Z u1 w j, X), rfl, ?_, cE_mk ht9 hP hK hW9 hD⟩, hS.F ht9⟩) hS.2.2 dX0_row_143
        have hj2 : j = rEnd Z u1 := by omega
        have hN : rN Z u1 w = j := first_eq hj hst (Or.inl hj2)
        exact ⟨by rw [fRow, if_pos i_u, t_u, hN, hj2], by rw [sRow, if_pos i_u, t_u, hN]⟩
      ·
        have hro := hI.row (p := Z 11 u1) (i := j) (by omega) (by omega)
        refine lv_lload_n hx hb dX0_row_42 rfl (lv_at hl 5 rfl) ?_
        refine lv_bipush (v := nI 8) hx hb dX0_row_43 (by decide) ?_
        refine lv_bipush (v := nI 7) hx hb dX0_row_45 (by decide) ?_
        refine lv_iload hx hb dX0_row_47 (lv_at hl 0 rfl) ?_
        refine x_isub hx hb (by omega) dX0_row_49 ?_
        refine x_imulc hx hb dX0_row_50 ?_
        refine lv_lushr hx hb dX0_row_51 rfl ?_
        refine lv_l2i hx hb dX0_row_52 rfl ?_
        refine lv_sipush (v := nI 255) hx hb dX0_row_53 (by decide) ?_
        refine lv_iand hx hb dX0_row_56 ?_
        rw [rb_c w (show j < 8 by omega)]
        have hrl := rb_lt w j
        refine lv_istore (lv' := [(7, .int (nI (rb w j))), (6, .int (nI j)), (5, .int (nI (rEnd Z u1))), (4, .int (nI (Z 11 u1))), (0, .ref o), (1, .int (nI u1)), (2, .long w)]) hx hb dX0_row_57 hl (by decide) rfl (fun ls hl => ?_)
        refine lv_iload hx hb dX0_row_59 (lv_at hl 0 rfl) ?_
        refine lv_sipush (v := nI 255) hx hb dX0_row_61 (by decide) ?_
        refine x_icmp_ne (x := rb w j) (y := 255) (tgt := 71) hx hb (by omega) (by omega) dX0_row_64 (by decide) (fun c_64 => ?_) (fun c_64 => ?_)
        ·
          refine lv_iconst (v := nI 0) hx hb dX0_row_71 (by decide) ?_
          refine lv_istore (lv' := [(8, .int (nI 0)), (7, .int (nI (rb w j))), (6, .int (nI j)), (5, .int (nI (rEnd Z u1))), (4, .int (nI (Z 11 u1))), (0, .ref o), (1, .int (nI u1)), (2, .long w)]) hx hb dX0_row_72 hl (by decide) rfl (fun ls hl => ?_)
          refine lv_iload hx hb dX0_row_74 (lv_at hl 1 rfl) ?_
          refine lv_sipush (v := nI 254) hx hb dX0_row_76 (by decide) ?_
          refine x_icmp_eq (x := rb w j) (y := 254) (tgt := 109) hx hb (by omega) (by omega) dX0_row_79 (by decide) (fun c_79 => ?_) (fun c_79 => ?_)
          ·
            refine lv_iload hx hb dX0_row_109 (lv_at hl 2 rfl) ?_
            refine W.iret (v := (nI j)) hx hb hr (fun t9 ht9 hW9 => ⟨⟨_, (sRow0 Z u1 w j, X), rfl, ?_, cE_mk ht9 hP hK hW9 hD⟩, hS.F ht9⟩) hS.2.2 dX0_row_111
            have hsj : stopB Z u1 w j = true := by
              unfold stopB
              first
              | (simp [c_79]; done)
              | (have h9 : ¬ rb w j ≤ topA Z (Z 10 (Z 11 u1 * 12 + j)) := fun h => hr_103 ((inR_nI (show rb w j < 2 ^ 31 by omega)).mpr ⟨Nat.zero_le _, Nat.lt_succ_of_le h⟩)
                 simp [c_64, h9]; done)
            have hN : rN Z u1 w = j := first_eq hj hst (Or.inr hsj)
            exact ⟨by rw [fRow, if_pos i_u, t_u, hN], by rw [sRow, if_pos i_u, t_u, hN]⟩
          ·
            refine lv_iload hx hb dX0_row_82 (lv_at hl 0 rfl) ?_
            refine x_if_ne_F (tgt := 112) hx hb (by decide) dX0_row_84 (by decide) ?_
            refine lv_aload_n hx hb dX0_row_87 rfl (lv_at hl 5 rfl) ?_
            refine lv_aload_n hx hb dX0_row_88 rfl (lv_at hl 5 rfl) ?_
            refine c_g10 hx hb hts hown hK hP dX0_row_89 ?_
            refine lv_iload hx hb dX0_row_92 (lv_at hl 4 rfl) ?_
            refine lv_bipush (v := nI 12) hx hb dX0_row_94 (by decide) ?_
            refine x_imul hx hb dX0_row_96 ?_
            refine lv_iload hx hb dX0_row_97 (lv_at hl 2 rfl) ?_
            refine x_iadd hx hb dX0_row_99 ?_
            refine c_l10 (j := ((Z 11 u1) * 12) + j) hx hb hK hP (by omega) dX0_row_100 ?_
            refine lv_iload hx hb dX0_row_101 (lv_at hl 1 rfl) ?_
            refine r_Vi (As := [.int (nI ((sRow0 Z u1 w j) 10 (((Z 11 u1) * 12) + j))), .int (nI (rb w j))]) (rest := []) fx (ct_X0_isAnswer l dC dI cy o a (sRow0 Z u1 w j) X ((sRow0 Z u1 w j) 10 (((Z 11 u1) * 12) + j)) ((nI (rb w j))) hI1 hro) fyX0_isAnswer tM_RX0_97 rfl rfl ⟨Nat.le_of_ble_eq_true rfl, Nat.le_of_ble_eq_true rfl⟩ (c_pre hK hP) rfl hl.1 rfl (Nat.le_of_ble_eq_true rfl) dX0_row_103 ⟨Nat.le_of_ble_eq_true rfl, Nat.le_of_ble_eq_true rfl⟩ (fun r_103 hr_103 => ?_)
            rcases hr_103 with ⟨rfl, hr_103⟩ | ⟨rfl, hr_103⟩
            ·
              refine x_if_ne_F (tgt := 112) hx hb (by decide) dX0_row_106 (by decide) ?_
              refine lv_iload hx hb dX0_row_109 (lv_at hl 2 rfl) ?_
              refine W.iret (v := (nI j)) hx hb hr (fun t9 ht9 hW9 => ⟨⟨_, (sRow0 Z u1 w j, X), rfl, ?_, cE_mk ht9 hP hK hW9 hD⟩, hS.F ht9⟩) hS.2.2 dX0_row_111
              have hsj : stopB Z u1 w j = true := by
                unfold stopB
                first
                | (simp [c_79]; done)
                | (have h9 : ¬ rb w j ≤ topA Z (Z 10 (Z 11 u1 * 12 + j)) := fun h => hr_103 ((inR_nI (show rb w j < 2 ^ 31 by omega)).mpr ⟨Nat.zero_le _, Nat.lt_succ_of_le h⟩)
                   simp [c_64, h9]; done)
              have hN : rN Z u1 w = j := first_eq hj hst (Or.inr hsj)
              exact ⟨by rw [fRow, if_pos i_u, t_u, hN], by rw [sRow, if_pos i_u, t_u, hN]⟩
            ·
              refine x_if_ne_T (tgt := 112) hx hb (by decide) dX0_row_106 (by decide) ?_
              have hsj : stopB Z u1 w j = false := by
                unfold stopB
                first
                | (simp [c_64]; done)
                | (have h8 := (inR_nI (show rb w j < 2 ^ 31 by omega)).mp hr_103
                   have h9 : rb w j ≤ topA Z (Z 10 (Z 11 u1 * 12 + j)) := Nat.le_of_lt_succ h8.2
                   simp [c_64, c_79, h9]; done)
              refine lv_aload_n hx hb dX0_row_112 rfl (lv_at hl 5 rfl) ?_
              refine c_g13 hx hb hts hown hK hP dX0_row_113 ?_
              refine lv_iload_n hx hb dX0_row_116 rfl (lv_at hl 6 rfl) ?_
              refine lv_bipush (v := nI 12) hx hb dX0_row_117 (by decide) ?_
              refine x_imul hx hb dX0_row_119 ?_
              refine lv_iload hx hb dX0_row_120 (lv_at hl 2 rfl) ?_
              refine x_iadd hx hb dX0_row_122 ?_
              refine lv_iload hx hb dX0_row_123 (lv_at hl 0 rfl) ?_
              refine x_if_eq_T (tgt := 132) hx hb (by decide) dX0_row_125 (by decide) ?_
              refine lv_iload hx hb dX0_row_132 (lv_at hl 1 rfl) ?_
              refine W.eq (g2 := F0 mi 134 ls [.int (gv ((rb w j) + 1)), .int (nI (u1 * 12 + j)), .ref (a 13)]) (by rw [gv_s]) ?_
              refine c_s13 (j := u1 * 12 + j) (v := (rb w j) + 1) hx hb hK hP hD hS (by omega) dX0_row_134 (fun H locs hP hD hS => ?_)
              refine lv_iinc (v := nI (j + 1)) (lv' := [(6, .int (nI (j + 1))), (8, .int (nI 0)), (7, .int (nI (rb w j))), (5, .int (nI (rEnd Z u1))), (4, .int (nI (Z 11 u1))), (0, .ref o), (1, .int (nI u1)), (2, .long w)]) hx hb dX0_row_135 hl (k := 2) rfl (x_inc1 _) (by decide) rfl (fun ls hl => ?_)
              refine lv_goto (tgt := 35) hx hb dX0_row_138 (by decide) ?_
              exact ih35 (H := H) (locs := locs) (ls := ls) (Z1 := (zu (sRow0 Z u1 w j) 13 (u1 * 12 + j) ((rb w j) + 1))) (j := (j + 1)) (hl := lv_sub hl [0, 3, 4, 5, 6, 7] rfl) (hP := hP) (hD := hD) (hS := hS) (hj := (by omega)) (hZ := (by rw [← row0_s, rowV]; first | rw [if_pos c_64] | rw [if_neg c_64])) (hst := (by intro i hi; rcases Nat.lt_or_ge i j with h | h; exact hst i h; rw [show i = j by omega]; exact hsj)) (hn35 := by omega)
        ·
          refine lv_iconst (v := nI 1) hx hb dX0_row_67 (by decide) ?_
          refine lv_goto (tgt := 72) hx hb dX0_row_68 (by decide) ?_
          refine lv_istore (lv' := [(8, .int (nI 1)), (7, .int (nI (rb w j))), (6, .int (nI j)), (5, .int (nI (rEnd Z u1))), (4, .int (nI (Z 11 u1))), (0, .ref o), (1, .int (nI u1)), (2, .long w)]) hx hb dX0_row_72 hl (by decide) rfl (fun ls hl => ?_)
          refine lv_iload hx hb dX0_row_74 (lv_at hl 1 rfl) ?_
          refine lv_sipush (v := nI 254) hx hb dX0_row_76 (by decide) ?_
          refine x_icmp_eq (x := rb w j) (y := 254) (tgt := 109) hx hb (by omega) (by omega) dX0_row_79 (by decide) (fun c_79 => ?_) (fun c_79 => ?_)
          ·
            refine lv_iload hx hb dX0_row_109 (lv_at hl 2 rfl) ?_
            refine W.iret (v := (nI j)) hx hb hr (fun t9 ht9 hW9 => ⟨⟨_, (sRow0 Z u1 w j, X), rfl, ?_, cE_mk ht9 hP hK hW9 hD⟩, hS.F ht9⟩) hS.2.2 dX0_row_111
            have hsj : stopB Z u1 w j = true := by
              unfold stopB
              first
              | (simp [c_79]; done)
              | (have h9 : ¬ rb w j ≤ topA Z (Z 10 (Z 11 u1 * 12 + j)) := fun h => hr_103 ((inR_nI (show rb w j < 2 ^ 31 by omega)).mpr ⟨Nat.zero_le _, Nat.lt_succ_of_le h⟩)
                 simp [c_64, h9]; done)
            have hN : rN Z u1 w = j := first_eq hj hst (Or.inr hsj)
            exact ⟨by rw [fRow, if_pos i_u, t_u, hN], by rw [sRow, if_pos i_u, t_u, hN]⟩
          ·
            refine lv_iload hx hb dX0_row_82 (lv_at hl 0 rfl) ?_
            refine x_if_ne_T (tgt := 112) hx hb (by decide) dX0_row_84 (by decide) ?_
            have hsj : stopB Z u1 w j = false := by
              unfold stopB
              first
              | (simp [c_64]; done)
              | (have h8 := (inR_nI (show rb w j < 2 ^ 31 by omega)).mp hr_103
                 have h9 : rb w j ≤ topA Z (Z 10 (Z 11 u1 * 12 + j)) := Nat.le_of_lt_succ h8.2
                 simp [c_64, c_79, h9]; done)
            refine lv_aload_n hx hb dX0_row_112 rfl (lv_at hl 5 rfl) ?_
            refine c_g13 hx hb hts hown hK hP dX0_row_113 ?_
            refine lv_iload_n hx hb dX0_row_116 rfl (lv_at hl 6 rfl) ?_
            refine lv_bipush (v := nI 12) hx hb dX0_row_117 (by decide) ?_
            refine x_imul hx hb dX0_row_119 ?_
            refine lv_iload hx hb dX0_row_120 (lv_at hl 2 rfl) ?_
            refine x_iadd hx hb dX0_row_122 ?_
            refine lv_iload hx hb dX0_row_123 (lv_at hl 0 rfl) ?_
            refine x_if_eq_F (tgt := 132) hx hb (by decide) dX0_row_125 (by decide) ?_
            refine lv_iconst (v := -1) hx hb dX0_row_128 (by decide) ?_
            refine lv_goto (tgt := 134) hx hb dX0_row_129 (by decide) ?_
            refine W.eq (g2 := F0 mi 134 ls [.int (gv 0), .int (nI (u1 * 12 + j)), .ref (a 13)]) rfl ?_
            refine c_s13 (j := u1 * 12 + j) (v := 0) hx hb hK hP hD hS (by omega) dX0_row_134 (fun H locs hP hD hS => ?_)
            refine lv_iinc (v := nI (j + 1)) (lv' := [(6, .int (nI (j + 1))), (8, .int (nI 1)), (7, .int (nI (rb w j))), (5, .int (nI (rEnd Z u1))), (4, .int (nI (Z 11 u1))), (0, .ref o), (1, .int (nI u1)), (2, .long w)]) hx hb dX0_row_135 hl (k := 2) rfl (x_inc1 _) (by decide) rfl (fun ls hl => ?_)
            refine lv_goto (tgt := 35) hx hb dX0_row_138 (by decide) ?_
            exact ih35 (H := H) (locs := locs) (ls := ls) (Z1 := (zu (sRow0 Z u1 w j) 13 (u1 * 12 + j) 0)) (j := (j + 1)) (hl := lv_sub hl [0, 3, 4, 5, 6, 7] rfl) (hP := hP) (hD := hD) (hS := hS) (hj := (by omega)) (hZ := (by rw [← row0_s, rowV]; first | rw [if_pos c_64] | rw [if_neg c_64])) (hst := (by intro i hi; rcases Nat.lt_or_ge i j with h | h; exact hst i h; rw [show i = j by omega]; exact hsj)) (hn35 := by omega)
