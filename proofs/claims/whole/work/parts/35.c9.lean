set_option maxHeartbeats 4000000 in
set_option maxRecDepth 100000 in
theorem ct_X0_scale (l : Launch) (dC : Nat → ClassId) (dI : Nat → Nat → Nat) (cy : ClassId) (o : Nat) (a : Nat → Nat) (Z X : Nat → Nat → Nat) (sz : Nat) (p : Int32) (q : Int32) (t : Int32) (w : Int32) (hI : Inv Z) : Met l yX0_scale (wS yX0_scale cX0_scale 21 (Option.some Jvm.ClassFile.FieldType.long)) (rmF 6 139) (va_Pc [.ref o, .int p, .int q, .int t, .int w] (cS dC dI cy o a Z X sz)) (va_Ql (fun r (u : ST × ST) => r = fScl Z p q t w ∧ u.1 = Z) (cE dC dI cy o a (cA cy o a Z X sz)) (cA cy o a Z X sz)) 0 0 (cA cy o a Z X sz) := by
  refine Met.ofW (cc := cX0_scale) (maxL := 21) (ret := (Option.some Jvm.ClassFile.FieldType.long)) (by decide) rfl ?_
  intro pg en sv mi ag bw mt cd s₁ BL hml hv
  obtain ⟨rfl, hsz, hP, hK, hD0⟩ := hv
  have hx := BL.exec
  have hb := BL.bytes
  have hr := BL.returns
  have hts : ∀ w ∈ lw_ok, w.before _ sv = true := fun w hw => atoms_spec (ws := wS yX0_scale cX0_scale 21 (Option.some Jvm.ClassFile.FieldType.long)) BL.pre w (List.mem_cons_of_mem _ hw)
  have hown : sv.vm.findClass RX0 = some mi.cls := findClass_of_methodNamed BL.named
  have hlocks := BL.notSynchronized
  have fx : CallFix pg mi cd cX0_scale 21 sv _ lw_ok RX0 := ⟨hx, hb, hml, hown, hts⟩
  have hl := lv_entry ([.ref o, .int p, .int q, .int t, .int w]) (n := 21) (Nat.le_of_ble_eq_true rfl)
  rw [lg_entry_eq]
  generalize (lg_sl ([.ref o, .int p, .int q, .int t, .int w]) ++ List.replicate (21 - (lg_sl ([.ref o, .int p, .int q, .int t, .int w])).length) Slot.unset).toArray = ls at hl ⊢
  replace hl : lv_has ls 21 [(0, .ref o), (1, .int p), (2, .int q), (3, .int t), (4, .int w)] := hl
  subst hsz
  have hD : va_D (cA cy o a Z X sv.heap.size) (cw cy o a Z X) := hD0.self (sz := sv.heap.size)
  clear hD0
  generalize hAe : cA cy o a Z X sv.heap.size = A at hD ⊢
  have hA : ∀ q : Nat, sv.heap.size ≤ q → A q := fun q h => by rw [← hAe]; exact Or.inr h
  clear hAe
  refine x_start (fun H locs eH eL => ?_)
  replace hP : va_P (dC, dI) vwCl (cw cy o a Z X) H := by rw [eH]; exact hP
  have hS : va_S A sv.heap H locs := by rw [eH, eL]; exact va_S.rf
  clear eH eL
  obtain ⟨b0, b1, b2⟩ := hI.bd
  have hcs := cset_lt hI
  refine lv_aload_n hx hb dX0_scale_0 rfl (lv_at hl 0 rfl) ?_
  refine lv_iload_n hx hb dX0_scale_1 rfl (lv_at hl 1 rfl) ?_
  refine r_Vi (As := [.int p]) (rest := []) fx (ct_X0_isPaper l dC dI cy o a Z X p hI) fyX0_isPaper tM_RX0_81 rfl rfl ⟨Nat.le_of_ble_eq_true rfl, Nat.le_of_ble_eq_true rfl⟩ (c_pre hK hP) rfl hl.1 rfl (Nat.le_of_ble_eq_true rfl) dX0_scale_2 ⟨Nat.le_of_ble_eq_true rfl, Nat.le_of_ble_eq_true rfl⟩ (fun r_2 hr_2 => ?_)
  rcases hr_2 with ⟨rfl, hr_2⟩ | ⟨rfl, hr_2⟩
  ·
    refine x_if_eq_T (tgt := 36) hx hb (by decide) dX0_scale_5 (by decide) ?_
    refine lv_ldc2 (v := -9223372036854775808) hx hb hown (hts _ (ok_of tJ_RX0_127 rfl)) dX0_scale_36 ?_
    refine W.lret (v := ((-9223372036854775808))) hx hb hr (fun t9 ht9 hW9 => ⟨⟨_, (Z, X), rfl, ?_, cE_mk ht9 hP hK hW9 hD⟩, hS.F ht9⟩) hS.2.2 dX0_scale_39
    first
    | (refine ⟨?_, rfl⟩; rw [fScl, if_neg (fun h => hr_2 h.1)]; done)
    | (refine ⟨?_, rfl⟩; rw [fScl, if_neg (fun h => hr_10 h.2.1)]; done)
    | (refine ⟨?_, rfl⟩; rw [fScl, if_neg (fun h => h.2.2.1 (by rw [t_p, t_q]; exact c_18))]; done)
    | (refine ⟨?_, rfl⟩; rw [fScl, if_neg (fun h => hr_22 h.2.2.2.1)]; done)
    | (refine ⟨?_, rfl⟩; rw [fScl, if_neg (fun h => hr_30 h.2.2.2.2)]; done)
  ·
    have i_p := hr_2
    obtain ⟨p1, -, h_p1, rfl⟩ := inR_of i_p
    have t_p : tn (nI p1) = p1 := tn_nI (by omega)
    refine x_if_eq_F (tgt := 36) hx hb (by decide) dX0_scale_5 (by decide) ?_
    refine lv_aload_n hx hb dX0_scale_8 rfl (lv_at hl 0 rfl) ?_
    refine lv_iload_n hx hb dX0_scale_9 rfl (lv_at hl 2 rfl) ?_
    refine r_Vi (As := [.int q]) (rest := []) fx (ct_X0_isPaper l dC dI cy o a Z X q hI) fyX0_isPaper tM_RX0_81 rfl rfl ⟨Nat.le_of_ble_eq_true rfl, Nat.le_of_ble_eq_true rfl⟩ (c_pre hK hP) rfl hl.1 rfl (Nat.le_of_ble_eq_true rfl) dX0_scale_10 ⟨Nat.le_of_ble_eq_true rfl, Nat.le_of_ble_eq_true rfl⟩ (fun r_10 hr_10 => ?_)
    rcases hr_10 with ⟨rfl, hr_10⟩ | ⟨rfl, hr_10⟩
    ·
      refine x_if_eq_T (tgt := 36) hx hb (by decide) dX0_scale_13 (by decide) ?_
      refine lv_ldc2 (v := -9223372036854775808) hx hb hown (hts _ (ok_of tJ_RX0_127 rfl)) dX0_scale_36 ?_
      refine W.lret (v := ((-9223372036854775808))) hx hb hr (fun t9 ht9 hW9 => ⟨⟨_, (Z, X), rfl, ?_, cE_mk ht9 hP hK hW9 hD⟩, hS.F ht9⟩) hS.2.2 dX0_scale_39
      first
      | (refine ⟨?_, rfl⟩; rw [fScl, if_neg (fun h => hr_2 h.1)]; done)
      | (refine ⟨?_, rfl⟩; rw [fScl, if_neg (fun h => hr_10 h.2.1)]; done)
      | (refine ⟨?_, rfl⟩; rw [fScl, if_neg (fun h => h.2.2.1 (by rw [t_p, t_q]; exact c_18))]; done)
      | (refine ⟨?_, rfl⟩; rw [fScl, if_neg (fun h => hr_22 h.2.2.2.1)]; done)
      | (refine ⟨?_, rfl⟩; rw [fScl, if_neg (fun h => hr_30 h.2.2.2.2)]; done)
    ·
      have i_q := hr_10
      obtain ⟨q1, -, h_q1, rfl⟩ := inR_of i_q
      have t_q : tn (nI q1) = q1 := tn_nI (by omega)
      refine x_if_eq_F (tgt := 36) hx hb (by decide) dX0_scale_13 (by decide) ?_
      refine lv_iload_n hx hb dX0_scale_16 rfl (lv_at hl 1 rfl) ?_
      refine lv_iload_n hx hb dX0_scale_17 rfl (lv_at hl 2 rfl) ?_
      refine x_icmp_eq (x := p1) (y := q1) (tgt := 36) hx hb (by omega) (by omega) dX0_scale_18 (by decide) (fun c_18 => ?_) (fun c_18 => ?_)
      ·
        refine lv_ldc2 (v := -9223372036854775808) hx hb hown (hts _ (ok_of tJ_RX0_127 rfl)) dX0_scale_36 ?_
        refine W.lret (v := ((-9223372036854775808))) hx hb hr (fun t9 ht9 hW9 => ⟨⟨_, (Z, X), rfl, ?_, cE_mk ht9 hP hK hW9 hD⟩, hS.F ht9⟩) hS.2.2 dX0_scale_39
        first
        | (refine ⟨?_, rfl⟩; rw [fScl, if_neg (fun h => hr_2 h.1)]; done)
        | (refine ⟨?_, rfl⟩; rw [fScl, if_neg (fun h => hr_10 h.2.1)]; done)
        | (refine ⟨?_, rfl⟩; rw [fScl, if_neg (fun h => h.2.2.1 (by rw [t_p, t_q]; exact c_18))]; done)
        | (refine ⟨?_, rfl⟩; rw [fScl, if_neg (fun h => hr_22 h.2.2.2.1)]; done)
        | (refine ⟨?_, rfl⟩; rw [fScl, if_neg (fun h => hr_30 h.2.2.2.2)]; done)
      ·
        refine lv_iload_n hx hb dX0_scale_21 rfl (lv_at hl 3 rfl) ?_
        refine r_Si (As := [.int t]) (rest := []) fx (ct_X0_isTotal l t) fyX0_isTotal tM_RX0_165 rfl rfl ⟨Nat.le_of_ble_eq_true rfl, Nat.le_of_ble_eq_true rfl⟩ rfl hl.1 rfl (Nat.le_of_ble_eq_true rfl) dX0_scale_22 ⟨Nat.le_of_ble_eq_true rfl, Nat.le_of_ble_eq_true rfl⟩ (fun r_22 hr_22 => ?_)
        rcases hr_22 with ⟨rfl, hr_22⟩ | ⟨rfl, hr_22⟩
        ·
          refine x_if_eq_T (tgt := 36) hx hb (by decide) dX0_scale_25 (by decide) ?_
          refine lv_ldc2 (v := -9223372036854775808) hx hb hown (hts _ (ok_of tJ_RX0_127 rfl)) dX0_scale_36 ?_
          refine W.lret (v := ((-9223372036854775808))) hx hb hr (fun t9 ht9 hW9 => ⟨⟨_, (Z, X), rfl, ?_, cE_mk ht9 hP hK hW9 hD⟩, hS.F ht9⟩) hS.2.2 dX0_scale_39
          first
          | (refine ⟨?_, rfl⟩; rw [fScl, if_neg (fun h => hr_2 h.1)]; done)
          | (refine ⟨?_, rfl⟩; rw [fScl, if_neg (fun h => hr_10 h.2.1)]; done)
          | (refine ⟨?_, rfl⟩; rw [fScl, if_neg (fun h => h.2.2.1 (by rw [t_p, t_q]; exact c_18))]; done)
          | (refine ⟨?_, rfl⟩; rw [fScl, if_neg (fun h => hr_22 h.2.2.2.1)]; done)
          | (refine ⟨?_, rfl⟩; rw [fScl, if_neg (fun h => hr_30 h.2.2.2.2)]; done)
        ·
          have i_t := hr_22
          obtain ⟨t1, -, h_t1, rfl⟩ := inR_of i_t
          have t_t : tn (nI t1) = t1 := tn_nI (by omega)
          refine x_if_eq_F (tgt := 36) hx hb (by decide) dX0_scale_25 (by decide) ?_
          refine lv_iload hx hb dX0_scale_28 (lv_at hl 4 rfl) ?_
          refine r_Si (As := [.int w]) (rest := []) fx (ct_X0_isPart l w) fyX0_isPart tM_RX0_124 rfl rfl ⟨Nat.le_of_ble_eq_true rfl, Nat.le_of_ble_eq_true rfl⟩ rfl hl.1 rfl (Nat.le_of_ble_eq_true rfl) dX0_scale_30 ⟨Nat.le_of_ble_eq_true rfl, Nat.le_of_ble_eq_true rfl⟩ (fun r_30 hr_30 => ?_)
          rcases hr_30 with ⟨rfl, hr_30⟩ | ⟨rfl, hr_30⟩
          ·
            refine x_if_ne_F (tgt := 40) hx hb (by decide) dX0_scale_33 (by decide) ?_
            refine lv_ldc2 (v := -9223372036854775808) hx hb hown (hts _ (ok_of tJ_RX0_127 rfl)) dX0_scale_36 ?_
            refine W.lret (v := ((-9223372036854775808))) hx hb hr (fun t9 ht9 hW9 => ⟨⟨_, (Z, X), rfl, ?_, cE_mk ht9 hP hK hW9 hD⟩, hS.F ht9⟩) hS.2.2 dX0_scale_39
            first
            | (refine ⟨?_, rfl⟩; rw [fScl, if_neg (fun h => hr_2 h.1)]; done)
            | (refine ⟨?_, rfl⟩; rw [fScl, if_neg (fun h => hr_10 h.2.1)]; done)
            | (refine ⟨?_, rfl⟩; rw [fScl, if_neg (fun h => h.2.2.1 (by rw [t_p, t_q]; exact c_18))]; done)
            | (refine ⟨?_, rfl⟩; rw [fScl, if_neg (fun h => hr_22 h.2.2.2.1)]; done)
            | (refine ⟨?_, rfl⟩; rw [fScl, if_neg (fun h => hr_30 h.2.2.2.2)]; done)
          ·
            have i_w := hr_30
            refine x_if_ne_T (tgt := 40) hx hb (by decide) dX0_scale_33 (by decide) ?_
            refine lv_aload_n hx hb dX0_scale_40 rfl (lv_at hl 0 rfl) ?_
            refine lv_iload_n hx hb dX0_scale_41 rfl (lv_at hl 1 rfl) ?_
            refine lv_iload_n hx hb dX0_scale_42 rfl (lv_at hl 1 rfl) ?_
            refine lv_iconst (v := nI 0) hx hb dX0_scale_43 (by decide) ?_
            refine c_Ml (As := [.int (nI p1), .int (nI p1), .int (nI 0)]) (rest := []) fx (ct_X0_group l dC dI cy o a Z X _ ((nI p1)) ((nI p1)) ((nI 0)) hI) fyX0_group tM_RX0_168 rfl rfl ⟨Nat.le_of_ble_eq_true rfl, Nat.le_of_ble_eq_true rfl⟩ hK hP hD hS hA rfl hl.1 rfl (Nat.le_of_ble_eq_true rfl) dX0_scale_44 ⟨Nat.le_of_ble_eq_true rfl, Nat.le_of_ble_eq_true rfl⟩ (fun r_44 Z_44 X_44 H locs hw_44 hP hD hS => ?_)
            try dsimp only at hw_44
            obtain ⟨rfl, ez_44⟩ := hw_44
            rw [ez_44] at hP hD
            rw [grp0 (by omega) (by omega) (by omega)]
            refine lv_lstore (lv' := [(5, .long (lN (gN Z p1))), (0, .ref o), (1, .int (nI p1)), (2, .int (nI q1)), (3, .int (nI t1)), (4, .int w)]) hx hb dX0_scale_47 hl (by decide) rfl (fun ls hl => ?_)
            refine lv_aload_n hx hb dX0_scale_49 rfl (lv_at hl 1 rfl) ?_
            refine lv_iload_n hx hb dX0_scale_50 rfl (lv_at hl 2 rfl) ?_
            refine lv_iload_n hx hb dX0_scale_51 rfl (lv_at hl 2 rfl) ?_
            refine lv_iconst (v := nI 2) hx hb dX0_scale_52 (by decide) ?_
            refine c_Ml (As := [.int (nI p1), .int (nI p1), .int (nI 2)]) (rest := []) fx (ct_X0_group l dC dI cy o a Z X_44 _ ((nI p1)) ((nI p1)) ((nI 2)) hI) fyX0_group tM_RX0_168 rfl rfl ⟨Nat.le_of_ble_eq_true rfl, Nat.le_of_ble_eq_true rfl⟩ hK hP hD hS hA rfl hl.1 rfl (Nat.le_of_ble_eq_true rfl) dX0_scale_53 ⟨Nat.le_of_ble_eq_true rfl, Nat.le_of_ble_eq_true rfl⟩ (fun r_53 Z_53 X_53 H locs hw_53 hP hD hS => ?_)
            try dsimp only at hw_53
            obtain ⟨rfl, ez_53⟩ := hw_53
            rw [ez_53] at hP hD
            rw [grp2 (by omega) (by omega) (by omega)]
            refine lv_lstore (lv' := [(7, .long (lN (gA Z p1 p1))), (5, .long (lN (gN Z p1))), (0, .ref o), (1, .int (nI p1)), (2, .int (nI q1)), (3, .int (nI t1)), (4, .int w)]) hx hb dX0_scale_56 hl (by decide) rfl (fun ls hl => ?_)
            refine lv_aload_n hx hb dX0_scale_58 rfl (lv_at hl 2 rfl) ?_
            refine lv_iload_n hx hb dX0_scale_59 rfl (lv_at hl 4 rfl) ?_
            refine lv_iload_n hx hb dX0_scale_60 rfl (lv_at hl 4 rfl) ?_
            refine lv_iconst (v := nI 0) hx hb dX0_scale_61 (by decide) ?_
            refine c_Ml (As := [.int (nI q1), .int (nI q1), .int (nI 0)]) (rest := []) fx (ct_X0_group l dC dI cy o a Z X_53 _ ((nI q1)) ((nI q1)) ((nI 0)) hI) fyX0_group tM_RX0_168 rfl rfl ⟨Nat.le_of_ble_eq_true rfl, Nat.le_of_ble_eq_true rfl⟩ hK hP hD hS hA rfl hl.1 rfl (Nat.le_of_ble_eq_true rfl) dX0_scale_62 ⟨Nat.le_of_ble_eq_true rfl, Nat.le_of_ble_eq_true rfl⟩ (fun r_62 Z_62 X_62 H locs hw_62 hP hD hS => ?_)
            try dsimp only at hw_62
            obtain ⟨rfl, ez_62⟩ := hw_62
            rw [ez_62] at hP hD
            rw [grp0 (by omega) (by omega) (by omega)]
            refine lv_lstore (lv' := [(9, .long (lN (gN Z q1))), (7, .long (lN (gA Z p1 p1))), (5, .long (lN (gN Z p1))), (0, .ref o), (1, .int (nI p1)), (2, .int (nI q1)), (3, .int (nI t1)), (4, .int w)]) hx hb dX0_scale_65 hl (by decide) rfl (fun ls hl => ?_)
            refine lv_aload_n hx hb dX0_scale_67 rfl (lv_at hl 3 rfl) ?_
            refine lv_iload_n hx hb dX0_scale_68 rfl (lv_at hl 5 rfl) ?_
            refine lv_iload_n hx hb dX0_scale_69 rfl (lv_at hl 4 rfl) ?_
            refine lv_iconst (v := nI 2) hx hb dX0_scale_70 (by decide) ?_
            refine c_Ml (As := [.int (nI q1), .int (nI p1), .int (nI 2)]) (rest := []) fx (ct_X0_group l dC dI cy o a Z X_62 _ ((nI q1)) ((nI p1)) ((nI 2)) hI) fyX0_group tM_RX0_168 rfl rfl ⟨Nat.le_of_ble_eq_true rfl, Nat.le_of_ble_eq_true rfl⟩ hK hP hD hS hA rfl hl.1 rfl (Nat.le_of_ble_eq_true rfl) dX0_scale_71 ⟨Nat.le_of_ble_eq_true rfl, Nat.le_of_ble_eq_true rfl⟩ (fun r_71 Z_71 X_71 H locs hw_71 hP hD hS => ?_)
            try dsimp only at hw_71
            obtain ⟨rfl, ez_71⟩ := hw_71
            rw [ez_71] at hP hD
            rw [grp2 (by omega) (by omega) (by omega)]
            refine lv_lstore (lv' := [(11, .long (lN (gA Z q1 p1))), (9, .long (lN (gN Z q1))), (7, .long (lN (gA Z p1 p1))), (5, .long (lN (gN Z p1))), (0, .ref o), (1, .int (nI p1)), (2, .int (nI q1)), (3, .int (nI t1)), (4, .int w)]) hx hb dX0_scale_74 hl (by decide) rfl (fun ls hl => ?_)
            refine lv_lload hx hb dX0_scale_76 (lv_at hl 3 rfl) ?_
            refine lv_lconst (v := lN 0) hx hb dX0_scale_78 (by decide) ?_
            refine x_leq (x := (lN (gN Z p1))) (y := (lN 0)) (tgt := 113) hx hb dX0_scale_79 dX0_scale_80 (by decide) (fun c_79 => ?_) (fun c_79 => ?_)
            ·
              have z_79 : gN Z p1 = 0 := (pk_lEQ (by have := gN_le hI p1; have := gN_le hI q1; have := gA_le hI p1 p1; have := gA_le hI q1 p1; omega) (by decide)).mp c_79
              refine lv_ldc2 (v := -9223372036854775808) hx hb hown (hts _ (ok_of tJ_RX0_127 rfl)) dX0_scale_113 ?_
              refine W.lret (v := ((-9223372036854775808))) hx hb hr (fun t9 ht9 hW9 => ⟨⟨_, (Z, X_71), rfl, ?_, cE_mk ht9 hP hK hW9 hD⟩, hS.F ht9⟩) hS.2.2 dX0_scale_116
              first
              | (refine ⟨?_, rfl⟩; rw [fScl, if_pos ⟨i_p, i_q, by rw [t_p, t_q]; exact c_18, i_t, i_w⟩, t_p, t_q, if_neg (fun h => h.1 z_79)]; done)
              | (refine ⟨?_, rfl⟩; rw [fScl, if_pos ⟨i_p, i_q, by rw [t_p, t_q]; exact c_18, i_t, i_w⟩, t_p, t_q, if_neg (fun h => h.2.1 z_86)]; done)
              | (refine ⟨?_, rfl⟩; rw [fScl, if_pos ⟨i_p, i_q, by rw [t_p, t_q]; exact c_18, i_t, i_w⟩, t_p, t_q, if_neg (fun h => h.2.2.1 z_96)]; done)
              | (refine ⟨?_, rfl⟩; rw [fScl, if_pos ⟨i_p, i_q, by rw [t_p, t_q]; exact c_18, i_t, i_w⟩, t_p, t_q, if_neg (fun h => h.2.2.2.1 z_102)]; done)
              | (refine ⟨?_, rfl⟩; rw [fScl, if_pos ⟨i_p, i_q, by rw [t_p, t_q]; exact c_18, i_t, i_w⟩, t_p, t_q, if_neg (fun h => h.2.2.2.2 z_109)]; done)
            ·
              have z_79 : ¬ gN Z p1 = 0 := fun h => c_79 (by rw [h])
              refine lv_lload hx hb dX0_scale_83 (lv_at hl 1 rfl) ?_
              refine lv_lconst (v := lN 0) hx hb dX0_scale_85 (by decide) ?_
              refine x_leq (x := (lN (gN Z q1))) (y := (lN 0)) (tgt := 113) hx hb dX0_scale_86 dX0_scale_87 (by decide) (fun c_86 => ?_) (fun c_86 => ?_)
              ·
                have z_86 : gN Z q1 = 0 := (pk_lEQ (by have := gN_le hI p1; have := gN_le hI q1; have := gA_le hI p1 p1; have := gA_le hI q1 p1; omega) (by decide)).mp c_86
                refine lv_ldc2 (v := -9223372036854775808) hx hb hown (hts _ (ok_of tJ_RX0_127 rfl)) dX0_scale_113 ?_
                refine W.lret (v := ((-9223372036854775808))) hx hb hr (fun t9 ht9 hW9 => ⟨⟨_, (Z, X_71), rfl, ?_, cE_mk ht9 hP hK hW9 hD⟩, hS.F ht9⟩) hS.2.2 dX0_scale_116
                first
                | (refine ⟨?_, rfl⟩; rw [fScl, if_pos ⟨i_p, i_q, by rw [t_p, t_q]; exact c_18, i_t, i_w⟩, t_p, t_q, if_neg (fun h => h.1 z_79)]; done)
                | (refine ⟨?_, rfl⟩; rw [fScl, if_pos ⟨i_p, i_q, by rw [t_p, t_q]; exact c_18, i_t, i_w⟩, t_p, t_q, if_neg (fun h => h.2.1 z_86)]; done)
                | (refine ⟨?_, rfl⟩; rw [fScl, if_pos ⟨i_p, i_q, by rw [t_p, t_q]; exact c_18, i_t, i_w⟩, t_p, t_q, if_neg (fun h => h.2.2.1 z_96)]; done)
                | (refine ⟨?_, rfl⟩; rw [fScl, if_pos ⟨i_p, i_q, by rw [t_p, t_q]; exact c_18, i_t, i_w⟩, t_p, t_q, if_neg (fun h => h.2.2.2.1 z_102)]; done)
                | (refine ⟨?_, rfl⟩; rw [fScl, if_pos ⟨i_p, i_q, by rw [t_p, t_q]; exact c_18, i_t, i_w⟩, t_p, t_q, if_neg (fun h => h.2.2.2.2 z_109)]; done)
              ·
                have z_86 : ¬ gN Z q1 = 0 := fun h => c_86 (by rw [h])
                refine lv_aload_n hx hb dX0_scale_90 rfl (lv_at hl 4 rfl) ?_
                refine lv_iload_n hx hb dX0_scale_91 rfl (lv_at hl 5 rfl) ?_
                refine lv_iload_n hx hb dX0_scale_92 rfl (lv_at hl 6 rfl) ?_
                refine r_Vi (As := [.int (nI p1), .int (nI q1)]) (rest := []) fx (ct_X0_sharedSet l dC dI cy o a Z X_71 p1 q1 (by first | assumption | omega) (by first | assumption | omega)) fyX0_sharedSet tM_RX0_146 rfl rfl ⟨Nat.le_of_ble_eq_true rfl, Nat.le_of_ble_eq_true rfl⟩ (c_pre hK hP) rfl hl.1 rfl (Nat.le_of_ble_eq_true rfl) dX0_scale_93 ⟨Nat.le_of_ble_eq_true rfl, Nat.le_of_ble_eq_true rfl⟩ (fun r_93 hr_93 => ?_)
                subst hr_93
                refine x_ifn_eq (x := Z 9 p1 &&& Z 9 q1 &&& cset Z) (tgt := 113) hx hb (by have := shs_lt hI (show p1 < 8 by omega) q1; omega) dX0_scale_96 (by decide) (fun c_96 => ?_) (fun c_96 => ?_)
                ·
                  have z_96 : shM Z p1 q1 = 0 := (sh_0 hI (by omega) (by omega)).mp c_96
                  refine lv_ldc2 (v := -9223372036854775808) hx hb hown (hts _ (ok_of tJ_RX0_127 rfl)) dX0_scale_113 ?_
                  refine W.lret (v := ((-9223372036854775808))) hx hb hr (fun t9 ht9 hW9 => ⟨⟨_, (Z, X_71), rfl, ?_, cE_mk ht9 hP hK hW9 hD⟩, hS.F ht9⟩) hS.2.2 dX0_scale_116
                  first
                  | (refine ⟨?_, rfl⟩; rw [fScl, if_pos ⟨i_p, i_q, by rw [t_p, t_q]; exact c_18, i_t, i_w⟩, t_p, t_q, if_neg (fun h => h.1 z_79)]; done)
                  | (refine ⟨?_, rfl⟩; rw [fScl, if_pos ⟨i_p, i_q, by rw [t_p, t_q]; exact c_18, i_t, i_w⟩, t_p, t_q, if_neg (fun h => h.2.1 z_86)]; done)
                  | (refine ⟨?_, rfl⟩; rw [fScl, if_pos ⟨i_p, i_q, by rw [t_p, t_q]; exact c_18, i_t, i_w⟩, t_p, t_q, if_neg (fun h => h.2.2.1 z_96)]; done)
                  | (refine ⟨?_, rfl⟩; rw [fScl, if_pos ⟨i_p, i_q, by rw [t_p, t_q]; exact c_18, i_t, i_w⟩, t_p, t_q, if_neg (fun h => h.2.2.2.1 z_102)]; done)
                  | (refine ⟨?_, rfl⟩; rw [fScl, if_pos ⟨i_p, i_q, by rw [t_p, t_q]; exact c_18, i_t, i_w⟩, t_p, t_q, if_neg (fun h => h.2.2.2.2 z_109)]; done)
                ·
                  have z_96 : ¬ shM Z p1 q1 = 0 := fun h => c_96 ((sh_0 hI (by omega) (by omega)).mpr h)
                  refine lv_lload hx hb dX0_scale_99 (lv_at hl 2 rfl) ?_
                  refine lv_lconst (v := lN 0) hx hb dX0_scale_101 (by decide) ?_
                  refine x_leq (x := (lN (gA Z p1 p1))) (y := (lN 0)) (tgt := 113) hx hb dX0_scale_102 dX0_scale_103 (by decide) (fun c_102 => ?_) (fun c_102 => ?_)
                  ·
                    have z_102 : gA Z p1 p1 = 0 := (pk_lEQ (by have := gN_le hI p1; have := gN_le hI q1; have := gA_le hI p1 p1; have := gA_le hI q1 p1; omega) (by decide)).mp c_102
                    refine lv_ldc2 (v := -9223372036854775808) hx hb hown (hts _ (ok_of tJ_RX0_127 rfl)) dX0_scale_113 ?_
                    refine W.lret (v := ((-9223372036854775808))) hx hb hr (fun t9 ht9 hW9 => ⟨⟨_, (Z, X_71), rfl, ?_, cE_mk ht9 hP hK hW9 hD⟩, hS.F ht9⟩) hS.2.2 dX0_scale_116
                    first
                    | (refine ⟨?_, rfl⟩; rw [fScl, if_pos ⟨i_p, i_q, by rw [t_p, t_q]; exact c_18, i_t, i_w⟩, t_p, t_q, if_neg (fun h => h.1 z_79)]; done)
                    | (refine ⟨?_, rfl⟩; rw [fScl, if_pos ⟨i_p, i_q, by rw [t_p, t_q]; exact c_18, i_t, i_w⟩, t_p, t_q, if_neg (fun h => h.2.1 z_86)]; done)
                    | (refine ⟨?_, rfl⟩; rw [fScl, if_pos ⟨i_p, i_q, by rw [t_p, t_q]; exact c_18, i_t, i_w⟩, t_p, t_q, if_neg (fun h => h.2.2.1 z_96)]; done)
                    | (refine ⟨?_, rfl⟩; rw [fScl, if_pos ⟨i_p, i_q, by rw [t_p, t_q]; exact c_18, i_t, i_w⟩, t_p, t_q, if_neg (fun h => h.2.2.2.1 z_102)]; done)
                    | (refine ⟨?_, rfl⟩; rw [fScl, if_pos ⟨i_p, i_q, by rw [t_p, t_q]; exact c_18, i_t, i_w⟩, t_p, t_q, if_neg (fun h => h.2.2.2.2 z_109)]; done)
                  ·
                    have z_102 : ¬ gA Z p1 p1 = 0 := fun h => c_102 (by rw [h])
                    refine lv_lload hx hb dX0_scale_106 (lv_at hl 0 rfl) ?_
                    refine lv_lconst (v := lN 0) hx hb dX0_scale_108 (by decide) ?_
                    refine x_lne (x := (lN (gA Z q1 p1))) (y := (lN 0)) (tgt := 117) hx hb dX0_scale_109 dX0_scale_110 (by decide) (fun c_109 => ?_) (fun c_109 => ?_)
                    ·
                      have z_109 : ¬ gA Z q1 p1 = 0 := fun h => c_109 (by rw [h])
                      refine lv_lload hx hb dX0_scale_117 (lv_at hl 3 rfl) ?_
                      refine lv_lload hx hb dX0_scale_119 (lv_at hl 2 rfl) ?_
                      refine x_lmul hx hb dX0_scale_121 ?_
                      refine lv_lstore (lv' := [(13, .long (lN ((gN Z p1) * (gA Z p1 p1)))), (11, .long (lN (gA Z q1 p1))), (9, .long (lN (gN Z q1))), (7, .long (lN (gA Z p1 p1))), (5, .long (lN (gN Z p1))), (0, .ref o), (1, .int (nI p1)), (2, .int (nI q1)), (3, .int (nI t1)), (4, .int w)]) hx hb dX0_scale_122 hl (by decide) rfl (fun ls hl => ?_)
                      refine lv_aload_n hx hb dX0_scale_124 rfl (lv_at hl 5 rfl) ?_
                      refine lv_iload_n hx hb dX0_scale_125 rfl (lv_at hl 6 rfl) ?_
                      refine lv_iload_n hx hb dX0_scale_126 rfl (lv_at hl 7 rfl) ?_
                      refine lv_iconst (v := nI 1) hx hb dX0_scale_127 (by decide) ?_
                      refine c_Ml (As := [.int (nI p1), .int (nI q1), .int (nI 1)]) (rest := []) fx (ct_X0_group l dC dI cy o a Z X_71 _ ((nI p1)) ((nI q1)) ((nI 1)) hI) fyX0_group tM_RX0_168 rfl rfl ⟨Nat.le_of_ble_eq_true rfl, Nat.le_of_ble_eq_true rfl⟩ hK hP hD hS hA rfl hl.1 rfl (Nat.le_of_ble_eq_true rfl) dX0_scale_128 ⟨Nat.le_of_ble_eq_true rfl, Nat.le_of_ble_eq_true rfl⟩ (fun r_128 Z_128 X_128 H locs hw_128 hP hD hS => ?_)
                      try dsimp only at hw_128
                      obtain ⟨rfl, ez_128⟩ := hw_128
                      rw [ez_128] at hP hD
                      rw [grp1 (by omega) (by omega) (by omega)]
                      refine lv_lload hx hb dX0_scale_131 (lv_at hl 3 rfl) ?_
                      refine x_lmul hx hb dX0_scale_133 ?_
                      refine lv_iload_n hx hb dX0_scale_134 rfl (lv_at hl 8 rfl) ?_
                      refine lv_i2l (v := lN t1) hx hb dX0_scale_135 (nI_l (by omega)) ?_
                      refine lv_lload hx hb dX0_scale_136 (lv_at hl 4 rfl) ?_
                      refine x_lmul hx hb dX0_scale_138 ?_
                      refine lv_aload_n hx hb dX0_scale_139 rfl (lv_at hl 5 rfl) ?_
                      refine lv_iload_n hx hb dX0_scale_140 rfl (lv_at hl 6 rfl) ?_
                      refine lv_iload_n hx hb dX0_scale_141 rfl (lv_at hl 6 rfl) ?_
                      refine lv_iconst (v := nI 1) hx hb dX0_scale_142 (by decide) ?_
                      refine c_Ml (As := [.int (nI p1), .int (nI p1), .int (nI 1)]) (rest := [.long (lN (t1 * (gN Z p1))), .long (lN ((gS Z p1 q1) * (gA Z p1 p1)))]) fx (ct_X0_group l dC dI cy o a Z X_128 _ ((nI p1)) ((nI p1)) ((nI 1)) hI) fyX0_group tM_RX0_168 rfl rfl ⟨Nat.le_of_ble_eq_true rfl, Nat.le_of_ble_eq_true rfl⟩ hK hP hD hS hA rfl hl.1 rfl (Nat.le_of_ble_eq_true rfl) dX0_scale_143 ⟨Nat.le_of_ble_eq_true rfl, Nat.le_of_ble_eq_true rfl⟩ (fun r_143 Z_143 X_143 H locs hw_143 hP hD hS => ?_)
                      try dsimp only at hw_143
                      obtain ⟨rfl, ez_143⟩ := hw_143
                      rw [ez_143] at hP hD
                      rw [grp1 (by omega) (by omega) (by omega)]
                      refine lv_lsub hx hb dX0_scale_146 ?_
                      refine lv_aload_n hx hb dX0_scale_147 rfl (lv_at hl 5 rfl) ?_
                      refine lv_iload_n hx hb dX0_scale_148 rfl (lv_at hl 6 rfl) ?_
                      refine lv_iload_n hx hb dX0_scale_149 rfl (lv_at hl 7 rfl) ?_
                      refine lv_iconst (v := nI 2) hx hb dX0_scale_150 (by decide) ?_
                      refine c_Ml (As := [.int (nI p1), .int (nI q1), .int (nI 2)]) (rest := [.long ((lN (t1 * (gN Z p1))) - (lN (gS Z p1 p1))), .long (lN ((gS Z p1 q1) * (gA Z p1 p1)))]) fx (ct_X0_group l dC dI cy o a Z X_143 _ ((nI p1)) ((nI q1)) ((nI 2)) hI) fyX0_group tM_RX0_168 rfl rfl ⟨Nat.le_of_ble_eq_true rfl, Nat.le_of_ble_eq_true rfl⟩ hK hP hD hS hA rfl hl.1 rfl (Nat.le_of_ble_eq_true rfl) dX0_scale_151 ⟨Nat.le_of_ble_eq_true rfl, Nat.le_of_ble_eq_true rfl⟩ (fun r_151 Z_151 X_151 H locs hw_151 hP hD hS => ?_)
                      try dsimp only at hw_151
                      obtain ⟨rfl, ez_151⟩ := hw_151
                      rw [ez_151] at hP hD
                      rw [grp2 (by omega) (by omega) (by omega)]
                      refine lv_lmul hx hb dX0_scale_154 ?_
                      refine lv_ladd hx hb dX0_scale_155 ?_
                      refine lv_lstore (lv' := [(15, .long ((lN ((gS Z p1 q1) * (gA Z p1 p1))) + (((lN (t1 * (gN Z p1))) - (lN (gS Z p1 p1))) * (lN (gA Z p1 q1))))), (13, .long (lN ((gN Z p1) * (gA Z p1 p1)))), (11, .long (lN (gA Z q1 p1))), (9, .long (lN (gN Z q1))), (7, .long (lN (gA Z p1 p1))), (5, .long (lN (gN Z p1))), (0, .ref o), (1, .int (nI p1)), (2, .int (nI q1)), (3, .int (nI t1)), (4, .int w)]) hx hb dX0_scale_156 hl (by decide) rfl (fun ls hl => ?_)
                      refine lv_lload hx hb dX0_scale_158 (lv_at hl 0 rfl) ?_
                      refine lv_lload hx hb dX0_scale_160 (lv_at hl 3 rfl) ?_
                      refine lv_lmul hx hb dX0_scale_162 ?_
                      refine lv_aload_n hx hb dX0_scale_163 rfl (lv_at hl 6 rfl) ?_
                      refine lv_iload_n hx hb dX0_scale_164 rfl (lv_at hl 8 rfl) ?_
                      refine lv_iload_n hx hb dX0_scale_165 rfl (lv_at hl 7 rfl) ?_
                      refine lv_iconst (v := nI 1) hx hb dX0_scale_166 (by decide) ?_
                      refine c_Ml (As := [.int (nI q1), .int (nI p1), .int (nI 1)]) (rest := [.long (((lN ((gS Z p1 q1) * (gA Z p1 p1))) + (((lN (t1 * (gN Z p1))) - (lN (gS Z p1 p1))) * (lN (gA Z p1 q1)))) * (lN (gN Z q1)))]) fx (ct_X0_group l dC dI cy o a Z X_151 _ ((nI q1)) ((nI p1)) ((nI 1)) hI) fyX0_group tM_RX0_168 rfl rfl ⟨Nat.le_of_ble_eq_true rfl, Nat.le_of_ble_eq_true rfl⟩ hK hP hD hS hA rfl hl.1 rfl (Nat.le_of_ble_eq_true rfl) dX0_scale_167 ⟨Nat.le_of_ble_eq_true rfl, Nat.le_of_ble_eq_true rfl⟩ (fun r_167 Z_167 X_167 H locs hw_167 hP hD hS => ?_)
                      try dsimp only at hw_167
                      obtain ⟨rfl, ez_167⟩ := hw_167
                      rw [ez_167] at hP hD
                      rw [grp1 (by omega) (by omega) (by omega)]
                      refine lv_lload hx hb dX0_scale_170 (lv_at hl 1 rfl) ?_
                      refine x_lmul hx hb dX0_scale_172 ?_
                      refine lv_lsub hx hb dX0_scale_173 ?_
                      refine lv_lstore (lv' := [(17, .long ((((lN ((gS Z p1 q1) * (gA Z p1 p1))) + (((lN (t1 * (gN Z p1))) - (lN (gS Z p1 p1))) * (lN (gA Z p1 q1)))) * (lN (gN Z q1))) - (lN ((gS Z q1 p1) * ((gN Z p1) * (gA Z p1 p1)))))), (15, .long ((lN ((gS Z p1 q1) * (gA Z p1 p1))) + (((lN (t1 * (gN Z p1))) - (lN (gS Z p1 p1))) * (lN (gA Z p1 q1))))), (13, .long (lN ((gN Z p1) * (gA Z p1 p1)))), (11, .long (lN (gA Z q1 p1))), (9, .long (lN (gN Z q1))), (7, .long (lN (gA Z p1 p1))), (5, .long (lN (gN Z p1))), (0, .ref o), (1, .int (nI p1)), (2, .int (nI q1)), (3, .int (nI t1)), (4, .int w)]) hx hb dX0_scale_174 hl (by decide) rfl (fun ls hl => ?_)
                      refine lv_aload_n hx hb dX0_scale_176 rfl (lv_at hl 7 rfl) ?_
                      refine lv_iload_n hx hb dX0_scale_177 rfl (lv_at hl 9 rfl) ?_
                      refine lv_iload_n hx hb dX0_scale_178 rfl (lv_at hl 9 rfl) ?_
                      refine lv_iconst (v := nI 1) hx hb dX0_scale_179 (by decide) ?_
                      refine c_Ml (As := [.int (nI q1), .int (nI q1), .int (nI 1)]) (rest := []) fx (ct_X0_group l dC dI cy o a Z X_167 _ ((nI q1)) ((nI q1)) ((nI 1)) hI) fyX0_group tM_RX0_168 rfl rfl ⟨Nat.le_of_ble_eq_true rfl, Nat.le_of_ble_eq_true rfl⟩ hK hP hD hS hA rfl hl.1 rfl (Nat.le_of_ble_eq_true rfl) dX0_scale_180 ⟨Nat.le_of_ble_eq_true rfl, Nat.le_of_ble_eq_true rfl⟩ (fun r_180 Z_180 X_180 H locs hw_180 hP hD hS => ?_)
                      try dsimp only at hw_180
                      obtain ⟨rfl, ez_180⟩ := hw_180
                      rw [ez_180] at hP hD
                      rw [grp1 (by omega) (by omega) (by omega)]
                      refine lv_lload hx hb dX0_scale_183 (lv_at hl 3 rfl) ?_
                      refine x_lmul hx hb dX0_scale_185 ?_
                      refine lv_lload hx hb dX0_scale_186 (lv_at hl 2 rfl) ?_
                      refine x_lmul hx hb dX0_scale_188 ?_
                      refine lv_lload hx hb dX0_scale_189 (lv_at hl 0 rfl) ?_
                      refine lv_aload_n hx hb dX0_scale_191 rfl (lv_at hl 7 rfl) ?_
                      refine lv_iload_n hx hb dX0_scale_192 rfl (lv_at hl 9 rfl) ?_
                      refine lv_iload_n hx hb dX0_scale_193 rfl (lv_at hl 9 rfl) ?_
                      refine lv_iconst (v := nI 2) hx hb dX0_scale_194 (by decide) ?_
                      refine c_Ml (As := [.int (nI q1), .int (nI q1), .int (nI 2)]) (rest := [.long ((((lN ((gS Z p1 q1) * (gA Z p1 p1))) + (((lN (t1 * (gN Z p1))) - (lN (gS Z p1 p1))) * (lN (gA Z p1 q1)))) * (lN (gN Z q1))) - (lN ((gS Z q1 p1) * ((gN Z p1) * (gA Z p1 p1))))), .long (lN (((gS Z q1 q1) * (gA Z q1 p1)) * ((gN Z p1) * (gA Z p1 p1))))]) fx (ct_X0_group l dC dI cy o a Z X_180 _ ((nI q1)) ((nI q1)) ((nI 2)) hI) fyX0_group tM_RX0_168 rfl rfl ⟨Nat.le_of_ble_eq_true rfl, Nat.le_of_ble_eq_true rfl⟩ hK hP hD hS hA rfl hl.1 rfl (Nat.le_of_ble_eq_true rfl) dX0_scale_195 ⟨Nat.le_of_ble_eq_true rfl, Nat.le_of_ble_eq_true rfl⟩ (fun r_195 Z_195 X_195 H locs hw_195 hP hD hS => ?_)
                      try dsimp only at hw_195
                      obtain ⟨rfl, ez_195⟩ := hw_195
                      rw [ez_195] at hP hD
                      rw [grp2 (by omega) (by omega) (by omega)]
                      refine lv_lmul hx hb dX0_scale_198 ?_
                      refine lv_ladd hx hb dX0_scale_199 ?_
                      rw [scl_c]
                      refine lv_lstore (lv' := [(19, .long (sclX Z p1 q1 t1)), (17, .long ((((lN ((gS Z p1 q1) * (gA Z p1 p1))) + (((lN (t1 * (gN Z p1))) - (lN (gS Z p1 p1))) * (lN (gA Z p1 q1)))) * (lN (gN Z q1))) - (lN ((gS Z q1 p1) * ((gN Z p1) * (gA Z p1 p1)))))), (15, .long ((lN ((gS Z p1 q1) * (gA Z p1 p1))) + (((lN (t1 * (gN Z p1))) - (lN (gS Z p1 p1))) * (lN (gA Z p1 q1))))), (13, .long (lN ((gN Z p1) * (gA Z p1 p1)))), (11, .long (lN (gA Z q1 p1))), (9, .long (lN (gN Z q1))), (7, .long (lN (gA Z p1 p1))), (5, .long (lN (gN Z p1))), (0, .ref o), (1, .int (nI p1)), (2, .int (nI q1)), (3, .int (nI t1)), (4, .int w)]) hx hb dX0_scale_200 hl (by decide) rfl (fun ls hl => ?_)
                      refine lv_lload hx hb dX0_scale_202 (lv_at hl 0 rfl) ?_
                      refine lv_lload hx hb dX0_scale_204 (lv_at hl 5 rfl) ?_
                      refine lv_lload hx hb dX0_scale_206 (lv_at hl 4 rfl) ?_
                      refine x_lmul hx hb dX0_scale_208 ?_
                      refine lv_lload hx hb dX0_scale_209 (lv_at hl 3 rfl) ?_
                      refine x_lmul hx hb dX0_scale_211 ?_
                      refine lv_iload hx hb dX0_scale_212 (lv_at hl 12 rfl) ?_
                      refine r_Sl (As := [.long (sclX Z p1 q1 t1), .long (lN (sclB Z p1 q1)), .int w]) (rest := []) fx (ct_X0_fraction l ((sclX Z p1 q1 t1)) (sclB Z p1 q1) w (sclX_T hI p1 q1 (by omega)) (sclB_pos z_79 z_86 z_102 z_109) (sclB_lt hI p1 q1)) fyX0_fraction tM_RX0_132 rfl rfl ⟨Nat.le_of_ble_eq_true rfl, Nat.le_of_ble_eq_true rfl⟩ rfl hl.1 rfl (Nat.le_of_ble_eq_true rfl) dX0_scale_214 ⟨Nat.le_of_ble_eq_true rfl, Nat.le_of_ble_eq_true rfl⟩ (fun r_214 hr_214 => ?_)
                      subst hr_214
                      refine W.lret (v := (frc ((sclX Z p1 q1 t1)) (sclB Z p1 q1) w)) hx hb hr (fun t9 ht9 hW9 => ⟨⟨_, (Z, X_195), rfl, ?_, cE_mk ht9 hP hK hW9 hD⟩, hS.F ht9⟩) hS.2.2 dX0_scale_217
                      exact ⟨by rw [fScl, if_pos ⟨i_p, i_q, by rw [t_p, t_q]; exact c_18, i_t, i_w⟩, t_p, t_q, t_t, if_pos ⟨z_79, z_86, z_96, z_102, z_109⟩], rfl⟩
                    ·
                      have z_109 : gA Z q1 p1 = 0 := (pk_lEQ (by have := gN_le hI p1; have := gN_le hI q1; have := gA_le hI p1 p1; have := gA_le hI q1 p1; omega) (by decide)).mp c_109
                      refine lv_ldc2 (v := -9223372036854775808) hx hb hown (hts _ (ok_of tJ_RX0_127 rfl)) dX0_scale_113 ?_
                      refine W.lret (v := ((-9223372036854775808))) hx hb hr (fun t9 ht9 hW9 => ⟨⟨_, (Z, X_71), rfl, ?_, cE_mk ht9 hP hK hW9 hD⟩, hS.F ht9⟩) hS.2.2 dX0_scale_116
                      first
                      | (refine ⟨?_, rfl⟩; rw [fScl, if_pos ⟨i_p, i_q, by rw [t_p, t_q]; exact c_18, i_t, i_w⟩, t_p, t_q, if_neg (fun h => h.1 z_79)]; done)
                      | (refine ⟨?_, rfl⟩; rw [fScl, if_pos ⟨i_p, i_q, by rw [t_p, t_q]; exact c_18, i_t, i_w⟩, t_p, t_q, if_neg (fun h => h.2.1 z_86)]; done)
                      | (refine ⟨?_, rfl⟩; rw [fScl, if_pos ⟨i_p, i_q, by rw [t_p, t_q]; exact c_18, i_t, i_w⟩, t_p, t_q, if_neg (fun h => h.2.2.1 z_96)]; done)
                      | (refine ⟨?_, rfl⟩; rw [fScl, if_pos ⟨i_p, i_q, by rw [t_p, t_q]; exact c_18, i_t, i_w⟩, t_p, t_q, if_neg (fun h => h.2.2.2.1 z_102)]; done)
                      | (refine ⟨?_, rfl⟩; rw [fScl, if_pos ⟨i_p, i_q, by rw [t_p, t_q]; exact c_18, i_t, i_w⟩, t_p, t_q, if_neg (fun h => h.2.2.2.2 z_109)]; done)

set_option maxHeartbeats 4000000 in
set_option maxRecDepth 100000 in
theorem ct_X1_scale (l : Launch) (dC : Nat → ClassId) (dI : Nat → Nat → Nat) (cy cz : ClassId) (o : Nat) (a : Nat → Nat) (Z : Nat → Nat → Nat) (G T K : Nat → Nat) (p : Int32) (q : Int32) (t : Int32) (w : Int32) (hI : Inv Z) (hR : MRel Z G T K) : Met l yX1_scale (wS yX1_scale cX1_scale 17 (Option.some Jvm.ClassFile.FieldType.long)) (rmF 6 148) (va_Pc [.ref o, .int p, .int q, .int t, .int w] (mR dC dI cy cz o a Z G T K)) (vp_Sl (fun r => r = fScl Z p q t w)) 0 0 (fun _ => False) := by
  refine Met.ofW (cc := cX1_scale) (maxL := 17) (ret := (Option.some Jvm.ClassFile.FieldType.long)) (by decide) rfl ?_
  intro pg en sv mi ag bw mt cd s₁ BL hml hv
  obtain ⟨rfl, hP, hK⟩ := hv
  have hx := BL.exec
  have hb := BL.bytes
  have hr := BL.returns
  have hts : ∀ w ∈ lw_ok, w.before _ sv = true := fun w hw => atoms_spec (ws := wS yX1_scale cX1_scale 17 (Option.some Jvm.ClassFile.FieldType.long)) BL.pre w (List.mem_cons_of_mem _ hw)
  have hown : sv.vm.findClass RX1 = some mi.cls := findClass_of_methodNamed BL.named
  have hlocks := BL.notSynchronized
  have fx : CallFix pg mi cd cX1_scale 17 sv _ lw_ok RX1 := ⟨hx, hb, hml, hown, hts⟩
  have hl := lv_entry ([.ref o, .int p, .int q, .int t, .int w]) (n := 17) (Nat.le_of_ble_eq_true rfl)
  rw [lg_entry_eq]
  generalize (lg_sl ([.ref o, .int p, .int q, .int t, .int w]) ++ List.replicate (17 - (lg_sl ([.ref o, .int p, .int q, .int t, .int w])).length) Slot.unset).toArray = ls at hl ⊢
  replace hl : lv_has ls 17 [(0, .ref o), (1, .int p), (2, .int q), (3, .int t), (4, .int w)] := hl
  obtain ⟨b0, b1, b2⟩ := hI.bd
  refine lv_aload_n hx hb dX1_scale_0 rfl (lv_at hl 0 rfl) ?_
  refine lv_iload_n hx hb dX1_scale_1 rfl (lv_at hl 1 rfl) ?_
  refine r_Vi (As := [.int p]) (rest := []) fx (ct_X1_isPaper l dC dI cy cz o a Z G T K p hI) fyX1_isPaper tM_RX1_63 rfl rfl ⟨Nat.le_of_ble_eq_true rfl, Nat.le_of_ble_eq_true rfl⟩ (m_pre hK hP) rfl hl.1 rfl (Nat.le_of_ble_eq_true rfl) dX1_scale_2 ⟨Nat.le_of_ble_eq_true rfl, Nat.le_of_ble_eq_true rfl⟩ (fun r_2 hr_2 => ?_)
  rcases hr_2 with ⟨rfl, hr_2⟩ | ⟨rfl, hr_2⟩
  ·
    refine x_if_eq_T (tgt := 43) hx hb (by decide) dX1_scale_5 (by decide) ?_
    refine lv_ldc2 (v := -9223372036854775808) hx hb hown (hts _ (ok_of tJ_RX1_104 rfl)) dX1_scale_43 ?_
    refine W.lret (v := ((-9223372036854775808))) hx hb hr (fun t9 ht9 hW9 => ⟨_, rfl, ?_, ht9⟩) (fun q h => by cases h) dX1_scale_46
    first
    | (rw [fScl, if_neg (fun h => hr_2 h.1)]; done)
    | (rw [fScl, if_neg (fun h => hr_10 h.2.1)]; done)
    | (rw [fScl, if_neg (fun h => h.2.2.1 (by rw [t_p, t_q]; exact c_18))]; done)
    | (rw [fScl, if_neg (fun h => hr_26 ((in_lh (by decide) (by decide)).mpr h.2.2.2.1))]; done)
    | (rw [fScl, if_neg (fun h => hr_37 ((in_lh (by decide) (by decide)).mpr h.2.2.2.2))]; done)
  ·
    have i_p := hr_2
    obtain ⟨p1, -, h_p1, rfl⟩ := inR_of i_p
    have t_p : tn (nI p1) = p1 := tn_nI (by omega)
    refine x_if_eq_F (tgt := 43) hx hb (by decide) dX1_scale_5 (by decide) ?_
    refine lv_aload_n hx hb dX1_scale_8 rfl (lv_at hl 0 rfl) ?_
    refine lv_iload_n hx hb dX1_scale_9 rfl (lv_at hl 2 rfl) ?_
    refine r_Vi (As := [.int q]) (rest := []) fx (ct_X1_isPaper l dC dI cy cz o a Z G T K q hI) fyX1_isPaper tM_RX1_63 rfl rfl ⟨Nat.le_of_ble_eq_true rfl, Nat.le_of_ble_eq_true rfl⟩ (m_pre hK hP) rfl hl.1 rfl (Nat.le_of_ble_eq_true rfl) dX1_scale_10 ⟨Nat.le_of_ble_eq_true rfl, Nat.le_of_ble_eq_true rfl⟩ (fun r_10 hr_10 => ?_)
    rcases hr_10 with ⟨rfl, hr_10⟩ | ⟨rfl, hr_10⟩
    ·
      refine x_if_eq_T (tgt := 43) hx hb (by decide) dX1_scale_13 (by decide) ?_
      refine lv_ldc2 (v := -9223372036854775808) hx hb hown (hts _ (ok_of tJ_RX1_104 rfl)) dX1_scale_43 ?_
      refine W.lret (v := ((-9223372036854775808))) hx hb hr (fun t9 ht9 hW9 => ⟨_, rfl, ?_, ht9⟩) (fun q h => by cases h) dX1_scale_46
      first
      | (rw [fScl, if_neg (fun h => hr_2 h.1)]; done)
      | (rw [fScl, if_neg (fun h => hr_10 h.2.1)]; done)
      | (rw [fScl, if_neg (fun h => h.2.2.1 (by rw [t_p, t_q]; exact c_18))]; done)
      | (rw [fScl, if_neg (fun h => hr_26 ((in_lh (by decide) (by decide)).mpr h.2.2.2.1))]; done)
      | (rw [fScl, if_neg (fun h => hr_37 ((in_lh (by decide) (by decide)).mpr h.2.2.2.2))]; done)
    ·
      have i_q := hr_10
      obtain ⟨q1, -, h_q1, rfl⟩ := inR_of i_q
      have t_q : tn (nI q1) = q1 := tn_nI (by omega)
      refine x_if_eq_F (tgt := 43) hx hb (by decide) dX1_scale_13 (by decide) ?_
      refine lv_iload_n hx hb dX1_scale_16 rfl (lv_at hl 1 rfl) ?_
      refine lv_iload_n hx hb dX1_scale_17 rfl (lv_at hl 2 rfl) ?_
      refine x_icmp_eq (x := p1) (y := q1) (tgt := 43) hx hb (by omega) (by omega) dX1_scale_18 (by decide) (fun c_18 => ?_) (fun c_18 => ?_)
      ·
        refine lv_ldc2 (v := -9223372036854775808) hx hb hown (hts _ (ok_of tJ_RX1_104 rfl)) dX1_scale_43 ?_
        refine W.lret (v := ((-9223372036854775808))) hx hb hr (fun t9 ht9 hW9 => ⟨_, rfl, ?_, ht9⟩) (fun q h => by cases h) dX1_scale_46
        first
        | (rw [fScl, if_neg (fun h => hr_2 h.1)]; done)
        | (rw [fScl, if_neg (fun h => hr_10 h.2.1)]; done)
        | (rw [fScl, if_neg (fun h => h.2.2.1 (by rw [t_p, t_q]; exact c_18))]; done)
        | (rw [fScl, if_neg (fun h => hr_26 ((in_lh (by decide) (by decide)).mpr h.2.2.2.1))]; done)
        | (rw [fScl, if_neg (fun h => hr_37 ((in_lh (by decide) (by decide)).mpr h.2.2.2.2))]; done)
      ·
        refine lv_aload_n hx hb dX1_scale_21 rfl (lv_at hl 0 rfl) ?_
        refine lv_iload_n hx hb dX1_scale_22 rfl (lv_at hl 3 rfl) ?_
        refine lv_iconst (v := nI 0) hx hb dX1_scale_23 (by decide) ?_
        refine lv_bipush (v := nI 120) hx hb dX1_scale_24 (by decide) ?_
        refine r_Vi (As := [.int t, .int (nI 0), .int (nI 120)]) (rest := []) fx (ct_X1_in l dC dI cy cz o a Z G T K t ((nI 0)) ((nI 120))) fyX1_in tM_RX1_51 rfl rfl ⟨Nat.le_of_ble_eq_true rfl, Nat.le_of_ble_eq_true rfl⟩ (m_pre hK hP) rfl hl.1 rfl (Nat.le_of_ble_eq_true rfl) dX1_scale_26 ⟨Nat.le_of_ble_eq_true rfl, Nat.le_of_ble_eq_true rfl⟩ (fun r_26 hr_26 => ?_)
        rcases hr_26 with ⟨rfl, hr_26⟩ | ⟨rfl, hr_26⟩
        ·
          refine x_if_eq_T (tgt := 43) hx hb (by decide) dX1_scale_29 (by decide) ?_
          refine lv_ldc2 (v := -9223372036854775808) hx hb hown (hts _ (ok_of tJ_RX1_104 rfl)) dX1_scale_43 ?_
          refine W.lret (v := ((-9223372036854775808))) hx hb hr (fun t9 ht9 hW9 => ⟨_, rfl, ?_, ht9⟩) (fun q h => by cases h) dX1_scale_46
          first
          | (rw [fScl, if_neg (fun h => hr_2 h.1)]; done)
          | (rw [fScl, if_neg (fun h => hr_10 h.2.1)]; done)
          | (rw [fScl, if_neg (fun h => h.2.2.1 (by rw [t_p, t_q]; exact c_18))]; done)
          | (rw [fScl, if_neg (fun h => hr_26 ((in_lh (by decide) (by decide)).mpr h.2.2.2.1))]; done)
          | (rw [fScl, if_neg (fun h => hr_37 ((in_lh (by decide) (by decide)).mpr h.2.2.2.2))]; done)
        ·
          have i_t : inR t 0 121 := (in_lh (lo := 0) (hi := 120) (by decide) (by decide)).mp hr_26
          obtain ⟨t1, l_t1, h_t1, rfl⟩ := inR_of i_t
          have t_t : tn (nI t1) = t1 := tn_nI (by omega)
          refine x_if_eq_F (tgt := 43) hx hb (by decide) dX1_scale_29 (by decide) ?_
          refine lv_aload_n hx hb dX1_scale_32 rfl (lv_at hl 0 rfl) ?_
          refine lv_iload hx hb dX1_scale_33 (lv_at hl 4 rfl) ?_
          refine lv_iconst (v := nI 0) hx hb dX1_scale_35 (by decide) ?_
          refine lv_iconst (v := nI 1) hx hb dX1_scale_36 (by decide) ?_
          refine r_Vi (As := [.int w, .int (nI 0), .int (nI 1)]) (rest := []) fx (ct_X1_in l dC dI cy cz o a Z G T K w ((nI 0)) ((nI 1))) fyX1_in tM_RX1_51 rfl rfl ⟨Nat.le_of_ble_eq_true rfl, Nat.le_of_ble_eq_true rfl⟩ (m_pre hK hP) rfl hl.1 rfl (Nat.le_of_ble_eq_true rfl) dX1_scale_37 ⟨Nat.le_of_ble_eq_true rfl, Nat.le_of_ble_eq_true rfl⟩ (fun r_37 hr_37 => ?_)
          rcases hr_37 with ⟨rfl, hr_37⟩ | ⟨rfl, hr_37⟩
          ·
            refine x_if_ne_F (tgt := 47) hx hb (by decide) dX1_scale_40 (by decide) ?_
            refine lv_ldc2 (v := -9223372036854775808) hx hb hown (hts _ (ok_of tJ_RX1_104 rfl)) dX1_scale_43 ?_
            refine W.lret (v := ((-9223372036854775808))) hx hb hr (fun t9 ht9 hW9 => ⟨_, rfl, ?_, ht9⟩) (fun q h => by cases h) dX1_scale_46
            first
            | (rw [fScl, if_neg (fun h => hr_2 h.1)]; done)
            | (rw [fScl, if_neg (fun h => hr_10 h.2.1)]; done)
            | (rw [fScl, if_neg (fun h => h.2.2.1 (by rw [t_p, t_q]; exact c_18))]; done)
            | (rw [fScl, if_neg (fun h => hr_26 ((in_lh (by decide) (by decide)).mpr h.2.2.2.1))]; done)
            | (rw [fScl, if_neg (fun h => hr_37 ((in_lh (by decide) (by decide)).mpr h.2.2.2.2))]; done)
          ·
            have i_w : inR w 0 2 := (in_lh (lo := 0) (hi := 1) (by decide) (by decide)).mp hr_37
            refine x_if_ne_T (tgt := 47) hx hb (by decide) dX1_scale_40 (by decide) ?_
            refine lv_aload_n hx hb dX1_scale_47 rfl (lv_at hl 0 rfl) ?_
            refine lv_iload_n hx hb dX1_scale_48 rfl (lv_at hl 1 rfl) ?_
            refine r_Vi (As := [.int (nI p1)]) (rest := []) fx (ct_X1_groupSize l dC dI cy cz o a Z G T K p1 hI (by first | assumption | omega)) fyX1_groupSize tM_RX1_70 rfl rfl ⟨Nat.le_of_ble_eq_true rfl, Nat.le_of_ble_eq_true rfl⟩ (m_pre hK hP) rfl hl.1 rfl (Nat.le_of_ble_eq_true rfl) dX1_scale_49 ⟨Nat.le_of_ble_eq_true rfl, Nat.le_of_ble_eq_true rfl⟩ (fun r_49 hr_49 => ?_)
            subst hr_49
            have hgp := gN_le hI p1
            refine lv_i2l (v := lN (gN Z p1)) hx hb dX1_scale_52 (nI_l (by omega)) ?_
            refine lv_lstore (lv' := [(5, .long (lN (gN Z p1))), (0, .ref o), (1, .int (nI p1)), (2, .int (nI q1)), (3, .int (nI t1)), (4, .int w)]) hx hb dX1_scale_53 hl (by decide) rfl (fun ls hl => ?_)
            refine lv_aload_n hx hb dX1_scale_55 rfl (lv_at hl 1 rfl) ?_
            refine lv_iload_n hx hb dX1_scale_56 rfl (lv_at hl 3 rfl) ?_
            refine r_Vi (As := [.int (nI q1)]) (rest := []) fx (ct_X1_groupSize l dC dI cy cz o a Z G T K q1 hI (by first | assumption | omega)) fyX1_groupSize tM_RX1_70 rfl rfl ⟨Nat.le_of_ble_eq_true rfl, Nat.le_of_ble_eq_true rfl⟩ (m_pre hK hP) rfl hl.1 rfl (Nat.le_of_ble_eq_true rfl) dX1_scale_57 ⟨Nat.le_of_ble_eq_true rfl, Nat.le_of_ble_eq_true rfl⟩ (fun r_57 hr_57 => ?_)
            subst hr_57
            have hgq := gN_le hI q1
            refine lv_i2l (v := lN (gN Z q1)) hx hb dX1_scale_60 (nI_l (by omega)) ?_
            refine lv_lstore (lv' := [(7, .long (lN (gN Z q1))), (5, .long (lN (gN Z p1))), (0, .ref o), (1, .int (nI p1)), (2, .int (nI q1)), (3, .int (nI t1)), (4, .int w)]) hx hb dX1_scale_61 hl (by decide) rfl (fun ls hl => ?_)
            refine lv_aload_n hx hb dX1_scale_63 rfl (lv_at hl 2 rfl) ?_
            refine lv_iload_n hx hb dX1_scale_64 rfl (lv_at hl 3 rfl) ?_
            refine lv_iload_n hx hb dX1_scale_65 rfl (lv_at hl 3 rfl) ?_
            refine r_Vl (As := [.int (nI p1), .int (nI p1)]) (rest := []) fx (ct_X1_away l dC dI cy cz o a Z G T K p1 p1 hI hR (by first | assumption | omega) (by first | assumption | omega)) fyX1_away tM_RX1_131 rfl rfl ⟨Nat.le_of_ble_eq_true rfl, Nat.le_of_ble_eq_true rfl⟩ (m_pre hK hP) rfl hl.1 rfl (Nat.le_of_ble_eq_true rfl) dX1_scale_66 ⟨Nat.le_of_ble_eq_true rfl, Nat.le_of_ble_eq_true rfl⟩ (fun r_66 hr_66 => ?_)
            subst hr_66
            refine lv_lstore (lv' := [(9, .long (lN (gA Z p1 p1))), (7, .long (lN (gN Z q1))), (5, .long (lN (gN Z p1))), (0, .ref o), (1, .int (nI p1)), (2, .int (nI q1)), (3, .int (nI t1)), (4, .int w)]) hx hb dX1_scale_69 hl (by decide) rfl (fun ls hl => ?_)
            refine lv_aload_n hx hb dX1_scale_71 rfl (lv_at hl 3 rfl) ?_
            refine lv_iload_n hx hb dX1_scale_72 rfl (lv_at hl 5 rfl) ?_
            refine lv_iload_n hx hb dX1_scale_73 rfl (lv_at hl 4 rfl) ?_
            refine r_Vl (As := [.int (nI q1), .int (nI p1)]) (rest := []) fx (ct_X1_away l dC dI cy cz o a Z G T K q1 p1 hI hR (by first | assumption | omega) (by first | assumption | omega)) fyX1_away tM_RX1_131 rfl rfl ⟨Nat.le_of_ble_eq_true rfl, Nat.le_of_ble_eq_true rfl⟩ (m_pre hK hP) rfl hl.1 rfl (Nat.le_of_ble_eq_true rfl) dX1_scale_74 ⟨Nat.le_of_ble_eq_true rfl, Nat.le_of_ble_eq_true rfl⟩ (fun r_74 hr_74 => ?_)
            subst hr_74
            refine lv_lstore (lv' := [(11, .long (lN (gA Z q1 p1))), (9, .long (lN (gA Z p1 p1))), (7, .long (lN (gN Z q1))), (5, .long (lN (gN Z p1))), (0, .ref o), (1, .int (nI p1)), (2, .int (nI q1)), (3, .int (nI t1)), (4, .int w)]) hx hb dX1_scale_77 hl (by decide) rfl (fun ls hl => ?_)
            refine lv_lload hx hb dX1_scale_79 (lv_at hl 3 rfl) ?_
            refine lv_lconst (v := lN 0) hx hb dX1_scale_81 (by decide) ?_
            refine x_leq (x := (lN (gN Z p1))) (y := (lN 0)) (tgt := 116) hx hb dX1_scale_82 dX1_scale_83 (by decide) (fun c_82 => ?_) (fun c_82 => ?_)
            ·
              have z_82 : gN Z p1 = 0 := (pk_lEQ (by have := gN_le hI p1; have := gN_le hI q1; have := gA_le hI p1 p1; have := gA_le hI q1 p1; omega) (by decide)).mp c_82
              refine lv_ldc2 (v := -9223372036854775808) hx hb hown (hts _ (ok_of tJ_RX1_104 rfl)) dX1_scale_116 ?_
              refine W.lret (v := ((-9223372036854775808))) hx hb hr (fun t9 ht9 hW9 => ⟨_, rfl, ?_, ht9⟩) (fun q h => by cases h) dX1_scale_119
              first
              | (rw [fScl, if_pos ⟨i_p, i_q, by rw [t_p, t_q]; exact c_18, i_t, i_w⟩, t_p, t_q, if_neg (fun h => h.1 z_82)]; done)
              | (rw [fScl, if_pos ⟨i_p, i_q, by rw [t_p, t_q]; exact c_18, i_t, i_w⟩, t_p, t_q, if_neg (fun h => h.2.1 z_89)]; done)
              | (rw [fScl, if_pos ⟨i_p, i_q, by rw [t_p, t_q]; exact c_18, i_t, i_w⟩, t_p, t_q, if_neg (fun h => h.2.2.1 c_99)]; done)
              | (rw [fScl, if_pos ⟨i_p, i_q, by rw [t_p, t_q]; exact c_18, i_t, i_w⟩, t_p, t_q, if_neg (fun h => h.2.2.2.1 z_105)]; done)
              | (rw [fScl, if_pos ⟨i_p, i_q, by rw [t_p, t_q]; exact c_18, i_t, i_w⟩, t_p, t_q, if_neg (fun h => h.2.2.2.2 z_112)]; done)
            ·
              have z_82 : ¬ gN Z p1 = 0 := fun h => c_82 (by rw [h])
              refine lv_lload hx hb dX1_scale_86 (lv_at hl 2 rfl) ?_
              refine lv_lconst (v := lN 0) hx hb dX1_scale_88 (by decide) ?_
              refine x_leq (x := (lN (gN Z q1))) (y := (lN 0)) (tgt := 116) hx hb dX1_scale_89 dX1_scale_90 (by decide) (fun c_89 => ?_) (fun c_89 => ?_)
              ·
                have z_89 : gN Z q1 = 0 := (pk_lEQ (by have := gN_le hI p1; have := gN_le hI q1; have := gA_le hI p1 p1; have := gA_le hI q1 p1; omega) (by decide)).mp c_89
                refine lv_ldc2 (v := -9223372036854775808) hx hb hown (hts _ (ok_of tJ_RX1_104 rfl)) dX1_scale_116 ?_
                refine W.lret (v := ((-9223372036854775808))) hx hb hr (fun t9 ht9 hW9 => ⟨_, rfl, ?_, ht9⟩) (fun q h => by cases h) dX1_scale_119
                first
                | (rw [fScl, if_pos ⟨i_p, i_q, by rw [t_p, t_q]; exact c_18, i_t, i_w⟩, t_p, t_q, if_neg (fun h => h.1 z_82)]; done)
                | (rw [fScl, if_pos ⟨i_p, i_q, by rw [t_p, t_q]; exact c_18, i_t, i_w⟩, t_p, t_q, if_neg (fun h => h.2.1 z_89)]; done)
                | (rw [fScl, if_pos ⟨i_p, i_q, by rw [t_p, t_q]; exact c_18, i_t, i_w⟩, t_p, t_q, if_neg (fun h => h.2.2.1 c_99)]; done)
                | (rw [fScl, if_pos ⟨i_p, i_q, by rw [t_p, t_q]; exact c_18, i_t, i_w⟩, t_p, t_q, if_neg (fun h => h.2.2.2.1 z_105)]; done)
                | (rw [fScl, if_pos ⟨i_p, i_q, by rw [t_p, t_q]; exact c_18, i_t, i_w⟩, t_p, t_q, if_neg (fun h => h.2.2.2.2 z_112)]; done)
              ·
                have z_89 : ¬ gN Z q1 = 0 := fun h => c_89 (by rw [h])
                refine lv_aload_n hx hb dX1_scale_93 rfl (lv_at hl 4 rfl) ?_
                refine lv_iload_n hx hb dX1_scale_94 rfl (lv_at hl 5 rfl) ?_
                refine lv_iload_n hx hb dX1_scale_95 rfl (lv_at hl 6 rfl) ?_
                refine r_Vi (As := [.int (nI p1), .int (nI q1)]) (rest := []) fx (ct_X1_sharedMany l dC dI cy cz o a Z G T K p1 q1 hI hR (by first | assumption | omega) (by first | assumption | omega)) fyX1_sharedMany tM_RX1_118 rfl rfl ⟨Nat.le_of_ble_eq_true rfl, Nat.le_of_ble_eq_true rfl⟩ (m_pre hK hP) rfl hl.1 rfl (Nat.le_of_ble_eq_true rfl) dX1_scale_96 ⟨Nat.le_of_ble_eq_true rfl, Nat.le_of_ble_eq_true rfl⟩ (fun r_96 hr_96 => ?_)
                subst hr_96
                refine x_ifn_eq (x := shM Z p1 q1) (tgt := 116) hx hb (by have h1 := fb_ct_le (fun i => shB Z q1 (Z 10 (p1 * 12 + i))) (Z 8 p1); have h2 := (hI.sz (p := p1) (by omega)).1; unfold shM; omega) dX1_scale_99 (by decide) (fun c_99 => ?_) (fun c_99 => ?_)
                ·
                  refine lv_ldc2 (v := -9223372036854775808) hx hb hown (hts _ (ok_of tJ_RX1_104 rfl)) dX1_scale_116 ?_
                  refine W.lret (v := ((-9223372036854775808))) hx hb hr (fun t9 ht9 hW9 => ⟨_, rfl, ?_, ht9⟩) (fun q h => by cases h) dX1_scale_119
                  first
                  | (rw [fScl, if_pos ⟨i_p, i_q, by rw [t_p, t_q]; exact c_18, i_t, i_w⟩, t_p, t_q, if_neg (fun h => h.1 z_82)]; done)
                  | (rw [fScl, if_pos ⟨i_p, i_q, by rw [t_p, t_q]; exact c_18, i_t, i_w⟩, t_p, t_q, if_neg (fun h => h.2.1 z_89)]; done)
                  | (rw [fScl, if_pos ⟨i_p, i_q, by rw [t_p, t_q]; exact c_18, i_t, i_w⟩, t_p, t_q, if_neg (fun h => h.2.2.1 c_99)]; done)
                  | (rw [fScl, if_pos ⟨i_p, i_q, by rw [t_p, t_q]; exact c_18, i_t, i_w⟩, t_p, t_q, if_neg (fun h => h.2.2.2.1 z_105)]; done)
                  | (rw [fScl, if_pos ⟨i_p, i_q, by rw [t_p, t_q]; exact c_18, i_t, i_w⟩, t_p, t_q, if_neg (fun h => h.2.2.2.2 z_112)]; done)
                ·
                  refine lv_lload hx hb dX1_scale_102 (lv_at hl 1 rfl) ?_
                  refine lv_lconst (v := lN 0) hx hb dX1_scale_104 (by decide) ?_
                  refine x_leq (x := (lN (gA Z p1 p1))) (y := (lN 0)) (tgt := 116) hx hb dX1_scale_105 dX1_scale_106 (by decide) (fun c_105 => ?_) (fun c_105 => ?_)
                  ·
                    have z_105 : gA Z p1 p1 = 0 := (pk_lEQ (by have := gN_le hI p1; have := gN_le hI q1; have := gA_le hI p1 p1; have := gA_le hI q1 p1; omega) (by decide)).mp c_105
                    refine lv_ldc2 (v := -9223372036854775808) hx hb hown (hts _ (ok_of tJ_RX1_104 rfl)) dX1_scale_116 ?_
                    refine W.lret (v := ((-9223372036854775808))) hx hb hr (fun t9 ht9 hW9 => ⟨_, rfl, ?_, ht9⟩) (fun q h => by cases h) dX1_scale_119
                    first
                    | (rw [fScl, if_pos ⟨i_p, i_q, by rw [t_p, t_q]; exact c_18, i_t, i_w⟩, t_p, t_q, if_neg (fun h => h.1 z_82)]; done)
                    | (rw [fScl, if_pos ⟨i_p, i_q, by rw [t_p, t_q]; exact c_18, i_t, i_w⟩, t_p, t_q, if_neg (fun h => h.2.1 z_89)]; done)
                    | (rw [fScl, if_pos ⟨i_p, i_q, by rw [t_p, t_q]; exact c_18, i_t, i_w⟩, t_p, t_q, if_neg (fun h => h.2.2.1 c_99)]; done)
                    | (rw [fScl, if_pos ⟨i_p, i_q, by rw [t_p, t_q]; exact c_18, i_t, i_w⟩, t_p, t_q, if_neg (fun h => h.2.2.2.1 z_105)]; done)
                    | (rw [fScl, if_pos ⟨i_p, i_q, by rw [t_p, t_q]; exact c_18, i_t, i_w⟩, t_p, t_q, if_neg (fun h => h.2.2.2.2 z_112)]; done)
                  ·
                    have z_105 : ¬ gA Z p1 p1 = 0 := fun h => c_105 (by rw [h])
                    refine lv_lload hx hb dX1_scale_109 (lv_at hl 0 rfl) ?_
                    refine lv_lconst (v := lN 0) hx hb dX1_scale_111 (by decide) ?_
                    refine x_lne (x := (lN (gA Z q1 p1))) (y := (lN 0)) (tgt := 120) hx hb dX1_scale_112 dX1_scale_113 (by decide) (fun c_112 => ?_) (fun c_112 => ?_)
                    ·
                      have z_112 : ¬ gA Z q1 p1 = 0 := fun h => c_112 (by rw [h])
                      refine lv_aload_n hx hb dX1_scale_120 rfl (lv_at hl 4 rfl) ?_
                      refine lv_iload_n hx hb dX1_scale_121 rfl (lv_at hl 5 rfl) ?_
                      refine lv_iload_n hx hb dX1_scale_122 rfl (lv_at hl 6 rfl) ?_
                      refine r_Vl (As := [.int (nI p1), .int (nI q1)]) (rest := []) fx (ct_X1_sumOf l dC dI cy cz o a Z G T K p1 q1 hI hR (by first | assumption | omega) (by first | assumption | omega)) fyX1_sumOf tM_RX1_128 rfl rfl ⟨Nat.le_of_ble_eq_true rfl, Nat.le_of_ble_eq_true rfl⟩ (m_pre hK hP) rfl hl.1 rfl (Nat.le_of_ble_eq_true rfl) dX1_scale_123 ⟨Nat.le_of_ble_eq_true rfl, Nat.le_of_ble_eq_true rfl⟩ (fun r_123 hr_123 => ?_)
                      subst hr_123
                      refine lv_lload hx hb dX1_scale_126 (lv_at hl 1 rfl) ?_
                      refine x_lmul hx hb dX1_scale_128 ?_
                      refine lv_iload_n hx hb dX1_scale_129 rfl (lv_at hl 7 rfl) ?_
                      refine lv_i2l (v := lN t1) hx hb dX1_scale_130 (nI_l (by omega)) ?_
                      refine lv_lload hx hb dX1_scale_131 (lv_at hl 3 rfl) ?_
                      refine x_lmul hx hb dX1_scale_133 ?_
                      refine lv_aload_n hx hb dX1_scale_134 rfl (lv_at hl 4 rfl) ?_
                      refine lv_iload_n hx hb dX1_scale_135 rfl (lv_at hl 5 rfl) ?_
                      refine lv_iload_n hx hb dX1_scale_136 rfl (lv_at hl 5 rfl) ?_
                      refine r_Vl (As := [.int (nI p1), .int (nI p1)]) (rest := [.long (lN (t1 * (gN Z p1))), .long (lN ((gS Z p1 q1) * (gA Z p1 p1)))]) fx (ct_X1_sumOf l dC dI cy cz o a Z G T K p1 p1 hI hR (by first | assumption | omega) (by first | assumption | omega)) fyX1_sumOf tM_RX1_128 rfl rfl ⟨Nat.le_of_ble_eq_true rfl, Nat.le_of_ble_eq_true rfl⟩ (m_pre hK hP) rfl hl.1 rfl (Nat.le_of_ble_eq_true rfl) dX1_scale_137 ⟨Nat.le_of_ble_eq_true rfl, Nat.le_of_ble_eq_true rfl⟩ (fun r_137 hr_137 => ?_)
                      subst hr_137
                      refine lv_lsub hx hb dX1_scale_140 ?_
                      refine lv_aload_n hx hb dX1_scale_141 rfl (lv_at hl 4 rfl) ?_
                      refine lv_iload_n hx hb dX1_scale_142 rfl (lv_at hl 5 rfl) ?_
                      refine lv_iload_n hx hb dX1_scale_143 rfl (lv_at hl 6 rfl) ?_
                      refine r_Vl (As := [.int (nI p1), .int (nI q1)]) (rest := [.long ((lN (t1 * (gN Z p1))) - (lN (gS Z p1 p1))), .long (lN ((gS Z p1 q1) * (gA Z p1 p1)))]) fx (ct_X1_away l dC dI cy cz o a Z G T K p1 q1 hI hR (by first | assumption | omega) (by first | assumption | omega)) fyX1_away tM_RX1_131 rfl rfl ⟨Nat.le_of_ble_eq_true rfl, Nat.le_of_ble_eq_true rfl⟩ (m_pre hK hP) rfl hl.1 rfl (Nat.le_of_ble_eq_true rfl) dX1_scale_144 ⟨Nat.le_of_ble_eq_true rfl, Nat.le_of_ble_eq_true rfl⟩ (fun r_144 hr_144 => ?_)
                      subst hr_144
                      refine lv_lmul hx hb dX1_scale_147 ?_
                      refine lv_ladd hx hb dX1_scale_148 ?_
                      refine lv_lstore (lv' := [(13, .long ((lN ((gS Z p1 q1) * (gA Z p1 p1))) + (((lN (t1 * (gN Z p1))) - (lN (gS Z p1 p1))) * (lN (gA Z p1 q1))))), (11, .long (lN (gA Z q1 p1))), (9, .long (lN (gA Z p1 p1))), (7, .long (lN (gN Z q1))), (5, .long (lN (gN Z p1))), (0, .ref o), (1, .int (nI p1)), (2, .int (nI q1)), (3, .int (nI t1)), (4, .int w)]) hx hb dX1_scale_149 hl (by decide) rfl (fun ls hl => ?_)
                      refine lv_aload_n hx hb dX1_scale_151 rfl (lv_at hl 5 rfl) ?_
                      refine lv_iload_n hx hb dX1_scale_152 rfl (lv_at hl 7 rfl) ?_
                      refine lv_iload_n hx hb dX1_scale_153 rfl (lv_at hl 7 rfl) ?_
                      refine r_Vl (As := [.int (nI q1), .int (nI q1)]) (rest := []) fx (ct_X1_sumOf l dC dI cy cz o a Z G T K q1 q1 hI hR (by first | assumption | omega) (by first | assumption | omega)) fyX1_sumOf tM_RX1_128 rfl rfl ⟨Nat.le_of_ble_eq_true rfl, Nat.le_of_ble_eq_true rfl⟩ (m_pre hK hP) rfl hl.1 rfl (Nat.le_of_ble_eq_true rfl) dX1_scale_154 ⟨Nat.le_of_ble_eq_true rfl, Nat.le_of_ble_eq_true rfl⟩ (fun r_154 hr_154 => ?_)
                      subst hr_154
                      refine lv_lload hx hb dX1_scale_157 (lv_at hl 1 rfl) ?_
                      refine x_lmul hx hb dX1_scale_159 ?_
                      refine lv_lload hx hb dX1_scale_160 (lv_at hl 4 rfl) ?_
                      refine x_lmul hx hb dX1_scale_162 ?_
                      refine lv_lload hx hb dX1_scale_163 (lv_at hl 2 rfl) ?_
                      refine x_lmul hx hb dX1_scale_165 ?_
                      refine lv_lload hx hb dX1_scale_166 (lv_at hl 0 rfl) ?_
                      refine lv_lload hx hb dX1_scale_168 (lv_at hl 3 rfl) ?_
                      refine lv_lmul hx hb dX1_scale_170 ?_
                      refine lv_aload_n hx hb dX1_scale_171 rfl (lv_at hl 5 rfl) ?_
                      refine lv_iload_n hx hb dX1_scale_172 rfl (lv_at hl 7 rfl) ?_
                      refine lv_iload_n hx hb dX1_scale_173 rfl (lv_at hl 6 rfl) ?_
                      refine r_Vl (As := [.int (nI q1), .int (nI p1)]) (rest := [.long (((lN ((gS Z p1 q1) * (gA Z p1 p1))) + (((lN (t1 * (gN Z p1))) - (lN (gS Z p1 p1))) * (lN (gA Z p1 q1)))) * (lN (gN Z q1))), .long (lN ((((gS Z q1 q1) * (gA Z q1 p1)) * (gN Z p1)) * (gA Z p1 p1)))]) fx (ct_X1_sumOf l dC dI cy cz o a Z G T K q1 p1 hI hR (by first | assumption | omega) (by first | assumption | omega)) fyX1_sumOf tM_RX1_128 rfl rfl ⟨Nat.le_of_ble_eq_true rfl, Nat.le_of_ble_eq_true rfl⟩ (m_pre hK hP) rfl hl.1 rfl (Nat.le_of_ble_eq_true rfl) dX1_scale_174 ⟨Nat.le_of_ble_eq_true rfl, Nat.le_of_ble_eq_true rfl⟩ (fun r_174 hr_174 => ?_)
                      subst hr_174
                      refine lv_lload hx hb dX1_scale_177 (lv_at hl 4 rfl) ?_
                      refine x_lmul hx hb dX1_scale_179 ?_
                      refine lv_lload hx hb dX1_scale_180 (lv_at hl 2 rfl) ?_
                      refine x_lmul hx hb dX1_scale_182 ?_
                      refine lv_lsub hx hb dX1_scale_183 ?_
                      refine lv_aload_n hx hb dX1_scale_184 rfl (lv_at hl 5 rfl) ?_
                      refine lv_iload_n hx hb dX1_scale_185 rfl (lv_at hl 7 rfl) ?_
                      refine lv_iload_n hx hb dX1_scale_186 rfl (lv_at hl 7 rfl) ?_
                      refine r_Vl (As := [.int (nI q1), .int (nI q1)]) (rest := [.long ((((lN ((gS Z p1 q1) * (gA Z p1 p1))) + (((lN (t1 * (gN Z p1))) - (lN (gS Z p1 p1))) * (lN (gA Z p1 q1)))) * (lN (gN Z q1))) - (lN (((gS Z q1 p1) * (gN Z p1)) * (gA Z p1 p1)))), .long (lN ((((gS Z q1 q1) * (gA Z q1 p1)) * (gN Z p1)) * (gA Z p1 p1)))]) fx (ct_X1_away l dC dI cy cz o a Z G T K q1 q1 hI hR (by first | assumption | omega) (by first | assumption | omega)) fyX1_away tM_RX1_131 rfl rfl ⟨Nat.le_of_ble_eq_true rfl, Nat.le_of_ble_eq_true rfl⟩ (m_pre hK hP) rfl hl.1 rfl (Nat.le_of_ble_eq_true rfl) dX1_scale_187 ⟨Nat.le_of_ble_eq_true rfl, Nat.le_of_ble_eq_true rfl⟩ (fun r_187 hr_187 => ?_)
                      subst hr_187
                      refine lv_lmul hx hb dX1_scale_190 ?_
                      refine lv_ladd hx hb dX1_scale_191 ?_
                      rw [scl_m]
                      refine lv_lstore (lv' := [(15, .long (sclX Z p1 q1 t1)), (13, .long ((lN ((gS Z p1 q1) * (gA Z p1 p1))) + (((lN (t1 * (gN Z p1))) - (lN (gS Z p1 p1))) * (lN (gA Z p1 q1))))), (11, .long (lN (gA Z q1 p1))), (9, .long (lN (gA Z p1 p1))), (7, .long (lN (gN Z q1))), (5, .long (lN (gN Z p1))), (0, .ref o), (1, .int (nI p1)), (2, .int (nI q1)), (3, .int (nI t1)), (4, .int w)]) hx hb dX1_scale_192 hl (by decide) rfl (fun ls hl => ?_)
                      refine lv_aload_n hx hb dX1_scale_194 rfl (lv_at hl 6 rfl) ?_
                      refine lv_lload hx hb dX1_scale_195 (lv_at hl 0 rfl) ?_
                      refine lv_lload hx hb dX1_scale_197 (lv_at hl 4 rfl) ?_
                      refine lv_lload hx hb dX1_scale_199 (lv_at hl 5 rfl) ?_
                      refine x_lmul hx hb dX1_scale_201 ?_
                      refine lv_lload hx hb dX1_scale_202 (lv_at hl 3 rfl) ?_
                      refine x_lmul hx hb dX1_scale_204 ?_
                      refine lv_lload hx hb dX1_scale_205 (lv_at hl 2 rfl) ?_
                      refine x_lmul hx hb dX1_scale_207 ?_
                      rw [sclB_m]
                      refine lv_iload hx hb dX1_scale_208 (lv_at hl 10 rfl) ?_
                      refine r_Vl (As := [.long (sclX Z p1 q1 t1), .long (lN (sclB Z p1 q1)), .int w]) (rest := []) fx (ct_X1_part l dC dI cy cz o a Z G T K ((sclX Z p1 q1 t1)) (sclB Z p1 q1) w (sclX_T hI p1 q1 (by omega)) (Or.inr (sclB_pos z_82 z_89 z_105 z_112)) (sclB_lt hI p1 q1)) fyX1_part tM_RX1_106 rfl rfl ⟨Nat.le_of_ble_eq_true rfl, Nat.le_of_ble_eq_true rfl⟩ (m_pre hK hP) rfl hl.1 rfl (Nat.le_of_ble_eq_true rfl) dX1_scale_210 ⟨Nat.le_of_ble_eq_true rfl, Nat.le_of_ble_eq_true rfl⟩ (fun r_210 hr_210 => ?_)
                      subst hr_210
                      refine W.lret (v := (prt ((sclX Z p1 q1 t1)) (sclB Z p1 q1) w)) hx hb hr (fun t9 ht9 hW9 => ⟨_, rfl, ?_, ht9⟩) (fun q h => by cases h) dX1_scale_213
                      rw [fScl, if_pos ⟨i_p, i_q, by rw [t_p, t_q]; exact c_18, i_t, i_w⟩, t_p, t_q, t_t, if_pos ⟨z_82, z_89, c_99, z_105, z_112⟩, prt_eq (sclB_pos z_82 z_89 z_105 z_112) (sclB_lt hI p1 q1)]
                    ·
                      have z_112 : gA Z q1 p1 = 0 := (pk_lEQ (by have := gN_le hI p1; have := gN_le hI q1; have := gA_le hI p1 p1; have := gA_le hI q1 p1; omega) (by decide)).mp c_112
                      refine lv_ldc2 (v := -9223372036854775808) hx hb hown (hts _ (ok_of tJ_RX1_104 rfl)) dX1_scale_116 ?_
                      refine W.lret (v := ((-9223372036854775808))) hx hb hr (fun t9 ht9 hW9 => ⟨_, rfl, ?_, ht9⟩) (fun q h => by cases h) dX1_scale_119
                      first
                      | (rw [fScl, if_pos ⟨i_p, i_q, by rw [t_p, t_q]; exact c_18, i_t, i_w⟩, t_p, t_q, if_neg (fun h => h.1 z_82)]; done)
                      | (rw [fScl, if_pos ⟨i_p, i_q, by rw [t_p, t_q]; exact c_18, i_t, i_w⟩, t_p, t_q, if_neg (fun h => h.2.1 z_89)]; done)
                      | (rw [fScl, if_pos ⟨i_p, i_q, by rw [t_p, t_q]; exact c_18, i_t, i_w⟩, t_p, t_q, if_neg (fun h => h.2.2.1 c_99)]; done)
                      | (rw [fScl, if_pos ⟨i_p, i_q, by rw [t_p, t_q]; exact c_18, i_t, i_w⟩, t_p, t_q, if_neg (fun h => h.2.2.2.1 z_105)]; done)
                      | (rw [fScl, if_pos ⟨i_p, i_q, by rw [t_p, t_q]; exact c_18, i_t, i_w⟩, t_p, t_q, if_neg (fun h => h.2.2.2.2 z_112)]; done)

set_option maxHeartbeats 4000000 in
set_option maxRecDepth 100000 in
theorem ct_X0_like (l : Launch) (dC : Nat → ClassId) (dI : Nat → Nat → Nat) (cy : ClassId) (o : Nat) (a : Nat → Nat) (Z X : Nat → Nat → Nat) (sz : Nat) (p : Int32) (q : Int32) (t : Int32) (hI : Inv Z) : Met l yX0_like (wS yX0_like cX0_like 10 (Option.some Jvm.ClassFile.FieldType.int)) (rmF 5 115) (va_Pc [.ref o, .int p, .int q, .int t] (cS dC dI cy o a Z X sz)) (va_Qi (fun r (u : ST × ST) => r = fLik Z p q t ∧ u.1 = Z) (cE dC dI cy o a (cA cy o a Z X sz)) (cA cy o a Z X sz)) 0 0 (cA cy o a Z X sz) := by
  refine Met.ofW (cc := cX0_like) (maxL := 10) (ret := (Option.some Jvm.ClassFile.FieldType.int)) (by decide) rfl ?_
  intro pg en sv mi ag bw mt cd s₁ BL hml hv
  obtain ⟨rfl, hsz, hP, hK, hD0⟩ := hv
  have hx := BL.exec
  have hb := BL.bytes
  have hr := BL.returns
  have hts : ∀ w ∈ lw_ok, w.before _ sv = true := fun w hw => atoms_spec (ws := wS yX0_like cX0_like 10 (Option.some Jvm.ClassFile.FieldType.int)) BL.pre w (List.mem_cons_of_mem _ hw)
  have hown : sv.vm.findClass RX0 = some mi.cls := findClass_of_methodNamed BL.named
  have hlocks := BL.notSynchronized
  have fx : CallFix pg mi cd cX0_like 10 sv _ lw_ok RX0 := ⟨hx, hb, hml, hown, hts⟩
  have hl := lv_entry ([.ref o, .int p, .int q, .int t]) (n := 10) (Nat.le_of_ble_eq_true rfl)
  rw [lg_entry_eq]
  generalize (lg_sl ([.ref o, .int p, .int q, .int t]) ++ List.replicate (10 - (lg_sl ([.ref o, .int p, .int q, .int t])).length) Slot.unset).toArray = ls at hl ⊢
  replace hl : lv_has ls 10 [(0, .ref o), (1, .int p), (2, .int q), (3, .int t)] := hl
  subst hsz
  have hD : va_D (cA cy o a Z X sv.heap.size) (cw cy o a Z X) := hD0.self (sz := sv.heap.size)
  clear hD0
  generalize hAe : cA cy o a Z X sv.heap.size = A at hD ⊢
  have hA : ∀ q : Nat, sv.heap.size ≤ q → A q := fun q h => by rw [← hAe]; exact Or.inr h
  clear hAe
  refine x_start (fun H locs eH eL => ?_)
  replace hP : va_P (dC, dI) vwCl (cw cy o a Z X) H := by rw [eH]; exact hP
  have hS : va_S A sv.heap H locs := by rw [eH, eL]; exact va_S.rf
  clear eH eL
  obtain ⟨b0, b1, b2⟩ := hI.bd
  have hcs := cset_lt hI
  refine lv_aload_n hx hb dX0_like_0 rfl (lv_at hl 0 rfl) ?_
  refine lv_iload_n hx hb dX0_like_1 rfl (lv_at hl 1 rfl) ?_
  refine r_Vi (As := [.int p]) (rest := []) fx (ct_X0_isPaper l dC dI cy o a Z X p hI) fyX0_isPaper tM_RX0_81 rfl rfl ⟨Nat.le_of_ble_eq_true rfl, Nat.le_of_ble_eq_true rfl⟩ (c_pre hK hP) rfl hl.1 rfl (Nat.le_of_ble_eq_true rfl) dX0_like_2 ⟨Nat.le_of_ble_eq_true rfl, Nat.le_of_ble_eq_true rfl⟩ (fun r_2 hr_2 => ?_)
  rcases hr_2 with ⟨rfl, hr_2⟩ | ⟨rfl, hr_2⟩
  ·
    refine x_if_eq_T (tgt := 39) hx hb (by decide) dX0_like_5 (by decide) ?_
    refine lv_iconst (v := -1) hx hb dX0_like_39 (by decide) ?_
    refine W.iret (v := (-1)) hx hb hr (fun t9 ht9 hW9 => ⟨⟨_, (Z, X), rfl, ?_, cE_mk ht9 hP hK hW9 hD⟩, hS.F ht9⟩) hS.2.2 dX0_like_40
    first
    | (refine ⟨?_, rfl⟩; rw [fLik, if_neg (fun h => hr_2 h.1)]; done)
    | (refine ⟨?_, rfl⟩; rw [fLik, if_neg (fun h => hr_10 h.2.1)]; done)
    | (refine ⟨?_, rfl⟩; rw [fLik, if_neg (fun h => hr_17 h.2.2.1)]; done)
    | (refine ⟨?_, rfl⟩; rw [fLik, if_neg (fun h => hr_25 (gN_ex.mpr (by have h2 := h.2.2.2.1; rw [t_p] at h2; exact h2)))]; done)
    | (refine ⟨?_, rfl⟩; rw [fLik, if_neg (fun h => hr_33 (gN_ex.mpr (by have h2 := h.2.2.2.2; rw [t_q] at h2; exact h2)))]; done)
  ·
    have i_p := hr_2
    obtain ⟨p1, -, h_p1, rfl⟩ := inR_of i_p
    have t_p : tn (nI p1) = p1 := tn_nI (by omega)
    have hgl := gN_le hI p1
    refine x_if_eq_F (tgt := 39) hx hb (by decide) dX0_like_5 (by decide) ?_
    refine lv_aload_n hx hb dX0_like_8 rfl (lv_at hl 0 rfl) ?_
    refine lv_iload_n hx hb dX0_like_9 rfl (lv_at hl 2 rfl) ?_
    refine r_Vi (As := [.int q]) (rest := []) fx (ct_X0_isPaper l dC dI cy o a Z X q hI) fyX0_isPaper tM_RX0_81 rfl rfl ⟨Nat.le_of_ble_eq_true rfl, Nat.le_of_ble_eq_true rfl⟩ (c_pre hK hP) rfl hl.1 rfl (Nat.le_of_ble_eq_true rfl) dX0_like_10 ⟨Nat.le_of_ble_eq_true rfl, Nat.le_of_ble_eq_true rfl⟩ (fun r_10 hr_10 => ?_)
    rcases hr_10 with ⟨rfl, hr_10⟩ | ⟨rfl, hr_10⟩
    ·
      refine x_if_eq_T (tgt := 39) hx hb (by decide) dX0_like_13 (by decide) ?_
      refine lv_iconst (v := -1) hx hb dX0_like_39 (by decide) ?_
      refine W.iret (v := (-1)) hx hb hr (fun t9 ht9 hW9 => ⟨⟨_, (Z, X), rfl, ?_, cE_mk ht9 hP hK hW9 hD⟩, hS.F ht9⟩) hS.2.2 dX0_like_40
      first
      | (refine ⟨?_, rfl⟩; rw [fLik, if_neg (fun h => hr_2 h.1)]; done)
      | (refine ⟨?_, rfl⟩; rw [fLik, if_neg (fun h => hr_10 h.2.1)]; done)
      | (refine ⟨?_, rfl⟩; rw [fLik, if_neg (fun h => hr_17 h.2.2.1)]; done)
      | (refine ⟨?_, rfl⟩; rw [fLik, if_neg (fun h => hr_25 (gN_ex.mpr (by have h2 := h.2.2.2.1; rw [t_p] at h2; exact h2)))]; done)
      | (refine ⟨?_, rfl⟩; rw [fLik, if_neg (fun h => hr_33 (gN_ex.mpr (by have h2 := h.2.2.2.2; rw [t_q] at h2; exact h2)))]; done)
    ·
      have i_q := hr_10
      obtain ⟨q1, -, h_q1, rfl⟩ := inR_of i_q
      have t_q : tn (nI q1) = q1 := tn_nI (by omega)
      have hgm := gN_le hI q1
      refine x_if_eq_F (tgt := 39) hx hb (by decide) dX0_like_13 (by decide) ?_
      refine lv_iload_n hx hb dX0_like_16 rfl (lv_at hl 3 rfl) ?_
      refine r_Si (As := [.int t]) (rest := []) fx (ct_X0_isTotal l t) fyX0_isTotal tM_RX0_165 rfl rfl ⟨Nat.le_of_ble_eq_true rfl, Nat.le_of_ble_eq_true rfl⟩ rfl hl.1 rfl (Nat.le_of_ble_eq_true rfl) dX0_like_17 ⟨Nat.le_of_ble_eq_true rfl, Nat.le_of_ble_eq_true rfl⟩ (fun r_17 hr_17 => ?_)
      rcases hr_17 with ⟨rfl, hr_17⟩ | ⟨rfl, hr_17⟩
      ·
        refine x_if_eq_T (tgt := 39) hx hb (by decide) dX0_like_20 (by decide) ?_
        refine lv_iconst (v := -1) hx hb dX0_like_39 (by decide) ?_
        refine W.iret (v := (-1)) hx hb hr (fun t9 ht9 hW9 => ⟨⟨_, (Z, X), rfl, ?_, cE_mk ht9 hP hK hW9 hD⟩, hS.F ht9⟩) hS.2.2 dX0_like_40
        first
        | (refine ⟨?_, rfl⟩; rw [fLik, if_neg (fun h => hr_2 h.1)]; done)
        | (refine ⟨?_, rfl⟩; rw [fLik, if_neg (fun h => hr_10 h.2.1)]; done)
        | (refine ⟨?_, rfl⟩; rw [fLik, if_neg (fun h => hr_17 h.2.2.1)]; done)
        | (refine ⟨?_, rfl⟩; rw [fLik, if_neg (fun h => hr_25 (gN_ex.mpr (by have h2 := h.2.2.2.1; rw [t_p] at h2; exact h2)))]; done)
        | (refine ⟨?_, rfl⟩; rw [fLik, if_neg (fun h => hr_33 (gN_ex.mpr (by have h2 := h.2.2.2.2; rw [t_q] at h2; exact h2)))]; done)
      ·
        have i_t := hr_17
        refine x_if_eq_F (tgt := 39) hx hb (by decide) dX0_like_20 (by decide) ?_
        refine lv_aload_n hx hb dX0_like_23 rfl (lv_at hl 0 rfl) ?_
        refine lv_iload_n hx hb dX0_like_24 rfl (lv_at hl 1 rfl) ?_
        refine r_Vi (As := [.int (nI p1)]) (rest := []) fx (ct_X0_hasPupil l dC dI cy o a Z X p1 hI (by first | assumption | omega)) fyX0_hasPupil tM_RX0_84 rfl rfl ⟨Nat.le_of_ble_eq_true rfl, Nat.le_of_ble_eq_true rfl⟩ (c_pre hK hP) rfl hl.1 rfl (Nat.le_of_ble_eq_true rfl) dX0_like_25 ⟨Nat.le_of_ble_eq_true rfl, Nat.le_of_ble_eq_true rfl⟩ (fun r_25 hr_25 => ?_)
        rcases hr_25 with ⟨rfl, hr_25⟩ | ⟨rfl, hr_25⟩
        ·
          refine x_if_eq_T (tgt := 39) hx hb (by decide) dX0_like_28 (by decide) ?_
          refine lv_iconst (v := -1) hx hb dX0_like_39 (by decide) ?_
          refine W.iret (v := (-1)) hx hb hr (fun t9 ht9 hW9 => ⟨⟨_, (Z, X), rfl, ?_, cE_mk ht9 hP hK hW9 hD⟩, hS.F ht9⟩) hS.2.2 dX0_like_40
          first
          | (refine ⟨?_, rfl⟩; rw [fLik, if_neg (fun h => hr_2 h.1)]; done)
          | (refine ⟨?_, rfl⟩; rw [fLik, if_neg (fun h => hr_10 h.2.1)]; done)
          | (refine ⟨?_, rfl⟩; rw [fLik, if_neg (fun h => hr_17 h.2.2.1)]; done)
          | (refine ⟨?_, rfl⟩; rw [fLik, if_neg (fun h => hr_25 (gN_ex.mpr (by have h2 := h.2.2.2.1; rw [t_p] at h2; exact h2)))]; done)
          | (refine ⟨?_, rfl⟩; rw [fLik, if_neg (fun h => hr_33 (gN_ex.mpr (by have h2 := h.2.2.2.2; rw [t_q] at h2; exact h2)))]; done)
        ·
          have n_p := gN_ex.mp hr_25
          refine x_if_eq_F (tgt := 39) hx hb (by decide) dX0_like_28 (by decide) ?_
          refine lv_aload_n hx hb dX0_like_31 rfl (lv_at hl 0 rfl) ?_
          refine lv_iload_n hx hb dX0_like_32 rfl (lv_at hl 2 rfl) ?_
          refine r_Vi (As := [.int (nI q1)]) (rest := []) fx (ct_X0_hasPupil l dC dI cy o a Z X q1 hI (by first | assumption | omega)) fyX0_hasPupil tM_RX0_84 rfl rfl ⟨Nat.le_of_ble_eq_true rfl, Nat.le_of_ble_eq_true rfl⟩ (c_pre hK hP) rfl hl.1 rfl (Nat.le_of_ble_eq_true rfl) dX0_like_33 ⟨Nat.le_of_ble_eq_true rfl, Nat.le_of_ble_eq_true rfl⟩ (fun r_33 hr_33 => ?_)
          rcases hr_33 with ⟨rfl, hr_33⟩ | ⟨rfl, hr_33⟩
          ·
            refine x_if_ne_F (tgt := 41) hx hb (by decide) dX0_like_36 (by decide) ?_
            refine lv_iconst (v := -1) hx hb dX0_like_39 (by decide) ?_
            refine W.iret (v := (-1)) hx hb hr (fun t9 ht9 hW9 => ⟨⟨_, (Z, X), rfl, ?_, cE_mk ht9 hP hK hW9 hD⟩, hS.F ht9⟩) hS.2.2 dX0_like_40
            first
            | (refine ⟨?_, rfl⟩; rw [fLik, if_neg (fun h => hr_2 h.1)]; done)
            | (refine ⟨?_, rfl⟩; rw [fLik, if_neg (fun h => hr_10 h.2.1)]; done)
            | (refine ⟨?_, rfl⟩; rw [fLik, if_neg (fun h => hr_17 h.2.2.1)]; done)
            | (refine ⟨?_, rfl⟩; rw [fLik, if_neg (fun h => hr_25 (gN_ex.mpr (by have h2 := h.2.2.2.1; rw [t_p] at h2; exact h2)))]; done)
            | (refine ⟨?_, rfl⟩; rw [fLik, if_neg (fun h => hr_33 (gN_ex.mpr (by have h2 := h.2.2.2.2; rw [t_q] at h2; exact h2)))]; done)
          ·
            have n_q := gN_ex.mp hr_33
            refine x_if_ne_T (tgt := 41) hx hb (by decide) dX0_like_36 (by decide) ?_
            refine lv_aload_n hx hb dX0_like_41 rfl (lv_at hl 0 rfl) ?_
            refine lv_iload_n hx hb dX0_like_42 rfl (lv_at hl 1 rfl) ?_
            refine lv_aload_n hx hb dX0_like_43 rfl (lv_at hl 0 rfl) ?_
            refine r_Vi (As := []) (rest := [.int (nI p1), .ref o]) fx (ct_X0_countingSet l dC dI cy o a Z X ) fyX0_countingSet tM_RX0_117 rfl rfl ⟨Nat.le_of_ble_eq_true rfl, Nat.le_of_ble_eq_true rfl⟩ (c_pre hK hP) rfl hl.1 rfl (Nat.le_of_ble_eq_true rfl) dX0_like_44 ⟨Nat.le_of_ble_eq_true rfl, Nat.le_of_ble_eq_true rfl⟩ (fun r_44 hr_44 => ?_)
            subst hr_44
            refine c_Mi (As := [.int (nI p1), .int (nI (cset Z))]) (rest := []) fx (ct_X0_gatherSums l dC dI cy o a Z X _ p1 (cset Z) hI (by first | assumption | omega) (by first | assumption | omega)) fyX0_gatherSums tM_RX0_155 rfl rfl ⟨Nat.le_of_ble_eq_true rfl, Nat.le_of_ble_eq_true rfl⟩ hK hP hD hS hA rfl hl.1 rfl (Nat.le_of_ble_eq_true rfl) dX0_like_47 ⟨Nat.le_of_ble_eq_true rfl, Nat.le_of_ble_eq_true rfl⟩ (fun r_47 Z_47 X_47 H locs hw_47 hP hD hS => ?_)
            try dsimp only at hw_47
            obtain ⟨rfl, ez_47, hg_47⟩ := hw_47
            rw [ez_47] at hP hD
            have hgp := gat_tot hI hg_47
            refine lv_istore (lv' := [(4, .int (nI (gN Z p1))), (0, .ref o), (1, .int (nI p1)), (2, .int (nI q1)), (3, .int t)]) hx hb dX0_like_50 hl (by decide) rfl (fun ls hl => ?_)
            refine lv_aload_n hx hb dX0_like_52 rfl (lv_at hl 1 rfl) ?_
            refine lv_iload hx hb dX0_like_53 (lv_at hl 0 rfl) ?_
            refine lv_iload_n hx hb dX0_like_55 rfl (lv_at hl 4 rfl) ?_
            refine r_Vi (As := [.int (nI (gN Z p1)), .int t]) (rest := []) fx (ct_X0_rankInValues l dC dI cy o a Z X_47 (gN Z p1) t (by first | assumption | omega)) fyX0_rankInValues tM_RX0_172 rfl rfl ⟨Nat.le_of_ble_eq_true rfl, Nat.le_of_ble_eq_true rfl⟩ (c_pre hK hP) rfl hl.1 rfl (Nat.le_of_ble_eq_true rfl) dX0_like_56 ⟨Nat.le_of_ble_eq_true rfl, Nat.le_of_ble_eq_true rfl⟩ (fun r_56 hr_56 => ?_)
            subst hr_56
            rw [gat_R hgp]
            have hb1 := lk_bd hI p1 q1 t
            refine lv_istore (lv' := [(5, .int (nI (rnk Z p1 t))), (4, .int (nI (gN Z p1))), (0, .ref o), (1, .int (nI p1)), (2, .int (nI q1)), (3, .int t)]) hx hb dX0_like_59 hl (by decide) rfl (fun ls hl => ?_)
            refine lv_aload_n hx hb dX0_like_61 rfl (lv_at hl 2 rfl) ?_
            refine lv_iload_n hx hb dX0_like_62 rfl (lv_at hl 4 rfl) ?_
            refine lv_aload_n hx hb dX0_like_63 rfl (lv_at hl 2 rfl) ?_
            refine r_Vi (As := []) (rest := [.int (nI q1), .ref o]) fx (ct_X0_countingSet l dC dI cy o a Z X_47 ) fyX0_countingSet tM_RX0_117 rfl rfl ⟨Nat.le_of_ble_eq_true rfl, Nat.le_of_ble_eq_true rfl⟩ (c_pre hK hP) rfl hl.1 rfl (Nat.le_of_ble_eq_true rfl) dX0_like_64 ⟨Nat.le_of_ble_eq_true rfl, Nat.le_of_ble_eq_true rfl⟩ (fun r_64 hr_64 => ?_)
            subst hr_64
            refine c_Mi (As := [.int (nI q1), .int (nI (cset Z))]) (rest := []) fx (ct_X0_gatherSums l dC dI cy o a Z X_47 _ q1 (cset Z) hI (by first | assumption | omega) (by first | assumption | omega)) fyX0_gatherSums tM_RX0_155 rfl rfl ⟨Nat.le_of_ble_eq_true rfl, Nat.le_of_ble_eq_true rfl⟩ hK hP hD hS hA rfl hl.1 rfl (Nat.le_of_ble_eq_true rfl) dX0_like_67 ⟨Nat.le_of_ble_eq_true rfl, Nat.le_of_ble_eq_true rfl⟩ (fun r_67 Z_67 X_67 H locs hw_67 hP hD hS => ?_)
            try dsimp only at hw_67
            obtain ⟨rfl, ez_67, hg_67⟩ := hw_67
            rw [ez_67] at hP hD
            have hgq := gat_tot hI hg_67
            have hle := gat_le hI hg_67
            refine lv_istore (lv' := [(6, .int (nI (gN Z q1))), (5, .int (nI (rnk Z p1 t))), (4, .int (nI (gN Z p1))), (0, .ref o), (1, .int (nI p1)), (2, .int (nI q1)), (3, .int t)]) hx hb dX0_like_70 hl (by decide) rfl (fun ls hl => ?_)
            refine lv_bipush (v := nI 121) hx hb dX0_like_72 (by decide) ?_
            refine lv_istore (lv' := [(7, .int (nI 121)), (6, .int (nI (gN Z q1))), (5, .int (nI (rnk Z p1 t))), (4, .int (nI (gN Z p1))), (0, .ref o), (1, .int (nI p1)), (2, .int (nI q1)), (3, .int t)]) hx hb dX0_like_74 hl (by decide) rfl (fun ls hl => ?_)
            refine lv_iconst (v := nI 0) hx hb dX0_like_76 (by decide) ?_
            refine lv_istore (lv' := [(8, .int (nI 0)), (7, .int (nI 121)), (6, .int (nI (gN Z q1))), (5, .int (nI (rnk Z p1 t))), (4, .int (nI (gN Z p1))), (0, .ref o), (1, .int (nI p1)), (2, .int (nI q1)), (3, .int t)]) hx hb dX0_like_77 hl (by decide) rfl (fun ls hl => ?_)
            refine lv_iconst (v := nI 0) hx hb dX0_like_79 (by decide) ?_
            refine lv_istore (lv' := [(9, .int (nI 0)), (8, .int (nI 0)), (7, .int (nI 121)), (6, .int (nI (gN Z q1))), (5, .int (nI (rnk Z p1 t))), (4, .int (nI (gN Z p1))), (0, .ref o), (1, .int (nI p1)), (2, .int (nI q1)), (3, .int t)]) hx hb dX0_like_80 hl (by decide) rfl (fun ls hl => ?_)
            obtain ⟨j, ej⟩ : ∃ j : Nat, j = 0 := ⟨_, rfl⟩
            obtain ⟨lm, elm⟩ : ∃ lm : Nat, lm = 121 := ⟨_, rfl⟩
            obtain ⟨g, eg⟩ : ∃ g : Nat, g = 0 := ⟨_, rfl⟩
            replace hl : lv_has ls 10 [(9, .int (nI j)), (8, .int (nI g)), (7, .int (nI lm)), (6, .int (nI (gN Z q1))), (5, .int (nI (rnk Z p1 t))), (4, .int (nI (gN Z p1))), (0, .ref o), (1, .int (nI p1)), (2, .int (nI q1)), (3, .int t)] := by subst ej elm eg; exact lv_sub hl [0, 1, 2, 3, 4, 5, 6, 7, 8, 9] rfl
            have hj : j ≤ gN Z q1 := by subst ej elm eg; omega
            have hgb : g ≤ 120 := by subst ej elm eg; omega
            have hlb : lm ≤ 121 := by subst ej elm eg; omega
            have hk : lkI (X_67 0) (okL Z p1 q1 t) j lm g := by subst ej elm eg; exact lkI_0 _ _
            clear ej elm eg
            obtain ⟨n82, hn82⟩ : ∃ n_0 : Nat, gN Z q1 - j < n_0 := ⟨_, Nat.lt_succ_self _⟩
            induction n82 generalizing H locs j lm g ls with
            | zero => exact absurd hn82 (Nat.not_lt_zero _)
            | succ n82 ih82 =>
              refine lv_iload hx hb dX0_like_82 (lv_at hl 0 rfl) ?_
              refine lv_iload hx hb dX0_like_84 (lv_at hl 3 rfl) ?_
              refine x_icmp_ge (x := j) (y := gN Z q1) (tgt := 147) hx hb (by omega) (by omega) dX0_like_86 (by decide) (fun c_86 => ?_) (fun c_86 => ?_)
              ·
                refine lv_iload hx hb dX0_like_147 (lv_at hl 2 rfl) ?_
                refine lv_iload hx hb dX0_like_149 (lv_at hl 1 rfl) ?_
                refine va_mmin hx hb (by rw [hml]; exact hl.1.symm) hown (hts _ (ok_of tM_RX0_106 rfl)) (hts _ (ok_of tS_yJ9_min_7cf53 rfl)) (hts _ (ok_of tI_RJ9 rfl)) (hts _ (ok_of tK_yJ9_min_7cf53 rfl)) (Nat.le_of_ble_eq_true rfl) (Nat.le_of_ble_eq_true rfl) (Nat.le_of_ble_eq_true rfl) (Nat.le_of_ble_eq_true rfl) dX0_like_151 ?_
                rw [mn_nI (by omega) (by omega)]
                refine W.iret (v := (nI (min lm g))) hx hb hr (fun t9 ht9 hW9 => ⟨⟨_, (Z, X_67), rfl, ?_, cE_mk ht9 hP hK hW9 hD⟩, hS.F ht9⟩) hS.2.2 dX0_like_154
                obtain rfl : j = gN Z q1 := by omega
                exact ⟨by rw [fLik, if_pos ⟨i_p, i_q, i_t, by rw [t_p]; exact n_p, by rw [t_q]; exact n_q⟩, t_p, t_q, lkI_e hgq n_q hle hk], rfl⟩
              ·
                refine lv_iload hx hb dX0_like_89 (lv_at hl 1 rfl) ?_
                refine lv_aload_n hx hb dX0_like_91 rfl (lv_at hl 6 rfl) ?_
                refine c_g15 hx hb hts hown hK hP dX0_like_92 ?_
                refine lv_iload hx hb dX0_like_95 (lv_at hl 0 rfl) ?_
                refine c_l15 (j := j) hx hb hK hP (by omega) dX0_like_97 ?_
                have hv1 := hle j (by omega)
                refine va_mmax hx hb (by rw [hml]; exact hl.1.symm) hown (hts _ (ok_of tM_RX0_175 rfl)) (hts _ (ok_of tS_yJ9_max_7cf53 rfl)) (hts _ (ok_of tI_RJ9 rfl)) (hts _ (ok_of tK_yJ9_max_7cf53 rfl)) (Nat.le_of_ble_eq_true rfl) (Nat.le_of_ble_eq_true rfl) (Nat.le_of_ble_eq_true rfl) (Nat.le_of_ble_eq_true rfl) dX0_like_98 ?_
                rw [mx_nI (by omega) (by omega)]
                refine lv_istore (lv' := [(8, .int (nI (max g (X_67 0 j)))), (9, .int (nI j)), (7, .int (nI lm)), (6, .int (nI (gN Z q1))), (5, .int (nI (rnk Z p1 t))), (4, .int (nI (gN Z p1))), (0, .ref o), (1, .int (nI p1)), (2, .int (nI q1)), (3, .int t)]) hx hb dX0_like_101 hl (by decide) rfl (fun ls hl => ?_)
                refine lv_aload_n hx hb dX0_like_103 rfl (lv_at hl 6 rfl) ?_
                refine lv_iload hx hb dX0_like_104 (lv_at hl 3 rfl) ?_
                refine lv_aload_n hx hb dX0_like_106 rfl (lv_at hl 6 rfl) ?_
                refine c_g15 hx hb hts hown hK hP dX0_like_107 ?_
                refine lv_iload hx hb dX0_like_110 (lv_at hl 1 rfl) ?_
                refine c_l15 (j := j) hx hb hK hP (by omega) dX0_like_112 ?_
                refine r_Vi (As := [.int (nI (gN Z q1)), .int (nI (X_67 0 j))]) (rest := []) fx (ct_X0_rankInValues l dC dI cy o a Z X_67 (gN Z q1) ((nI (X_67 0 j))) (by first | assumption | omega)) fyX0_rankInValues tM_RX0_172 rfl rfl ⟨Nat.le_of_ble_eq_true rfl, Nat.le_of_ble_eq_true rfl⟩ (c_pre hK hP) rfl hl.1 rfl (Nat.le_of_ble_eq_true rfl) dX0_like_113 ⟨Nat.le_of_ble_eq_true rfl, Nat.le_of_ble_eq_true rfl⟩ (fun r_113 hr_113 => ?_)
                subst hr_113
                rw [gat_R hgq]
                have hb2 := lk_bd hI q1 p1 (nI (X_67 0 j))
                refine lv_iload hx hb dX0_like_116 (lv_at hl 5 rfl) ?_
                refine x_imul hx hb dX0_like_118 ?_
                refine lv_iload hx hb dX0_like_119 (lv_at hl 4 rfl) ?_
                refine lv_iload hx hb dX0_like_121 (lv_at hl 3 rfl) ?_
                refine x_imul hx hb dX0_like_123 ?_
                refine x_icmp_lt (x := (rnk Z q1 (nI (X_67 0 j))) * (gN Z p1)) (y := (rnk Z p1 t) * (gN Z q1)) (tgt := 141) hx hb (by omega) (by omega) dX0_like_124 (by decide) (fun c_124 => ?_) (fun c_124 => ?_)
                ·
                  refine lv_iinc (v := nI (j + 1)) (lv' := [(9, .int (nI (j + 1))), (8, .int (nI (max g (X_67 0 j)))), (7, .int (nI lm)), (6, .int (nI (gN Z q1))), (5, .int (nI (rnk Z p1 t))), (4, .int (nI (gN Z p1))), (0, .ref o), (1, .int (nI p1)), (2, .int (nI q1)), (3, .int t)]) hx hb dX0_like_141 hl (k := 1) rfl (x_inc1 _) (by decide) rfl (fun ls hl => ?_)
                  refine lv_goto (tgt := 82) hx hb dX0_like_144 (by decide) ?_
                  exact ih82 (H := H) (locs := locs) (ls := ls) (j := (j + 1)) (lm := lm) (g := (max g (X_67 0 j))) (hl := lv_sub hl [0, 1, 2, 3, 4, 5, 6, 7, 8, 9] rfl) (hP := hP) (hS := hS) (hj := (by omega)) (hgb := (by omega)) (hlb := (by omega)) (hk := (by first | exact lkI_n hk (Nat.not_le.mpr c_124) | exact lkI_y hk (Nat.le_of_not_lt c_124))) (hn82 := by omega)
                ·
                  refine lv_iload hx hb dX0_like_127 (lv_at hl 2 rfl) ?_
                  refine lv_aload_n hx hb dX0_like_129 rfl (lv_at hl 6 rfl) ?_
                  refine c_g15 hx hb hts hown hK hP dX0_like_130 ?_
                  refine lv_iload hx hb dX0_like_133 (lv_at hl 1 rfl) ?_
                  refine c_l15 (j := j) hx hb hK hP (by omega) dX0_like_135 ?_
                  refine va_mmin hx hb (by rw [hml]; exact hl.1.symm) hown (hts _ (ok_of tM_RX0_106 rfl)) (hts _ (ok_of tS_yJ9_min_7cf53 rfl)) (hts _ (ok_of tI_RJ9 rfl)) (hts _ (ok_of tK_yJ9_min_7cf53 rfl)) (Nat.le_of_ble_eq_true rfl) (Nat.le_of_ble_eq_true rfl) (Nat.le_of_ble_eq_true rfl) (Nat.le_of_ble_eq_true rfl) dX0_like_136 ?_
                  rw [mn_nI (by omega) (by omega)]
                  refine lv_istore (lv' := [(7, .int (nI (min lm (X_67 0 j)))), (8, .int (nI (max g (X_67 0 j)))), (9, .int (nI j)), (6, .int (nI (gN Z q1))), (5, .int (nI (rnk Z p1 t))), (4, .int (nI (gN Z p1))), (0, .ref o), (1, .int (nI p1)), (2, .int (nI q1)), (3, .int t)]) hx hb dX0_like_139 hl (by decide) rfl (fun ls hl => ?_)
                  refine lv_iinc (v := nI (j + 1)) (lv' := [(9, .int (nI (j + 1))), (7, .int (nI (min lm (X_67 0 j)))), (8, .int (nI (max g (X_67 0 j)))), (6, .int (nI (gN Z q1))), (5, .int (nI (rnk Z p1 t))), (4, .int (nI (gN Z p1))), (0, .ref o), (1, .int (nI p1)), (2, .int (nI q1)), (3, .int t)]) hx hb dX0_like_141 hl (k := 2) rfl (x_inc1 _) (by decide) rfl (fun ls hl => ?_)
                  refine lv_goto (tgt := 82) hx hb dX0_like_144 (by decide) ?_
                  exact ih82 (H := H) (locs := locs) (ls := ls) (j := (j + 1)) (lm := (min lm (X_67 0 j))) (g := (max g (X_67 0 j))) (hl := lv_sub hl [0, 2, 1, 3, 4, 5, 6, 7, 8, 9] rfl) (hP := hP) (hS := hS) (hj := (by omega)) (hgb := (by omega)) (hlb := (by omega)) (hk := (by first | exact lkI_n hk (Nat.not_le.mpr c_124) | exact lkI_y hk (Nat.le_of_not_lt c_124))) (hn82 := by omega)

set_option maxHeartbeats 4000000 in
set_option maxRecDepth 100000 in
theorem ct_X1_like (l : Launch) (dC : Nat → ClassId) (dI : Nat → Nat → Nat) (cy cz : ClassId) (o : Nat) (a : Nat → Nat) (Z : Nat → Nat → Nat) (G T K : Nat → Nat) (p : Int32) (q : Int32) (t : Int32) (hI : Inv Z) (hR : MRel Z G T K) : Met l yX1_like (wS yX1_like cX1_like 14 (Option.some Jvm.ClassFile.FieldType.int)) (rmF 4 94) (va_Pc [.ref o, .int p, .int q, .int t] (mR dC dI cy cz o a Z G T K)) (vp_Si (fun r => r = fLik Z p q t)) 0 0 (fun _ => False) := by
  refine Met.ofW (cc := cX1_like) (maxL := 14) (ret := (Option.some Jvm.ClassFile.FieldType.int)) (by decide) rfl ?_
  intro pg en sv mi ag bw mt cd s₁ BL hml hv
  obtain ⟨rfl, hP, hK⟩ := hv
  have hx := BL.exec
  have hb := BL.bytes
  have hr := BL.returns
  have hts : ∀ w ∈ lw_ok, w.before _ sv = true := fun w hw => atoms_spec (ws := wS yX1_like cX1_like 14 (Option.some Jvm.ClassFile.FieldType.int)) BL.pre w (List.mem_cons_of_mem _ hw)
  have hown : sv.vm.findClass RX1 = some mi.cls := findClass_of_methodNamed BL.named
  have hlocks := BL.notSynchronized
  have fx : CallFix pg mi cd cX1_like 14 sv _ lw_ok RX1 := ⟨hx, hb, hml, hown, hts⟩
  have hl := lv_entry ([.ref o, .int p, .int q, .int t]) (n := 14) (Nat.le_of_ble_eq_true rfl)
  rw [lg_entry_eq]
  generalize (lg_sl ([.ref o, .int p, .int q, .int t]) ++ List.replicate (14 - (lg_sl ([.ref o, .int p, .int q, .int t])).length) Slot.unset).toArray = ls at hl ⊢
  replace hl : lv_has ls 14 [(0, .ref o), (1, .int p), (2, .int q), (3, .int t)] := hl
  obtain ⟨b0, b1, b2⟩ := hI.bd
  refine lv_aload_n hx hb dX1_like_0 rfl (lv_at hl 0 rfl) ?_
  refine lv_iload_n hx hb dX1_like_1 rfl (lv_at hl 1 rfl) ?_
  refine r_Vi (As := [.int p]) (rest := []) fx (ct_X1_isPaper l dC dI cy cz o a Z G T K p hI) fyX1_isPaper tM_RX1_63 rfl rfl ⟨Nat.le_of_ble_eq_true rfl, Nat.le_of_ble_eq_true rfl⟩ (m_pre hK hP) rfl hl.1 rfl (Nat.le_of_ble_eq_true rfl) dX1_like_2 ⟨Nat.le_of_ble_eq_true rfl, Nat.le_of_ble_eq_true rfl⟩ (fun r_2 hr_2 => ?_)
  rcases hr_2 with ⟨rfl, hr_2⟩ | ⟨rfl, hr_2⟩
  ·
    refine x_if_eq_T (tgt := 27) hx hb (by decide) dX1_like_5 (by decide) ?_
    refine lv_iconst (v := -1) hx hb dX1_like_27 (by decide) ?_
    refine W.iret (v := (-1)) hx hb hr (fun t9 ht9 hW9 => ⟨_, rfl, ?_, ht9⟩) (fun q h => by cases h) dX1_like_28
    first
    | (rw [fLik, if_neg (fun h => hr_2 h.1)]; done)
    | (rw [fLik, if_neg (fun h => hr_10 h.2.1)]; done)
    | (rw [fLik, if_neg (fun h => hr_21 ((in_lh (by decide) (by decide)).mpr h.2.2.1))]; done)
  ·
    have i_p := hr_2
    obtain ⟨p1, -, h_p1, rfl⟩ := inR_of i_p
    have t_p : tn (nI p1) = p1 := tn_nI (by omega)
    have hgl := gN_le hI p1
    refine x_if_eq_F (tgt := 27) hx hb (by decide) dX1_like_5 (by decide) ?_
    refine lv_aload_n hx hb dX1_like_8 rfl (lv_at hl 0 rfl) ?_
    refine lv_iload_n hx hb dX1_like_9 rfl (lv_at hl 2 rfl) ?_
    refine r_Vi (As := [.int q]) (rest := []) fx (ct_X1_isPaper l dC dI cy cz o a Z G T K q hI) fyX1_isPaper tM_RX1_63 rfl rfl ⟨Nat.le_of_ble_eq_true rfl, Nat.le_of_ble_eq_true rfl⟩ (m_pre hK hP) rfl hl.1 rfl (Nat.le_of_ble_eq_true rfl) dX1_like_10 ⟨Nat.le_of_ble_eq_true rfl, Nat.le_of_ble_eq_true rfl⟩ (fun r_10 hr_10 => ?_)
    rcases hr_10 with ⟨rfl, hr_10⟩ | ⟨rfl, hr_10⟩
    ·
      refine x_if_eq_T (tgt := 27) hx hb (by decide) dX1_like_13 (by decide) ?_
      refine lv_iconst (v := -1) hx hb dX1_like_27 (by decide) ?_
      refine W.iret (v := (-1)) hx hb hr (fun t9 ht9 hW9 => ⟨_, rfl, ?_, ht9⟩) (fun q h => by cases h) dX1_like_28
      first
      | (rw [fLik, if_neg (fun h => hr_2 h.1)]; done)
      | (rw [fLik, if_neg (fun h => hr_10 h.2.1)]; done)
      | (rw [fLik, if_neg (fun h => hr_21 ((in_lh (by decide) (by decide)).mpr h.2.2.1))]; done)
    ·
      have i_q := hr_10
      obtain ⟨q1, -, h_q1, rfl⟩ := inR_of i_q
      have t_q : tn (nI q1) = q1 := tn_nI (by omega)
      have hgm := gN_le hI q1
      refine x_if_eq_F (tgt := 27) hx hb (by decide) dX1_like_13 (by decide) ?_
      refine lv_aload_n hx hb dX1_like_16 rfl (lv_at hl 0 rfl) ?_
      refine lv_iload_n hx hb dX1_like_17 rfl (lv_at hl 3 rfl) ?_
      refine lv_iconst (v := nI 0) hx hb dX1_like_18 (by decide) ?_
      refine lv_bipush (v := nI 120) hx hb dX1_like_19 (by decide) ?_
      refine r_Vi (As := [.int t, .int (nI 0), .int (nI 120)]) (rest := []) fx (ct_X1_in l dC dI cy cz o a Z G T K t ((nI 0)) ((nI 120))) fyX1_in tM_RX1_51 rfl rfl ⟨Nat.le_of_ble_eq_true rfl, Nat.le_of_ble_eq_true rfl⟩ (m_pre hK hP) rfl hl.1 rfl (Nat.le_of_ble_eq_true rfl) dX1_like_21 ⟨Nat.le_of_ble_eq_true rfl, Nat.le_of_ble_eq_true rfl⟩ (fun r_21 hr_21 => ?_)
      rcases hr_21 with ⟨rfl, hr_21⟩ | ⟨rfl, hr_21⟩
      ·
        refine x_if_ne_F (tgt := 29) hx hb (by decide) dX1_like_24 (by decide) ?_
        refine lv_iconst (v := -1) hx hb dX1_like_27 (by decide) ?_
        refine W.iret (v := (-1)) hx hb hr (fun t9 ht9 hW9 => ⟨_, rfl, ?_, ht9⟩) (fun q h => by cases h) dX1_like_28
        first
        | (rw [fLik, if_neg (fun h => hr_2 h.1)]; done)
        | (rw [fLik, if_neg (fun h => hr_10 h.2.1)]; done)
        | (rw [fLik, if_neg (fun h => hr_21 ((in_lh (by decide) (by decide)).mpr h.2.2.1))]; done)
      ·
        have i_t : inR t 0 121 := (in_lh (lo := 0) (hi := 120) (by decide) (by decide)).mp hr_21
        refine x_if_ne_T (tgt := 29) hx hb (by decide) dX1_like_24 (by decide) ?_
        refine lv_aload_n hx hb dX1_like_29 rfl (lv_at hl 0 rfl) ?_
        refine lv_iload_n hx hb dX1_like_30 rfl (lv_at hl 1 rfl) ?_
        refine r_Vi (As := [.int (nI p1)]) (rest := []) fx (ct_X1_groupSize l dC dI cy cz o a Z G T K p1 hI (by first | assumption | omega)) fyX1_groupSize tM_RX1_70 rfl rfl ⟨Nat.le_of_ble_eq_true rfl, Nat.le_of_ble_eq_true rfl⟩ (m_pre hK hP) rfl hl.1 rfl (Nat.le_of_ble_eq_true rfl) dX1_like_31 ⟨Nat.le_of_ble_eq_true rfl, Nat.le_of_ble_eq_true rfl⟩ (fun r_31 hr_31 => ?_)
        subst hr_31
        refine lv_i2l (v := lN (gN Z p1)) hx hb dX1_like_34 (nI_l (by omega)) ?_
        refine lv_lstore (lv' := [(4, .long (lN (gN Z p1))), (0, .ref o), (1, .int (nI p1)), (2, .int (nI q1)), (3, .int t)]) hx hb dX1_like_35 hl (by decide) rfl (fun ls hl => ?_)
        refine lv_aload_n hx hb dX1_like_37 rfl (lv_at hl 1 rfl) ?_
        refine lv_iload_n hx hb dX1_like_38 rfl (lv_at hl 3 rfl) ?_
        refine r_Vi (As := [.int (nI q1)]) (rest := []) fx (ct_X1_groupSize l dC dI cy cz o a Z G T K q1 hI (by first | assumption | omega)) fyX1_groupSize tM_RX1_70 rfl rfl ⟨Nat.le_of_ble_eq_true rfl, Nat.le_of_ble_eq_true rfl⟩ (m_pre hK hP) rfl hl.1 rfl (Nat.le_of_ble_eq_true rfl) dX1_like_39 ⟨Nat.le_of_ble_eq_true rfl, Nat.le_of_ble_eq_true rfl⟩ (fun r_39 hr_39 => ?_)
        subst hr_39
        refine lv_i2l (v := lN (gN Z q1)) hx hb dX1_like_42 (nI_l (by omega)) ?_
        refine lv_lstore (lv' := [(6, .long (lN (gN Z q1))), (4, .long (lN (gN Z p1))), (0, .ref o), (1, .int (nI p1)), (2, .int (nI q1)), (3, .int t)]) hx hb dX1_like_43 hl (by decide) rfl (fun ls hl => ?_)
        refine lv_lload hx hb dX1_like_45 (lv_at hl 1 rfl) ?_
        refine lv_lconst (v := lN 0) hx hb dX1_like_47 (by decide) ?_
        refine x_leq (x := (lN (gN Z p1))) (y := (lN 0)) (tgt := 59) hx hb dX1_like_48 dX1_like_49 (by decide) (fun c_48 => ?_) (fun c_48 => ?_)
        ·
          have n_p : gN Z p1 = 0 := (pk_lEQ (by omega) (by decide)).mp c_48
          refine lv_iconst (v := -1) hx hb dX1_like_59 (by decide) ?_
          refine W.iret (v := (-1)) hx hb hr (fun t9 ht9 hW9 => ⟨_, rfl, ?_, ht9⟩) (fun q h => by cases h) dX1_like_60
          first
          | (rw [fLik, if_neg (fun h => h.2.2.2.1 (by rw [t_p]; exact n_p))]; done)
          | (rw [fLik, if_neg (fun h => h.2.2.2.2 (by rw [t_q]; exact n_q))]; done)
        ·
          have n_p : ¬ gN Z p1 = 0 := fun h => c_48 (by rw [h])
          refine lv_lload hx hb dX1_like_52 (lv_at hl 0 rfl) ?_
          refine lv_lconst (v := lN 0) hx hb dX1_like_54 (by decide) ?_
          refine x_lne (x := (lN (gN Z q1))) (y := (lN 0)) (tgt := 61) hx hb dX1_like_55 dX1_like_56 (by decide) (fun c_55 => ?_) (fun c_55 => ?_)
          ·
            have n_q : ¬ gN Z q1 = 0 := fun h => c_55 (by rw [h])
            refine lv_iconst (v := -1) hx hb dX1_like_61 (by decide) ?_
            refine W.eq (g2 := F0 mi 62 ls [.int (gv 0)]) rfl ?_
            refine lv_istore (lv' := [(8, .int (gv 0)), (6, .long (lN (gN Z q1))), (4, .long (lN (gN Z p1))), (0, .ref o), (1, .int (nI p1)), (2, .int (nI q1)), (3, .int t)]) hx hb dX1_like_62 hl (by decide) rfl (fun ls hl => ?_)
            refine lv_iconst (v := -1) hx hb dX1_like_64 (by decide) ?_
            refine W.eq (g2 := F0 mi 65 ls [.int (gv 0)]) rfl ?_
            refine lv_istore (lv' := [(9, .int (gv 0)), (8, .int (gv 0)), (6, .long (lN (gN Z q1))), (4, .long (lN (gN Z p1))), (0, .ref o), (1, .int (nI p1)), (2, .int (nI q1)), (3, .int t)]) hx hb dX1_like_65 hl (by decide) rfl (fun ls hl => ?_)
            refine lv_aload_n hx hb dX1_like_67 rfl (lv_at hl 4 rfl) ?_
            refine lv_iload_n hx hb dX1_like_68 rfl (lv_at hl 5 rfl) ?_
            refine lv_iload_n hx hb dX1_like_69 rfl (lv_at hl 7 rfl) ?_
            refine r_Vl (As := [.int (nI p1), .int t]) (rest := []) fx (ct_X1_rankOf l dC dI cy cz o a Z G T K p1 t hI hR (by first | assumption | omega)) fyX1_rankOf tM_RX1_136 rfl rfl ⟨Nat.le_of_ble_eq_true rfl, Nat.le_of_ble_eq_true rfl⟩ (m_pre hK hP) rfl hl.1 rfl (Nat.le_of_ble_eq_true rfl) dX1_like_70 ⟨Nat.le_of_ble_eq_true rfl, Nat.le_of_ble_eq_true rfl⟩ (fun r_70 hr_70 => ?_)
            subst hr_70
            refine lv_lload hx hb dX1_like_73 (lv_at hl 2 rfl) ?_
            refine x_lmul hx hb dX1_like_75 ?_
            refine lv_lstore (lv' := [(10, .long (lN ((rnk Z p1 t) * (gN Z q1)))), (9, .int (gv 0)), (8, .int (gv 0)), (6, .long (lN (gN Z q1))), (4, .long (lN (gN Z p1))), (0, .ref o), (1, .int (nI p1)), (2, .int (nI q1)), (3, .int t)]) hx hb dX1_like_76 hl (by decide) rfl (fun ls hl => ?_)
            have hb1 := lk_bd hI p1 q1 t
            refine lv_iconst (v := nI 0) hx hb dX1_like_78 (by decide) ?_
            refine lv_istore (lv' := [(12, .int (nI 0)), (10, .long (lN ((rnk Z p1 t) * (gN Z q1)))), (9, .int (gv 0)), (8, .int (gv 0)), (6, .long (lN (gN Z q1))), (4, .long (lN (gN Z p1))), (0, .ref o), (1, .int (nI p1)), (2, .int (nI q1)), (3, .int t)]) hx hb dX1_like_79 hl (by decide) rfl (fun ls hl => ?_)
            obtain ⟨j, ej⟩ : ∃ j : Nat, j = 0 := ⟨_, rfl⟩
            obtain ⟨lm, elm⟩ : ∃ lm : Nat, lm = 0 := ⟨_, rfl⟩
            obtain ⟨g, eg⟩ : ∃ g : Nat, g = 0 := ⟨_, rfl⟩
            replace hl : lv_has ls 14 [(12, .int (nI j)), (10, .long (lN ((rnk Z p1 t) * (gN Z q1)))), (9, .int (gv g)), (8, .int (gv lm)), (6, .long (lN (gN Z q1))), (4, .long (lN (gN Z p1))), (0, .ref o), (1, .int (nI p1)), (2, .int (nI q1)), (3, .int t)] := by subst ej elm eg; exact lv_sub hl [0, 1, 2, 3, 4, 5, 6, 7, 8, 9] rfl
            have hj : j ≤ Z 0 2 := by subst ej elm eg; omega
            have hgb : g ≤ 121 ∧ lm ≤ 121 := by subst ej elm eg; omega
            have hm : lkM Z q1 (okL Z p1 q1 t) j lm g := by subst ej elm eg; exact lkM_0 _ _ _
            clear ej elm eg
            obtain ⟨n81, hn81⟩ : ∃ n_0 : Nat, Z 0 2 - j < n_0 := ⟨_, Nat.lt_succ_self _⟩
            induction n81 generalizing j lm g ls with
            | zero => exact absurd hn81 (Nat.not_lt_zero _)
            | succ n81 ih81 =>
              refine lv_iload hx hb dX1_like_81 (lv_at hl 0 rfl) ?_
              refine lv_aload_n hx hb dX1_like_83 rfl (lv_at hl 6 rfl) ?_
              refine m_g2 hx hb hts hown hK hP dX1_like_84 ?_
              refine x_icmp_ge (x := j) (y := Z 0 2) (tgt := 166) hx hb (by omega) (by omega) dX1_like_87 (by decide) (fun c_87 => ?_) (fun c_87 => ?_)
              ·
                refine lv_iload hx hb dX1_like_166 (lv_at hl 3 rfl) ?_
                refine lv_if_ge (tgt := 176) hx hb dX1_like_168 (by decide) (fun c_168 => ?_) (fun c_168 => ?_)
                ·
                  have hl0 : ¬ lm = 0 := (gv_ge0 (by omega)).mp c_168
                  refine lv_iload hx hb dX1_like_176 (lv_at hl 3 rfl) ?_
                  refine W.iret (v := (gv lm)) hx hb hr (fun t9 ht9 hW9 => ⟨_, rfl, ?_, ht9⟩) (fun q h => by cases h) dX1_like_178
                  obtain rfl : j = Z 0 2 := by omega
                  have hfe := lkM_e n_q hm
                  first
                  | (rw [if_pos hl0] at hfe; rw [fLik, if_pos ⟨i_p, i_q, i_t, by rw [t_p]; exact n_p, by rw [t_q]; exact n_q⟩, t_p, t_q, ← hfe, gv_s]; done)
                  | (rw [if_neg hl0] at hfe; rw [fLik, if_pos ⟨i_p, i_q, i_t, by rw [t_p]; exact n_p, by rw [t_q]; exact n_q⟩, t_p, t_q, ← hfe, gv_s]; done)
                ·
                  have hl0 : lm = 0 := Classical.byContradiction (fun h => c_168 ((gv_ge0 (by omega)).mpr h))
                  refine lv_iload hx hb dX1_like_171 (lv_at hl 2 rfl) ?_
                  refine lv_goto (tgt := 178) hx hb dX1_like_173 (by decide) ?_
                  refine W.iret (v := (gv g)) hx hb hr (fun t9 ht9 hW9 => ⟨_, rfl, ?_, ht9⟩) (fun q h => by cases h) dX1_like_178
                  obtain rfl : j = Z 0 2 := by omega
                  have hfe := lkM_e n_q hm
                  first
                  | (rw [if_pos hl0] at hfe; rw [fLik, if_pos ⟨i_p, i_q, i_t, by rw [t_p]; exact n_p, by rw [t_q]; exact n_q⟩, t_p, t_q, ← hfe, gv_s]; done)
                  | (rw [if_neg hl0] at hfe; rw [fLik, if_pos ⟨i_p, i_q, i_t, by rw [t_p]; exact n_p, by rw [t_q]; exact n_q⟩, t_p, t_q, ← hfe, gv_s]; done)
              ·
                have hpu := hI.pu (u := j) (by omega)
                have htl := tot_le hI (u := j) (by omega)
                have hb2 := lk_bd hI q1 p1 (nI (tot Z j))
                refine lv_aload_n hx hb dX1_like_90 rfl (lv_at hl 6 rfl) ?_
                refine m_g9 hx hb hts hown hK hP dX1_like_91 ?_
                refine lv_iload hx hb dX1_like_94 (lv_at hl 0 rfl) ?_
                refine m_l9 (j := j) hx hb hK hP (by omega) dX1_like_96 ?_
                refine lv_iload_n hx hb dX1_like_97 rfl (lv_at hl 8 rfl) ?_
                refine x_icmp_eq (x := Z 11 j) (y := q1) (tgt := 104) hx hb (by omega) (by omega) dX1_like_98 (by decide) (fun c_98 => ?_) (fun c_98 => ?_)
                ·
                  refine lv_aload_n hx hb dX1_like_104 rfl (lv_at hl 6 rfl) ?_
                  refine lv_iload hx hb dX1_like_105 (lv_at hl 0 rfl) ?_
                  refine r_Vi (As := [.int (nI j)]) (rest := []) fx (ct_X1_totalOf l dC dI cy cz o a Z G T K j hI hR (by first | assumption | omega)) fyX1_totalOf tM_RX1_97 rfl rfl ⟨Nat.le_of_ble_eq_true rfl, Nat.le_of_ble_eq_true rfl⟩ (m_pre hK hP) rfl hl.1 rfl (Nat.le_of_ble_eq_true rfl) dX1_like_107 ⟨Nat.le_of_ble_eq_true rfl, Nat.le_of_ble_eq_true rfl⟩ (fun r_107 hr_107 => ?_)
                  subst hr_107
                  refine lv_istore (lv' := [(13, .int (nI (tot Z j))), (12, .int (nI j)), (10, .long (lN ((rnk Z p1 t) * (gN Z q1)))), (9, .int (gv g)), (8, .int (gv lm)), (6, .long (lN (gN Z q1))), (4, .long (lN (gN Z p1))), (0, .ref o), (1, .int (nI p1)), (2, .int (nI q1)), (3, .int t)]) hx hb dX1_like_110 hl (by decide) rfl (fun ls hl => ?_)
                  refine lv_iload hx hb dX1_like_112 (lv_at hl 0 rfl) ?_
                  refine lv_iload hx hb dX1_like_114 (lv_at hl 3 rfl) ?_
                  refine lv_icmp_le (tgt := 124) hx hb dX1_like_116 (by decide) (fun c_116 => ?_) (fun c_116 => ?_)
                  ·
                    have hgx : max g (tot Z j + 1) = g := by have h2 := (nI_gv (by omega) (by omega)).mp c_116; clear hm; omega
                    refine lv_iload hx hb dX1_like_124 (lv_at hl 3 rfl) ?_
                    refine lv_istore (lv' := [(9, .int (gv g)), (13, .int (nI (tot Z j))), (12, .int (nI j)), (10, .long (lN ((rnk Z p1 t) * (gN Z q1)))), (8, .int (gv lm)), (6, .long (lN (gN Z q1))), (4, .long (lN (gN Z p1))), (0, .ref o), (1, .int (nI p1)), (2, .int (nI q1)), (3, .int t)]) hx hb dX1_like_126 hl (by decide) rfl (fun ls hl => ?_)
                    refine lv_aload_n hx hb dX1_like_128 rfl (lv_at hl 7 rfl) ?_
                    refine lv_iload_n hx hb dX1_like_129 rfl (lv_at hl 9 rfl) ?_
                    refine lv_iload hx hb dX1_like_130 (lv_at hl 1 rfl) ?_
                    refine r_Vl (As := [.int (nI q1), .int (nI (tot Z j))]) (rest := []) fx (ct_X1_rankOf l dC dI cy cz o a Z G T K q1 ((nI (tot Z j))) hI hR (by first | assumption | omega)) fyX1_rankOf tM_RX1_136 rfl rfl ⟨Nat.le_of_ble_eq_true rfl, Nat.le_of_ble_eq_true rfl⟩ (m_pre hK hP) rfl hl.1 rfl (Nat.le_of_ble_eq_true rfl) dX1_like_132 ⟨Nat.le_of_ble_eq_true rfl, Nat.le_of_ble_eq_true rfl⟩ (fun r_132 hr_132 => ?_)
                    subst hr_132
                    refine lv_lload hx hb dX1_like_135 (lv_at hl 6 rfl) ?_
                    refine x_lmul hx hb dX1_like_137 ?_
                    refine lv_lload hx hb dX1_like_138 (lv_at hl 3 rfl) ?_
                    refine x_llt (x := (lN ((rnk Z q1 ((nI (tot Z j)))) * (gN Z p1)))) (y := (lN ((rnk Z p1 t) * (gN Z q1)))) (tgt := 160) hx hb dX1_like_140 dX1_like_141 (by decide) (fun c_140 => ?_) (fun c_140 => ?_)
                    ·
                      have hok : ¬ okL Z p1 q1 t (tot Z j) := Nat.not_le.mpr ((pk_lLT (by omega) (by omega)).mp c_140)
                      refine lv_iinc (v := nI (j + 1)) (lv' := [(12, .int (nI (j + 1))), (9, .int (gv g)), (13, .int (nI (tot Z j))), (10, .long (lN ((rnk Z p1 t) * (gN Z q1)))), (8, .int (gv lm)), (6, .long (lN (gN Z q1))), (4, .long (lN (gN Z p1))), (0, .ref o), (1, .int (nI p1)), (2, .int (nI q1)), (3, .int t)]) hx hb dX1_like_160 hl (k := 2) rfl (x_inc1 _) (by decide) rfl (fun ls hl => ?_)
                      refine lv_goto (tgt := 81) hx hb dX1_like_163 (by decide) ?_
                      exact ih81 ls (j + 1) lm g (lv_sub hl [0, 3, 1, 4, 5, 6, 7, 8, 9, 10] rfl) (by omega) (by omega) (by first | exact lkM_no hm c_98 | exact lkM_st hm c_98 hgx (Or.inl ⟨hok, rfl⟩) | exact lkM_st hm c_98 hgx (Or.inr ⟨hok, Or.inl ⟨Or.inl hl0, rfl⟩⟩) | exact lkM_st hm c_98 hgx (Or.inr ⟨hok, Or.inl ⟨Or.inr hl1, rfl⟩⟩) | exact lkM_st hm c_98 hgx (Or.inr ⟨hok, Or.inr ⟨hl0, hl1, rfl⟩⟩)) (by omega)
                    ·
                      have hok : okL Z p1 q1 t (tot Z j) := Nat.le_of_not_lt (fun h => c_140 ((pk_lLT (by omega) (by omega)).mpr h))
                      refine lv_iload hx hb dX1_like_144 (lv_at hl 4 rfl) ?_
                      refine lv_if_lt (tgt := 156) hx hb dX1_like_146 (by decide) (fun c_146 => ?_) (fun c_146 => ?_)
                      ·
                        have hl0 : lm = 0 := (gv_lt0 (by omega)).mp c_146
                        refine lv_iload hx hb dX1_like_156 (lv_at hl 1 rfl) ?_
                        refine W.eq (g2 := F0 mi 158 ls [.int (gv (tot Z j + 1))]) (by rw [gv_s]) ?_
                        refine lv_istore (lv' := [(8, .int (gv (tot Z j + 1))), (9, .int (gv g)), (13, .int (nI (tot Z j))), (12, .int (nI j)), (10, .long (lN ((rnk Z p1 t) * (gN Z q1)))), (6, .long (lN (gN Z q1))), (4, .long (lN (gN Z p1))), (0, .ref o), (1, .int (nI p1)), (2, .int (nI q1)), (3, .int t)]) hx hb dX1_like_158 hl (by decide) rfl (fun ls hl => ?_)
                        refine lv_iinc (v := nI (j + 1)) (lv' := [(12, .int (nI (j + 1))), (8, .int (gv (tot Z j + 1))), (9, .int (gv g)), (13, .int (nI (tot Z j))), (10, .long (lN ((rnk Z p1 t) * (gN Z q1)))), (6, .long (lN (gN Z q1))), (4, .long (lN (gN Z p1))), (0, .ref o), (1, .int (nI p1)), (2, .int (nI q1)), (3, .int t)]) hx hb dX1_like_160 hl (k := 3) rfl (x_inc1 _) (by decide) rfl (fun ls hl => ?_)
                        refine lv_goto (tgt := 81) hx hb dX1_like_163 (by decide) ?_
                        exact ih81 ls (j + 1) (tot Z j + 1) g (lv_sub hl [0, 4, 2, 1, 5, 6, 7, 8, 9, 10] rfl) (by omega) (by omega) (by first | exact lkM_no hm c_98 | exact lkM_st hm c_98 hgx (Or.inl ⟨hok, rfl⟩) | exact lkM_st hm c_98 hgx (Or.inr ⟨hok, Or.inl ⟨Or.inl hl0, rfl⟩⟩) | exact lkM_st hm c_98 hgx (Or.inr ⟨hok, Or.inl ⟨Or.inr hl1, rfl⟩⟩) | exact lkM_st hm c_98 hgx (Or.inr ⟨hok, Or.inr ⟨hl0, hl1, rfl⟩⟩)) (by omega)
                      ·
                        have hl0 : lm ≠ 0 := fun h => c_146 ((gv_lt0 (by omega)).mpr h)
                        refine lv_iload hx hb dX1_like_149 (lv_at hl 1 rfl) ?_
                        refine lv_iload hx hb dX1_like_151 (lv_at hl 4 rfl) ?_
                        refine lv_icmp_ge (tgt := 160) hx hb dX1_like_153 (by decide) (fun c_153 => ?_) (fun c_153 => ?_)
                        ·
                          have hl1 : lm ≤ tot Z j + 1 := (gv_nI (by omega) (by omega)).mp c_153
                          refine lv_iinc (v := nI (j + 1)) (lv' := [(12, .int (nI (j + 1))), (9, .int (gv g)), (13, .int (nI (tot Z j))), (10, .long (lN ((rnk Z p1 t) * (gN Z q1)))), (8, .int (gv lm)), (6, .long (lN (gN Z q1))), (4, .long (lN (gN Z p1))), (0, .ref o), (1, .int (nI p1)), (2, .int (nI q1)), (3, .int t)]) hx hb dX1_like_160 hl (k := 2) rfl (x_inc1 _) (by decide) rfl (fun ls hl => ?_)
                          refine lv_goto (tgt := 81) hx hb dX1_like_163 (by decide) ?_
                          exact ih81 ls (j + 1) lm g (lv_sub hl [0, 3, 1, 4, 5, 6, 7, 8, 9, 10] rfl) (by omega) (by omega) (by first | exact lkM_no hm c_98 | exact lkM_st hm c_98 hgx (Or.inl ⟨hok, rfl⟩) | exact lkM_st hm c_98 hgx (Or.inr ⟨hok, Or.inl ⟨Or.inl hl0, rfl⟩⟩) | exact lkM_st hm c_98 hgx (Or.inr ⟨hok, Or.inl ⟨Or.inr hl1, rfl⟩⟩) | exact lkM_st hm c_98 hgx (Or.inr ⟨hok, Or.inr ⟨hl0, hl1, rfl⟩⟩)) (by omega)
                        ·
                          have hl1 : tot Z j + 1 < lm := Nat.lt_of_not_le (fun h => c_153 ((gv_nI (by omega) (by omega)).mpr h))
                          refine lv_iload hx hb dX1_like_156 (lv_at hl 1 rfl) ?_
                          refine W.eq (g2 := F0 mi 158 ls [.int (gv (tot Z j + 1))]) (by rw [gv_s]) ?_
                          refine lv_istore (lv' := [(8, .int (gv (tot Z j + 1))), (9, .int (gv g)), (13, .int (nI (tot Z j))), (12, .int (nI j)), (10, .long (lN ((rnk Z p1 t) * (gN Z q1)))), (6, .long (lN (gN Z q1))), (4, .long (lN (gN Z p1))), (0, .ref o), (1, .int (nI p1)), (2, .int (nI q1)), (3, .int t)]) hx hb dX1_like_158 hl (by decide) rfl (fun ls hl => ?_)
                          refine lv_iinc (v := nI (j + 1)) (lv' := [(12, .int (nI (j + 1))), (8, .int (gv (tot Z j + 1))), (9, .int (gv g)), (13, .int (nI (tot Z j))), (10, .long (lN ((rnk Z p1 t) * (gN Z q1)))), (6, .long (lN (gN Z q1))), (4, .long (lN (gN Z p1))), (0, .ref o), (1, .int (nI p1)), (2, .int (nI q1)), (3, .int t)]) hx hb dX1_like_160 hl (k := 3) rfl (x_inc1 _) (by decide) rfl (fun ls hl => ?_)
                          refine lv_goto (tgt := 81) hx hb dX1_like_163 (by decide) ?_
                          exact ih81 ls (j + 1) (tot Z j + 1) g (lv_sub hl [0, 4, 2, 1, 5, 6, 7, 8, 9, 10] rfl) (by omega) (by omega) (by first | exact lkM_no hm c_98 | exact lkM_st hm c_98 hgx (Or.inl ⟨hok, rfl⟩) | exact lkM_st hm c_98 hgx (Or.inr ⟨hok, Or.inl ⟨Or.inl hl0, rfl⟩⟩) | exact lkM_st hm c_98 hgx (Or.inr ⟨hok, Or.inl ⟨Or.inr hl1, rfl⟩⟩) | exact lkM_st hm c_98 hgx (Or.inr ⟨hok, Or.inr ⟨hl0, hl1, rfl⟩⟩)) (by omega)
                  ·
                    have hgx : max g (tot Z j + 1) = tot Z j + 1 := by have h2 := Nat.lt_of_not_le (fun h => c_116 ((nI_gv (by omega) (by omega)).mpr h)); clear hm; omega
                    refine lv_iload hx hb dX1_like_119 (lv_at hl 0 rfl) ?_
                    refine W.eq (g2 := F0 mi 121 ls [.int (gv (tot Z j + 1))]) (by rw [gv_s]) ?_
                    refine lv_goto (tgt := 126) hx hb dX1_like_121 (by decide) ?_
                    refine lv_istore (lv' := [(9, .int (gv (tot Z j + 1))), (13, .int (nI (tot Z j))), (12, .int (nI j)), (10, .long (lN ((rnk Z p1 t) * (gN Z q1)))), (8, .int (gv lm)), (6, .long (lN (gN Z q1))), (4, .long (lN (gN Z p1))), (0, .ref o), (1, .int (nI p1)), (2, .int (nI q1)), (3, .int t)]) hx hb dX1_like_126 hl (by decide) rfl (fun ls hl => ?_)
                    refine lv_aload_n hx hb dX1_like_128 rfl (lv_at hl 7 rfl) ?_
                    refine lv_iload_n hx hb dX1_like_129 rfl (lv_at hl 9 rfl) ?_
                    refine lv_iload hx hb dX1_like_130 (lv_at hl 1 rfl) ?_
                    refine r_Vl (As := [.int (nI q1), .int (nI (tot Z j))]) (rest := []) fx (ct_X1_rankOf l dC dI cy cz o a Z G T K q1 ((nI (tot Z j))) hI hR (by first | assumption | omega)) fyX1_rankOf tM_RX1_136 rfl rfl ⟨Nat.le_of_ble_eq_true rfl, Nat.le_of_ble_eq_true rfl⟩ (m_pre hK hP) rfl hl.1 rfl (Nat.le_of_ble_eq_true rfl) dX1_like_132 ⟨Nat.le_of_ble_eq_true rfl, Nat.le_of_ble_eq_true rfl⟩ (fun r_132 hr_132 => ?_)
                    subst hr_132
                    refine lv_lload hx hb dX1_like_135 (lv_at hl 6 rfl) ?_
                    refine x_lmul hx hb dX1_like_137 ?_
                    refine lv_lload hx hb dX1_like_138 (lv_at hl 3 rfl) ?_
                    refine x_llt (x := (lN ((rnk Z q1 ((nI (tot Z j)))) * (gN Z p1)))) (y := (lN ((rnk Z p1 t) * (gN Z q1)))) (tgt := 160) hx hb dX1_like_140 dX1_like_141 (by decide) (fun c_140 => ?_) (fun c_140 => ?_)
                    ·
                      have hok : ¬ okL Z p1 q1 t (tot Z j) := Nat.not_le.mpr ((pk_lLT (by omega) (by omega)).mp c_140)
                      refine lv_iinc (v := nI (j + 1)) (lv' := [(12, .int (nI (j + 1))), (9, .int (gv (tot Z j + 1))), (13, .int (nI (tot Z j))), (10, .long (lN ((rnk Z p1 t) * (gN Z q1)))), (8, .int (gv lm)), (6, .long (lN (gN Z q1))), (4, .long (lN (gN Z p1))), (0, .ref o), (1, .int (nI p1)), (2, .int (nI q1)), (3, .int t)]) hx hb dX1_like_160 hl (k := 2) rfl (x_inc1 _) (by decide) rfl (fun ls hl => ?_)
                      refine lv_goto (tgt := 81) hx hb dX1_like_163 (by decide) ?_
                      exact ih81 ls (j + 1) lm (tot Z j + 1) (lv_sub hl [0, 3, 1, 4, 5, 6, 7, 8, 9, 10] rfl) (by omega) (by omega) (by first | exact lkM_no hm c_98 | exact lkM_st hm c_98 hgx (Or.inl ⟨hok, rfl⟩) | exact lkM_st hm c_98 hgx (Or.inr ⟨hok, Or.inl ⟨Or.inl hl0, rfl⟩⟩) | exact lkM_st hm c_98 hgx (Or.inr ⟨hok, Or.inl ⟨Or.inr hl1, rfl⟩⟩) | exact lkM_st hm c_98 hgx (Or.inr ⟨hok, Or.inr ⟨hl0, hl1, rfl⟩⟩)) (by omega)
                    ·
                      have hok : okL Z p1 q1 t (tot Z j) := Nat.le_of_not_lt (fun h => c_140 ((pk_lLT (by omega) (by omega)).mpr h))
                      refine lv_iload hx hb dX1_like_144 (lv_at hl 4 rfl) ?_
                      refine lv_if_lt (tgt := 156) hx hb dX1_like_146 (by decide) (fun c_146 => ?_) (fun c_146 => ?_)
                      ·
                        have hl0 : lm = 0 := (gv_lt0 (by omega)).mp c_146
                        refine lv_iload hx hb dX1_like_156 (lv_at hl 1 rfl) ?_
                        refine W.eq (g2 := F0 mi 158 ls [.int (gv (tot Z j + 1))]) (by rw [gv_s]) ?_
                        refine lv_istore (lv' := [(8, .int (gv (tot Z j + 1))), (9, .int (gv (tot Z j + 1))), (13, .int (nI (tot Z j))), (12, .int (nI j)), (10, .long (lN ((rnk Z p1 t) * (gN Z q1)))), (6, .long (lN (gN Z q1))), (4, .long (lN (gN Z p1))), (0, .ref o), (1, .int (nI p1)), (2, .int (nI q1)), (3, .int t)]) hx hb dX1_like_158 hl (by decide) rfl (fun ls hl => ?_)
                        refine lv_iinc (v := nI (j + 1)) (lv' := [(12, .int (nI (j + 1))), (8, .int (gv (tot Z j + 1))), (9, .int (gv (tot Z j + 1))), (13, .int (nI (tot Z j))), (10, .long (lN ((rnk Z p1 t) * (gN Z q1)))), (6, .long (lN (gN Z q1))), (4, .long (lN (gN Z p1))), (0, .ref o), (1, .int (nI p1)), (2, .int (nI q1)), (3, .int t)]) hx hb dX1_like_160 hl (k := 3) rfl (x_inc1 _) (by decide) rfl (fun ls hl => ?_)
                        refine lv_goto (tgt := 81) hx hb dX1_like_163 (by decide) ?_
                        exact ih81 ls (j + 1) (tot Z j + 1) (tot Z j + 1) (lv_sub hl [0, 4, 2, 1, 5, 6, 7, 8, 9, 10] rfl) (by omega) (by omega) (by first | exact lkM_no hm c_98 | exact lkM_st hm c_98 hgx (Or.inl ⟨hok, rfl⟩) | exact lkM_st hm c_98 hgx (Or.inr ⟨hok, Or.inl ⟨Or.inl hl0, rfl⟩⟩) | exact lkM_st hm c_98 hgx (Or.inr ⟨hok, Or.inl ⟨Or.inr hl1, rfl⟩⟩) | exact lkM_st hm c_98 hgx (Or.inr ⟨hok, Or.inr ⟨hl0, hl1, rfl⟩⟩)) (by omega)
                      ·
                        have hl0 : lm ≠ 0 := fun h => c_146 ((gv_lt0 (by omega)).mpr h)
                        refine lv_iload hx hb dX1_like_149 (lv_at hl 1 rfl) ?_
                        refine lv_iload hx hb dX1_like_151 (lv_at hl 4 rfl) ?_
                        refine lv_icmp_ge (tgt := 160) hx hb dX1_like_153 (by decide) (fun c_153 => ?_) (fun c_153 => ?_)
                        ·
                          have hl1 : lm ≤ tot Z j + 1 := (gv_nI (by omega) (by omega)).mp c_153
                          refine lv_iinc (v := nI (j + 1)) (lv' := [(12, .int (nI (j + 1))), (9, .int (gv (tot Z j + 1))), (13, .int (nI (tot Z j))), (10, .long (lN ((rnk Z p1 t) * (gN Z q1)))), (8, .int (gv lm)), (6, .long (lN (gN Z q1))), (4, .long (lN (gN Z p1))), (0, .ref o), (1, .int (nI p1)), (2, .int (nI q1)), (3, .int t)]) hx hb dX1_like_160 hl (k := 2) rfl (x_inc1 _) (by decide) rfl (fun ls hl => ?_)
                          refine lv_goto (tgt := 81) hx hb dX1_like_163 (by decide) ?_
                          exact ih81 ls (j + 1) lm (tot Z j + 1) (lv_sub hl [0, 3, 1, 4, 5, 6, 7, 8, 9, 10] rfl) (by omega) (by omega) (by first | exact lkM_no hm c_98 | exact lkM_st hm c_98 hgx (Or.inl ⟨hok, rfl⟩) | exact lkM_st hm c_98 hgx (Or.inr ⟨hok, Or.inl ⟨Or.inl hl0, rfl⟩⟩) | exact lkM_st hm c_98 hgx (Or.inr ⟨hok, Or.inl ⟨Or.inr hl1, rfl⟩⟩) | exact lkM_st hm c_98 hgx (Or.inr ⟨hok, Or.inr ⟨hl0, hl1, rfl⟩⟩)) (by omega)
                        ·
                          have hl1 : tot Z j + 1 < lm := Nat.lt_of_not_le (fun h => c_153 ((gv_nI (by omega) (by omega)).mpr h))
                          refine lv_iload hx hb dX1_like_156 (lv_at hl 1 rfl) ?_
                          refine W.eq (g2 := F0 mi 158 ls [.int (gv (tot Z j + 1))]) (by rw [gv_s]) ?_
                          refine lv_istore (lv' := [(8, .int (gv (tot Z j + 1))), (9, .int (gv (tot Z j + 1))), (13, .int (nI (tot Z j))), (12, .int (nI j)), (10, .long (lN ((rnk Z p1 t) * (gN Z q1)))), (6, .long (lN (gN Z q1))), (4, .long (lN (gN Z p1))), (0, .ref o), (1, .int (nI p1)), (2, .int (nI q1)), (3, .int t)]) hx hb dX1_like_158 hl (by decide) rfl (fun ls hl => ?_)
                          refine lv_iinc (v := nI (j + 1)) (lv' := [(12, .int (nI (j + 1))), (8, .int (gv (tot Z j + 1))), (9, .int (gv (tot Z j + 1))), (13, .int (nI (tot Z j))), (10, .long (lN ((rnk Z p1 t) * (gN Z q1)))), (6, .long (lN (gN Z q1))), (4, .long (lN (gN Z p1))), (0, .ref o), (1, .int (nI p1)), (2, .int (nI q1)), (3, .int t)]) hx hb dX1_like_160 hl (k := 3) rfl (x_inc1 _) (by decide) rfl (fun ls hl => ?_)
                          refine lv_goto (tgt := 81) hx hb dX1_like_163 (by decide) ?_
                          exact ih81 ls (j + 1) (tot Z j + 1) (tot Z j + 1) (lv_sub hl [0, 4, 2, 1, 5, 6, 7, 8, 9, 10] rfl) (by omega) (by omega) (by first | exact lkM_no hm c_98 | exact lkM_st hm c_98 hgx (Or.inl ⟨hok, rfl⟩) | exact lkM_st hm c_98 hgx (Or.inr ⟨hok, Or.inl ⟨Or.inl hl0, rfl⟩⟩) | exact lkM_st hm c_98 hgx (Or.inr ⟨hok, Or.inl ⟨Or.inr hl1, rfl⟩⟩) | exact lkM_st hm c_98 hgx (Or.inr ⟨hok, Or.inr ⟨hl0, hl1, rfl⟩⟩)) (by omega)
                ·
                  refine lv_goto (tgt := 160) hx hb dX1_like_101 (by decide) ?_
                  refine lv_iinc (v := nI (j + 1)) (lv' := [(12, .int (nI (j + 1))), (10, .long (lN ((rnk Z p1 t) * (gN Z q1)))), (9, .int (gv g)), (8, .int (gv lm)), (6, .long (lN (gN Z q1))), (4, .long (lN (gN Z p1))), (0, .ref o), (1, .int (nI p1)), (2, .int (nI q1)), (3, .int t)]) hx hb dX1_like_160 hl (k := 0) rfl (x_inc1 _) (by decide) rfl (fun ls hl => ?_)
                  refine lv_goto (tgt := 81) hx hb dX1_like_163 (by decide) ?_
                  exact ih81 ls (j + 1) lm g (lv_sub hl [0, 1, 2, 3, 4, 5, 6, 7, 8, 9] rfl) (by omega) (by omega) (by first | exact lkM_no hm c_98 | exact lkM_st hm c_98 hgx (Or.inl ⟨hok, rfl⟩) | exact lkM_st hm c_98 hgx (Or.inr ⟨hok, Or.inl ⟨Or.inl hl0, rfl⟩⟩) | exact lkM_st hm c_98 hgx (Or.inr ⟨hok, Or.inl ⟨Or.inr hl1, rfl⟩⟩) | exact lkM_st hm c_98 hgx (Or.inr ⟨hok, Or.inr ⟨hl0, hl1, rfl⟩⟩)) (by omega)
          ·
            have n_q : gN Z q1 = 0 := (pk_lEQ (by omega) (by decide)).mp c_55
            refine lv_iconst (v := -1) hx hb dX1_like_59 (by decide) ?_
            refine W.iret (v := (-1)) hx hb hr (fun t9 ht9 hW9 => ⟨_, rfl, ?_, ht9⟩) (fun q h => by cases h) dX1_like_60
            first
            | (rw [fLik, if_neg (fun h => h.2.2.2.1 (by rw [t_p]; exact n_p))]; done)
            | (rw [fLik, if_neg (fun h => h.2.2.2.2 (by rw [t_q]; exact n_q))]; done)
