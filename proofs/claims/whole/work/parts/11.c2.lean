set_option maxHeartbeats 4000000 in
set_option maxRecDepth 100000 in
theorem ct_X0_meanParts (l : Launch) (dC : Nat → ClassId) (dI : Nat → Nat → Nat) (cy : ClassId) (o : Nat) (a : Nat → Nat) (Z X : Nat → Nat → Nat) (k : Nat) (hI : Inv Z) (hk : k < 96) : Met l yX0_meanParts (wS yX0_meanParts cX0_meanParts 6 (Option.some Jvm.ClassFile.FieldType.int)) (rmF 0 0) (va_Pc [.ref o, .int (nI k)] (cR dC dI cy o a Z X)) (vp_Si (fun r => r = nI (mnP Z k))) 0 0 (fun _ => False) := by
  refine Met.ofW (cc := cX0_meanParts) (maxL := 6) (ret := (Option.some Jvm.ClassFile.FieldType.int)) (by decide) rfl ?_
  intro pg en sv mi ag bw mt cd s₁ BL hml hv
  obtain ⟨rfl, hP, hK⟩ := hv
  have hx := BL.exec
  have hb := BL.bytes
  have hr := BL.returns
  have hts : ∀ w ∈ lw_ok, w.before _ sv = true := fun w hw => atoms_spec (ws := wS yX0_meanParts cX0_meanParts 6 (Option.some Jvm.ClassFile.FieldType.int)) BL.pre w (List.mem_cons_of_mem _ hw)
  have hown : sv.vm.findClass RX0 = some mi.cls := findClass_of_methodNamed BL.named
  have hlocks := BL.notSynchronized
  have fx : CallFix pg mi cd cX0_meanParts 6 sv _ lw_ok RX0 := ⟨hx, hb, hml, hown, hts⟩
  have hl := lv_entry ([.ref o, .int (nI k)]) (n := 6) (Nat.le_of_ble_eq_true rfl)
  rw [lg_entry_eq]
  generalize (lg_sl ([.ref o, .int (nI k)]) ++ List.replicate (6 - (lg_sl ([.ref o, .int (nI k)])).length) Slot.unset).toArray = ls at hl ⊢
  replace hl : lv_has ls 6 [(0, .ref o), (1, .int (nI k))] := hl
  refine lv_iconst (v := nI 0) hx hb dX0_meanParts_0 (by decide) ?_
  refine lv_istore_n (lv' := [(2, .int (nI 0)), (0, .ref o), (1, .int (nI k))]) hx hb dX0_meanParts_1 rfl hl (by decide) rfl (fun ls hl => ?_)
  refine lv_iconst (v := nI 0) hx hb dX0_meanParts_2 (by decide) ?_
  refine lv_istore_n (lv' := [(3, .int (nI 0)), (2, .int (nI 0)), (0, .ref o), (1, .int (nI k))]) hx hb dX0_meanParts_3 rfl hl (by decide) rfl (fun ls hl => ?_)
  refine lv_iconst (v := nI 0) hx hb dX0_meanParts_4 (by decide) ?_
  refine lv_istore (lv' := [(4, .int (nI 0)), (3, .int (nI 0)), (2, .int (nI 0)), (0, .ref o), (1, .int (nI k))]) hx hb dX0_meanParts_5 hl (by decide) rfl (fun ls hl => ?_)
  obtain ⟨j, ej⟩ : ∃ j : Nat, j = 0 := ⟨_, rfl⟩
  obtain ⟨n, en⟩ : ∃ n : Nat, n = 0 := ⟨_, rfl⟩
  obtain ⟨t, et⟩ : ∃ t : Nat, t = 0 := ⟨_, rfl⟩
  replace hl : lv_has ls 6 [(4, .int (nI j)), (3, .int (nI t)), (2, .int (nI n)), (0, .ref o), (1, .int (nI k))] := by subst ej en et; exact lv_sub hl [0, 1, 2, 3, 4] rfl
  have hj : j ≤ 8 := by subst ej en et; omega
  have hn : n = fb_ct (fun j => !(Z 14 (k * 8 + j) == 0)) j := by subst ej en et; rfl
  have hs : t = fb_sm (fun j => Z 14 (k * 8 + j) - 1) j := by subst ej en et; rfl
  clear ej en et
  obtain ⟨n7, hn7⟩ : ∃ n_0 : Nat, 8 - j < n_0 := ⟨_, Nat.lt_succ_self _⟩
  induction n7 generalizing j n t ls with
  | zero => exact absurd hn7 (Nat.not_lt_zero _)
  | succ n7 ih7 =>
    refine lv_iload hx hb dX0_meanParts_7 (lv_at hl 0 rfl) ?_
    refine lv_bipush (v := nI 8) hx hb dX0_meanParts_9 (by decide) ?_
    refine x_icmp_ge (x := j) (y := 8) (tgt := 48) hx hb (by omega) (by omega) dX0_meanParts_11 (by decide) (fun c_11 => ?_) (fun c_11 => ?_)
    ·
      obtain rfl : j = 8 := by omega
      have hn8 : n = tdN Z k := hn
      have hs8 : t = tdS Z k := hs
      have hcl := tdN_le Z k
      have hsl := tdS_le hI hk
      refine lv_iload_n hx hb dX0_meanParts_48 rfl (lv_at hl 2 rfl) ?_
      refine x_ifn_ne (x := n) (tgt := 56) hx hb (by omega) dX0_meanParts_49 (by decide) (fun c_49 => ?_) (fun c_49 => ?_)
      ·
        refine lv_iload_n hx hb dX0_meanParts_56 rfl (lv_at hl 1 rfl) ?_
        refine lv_sipush (v := nI 840) hx hb dX0_meanParts_57 (by decide) ?_
        refine lv_iload_n hx hb dX0_meanParts_60 rfl (lv_at hl 2 rfl) ?_
        refine lv_idiv hx hb dX0_meanParts_61 (by exact nI_ne0 (by omega) (by omega)) ?_
        rw [pk_div (by decide) (by omega) (by omega)]
        refine x_imul hx hb dX0_meanParts_62 ?_
        refine W.iret (v := (nI (t * (840 / n)))) hx hb hr (fun t9 ht9 hW9 => ⟨_, rfl, ?_, ht9⟩) (fun q h => by cases h) dX0_meanParts_63
        first | (rw [mnP, if_pos (by omega)]) | (rw [mnP, if_neg (by omega), ← hn8, ← hs8])
      ·
        refine lv_iconst (v := nI 0) hx hb dX0_meanParts_52 (by decide) ?_
        refine lv_goto (tgt := 63) hx hb dX0_meanParts_53 (by decide) ?_
        refine W.iret (v := (nI 0)) hx hb hr (fun t9 ht9 hW9 => ⟨_, rfl, ?_, ht9⟩) (fun q h => by cases h) dX0_meanParts_63
        first | (rw [mnP, if_pos (by omega)]) | (rw [mnP, if_neg (by omega), ← hn8, ← hs8])
    ·
      refine lv_aload_n hx hb dX0_meanParts_14 rfl (lv_at hl 3 rfl) ?_
      refine c_g14 hx hb hts hown hK hP dX0_meanParts_15 ?_
      refine lv_iload_n hx hb dX0_meanParts_18 rfl (lv_at hl 4 rfl) ?_
      refine lv_bipush (v := nI 8) hx hb dX0_meanParts_19 (by decide) ?_
      refine x_imul hx hb dX0_meanParts_21 ?_
      refine lv_iload hx hb dX0_meanParts_22 (lv_at hl 0 rfl) ?_
      refine x_iadd hx hb dX0_meanParts_24 ?_
      refine c_l14 (j := k * 8 + j) hx hb hK hP (by omega) dX0_meanParts_25 ?_
      refine x_gap (fun hg_25 => ?_) (fun kg_25 hg_25 => ?_)
      ·
        refine lv_istore (lv' := [(5, .int (-1)), (4, .int (nI j)), (3, .int (nI t)), (2, .int (nI n)), (0, .ref o), (1, .int (nI k))]) hx hb dX0_meanParts_26 hl (by decide) rfl (fun ls hl => ?_)
        refine lv_iload hx hb dX0_meanParts_28 (lv_at hl 0 rfl) ?_
        refine lv_iconst (v := -1) hx hb dX0_meanParts_30 (by decide) ?_
        refine x_icmp_eq_T (tgt := 42) hx hb (by decide) dX0_meanParts_31 (by decide) ?_
        refine lv_iinc (v := nI (j + 1)) (lv' := [(4, .int (nI (j + 1))), (5, .int (-1)), (3, .int (nI t)), (2, .int (nI n)), (0, .ref o), (1, .int (nI k))]) hx hb dX0_meanParts_42 hl (k := 1) rfl (x_inc1 _) (by decide) rfl (fun ls hl => ?_)
        refine lv_goto (tgt := 7) hx hb dX0_meanParts_45 (by decide) ?_
        exact ih7 ls (j + 1) n t (lv_sub hl [0, 2, 3, 4, 5] rfl) (by omega) (by rw [fb_ct_succ, ← hn]; simp [hg_25]) (by rw [fb_sm_succ, ← hs]; simp [hg_25]) (by omega)
      ·
        have hkt := td_le hI hk (show j < 8 by omega)
        refine lv_istore (lv' := [(5, .int (nI kg_25)), (4, .int (nI j)), (3, .int (nI t)), (2, .int (nI n)), (0, .ref o), (1, .int (nI k))]) hx hb dX0_meanParts_26 hl (by decide) rfl (fun ls hl => ?_)
        refine lv_iload hx hb dX0_meanParts_28 (lv_at hl 0 rfl) ?_
        refine lv_iconst (v := -1) hx hb dX0_meanParts_30 (by decide) ?_
        refine x_icmp_eq_F (tgt := 42) hx hb (nI_ne_m1 (by omega)) dX0_meanParts_31 (by decide) ?_
        refine lv_iinc (v := nI (n + 1)) (lv' := [(2, .int (nI (n + 1))), (5, .int (nI kg_25)), (4, .int (nI j)), (3, .int (nI t)), (0, .ref o), (1, .int (nI k))]) hx hb dX0_meanParts_34 hl (k := 3) rfl (x_inc1 _) (by decide) rfl (fun ls hl => ?_)
        refine lv_iload_n hx hb dX0_meanParts_37 rfl (lv_at hl 3 rfl) ?_
        refine lv_iload hx hb dX0_meanParts_38 (lv_at hl 1 rfl) ?_
        refine x_iadd hx hb dX0_meanParts_40 ?_
        refine lv_istore_n (lv' := [(3, .int (nI (t + kg_25))), (2, .int (nI (n + 1))), (5, .int (nI kg_25)), (4, .int (nI j)), (0, .ref o), (1, .int (nI k))]) hx hb dX0_meanParts_41 rfl hl (by decide) rfl (fun ls hl => ?_)
        refine lv_iinc (v := nI (j + 1)) (lv' := [(4, .int (nI (j + 1))), (3, .int (nI (t + kg_25))), (2, .int (nI (n + 1))), (5, .int (nI kg_25)), (0, .ref o), (1, .int (nI k))]) hx hb dX0_meanParts_42 hl (k := 3) rfl (x_inc1 _) (by decide) rfl (fun ls hl => ?_)
        refine lv_goto (tgt := 7) hx hb dX0_meanParts_45 (by decide) ?_
        exact ih7 ls (j + 1) (n + 1) (t + kg_25) (lv_sub hl [0, 1, 2, 4, 5] rfl) (by omega) (by rw [fb_ct_succ, ← hn]; simp [hg_25]) (by rw [fb_sm_succ, ← hs]; simp [hg_25]) (by omega)

set_option maxHeartbeats 4000000 in
set_option maxRecDepth 100000 in
theorem ct_X0_cutParts (l : Launch) (dC : Nat → ClassId) (dI : Nat → Nat → Nat) (cy : ClassId) (o : Nat) (a : Nat → Nat) (Z X : Nat → Nat → Nat) (p : Nat) (hI : Inv Z) (hp : p < 8) : Met l yX0_cutParts (wS yX0_cutParts cX0_cutParts 5 (Option.some Jvm.ClassFile.FieldType.int)) (rmF 1 25) (va_Pc [.ref o, .int (nI p)] (cR dC dI cy o a Z X)) (vp_Si (fun r => r = nI (cutP Z p))) 0 0 (fun _ => False) := by
  refine Met.ofW (cc := cX0_cutParts) (maxL := 5) (ret := (Option.some Jvm.ClassFile.FieldType.int)) (by decide) rfl ?_
  intro pg en sv mi ag bw mt cd s₁ BL hml hv
  obtain ⟨rfl, hP, hK⟩ := hv
  have hx := BL.exec
  have hb := BL.bytes
  have hr := BL.returns
  have hts : ∀ w ∈ lw_ok, w.before _ sv = true := fun w hw => atoms_spec (ws := wS yX0_cutParts cX0_cutParts 5 (Option.some Jvm.ClassFile.FieldType.int)) BL.pre w (List.mem_cons_of_mem _ hw)
  have hown : sv.vm.findClass RX0 = some mi.cls := findClass_of_methodNamed BL.named
  have hlocks := BL.notSynchronized
  have fx : CallFix pg mi cd cX0_cutParts 5 sv _ lw_ok RX0 := ⟨hx, hb, hml, hown, hts⟩
  have hl := lv_entry ([.ref o, .int (nI p)]) (n := 5) (Nat.le_of_ble_eq_true rfl)
  rw [lg_entry_eq]
  generalize (lg_sl ([.ref o, .int (nI p)]) ++ List.replicate (5 - (lg_sl ([.ref o, .int (nI p)])).length) Slot.unset).toArray = ls at hl ⊢
  replace hl : lv_has ls 5 [(0, .ref o), (1, .int (nI p))] := hl
  obtain ⟨b0, b1, b2⟩ := hI.bd
  have bs := hI.sz hp
  have hcs := cset_lt hI
  refine lv_aload_n hx hb dX0_cutParts_0 rfl (lv_at hl 0 rfl) ?_
  refine r_Vi (As := []) (rest := []) fx (ct_X0_countingSet l dC dI cy o a Z X ) fyX0_countingSet tM_RX0_117 rfl rfl ⟨Nat.le_of_ble_eq_true rfl, Nat.le_of_ble_eq_true rfl⟩ (c_pre hK hP) rfl hl.1 rfl (Nat.le_of_ble_eq_true rfl) dX0_cutParts_1 ⟨Nat.le_of_ble_eq_true rfl, Nat.le_of_ble_eq_true rfl⟩ (fun r_1 hr_1 => ?_)
  subst hr_1
  refine lv_istore_n (lv' := [(2, .int (nI (cset Z))), (0, .ref o), (1, .int (nI p))]) hx hb dX0_cutParts_4 rfl hl (by decide) rfl (fun ls hl => ?_)
  refine lv_iconst (v := nI 0) hx hb dX0_cutParts_5 (by decide) ?_
  refine lv_istore_n (lv' := [(3, .int (nI 0)), (2, .int (nI (cset Z))), (0, .ref o), (1, .int (nI p))]) hx hb dX0_cutParts_6 rfl hl (by decide) rfl (fun ls hl => ?_)
  refine lv_iconst (v := nI 0) hx hb dX0_cutParts_7 (by decide) ?_
  refine lv_istore (lv' := [(4, .int (nI 0)), (3, .int (nI 0)), (2, .int (nI (cset Z))), (0, .ref o), (1, .int (nI p))]) hx hb dX0_cutParts_8 hl (by decide) rfl (fun ls hl => ?_)
  obtain ⟨j, ej⟩ : ∃ j : Nat, j = 0 := ⟨_, rfl⟩
  obtain ⟨t, et⟩ : ∃ t : Nat, t = 0 := ⟨_, rfl⟩
  replace hl : lv_has ls 5 [(4, .int (nI j)), (3, .int (nI t)), (2, .int (nI (cset Z))), (0, .ref o), (1, .int (nI p))] := by subst ej et; exact lv_sub hl [0, 1, 2, 3, 4] rfl
  have hj : j ≤ Z 8 p := by subst ej et; omega
  have ht : t = fb_sm (fun i => if cnt Z (Z 10 (p * 12 + i)) then mnP Z (p * 12 + i) else 0) j := by subst ej et; rfl
  clear ej et
  obtain ⟨n10, hn10⟩ : ∃ n_0 : Nat, Z 8 p - j < n_0 := ⟨_, Nat.lt_succ_self _⟩
  induction n10 generalizing j t ls with
  | zero => exact absurd hn10 (Nat.not_lt_zero _)
  | succ n10 ih10 =>
    refine lv_iload hx hb dX0_cutParts_10 (lv_at hl 0 rfl) ?_
    refine lv_aload_n hx hb dX0_cutParts_12 rfl (lv_at hl 3 rfl) ?_
    refine c_g8 hx hb hts hown hK hP dX0_cutParts_13 ?_
    refine lv_iload_n hx hb dX0_cutParts_16 rfl (lv_at hl 4 rfl) ?_
    refine c_l8 (j := p) hx hb hK hP (by omega) dX0_cutParts_17 ?_
    refine x_icmp_ge (x := j) (y := Z 8 p) (tgt := 60) hx hb (by omega) (by omega) dX0_cutParts_18 (by decide) (fun c_18 => ?_) (fun c_18 => ?_)
    ·
      refine lv_iload_n hx hb dX0_cutParts_60 rfl (lv_at hl 1 rfl) ?_
      refine W.iret (v := (nI t)) hx hb hr (fun t9 ht9 hW9 => ⟨_, rfl, ?_, ht9⟩) (fun q h => by cases h) dX0_cutParts_61
      rw [ht, show j = Z 8 p by omega]; rfl
    ·
      have hro := hI.row (p := p) (i := j) (by omega) (by omega)
      refine lv_iload_n hx hb dX0_cutParts_21 rfl (lv_at hl 2 rfl) ?_
      refine lv_aload_n hx hb dX0_cutParts_22 rfl (lv_at hl 3 rfl) ?_
      refine c_g10 hx hb hts hown hK hP dX0_cutParts_23 ?_
      refine lv_iload_n hx hb dX0_cutParts_26 rfl (lv_at hl 4 rfl) ?_
      refine lv_bipush (v := nI 12) hx hb dX0_cutParts_27 (by decide) ?_
      refine x_imul hx hb dX0_cutParts_29 ?_
      refine lv_iload hx hb dX0_cutParts_30 (lv_at hl 0 rfl) ?_
      refine x_iadd hx hb dX0_cutParts_32 ?_
      refine c_l10 (j := p * 12 + j) hx hb hK hP (by omega) dX0_cutParts_33 ?_
      refine r_Si (As := [.int (nI (cset Z)), .int (nI (Z 10 (p * 12 + j)))]) (rest := []) fx (ct_X0_isIn l (cset Z) (Z 10 (p * 12 + j)) (by first | assumption | omega) (by first | assumption | omega)) fyX0_isIn tM_RX0_74 rfl rfl ⟨Nat.le_of_ble_eq_true rfl, Nat.le_of_ble_eq_true rfl⟩ rfl hl.1 rfl (Nat.le_of_ble_eq_true rfl) dX0_cutParts_34 ⟨Nat.le_of_ble_eq_true rfl, Nat.le_of_ble_eq_true rfl⟩ (fun r_34 hr_34 => ?_)
      rcases hr_34 with ⟨rfl, hr_34⟩ | ⟨rfl, hr_34⟩
      ·
        refine x_if_eq_T (tgt := 54) hx hb (by decide) dX0_cutParts_37 (by decide) ?_
        refine lv_iinc (v := nI (j + 1)) (lv' := [(4, .int (nI (j + 1))), (3, .int (nI t)), (2, .int (nI (cset Z))), (0, .ref o), (1, .int (nI p))]) hx hb dX0_cutParts_54 hl (k := 0) rfl (x_inc1 _) (by decide) rfl (fun ls hl => ?_)
        refine lv_goto (tgt := 10) hx hb dX0_cutParts_57 (by decide) ?_
        exact ih10 ls (j + 1) t (lv_sub hl [0, 1, 2, 3, 4] rfl) (by omega) (by rw [fb_sm_succ, ← ht, ← cset_bit hI hro]; first | rw [if_pos hr_34] | (rw [if_neg hr_34]; rfl)) (by omega)
      ·
        refine x_if_eq_F (tgt := 54) hx hb (by decide) dX0_cutParts_37 (by decide) ?_
        refine lv_iload_n hx hb dX0_cutParts_40 rfl (lv_at hl 1 rfl) ?_
        refine lv_aload_n hx hb dX0_cutParts_41 rfl (lv_at hl 3 rfl) ?_
        refine lv_iload_n hx hb dX0_cutParts_42 rfl (lv_at hl 4 rfl) ?_
        refine lv_bipush (v := nI 12) hx hb dX0_cutParts_43 (by decide) ?_
        refine x_imul hx hb dX0_cutParts_45 ?_
        refine lv_iload hx hb dX0_cutParts_46 (lv_at hl 0 rfl) ?_
        refine x_iadd hx hb dX0_cutParts_48 ?_
        refine r_Vi (As := [.int (nI (p * 12 + j))]) (rest := [.int (nI t)]) fx (ct_X0_meanParts l dC dI cy o a Z X (p * 12 + j) hI (by first | assumption | omega)) fyX0_meanParts tM_RX0_209 rfl rfl ⟨Nat.le_of_ble_eq_true rfl, Nat.le_of_ble_eq_true rfl⟩ (c_pre hK hP) rfl hl.1 rfl (Nat.le_of_ble_eq_true rfl) dX0_cutParts_49 ⟨Nat.le_of_ble_eq_true rfl, Nat.le_of_ble_eq_true rfl⟩ (fun r_49 hr_49 => ?_)
        subst hr_49
        refine x_iadd hx hb dX0_cutParts_52 ?_
        refine lv_istore_n (lv' := [(3, .int (nI (t + (mnP Z (p * 12 + j))))), (4, .int (nI j)), (2, .int (nI (cset Z))), (0, .ref o), (1, .int (nI p))]) hx hb dX0_cutParts_53 rfl hl (by decide) rfl (fun ls hl => ?_)
        refine lv_iinc (v := nI (j + 1)) (lv' := [(4, .int (nI (j + 1))), (3, .int (nI (t + (mnP Z (p * 12 + j))))), (2, .int (nI (cset Z))), (0, .ref o), (1, .int (nI p))]) hx hb dX0_cutParts_54 hl (k := 1) rfl (x_inc1 _) (by decide) rfl (fun ls hl => ?_)
        refine lv_goto (tgt := 10) hx hb dX0_cutParts_57 (by decide) ?_
        exact ih10 ls (j + 1) (t + (mnP Z (p * 12 + j))) (lv_sub hl [0, 1, 2, 3, 4] rfl) (by omega) (by rw [fb_sm_succ, ← ht, ← cset_bit hI hro]; first | rw [if_pos hr_34] | (rw [if_neg hr_34]; rfl)) (by omega)

set_option maxHeartbeats 4000000 in
set_option maxRecDepth 100000 in
theorem ct_X0_isPassing (l : Launch) (dC : Nat → ClassId) (dI : Nat → Nat → Nat) (cy : ClassId) (o : Nat) (a : Nat → Nat) (Z X : Nat → Nat → Nat) (u : Nat) (hI : Inv Z) (hu : u < Z 0 2) : Met l yX0_isPassing (wS yX0_isPassing cX0_isPassing 2 (Option.some Jvm.ClassFile.FieldType.boolean)) (rmF 4 91) (va_Pc [.ref o, .int (nI u)] (cR dC dI cy o a Z X)) (vp_Si (fun r => isB r (pas Z u))) 0 0 (fun _ => False) := by
  refine Met.ofW (cc := cX0_isPassing) (maxL := 2) (ret := (Option.some Jvm.ClassFile.FieldType.boolean)) (by decide) rfl ?_
  intro pg en sv mi ag bw mt cd s₁ BL hml hv
  obtain ⟨rfl, hP, hK⟩ := hv
  have hx := BL.exec
  have hb := BL.bytes
  have hr := BL.returns
  have hts : ∀ w ∈ lw_ok, w.before _ sv = true := fun w hw => atoms_spec (ws := wS yX0_isPassing cX0_isPassing 2 (Option.some Jvm.ClassFile.FieldType.boolean)) BL.pre w (List.mem_cons_of_mem _ hw)
  have hown : sv.vm.findClass RX0 = some mi.cls := findClass_of_methodNamed BL.named
  have hlocks := BL.notSynchronized
  have fx : CallFix pg mi cd cX0_isPassing 2 sv _ lw_ok RX0 := ⟨hx, hb, hml, hown, hts⟩
  have hl := lv_entry ([.ref o, .int (nI u)]) (n := 2) (Nat.le_of_ble_eq_true rfl)
  rw [lg_entry_eq]
  generalize (lg_sl ([.ref o, .int (nI u)]) ++ List.replicate (2 - (lg_sl ([.ref o, .int (nI u)])).length) Slot.unset).toArray = ls at hl ⊢
  replace hl : lv_has ls 2 [(0, .ref o), (1, .int (nI u))] := hl
  obtain ⟨b0, b1, b2⟩ := hI.bd
  have hpu := hI.pu hu
  have hcs := cset_lt hI
  have htl := tot_le hI hu
  have hcl := cutP_le hI (p := Z 11 u) (by omega)
  refine lv_aload_n hx hb dX0_isPassing_0 rfl (lv_at hl 0 rfl) ?_
  refine lv_iload_n hx hb dX0_isPassing_1 rfl (lv_at hl 1 rfl) ?_
  refine lv_aload_n hx hb dX0_isPassing_2 rfl (lv_at hl 0 rfl) ?_
  refine r_Vi (As := []) (rest := [.int (nI u), .ref o]) fx (ct_X0_countingSet l dC dI cy o a Z X ) fyX0_countingSet tM_RX0_117 rfl rfl ⟨Nat.le_of_ble_eq_true rfl, Nat.le_of_ble_eq_true rfl⟩ (c_pre hK hP) rfl hl.1 rfl (Nat.le_of_ble_eq_true rfl) dX0_isPassing_3 ⟨Nat.le_of_ble_eq_true rfl, Nat.le_of_ble_eq_true rfl⟩ (fun r_3 hr_3 => ?_)
  subst hr_3
  refine r_Vi (As := [.int (nI u), .int (nI (cset Z))]) (rest := []) fx (ct_X0_sumOver l dC dI cy o a Z X u (cset Z) hI (by first | assumption | omega) (by first | assumption | omega)) fyX0_sumOver tM_RX0_121 rfl rfl ⟨Nat.le_of_ble_eq_true rfl, Nat.le_of_ble_eq_true rfl⟩ (c_pre hK hP) rfl hl.1 rfl (Nat.le_of_ble_eq_true rfl) dX0_isPassing_6 ⟨Nat.le_of_ble_eq_true rfl, Nat.le_of_ble_eq_true rfl⟩ (fun r_6 hr_6 => ?_)
  subst hr_6
  rw [tot_cs hI hu]
  refine lv_sipush (v := nI 840) hx hb dX0_isPassing_9 (by decide) ?_
  refine x_imul hx hb dX0_isPassing_12 ?_
  refine lv_aload_n hx hb dX0_isPassing_13 rfl (lv_at hl 0 rfl) ?_
  refine lv_aload_n hx hb dX0_isPassing_14 rfl (lv_at hl 0 rfl) ?_
  refine c_g11 hx hb hts hown hK hP dX0_isPassing_15 ?_
  refine lv_iload_n hx hb dX0_isPassing_18 rfl (lv_at hl 1 rfl) ?_
  refine c_l11 (j := u) hx hb hK hP (by omega) dX0_isPassing_19 ?_
  refine r_Vi (As := [.int (nI (Z 11 u))]) (rest := [.int (nI ((tot Z u) * 840))]) fx (ct_X0_cutParts l dC dI cy o a Z X (Z 11 u) hI (by first | assumption | omega)) fyX0_cutParts tM_RX0_181 rfl rfl ⟨Nat.le_of_ble_eq_true rfl, Nat.le_of_ble_eq_true rfl⟩ (c_pre hK hP) rfl hl.1 rfl (Nat.le_of_ble_eq_true rfl) dX0_isPassing_20 ⟨Nat.le_of_ble_eq_true rfl, Nat.le_of_ble_eq_true rfl⟩ (fun r_20 hr_20 => ?_)
  subst hr_20
  refine x_icmp_lt (x := (tot Z u) * 840) (y := cutP Z (Z 11 u)) (tgt := 30) hx hb (by omega) (by omega) dX0_isPassing_23 (by decide) (fun c_23 => ?_) (fun c_23 => ?_)
  ·
    refine lv_iconst (v := nI 0) hx hb dX0_isPassing_30 (by decide) ?_
    refine W.zret (v := (nI 0)) hx hb hr (by decide) (fun t9 ht9 hW9 => ⟨_, rfl, ?_, ht9⟩) (fun q h => by cases h) dX0_isPassing_31
    first | exact Or.inl ⟨rfl, Nat.not_le.mpr c_23⟩ | exact Or.inr ⟨rfl, Nat.not_lt.mp c_23⟩
  ·
    refine lv_iconst (v := nI 1) hx hb dX0_isPassing_26 (by decide) ?_
    refine lv_goto (tgt := 31) hx hb dX0_isPassing_27 (by decide) ?_
    refine W.zret (v := (nI 1)) hx hb hr (by decide) (fun t9 ht9 hW9 => ⟨_, rfl, ?_, ht9⟩) (fun q h => by cases h) dX0_isPassing_31
    first | exact Or.inl ⟨rfl, Nat.not_le.mpr c_23⟩ | exact Or.inr ⟨rfl, Nat.not_lt.mp c_23⟩

set_option maxHeartbeats 4000000 in
set_option maxRecDepth 100000 in
theorem ct_X0_countPassing (l : Launch) (dC : Nat → ClassId) (dI : Nat → Nat → Nat) (cy : ClassId) (o : Nat) (a : Nat → Nat) (Z X : Nat → Nat → Nat)  (hI : Inv Z) : Met l yX0_countPassing (wS yX0_countPassing cX0_countPassing 3 (Option.some Jvm.ClassFile.FieldType.int)) (rmF 5 112) (va_Pc [.ref o] (cR dC dI cy o a Z X)) (vp_Si (fun r => r = nI (cntP Z))) 0 0 (fun _ => False) := by
  refine Met.ofW (cc := cX0_countPassing) (maxL := 3) (ret := (Option.some Jvm.ClassFile.FieldType.int)) (by decide) rfl ?_
  intro pg en sv mi ag bw mt cd s₁ BL hml hv
  obtain ⟨rfl, hP, hK⟩ := hv
  have hx := BL.exec
  have hb := BL.bytes
  have hr := BL.returns
  have hts : ∀ w ∈ lw_ok, w.before _ sv = true := fun w hw => atoms_spec (ws := wS yX0_countPassing cX0_countPassing 3 (Option.some Jvm.ClassFile.FieldType.int)) BL.pre w (List.mem_cons_of_mem _ hw)
  have hown : sv.vm.findClass RX0 = some mi.cls := findClass_of_methodNamed BL.named
  have hlocks := BL.notSynchronized
  have fx : CallFix pg mi cd cX0_countPassing 3 sv _ lw_ok RX0 := ⟨hx, hb, hml, hown, hts⟩
  have hl := lv_entry ([.ref o]) (n := 3) (Nat.le_of_ble_eq_true rfl)
  rw [lg_entry_eq]
  generalize (lg_sl ([.ref o]) ++ List.replicate (3 - (lg_sl ([.ref o])).length) Slot.unset).toArray = ls at hl ⊢
  replace hl : lv_has ls 3 [(0, .ref o)] := hl
  obtain ⟨b0, b1, b2⟩ := hI.bd
  refine lv_iconst (v := nI 0) hx hb dX0_countPassing_0 (by decide) ?_
  refine lv_istore_n (lv' := [(1, .int (nI 0)), (0, .ref o)]) hx hb dX0_countPassing_1 rfl hl (by decide) rfl (fun ls hl => ?_)
  refine lv_iconst (v := nI 0) hx hb dX0_countPassing_2 (by decide) ?_
  refine lv_istore_n (lv' := [(2, .int (nI 0)), (1, .int (nI 0)), (0, .ref o)]) hx hb dX0_countPassing_3 rfl hl (by decide) rfl (fun ls hl => ?_)
  obtain ⟨j, ej⟩ : ∃ j : Nat, j = 0 := ⟨_, rfl⟩
  obtain ⟨t, et⟩ : ∃ t : Nat, t = 0 := ⟨_, rfl⟩
  replace hl : lv_has ls 3 [(2, .int (nI j)), (1, .int (nI t)), (0, .ref o)] := by subst ej et; exact lv_sub hl [0, 1, 2] rfl
  have hj : j ≤ Z 0 2 := by subst ej et; omega
  have ht : t = fb_ct (fun u => decide (pas Z u)) j := by subst ej et; rfl
  clear ej et
  obtain ⟨n4, hn4⟩ : ∃ n_0 : Nat, Z 0 2 - j < n_0 := ⟨_, Nat.lt_succ_self _⟩
  induction n4 generalizing j t ls with
  | zero => exact absurd hn4 (Nat.not_lt_zero _)
  | succ n4 ih4 =>
    refine lv_iload_n hx hb dX0_countPassing_4 rfl (lv_at hl 0 rfl) ?_
    refine lv_aload_n hx hb dX0_countPassing_5 rfl (lv_at hl 2 rfl) ?_
    refine c_g2 hx hb hts hown hK hP dX0_countPassing_6 ?_
    refine x_icmp_ge (x := j) (y := Z 0 2) (tgt := 29) hx hb (by omega) (by omega) dX0_countPassing_9 (by decide) (fun c_9 => ?_) (fun c_9 => ?_)
    ·
      refine lv_iload_n hx hb dX0_countPassing_29 rfl (lv_at hl 1 rfl) ?_
      refine W.iret (v := (nI t)) hx hb hr (fun t9 ht9 hW9 => ⟨_, rfl, ?_, ht9⟩) (fun q h => by cases h) dX0_countPassing_30
      rw [ht, show j = Z 0 2 by omega]; rfl
    ·
      refine lv_aload_n hx hb dX0_countPassing_12 rfl (lv_at hl 2 rfl) ?_
      refine lv_iload_n hx hb dX0_countPassing_13 rfl (lv_at hl 0 rfl) ?_
      refine r_Vi (As := [.int (nI j)]) (rest := []) fx (ct_X0_isPassing l dC dI cy o a Z X j hI (by first | assumption | omega)) fyX0_isPassing tM_RX0_186 rfl rfl ⟨Nat.le_of_ble_eq_true rfl, Nat.le_of_ble_eq_true rfl⟩ (c_pre hK hP) rfl hl.1 rfl (Nat.le_of_ble_eq_true rfl) dX0_countPassing_14 ⟨Nat.le_of_ble_eq_true rfl, Nat.le_of_ble_eq_true rfl⟩ (fun r_14 hr_14 => ?_)
      rcases hr_14 with ⟨rfl, hr_14⟩ | ⟨rfl, hr_14⟩
      ·
        refine x_if_eq_T (tgt := 23) hx hb (by decide) dX0_countPassing_17 (by decide) ?_
        refine lv_iinc (v := nI (j + 1)) (lv' := [(2, .int (nI (j + 1))), (1, .int (nI t)), (0, .ref o)]) hx hb dX0_countPassing_23 hl (k := 0) rfl (x_inc1 _) (by decide) rfl (fun ls hl => ?_)
        refine lv_goto (tgt := 4) hx hb dX0_countPassing_26 (by decide) ?_
        exact ih4 ls (j + 1) t (lv_sub hl [0, 1, 2] rfl) (by omega) (by rw [fb_ct_succ, ← ht]; first | rw [if_pos (decide_eq_true hr_14)] | (rw [if_neg (by simpa using hr_14)]; rfl)) (by omega)
      ·
        refine x_if_eq_F (tgt := 23) hx hb (by decide) dX0_countPassing_17 (by decide) ?_
        refine lv_iinc (v := nI (t + 1)) (lv' := [(1, .int (nI (t + 1))), (2, .int (nI j)), (0, .ref o)]) hx hb dX0_countPassing_20 hl (k := 1) rfl (x_inc1 _) (by decide) rfl (fun ls hl => ?_)
        refine lv_iinc (v := nI (j + 1)) (lv' := [(2, .int (nI (j + 1))), (1, .int (nI (t + 1))), (0, .ref o)]) hx hb dX0_countPassing_23 hl (k := 1) rfl (x_inc1 _) (by decide) rfl (fun ls hl => ?_)
        refine lv_goto (tgt := 4) hx hb dX0_countPassing_26 (by decide) ?_
        exact ih4 ls (j + 1) (t + 1) (lv_sub hl [0, 1, 2] rfl) (by omega) (by rw [fb_ct_succ, ← ht]; first | rw [if_pos (decide_eq_true hr_14)] | (rw [if_neg (by simpa using hr_14)]; rfl)) (by omega)

set_option maxHeartbeats 4000000 in
set_option maxRecDepth 100000 in
theorem ct_X0_countAnswers (l : Launch) (dC : Nat → ClassId) (dI : Nat → Nat → Nat) (cy : ClassId) (o : Nat) (a : Nat → Nat) (Z X : Nat → Nat → Nat)  (hI : Inv Z) : Met l yX0_countAnswers (wS yX0_countAnswers cX0_countAnswers 3 (Option.some Jvm.ClassFile.FieldType.int)) (rmF 0 0) (va_Pc [.ref o] (cR dC dI cy o a Z X)) (vp_Si (fun r => r = nI (cntA Z))) 0 0 (fun _ => False) := by
  refine Met.ofW (cc := cX0_countAnswers) (maxL := 3) (ret := (Option.some Jvm.ClassFile.FieldType.int)) (by decide) rfl ?_
  intro pg en sv mi ag bw mt cd s₁ BL hml hv
  obtain ⟨rfl, hP, hK⟩ := hv
  have hx := BL.exec
  have hb := BL.bytes
  have hr := BL.returns
  have hts : ∀ w ∈ lw_ok, w.before _ sv = true := fun w hw => atoms_spec (ws := wS yX0_countAnswers cX0_countAnswers 3 (Option.some Jvm.ClassFile.FieldType.int)) BL.pre w (List.mem_cons_of_mem _ hw)
  have hown : sv.vm.findClass RX0 = some mi.cls := findClass_of_methodNamed BL.named
  have hlocks := BL.notSynchronized
  have fx : CallFix pg mi cd cX0_countAnswers 3 sv _ lw_ok RX0 := ⟨hx, hb, hml, hown, hts⟩
  have hl := lv_entry ([.ref o]) (n := 3) (Nat.le_of_ble_eq_true rfl)
  rw [lg_entry_eq]
  generalize (lg_sl ([.ref o]) ++ List.replicate (3 - (lg_sl ([.ref o])).length) Slot.unset).toArray = ls at hl ⊢
  replace hl : lv_has ls 3 [(0, .ref o)] := hl
  obtain ⟨b0, b1, b2⟩ := hI.bd
  refine lv_iconst (v := nI 0) hx hb dX0_countAnswers_0 (by decide) ?_
  refine lv_istore_n (lv' := [(1, .int (nI 0)), (0, .ref o)]) hx hb dX0_countAnswers_1 rfl hl (by decide) rfl (fun ls hl => ?_)
  refine lv_iconst (v := nI 0) hx hb dX0_countAnswers_2 (by decide) ?_
  refine lv_istore_n (lv' := [(2, .int (nI 0)), (1, .int (nI 0)), (0, .ref o)]) hx hb dX0_countAnswers_3 rfl hl (by decide) rfl (fun ls hl => ?_)
  obtain ⟨j, ej⟩ : ∃ j : Nat, j = 0 := ⟨_, rfl⟩
  obtain ⟨t, et⟩ : ∃ t : Nat, t = 0 := ⟨_, rfl⟩
  replace hl : lv_has ls 3 [(2, .int (nI j)), (1, .int (nI t)), (0, .ref o)] := by subst ej et; exact lv_sub hl [0, 1, 2] rfl
  have hj : j ≤ Z 0 2 * 12 := by subst ej et; omega
  have ht : t = fb_ct (fun i => !(Z 13 i == 0)) j := by subst ej et; rfl
  clear ej et
  obtain ⟨n4, hn4⟩ : ∃ n_0 : Nat, Z 0 2 * 12 - j < n_0 := ⟨_, Nat.lt_succ_self _⟩
  induction n4 generalizing j t ls with
  | zero => exact absurd hn4 (Nat.not_lt_zero _)
  | succ n4 ih4 =>
    refine lv_iload_n hx hb dX0_countAnswers_4 rfl (lv_at hl 0 rfl) ?_
    refine lv_aload_n hx hb dX0_countAnswers_5 rfl (lv_at hl 2 rfl) ?_
    refine c_g2 hx hb hts hown hK hP dX0_countAnswers_6 ?_
    refine lv_bipush (v := nI 12) hx hb dX0_countAnswers_9 (by decide) ?_
    refine x_imul hx hb dX0_countAnswers_11 ?_
    refine x_icmp_ge (x := j) (y := (Z 0 2) * 12) (tgt := 34) hx hb (by omega) (by omega) dX0_countAnswers_12 (by decide) (fun c_12 => ?_) (fun c_12 => ?_)
    ·
      refine lv_iload_n hx hb dX0_countAnswers_34 rfl (lv_at hl 1 rfl) ?_
      refine W.iret (v := (nI t)) hx hb hr (fun t9 ht9 hW9 => ⟨_, rfl, ?_, ht9⟩) (fun q h => by cases h) dX0_countAnswers_35
      rw [ht, show j = Z 0 2 * 12 by omega]; rfl
    ·
      refine lv_aload_n hx hb dX0_countAnswers_15 rfl (lv_at hl 2 rfl) ?_
      refine c_g13 hx hb hts hown hK hP dX0_countAnswers_16 ?_
      refine lv_iload_n hx hb dX0_countAnswers_19 rfl (lv_at hl 0 rfl) ?_
      refine c_l13 (j := j) hx hb hK hP (by omega) dX0_countAnswers_20 ?_
      refine x_gap (fun hg_20 => ?_) (fun kg_20 hg_20 => ?_)
      ·
        refine lv_iconst (v := -1) hx hb dX0_countAnswers_21 (by decide) ?_
        refine x_icmp_eq_T (tgt := 28) hx hb (by decide) dX0_countAnswers_22 (by decide) ?_
        refine lv_iinc (v := nI (j + 1)) (lv' := [(2, .int (nI (j + 1))), (1, .int (nI t)), (0, .ref o)]) hx hb dX0_countAnswers_28 hl (k := 0) rfl (x_inc1 _) (by decide) rfl (fun ls hl => ?_)
        refine lv_goto (tgt := 4) hx hb dX0_countAnswers_31 (by decide) ?_
        exact ih4 ls (j + 1) t (lv_sub hl [0, 1, 2] rfl) (by omega) (by rw [fb_ct_succ, ← ht]; simp [hg_20]) (by omega)
      ·
        have hkt := an_le hI (show j < 720 by omega)
        refine lv_iconst (v := -1) hx hb dX0_countAnswers_21 (by decide) ?_
        refine x_icmp_eq_F (tgt := 28) hx hb (nI_ne_m1 (by omega)) dX0_countAnswers_22 (by decide) ?_
        refine lv_iinc (v := nI (t + 1)) (lv' := [(1, .int (nI (t + 1))), (2, .int (nI j)), (0, .ref o)]) hx hb dX0_countAnswers_25 hl (k := 1) rfl (x_inc1 _) (by decide) rfl (fun ls hl => ?_)
        refine lv_iinc (v := nI (j + 1)) (lv' := [(2, .int (nI (j + 1))), (1, .int (nI (t + 1))), (0, .ref o)]) hx hb dX0_countAnswers_28 hl (k := 1) rfl (x_inc1 _) (by decide) rfl (fun ls hl => ?_)
        refine lv_goto (tgt := 4) hx hb dX0_countAnswers_31 (by decide) ?_
        exact ih4 ls (j + 1) (t + 1) (lv_sub hl [0, 1, 2] rfl) (by omega) (by rw [fb_ct_succ, ← ht]; simp [hg_20]) (by omega)

set_option maxHeartbeats 4000000 in
set_option maxRecDepth 100000 in
theorem ct_X0_sameWrongs (l : Launch) (dC : Nat → ClassId) (dI : Nat → Nat → Nat) (cy : ClassId) (o : Nat) (a : Nat → Nat) (Z X : Nat → Nat → Nat) (u : Nat) (v : Nat) (hI : Inv Z) (hu : u < Z 0 2) (hv : v < Z 0 2) (huv : Z 11 v = Z 11 u) : Met l yX0_sameWrongs (wS yX0_sameWrongs cX0_sameWrongs 7 (Option.some Jvm.ClassFile.FieldType.int)) (rmF 3 66) (va_Pc [.ref o, .int (nI u), .int (nI v)] (cR dC dI cy o a Z X)) (vp_Si (fun r => r = nI (alk Z u v))) 0 0 (fun _ => False) := by
  refine Met.ofW (cc := cX0_sameWrongs) (maxL := 7) (ret := (Option.some Jvm.ClassFile.FieldType.int)) (by decide) rfl ?_
  intro pg en sv mi ag bw mt cd s₁ BL hml hv
  obtain ⟨rfl, hP, hK⟩ := hv
  have hx := BL.exec
  have hb := BL.bytes
  have hr := BL.returns
  have hts : ∀ w ∈ lw_ok, w.before _ sv = true := fun w hw => atoms_spec (ws := wS yX0_sameWrongs cX0_sameWrongs 7 (Option.some Jvm.ClassFile.FieldType.int)) BL.pre w (List.mem_cons_of_mem _ hw)
  have hown : sv.vm.findClass RX0 = some mi.cls := findClass_of_methodNamed BL.named
  have hlocks := BL.notSynchronized
  have fx : CallFix pg mi cd cX0_sameWrongs 7 sv _ lw_ok RX0 := ⟨hx, hb, hml, hown, hts⟩
  have hl := lv_entry ([.ref o, .int (nI u), .int (nI v)]) (n := 7) (Nat.le_of_ble_eq_true rfl)
  rw [lg_entry_eq]
  generalize (lg_sl ([.ref o, .int (nI u), .int (nI v)]) ++ List.replicate (7 - (lg_sl ([.ref o, .int (nI u), .int (nI v)])).length) Slot.unset).toArray = ls at hl ⊢
  replace hl : lv_has ls 7 [(0, .ref o), (1, .int (nI u)), (2, .int (nI v))] := hl
  obtain ⟨b0, b1, b2⟩ := hI.bd
  have hpu := hI.pu hu
  have bs := hI.sz (p := Z 11 u) (by omega)
  refine lv_aload_n hx hb dX0_sameWrongs_0 rfl (lv_at hl 0 rfl) ?_
  refine c_g11 hx hb hts hown hK hP dX0_sameWrongs_1 ?_
  refine lv_iload_n hx hb dX0_sameWrongs_4 rfl (lv_at hl 1 rfl) ?_
  refine c_l11 (j := u) hx hb hK hP (by omega) dX0_sameWrongs_5 ?_
  refine lv_istore_n (lv' := [(3, .int (nI (Z 11 u))), (0, .ref o), (1, .int (nI u)), (2, .int (nI v))]) hx hb dX0_sameWrongs_6 rfl hl (by decide) rfl (fun ls hl => ?_)
  refine lv_iconst (v := nI 0) hx hb dX0_sameWrongs_7 (by decide) ?_
  refine lv_istore (lv' := [(4, .int (nI 0)), (3, .int (nI (Z 11 u))), (0, .ref o), (1, .int (nI u)), (2, .int (nI v))]) hx hb dX0_sameWrongs_8 hl (by decide) rfl (fun ls hl => ?_)
  refine lv_iconst (v := nI 0) hx hb dX0_sameWrongs_10 (by decide) ?_
  refine lv_istore (lv' := [(5, .int (nI 0)), (4, .int (nI 0)), (3, .int (nI (Z 11 u))), (0, .ref o), (1, .int (nI u)), (2, .int (nI v))]) hx hb dX0_sameWrongs_11 hl (by decide) rfl (fun ls hl => ?_)
  obtain ⟨j, ej⟩ : ∃ j : Nat, j = 0 := ⟨_, rfl⟩
  obtain ⟨t, et⟩ : ∃ t : Nat, t = 0 := ⟨_, rfl⟩
  replace hl : lv_has ls 7 [(5, .int (nI j)), (4, .int (nI t)), (3, .int (nI (Z 11 u))), (0, .ref o), (1, .int (nI u)), (2, .int (nI v))] := by subst ej et; exact lv_sub hl [0, 1, 2, 3, 4, 5] rfl
  have hj : j ≤ Z 8 (Z 11 u) := by subst ej et; omega
  have ht : t = fb_ct (fun i => !(Z 13 (u * 12 + i) == 0) && (Z 13 (u * 12 + i) == Z 13 (v * 12 + i)) && decide (mrk Z u i < Z 6 (Z 10 (Z 11 u * 12 + i)))) j := by subst ej et; rfl
  clear ej et
  obtain ⟨n13, hn13⟩ : ∃ n_0 : Nat, Z 8 (Z 11 u) - j < n_0 := ⟨_, Nat.lt_succ_self _⟩
  induction n13 generalizing j t ls with
  | zero => exact absurd hn13 (Nat.not_lt_zero _)
  | succ n13 ih13 =>
    refine lv_iload hx hb dX0_sameWrongs_13 (lv_at hl 0 rfl) ?_
    refine lv_aload_n hx hb dX0_sameWrongs_15 rfl (lv_at hl 3 rfl) ?_
    refine c_g8 hx hb hts hown hK hP dX0_sameWrongs_16 ?_
    refine lv_iload_n hx hb dX0_sameWrongs_19 rfl (lv_at hl 2 rfl) ?_
    refine c_l8 (j := Z 11 u) hx hb hK hP (by omega) dX0_sameWrongs_20 ?_
    refine x_icmp_ge (x := j) (y := Z 8 (Z 11 u)) (tgt := 97) hx hb (by omega) (by omega) dX0_sameWrongs_21 (by decide) (fun c_21 => ?_) (fun c_21 => ?_)
    ·
      refine lv_iload hx hb dX0_sameWrongs_97 (lv_at hl 1 rfl) ?_
      refine W.iret (v := (nI t)) hx hb hr (fun t9 ht9 hW9 => ⟨_, rfl, ?_, ht9⟩) (fun q h => by cases h) dX0_sameWrongs_99
      rw [ht, show j = Z 8 (Z 11 u) by omega]; rfl
    ·
      have hro := hI.row (p := Z 11 u) (i := j) (by omega) (by omega)
      have hqq := hI.q hro
      have hmk := mrk_le hI hu (show j < Z 8 (Z 11 u) by omega)
      refine lv_aload_n hx hb dX0_sameWrongs_24 rfl (lv_at hl 3 rfl) ?_
      refine c_g13 hx hb hts hown hK hP dX0_sameWrongs_25 ?_
      refine lv_iload_n hx hb dX0_sameWrongs_28 rfl (lv_at hl 4 rfl) ?_
      refine lv_bipush (v := nI 12) hx hb dX0_sameWrongs_29 (by decide) ?_
      refine x_imul hx hb dX0_sameWrongs_31 ?_
      refine lv_iload hx hb dX0_sameWrongs_32 (lv_at hl 0 rfl) ?_
      refine x_iadd hx hb dX0_sameWrongs_34 ?_
      refine c_l13 (j := u * 12 + j) hx hb hK hP (by omega) dX0_sameWrongs_35 ?_
      refine x_gap (fun hg_35 => ?_) (fun kg_35 hg_35 => ?_)
      ·
        refine lv_istore (lv' := [(6, .int (-1)), (5, .int (nI j)), (4, .int (nI t)), (3, .int (nI (Z 11 u))), (0, .ref o), (1, .int (nI u)), (2, .int (nI v))]) hx hb dX0_sameWrongs_36 hl (by decide) rfl (fun ls hl => ?_)
        refine lv_iload hx hb dX0_sameWrongs_38 (lv_at hl 0 rfl) ?_
        refine lv_iconst (v := -1) hx hb dX0_sameWrongs_40 (by decide) ?_
        refine x_icmp_eq_T (tgt := 91) hx hb (by decide) dX0_sameWrongs_41 (by decide) ?_
        refine lv_iinc (v := nI (j + 1)) (lv' := [(5, .int (nI (j + 1))), (6, .int (-1)), (4, .int (nI t)), (3, .int (nI (Z 11 u))), (0, .ref o), (1, .int (nI u)), (2, .int (nI v))]) hx hb dX0_sameWrongs_91 hl (k := 1) rfl (x_inc1 _) (by decide) rfl (fun ls hl => ?_)
        refine lv_goto (tgt := 13) hx hb dX0_sameWrongs_94 (by decide) ?_
        exact ih13 ls (j + 1) t (lv_sub hl [0, 2, 3, 4, 5, 6] rfl) (by omega) (by rw [fb_ct_succ, ← ht]; first | (simp [hg_35]; done) | (simp [hg_35, hg_57]; done) | (simp [hg_35, hg_57, c_58]; done) | (simp [hg_35, hg_57, c_58, c_85]; done) | (simp [hg_35, hg_57, c_58]; omega)) (by omega)
      ·
        have hkt := an_le hI (show u * 12 + j < 720 by omega)
        refine lv_istore (lv' := [(6, .int (nI kg_35)), (5, .int (nI j)), (4, .int (nI t)), (3, .int (nI (Z 11 u))), (0, .ref o), (1, .int (nI u)), (2, .int (nI v))]) hx hb dX0_sameWrongs_36 hl (by decide) rfl (fun ls hl => ?_)
        refine lv_iload hx hb dX0_sameWrongs_38 (lv_at hl 0 rfl) ?_
        refine lv_iconst (v := -1) hx hb dX0_sameWrongs_40 (by decide) ?_
        refine x_icmp_eq_F (tgt := 91) hx hb (nI_ne_m1 (by omega)) dX0_sameWrongs_41 (by decide) ?_
        refine lv_iload hx hb dX0_sameWrongs_44 (lv_at hl 0 rfl) ?_
        refine lv_aload_n hx hb dX0_sameWrongs_46 rfl (lv_at hl 4 rfl) ?_
        refine c_g13 hx hb hts hown hK hP dX0_sameWrongs_47 ?_
        refine lv_iload_n hx hb dX0_sameWrongs_50 rfl (lv_at hl 6 rfl) ?_
        refine lv_bipush (v := nI 12) hx hb dX0_sameWrongs_51 (by decide) ?_
        refine x_imul hx hb dX0_sameWrongs_53 ?_
        refine lv_iload hx hb dX0_sameWrongs_54 (lv_at hl 1 rfl) ?_
        refine x_iadd hx hb dX0_sameWrongs_56 ?_
        refine c_l13 (j := v * 12 + j) hx hb hK hP (by omega) dX0_sameWrongs_57 ?_
        refine x_gap (fun hg_57 => ?_) (fun kg_57 hg_57 => ?_)
        ·
          refine x_icmp_ne_T (tgt := 91) hx hb (nI_ne_m1 (by omega)) dX0_sameWrongs_58 (by decide) ?_
          refine lv_iinc (v := nI (j + 1)) (lv' := [(5, .int (nI (j + 1))), (6, .int (nI kg_35)), (4, .int (nI t)), (3, .int (nI (Z 11 u))), (0, .ref o), (1, .int (nI u)), (2, .int (nI v))]) hx hb dX0_sameWrongs_91 hl (k := 1) rfl (x_inc1 _) (by decide) rfl (fun ls hl => ?_)
          refine lv_goto (tgt := 13) hx hb dX0_sameWrongs_94 (by decide) ?_
          exact ih13 ls (j + 1) t (lv_sub hl [0, 2, 3, 4, 5, 6] rfl) (by omega) (by rw [fb_ct_succ, ← ht]; first | (simp [hg_35]; done) | (simp [hg_35, hg_57]; done) | (simp [hg_35, hg_57, c_58]; done) | (simp [hg_35, hg_57, c_58, c_85]; done) | (simp [hg_35, hg_57, c_58]; omega)) (by omega)
        ·
          have hkt2 := an_le hI (show v * 12 + j < 720 by omega)
          refine x_icmp_ne (x := kg_35) (y := kg_57) (tgt := 91) hx hb (by omega) (by omega) dX0_sameWrongs_58 (by decide) (fun c_58 => ?_) (fun c_58 => ?_)
          ·
            refine lv_iinc (v := nI (j + 1)) (lv' := [(5, .int (nI (j + 1))), (6, .int (nI kg_35)), (4, .int (nI t)), (3, .int (nI (Z 11 u))), (0, .ref o), (1, .int (nI u)), (2, .int (nI v))]) hx hb dX0_sameWrongs_91 hl (k := 1) rfl (x_inc1 _) (by decide) rfl (fun ls hl => ?_)
            refine lv_goto (tgt := 13) hx hb dX0_sameWrongs_94 (by decide) ?_
            exact ih13 ls (j + 1) t (lv_sub hl [0, 2, 3, 4, 5, 6] rfl) (by omega) (by rw [fb_ct_succ, ← ht]; first | (simp [hg_35]; done) | (simp [hg_35, hg_57]; done) | (simp [hg_35, hg_57, c_58]; done) | (simp [hg_35, hg_57, c_58, c_85]; done) | (simp [hg_35, hg_57, c_58]; omega)) (by omega)
          ·
            refine lv_aload_n hx hb dX0_sameWrongs_61 rfl (lv_at hl 4 rfl) ?_
            refine lv_iload_n hx hb dX0_sameWrongs_62 rfl (lv_at hl 5 rfl) ?_
            refine lv_iload hx hb dX0_sameWrongs_63 (lv_at hl 1 rfl) ?_
            refine r_Vi (As := [.int (nI u), .int (nI j)]) (rest := []) fx (ct_X0_markAt l dC dI cy o a Z X u j hI (by first | assumption | omega) (by first | assumption | omega)) fyX0_markAt tM_RX0_111 rfl rfl ⟨Nat.le_of_ble_eq_true rfl, Nat.le_of_ble_eq_true rfl⟩ (c_pre hK hP) rfl hl.1 rfl (Nat.le_of_ble_eq_true rfl) dX0_sameWrongs_65 ⟨Nat.le_of_ble_eq_true rfl, Nat.le_of_ble_eq_true rfl⟩ (fun r_65 hr_65 => ?_)
            subst hr_65
            refine lv_aload_n hx hb dX0_sameWrongs_68 rfl (lv_at hl 4 rfl) ?_
            refine c_g6 hx hb hts hown hK hP dX0_sameWrongs_69 ?_
            refine lv_aload_n hx hb dX0_sameWrongs_72 rfl (lv_at hl 4 rfl) ?_
            refine c_g10 hx hb hts hown hK hP dX0_sameWrongs_73 ?_
            refine lv_iload_n hx hb dX0_sameWrongs_76 rfl (lv_at hl 3 rfl) ?_
            refine lv_bipush (v := nI 12) hx hb dX0_sameWrongs_77 (by decide) ?_
            refine x_imul hx hb dX0_sameWrongs_79 ?_
            refine lv_iload hx hb dX0_sameWrongs_80 (lv_at hl 1 rfl) ?_
            refine x_iadd hx hb dX0_sameWrongs_82 ?_
            refine c_l10 (j := ((Z 11 u) * 12) + j) hx hb hK hP (by omega) dX0_sameWrongs_83 ?_
            refine c_l6 (j := Z 10 (((Z 11 u) * 12) + j)) hx hb hK hP (by omega) dX0_sameWrongs_84 ?_
            refine x_icmp_ge (x := mrk Z u j) (y := Z 6 (Z 10 (((Z 11 u) * 12) + j))) (tgt := 91) hx hb (by omega) (by omega) dX0_sameWrongs_85 (by decide) (fun c_85 => ?_) (fun c_85 => ?_)
            ·
              refine lv_iinc (v := nI (j + 1)) (lv' := [(5, .int (nI (j + 1))), (6, .int (nI kg_35)), (4, .int (nI t)), (3, .int (nI (Z 11 u))), (0, .ref o), (1, .int (nI u)), (2, .int (nI v))]) hx hb dX0_sameWrongs_91 hl (k := 1) rfl (x_inc1 _) (by decide) rfl (fun ls hl => ?_)
              refine lv_goto (tgt := 13) hx hb dX0_sameWrongs_94 (by decide) ?_
              exact ih13 ls (j + 1) t (lv_sub hl [0, 2, 3, 4, 5, 6] rfl) (by omega) (by rw [fb_ct_succ, ← ht]; first | (simp [hg_35]; done) | (simp [hg_35, hg_57]; done) | (simp [hg_35, hg_57, c_58]; done) | (simp [hg_35, hg_57, c_58, c_85]; done) | (simp [hg_35, hg_57, c_58]; omega)) (by omega)
            ·
              refine lv_iinc (v := nI (t + 1)) (lv' := [(4, .int (nI (t + 1))), (6, .int (nI kg_35)), (5, .int (nI j)), (3, .int (nI (Z 11 u))), (0, .ref o), (1, .int (nI u)), (2, .int (nI v))]) hx hb dX0_sameWrongs_88 hl (k := 2) rfl (x_inc1 _) (by decide) rfl (fun ls hl => ?_)
              refine lv_iinc (v := nI (j + 1)) (lv' := [(5, .int (nI (j + 1))), (4, .int (nI (t + 1))), (6, .int (nI kg_35)), (3, .int (nI (Z 11 u))), (0, .ref o), (1, .int (nI u)), (2, .int (nI v))]) hx hb dX0_sameWrongs_91 hl (k := 2) rfl (x_inc1 _) (by decide) rfl (fun ls hl => ?_)
              refine lv_goto (tgt := 13) hx hb dX0_sameWrongs_94 (by decide) ?_
              exact ih13 ls (j + 1) (t + 1) (lv_sub hl [0, 1, 3, 4, 5, 6] rfl) (by omega) (by rw [fb_ct_succ, ← ht]; first | (simp [hg_35]; done) | (simp [hg_35, hg_57]; done) | (simp [hg_35, hg_57, c_58]; done) | (simp [hg_35, hg_57, c_58, c_85]; done) | (simp [hg_35, hg_57, c_58]; omega)) (by omega)

set_option maxHeartbeats 4000000 in
set_option maxRecDepth 100000 in
theorem ct_X0_areAlikeOf (l : Launch) (dC : Nat → ClassId) (dI : Nat → Nat → Nat) (cy : ClassId) (o : Nat) (a : Nat → Nat) (Z X : Nat → Nat → Nat) (p : Nat) (u : Nat) (v : Nat) (m : Int32) (hI : Inv Z) (hp : p < Z 0 1) (hu : u < Z 0 2) (hv : v < Z 0 2) : Met l yX0_areAlikeOf (wS yX0_areAlikeOf cX0_areAlikeOf 5 (Option.some Jvm.ClassFile.FieldType.boolean)) (rmF 4 92) (va_Pc [.ref o, .int (nI p), .int (nI u), .int (nI v), .int m] (cR dC dI cy o a Z X)) (vp_Si (fun r => isB r (alC Z p u v m))) 0 0 (fun _ => False) := by
  refine Met.ofW (cc := cX0_areAlikeOf) (maxL := 5) (ret := (Option.some Jvm.ClassFile.FieldType.boolean)) (by decide) rfl ?_
  intro pg en sv mi ag bw mt cd s₁ BL hml hv
  obtain ⟨rfl, hP, hK⟩ := hv
  have hx := BL.exec
  have hb := BL.bytes
  have hr := BL.returns
  have hts : ∀ w ∈ lw_ok, w.before _ sv = true := fun w hw => atoms_spec (ws := wS yX0_areAlikeOf cX0_areAlikeOf 5 (Option.some Jvm.ClassFile.FieldType.boolean)) BL.pre w (List.mem_cons_of_mem _ hw)
  have hown : sv.vm.findClass RX0 = some mi.cls := findClass_of_methodNamed BL.named
  have hlocks := BL.notSynchronized
  have fx : CallFix pg mi cd cX0_areAlikeOf 5 sv _ lw_ok RX0 := ⟨hx, hb, hml, hown, hts⟩
  have hl := lv_entry ([.ref o, .int (nI p), .int (nI u), .int (nI v), .int m]) (n := 5) (Nat.le_of_ble_eq_true rfl)
  rw [lg_entry_eq]
  generalize (lg_sl ([.ref o, .int (nI p), .int (nI u), .int (nI v), .int m]) ++ List.replicate (5 - (lg_sl ([.ref o, .int (nI p), .int (nI u), .int (nI v), .int m])).length) Slot.unset).toArray = ls at hl ⊢
  replace hl : lv_has ls 5 [(0, .ref o), (1, .int (nI p)), (2, .int (nI u)), (3, .int (nI v)), (4, .int m)] := hl
  obtain ⟨b0, b1, b2⟩ := hI.bd
  have hpu := hI.pu hu
  have hpv := hI.pu hv
  refine lv_aload_n hx hb dX0_areAlikeOf_0 rfl (lv_at hl 0 rfl) ?_
  refine c_g11 hx hb hts hown hK hP dX0_areAlikeOf_1 ?_
  refine lv_iload_n hx hb dX0_areAlikeOf_4 rfl (lv_at hl 2 rfl) ?_
  refine c_l11 (j := u) hx hb hK hP (by omega) dX0_areAlikeOf_5 ?_
  refine lv_iload_n hx hb dX0_areAlikeOf_6 rfl (lv_at hl 1 rfl) ?_
  refine x_icmp_ne (x := Z 11 u) (y := p) (tgt := 35) hx hb (by omega) (by omega) dX0_areAlikeOf_7 (by decide) (fun c_7 => ?_) (fun c_7 => ?_)
  ·
    refine lv_iconst (v := nI 0) hx hb dX0_areAlikeOf_35 (by decide) ?_
    refine W.zret (v := (nI 0)) hx hb hr (by decide) (fun t9 ht9 hW9 => ⟨_, rfl, ?_, ht9⟩) (fun q h => by cases h) dX0_areAlikeOf_36
    first | exact Or.inl ⟨rfl, fun h => c_7 h.1⟩ | exact Or.inl ⟨rfl, fun h => c_17 h.2.1⟩ | exact Or.inl ⟨rfl, fun h => h.2.2 c_28⟩ | exact Or.inr ⟨rfl, c_7, c_17, c_28⟩
  ·
    refine lv_aload_n hx hb dX0_areAlikeOf_10 rfl (lv_at hl 0 rfl) ?_
    refine c_g11 hx hb hts hown hK hP dX0_areAlikeOf_11 ?_
    refine lv_iload_n hx hb dX0_areAlikeOf_14 rfl (lv_at hl 3 rfl) ?_
    refine c_l11 (j := v) hx hb hK hP (by omega) dX0_areAlikeOf_15 ?_
    refine lv_iload_n hx hb dX0_areAlikeOf_16 rfl (lv_at hl 1 rfl) ?_
    refine x_icmp_ne (x := Z 11 v) (y := p) (tgt := 35) hx hb (by omega) (by omega) dX0_areAlikeOf_17 (by decide) (fun c_17 => ?_) (fun c_17 => ?_)
    ·
      refine lv_iconst (v := nI 0) hx hb dX0_areAlikeOf_35 (by decide) ?_
      refine W.zret (v := (nI 0)) hx hb hr (by decide) (fun t9 ht9 hW9 => ⟨_, rfl, ?_, ht9⟩) (fun q h => by cases h) dX0_areAlikeOf_36
      first | exact Or.inl ⟨rfl, fun h => c_7 h.1⟩ | exact Or.inl ⟨rfl, fun h => c_17 h.2.1⟩ | exact Or.inl ⟨rfl, fun h => h.2.2 c_28⟩ | exact Or.inr ⟨rfl, c_7, c_17, c_28⟩
    ·
      refine lv_aload_n hx hb dX0_areAlikeOf_20 rfl (lv_at hl 0 rfl) ?_
      refine lv_iload_n hx hb dX0_areAlikeOf_21 rfl (lv_at hl 2 rfl) ?_
      refine lv_iload_n hx hb dX0_areAlikeOf_22 rfl (lv_at hl 3 rfl) ?_
      refine r_Vi (As := [.int (nI u), .int (nI v)]) (rest := []) fx (ct_X0_sameWrongs l dC dI cy o a Z X u v hI (by first | assumption | omega) (by first | assumption | omega) (by first | assumption | omega)) fyX0_sameWrongs tM_RX0_193 rfl rfl ⟨Nat.le_of_ble_eq_true rfl, Nat.le_of_ble_eq_true rfl⟩ (c_pre hK hP) rfl hl.1 rfl (Nat.le_of_ble_eq_true rfl) dX0_areAlikeOf_23 ⟨Nat.le_of_ble_eq_true rfl, Nat.le_of_ble_eq_true rfl⟩ (fun r_23 hr_23 => ?_)
      subst hr_23
      refine lv_iload hx hb dX0_areAlikeOf_26 (lv_at hl 4 rfl) ?_
      refine lv_icmp_lt (tgt := 35) hx hb dX0_areAlikeOf_28 (by decide) (fun c_28 => ?_) (fun c_28 => ?_)
      ·
        refine lv_iconst (v := nI 0) hx hb dX0_areAlikeOf_35 (by decide) ?_
        refine W.zret (v := (nI 0)) hx hb hr (by decide) (fun t9 ht9 hW9 => ⟨_, rfl, ?_, ht9⟩) (fun q h => by cases h) dX0_areAlikeOf_36
        first | exact Or.inl ⟨rfl, fun h => c_7 h.1⟩ | exact Or.inl ⟨rfl, fun h => c_17 h.2.1⟩ | exact Or.inl ⟨rfl, fun h => h.2.2 c_28⟩ | exact Or.inr ⟨rfl, c_7, c_17, c_28⟩
      ·
        refine lv_iconst (v := nI 1) hx hb dX0_areAlikeOf_31 (by decide) ?_
        refine lv_goto (tgt := 36) hx hb dX0_areAlikeOf_32 (by decide) ?_
        refine W.zret (v := (nI 1)) hx hb hr (by decide) (fun t9 ht9 hW9 => ⟨_, rfl, ?_, ht9⟩) (fun q h => by cases h) dX0_areAlikeOf_36
        first | exact Or.inl ⟨rfl, fun h => c_7 h.1⟩ | exact Or.inl ⟨rfl, fun h => c_17 h.2.1⟩ | exact Or.inl ⟨rfl, fun h => h.2.2 c_28⟩ | exact Or.inr ⟨rfl, c_7, c_17, c_28⟩

set_option maxHeartbeats 4000000 in
set_option maxRecDepth 100000 in
theorem ct_X0_sumOfValues (l : Launch) (dC : Nat → ClassId) (dI : Nat → Nat → Nat) (cy : ClassId) (o : Nat) (a : Nat → Nat) (Z X : Nat → Nat → Nat) (n : Nat) (hn : n ≤ 60) (hv : ∀ k, k < n → X 0 k ≤ 120) : Met l yX0_sumOfValues (wS yX0_sumOfValues cX0_sumOfValues 5 (Option.some Jvm.ClassFile.FieldType.long)) (rmF 0 0) (va_Pc [.ref o, .int (nI n)] (cR dC dI cy o a Z X)) (vp_Sl (fun r => r = lN (fb_sm (X 0) n))) 0 0 (fun _ => False) := by
  refine Met.ofW (cc := cX0_sumOfValues) (maxL := 5) (ret := (Option.some Jvm.ClassFile.FieldType.long)) (by decide) rfl ?_
  intro pg en sv mi ag bw mt cd s₁ BL hml hv
  obtain ⟨rfl, hP, hK⟩ := hv
  have hx := BL.exec
  have hb := BL.bytes
  have hr := BL.returns
  have hts : ∀ w ∈ lw_ok, w.before _ sv = true := fun w hw => atoms_spec (ws := wS yX0_sumOfValues cX0_sumOfValues 5 (Option.some Jvm.ClassFile.FieldType.long)) BL.pre w (List.mem_cons_of_mem _ hw)
  have hown : sv.vm.findClass RX0 = some mi.cls := findClass_of_methodNamed BL.named
  have hlocks := BL.notSynchronized
  have fx : CallFix pg mi cd cX0_sumOfValues 5 sv _ lw_ok RX0 := ⟨hx, hb, hml, hown, hts⟩
  have hl := lv_entry ([.ref o, .int (nI n)]) (n := 5) (Nat.le_of_ble_eq_true rfl)
  rw [lg_entry_eq]
  generalize (lg_sl ([.ref o, .int (nI n)]) ++ List.replicate (5 - (lg_sl ([.ref o, .int (nI n)])).length) Slot.unset).toArray = ls at hl ⊢
  replace hl : lv_has ls 5 [(0, .ref o), (1, .int (nI n))] := hl
  refine lv_lconst (v := lN 0) hx hb dX0_sumOfValues_0 (by decide) ?_
  refine lv_lstore_n (lv' := [(2, .long (lN 0)), (0, .ref o), (1, .int (nI n))]) hx hb dX0_sumOfValues_1 rfl hl (by decide) rfl (fun ls hl => ?_)
  refine lv_iconst (v := nI 0) hx hb dX0_sumOfValues_2 (by decide) ?_
  refine lv_istore (lv' := [(4, .int (nI 0)), (2, .long (lN 0)), (0, .ref o), (1, .int (nI n))]) hx hb dX0_sumOfValues_3 hl (by decide) rfl (fun ls hl => ?_)
  obtain ⟨j, ej⟩ : ∃ j : Nat, j = 0 := ⟨_, rfl⟩
  obtain ⟨t, et⟩ : ∃ t : Nat, t = 0 := ⟨_, rfl⟩
  replace hl : lv_has ls 5 [(4, .int (nI j)), (2, .long (lN t)), (0, .ref o), (1, .int (nI n))] := by subst ej et; exact lv_sub hl [0, 1, 2, 3] rfl
  have hj : j ≤ n := by subst ej et; omega
  have ht : t = fb_sm (X 0) j := by subst ej et; rfl
  clear ej et
  obtain ⟨n5, hn5⟩ : ∃ n_0 : Nat, n - j < n_0 := ⟨_, Nat.lt_succ_self _⟩
  induction n5 generalizing j t ls with
  | zero => exact absurd hn5 (Nat.not_lt_zero _)
  | succ n5 ih5 =>
    refine lv_iload hx hb dX0_sumOfValues_5 (lv_at hl 0 rfl) ?_
    refine lv_iload_n hx hb dX0_sumOfValues_7 rfl (lv_at hl 3 rfl) ?_
    refine x_icmp_ge (x := j) (y := n) (tgt := 28) hx hb (by omega) (by omega) dX0_sumOfValues_8 (by decide) (fun c_8 => ?_) (fun c_8 => ?_)
    ·
      refine lv_lload_n hx hb dX0_sumOfValues_28 rfl (lv_at hl 1 rfl) ?_
      refine W.lret (v := (lN t)) hx hb hr (fun t9 ht9 hW9 => ⟨_, rfl, ?_, ht9⟩) (fun q h => by cases h) dX0_sumOfValues_29
      rw [ht, show j = n by omega]
    ·
      refine lv_lload_n hx hb dX0_sumOfValues_11 rfl (lv_at hl 1 rfl) ?_
      refine lv_aload_n hx hb dX0_sumOfValues_12 rfl (lv_at hl 2 rfl) ?_
      refine c_g15 hx hb hts hown hK hP dX0_sumOfValues_13 ?_
      refine lv_iload hx hb dX0_sumOfValues_16 (lv_at hl 0 rfl) ?_
      refine c_l15 (j := j) hx hb hK hP (by omega) dX0_sumOfValues_18 ?_
      refine lv_i2l (v := lN (X 0 j)) hx hb dX0_sumOfValues_19 (nI_l (by have := hv j (by omega); omega)) ?_
      refine x_ladd hx hb dX0_sumOfValues_20 ?_
      refine lv_lstore_n (lv' := [(2, .long (lN (t + (X 0 j)))), (4, .int (nI j)), (0, .ref o), (1, .int (nI n))]) hx hb dX0_sumOfValues_21 rfl hl (by decide) rfl (fun ls hl => ?_)
      refine lv_iinc (v := nI (j + 1)) (lv' := [(4, .int (nI (j + 1))), (2, .long (lN (t + (X 0 j)))), (0, .ref o), (1, .int (nI n))]) hx hb dX0_sumOfValues_22 hl (k := 1) rfl (x_inc1 _) (by decide) rfl (fun ls hl => ?_)
      refine lv_goto (tgt := 5) hx hb dX0_sumOfValues_25 (by decide) ?_
      exact ih5 ls (j + 1) (t + (X 0 j)) (lv_sub hl [0, 1, 2, 3] rfl) (by omega) (by rw [fb_sm_succ, ← ht]) (by omega)

set_option maxHeartbeats 4000000 in
set_option maxRecDepth 100000 in
theorem ct_X0_awayOfValues (l : Launch) (dC : Nat → ClassId) (dI : Nat → Nat → Nat) (cy : ClassId) (o : Nat) (a : Nat → Nat) (Z X : Nat → Nat → Nat) (n : Nat) (hn : n ≤ 60) (hv : ∀ k, k < n → X 0 k ≤ 120) : Met l yX0_awayOfValues (wS yX0_awayOfValues cX0_awayOfValues 7 (Option.some Jvm.ClassFile.FieldType.long)) (rmF 1 30) (va_Pc [.ref o, .int (nI n)] (cR dC dI cy o a Z X)) (vp_Sl (fun r => r = lN (fb_sm (fun k => dst (n * X 0 k) (fb_sm (X 0) n)) n))) 0 0 (fun _ => False) := by
  refine Met.ofW (cc := cX0_awayOfValues) (maxL := 7) (ret := (Option.some Jvm.ClassFile.FieldType.long)) (by decide) rfl ?_
  intro pg en sv mi ag bw mt cd s₁ BL hml hv
  obtain ⟨rfl, hP, hK⟩ := hv
  have hx := BL.exec
  have hb := BL.bytes
  have hr := BL.returns
  have hts : ∀ w ∈ lw_ok, w.before _ sv = true := fun w hw => atoms_spec (ws := wS yX0_awayOfValues cX0_awayOfValues 7 (Option.some Jvm.ClassFile.FieldType.long)) BL.pre w (List.mem_cons_of_mem _ hw)
  have hown : sv.vm.findClass RX0 = some mi.cls := findClass_of_methodNamed BL.named
  have hlocks := BL.notSynchronized
  have fx : CallFix pg mi cd cX0_awayOfValues 7 sv _ lw_ok RX0 := ⟨hx, hb, hml, hown, hts⟩
  have hl := lv_entry ([.ref o, .int (nI n)]) (n := 7) (Nat.le_of_ble_eq_true rfl)
  rw [lg_entry_eq]
  generalize (lg_sl ([.ref o, .int (nI n)]) ++ List.replicate (7 - (lg_sl ([.ref o, .int (nI n)])).length) Slot.unset).toArray = ls at hl ⊢
  replace hl : lv_has ls 7 [(0, .ref o), (1, .int (nI n))] := hl
  have hsm := fb_sm_bound (f := X 0) (c := 120) (n := n) hv
  refine lv_aload_n hx hb dX0_awayOfValues_0 rfl (lv_at hl 0 rfl) ?_
  refine lv_iload_n hx hb dX0_awayOfValues_1 rfl (lv_at hl 1 rfl) ?_
  refine r_Vl (As := [.int (nI n)]) (rest := []) fx (ct_X0_sumOfValues l dC dI cy o a Z X n (by first | assumption | omega) (by first | assumption | omega)) fyX0_sumOfValues tM_RX0_158 rfl rfl ⟨Nat.le_of_ble_eq_true rfl, Nat.le_of_ble_eq_true rfl⟩ (c_pre hK hP) rfl hl.1 rfl (Nat.le_of_ble_eq_true rfl) dX0_awayOfValues_2 ⟨Nat.le_of_ble_eq_true rfl, Nat.le_of_ble_eq_true rfl⟩ (fun r_2 hr_2 => ?_)
  subst hr_2
  refine lv_lstore_n (lv' := [(2, .long (lN (fb_sm (X 0) n))), (0, .ref o), (1, .int (nI n))]) hx hb dX0_awayOfValues_5 rfl hl (by decide) rfl (fun ls hl => ?_)
  refine lv_lconst (v := lN 0) hx hb dX0_awayOfValues_6 (by decide) ?_
  refine lv_lstore (lv' := [(4, .long (lN 0)), (2, .long (lN (fb_sm (X 0) n))), (0, .ref o), (1, .int (nI n))]) hx hb dX0_awayOfValues_7 hl (by decide) rfl (fun ls hl => ?_)
  refine lv_iconst (v := nI 0) hx hb dX0_awayOfValues_9 (by decide) ?_
  refine lv_istore (lv' := [(6, .int (nI 0)), (4, .long (lN 0)), (2, .long (lN (fb_sm (X 0) n))), (0, .ref o), (1, .int (nI n))]) hx hb dX0_awayOfValues_10 hl (by decide) rfl (fun ls hl => ?_)
  obtain ⟨j, ej⟩ : ∃ j : Nat, j = 0 := ⟨_, rfl⟩
  obtain ⟨t, et⟩ : ∃ t : Nat, t = 0 := ⟨_, rfl⟩
  replace hl : lv_has ls 7 [(6, .int (nI j)), (4, .long (lN t)), (2, .long (lN (fb_sm (X 0) n))), (0, .ref o), (1, .int (nI n))] := by subst ej et; exact lv_sub hl [0, 1, 2, 3, 4] rfl
  have hj : j ≤ n := by subst ej et; omega
  have ht : t = fb_sm (fun k => dst (n * X 0 k) (fb_sm (X 0) n)) j := by subst ej et; rfl
  clear ej et
  obtain ⟨n12, hn12⟩ : ∃ n_0 : Nat, n - j < n_0 := ⟨_, Nat.lt_succ_self _⟩
  induction n12 generalizing j t ls with
  | zero => exact absurd hn12 (Nat.not_lt_zero _)
  | succ n12 ih12 =>
    refine lv_iload hx hb dX0_awayOfValues_12 (lv_at hl 0 rfl) ?_
    refine lv_iload_n hx hb dX0_awayOfValues_14 rfl (lv_at hl 4 rfl) ?_
    refine x_icmp_ge (x := j) (y := n) (tgt := 44) hx hb (by omega) (by omega) dX0_awayOfValues_15 (by decide) (fun c_15 => ?_) (fun c_15 => ?_)
    ·
      refine lv_lload hx hb dX0_awayOfValues_44 (lv_at hl 1 rfl) ?_
      refine W.lret (v := (lN t)) hx hb hr (fun t9 ht9 hW9 => ⟨_, rfl, ?_, ht9⟩) (fun q h => by cases h) dX0_awayOfValues_46
      rw [ht, show j = n by omega]
    ·
      have hvj := hv j (by omega)
      have hmu := Nat.mul_le_mul hn hvj
      refine lv_lload hx hb dX0_awayOfValues_18 (lv_at hl 1 rfl) ?_
      refine lv_iload_n hx hb dX0_awayOfValues_20 rfl (lv_at hl 4 rfl) ?_
      refine lv_aload_n hx hb dX0_awayOfValues_21 rfl (lv_at hl 3 rfl) ?_
      refine c_g15 hx hb hts hown hK hP dX0_awayOfValues_22 ?_
      refine lv_iload hx hb dX0_awayOfValues_25 (lv_at hl 0 rfl) ?_
      refine c_l15 (j := j) hx hb hK hP (by omega) dX0_awayOfValues_27 ?_
      refine x_imul hx hb dX0_awayOfValues_28 ?_
      refine lv_i2l (v := lN (n * (X 0 j))) hx hb dX0_awayOfValues_29 (nI_l (by omega)) ?_
      refine lv_lload_n hx hb dX0_awayOfValues_30 rfl (lv_at hl 2 rfl) ?_
      refine lv_lsub hx hb dX0_awayOfValues_31 ?_
      refine va_mabs_long hx hb (by rw [hml]; exact hl.1.symm) hown (hts _ (ok_of tM_RX0_189 rfl)) (hts _ (ok_of tS_yJ9_abs_067f4 rfl)) (hts _ (ok_of tI_RJ9 rfl)) (hts _ (ok_of tK_yJ9_abs_067f4 rfl)) (Nat.le_of_ble_eq_true rfl) (Nat.le_of_ble_eq_true rfl) (Nat.le_of_ble_eq_true rfl) (Nat.le_of_ble_eq_true rfl) dX0_awayOfValues_32 ?_
      rw [lN_dist (by omega) (by omega)]
      refine x_ladd hx hb dX0_awayOfValues_35 ?_
      refine lv_lstore (lv' := [(4, .long (lN (t + (dst (n * X 0 j) (fb_sm (X 0) n))))), (6, .int (nI j)), (2, .long (lN (fb_sm (X 0) n))), (0, .ref o), (1, .int (nI n))]) hx hb dX0_awayOfValues_36 hl (by decide) rfl (fun ls hl => ?_)
      refine lv_iinc (v := nI (j + 1)) (lv' := [(6, .int (nI (j + 1))), (4, .long (lN (t + (dst (n * X 0 j) (fb_sm (X 0) n))))), (2, .long (lN (fb_sm (X 0) n))), (0, .ref o), (1, .int (nI n))]) hx hb dX0_awayOfValues_38 hl (k := 1) rfl (x_inc1 _) (by decide) rfl (fun ls hl => ?_)
      refine lv_goto (tgt := 12) hx hb dX0_awayOfValues_41 (by decide) ?_
      exact ih12 ls (j + 1) (t + (dst (n * X 0 j) (fb_sm (X 0) n))) (lv_sub hl [0, 1, 2, 3, 4] rfl) (by omega) (by rw [fb_sm_succ, ← ht]) (by omega)

set_option maxHeartbeats 4000000 in
set_option maxRecDepth 100000 in
theorem ct_X0_rankInValues (l : Launch) (dC : Nat → ClassId) (dI : Nat → Nat → Nat) (cy : ClassId) (o : Nat) (a : Nat → Nat) (Z X : Nat → Nat → Nat) (n : Nat) (v : Int32) (hn : n ≤ 60) : Met l yX0_rankInValues (wS yX0_rankInValues cX0_rankInValues 5 (Option.some Jvm.ClassFile.FieldType.int)) (rmF 0 0) (va_Pc [.ref o, .int (nI n), .int v] (cR dC dI cy o a Z X)) (vp_Si (fun r => r = nI (fb_sm (fun k => rk (X 0 k) v) n))) 0 0 (fun _ => False) := by
  refine Met.ofW (cc := cX0_rankInValues) (maxL := 5) (ret := (Option.some Jvm.ClassFile.FieldType.int)) (by decide) rfl ?_
  intro pg en sv mi ag bw mt cd s₁ BL hml hv
  obtain ⟨rfl, hP, hK⟩ := hv
  have hx := BL.exec
  have hb := BL.bytes
  have hr := BL.returns
  have hts : ∀ w ∈ lw_ok, w.before _ sv = true := fun w hw => atoms_spec (ws := wS yX0_rankInValues cX0_rankInValues 5 (Option.some Jvm.ClassFile.FieldType.int)) BL.pre w (List.mem_cons_of_mem _ hw)
  have hown : sv.vm.findClass RX0 = some mi.cls := findClass_of_methodNamed BL.named
  have hlocks := BL.notSynchronized
  have fx : CallFix pg mi cd cX0_rankInValues 5 sv _ lw_ok RX0 := ⟨hx, hb, hml, hown, hts⟩
  have hl := lv_entry ([.ref o, .int (nI n), .int v]) (n := 5) (Nat.le_of_ble_eq_true rfl)
  rw [lg_entry_eq]
  generalize (lg_sl ([.ref o, .int (nI n), .int v]) ++ List.replicate (5 - (lg_sl ([.ref o, .int (nI n), .int v])).length) Slot.unset).toArray = ls at hl ⊢
  replace hl : lv_has ls 5 [(0, .ref o), (1, .int (nI n)), (2, .int v)] := hl
  refine lv_iconst (v := nI 0) hx hb dX0_rankInValues_0 (by decide) ?_
  refine lv_istore_n (lv' := [(3, .int (nI 0)), (0, .ref o), (1, .int (nI n)), (2, .int v)]) hx hb dX0_rankInValues_1 rfl hl (by decide) rfl (fun ls hl => ?_)
  refine lv_iconst (v := nI 0) hx hb dX0_rankInValues_2 (by decide) ?_
  refine lv_istore (lv' := [(4, .int (nI 0)), (3, .int (nI 0)), (0, .ref o), (1, .int (nI n)), (2, .int v)]) hx hb dX0_rankInValues_3 hl (by decide) rfl (fun ls hl => ?_)
  obtain ⟨j, ej⟩ : ∃ j : Nat, j = 0 := ⟨_, rfl⟩
  obtain ⟨t, et⟩ : ∃ t : Nat, t = 0 := ⟨_, rfl⟩
  replace hl : lv_has ls 5 [(4, .int (nI j)), (3, .int (nI t)), (0, .ref o), (1, .int (nI n)), (2, .int v)] := by subst ej et; exact lv_sub hl [0, 1, 2, 3, 4] rfl
  have hj : j ≤ n := by subst ej et; omega
  have ht : t = fb_sm (fun k => rk (X 0 k) v) j := by subst ej et; rfl
  clear ej et
  obtain ⟨n5, hn5⟩ : ∃ n_0 : Nat, n - j < n_0 := ⟨_, Nat.lt_succ_self _⟩
  induction n5 generalizing j t ls with
  | zero => exact absurd hn5 (Nat.not_lt_zero _)
  | succ n5 ih5 =>
    refine lv_iload hx hb dX0_rankInValues_5 (lv_at hl 0 rfl) ?_
    refine lv_iload_n hx hb dX0_rankInValues_7 rfl (lv_at hl 3 rfl) ?_
    refine x_icmp_ge (x := j) (y := n) (tgt := 48) hx hb (by omega) (by omega) dX0_rankInValues_8 (by decide) (fun c_8 => ?_) (fun c_8 => ?_)
    ·
      refine lv_iload_n hx hb dX0_rankInValues_48 rfl (lv_at hl 1 rfl) ?_
      refine W.iret (v := (nI t)) hx hb hr (fun t9 ht9 hW9 => ⟨_, rfl, ?_, ht9⟩) (fun q h => by cases h) dX0_rankInValues_49
      rw [ht, show j = n by omega]
    ·
      refine lv_aload_n hx hb dX0_rankInValues_11 rfl (lv_at hl 2 rfl) ?_
      refine c_g15 hx hb hts hown hK hP dX0_rankInValues_12 ?_
      refine lv_iload hx hb dX0_rankInValues_15 (lv_at hl 0 rfl) ?_
      refine c_l15 (j := j) hx hb hK hP (by omega) dX0_rankInValues_17 ?_
      refine lv_iload_n hx hb dX0_rankInValues_18 rfl (lv_at hl 4 rfl) ?_
      refine lv_icmp_ge (tgt := 28) hx hb dX0_rankInValues_19 (by decide) (fun c_19 => ?_) (fun c_19 => ?_)
      ·
        refine lv_aload_n hx hb dX0_rankInValues_28 rfl (lv_at hl 2 rfl) ?_
        refine c_g15 hx hb hts hown hK hP dX0_rankInValues_29 ?_
        refine lv_iload hx hb dX0_rankInValues_32 (lv_at hl 0 rfl) ?_
        refine c_l15 (j := j) hx hb hK hP (by omega) dX0_rankInValues_34 ?_
        refine lv_iload_n hx hb dX0_rankInValues_35 rfl (lv_at hl 4 rfl) ?_
        refine lv_icmp_ne (tgt := 42) hx hb dX0_rankInValues_36 (by decide) (fun c_36 => ?_) (fun c_36 => ?_)
        ·
          refine lv_iinc (v := nI (j + 1)) (lv' := [(4, .int (nI (j + 1))), (3, .int (nI t)), (0, .ref o), (1, .int (nI n)), (2, .int v)]) hx hb dX0_rankInValues_42 hl (k := 0) rfl (x_inc1 _) (by decide) rfl (fun ls hl => ?_)
          refine lv_goto (tgt := 5) hx hb dX0_rankInValues_45 (by decide) ?_
          exact ih5 ls (j + 1) t (lv_sub hl [0, 1, 2, 3, 4] rfl) (by omega) (by rw [fb_sm_succ, ← ht]; first | (rw [rk, if_pos (fa_of_nle c_19)]; done) | (rw [rk, if_neg (fun h => (fa_of_lt h).2.1 c_19), if_pos c_36]; done) | (rw [rk, if_neg (fun h => (fa_of_lt h).2.1 c_19), if_neg c_36]; rfl)) (by omega)
        ·
          refine lv_iinc (v := nI (t + 1)) (lv' := [(3, .int (nI (t + 1))), (4, .int (nI j)), (0, .ref o), (1, .int (nI n)), (2, .int v)]) hx hb dX0_rankInValues_39 hl (k := 1) rfl (x_inc1 _) (by decide) rfl (fun ls hl => ?_)
          refine lv_iinc (v := nI (j + 1)) (lv' := [(4, .int (nI (j + 1))), (3, .int (nI (t + 1))), (0, .ref o), (1, .int (nI n)), (2, .int v)]) hx hb dX0_rankInValues_42 hl (k := 1) rfl (x_inc1 _) (by decide) rfl (fun ls hl => ?_)
          refine lv_goto (tgt := 5) hx hb dX0_rankInValues_45 (by decide) ?_
          exact ih5 ls (j + 1) (t + 1) (lv_sub hl [0, 1, 2, 3, 4] rfl) (by omega) (by rw [fb_sm_succ, ← ht]; first | (rw [rk, if_pos (fa_of_nle c_19)]; done) | (rw [rk, if_neg (fun h => (fa_of_lt h).2.1 c_19), if_pos c_36]; done) | (rw [rk, if_neg (fun h => (fa_of_lt h).2.1 c_19), if_neg c_36]; rfl)) (by omega)
      ·
        refine lv_iinc (v := nI (t + 2)) (lv' := [(3, .int (nI (t + 2))), (4, .int (nI j)), (0, .ref o), (1, .int (nI n)), (2, .int v)]) hx hb dX0_rankInValues_22 hl (k := 1) rfl (x_inc2 _) (by decide) rfl (fun ls hl => ?_)
        refine lv_goto (tgt := 42) hx hb dX0_rankInValues_25 (by decide) ?_
        refine lv_iinc (v := nI (j + 1)) (lv' := [(4, .int (nI (j + 1))), (3, .int (nI (t + 2))), (0, .ref o), (1, .int (nI n)), (2, .int v)]) hx hb dX0_rankInValues_42 hl (k := 1) rfl (x_inc1 _) (by decide) rfl (fun ls hl => ?_)
        refine lv_goto (tgt := 5) hx hb dX0_rankInValues_45 (by decide) ?_
        exact ih5 ls (j + 1) (t + 2) (lv_sub hl [0, 1, 2, 3, 4] rfl) (by omega) (by rw [fb_sm_succ, ← ht]; first | (rw [rk, if_pos (fa_of_nle c_19)]; done) | (rw [rk, if_neg (fun h => (fa_of_lt h).2.1 c_19), if_pos c_36]; done) | (rw [rk, if_neg (fun h => (fa_of_lt h).2.1 c_19), if_neg c_36]; rfl)) (by omega)

set_option maxHeartbeats 4000000 in
set_option maxRecDepth 100000 in
theorem ct_X0_isLeakyByTally (l : Launch) (dC : Nat → ClassId) (dI : Nat → Nat → Nat) (cy : ClassId) (o : Nat) (a : Nat → Nat) (Z X : Nat → Nat → Nat) (pl : Nat) (b : Nat) (hpl : pl < 4) (hb0 : b ≤ 100) (hX : ∀ k, k < 4 → X 1 k ≤ 60 ∧ X 2 k ≤ 60) : Met l yX0_isLeakyByTally (wS yX0_isLeakyByTally cX0_isLeakyByTally 8 (Option.some Jvm.ClassFile.FieldType.boolean)) (rmF 0 0) (va_Pc [.ref o, .int (nI pl), .int (nI b)] (cR dC dI cy o a Z X)) (vp_Si (fun r => isB r (lkT (X 1) (X 2) pl b))) 0 0 (fun _ => False) := by
  refine Met.ofW (cc := cX0_isLeakyByTally) (maxL := 8) (ret := (Option.some Jvm.ClassFile.FieldType.boolean)) (by decide) rfl ?_
  intro pg en sv mi ag bw mt cd s₁ BL hml hv
  obtain ⟨rfl, hP, hK⟩ := hv
  have hx := BL.exec
  have hb := BL.bytes
  have hr := BL.returns
  have hts : ∀ w ∈ lw_ok, w.before _ sv = true := fun w hw => atoms_spec (ws := wS yX0_isLeakyByTally cX0_isLeakyByTally 8 (Option.some Jvm.ClassFile.FieldType.boolean)) BL.pre w (List.mem_cons_of_mem _ hw)
  have hown : sv.vm.findClass RX0 = some mi.cls := findClass_of_methodNamed BL.named
  have hlocks := BL.notSynchronized
  have fx : CallFix pg mi cd cX0_isLeakyByTally 8 sv _ lw_ok RX0 := ⟨hx, hb, hml, hown, hts⟩
  have hl := lv_entry ([.ref o, .int (nI pl), .int (nI b)]) (n := 8) (Nat.le_of_ble_eq_true rfl)
  rw [lg_entry_eq]
  generalize (lg_sl ([.ref o, .int (nI pl), .int (nI b)]) ++ List.replicate (8 - (lg_sl ([.ref o, .int (nI pl), .int (nI b)])).length) Slot.unset).toArray = ls at hl ⊢
  replace hl : lv_has ls 8 [(0, .ref o), (1, .int (nI pl)), (2, .int (nI b))] := hl
  have h1p := hX pl hpl
  have hs1 := fb_sm_bound (f := X 1) (c := 60) (n := 4) (fun k hk => (hX k hk).1)
  have hs2 := fb_sm_bound (f := X 2) (c := 60) (n := 4) (fun k hk => (hX k hk).2)
  have hq1 := sm4_part (X 1) hpl
  have hq2 := sm4_part (X 2) hpl
  refine lv_aload_n hx hb dX0_isLeakyByTally_0 rfl (lv_at hl 0 rfl) ?_
  refine c_g16 hx hb hts hown hK hP dX0_isLeakyByTally_1 ?_
  refine lv_iload_n hx hb dX0_isLeakyByTally_4 rfl (lv_at hl 1 rfl) ?_
  refine c_l16 (j := pl) hx hb hK hP (by omega) dX0_isLeakyByTally_5 ?_
  refine lv_istore_n (lv' := [(3, .int (nI (X 1 pl))), (0, .ref o), (1, .int (nI pl)), (2, .int (nI b))]) hx hb dX0_isLeakyByTally_6 rfl hl (by decide) rfl (fun ls hl => ?_)
  refine lv_aload_n hx hb dX0_isLeakyByTally_7 rfl (lv_at hl 1 rfl) ?_
  refine c_g17 hx hb hts hown hK hP dX0_isLeakyByTally_8 ?_
  refine lv_iload_n hx hb dX0_isLeakyByTally_11 rfl (lv_at hl 2 rfl) ?_
  refine c_l17 (j := pl) hx hb hK hP (by omega) dX0_isLeakyByTally_12 ?_
  refine lv_istore (lv' := [(4, .int (nI (X 2 pl))), (3, .int (nI (X 1 pl))), (0, .ref o), (1, .int (nI pl)), (2, .int (nI b))]) hx hb dX0_isLeakyByTally_13 hl (by decide) rfl (fun ls hl => ?_)
  refine lv_iload_n hx hb dX0_isLeakyByTally_15 rfl (lv_at hl 1 rfl) ?_
  refine lv_ineg hx hb dX0_isLeakyByTally_16 ?_
  refine lv_istore (lv' := [(5, .int (-(nI (X 1 pl)))), (4, .int (nI (X 2 pl))), (3, .int (nI (X 1 pl))), (0, .ref o), (1, .int (nI pl)), (2, .int (nI b))]) hx hb dX0_isLeakyByTally_17 hl (by decide) rfl (fun ls hl => ?_)
  refine lv_iload hx hb dX0_isLeakyByTally_19 (lv_at hl 1 rfl) ?_
  refine lv_ineg hx hb dX0_isLeakyByTally_21 ?_
  refine lv_istore (lv' := [(6, .int (-(nI (X 2 pl)))), (5, .int (-(nI (X 1 pl)))), (4, .int (nI (X 2 pl))), (3, .int (nI (X 1 pl))), (0, .ref o), (1, .int (nI pl)), (2, .int (nI b))]) hx hb dX0_isLeakyByTally_22 hl (by decide) rfl (fun ls hl => ?_)
  refine lv_iconst (v := nI 0) hx hb dX0_isLeakyByTally_24 (by decide) ?_
  refine lv_istore (lv' := [(7, .int (nI 0)), (6, .int (-(nI (X 2 pl)))), (5, .int (-(nI (X 1 pl)))), (4, .int (nI (X 2 pl))), (3, .int (nI (X 1 pl))), (0, .ref o), (1, .int (nI pl)), (2, .int (nI b))]) hx hb dX0_isLeakyByTally_25 hl (by decide) rfl (fun ls hl => ?_)
  obtain ⟨j, ej⟩ : ∃ j : Nat, j = 0 := ⟨_, rfl⟩
  obtain ⟨w, ew⟩ : ∃ w : Int32, w = -(nI (X 1 pl)) := ⟨_, rfl⟩
  obtain ⟨z, ez⟩ : ∃ z : Int32, z = -(nI (X 2 pl)) := ⟨_, rfl⟩
  replace hl : lv_has ls 8 [(7, .int (nI j)), (6, .int z), (5, .int w), (4, .int (nI (X 2 pl))), (3, .int (nI (X 1 pl))), (0, .ref o), (1, .int (nI pl)), (2, .int (nI b))] := by subst ej ew ez; exact lv_sub hl [0, 1, 2, 3, 4, 5, 6, 7] rfl
  have hj : j ≤ 4 := by subst ej ew ez; omega
  have hw : w = nI (fb_sm (X 1) j) - nI (X 1 pl) := by subst ej ew ez; show -nI (X 1 pl) = nI 0 - nI (X 1 pl); rw [nI_0, Int32.zero_sub]
  have hz : z = nI (fb_sm (X 2) j) - nI (X 2 pl) := by subst ej ew ez; show -nI (X 2 pl) = nI 0 - nI (X 2 pl); rw [nI_0, Int32.zero_sub]
  clear ej ew ez
  obtain ⟨n27, hn27⟩ : ∃ n_0 : Nat, 4 - j < n_0 := ⟨_, Nat.lt_succ_self _⟩
  induction n27 generalizing j w z ls with
  | zero => exact absurd hn27 (Nat.not_lt_zero _)
  | succ n27 ih27 =>
    refine lv_iload hx hb dX0_isLeakyByTally_27 (lv_at hl 0 rfl) ?_
    refine lv_iconst (v := nI 4) hx hb dX0_isLeakyByTally_29 (by decide) ?_
    refine x_icmp_ge (x := j) (y := 4) (tgt := 63) hx hb (by omega) (by omega) dX0_isLeakyByTally_30 (by decide) (fun c_30 => ?_) (fun c_30 => ?_)
    ·
      obtain rfl : j = 4 := by omega
      rw [pk_sub hq1] at hw
      rw [pk_sub hq2] at hz
      rw [hw, hz] at hl
      refine lv_iload_n hx hb dX0_isLeakyByTally_63 rfl (lv_at hl 4 rfl) ?_
      refine x_ifn_le (x := X 1 pl) (tgt := 98) hx hb (by omega) dX0_isLeakyByTally_64 (by decide) (fun c_64 => ?_) (fun c_64 => ?_)
      ·
        refine lv_iconst (v := nI 0) hx hb dX0_isLeakyByTally_98 (by decide) ?_
        refine W.zret (v := (nI 0)) hx hb hr (by decide) (fun t9 ht9 hW9 => ⟨_, rfl, ?_, ht9⟩) (fun q h => by cases h) dX0_isLeakyByTally_99
        first | exact Or.inl ⟨rfl, fun h => h.1 c_64⟩ | exact Or.inl ⟨rfl, fun h => h.2.1 c_69⟩ | exact Or.inl ⟨rfl, fun h => h.2.2 ((lk_cmp (by omega) (by omega) (by omega)).mp c_91)⟩ | exact Or.inr ⟨rfl, c_64, c_69, fun h => c_91 ((lk_cmp (by omega) (by omega) (by omega)).mpr h)⟩
      ·
        refine lv_iload hx hb dX0_isLeakyByTally_67 (lv_at hl 2 rfl) ?_
        refine x_ifn_le (x := fb_sm (X 1) 4 - X 1 pl) (tgt := 98) hx hb (by omega) dX0_isLeakyByTally_69 (by decide) (fun c_69 => ?_) (fun c_69 => ?_)
        ·
          refine lv_iconst (v := nI 0) hx hb dX0_isLeakyByTally_98 (by decide) ?_
          refine W.zret (v := (nI 0)) hx hb hr (by decide) (fun t9 ht9 hW9 => ⟨_, rfl, ?_, ht9⟩) (fun q h => by cases h) dX0_isLeakyByTally_99
          first | exact Or.inl ⟨rfl, fun h => h.1 c_64⟩ | exact Or.inl ⟨rfl, fun h => h.2.1 c_69⟩ | exact Or.inl ⟨rfl, fun h => h.2.2 ((lk_cmp (by omega) (by omega) (by omega)).mp c_91)⟩ | exact Or.inr ⟨rfl, c_64, c_69, fun h => c_91 ((lk_cmp (by omega) (by omega) (by omega)).mpr h)⟩
        ·
          have hm1 := Nat.mul_le_mul h1p.2 (show fb_sm (X 1) 4 - X 1 pl ≤ 240 by omega)
          have hm2 := Nat.mul_le_mul (show fb_sm (X 2) 4 - X 2 pl ≤ 240 by omega) h1p.1
          have hm3 := Nat.mul_le_mul (Nat.mul_le_mul hb0 h1p.1) (show fb_sm (X 1) 4 - X 1 pl ≤ 240 by omega)
          refine lv_bipush (v := nI 100) hx hb dX0_isLeakyByTally_72 (by decide) ?_
          refine lv_iload hx hb dX0_isLeakyByTally_74 (lv_at hl 3 rfl) ?_
          refine lv_iload hx hb dX0_isLeakyByTally_76 (lv_at hl 2 rfl) ?_
          refine x_imul hx hb dX0_isLeakyByTally_78 ?_
          refine lv_iload hx hb dX0_isLeakyByTally_79 (lv_at hl 1 rfl) ?_
          refine lv_iload_n hx hb dX0_isLeakyByTally_81 rfl (lv_at hl 4 rfl) ?_
          refine x_imul hx hb dX0_isLeakyByTally_82 ?_
          refine lv_isub hx hb dX0_isLeakyByTally_83 ?_
          refine lv_imul hx hb dX0_isLeakyByTally_84 ?_
          refine lv_iload_n hx hb dX0_isLeakyByTally_85 rfl (lv_at hl 7 rfl) ?_
          refine lv_iload_n hx hb dX0_isLeakyByTally_86 rfl (lv_at hl 4 rfl) ?_
          refine x_imul hx hb dX0_isLeakyByTally_87 ?_
          refine lv_iload hx hb dX0_isLeakyByTally_88 (lv_at hl 2 rfl) ?_
          refine x_imul hx hb dX0_isLeakyByTally_90 ?_
          refine lv_icmp_le (tgt := 98) hx hb dX0_isLeakyByTally_91 (by decide) (fun c_91 => ?_) (fun c_91 => ?_)
          ·
            refine lv_iconst (v := nI 0) hx hb dX0_isLeakyByTally_98 (by decide) ?_
            refine W.zret (v := (nI 0)) hx hb hr (by decide) (fun t9 ht9 hW9 => ⟨_, rfl, ?_, ht9⟩) (fun q h => by cases h) dX0_isLeakyByTally_99
            first | exact Or.inl ⟨rfl, fun h => h.1 c_64⟩ | exact Or.inl ⟨rfl, fun h => h.2.1 c_69⟩ | exact Or.inl ⟨rfl, fun h => h.2.2 ((lk_cmp (by omega) (by omega) (by omega)).mp c_91)⟩ | exact Or.inr ⟨rfl, c_64, c_69, fun h => c_91 ((lk_cmp (by omega) (by omega) (by omega)).mpr h)⟩
          ·
            refine lv_iconst (v := nI 1) hx hb dX0_isLeakyByTally_94 (by decide) ?_
            refine lv_goto (tgt := 99) hx hb dX0_isLeakyByTally_95 (by decide) ?_
            refine W.zret (v := (nI 1)) hx hb hr (by decide) (fun t9 ht9 hW9 => ⟨_, rfl, ?_, ht9⟩) (fun q h => by cases h) dX0_isLeakyByTally_99
            first | exact Or.inl ⟨rfl, fun h => h.1 c_64⟩ | exact Or.inl ⟨rfl, fun h => h.2.1 c_69⟩ | exact Or.inl ⟨rfl, fun h => h.2.2 ((lk_cmp (by omega) (by omega) (by omega)).mp c_91)⟩ | exact Or.inr ⟨rfl, c_64, c_69, fun h => c_91 ((lk_cmp (by omega) (by omega) (by omega)).mpr h)⟩
    ·
      refine lv_iload hx hb dX0_isLeakyByTally_33 (lv_at hl 2 rfl) ?_
      refine lv_aload_n hx hb dX0_isLeakyByTally_35 rfl (lv_at hl 5 rfl) ?_
      refine c_g16 hx hb hts hown hK hP dX0_isLeakyByTally_36 ?_
      refine lv_iload hx hb dX0_isLeakyByTally_39 (lv_at hl 0 rfl) ?_
      refine c_l16 (j := j) hx hb hK hP (by omega) dX0_isLeakyByTally_41 ?_
      refine lv_iadd hx hb dX0_isLeakyByTally_42 ?_
      refine lv_istore (lv' := [(5, .int (w + (nI (X 1 j)))), (7, .int (nI j)), (6, .int z), (4, .int (nI (X 2 pl))), (3, .int (nI (X 1 pl))), (0, .ref o), (1, .int (nI pl)), (2, .int (nI b))]) hx hb dX0_isLeakyByTally_43 hl (by decide) rfl (fun ls hl => ?_)
      refine lv_iload hx hb dX0_isLeakyByTally_45 (lv_at hl 2 rfl) ?_
      refine lv_aload_n hx hb dX0_isLeakyByTally_47 rfl (lv_at hl 5 rfl) ?_
      refine c_g17 hx hb hts hown hK hP dX0_isLeakyByTally_48 ?_
      refine lv_iload hx hb dX0_isLeakyByTally_51 (lv_at hl 1 rfl) ?_
      refine c_l17 (j := j) hx hb hK hP (by omega) dX0_isLeakyByTally_53 ?_
      refine lv_iadd hx hb dX0_isLeakyByTally_54 ?_
      refine lv_istore (lv' := [(6, .int (z + (nI (X 2 j)))), (5, .int (w + (nI (X 1 j)))), (7, .int (nI j)), (4, .int (nI (X 2 pl))), (3, .int (nI (X 1 pl))), (0, .ref o), (1, .int (nI pl)), (2, .int (nI b))]) hx hb dX0_isLeakyByTally_55 hl (by decide) rfl (fun ls hl => ?_)
      refine lv_iinc (v := nI (j + 1)) (lv' := [(7, .int (nI (j + 1))), (6, .int (z + (nI (X 2 j)))), (5, .int (w + (nI (X 1 j)))), (4, .int (nI (X 2 pl))), (3, .int (nI (X 1 pl))), (0, .ref o), (1, .int (nI pl)), (2, .int (nI b))]) hx hb dX0_isLeakyByTally_57 hl (k := 2) rfl (x_inc1 _) (by decide) rfl (fun ls hl => ?_)
      refine lv_goto (tgt := 27) hx hb dX0_isLeakyByTally_60 (by decide) ?_
      exact ih27 ls (j + 1) (w + (nI (X 1 j))) (z + (nI (X 2 j))) (lv_sub hl [0, 1, 2, 3, 4, 5, 6, 7] rfl) (by omega) (by rw [hw, fb_sm_succ, ← nI_add, sub_acc]) (by rw [hz, fb_sm_succ, ← nI_add, sub_acc]) (by omega)

set_option maxHeartbeats 4000000 in
set_option maxRecDepth 100000 in
theorem ct_X0_commonDivisor (l : Launch) (x0 : Nat) (y0 : Nat) (hx1 : x0 < 2 ^ 63) (hy1 : y0 < 2 ^ 63) : Met l yX0_commonDivisor (wS yX0_commonDivisor cX0_commonDivisor 11 (Option.some Jvm.ClassFile.FieldType.long)) (rmF 0 0) (va_Pc [.long (lN x0), .long (lN y0)] (fun _ => True)) (vp_Sl (fun r => r = lN (Nat.gcd x0 y0))) 0 0 (fun _ => False) := by
  refine Met.ofW (cc := cX0_commonDivisor) (maxL := 11) (ret := (Option.some Jvm.ClassFile.FieldType.long)) (by decide) rfl ?_
  intro pg en sv mi ag bw mt cd s₁ BL hml hv
  obtain ⟨rfl, -⟩ := hv
  have hx := BL.exec
  have hb := BL.bytes
  have hr := BL.returns
  have hts : ∀ w ∈ lw_ok, w.before _ sv = true := fun w hw => atoms_spec (ws := wS yX0_commonDivisor cX0_commonDivisor 11 (Option.some Jvm.ClassFile.FieldType.long)) BL.pre w (List.mem_cons_of_mem _ hw)
  have hown : sv.vm.findClass RX0 = some mi.cls := findClass_of_methodNamed BL.named
  have hlocks := BL.notSynchronized
  have fx : CallFix pg mi cd cX0_commonDivisor 11 sv _ lw_ok RX0 := ⟨hx, hb, hml, hown, hts⟩
  have hl := lv_entry ([.long (lN x0), .long (lN y0)]) (n := 11) (Nat.le_of_ble_eq_true rfl)
  rw [lg_entry_eq]
  generalize (lg_sl ([.long (lN x0), .long (lN y0)]) ++ List.replicate (11 - (lg_sl ([.long (lN x0), .long (lN y0)])).length) Slot.unset).toArray = ls at hl ⊢
  replace hl : lv_has ls 11 [(0, .long (lN x0)), (2, .long (lN y0))] := hl
  refine lv_lload_n hx hb dX0_commonDivisor_0 rfl (lv_at hl 0 rfl) ?_
  refine lv_lstore (lv' := [(4, .long (lN x0)), (0, .long (lN x0)), (2, .long (lN y0))]) hx hb dX0_commonDivisor_1 hl (by decide) rfl (fun ls hl => ?_)
  refine lv_lload_n hx hb dX0_commonDivisor_3 rfl (lv_at hl 2 rfl) ?_
  refine lv_lstore (lv' := [(6, .long (lN y0)), (4, .long (lN x0)), (0, .long (lN x0)), (2, .long (lN y0))]) hx hb dX0_commonDivisor_4 hl (by decide) rfl (fun ls hl => ?_)
  refine lv_iconst (v := nI 0) hx hb dX0_commonDivisor_6 (by decide) ?_
  refine lv_istore (lv' := [(8, .int (nI 0)), (6, .long (lN y0)), (4, .long (lN x0)), (0, .long (lN x0)), (2, .long (lN y0))]) hx hb dX0_commonDivisor_7 hl (by decide) rfl (fun ls hl => ?_)
  obtain ⟨i, ei⟩ : ∃ i : Nat, i = 0 := ⟨_, rfl⟩
  obtain ⟨x, ex⟩ : ∃ x : Nat, x = x0 := ⟨_, rfl⟩
  obtain ⟨y, ey⟩ : ∃ y : Nat, y = y0 := ⟨_, rfl⟩
  replace hl : lv_has ls 11 [(8, .int (nI i)), (6, .long (lN y)), (4, .long (lN x)), (0, .long (lN x0)), (2, .long (lN y0))] := by subst ei ex ey; exact lv_sub hl [0, 1, 2, 3, 4] rfl
  have hi : i ≤ 200 := by subst ei ex ey; omega
  have hxy : x < 2 ^ 63 ∧ y < 2 ^ 63 := by subst ei ex ey; exact ⟨hx1, hy1⟩
  have hg : Nat.gcd x y = Nat.gcd x0 y0 := by subst ei ex ey; rfl
  have hp : i = 0 ∨ (y ≤ x ∧ x * y * 2 ^ i < 2 ^ 128) := by subst ei ex ey; exact Or.inl rfl
  clear ei ex ey
  obtain ⟨n9, hn9⟩ : ∃ n_0 : Nat, 200 - i < n_0 := ⟨_, Nat.lt_succ_self _⟩
  induction n9 generalizing i x y ls with
  | zero => exact absurd hn9 (Nat.not_lt_zero _)
  | succ n9 ih9 =>
    refine lv_iload hx hb dX0_commonDivisor_9 (lv_at hl 0 rfl) ?_
    refine lv_sipush (v := nI 200) hx hb dX0_commonDivisor_11 (by decide) ?_
    refine x_icmp_ge (x := i) (y := 200) (tgt := 45) hx hb (by omega) (by omega) dX0_commonDivisor_14 (by decide) (fun c_14 => ?_) (fun c_14 => ?_)
    ·
      refine lv_lload hx hb dX0_commonDivisor_45 (lv_at hl 2 rfl) ?_
      refine W.lret (v := (lN x)) hx hb hr (fun t9 ht9 hW9 => ⟨_, rfl, ?_, ht9⟩) (fun q h => by cases h) dX0_commonDivisor_47
      have hyz : y = 0 := by
        first
        | exact (pk_lEQ hxy.2 (by decide)).mp c_20
        | (rcases hp with h | h
           · omega
           · rw [show i = 200 by omega] at h
             rcases Nat.eq_zero_or_pos y with q | q
             · exact q
             · have h5 : 1 ≤ x * y := Nat.mul_pos (by omega) q
               have h6 := Nat.mul_le_mul_right (2 ^ 200) h5
               exact absurd (Nat.lt_of_le_of_lt h6 h.2) (by decide))
      rw [← hg, hyz, Nat.gcd_zero_right]
    ·
      refine lv_lload hx hb dX0_commonDivisor_17 (lv_at hl 1 rfl) ?_
      refine lv_lconst (v := lN 0) hx hb dX0_commonDivisor_19 (by decide) ?_
      refine x_leq (x := (lN y)) (y := (lN 0)) (tgt := 45) hx hb dX0_commonDivisor_20 dX0_commonDivisor_21 (by decide) (fun c_20 => ?_) (fun c_20 => ?_)
      ·
        refine lv_lload hx hb dX0_commonDivisor_45 (lv_at hl 2 rfl) ?_
        refine W.lret (v := (lN x)) hx hb hr (fun t9 ht9 hW9 => ⟨_, rfl, ?_, ht9⟩) (fun q h => by cases h) dX0_commonDivisor_47
        have hyz : y = 0 := by
          first
          | exact (pk_lEQ hxy.2 (by decide)).mp c_20
          | (rcases hp with h | h
             · omega
             · rw [show i = 200 by omega] at h
               rcases Nat.eq_zero_or_pos y with q | q
               · exact q
               · have h5 : 1 ≤ x * y := Nat.mul_pos (by omega) q
                 have h6 := Nat.mul_le_mul_right (2 ^ 200) h5
                 exact absurd (Nat.lt_of_le_of_lt h6 h.2) (by decide))
        rw [← hg, hyz, Nat.gcd_zero_right]
      ·
        have hy0 : 0 < y := Nat.pos_of_ne_zero (fun h => c_20 (by rw [h]))
        have hml1 := Nat.mod_lt x hy0
        have hstep : y * (x % y) * 2 ^ (i + 1) < 2 ^ 128 := by
          rcases hp with h | h
          · subst h
            have h1 := Nat.mul_le_mul (Nat.le_of_lt hxy.2) (Nat.le_of_lt (Nat.lt_trans hml1 hxy.2))
            rw [Nat.zero_add, Nat.pow_one]
            omega
          · exact euc_step hy0 h.1 h.2
        refine lv_lload hx hb dX0_commonDivisor_24 (lv_at hl 2 rfl) ?_
        refine lv_lload hx hb dX0_commonDivisor_26 (lv_at hl 1 rfl) ?_
        refine lv_lrem hx hb dX0_commonDivisor_28 (by exact lN_ne0 hy0 hxy.2) ?_
        rw [pk_lRem hxy.1 hy0 hxy.2]
        refine lv_lstore (lv' := [(9, .long (lN (x % y))), (8, .int (nI i)), (6, .long (lN y)), (4, .long (lN x)), (0, .long (lN x0)), (2, .long (lN y0))]) hx hb dX0_commonDivisor_29 hl (by decide) rfl (fun ls hl => ?_)
        refine lv_lload hx hb dX0_commonDivisor_31 (lv_at hl 2 rfl) ?_
        refine lv_lstore (lv' := [(4, .long (lN y)), (9, .long (lN (x % y))), (8, .int (nI i)), (6, .long (lN y)), (0, .long (lN x0)), (2, .long (lN y0))]) hx hb dX0_commonDivisor_33 hl (by decide) rfl (fun ls hl => ?_)
        refine lv_lload hx hb dX0_commonDivisor_35 (lv_at hl 1 rfl) ?_
        refine lv_lstore (lv' := [(6, .long (lN (x % y))), (4, .long (lN y)), (9, .long (lN (x % y))), (8, .int (nI i)), (0, .long (lN x0)), (2, .long (lN y0))]) hx hb dX0_commonDivisor_37 hl (by decide) rfl (fun ls hl => ?_)
        refine lv_iinc (v := nI (i + 1)) (lv' := [(8, .int (nI (i + 1))), (6, .long (lN (x % y))), (4, .long (lN y)), (9, .long (lN (x % y))), (0, .long (lN x0)), (2, .long (lN y0))]) hx hb dX0_commonDivisor_39 hl (k := 3) rfl (x_inc1 _) (by decide) rfl (fun ls hl => ?_)
        refine lv_goto (tgt := 9) hx hb dX0_commonDivisor_42 (by decide) ?_
        exact ih9 ls (i + 1) y (x % y) (lv_sub hl [0, 1, 2, 4, 5] rfl) (by omega) (by exact ⟨hxy.2, Nat.lt_trans hml1 hxy.2⟩) (by rw [gcd_step]; exact hg) (by exact Or.inr ⟨Nat.le_of_lt hml1, hstep⟩) (by omega)

set_option maxHeartbeats 4000000 in
set_option maxRecDepth 100000 in
theorem ct_X0_fraction (l : Launch) (x : Int64) (B : Nat) (w : Int32) (hxr : x.toInt ≠ -9223372036854775808) (hB : 0 < B) (hB2 : B < 2 ^ 63) : Met l yX0_fraction (wS yX0_fraction cX0_fraction 7 (Option.some Jvm.ClassFile.FieldType.long)) (rmF 1 30) (va_Pc [.long x, .long (lN B), .int w] (fun _ => True)) (vp_Sl (fun r => r = frc x B w)) 0 0 (fun _ => False) := by
  refine Met.ofW (cc := cX0_fraction) (maxL := 7) (ret := (Option.some Jvm.ClassFile.FieldType.long)) (by decide) rfl ?_
  intro pg en sv mi ag bw mt cd s₁ BL hml hv
  obtain ⟨rfl, -⟩ := hv
  have hx := BL.exec
  have hb := BL.bytes
  have hr := BL.returns
  have hts : ∀ w ∈ lw_ok, w.before _ sv = true := fun w hw => atoms_spec (ws := wS yX0_fraction cX0_fraction 7 (Option.some Jvm.ClassFile.FieldType.long)) BL.pre w (List.mem_cons_of_mem _ hw)
  have hown : sv.vm.findClass RX0 = some mi.cls := findClass_of_methodNamed BL.named
  have hlocks := BL.notSynchronized
  have fx : CallFix pg mi cd cX0_fraction 7 sv _ lw_ok RX0 := ⟨hx, hb, hml, hown, hts⟩
  have hl := lv_entry ([.long x, .long (lN B), .int w]) (n := 7) (Nat.le_of_ble_eq_true rfl)
  rw [lg_entry_eq]
  generalize (lg_sl ([.long x, .long (lN B), .int w]) ++ List.replicate (7 - (lg_sl ([.long x, .long (lN B), .int w])).length) Slot.unset).toArray = ls at hl ⊢
  replace hl : lv_has ls 7 [(0, .long x), (2, .long (lN B)), (4, .int w)] := hl
  have hg0 : 0 < Nat.gcd x.toInt.natAbs B := Nat.gcd_pos_of_pos_right _ hB
  have hg1 : Nat.gcd x.toInt.natAbs B ≤ B := Nat.gcd_le_right _ hB
  have hg63 : Nat.gcd x.toInt.natAbs B < 2 ^ 63 := Nat.lt_of_le_of_lt hg1 hB2
  have hxn : x.toInt.natAbs < 2 ^ 63 := by have := fb_rngL x; omega
  refine lv_lload_n hx hb dX0_fraction_0 rfl (lv_at hl 0 rfl) ?_
  refine va_mabs_long hx hb (by rw [hml]; exact hl.1.symm) hown (hts _ (ok_of tM_RX0_189 rfl)) (hts _ (ok_of tS_yJ9_abs_067f4 rfl)) (hts _ (ok_of tI_RJ9 rfl)) (hts _ (ok_of tK_yJ9_abs_067f4 rfl)) (Nat.le_of_ble_eq_true rfl) (Nat.le_of_ble_eq_true rfl) (Nat.le_of_ble_eq_true rfl) (Nat.le_of_ble_eq_true rfl) dX0_fraction_1 ?_
  rw [abs_lN hxr]
  refine lv_lload_n hx hb dX0_fraction_4 rfl (lv_at hl 1 rfl) ?_
  refine r_Sl (As := [.long (lN x.toInt.natAbs), .long (lN B)]) (rest := []) fx (ct_X0_commonDivisor l x.toInt.natAbs B (by first | assumption | omega) (by first | assumption | omega)) fyX0_commonDivisor tM_RX0_212 rfl rfl ⟨Nat.le_of_ble_eq_true rfl, Nat.le_of_ble_eq_true rfl⟩ rfl hl.1 rfl (Nat.le_of_ble_eq_true rfl) dX0_fraction_5 ⟨Nat.le_of_ble_eq_true rfl, Nat.le_of_ble_eq_true rfl⟩ (fun r_5 hr_5 => ?_)
  subst hr_5
  refine lv_lstore (lv' := [(5, .long (lN (Nat.gcd x.toInt.natAbs B))), (0, .long x), (2, .long (lN B)), (4, .int w)]) hx hb dX0_fraction_8 hl (by decide) rfl (fun ls hl => ?_)
  refine lv_lload hx hb dX0_fraction_10 (lv_at hl 0 rfl) ?_
  refine lv_lconst (v := lN 0) hx hb dX0_fraction_12 (by decide) ?_
  refine x_lgt (x := (lN (Nat.gcd x.toInt.natAbs B))) (y := (lN 0)) (tgt := 21) hx hb dX0_fraction_13 dX0_fraction_14 (by decide) (fun c_13 => ?_) (fun c_13 => ?_)
  ·
    refine lv_iload hx hb dX0_fraction_21 (lv_at hl 3 rfl) ?_
    refine lv_if_ne (tgt := 30) hx hb dX0_fraction_23 (by decide) (fun c_23 => ?_) (fun c_23 => ?_)
    ·
      refine lv_lload_n hx hb dX0_fraction_30 rfl (lv_at hl 2 rfl) ?_
      refine lv_lload hx hb dX0_fraction_31 (lv_at hl 0 rfl) ?_
      refine lv_ldiv hx hb dX0_fraction_33 (by exact lN_ne0 hg0 hg63) ?_
      refine W.lret (v := ((lN B) / (lN (Nat.gcd x.toInt.natAbs B)))) hx hb hr (fun t9 ht9 hW9 => ⟨_, rfl, ?_, ht9⟩) (fun q h => by cases h) dX0_fraction_34
      first | (rw [frc, if_pos c_23]; done) | (rw [frc, if_neg c_23, pk_lDiv hB2 hg0 hg63]; done)
    ·
      refine lv_lload_n hx hb dX0_fraction_26 rfl (lv_at hl 1 rfl) ?_
      refine lv_goto (tgt := 31) hx hb dX0_fraction_27 (by decide) ?_
      refine lv_lload hx hb dX0_fraction_31 (lv_at hl 0 rfl) ?_
      refine lv_ldiv hx hb dX0_fraction_33 (by exact lN_ne0 hg0 hg63) ?_
      refine W.lret (v := (x / (lN (Nat.gcd x.toInt.natAbs B)))) hx hb hr (fun t9 ht9 hW9 => ⟨_, rfl, ?_, ht9⟩) (fun q h => by cases h) dX0_fraction_34
      first | (rw [frc, if_pos c_23]; done) | (rw [frc, if_neg c_23, pk_lDiv hB2 hg0 hg63]; done)
  ·
    exact absurd ((pk_lLT (by decide) hg63).mpr hg0) c_13
