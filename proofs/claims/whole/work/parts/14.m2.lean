set_option maxHeartbeats 4000000 in
set_option maxRecDepth 100000 in
theorem ct_X1_divisor (l : Launch) (dC : Nat → ClassId) (dI : Nat → Nat → Nat) (cy cz : ClassId) (o : Nat) (a : Nat → Nat) (Z : Nat → Nat → Nat) (G T K : Nat → Nat) (x : Int64) (B : Nat) (hxr : x.toInt ≠ -9223372036854775808) (hB2 : B < 2 ^ 63) : Met l yX1_divisor (wS yX1_divisor cX1_divisor 11 (Option.some Jvm.ClassFile.FieldType.long)) (rmF 0 0) (va_Pc [.ref o, .long x, .long (lN B)] (mR dC dI cy cz o a Z G T K)) (vp_Sl (fun r => r = lN (Nat.gcd x.toInt.natAbs B))) 0 0 (fun _ => False) := by
  refine Met.ofW (cc := cX1_divisor) (maxL := 11) (ret := (Option.some Jvm.ClassFile.FieldType.long)) (by decide) rfl ?_
  intro pg en sv mi ag bw mt cd s₁ BL hml hv
  obtain ⟨rfl, hP, hK⟩ := hv
  have hx := BL.exec
  have hb := BL.bytes
  have hr := BL.returns
  have hts : ∀ w ∈ lw_ok, w.before _ sv = true := fun w hw => atoms_spec (ws := wS yX1_divisor cX1_divisor 11 (Option.some Jvm.ClassFile.FieldType.long)) BL.pre w (List.mem_cons_of_mem _ hw)
  have hown : sv.vm.findClass RX1 = some mi.cls := findClass_of_methodNamed BL.named
  have hlocks := BL.notSynchronized
  have fx : CallFix pg mi cd cX1_divisor 11 sv _ lw_ok RX1 := ⟨hx, hb, hml, hown, hts⟩
  have hl := lv_entry ([.ref o, .long x, .long (lN B)]) (n := 11) (Nat.le_of_ble_eq_true rfl)
  rw [lg_entry_eq]
  generalize (lg_sl ([.ref o, .long x, .long (lN B)]) ++ List.replicate (11 - (lg_sl ([.ref o, .long x, .long (lN B)])).length) Slot.unset).toArray = ls at hl ⊢
  replace hl : lv_has ls 11 [(0, .ref o), (1, .long x), (3, .long (lN B))] := hl
  have hxn : x.toInt.natAbs < 2 ^ 63 := by have := fb_rngL x; omega
  have hz0 : (lN 0).toInt = 0 := rfl
  refine lv_lload_n hx hb dX1_divisor_0 rfl (lv_at hl 1 rfl) ?_
  refine lv_lconst (v := lN 0) hx hb dX1_divisor_1 (by decide) ?_
  refine x_lge (x := x) (y := (lN 0)) (tgt := 11) hx hb dX1_divisor_2 dX1_divisor_3 (by decide) (fun c_2 => ?_) (fun c_2 => ?_)
  ·
    have hxe : x = lN x.toInt.natAbs := by
      rw [Int64.le_iff_toInt_le, hz0] at c_2
      apply Int64.toInt_inj.mp
      rw [pk_lT hxn]
      omega
    refine lv_lload_n hx hb dX1_divisor_11 rfl (lv_at hl 1 rfl) ?_
    refine W.eq (congrArg (fun z => F0 mi 12 ls [Value.long z]) hxe) ?_
    refine lv_lstore (lv' := [(5, .long (lN x.toInt.natAbs)), (0, .ref o), (1, .long x), (3, .long (lN B))]) hx hb dX1_divisor_12 hl (by decide) rfl (fun ls hl => ?_)
    refine lv_lload_n hx hb dX1_divisor_14 rfl (lv_at hl 3 rfl) ?_
    refine lv_lstore (lv' := [(7, .long (lN B)), (5, .long (lN x.toInt.natAbs)), (0, .ref o), (1, .long x), (3, .long (lN B))]) hx hb dX1_divisor_15 hl (by decide) rfl (fun ls hl => ?_)
    obtain ⟨x1, ex1⟩ : ∃ x1 : Nat, x1 = x.toInt.natAbs := ⟨_, rfl⟩
    obtain ⟨y, ey⟩ : ∃ y : Nat, y = B := ⟨_, rfl⟩
    replace hl : lv_has ls 11 [(7, .long (lN y)), (5, .long (lN x1)), (0, .ref o), (1, .long x), (3, .long (lN B))] := by subst ex1 ey; exact lv_sub hl [0, 1, 2, 3, 4] rfl
    have hxy : x1 < 2 ^ 63 ∧ y < 2 ^ 63 := by subst ex1 ey; exact ⟨hxn, hB2⟩
    have hg : Nat.gcd x1 y = Nat.gcd x.toInt.natAbs B := by subst ex1 ey; rfl
    clear ex1 ey
    obtain ⟨n17, hn17⟩ : ∃ n_0 : Nat, y < n_0 := ⟨_, Nat.lt_succ_self _⟩
    induction n17 generalizing x1 y ls with
    | zero => exact absurd hn17 (Nat.not_lt_zero _)
    | succ n17 ih17 =>
      refine lv_lload hx hb dX1_divisor_17 (lv_at hl 0 rfl) ?_
      refine lv_lconst (v := lN 0) hx hb dX1_divisor_19 (by decide) ?_
      refine x_leq (x := (lN y)) (y := (lN 0)) (tgt := 42) hx hb dX1_divisor_20 dX1_divisor_21 (by decide) (fun c_20 => ?_) (fun c_20 => ?_)
      ·
        refine lv_lload hx hb dX1_divisor_42 (lv_at hl 1 rfl) ?_
        refine W.lret (v := (lN x1)) hx hb hr (fun t9 ht9 hW9 => ⟨_, rfl, ?_, ht9⟩) (fun q h => by cases h) dX1_divisor_44
        rw [← hg, (pk_lEQ hxy.2 (by decide)).mp c_20, Nat.gcd_zero_right]
      ·
        have hy0 : 0 < y := Nat.pos_of_ne_zero (fun h => c_20 (by rw [h]))
        have hml1 := Nat.mod_lt x1 hy0
        refine lv_lload hx hb dX1_divisor_24 (lv_at hl 1 rfl) ?_
        refine lv_lload hx hb dX1_divisor_26 (lv_at hl 0 rfl) ?_
        refine lv_lrem hx hb dX1_divisor_28 (by exact lN_ne0 hy0 hxy.2) ?_
        rw [pk_lRem hxy.1 hy0 hxy.2]
        refine lv_lstore (lv' := [(9, .long (lN (x1 % y))), (7, .long (lN y)), (5, .long (lN x1)), (0, .ref o), (1, .long x), (3, .long (lN B))]) hx hb dX1_divisor_29 hl (by decide) rfl (fun ls hl => ?_)
        refine lv_lload hx hb dX1_divisor_31 (lv_at hl 1 rfl) ?_
        refine lv_lstore (lv' := [(5, .long (lN y)), (9, .long (lN (x1 % y))), (7, .long (lN y)), (0, .ref o), (1, .long x), (3, .long (lN B))]) hx hb dX1_divisor_33 hl (by decide) rfl (fun ls hl => ?_)
        refine lv_lload hx hb dX1_divisor_35 (lv_at hl 1 rfl) ?_
        refine lv_lstore (lv' := [(7, .long (lN (x1 % y))), (5, .long (lN y)), (9, .long (lN (x1 % y))), (0, .ref o), (1, .long x), (3, .long (lN B))]) hx hb dX1_divisor_37 hl (by decide) rfl (fun ls hl => ?_)
        refine lv_goto (tgt := 17) hx hb dX1_divisor_39 (by decide) ?_
        exact ih17 ls y (x1 % y) (lv_sub hl [0, 1, 3, 4, 5] rfl) (by exact ⟨hxy.2, Nat.lt_trans hml1 hxy.2⟩) (by rw [gcd_step]; exact hg) (by omega)
  ·
    have hxe : -x = lN x.toInt.natAbs := by
      rw [Int64.le_iff_toInt_le, hz0] at c_2
      have := fb_rngL x
      apply Int64.toInt_inj.mp
      rw [pk_lT hxn, Int64.toInt_neg, fb_bmodL (by omega) (by omega)]
      omega
    refine lv_lload_n hx hb dX1_divisor_6 rfl (lv_at hl 1 rfl) ?_
    refine lv_lneg hx hb dX1_divisor_7 ?_
    refine lv_goto (tgt := 12) hx hb dX1_divisor_8 (by decide) ?_
    refine W.eq (congrArg (fun z => F0 mi 12 ls [Value.long z]) hxe) ?_
    refine lv_lstore (lv' := [(5, .long (lN x.toInt.natAbs)), (0, .ref o), (1, .long x), (3, .long (lN B))]) hx hb dX1_divisor_12 hl (by decide) rfl (fun ls hl => ?_)
    refine lv_lload_n hx hb dX1_divisor_14 rfl (lv_at hl 3 rfl) ?_
    refine lv_lstore (lv' := [(7, .long (lN B)), (5, .long (lN x.toInt.natAbs)), (0, .ref o), (1, .long x), (3, .long (lN B))]) hx hb dX1_divisor_15 hl (by decide) rfl (fun ls hl => ?_)
    obtain ⟨x1, ex1⟩ : ∃ x1 : Nat, x1 = x.toInt.natAbs := ⟨_, rfl⟩
    obtain ⟨y, ey⟩ : ∃ y : Nat, y = B := ⟨_, rfl⟩
    replace hl : lv_has ls 11 [(7, .long (lN y)), (5, .long (lN x1)), (0, .ref o), (1, .long x), (3, .long (lN B))] := by subst ex1 ey; exact lv_sub hl [0, 1, 2, 3, 4] rfl
    have hxy : x1 < 2 ^ 63 ∧ y < 2 ^ 63 := by subst ex1 ey; exact ⟨hxn, hB2⟩
    have hg : Nat.gcd x1 y = Nat.gcd x.toInt.natAbs B := by subst ex1 ey; rfl
    clear ex1 ey
    obtain ⟨n17, hn17⟩ : ∃ n_0 : Nat, y < n_0 := ⟨_, Nat.lt_succ_self _⟩
    induction n17 generalizing x1 y ls with
    | zero => exact absurd hn17 (Nat.not_lt_zero _)
    | succ n17 ih17 =>
      refine lv_lload hx hb dX1_divisor_17 (lv_at hl 0 rfl) ?_
      refine lv_lconst (v := lN 0) hx hb dX1_divisor_19 (by decide) ?_
      refine x_leq (x := (lN y)) (y := (lN 0)) (tgt := 42) hx hb dX1_divisor_20 dX1_divisor_21 (by decide) (fun c_20 => ?_) (fun c_20 => ?_)
      ·
        refine lv_lload hx hb dX1_divisor_42 (lv_at hl 1 rfl) ?_
        refine W.lret (v := (lN x1)) hx hb hr (fun t9 ht9 hW9 => ⟨_, rfl, ?_, ht9⟩) (fun q h => by cases h) dX1_divisor_44
        rw [← hg, (pk_lEQ hxy.2 (by decide)).mp c_20, Nat.gcd_zero_right]
      ·
        have hy0 : 0 < y := Nat.pos_of_ne_zero (fun h => c_20 (by rw [h]))
        have hml1 := Nat.mod_lt x1 hy0
        refine lv_lload hx hb dX1_divisor_24 (lv_at hl 1 rfl) ?_
        refine lv_lload hx hb dX1_divisor_26 (lv_at hl 0 rfl) ?_
        refine lv_lrem hx hb dX1_divisor_28 (by exact lN_ne0 hy0 hxy.2) ?_
        rw [pk_lRem hxy.1 hy0 hxy.2]
        refine lv_lstore (lv' := [(9, .long (lN (x1 % y))), (7, .long (lN y)), (5, .long (lN x1)), (0, .ref o), (1, .long x), (3, .long (lN B))]) hx hb dX1_divisor_29 hl (by decide) rfl (fun ls hl => ?_)
        refine lv_lload hx hb dX1_divisor_31 (lv_at hl 1 rfl) ?_
        refine lv_lstore (lv' := [(5, .long (lN y)), (9, .long (lN (x1 % y))), (7, .long (lN y)), (0, .ref o), (1, .long x), (3, .long (lN B))]) hx hb dX1_divisor_33 hl (by decide) rfl (fun ls hl => ?_)
        refine lv_lload hx hb dX1_divisor_35 (lv_at hl 1 rfl) ?_
        refine lv_lstore (lv' := [(7, .long (lN (x1 % y))), (5, .long (lN y)), (9, .long (lN (x1 % y))), (0, .ref o), (1, .long x), (3, .long (lN B))]) hx hb dX1_divisor_37 hl (by decide) rfl (fun ls hl => ?_)
        refine lv_goto (tgt := 17) hx hb dX1_divisor_39 (by decide) ?_
        exact ih17 ls y (x1 % y) (lv_sub hl [0, 1, 3, 4, 5] rfl) (by exact ⟨hxy.2, Nat.lt_trans hml1 hxy.2⟩) (by rw [gcd_step]; exact hg) (by omega)

set_option maxHeartbeats 4000000 in
set_option maxRecDepth 100000 in
theorem ct_X1_part (l : Launch) (dC : Nat → ClassId) (dI : Nat → Nat → Nat) (cy cz : ClassId) (o : Nat) (a : Nat → Nat) (Z : Nat → Nat → Nat) (G T K : Nat → Nat) (x : Int64) (B : Nat) (w : Int32) (hxr : x.toInt ≠ -9223372036854775808) (hB : x = 0 ∨ 0 < B) (hB2 : B < 2 ^ 63) : Met l yX1_part (wS yX1_part cX1_part 8 (Option.some Jvm.ClassFile.FieldType.long)) (rmF 1 30) (va_Pc [.ref o, .long x, .long (lN B), .int w] (mR dC dI cy cz o a Z G T K)) (vp_Sl (fun r => r = prt x B w)) 0 0 (fun _ => False) := by
  refine Met.ofW (cc := cX1_part) (maxL := 8) (ret := (Option.some Jvm.ClassFile.FieldType.long)) (by decide) rfl ?_
  intro pg en sv mi ag bw mt cd s₁ BL hml hv
  obtain ⟨rfl, hP, hK⟩ := hv
  have hx := BL.exec
  have hb := BL.bytes
  have hr := BL.returns
  have hts : ∀ w ∈ lw_ok, w.before _ sv = true := fun w hw => atoms_spec (ws := wS yX1_part cX1_part 8 (Option.some Jvm.ClassFile.FieldType.long)) BL.pre w (List.mem_cons_of_mem _ hw)
  have hown : sv.vm.findClass RX1 = some mi.cls := findClass_of_methodNamed BL.named
  have hlocks := BL.notSynchronized
  have fx : CallFix pg mi cd cX1_part 8 sv _ lw_ok RX1 := ⟨hx, hb, hml, hown, hts⟩
  have hl := lv_entry ([.ref o, .long x, .long (lN B), .int w]) (n := 8) (Nat.le_of_ble_eq_true rfl)
  rw [lg_entry_eq]
  generalize (lg_sl ([.ref o, .long x, .long (lN B), .int w]) ++ List.replicate (8 - (lg_sl ([.ref o, .long x, .long (lN B), .int w])).length) Slot.unset).toArray = ls at hl ⊢
  replace hl : lv_has ls 8 [(0, .ref o), (1, .long x), (3, .long (lN B)), (5, .int w)] := hl
  refine lv_lload_n hx hb dX1_part_0 rfl (lv_at hl 1 rfl) ?_
  refine lv_lconst (v := lN 0) hx hb dX1_part_1 (by decide) ?_
  refine x_lne (x := x) (y := (lN 0)) (tgt := 17) hx hb dX1_part_2 dX1_part_3 (by decide) (fun c_2 => ?_) (fun c_2 => ?_)
  ·
    have hx0 : ¬ x = 0 := c_2
    have hB0 : 0 < B := hB.elim (fun h => absurd h hx0) id
    have hg0 : 0 < Nat.gcd x.toInt.natAbs B := Nat.gcd_pos_of_pos_right _ hB0
    have hg1 : Nat.gcd x.toInt.natAbs B ≤ B := Nat.gcd_le_right _ hB0
    have hg63 : Nat.gcd x.toInt.natAbs B < 2 ^ 63 := Nat.lt_of_le_of_lt hg1 hB2
    refine lv_aload_n hx hb dX1_part_17 rfl (lv_at hl 0 rfl) ?_
    refine lv_lload_n hx hb dX1_part_18 rfl (lv_at hl 1 rfl) ?_
    refine lv_lload_n hx hb dX1_part_19 rfl (lv_at hl 2 rfl) ?_
    refine r_Vl (As := [.long x, .long (lN B)]) (rest := []) fx (ct_X1_divisor l dC dI cy cz o a Z G T K x B (by first | assumption | omega) (by first | assumption | omega)) fyX1_divisor tM_RX1_100 rfl rfl ⟨Nat.le_of_ble_eq_true rfl, Nat.le_of_ble_eq_true rfl⟩ (m_pre hK hP) rfl hl.1 rfl (Nat.le_of_ble_eq_true rfl) dX1_part_20 ⟨Nat.le_of_ble_eq_true rfl, Nat.le_of_ble_eq_true rfl⟩ (fun r_20 hr_20 => ?_)
    subst hr_20
    refine lv_lstore (lv' := [(6, .long (lN (Nat.gcd x.toInt.natAbs B))), (0, .ref o), (1, .long x), (3, .long (lN B)), (5, .int w)]) hx hb dX1_part_23 hl (by decide) rfl (fun ls hl => ?_)
    refine lv_iload hx hb dX1_part_25 (lv_at hl 4 rfl) ?_
    refine lv_if_ne (tgt := 37) hx hb dX1_part_27 (by decide) (fun c_27 => ?_) (fun c_27 => ?_)
    ·
      refine lv_lload_n hx hb dX1_part_37 rfl (lv_at hl 3 rfl) ?_
      refine lv_lload hx hb dX1_part_38 (lv_at hl 0 rfl) ?_
      refine lv_ldiv hx hb dX1_part_40 (by exact lN_ne0 hg0 hg63) ?_
      refine W.lret (v := ((lN B) / (lN (Nat.gcd x.toInt.natAbs B)))) hx hb hr (fun t9 ht9 hW9 => ⟨_, rfl, ?_, ht9⟩) (fun q h => by cases h) dX1_part_41
      first | (rw [prt, if_pos (show x = 0 from c_2), if_pos c_8]; done) | (rw [prt, if_pos (show x = 0 from c_2), if_neg c_8]; done) | (rw [prt, if_neg hx0, frc, if_pos c_27]; done) | (rw [prt, if_neg hx0, frc, if_neg c_27, pk_lDiv hB2 hg0 hg63]; done)
    ·
      refine lv_lload_n hx hb dX1_part_30 rfl (lv_at hl 2 rfl) ?_
      refine lv_lload hx hb dX1_part_31 (lv_at hl 0 rfl) ?_
      refine lv_ldiv hx hb dX1_part_33 (by exact lN_ne0 hg0 hg63) ?_
      refine lv_goto (tgt := 41) hx hb dX1_part_34 (by decide) ?_
      refine W.lret (v := (x / (lN (Nat.gcd x.toInt.natAbs B)))) hx hb hr (fun t9 ht9 hW9 => ⟨_, rfl, ?_, ht9⟩) (fun q h => by cases h) dX1_part_41
      first | (rw [prt, if_pos (show x = 0 from c_2), if_pos c_8]; done) | (rw [prt, if_pos (show x = 0 from c_2), if_neg c_8]; done) | (rw [prt, if_neg hx0, frc, if_pos c_27]; done) | (rw [prt, if_neg hx0, frc, if_neg c_27, pk_lDiv hB2 hg0 hg63]; done)
  ·
    refine lv_iload hx hb dX1_part_6 (lv_at hl 3 rfl) ?_
    refine lv_if_ne (tgt := 15) hx hb dX1_part_8 (by decide) (fun c_8 => ?_) (fun c_8 => ?_)
    ·
      refine lv_lconst (v := lN 1) hx hb dX1_part_15 (by decide) ?_
      refine W.lret (v := (lN 1)) hx hb hr (fun t9 ht9 hW9 => ⟨_, rfl, ?_, ht9⟩) (fun q h => by cases h) dX1_part_16
      first | (rw [prt, if_pos (show x = 0 from c_2), if_pos c_8]; done) | (rw [prt, if_pos (show x = 0 from c_2), if_neg c_8]; done) | (rw [prt, if_neg hx0, frc, if_pos c_27]; done) | (rw [prt, if_neg hx0, frc, if_neg c_27, pk_lDiv hB2 hg0 hg63]; done)
    ·
      refine lv_lconst (v := lN 0) hx hb dX1_part_11 (by decide) ?_
      refine lv_goto (tgt := 16) hx hb dX1_part_12 (by decide) ?_
      refine W.lret (v := (lN 0)) hx hb hr (fun t9 ht9 hW9 => ⟨_, rfl, ?_, ht9⟩) (fun q h => by cases h) dX1_part_16
      first | (rw [prt, if_pos (show x = 0 from c_2), if_pos c_8]; done) | (rw [prt, if_pos (show x = 0 from c_2), if_neg c_8]; done) | (rw [prt, if_neg hx0, frc, if_pos c_27]; done) | (rw [prt, if_neg hx0, frc, if_neg c_27, pk_lDiv hB2 hg0 hg63]; done)

set_option maxHeartbeats 4000000 in
set_option maxRecDepth 100000 in
theorem ct_X1_isShared (l : Launch) (dC : Nat → ClassId) (dI : Nat → Nat → Nat) (cy cz : ClassId) (o : Nat) (a : Nat → Nat) (Z : Nat → Nat → Nat) (G T K : Nat → Nat) (p : Nat) (i : Nat) (q : Nat) (hI : Inv Z) (hR : MRel Z G T K) (hp : p < 8) (hi : i < Z 8 p) (hq : q < 8) : Met l yX1_isShared (wS yX1_isShared cX1_isShared 4 (Option.some Jvm.ClassFile.FieldType.boolean)) (rmF 1 23) (va_Pc [.ref o, .int (nI p), .int (nI i), .int (nI q)] (mR dC dI cy cz o a Z G T K)) (vp_Si (fun r => isB r (shB Z q (Z 10 (p * 12 + i)) = true))) 0 0 (fun _ => False) := by
  refine Met.ofW (cc := cX1_isShared) (maxL := 4) (ret := (Option.some Jvm.ClassFile.FieldType.boolean)) (by decide) rfl ?_
  intro pg en sv mi ag bw mt cd s₁ BL hml hv
  obtain ⟨rfl, hP, hK⟩ := hv
  have hx := BL.exec
  have hb := BL.bytes
  have hr := BL.returns
  have hts : ∀ w ∈ lw_ok, w.before _ sv = true := fun w hw => atoms_spec (ws := wS yX1_isShared cX1_isShared 4 (Option.some Jvm.ClassFile.FieldType.boolean)) BL.pre w (List.mem_cons_of_mem _ hw)
  have hown : sv.vm.findClass RX1 = some mi.cls := findClass_of_methodNamed BL.named
  have hlocks := BL.notSynchronized
  have fx : CallFix pg mi cd cX1_isShared 4 sv _ lw_ok RX1 := ⟨hx, hb, hml, hown, hts⟩
  have hl := lv_entry ([.ref o, .int (nI p), .int (nI i), .int (nI q)]) (n := 4) (Nat.le_of_ble_eq_true rfl)
  rw [lg_entry_eq]
  generalize (lg_sl ([.ref o, .int (nI p), .int (nI i), .int (nI q)]) ++ List.replicate (4 - (lg_sl ([.ref o, .int (nI p), .int (nI i), .int (nI q)])).length) Slot.unset).toArray = ls at hl ⊢
  replace hl : lv_has ls 4 [(0, .ref o), (1, .int (nI p)), (2, .int (nI i)), (3, .int (nI q))] := hl
  obtain ⟨b0, b1, b2⟩ := hI.bd
  have bs := hI.sz hp
  have bq := hI.sz hq
  have hro := hI.row hp hi
  refine lv_aload_n hx hb dX1_isShared_0 rfl (lv_at hl 0 rfl) ?_
  refine lv_aload_n hx hb dX1_isShared_1 rfl (lv_at hl 0 rfl) ?_
  refine m_g7 hx hb hts hown hK hP dX1_isShared_2 ?_
  refine lv_bipush (v := nI 12) hx hb dX1_isShared_5 (by decide) ?_
  refine lv_iload_n hx hb dX1_isShared_7 rfl (lv_at hl 1 rfl) ?_
  refine x_imulc hx hb dX1_isShared_8 ?_
  refine lv_iload_n hx hb dX1_isShared_9 rfl (lv_at hl 2 rfl) ?_
  refine x_iadd hx hb dX1_isShared_10 ?_
  refine m_l7 (j := p * 12 + i) hx hb hK hP (by omega) dX1_isShared_11 ?_
  refine r_Vi (As := [.int (nI (Z 10 (p * 12 + i)))]) (rest := []) fx (ct_X1_isCounted l dC dI cy cz o a Z G T K (Z 10 (p * 12 + i)) hI hR (by first | assumption | omega)) fyX1_isCounted tM_RX1_94 rfl rfl ⟨Nat.le_of_ble_eq_true rfl, Nat.le_of_ble_eq_true rfl⟩ (m_pre hK hP) rfl hl.1 rfl (Nat.le_of_ble_eq_true rfl) dX1_isShared_12 ⟨Nat.le_of_ble_eq_true rfl, Nat.le_of_ble_eq_true rfl⟩ (fun r_12 hr_12 => ?_)
  rcases hr_12 with ⟨rfl, hr_12⟩ | ⟨rfl, hr_12⟩
  ·
    refine x_if_eq_T (tgt := 41) hx hb (by decide) dX1_isShared_15 (by decide) ?_
    refine lv_iconst (v := nI 0) hx hb dX1_isShared_41 (by decide) ?_
    refine W.zret (v := (nI 0)) hx hb hr (by decide) (fun t9 ht9 hW9 => ⟨_, rfl, ?_, ht9⟩) (fun q h => by cases h) dX1_isShared_42
    first | exact Or.inl ⟨rfl, fun h => hr_12 (by unfold shB at h; exact (Bool.and_eq_true_iff.mp h).1)⟩ | exact Or.inl ⟨rfl, fun h => by unfold shB at h; have h2 := of_decide_eq_true (Bool.and_eq_true_iff.mp h).2; omega⟩ | exact Or.inr ⟨rfl, by unfold shB; rw [hr_12, decide_eq_true (by omega)]; rfl⟩
  ·
    refine x_if_eq_F (tgt := 41) hx hb (by decide) dX1_isShared_15 (by decide) ?_
    refine lv_aload_n hx hb dX1_isShared_18 rfl (lv_at hl 0 rfl) ?_
    refine lv_iload_n hx hb dX1_isShared_19 rfl (lv_at hl 3 rfl) ?_
    refine lv_aload_n hx hb dX1_isShared_20 rfl (lv_at hl 0 rfl) ?_
    refine m_g7 hx hb hts hown hK hP dX1_isShared_21 ?_
    refine lv_bipush (v := nI 12) hx hb dX1_isShared_24 (by decide) ?_
    refine lv_iload_n hx hb dX1_isShared_26 rfl (lv_at hl 1 rfl) ?_
    refine x_imulc hx hb dX1_isShared_27 ?_
    refine lv_iload_n hx hb dX1_isShared_28 rfl (lv_at hl 2 rfl) ?_
    refine x_iadd hx hb dX1_isShared_29 ?_
    refine m_l7 (j := p * 12 + i) hx hb hK hP (by omega) dX1_isShared_30 ?_
    refine r_Vi (As := [.int (nI q), .int (nI (Z 10 (p * 12 + i)))]) (rest := []) fx (ct_X1_spot l dC dI cy cz o a Z G T K q (Z 10 (p * 12 + i)) hI (by first | assumption | omega) (by first | assumption | omega)) fyX1_spot tM_RX1_66 rfl rfl ⟨Nat.le_of_ble_eq_true rfl, Nat.le_of_ble_eq_true rfl⟩ (m_pre hK hP) rfl hl.1 rfl (Nat.le_of_ble_eq_true rfl) dX1_isShared_31 ⟨Nat.le_of_ble_eq_true rfl, Nat.le_of_ble_eq_true rfl⟩ (fun r_31 hr_31 => ?_)
    rcases hr_31 with ⟨rfl, hs_31⟩ | ⟨i_31, hi_31, hs_31, hq_31, rfl⟩
    ·
      refine x_if_lt_T (tgt := 41) hx hb (by decide) dX1_isShared_34 (by decide) ?_
      refine lv_iconst (v := nI 0) hx hb dX1_isShared_41 (by decide) ?_
      refine W.zret (v := (nI 0)) hx hb hr (by decide) (fun t9 ht9 hW9 => ⟨_, rfl, ?_, ht9⟩) (fun q h => by cases h) dX1_isShared_42
      first | exact Or.inl ⟨rfl, fun h => hr_12 (by unfold shB at h; exact (Bool.and_eq_true_iff.mp h).1)⟩ | exact Or.inl ⟨rfl, fun h => by unfold shB at h; have h2 := of_decide_eq_true (Bool.and_eq_true_iff.mp h).2; omega⟩ | exact Or.inr ⟨rfl, by unfold shB; rw [hr_12, decide_eq_true (by omega)]; rfl⟩
    ·
      refine x_if_lt_F (tgt := 41) hx hb (nI_pos (by omega)) dX1_isShared_34 (by decide) ?_
      refine lv_iconst (v := nI 1) hx hb dX1_isShared_37 (by decide) ?_
      refine lv_goto (tgt := 42) hx hb dX1_isShared_38 (by decide) ?_
      refine W.zret (v := (nI 1)) hx hb hr (by decide) (fun t9 ht9 hW9 => ⟨_, rfl, ?_, ht9⟩) (fun q h => by cases h) dX1_isShared_42
      first | exact Or.inl ⟨rfl, fun h => hr_12 (by unfold shB at h; exact (Bool.and_eq_true_iff.mp h).1)⟩ | exact Or.inl ⟨rfl, fun h => by unfold shB at h; have h2 := of_decide_eq_true (Bool.and_eq_true_iff.mp h).2; omega⟩ | exact Or.inr ⟨rfl, by unfold shB; rw [hr_12, decide_eq_true (by omega)]; rfl⟩

set_option maxHeartbeats 4000000 in
set_option maxRecDepth 100000 in
theorem ct_X1_sharedMany (l : Launch) (dC : Nat → ClassId) (dI : Nat → Nat → Nat) (cy cz : ClassId) (o : Nat) (a : Nat → Nat) (Z : Nat → Nat → Nat) (G T K : Nat → Nat) (p : Nat) (q : Nat) (hI : Inv Z) (hR : MRel Z G T K) (hp : p < 8) (hq : q < 8) : Met l yX1_sharedMany (wS yX1_sharedMany cX1_sharedMany 5 (Option.some Jvm.ClassFile.FieldType.int)) (rmF 2 46) (va_Pc [.ref o, .int (nI p), .int (nI q)] (mR dC dI cy cz o a Z G T K)) (vp_Si (fun r => r = nI (shM Z p q))) 0 0 (fun _ => False) := by
  refine Met.ofW (cc := cX1_sharedMany) (maxL := 5) (ret := (Option.some Jvm.ClassFile.FieldType.int)) (by decide) rfl ?_
  intro pg en sv mi ag bw mt cd s₁ BL hml hv
  obtain ⟨rfl, hP, hK⟩ := hv
  have hx := BL.exec
  have hb := BL.bytes
  have hr := BL.returns
  have hts : ∀ w ∈ lw_ok, w.before _ sv = true := fun w hw => atoms_spec (ws := wS yX1_sharedMany cX1_sharedMany 5 (Option.some Jvm.ClassFile.FieldType.int)) BL.pre w (List.mem_cons_of_mem _ hw)
  have hown : sv.vm.findClass RX1 = some mi.cls := findClass_of_methodNamed BL.named
  have hlocks := BL.notSynchronized
  have fx : CallFix pg mi cd cX1_sharedMany 5 sv _ lw_ok RX1 := ⟨hx, hb, hml, hown, hts⟩
  have hl := lv_entry ([.ref o, .int (nI p), .int (nI q)]) (n := 5) (Nat.le_of_ble_eq_true rfl)
  rw [lg_entry_eq]
  generalize (lg_sl ([.ref o, .int (nI p), .int (nI q)]) ++ List.replicate (5 - (lg_sl ([.ref o, .int (nI p), .int (nI q)])).length) Slot.unset).toArray = ls at hl ⊢
  replace hl : lv_has ls 5 [(0, .ref o), (1, .int (nI p)), (2, .int (nI q))] := hl
  obtain ⟨b0, b1, b2⟩ := hI.bd
  have bs := hI.sz hp
  refine lv_iconst (v := nI 0) hx hb dX1_sharedMany_0 (by decide) ?_
  refine lv_istore_n (lv' := [(3, .int (nI 0)), (0, .ref o), (1, .int (nI p)), (2, .int (nI q))]) hx hb dX1_sharedMany_1 rfl hl (by decide) rfl (fun ls hl => ?_)
  refine lv_iconst (v := nI 0) hx hb dX1_sharedMany_2 (by decide) ?_
  refine lv_istore (lv' := [(4, .int (nI 0)), (3, .int (nI 0)), (0, .ref o), (1, .int (nI p)), (2, .int (nI q))]) hx hb dX1_sharedMany_3 hl (by decide) rfl (fun ls hl => ?_)
  obtain ⟨j, ej⟩ : ∃ j : Nat, j = 0 := ⟨_, rfl⟩
  obtain ⟨t, et⟩ : ∃ t : Nat, t = 0 := ⟨_, rfl⟩
  replace hl : lv_has ls 5 [(4, .int (nI j)), (3, .int (nI t)), (0, .ref o), (1, .int (nI p)), (2, .int (nI q))] := by subst ej et; exact lv_sub hl [0, 1, 2, 3, 4] rfl
  have hj : j ≤ Z 8 p := by subst ej et; omega
  have ht : t = fb_ct (fun i => shB Z q (Z 10 (p * 12 + i))) j := by subst ej et; rfl
  clear ej et
  obtain ⟨n5, hn5⟩ : ∃ n_0 : Nat, Z 8 p - j < n_0 := ⟨_, Nat.lt_succ_self _⟩
  induction n5 generalizing j t ls with
  | zero => exact absurd hn5 (Nat.not_lt_zero _)
  | succ n5 ih5 =>
    refine lv_iload hx hb dX1_sharedMany_5 (lv_at hl 0 rfl) ?_
    refine lv_aload_n hx hb dX1_sharedMany_7 rfl (lv_at hl 2 rfl) ?_
    refine m_g8 hx hb hts hown hK hP dX1_sharedMany_8 ?_
    refine lv_iload_n hx hb dX1_sharedMany_11 rfl (lv_at hl 3 rfl) ?_
    refine m_l8 (j := p) hx hb hK hP (by omega) dX1_sharedMany_12 ?_
    refine x_icmp_ge (x := j) (y := Z 8 p) (tgt := 41) hx hb (by omega) (by omega) dX1_sharedMany_13 (by decide) (fun c_13 => ?_) (fun c_13 => ?_)
    ·
      refine lv_iload_n hx hb dX1_sharedMany_41 rfl (lv_at hl 1 rfl) ?_
      refine W.iret (v := (nI t)) hx hb hr (fun t9 ht9 hW9 => ⟨_, rfl, ?_, ht9⟩) (fun q h => by cases h) dX1_sharedMany_42
      rw [ht, show j = Z 8 p by omega]; rfl
    ·
      refine lv_iload_n hx hb dX1_sharedMany_16 rfl (lv_at hl 1 rfl) ?_
      refine lv_aload_n hx hb dX1_sharedMany_17 rfl (lv_at hl 2 rfl) ?_
      refine lv_iload_n hx hb dX1_sharedMany_18 rfl (lv_at hl 3 rfl) ?_
      refine lv_iload hx hb dX1_sharedMany_19 (lv_at hl 0 rfl) ?_
      refine lv_iload_n hx hb dX1_sharedMany_21 rfl (lv_at hl 4 rfl) ?_
      refine r_Vi (As := [.int (nI p), .int (nI j), .int (nI q)]) (rest := [.int (nI t)]) fx (ct_X1_isShared l dC dI cy cz o a Z G T K p j q hI hR (by first | assumption | omega) (by first | assumption | omega) (by first | assumption | omega)) fyX1_isShared tM_RX1_115 rfl rfl ⟨Nat.le_of_ble_eq_true rfl, Nat.le_of_ble_eq_true rfl⟩ (m_pre hK hP) rfl hl.1 rfl (Nat.le_of_ble_eq_true rfl) dX1_sharedMany_22 ⟨Nat.le_of_ble_eq_true rfl, Nat.le_of_ble_eq_true rfl⟩ (fun r_22 hr_22 => ?_)
      rcases hr_22 with ⟨rfl, hr_22⟩ | ⟨rfl, hr_22⟩
      ·
        refine x_if_eq_T (tgt := 32) hx hb (by decide) dX1_sharedMany_25 (by decide) ?_
        refine lv_iconst (v := nI 0) hx hb dX1_sharedMany_32 (by decide) ?_
        refine x_iadd hx hb dX1_sharedMany_33 ?_
        refine lv_istore_n (lv' := [(3, .int (nI (t + 0))), (4, .int (nI j)), (0, .ref o), (1, .int (nI p)), (2, .int (nI q))]) hx hb dX1_sharedMany_34 rfl hl (by decide) rfl (fun ls hl => ?_)
        refine lv_iinc (v := nI (j + 1)) (lv' := [(4, .int (nI (j + 1))), (3, .int (nI (t + 0))), (0, .ref o), (1, .int (nI p)), (2, .int (nI q))]) hx hb dX1_sharedMany_35 hl (k := 1) rfl (x_inc1 _) (by decide) rfl (fun ls hl => ?_)
        refine lv_goto (tgt := 5) hx hb dX1_sharedMany_38 (by decide) ?_
        exact ih5 ls (j + 1) (t + 0) (lv_sub hl [0, 1, 2, 3, 4] rfl) (by omega) (by rw [fb_ct_succ, ← ht]; first | (rw [if_pos hr_22]; done) | (rw [if_neg hr_22]; done)) (by omega)
      ·
        refine x_if_eq_F (tgt := 32) hx hb (by decide) dX1_sharedMany_25 (by decide) ?_
        refine lv_iconst (v := nI 1) hx hb dX1_sharedMany_28 (by decide) ?_
        refine lv_goto (tgt := 33) hx hb dX1_sharedMany_29 (by decide) ?_
        refine x_iadd hx hb dX1_sharedMany_33 ?_
        refine lv_istore_n (lv' := [(3, .int (nI (t + 1))), (4, .int (nI j)), (0, .ref o), (1, .int (nI p)), (2, .int (nI q))]) hx hb dX1_sharedMany_34 rfl hl (by decide) rfl (fun ls hl => ?_)
        refine lv_iinc (v := nI (j + 1)) (lv' := [(4, .int (nI (j + 1))), (3, .int (nI (t + 1))), (0, .ref o), (1, .int (nI p)), (2, .int (nI q))]) hx hb dX1_sharedMany_35 hl (k := 1) rfl (x_inc1 _) (by decide) rfl (fun ls hl => ?_)
        refine lv_goto (tgt := 5) hx hb dX1_sharedMany_38 (by decide) ?_
        exact ih5 ls (j + 1) (t + 1) (lv_sub hl [0, 1, 2, 3, 4] rfl) (by omega) (by rw [fb_ct_succ, ← ht]; first | (rw [if_pos hr_22]; done) | (rw [if_neg hr_22]; done)) (by omega)

set_option maxHeartbeats 4000000 in
set_option maxRecDepth 100000 in
theorem ct_X1_sharedSum (l : Launch) (dC : Nat → ClassId) (dI : Nat → Nat → Nat) (cy cz : ClassId) (o : Nat) (a : Nat → Nat) (Z : Nat → Nat → Nat) (G T K : Nat → Nat) (u : Nat) (q : Nat) (hI : Inv Z) (hR : MRel Z G T K) (hu : u < Z 0 2) (hq : q < 8) : Met l yX1_sharedSum (wS yX1_sharedSum cX1_sharedSum 5 (Option.some Jvm.ClassFile.FieldType.int)) (rmF 2 46) (va_Pc [.ref o, .int (nI u), .int (nI q)] (mR dC dI cy cz o a Z G T K)) (vp_Si (fun r => r = nI (smS Z u (shB Z q)))) 0 0 (fun _ => False) := by
  refine Met.ofW (cc := cX1_sharedSum) (maxL := 5) (ret := (Option.some Jvm.ClassFile.FieldType.int)) (by decide) rfl ?_
  intro pg en sv mi ag bw mt cd s₁ BL hml hv
  obtain ⟨rfl, hP, hK⟩ := hv
  have hx := BL.exec
  have hb := BL.bytes
  have hr := BL.returns
  have hts : ∀ w ∈ lw_ok, w.before _ sv = true := fun w hw => atoms_spec (ws := wS yX1_sharedSum cX1_sharedSum 5 (Option.some Jvm.ClassFile.FieldType.int)) BL.pre w (List.mem_cons_of_mem _ hw)
  have hown : sv.vm.findClass RX1 = some mi.cls := findClass_of_methodNamed BL.named
  have hlocks := BL.notSynchronized
  have fx : CallFix pg mi cd cX1_sharedSum 5 sv _ lw_ok RX1 := ⟨hx, hb, hml, hown, hts⟩
  have hl := lv_entry ([.ref o, .int (nI u), .int (nI q)]) (n := 5) (Nat.le_of_ble_eq_true rfl)
  rw [lg_entry_eq]
  generalize (lg_sl ([.ref o, .int (nI u), .int (nI q)]) ++ List.replicate (5 - (lg_sl ([.ref o, .int (nI u), .int (nI q)])).length) Slot.unset).toArray = ls at hl ⊢
  replace hl : lv_has ls 5 [(0, .ref o), (1, .int (nI u)), (2, .int (nI q))] := hl
  obtain ⟨b0, b1, b2⟩ := hI.bd
  have hpu := hI.pu hu
  have bs := hI.sz (p := Z 11 u) (by omega)
  refine lv_iconst (v := nI 0) hx hb dX1_sharedSum_0 (by decide) ?_
  refine lv_istore_n (lv' := [(3, .int (nI 0)), (0, .ref o), (1, .int (nI u)), (2, .int (nI q))]) hx hb dX1_sharedSum_1 rfl hl (by decide) rfl (fun ls hl => ?_)
  refine lv_iconst (v := nI 0) hx hb dX1_sharedSum_2 (by decide) ?_
  refine lv_istore (lv' := [(4, .int (nI 0)), (3, .int (nI 0)), (0, .ref o), (1, .int (nI u)), (2, .int (nI q))]) hx hb dX1_sharedSum_3 hl (by decide) rfl (fun ls hl => ?_)
  obtain ⟨j, ej⟩ : ∃ j : Nat, j = 0 := ⟨_, rfl⟩
  obtain ⟨t, et⟩ : ∃ t : Nat, t = 0 := ⟨_, rfl⟩
  replace hl : lv_has ls 5 [(4, .int (nI j)), (3, .int (nI t)), (0, .ref o), (1, .int (nI u)), (2, .int (nI q))] := by subst ej et; exact lv_sub hl [0, 1, 2, 3, 4] rfl
  have hj : j ≤ Z 8 (Z 11 u) := by subst ej et; omega
  have ht : t = fb_sm (fun i => if shB Z q (Z 10 (Z 11 u * 12 + i)) then mrk Z u i else 0) j := by subst ej et; rfl
  clear ej et
  obtain ⟨n5, hn5⟩ : ∃ n_0 : Nat, Z 8 (Z 11 u) - j < n_0 := ⟨_, Nat.lt_succ_self _⟩
  induction n5 generalizing j t ls with
  | zero => exact absurd hn5 (Nat.not_lt_zero _)
  | succ n5 ih5 =>
    refine lv_iload hx hb dX1_sharedSum_5 (lv_at hl 0 rfl) ?_
    refine lv_aload_n hx hb dX1_sharedSum_7 rfl (lv_at hl 2 rfl) ?_
    refine m_g8 hx hb hts hown hK hP dX1_sharedSum_8 ?_
    refine lv_aload_n hx hb dX1_sharedSum_11 rfl (lv_at hl 2 rfl) ?_
    refine m_g9 hx hb hts hown hK hP dX1_sharedSum_12 ?_
    refine lv_iload_n hx hb dX1_sharedSum_15 rfl (lv_at hl 3 rfl) ?_
    refine m_l9 (j := u) hx hb hK hP (by omega) dX1_sharedSum_16 ?_
    refine m_l8 (j := Z 11 u) hx hb hK hP (by omega) dX1_sharedSum_17 ?_
    refine x_icmp_ge (x := j) (y := Z 8 (Z 11 u)) (tgt := 57) hx hb (by omega) (by omega) dX1_sharedSum_18 (by decide) (fun c_18 => ?_) (fun c_18 => ?_)
    ·
      refine lv_iload_n hx hb dX1_sharedSum_57 rfl (lv_at hl 1 rfl) ?_
      refine W.iret (v := (nI t)) hx hb hr (fun t9 ht9 hW9 => ⟨_, rfl, ?_, ht9⟩) (fun q h => by cases h) dX1_sharedSum_58
      rw [ht, show j = Z 8 (Z 11 u) by omega]; rfl
    ·
      refine lv_iload_n hx hb dX1_sharedSum_21 rfl (lv_at hl 1 rfl) ?_
      refine lv_aload_n hx hb dX1_sharedSum_22 rfl (lv_at hl 2 rfl) ?_
      refine lv_aload_n hx hb dX1_sharedSum_23 rfl (lv_at hl 2 rfl) ?_
      refine m_g9 hx hb hts hown hK hP dX1_sharedSum_24 ?_
      refine lv_iload_n hx hb dX1_sharedSum_27 rfl (lv_at hl 3 rfl) ?_
      refine m_l9 (j := u) hx hb hK hP (by omega) dX1_sharedSum_28 ?_
      refine lv_iload hx hb dX1_sharedSum_29 (lv_at hl 0 rfl) ?_
      refine lv_iload_n hx hb dX1_sharedSum_31 rfl (lv_at hl 4 rfl) ?_
      refine r_Vi (As := [.int (nI (Z 11 u)), .int (nI j), .int (nI q)]) (rest := [.int (nI t)]) fx (ct_X1_isShared l dC dI cy cz o a Z G T K (Z 11 u) j q hI hR (by first | assumption | omega) (by first | assumption | omega) (by first | assumption | omega)) fyX1_isShared tM_RX1_115 rfl rfl ⟨Nat.le_of_ble_eq_true rfl, Nat.le_of_ble_eq_true rfl⟩ (m_pre hK hP) rfl hl.1 rfl (Nat.le_of_ble_eq_true rfl) dX1_sharedSum_32 ⟨Nat.le_of_ble_eq_true rfl, Nat.le_of_ble_eq_true rfl⟩ (fun r_32 hr_32 => ?_)
      rcases hr_32 with ⟨rfl, hr_32⟩ | ⟨rfl, hr_32⟩
      ·
        refine x_if_eq_T (tgt := 48) hx hb (by decide) dX1_sharedSum_35 (by decide) ?_
        refine lv_iconst (v := nI 0) hx hb dX1_sharedSum_48 (by decide) ?_
        refine x_iadd hx hb dX1_sharedSum_49 ?_
        refine lv_istore_n (lv' := [(3, .int (nI (t + 0))), (4, .int (nI j)), (0, .ref o), (1, .int (nI u)), (2, .int (nI q))]) hx hb dX1_sharedSum_50 rfl hl (by decide) rfl (fun ls hl => ?_)
        refine lv_iinc (v := nI (j + 1)) (lv' := [(4, .int (nI (j + 1))), (3, .int (nI (t + 0))), (0, .ref o), (1, .int (nI u)), (2, .int (nI q))]) hx hb dX1_sharedSum_51 hl (k := 1) rfl (x_inc1 _) (by decide) rfl (fun ls hl => ?_)
        refine lv_goto (tgt := 5) hx hb dX1_sharedSum_54 (by decide) ?_
        exact ih5 ls (j + 1) (t + 0) (lv_sub hl [0, 1, 2, 3, 4] rfl) (by omega) (by rw [fb_sm_succ, ← ht]; first | (rw [if_pos hr_32]; done) | (rw [if_neg hr_32]; done)) (by omega)
      ·
        refine x_if_eq_F (tgt := 48) hx hb (by decide) dX1_sharedSum_35 (by decide) ?_
        refine lv_aload_n hx hb dX1_sharedSum_38 rfl (lv_at hl 2 rfl) ?_
        refine lv_iload_n hx hb dX1_sharedSum_39 rfl (lv_at hl 3 rfl) ?_
        refine lv_iload hx hb dX1_sharedSum_40 (lv_at hl 0 rfl) ?_
        refine r_Vi (As := [.int (nI u), .int (nI j)]) (rest := [.int (nI t)]) fx (ct_X1_markAt l dC dI cy cz o a Z G T K u j hI hR (by first | assumption | omega) (by first | assumption | omega)) fyX1_markAt tM_RX1_88 rfl rfl ⟨Nat.le_of_ble_eq_true rfl, Nat.le_of_ble_eq_true rfl⟩ (m_pre hK hP) rfl hl.1 rfl (Nat.le_of_ble_eq_true rfl) dX1_sharedSum_42 ⟨Nat.le_of_ble_eq_true rfl, Nat.le_of_ble_eq_true rfl⟩ (fun r_42 hr_42 => ?_)
        subst hr_42
        refine lv_goto (tgt := 49) hx hb dX1_sharedSum_45 (by decide) ?_
        refine x_iadd hx hb dX1_sharedSum_49 ?_
        refine lv_istore_n (lv' := [(3, .int (nI (t + (mrk Z u j)))), (4, .int (nI j)), (0, .ref o), (1, .int (nI u)), (2, .int (nI q))]) hx hb dX1_sharedSum_50 rfl hl (by decide) rfl (fun ls hl => ?_)
        refine lv_iinc (v := nI (j + 1)) (lv' := [(4, .int (nI (j + 1))), (3, .int (nI (t + (mrk Z u j)))), (0, .ref o), (1, .int (nI u)), (2, .int (nI q))]) hx hb dX1_sharedSum_51 hl (k := 1) rfl (x_inc1 _) (by decide) rfl (fun ls hl => ?_)
        refine lv_goto (tgt := 5) hx hb dX1_sharedSum_54 (by decide) ?_
        exact ih5 ls (j + 1) (t + (mrk Z u j)) (lv_sub hl [0, 1, 2, 3, 4] rfl) (by omega) (by rw [fb_sm_succ, ← ht]; first | (rw [if_pos hr_32]; done) | (rw [if_neg hr_32]; done)) (by omega)

set_option maxHeartbeats 4000000 in
set_option maxRecDepth 100000 in
theorem ct_X1_valueOf (l : Launch) (dC : Nat → ClassId) (dI : Nat → Nat → Nat) (cy cz : ClassId) (o : Nat) (a : Nat → Nat) (Z : Nat → Nat → Nat) (G T K : Nat → Nat) (u : Nat) (q : Nat) (hI : Inv Z) (hR : MRel Z G T K) (hu : u < Z 0 2) (hq : q < 8) : Met l yX1_valueOf (wS yX1_valueOf cX1_valueOf 3 (Option.some Jvm.ClassFile.FieldType.long)) (rmF 3 70) (va_Pc [.ref o, .int (nI u), .int (nI q)] (mR dC dI cy cz o a Z G T K)) (vp_Sl (fun r => r = lN (vlU Z u q))) 0 0 (fun _ => False) := by
  refine Met.ofW (cc := cX1_valueOf) (maxL := 3) (ret := (Option.some Jvm.ClassFile.FieldType.long)) (by decide) rfl ?_
  intro pg en sv mi ag bw mt cd s₁ BL hml hv
  obtain ⟨rfl, hP, hK⟩ := hv
  have hx := BL.exec
  have hb := BL.bytes
  have hr := BL.returns
  have hts : ∀ w ∈ lw_ok, w.before _ sv = true := fun w hw => atoms_spec (ws := wS yX1_valueOf cX1_valueOf 3 (Option.some Jvm.ClassFile.FieldType.long)) BL.pre w (List.mem_cons_of_mem _ hw)
  have hown : sv.vm.findClass RX1 = some mi.cls := findClass_of_methodNamed BL.named
  have hlocks := BL.notSynchronized
  have fx : CallFix pg mi cd cX1_valueOf 3 sv _ lw_ok RX1 := ⟨hx, hb, hml, hown, hts⟩
  have hl := lv_entry ([.ref o, .int (nI u), .int (nI q)]) (n := 3) (Nat.le_of_ble_eq_true rfl)
  rw [lg_entry_eq]
  generalize (lg_sl ([.ref o, .int (nI u), .int (nI q)]) ++ List.replicate (3 - (lg_sl ([.ref o, .int (nI u), .int (nI q)])).length) Slot.unset).toArray = ls at hl ⊢
  replace hl : lv_has ls 3 [(0, .ref o), (1, .int (nI u)), (2, .int (nI q))] := hl
  obtain ⟨b0, b1, b2⟩ := hI.bd
  have hpu := hI.pu hu
  refine lv_aload_n hx hb dX1_valueOf_0 rfl (lv_at hl 0 rfl) ?_
  refine m_g9 hx hb hts hown hK hP dX1_valueOf_1 ?_
  refine lv_iload_n hx hb dX1_valueOf_4 rfl (lv_at hl 1 rfl) ?_
  refine m_l9 (j := u) hx hb hK hP (by omega) dX1_valueOf_5 ?_
  refine lv_iload_n hx hb dX1_valueOf_6 rfl (lv_at hl 2 rfl) ?_
  refine x_icmp_ne (x := Z 11 u) (y := q) (tgt := 19) hx hb (by omega) (by omega) dX1_valueOf_7 (by decide) (fun c_7 => ?_) (fun c_7 => ?_)
  ·
    refine lv_aload_n hx hb dX1_valueOf_19 rfl (lv_at hl 0 rfl) ?_
    refine lv_iload_n hx hb dX1_valueOf_20 rfl (lv_at hl 1 rfl) ?_
    refine lv_iload_n hx hb dX1_valueOf_21 rfl (lv_at hl 2 rfl) ?_
    refine r_Vi (As := [.int (nI u), .int (nI q)]) (rest := []) fx (ct_X1_sharedSum l dC dI cy cz o a Z G T K u q hI hR (by first | assumption | omega) (by first | assumption | omega)) fyX1_sharedSum tM_RX1_121 rfl rfl ⟨Nat.le_of_ble_eq_true rfl, Nat.le_of_ble_eq_true rfl⟩ (m_pre hK hP) rfl hl.1 rfl (Nat.le_of_ble_eq_true rfl) dX1_valueOf_22 ⟨Nat.le_of_ble_eq_true rfl, Nat.le_of_ble_eq_true rfl⟩ (fun r_22 hr_22 => ?_)
    subst hr_22
    refine lv_i2l (v := lN (smS Z u (shB Z q))) hx hb dX1_valueOf_25 (nI_l (by have := smS_le hI hu (shB Z q); omega)) ?_
    refine W.lret (v := (lN (smS Z u (shB Z q)))) hx hb hr (fun t9 ht9 hW9 => ⟨_, rfl, ?_, ht9⟩) (fun q h => by cases h) dX1_valueOf_26
    first | (rw [vlU, if_pos c_7]; done) | (rw [vlU, if_neg c_7]; done)
  ·
    refine lv_aload_n hx hb dX1_valueOf_10 rfl (lv_at hl 0 rfl) ?_
    refine lv_iload_n hx hb dX1_valueOf_11 rfl (lv_at hl 1 rfl) ?_
    refine r_Vi (As := [.int (nI u)]) (rest := []) fx (ct_X1_totalOf l dC dI cy cz o a Z G T K u hI hR (by first | assumption | omega)) fyX1_totalOf tM_RX1_97 rfl rfl ⟨Nat.le_of_ble_eq_true rfl, Nat.le_of_ble_eq_true rfl⟩ (m_pre hK hP) rfl hl.1 rfl (Nat.le_of_ble_eq_true rfl) dX1_valueOf_12 ⟨Nat.le_of_ble_eq_true rfl, Nat.le_of_ble_eq_true rfl⟩ (fun r_12 hr_12 => ?_)
    subst hr_12
    refine lv_i2l (v := lN (tot Z u)) hx hb dX1_valueOf_15 (nI_l (by have := tot_le hI hu; omega)) ?_
    refine lv_goto (tgt := 26) hx hb dX1_valueOf_16 (by decide) ?_
    refine W.lret (v := (lN (tot Z u))) hx hb hr (fun t9 ht9 hW9 => ⟨_, rfl, ?_, ht9⟩) (fun q h => by cases h) dX1_valueOf_26
    first | (rw [vlU, if_pos c_7]; done) | (rw [vlU, if_neg c_7]; done)

set_option maxHeartbeats 4000000 in
set_option maxRecDepth 100000 in
theorem ct_X1_sumOf (l : Launch) (dC : Nat → ClassId) (dI : Nat → Nat → Nat) (cy cz : ClassId) (o : Nat) (a : Nat → Nat) (Z : Nat → Nat → Nat) (G T K : Nat → Nat) (p : Nat) (q : Nat) (hI : Inv Z) (hR : MRel Z G T K) (hp : p < 8) (hq : q < 8) : Met l yX1_sumOf (wS yX1_sumOf cX1_sumOf 6 (Option.some Jvm.ClassFile.FieldType.long)) (rmF 4 92) (va_Pc [.ref o, .int (nI p), .int (nI q)] (mR dC dI cy cz o a Z G T K)) (vp_Sl (fun r => r = lN (gS Z p q))) 0 0 (fun _ => False) := by
  refine Met.ofW (cc := cX1_sumOf) (maxL := 6) (ret := (Option.some Jvm.ClassFile.FieldType.long)) (by decide) rfl ?_
  intro pg en sv mi ag bw mt cd s₁ BL hml hv
  obtain ⟨rfl, hP, hK⟩ := hv
  have hx := BL.exec
  have hb := BL.bytes
  have hr := BL.returns
  have hts : ∀ w ∈ lw_ok, w.before _ sv = true := fun w hw => atoms_spec (ws := wS yX1_sumOf cX1_sumOf 6 (Option.some Jvm.ClassFile.FieldType.long)) BL.pre w (List.mem_cons_of_mem _ hw)
  have hown : sv.vm.findClass RX1 = some mi.cls := findClass_of_methodNamed BL.named
  have hlocks := BL.notSynchronized
  have fx : CallFix pg mi cd cX1_sumOf 6 sv _ lw_ok RX1 := ⟨hx, hb, hml, hown, hts⟩
  have hl := lv_entry ([.ref o, .int (nI p), .int (nI q)]) (n := 6) (Nat.le_of_ble_eq_true rfl)
  rw [lg_entry_eq]
  generalize (lg_sl ([.ref o, .int (nI p), .int (nI q)]) ++ List.replicate (6 - (lg_sl ([.ref o, .int (nI p), .int (nI q)])).length) Slot.unset).toArray = ls at hl ⊢
  replace hl : lv_has ls 6 [(0, .ref o), (1, .int (nI p)), (2, .int (nI q))] := hl
  obtain ⟨b0, b1, b2⟩ := hI.bd
  refine lv_lconst (v := lN 0) hx hb dX1_sumOf_0 (by decide) ?_
  refine lv_lstore_n (lv' := [(3, .long (lN 0)), (0, .ref o), (1, .int (nI p)), (2, .int (nI q))]) hx hb dX1_sumOf_1 rfl hl (by decide) rfl (fun ls hl => ?_)
  refine lv_iconst (v := nI 0) hx hb dX1_sumOf_2 (by decide) ?_
  refine lv_istore (lv' := [(5, .int (nI 0)), (3, .long (lN 0)), (0, .ref o), (1, .int (nI p)), (2, .int (nI q))]) hx hb dX1_sumOf_3 hl (by decide) rfl (fun ls hl => ?_)
  obtain ⟨j, ej⟩ : ∃ j : Nat, j = 0 := ⟨_, rfl⟩
  obtain ⟨t, et⟩ : ∃ t : Nat, t = 0 := ⟨_, rfl⟩
  replace hl : lv_has ls 6 [(5, .int (nI j)), (3, .long (lN t)), (0, .ref o), (1, .int (nI p)), (2, .int (nI q))] := by subst ej et; exact lv_sub hl [0, 1, 2, 3, 4] rfl
  have hj : j ≤ Z 0 2 := by subst ej et; omega
  have ht : t = fb_sm (fun u => if Z 11 u = p then vlU Z u q else 0) j := by subst ej et; rfl
  clear ej et
  obtain ⟨n5, hn5⟩ : ∃ n_0 : Nat, Z 0 2 - j < n_0 := ⟨_, Nat.lt_succ_self _⟩
  induction n5 generalizing j t ls with
  | zero => exact absurd hn5 (Nat.not_lt_zero _)
  | succ n5 ih5 =>
    refine lv_iload hx hb dX1_sumOf_5 (lv_at hl 0 rfl) ?_
    refine lv_aload_n hx hb dX1_sumOf_7 rfl (lv_at hl 2 rfl) ?_
    refine m_g2 hx hb hts hown hK hP dX1_sumOf_8 ?_
    refine x_icmp_ge (x := j) (y := Z 0 2) (tgt := 45) hx hb (by omega) (by omega) dX1_sumOf_11 (by decide) (fun c_11 => ?_) (fun c_11 => ?_)
    ·
      refine lv_lload_n hx hb dX1_sumOf_45 rfl (lv_at hl 1 rfl) ?_
      refine W.lret (v := (lN t)) hx hb hr (fun t9 ht9 hW9 => ⟨_, rfl, ?_, ht9⟩) (fun q h => by cases h) dX1_sumOf_46
      rw [ht, show j = Z 0 2 by omega]; rfl
    ·
      have hpu := hI.pu (u := j) (by omega)
      refine lv_lload_n hx hb dX1_sumOf_14 rfl (lv_at hl 1 rfl) ?_
      refine lv_aload_n hx hb dX1_sumOf_15 rfl (lv_at hl 2 rfl) ?_
      refine m_g9 hx hb hts hown hK hP dX1_sumOf_16 ?_
      refine lv_iload hx hb dX1_sumOf_19 (lv_at hl 0 rfl) ?_
      refine m_l9 (j := j) hx hb hK hP (by omega) dX1_sumOf_21 ?_
      refine lv_iload_n hx hb dX1_sumOf_22 rfl (lv_at hl 3 rfl) ?_
      refine x_icmp_ne (x := Z 11 j) (y := p) (tgt := 36) hx hb (by omega) (by omega) dX1_sumOf_23 (by decide) (fun c_23 => ?_) (fun c_23 => ?_)
      ·
        refine lv_lconst (v := lN 0) hx hb dX1_sumOf_36 (by decide) ?_
        refine x_ladd hx hb dX1_sumOf_37 ?_
        refine lv_lstore_n (lv' := [(3, .long (lN (t + 0))), (5, .int (nI j)), (0, .ref o), (1, .int (nI p)), (2, .int (nI q))]) hx hb dX1_sumOf_38 rfl hl (by decide) rfl (fun ls hl => ?_)
        refine lv_iinc (v := nI (j + 1)) (lv' := [(5, .int (nI (j + 1))), (3, .long (lN (t + 0))), (0, .ref o), (1, .int (nI p)), (2, .int (nI q))]) hx hb dX1_sumOf_39 hl (k := 1) rfl (x_inc1 _) (by decide) rfl (fun ls hl => ?_)
        refine lv_goto (tgt := 5) hx hb dX1_sumOf_42 (by decide) ?_
        exact ih5 ls (j + 1) (t + 0) (lv_sub hl [0, 1, 2, 3, 4] rfl) (by omega) (by rw [fb_sm_succ, ← ht]; first | (rw [if_pos c_23]; done) | (rw [if_neg c_23]; done)) (by omega)
      ·
        refine lv_aload_n hx hb dX1_sumOf_26 rfl (lv_at hl 2 rfl) ?_
        refine lv_iload hx hb dX1_sumOf_27 (lv_at hl 0 rfl) ?_
        refine lv_iload_n hx hb dX1_sumOf_29 rfl (lv_at hl 4 rfl) ?_
        refine r_Vl (As := [.int (nI j), .int (nI q)]) (rest := [.long (lN t)]) fx (ct_X1_valueOf l dC dI cy cz o a Z G T K j q hI hR (by first | assumption | omega) (by first | assumption | omega)) fyX1_valueOf tM_RX1_124 rfl rfl ⟨Nat.le_of_ble_eq_true rfl, Nat.le_of_ble_eq_true rfl⟩ (m_pre hK hP) rfl hl.1 rfl (Nat.le_of_ble_eq_true rfl) dX1_sumOf_30 ⟨Nat.le_of_ble_eq_true rfl, Nat.le_of_ble_eq_true rfl⟩ (fun r_30 hr_30 => ?_)
        subst hr_30
        refine lv_goto (tgt := 37) hx hb dX1_sumOf_33 (by decide) ?_
        refine x_ladd hx hb dX1_sumOf_37 ?_
        refine lv_lstore_n (lv' := [(3, .long (lN (t + (vlU Z j q)))), (5, .int (nI j)), (0, .ref o), (1, .int (nI p)), (2, .int (nI q))]) hx hb dX1_sumOf_38 rfl hl (by decide) rfl (fun ls hl => ?_)
        refine lv_iinc (v := nI (j + 1)) (lv' := [(5, .int (nI (j + 1))), (3, .long (lN (t + (vlU Z j q)))), (0, .ref o), (1, .int (nI p)), (2, .int (nI q))]) hx hb dX1_sumOf_39 hl (k := 1) rfl (x_inc1 _) (by decide) rfl (fun ls hl => ?_)
        refine lv_goto (tgt := 5) hx hb dX1_sumOf_42 (by decide) ?_
        exact ih5 ls (j + 1) (t + (vlU Z j q)) (lv_sub hl [0, 1, 2, 3, 4] rfl) (by omega) (by rw [fb_sm_succ, ← ht]; first | (rw [if_pos c_23]; done) | (rw [if_neg c_23]; done)) (by omega)

set_option maxHeartbeats 4000000 in
set_option maxRecDepth 100000 in
theorem ct_X1_away (l : Launch) (dC : Nat → ClassId) (dI : Nat → Nat → Nat) (cy cz : ClassId) (o : Nat) (a : Nat → Nat) (Z : Nat → Nat → Nat) (G T K : Nat → Nat) (p : Nat) (q : Nat) (hI : Inv Z) (hR : MRel Z G T K) (hp : p < 8) (hq : q < 8) : Met l yX1_away (wS yX1_away cX1_away 12 (Option.some Jvm.ClassFile.FieldType.long)) (rmF 5 117) (va_Pc [.ref o, .int (nI p), .int (nI q)] (mR dC dI cy cz o a Z G T K)) (vp_Sl (fun r => r = lN (gA Z p q))) 0 0 (fun _ => False) := by
  refine Met.ofW (cc := cX1_away) (maxL := 12) (ret := (Option.some Jvm.ClassFile.FieldType.long)) (by decide) rfl ?_
  intro pg en sv mi ag bw mt cd s₁ BL hml hv
  obtain ⟨rfl, hP, hK⟩ := hv
  have hx := BL.exec
  have hb := BL.bytes
  have hr := BL.returns
  have hts : ∀ w ∈ lw_ok, w.before _ sv = true := fun w hw => atoms_spec (ws := wS yX1_away cX1_away 12 (Option.some Jvm.ClassFile.FieldType.long)) BL.pre w (List.mem_cons_of_mem _ hw)
  have hown : sv.vm.findClass RX1 = some mi.cls := findClass_of_methodNamed BL.named
  have hlocks := BL.notSynchronized
  have fx : CallFix pg mi cd cX1_away 12 sv _ lw_ok RX1 := ⟨hx, hb, hml, hown, hts⟩
  have hl := lv_entry ([.ref o, .int (nI p), .int (nI q)]) (n := 12) (Nat.le_of_ble_eq_true rfl)
  rw [lg_entry_eq]
  generalize (lg_sl ([.ref o, .int (nI p), .int (nI q)]) ++ List.replicate (12 - (lg_sl ([.ref o, .int (nI p), .int (nI q)])).length) Slot.unset).toArray = ls at hl ⊢
  replace hl : lv_has ls 12 [(0, .ref o), (1, .int (nI p)), (2, .int (nI q))] := hl
  obtain ⟨b0, b1, b2⟩ := hI.bd
  have hgn := gN_le hI p
  have hgs := gS_le hI p q
  refine lv_aload_n hx hb dX1_away_0 rfl (lv_at hl 0 rfl) ?_
  refine lv_iload_n hx hb dX1_away_1 rfl (lv_at hl 1 rfl) ?_
  refine r_Vi (As := [.int (nI p)]) (rest := []) fx (ct_X1_groupSize l dC dI cy cz o a Z G T K p hI (by first | assumption | omega)) fyX1_groupSize tM_RX1_70 rfl rfl ⟨Nat.le_of_ble_eq_true rfl, Nat.le_of_ble_eq_true rfl⟩ (m_pre hK hP) rfl hl.1 rfl (Nat.le_of_ble_eq_true rfl) dX1_away_2 ⟨Nat.le_of_ble_eq_true rfl, Nat.le_of_ble_eq_true rfl⟩ (fun r_2 hr_2 => ?_)
  subst hr_2
  refine lv_i2l (v := lN (gN Z p)) hx hb dX1_away_5 (nI_l (by omega)) ?_
  refine lv_lstore_n (lv' := [(3, .long (lN (gN Z p))), (0, .ref o), (1, .int (nI p)), (2, .int (nI q))]) hx hb dX1_away_6 rfl hl (by decide) rfl (fun ls hl => ?_)
  refine lv_aload_n hx hb dX1_away_7 rfl (lv_at hl 1 rfl) ?_
  refine lv_iload_n hx hb dX1_away_8 rfl (lv_at hl 2 rfl) ?_
  refine lv_iload_n hx hb dX1_away_9 rfl (lv_at hl 3 rfl) ?_
  refine r_Vl (As := [.int (nI p), .int (nI q)]) (rest := []) fx (ct_X1_sumOf l dC dI cy cz o a Z G T K p q hI hR (by first | assumption | omega) (by first | assumption | omega)) fyX1_sumOf tM_RX1_128 rfl rfl ⟨Nat.le_of_ble_eq_true rfl, Nat.le_of_ble_eq_true rfl⟩ (m_pre hK hP) rfl hl.1 rfl (Nat.le_of_ble_eq_true rfl) dX1_away_10 ⟨Nat.le_of_ble_eq_true rfl, Nat.le_of_ble_eq_true rfl⟩ (fun r_10 hr_10 => ?_)
  subst hr_10
  refine lv_lstore (lv' := [(5, .long (lN (gS Z p q))), (3, .long (lN (gN Z p))), (0, .ref o), (1, .int (nI p)), (2, .int (nI q))]) hx hb dX1_away_13 hl (by decide) rfl (fun ls hl => ?_)
  refine lv_lconst (v := lN 0) hx hb dX1_away_15 (by decide) ?_
  refine lv_lstore (lv' := [(7, .long (lN 0)), (5, .long (lN (gS Z p q))), (3, .long (lN (gN Z p))), (0, .ref o), (1, .int (nI p)), (2, .int (nI q))]) hx hb dX1_away_16 hl (by decide) rfl (fun ls hl => ?_)
  refine lv_iconst (v := nI 0) hx hb dX1_away_18 (by decide) ?_
  refine lv_istore (lv' := [(9, .int (nI 0)), (7, .long (lN 0)), (5, .long (lN (gS Z p q))), (3, .long (lN (gN Z p))), (0, .ref o), (1, .int (nI p)), (2, .int (nI q))]) hx hb dX1_away_19 hl (by decide) rfl (fun ls hl => ?_)
  obtain ⟨j, ej⟩ : ∃ j : Nat, j = 0 := ⟨_, rfl⟩
  obtain ⟨t, et⟩ : ∃ t : Nat, t = 0 := ⟨_, rfl⟩
  replace hl : lv_has ls 12 [(9, .int (nI j)), (7, .long (lN t)), (5, .long (lN (gS Z p q))), (3, .long (lN (gN Z p))), (0, .ref o), (1, .int (nI p)), (2, .int (nI q))] := by subst ej et; exact lv_sub hl [0, 1, 2, 3, 4, 5, 6] rfl
  have hj : j ≤ Z 0 2 := by subst ej et; omega
  have ht : t = fb_sm (fun u => if Z 11 u = p then dst (gN Z p * vlU Z u q) (gS Z p q) else 0) j := by subst ej et; rfl
  clear ej et
  obtain ⟨n21, hn21⟩ : ∃ n_0 : Nat, Z 0 2 - j < n_0 := ⟨_, Nat.lt_succ_self _⟩
  induction n21 generalizing j t ls with
  | zero => exact absurd hn21 (Nat.not_lt_zero _)
  | succ n21 ih21 =>
    refine lv_iload hx hb dX1_away_21 (lv_at hl 0 rfl) ?_
    refine lv_aload_n hx hb dX1_away_23 rfl (lv_at hl 4 rfl) ?_
    refine m_g2 hx hb hts hown hK hP dX1_away_24 ?_
    refine x_icmp_ge (x := j) (y := Z 0 2) (tgt := 84) hx hb (by omega) (by omega) dX1_away_27 (by decide) (fun c_27 => ?_) (fun c_27 => ?_)
    ·
      refine lv_lload hx hb dX1_away_84 (lv_at hl 1 rfl) ?_
      refine W.lret (v := (lN t)) hx hb hr (fun t9 ht9 hW9 => ⟨_, rfl, ?_, ht9⟩) (fun q h => by cases h) dX1_away_86
      rw [ht, show j = Z 0 2 by omega]; rfl
    ·
      have hpu := hI.pu (u := j) (by omega)
      have hvl := vl_le hI (u := j) (q := q) (by omega)
      have hmm := Nat.mul_le_mul hgn hvl
      refine lv_aload_n hx hb dX1_away_30 rfl (lv_at hl 4 rfl) ?_
      refine m_g9 hx hb hts hown hK hP dX1_away_31 ?_
      refine lv_iload hx hb dX1_away_34 (lv_at hl 0 rfl) ?_
      refine m_l9 (j := j) hx hb hK hP (by omega) dX1_away_36 ?_
      refine lv_iload_n hx hb dX1_away_37 rfl (lv_at hl 5 rfl) ?_
      refine x_icmp_eq (x := Z 11 j) (y := p) (tgt := 44) hx hb (by omega) (by omega) dX1_away_38 (by decide) (fun c_38 => ?_) (fun c_38 => ?_)
      ·
        refine lv_lload_n hx hb dX1_away_44 rfl (lv_at hl 3 rfl) ?_
        refine lv_aload_n hx hb dX1_away_45 rfl (lv_at hl 4 rfl) ?_
        refine lv_iload hx hb dX1_away_46 (lv_at hl 0 rfl) ?_
        refine lv_iload_n hx hb dX1_away_48 rfl (lv_at hl 6 rfl) ?_
        refine r_Vl (As := [.int (nI j), .int (nI q)]) (rest := [.long (lN (gN Z p))]) fx (ct_X1_valueOf l dC dI cy cz o a Z G T K j q hI hR (by first | assumption | omega) (by first | assumption | omega)) fyX1_valueOf tM_RX1_124 rfl rfl ⟨Nat.le_of_ble_eq_true rfl, Nat.le_of_ble_eq_true rfl⟩ (m_pre hK hP) rfl hl.1 rfl (Nat.le_of_ble_eq_true rfl) dX1_away_49 ⟨Nat.le_of_ble_eq_true rfl, Nat.le_of_ble_eq_true rfl⟩ (fun r_49 hr_49 => ?_)
        subst hr_49
        refine x_lmul hx hb dX1_away_52 ?_
        refine lv_lload hx hb dX1_away_53 (lv_at hl 2 rfl) ?_
        refine lv_lsub hx hb dX1_away_55 ?_
        refine lv_lstore (lv' := [(10, .long ((lN ((gN Z p) * (vlU Z j q))) - (lN (gS Z p q)))), (9, .int (nI j)), (7, .long (lN t)), (5, .long (lN (gS Z p q))), (3, .long (lN (gN Z p))), (0, .ref o), (1, .int (nI p)), (2, .int (nI q))]) hx hb dX1_away_56 hl (by decide) rfl (fun ls hl => ?_)
        refine lv_lload hx hb dX1_away_58 (lv_at hl 2 rfl) ?_
        refine lv_lload hx hb dX1_away_60 (lv_at hl 0 rfl) ?_
        refine lv_lconst (v := lN 0) hx hb dX1_away_62 (by decide) ?_
        refine x_lge (x := ((lN ((gN Z p) * (vlU Z j q))) - (lN (gS Z p q)))) (y := (lN 0)) (tgt := 73) hx hb dX1_away_63 dX1_away_64 (by decide) (fun c_63 => ?_) (fun c_63 => ?_)
        ·
          have hde : lN (gN Z p * vlU Z j q) - lN (gS Z p q) = lN (dst (gN Z p * vlU Z j q) (gS Z p q)) := lN_ge0 (by omega) (by omega) c_63
          refine lv_lload hx hb dX1_away_73 (lv_at hl 0 rfl) ?_
          rw [hde]
          refine x_ladd hx hb dX1_away_75 ?_
          refine lv_lstore (lv' := [(7, .long (lN (t + (dst (gN Z p * vlU Z j q) (gS Z p q))))), (10, .long ((lN ((gN Z p) * (vlU Z j q))) - (lN (gS Z p q)))), (9, .int (nI j)), (5, .long (lN (gS Z p q))), (3, .long (lN (gN Z p))), (0, .ref o), (1, .int (nI p)), (2, .int (nI q))]) hx hb dX1_away_76 hl (by decide) rfl (fun ls hl => ?_)
          refine lv_iinc (v := nI (j + 1)) (lv' := [(9, .int (nI (j + 1))), (7, .long (lN (t + (dst (gN Z p * vlU Z j q) (gS Z p q))))), (10, .long ((lN ((gN Z p) * (vlU Z j q))) - (lN (gS Z p q)))), (5, .long (lN (gS Z p q))), (3, .long (lN (gN Z p))), (0, .ref o), (1, .int (nI p)), (2, .int (nI q))]) hx hb dX1_away_78 hl (k := 2) rfl (x_inc1 _) (by decide) rfl (fun ls hl => ?_)
          refine lv_goto (tgt := 21) hx hb dX1_away_81 (by decide) ?_
          exact ih21 ls (j + 1) (t + (dst (gN Z p * vlU Z j q) (gS Z p q))) (lv_sub hl [0, 1, 3, 4, 5, 6, 7] rfl) (by omega) (by rw [fb_sm_succ, ← ht]; first | (rw [if_pos c_38]; done) | (rw [if_neg c_38]; rfl)) (by omega)
        ·
          have hde : -(lN (gN Z p * vlU Z j q) - lN (gS Z p q)) = lN (dst (gN Z p * vlU Z j q) (gS Z p q)) := lN_lt0 (by omega) (by omega) c_63
          refine lv_lload hx hb dX1_away_67 (lv_at hl 0 rfl) ?_
          refine lv_lneg hx hb dX1_away_69 ?_
          refine lv_goto (tgt := 75) hx hb dX1_away_70 (by decide) ?_
          rw [hde]
          refine x_ladd hx hb dX1_away_75 ?_
          refine lv_lstore (lv' := [(7, .long (lN (t + (dst (gN Z p * vlU Z j q) (gS Z p q))))), (10, .long ((lN ((gN Z p) * (vlU Z j q))) - (lN (gS Z p q)))), (9, .int (nI j)), (5, .long (lN (gS Z p q))), (3, .long (lN (gN Z p))), (0, .ref o), (1, .int (nI p)), (2, .int (nI q))]) hx hb dX1_away_76 hl (by decide) rfl (fun ls hl => ?_)
          refine lv_iinc (v := nI (j + 1)) (lv' := [(9, .int (nI (j + 1))), (7, .long (lN (t + (dst (gN Z p * vlU Z j q) (gS Z p q))))), (10, .long ((lN ((gN Z p) * (vlU Z j q))) - (lN (gS Z p q)))), (5, .long (lN (gS Z p q))), (3, .long (lN (gN Z p))), (0, .ref o), (1, .int (nI p)), (2, .int (nI q))]) hx hb dX1_away_78 hl (k := 2) rfl (x_inc1 _) (by decide) rfl (fun ls hl => ?_)
          refine lv_goto (tgt := 21) hx hb dX1_away_81 (by decide) ?_
          exact ih21 ls (j + 1) (t + (dst (gN Z p * vlU Z j q) (gS Z p q))) (lv_sub hl [0, 1, 3, 4, 5, 6, 7] rfl) (by omega) (by rw [fb_sm_succ, ← ht]; first | (rw [if_pos c_38]; done) | (rw [if_neg c_38]; rfl)) (by omega)
      ·
        refine lv_goto (tgt := 78) hx hb dX1_away_41 (by decide) ?_
        refine lv_iinc (v := nI (j + 1)) (lv' := [(9, .int (nI (j + 1))), (7, .long (lN t)), (5, .long (lN (gS Z p q))), (3, .long (lN (gN Z p))), (0, .ref o), (1, .int (nI p)), (2, .int (nI q))]) hx hb dX1_away_78 hl (k := 0) rfl (x_inc1 _) (by decide) rfl (fun ls hl => ?_)
        refine lv_goto (tgt := 21) hx hb dX1_away_81 (by decide) ?_
        exact ih21 ls (j + 1) t (lv_sub hl [0, 1, 2, 3, 4, 5, 6] rfl) (by omega) (by rw [fb_sm_succ, ← ht]; first | (rw [if_pos c_38]; done) | (rw [if_neg c_38]; rfl)) (by omega)

set_option maxHeartbeats 4000000 in
set_option maxRecDepth 100000 in
theorem ct_X1_rankOf (l : Launch) (dC : Nat → ClassId) (dI : Nat → Nat → Nat) (cy cz : ClassId) (o : Nat) (a : Nat → Nat) (Z : Nat → Nat → Nat) (G T K : Nat → Nat) (p : Nat) (v : Int32) (hI : Inv Z) (hR : MRel Z G T K) (hp : p < 8) : Met l yX1_rankOf (wS yX1_rankOf cX1_rankOf 7 (Option.some Jvm.ClassFile.FieldType.long)) (rmF 3 68) (va_Pc [.ref o, .int (nI p), .int v] (mR dC dI cy cz o a Z G T K)) (vp_Sl (fun r => r = lN (rnk Z p v))) 0 0 (fun _ => False) := by
  refine Met.ofW (cc := cX1_rankOf) (maxL := 7) (ret := (Option.some Jvm.ClassFile.FieldType.long)) (by decide) rfl ?_
  intro pg en sv mi ag bw mt cd s₁ BL hml hv
  obtain ⟨rfl, hP, hK⟩ := hv
  have hx := BL.exec
  have hb := BL.bytes
  have hr := BL.returns
  have hts : ∀ w ∈ lw_ok, w.before _ sv = true := fun w hw => atoms_spec (ws := wS yX1_rankOf cX1_rankOf 7 (Option.some Jvm.ClassFile.FieldType.long)) BL.pre w (List.mem_cons_of_mem _ hw)
  have hown : sv.vm.findClass RX1 = some mi.cls := findClass_of_methodNamed BL.named
  have hlocks := BL.notSynchronized
  have fx : CallFix pg mi cd cX1_rankOf 7 sv _ lw_ok RX1 := ⟨hx, hb, hml, hown, hts⟩
  have hl := lv_entry ([.ref o, .int (nI p), .int v]) (n := 7) (Nat.le_of_ble_eq_true rfl)
  rw [lg_entry_eq]
  generalize (lg_sl ([.ref o, .int (nI p), .int v]) ++ List.replicate (7 - (lg_sl ([.ref o, .int (nI p), .int v])).length) Slot.unset).toArray = ls at hl ⊢
  replace hl : lv_has ls 7 [(0, .ref o), (1, .int (nI p)), (2, .int v)] := hl
  obtain ⟨b0, b1, b2⟩ := hI.bd
  refine lv_lconst (v := lN 0) hx hb dX1_rankOf_0 (by decide) ?_
  refine lv_lstore_n (lv' := [(3, .long (lN 0)), (0, .ref o), (1, .int (nI p)), (2, .int v)]) hx hb dX1_rankOf_1 rfl hl (by decide) rfl (fun ls hl => ?_)
  refine lv_iconst (v := nI 0) hx hb dX1_rankOf_2 (by decide) ?_
  refine lv_istore (lv' := [(5, .int (nI 0)), (3, .long (lN 0)), (0, .ref o), (1, .int (nI p)), (2, .int v)]) hx hb dX1_rankOf_3 hl (by decide) rfl (fun ls hl => ?_)
  obtain ⟨j, ej⟩ : ∃ j : Nat, j = 0 := ⟨_, rfl⟩
  obtain ⟨t, et⟩ : ∃ t : Nat, t = 0 := ⟨_, rfl⟩
  replace hl : lv_has ls 7 [(5, .int (nI j)), (3, .long (lN t)), (0, .ref o), (1, .int (nI p)), (2, .int v)] := by subst ej et; exact lv_sub hl [0, 1, 2, 3, 4] rfl
  have hj : j ≤ Z 0 2 := by subst ej et; omega
  have ht : t = fb_sm (fun u => if Z 11 u = p then rk (tot Z u) v else 0) j := by subst ej et; rfl
  clear ej et
  obtain ⟨n5, hn5⟩ : ∃ n_0 : Nat, Z 0 2 - j < n_0 := ⟨_, Nat.lt_succ_self _⟩
  induction n5 generalizing j t ls with
  | zero => exact absurd hn5 (Nat.not_lt_zero _)
  | succ n5 ih5 =>
    refine lv_iload hx hb dX1_rankOf_5 (lv_at hl 0 rfl) ?_
    refine lv_aload_n hx hb dX1_rankOf_7 rfl (lv_at hl 2 rfl) ?_
    refine m_g2 hx hb hts hown hK hP dX1_rankOf_8 ?_
    refine x_icmp_ge (x := j) (y := Z 0 2) (tgt := 68) hx hb (by omega) (by omega) dX1_rankOf_11 (by decide) (fun c_11 => ?_) (fun c_11 => ?_)
    ·
      refine lv_lload_n hx hb dX1_rankOf_68 rfl (lv_at hl 1 rfl) ?_
      refine W.lret (v := (lN t)) hx hb hr (fun t9 ht9 hW9 => ⟨_, rfl, ?_, ht9⟩) (fun q h => by cases h) dX1_rankOf_69
      rw [ht, show j = Z 0 2 by omega]; rfl
    ·
      have hpu := hI.pu (u := j) (by omega)
      refine lv_aload_n hx hb dX1_rankOf_14 rfl (lv_at hl 2 rfl) ?_
      refine m_g9 hx hb hts hown hK hP dX1_rankOf_15 ?_
      refine lv_iload hx hb dX1_rankOf_18 (lv_at hl 0 rfl) ?_
      refine m_l9 (j := j) hx hb hK hP (by omega) dX1_rankOf_20 ?_
      refine lv_iload_n hx hb dX1_rankOf_21 rfl (lv_at hl 3 rfl) ?_
      refine x_icmp_eq (x := Z 11 j) (y := p) (tgt := 28) hx hb (by omega) (by omega) dX1_rankOf_22 (by decide) (fun c_22 => ?_) (fun c_22 => ?_)
      ·
        refine lv_aload_n hx hb dX1_rankOf_28 rfl (lv_at hl 2 rfl) ?_
        refine lv_iload hx hb dX1_rankOf_29 (lv_at hl 0 rfl) ?_
        refine r_Vi (As := [.int (nI j)]) (rest := []) fx (ct_X1_totalOf l dC dI cy cz o a Z G T K j hI hR (by first | assumption | omega)) fyX1_totalOf tM_RX1_97 rfl rfl ⟨Nat.le_of_ble_eq_true rfl, Nat.le_of_ble_eq_true rfl⟩ (m_pre hK hP) rfl hl.1 rfl (Nat.le_of_ble_eq_true rfl) dX1_rankOf_31 ⟨Nat.le_of_ble_eq_true rfl, Nat.le_of_ble_eq_true rfl⟩ (fun r_31 hr_31 => ?_)
        subst hr_31
        refine lv_istore (lv' := [(6, .int (nI (tot Z j))), (5, .int (nI j)), (3, .long (lN t)), (0, .ref o), (1, .int (nI p)), (2, .int v)]) hx hb dX1_rankOf_34 hl (by decide) rfl (fun ls hl => ?_)
        refine lv_lload_n hx hb dX1_rankOf_36 rfl (lv_at hl 2 rfl) ?_
        refine lv_iload hx hb dX1_rankOf_37 (lv_at hl 0 rfl) ?_
        refine lv_iload_n hx hb dX1_rankOf_39 rfl (lv_at hl 5 rfl) ?_
        refine lv_icmp_ge (tgt := 49) hx hb dX1_rankOf_40 (by decide) (fun c_40 => ?_) (fun c_40 => ?_)
        ·
          refine lv_iload hx hb dX1_rankOf_49 (lv_at hl 0 rfl) ?_
          refine lv_iload_n hx hb dX1_rankOf_51 rfl (lv_at hl 5 rfl) ?_
          refine lv_icmp_ne (tgt := 59) hx hb dX1_rankOf_52 (by decide) (fun c_52 => ?_) (fun c_52 => ?_)
          ·
            refine lv_lconst (v := lN 0) hx hb dX1_rankOf_59 (by decide) ?_
            refine x_ladd hx hb dX1_rankOf_60 ?_
            refine lv_lstore_n (lv' := [(3, .long (lN (t + 0))), (6, .int (nI (tot Z j))), (5, .int (nI j)), (0, .ref o), (1, .int (nI p)), (2, .int v)]) hx hb dX1_rankOf_61 rfl hl (by decide) rfl (fun ls hl => ?_)
            refine lv_iinc (v := nI (j + 1)) (lv' := [(5, .int (nI (j + 1))), (3, .long (lN (t + 0))), (6, .int (nI (tot Z j))), (0, .ref o), (1, .int (nI p)), (2, .int v)]) hx hb dX1_rankOf_62 hl (k := 2) rfl (x_inc1 _) (by decide) rfl (fun ls hl => ?_)
            refine lv_goto (tgt := 5) hx hb dX1_rankOf_65 (by decide) ?_
            exact ih5 ls (j + 1) (t + 0) (lv_sub hl [0, 1, 3, 4, 5] rfl) (by omega) (by rw [fb_sm_succ, ← ht]; first | (rw [if_neg c_22]; rfl) | (rw [if_pos c_22, rk, if_pos (fa_of_nle c_40)]; done) | (rw [if_pos c_22, rk, if_neg (fun h => (fa_of_lt h).2.1 c_40), if_pos c_52]; done) | (rw [if_pos c_22, rk, if_neg (fun h => (fa_of_lt h).2.1 c_40), if_neg c_52]; done)) (by omega)
          ·
            refine lv_lconst (v := lN 1) hx hb dX1_rankOf_55 (by decide) ?_
            refine lv_goto (tgt := 60) hx hb dX1_rankOf_56 (by decide) ?_
            refine x_ladd hx hb dX1_rankOf_60 ?_
            refine lv_lstore_n (lv' := [(3, .long (lN (t + 1))), (6, .int (nI (tot Z j))), (5, .int (nI j)), (0, .ref o), (1, .int (nI p)), (2, .int v)]) hx hb dX1_rankOf_61 rfl hl (by decide) rfl (fun ls hl => ?_)
            refine lv_iinc (v := nI (j + 1)) (lv' := [(5, .int (nI (j + 1))), (3, .long (lN (t + 1))), (6, .int (nI (tot Z j))), (0, .ref o), (1, .int (nI p)), (2, .int v)]) hx hb dX1_rankOf_62 hl (k := 2) rfl (x_inc1 _) (by decide) rfl (fun ls hl => ?_)
            refine lv_goto (tgt := 5) hx hb dX1_rankOf_65 (by decide) ?_
            exact ih5 ls (j + 1) (t + 1) (lv_sub hl [0, 1, 3, 4, 5] rfl) (by omega) (by rw [fb_sm_succ, ← ht]; first | (rw [if_neg c_22]; rfl) | (rw [if_pos c_22, rk, if_pos (fa_of_nle c_40)]; done) | (rw [if_pos c_22, rk, if_neg (fun h => (fa_of_lt h).2.1 c_40), if_pos c_52]; done) | (rw [if_pos c_22, rk, if_neg (fun h => (fa_of_lt h).2.1 c_40), if_neg c_52]; done)) (by omega)
        ·
          refine lv_ldc2 (v := 2) hx hb hown (hts _ (ok_of tJ_RX1_134 rfl)) dX1_rankOf_43 ?_
          refine W.eq (g2 := F0 mi 46 ls (.long (lN 2) :: [.long (lN t)])) rfl ?_
          refine lv_goto (tgt := 60) hx hb dX1_rankOf_46 (by decide) ?_
          refine x_ladd hx hb dX1_rankOf_60 ?_
          refine lv_lstore_n (lv' := [(3, .long (lN (t + 2))), (6, .int (nI (tot Z j))), (5, .int (nI j)), (0, .ref o), (1, .int (nI p)), (2, .int v)]) hx hb dX1_rankOf_61 rfl hl (by decide) rfl (fun ls hl => ?_)
          refine lv_iinc (v := nI (j + 1)) (lv' := [(5, .int (nI (j + 1))), (3, .long (lN (t + 2))), (6, .int (nI (tot Z j))), (0, .ref o), (1, .int (nI p)), (2, .int v)]) hx hb dX1_rankOf_62 hl (k := 2) rfl (x_inc1 _) (by decide) rfl (fun ls hl => ?_)
          refine lv_goto (tgt := 5) hx hb dX1_rankOf_65 (by decide) ?_
          exact ih5 ls (j + 1) (t + 2) (lv_sub hl [0, 1, 3, 4, 5] rfl) (by omega) (by rw [fb_sm_succ, ← ht]; first | (rw [if_neg c_22]; rfl) | (rw [if_pos c_22, rk, if_pos (fa_of_nle c_40)]; done) | (rw [if_pos c_22, rk, if_neg (fun h => (fa_of_lt h).2.1 c_40), if_pos c_52]; done) | (rw [if_pos c_22, rk, if_neg (fun h => (fa_of_lt h).2.1 c_40), if_neg c_52]; done)) (by omega)
      ·
        refine lv_goto (tgt := 62) hx hb dX1_rankOf_25 (by decide) ?_
        refine lv_iinc (v := nI (j + 1)) (lv' := [(5, .int (nI (j + 1))), (3, .long (lN t)), (0, .ref o), (1, .int (nI p)), (2, .int v)]) hx hb dX1_rankOf_62 hl (k := 0) rfl (x_inc1 _) (by decide) rfl (fun ls hl => ?_)
        refine lv_goto (tgt := 5) hx hb dX1_rankOf_65 (by decide) ?_
        exact ih5 ls (j + 1) t (lv_sub hl [0, 1, 2, 3, 4] rfl) (by omega) (by rw [fb_sm_succ, ← ht]; first | (rw [if_neg c_22]; rfl) | (rw [if_pos c_22, rk, if_pos (fa_of_nle c_40)]; done) | (rw [if_pos c_22, rk, if_neg (fun h => (fa_of_lt h).2.1 c_40), if_pos c_52]; done) | (rw [if_pos c_22, rk, if_neg (fun h => (fa_of_lt h).2.1 c_40), if_neg c_52]; done)) (by omega)

set_option maxHeartbeats 4000000 in
set_option maxRecDepth 100000 in
theorem ct_X1_cutOf (l : Launch) (dC : Nat → ClassId) (dI : Nat → Nat → Nat) (cy cz : ClassId) (o : Nat) (a : Nat → Nat) (Z : Nat → Nat → Nat) (G T K : Nat → Nat) (p : Nat) (hI : Inv Z) (hR : MRel Z G T K) (hp : p < 8) : Met l yX1_cutOf (wS yX1_cutOf cX1_cutOf 11 (Option.some Jvm.ClassFile.FieldType.long)) (rmF 1 21) (va_Pc [.ref o, .int (nI p)] (mR dC dI cy cz o a Z G T K)) (vp_Sl (fun r => r = lN (cutP Z p))) 0 0 (fun _ => False) := by
  refine Met.ofW (cc := cX1_cutOf) (maxL := 11) (ret := (Option.some Jvm.ClassFile.FieldType.long)) (by decide) rfl ?_
  intro pg en sv mi ag bw mt cd s₁ BL hml hv
  obtain ⟨rfl, hP, hK⟩ := hv
  have hx := BL.exec
  have hb := BL.bytes
  have hr := BL.returns
  have hts : ∀ w ∈ lw_ok, w.before _ sv = true := fun w hw => atoms_spec (ws := wS yX1_cutOf cX1_cutOf 11 (Option.some Jvm.ClassFile.FieldType.long)) BL.pre w (List.mem_cons_of_mem _ hw)
  have hown : sv.vm.findClass RX1 = some mi.cls := findClass_of_methodNamed BL.named
  have hlocks := BL.notSynchronized
  have fx : CallFix pg mi cd cX1_cutOf 11 sv _ lw_ok RX1 := ⟨hx, hb, hml, hown, hts⟩
  have hl := lv_entry ([.ref o, .int (nI p)]) (n := 11) (Nat.le_of_ble_eq_true rfl)
  rw [lg_entry_eq]
  generalize (lg_sl ([.ref o, .int (nI p)]) ++ List.replicate (11 - (lg_sl ([.ref o, .int (nI p)])).length) Slot.unset).toArray = ls at hl ⊢
  replace hl : lv_has ls 11 [(0, .ref o), (1, .int (nI p))] := hl
  obtain ⟨b0, b1, b2⟩ := hI.bd
  have bs := hI.sz hp
  refine lv_lconst (v := lN 0) hx hb dX1_cutOf_0 (by decide) ?_
  refine lv_lstore_n (lv' := [(2, .long (lN 0)), (0, .ref o), (1, .int (nI p))]) hx hb dX1_cutOf_1 rfl hl (by decide) rfl (fun ls hl => ?_)
  refine lv_iconst (v := nI 0) hx hb dX1_cutOf_2 (by decide) ?_
  refine lv_istore (lv' := [(4, .int (nI 0)), (2, .long (lN 0)), (0, .ref o), (1, .int (nI p))]) hx hb dX1_cutOf_3 hl (by decide) rfl (fun ls hl => ?_)
  obtain ⟨j, ej⟩ : ∃ j : Nat, j = 0 := ⟨_, rfl⟩
  obtain ⟨t, et⟩ : ∃ t : Nat, t = 0 := ⟨_, rfl⟩
  replace hl : lv_has ls 11 [(4, .int (nI j)), (2, .long (lN t)), (0, .ref o), (1, .int (nI p))] := by subst ej et; exact lv_sub hl [0, 1, 2, 3] rfl
  have hj : j ≤ Z 8 p := by subst ej et; omega
  have ht : t = fb_sm (fun i => if cnt Z (Z 10 (p * 12 + i)) then mnP Z (p * 12 + i) else 0) j := by subst ej et; rfl
  clear ej et
  obtain ⟨n5, hn5⟩ : ∃ n_0 : Nat, Z 8 p - j < n_0 := ⟨_, Nat.lt_succ_self _⟩
  induction n5 generalizing j t ls with
  | zero => exact absurd hn5 (Nat.not_lt_zero _)
  | succ n5 ih5 =>
    refine lv_iload hx hb dX1_cutOf_5 (lv_at hl 0 rfl) ?_
    refine lv_aload_n hx hb dX1_cutOf_7 rfl (lv_at hl 2 rfl) ?_
    refine m_g8 hx hb hts hown hK hP dX1_cutOf_8 ?_
    refine lv_iload_n hx hb dX1_cutOf_11 rfl (lv_at hl 3 rfl) ?_
    refine m_l8 (j := p) hx hb hK hP (by omega) dX1_cutOf_12 ?_
    refine x_icmp_ge (x := j) (y := Z 8 p) (tgt := 124) hx hb (by omega) (by omega) dX1_cutOf_13 (by decide) (fun c_13 => ?_) (fun c_13 => ?_)
    ·
      refine lv_lload_n hx hb dX1_cutOf_124 rfl (lv_at hl 1 rfl) ?_
      refine W.lret (v := (lN t)) hx hb hr (fun t9 ht9 hW9 => ⟨_, rfl, ?_, ht9⟩) (fun q h => by cases h) dX1_cutOf_125
      rw [ht, show j = Z 8 p by omega]; rfl
    ·
      have hro := hI.row (p := p) (i := j) (by omega) (by omega)
      refine lv_lconst (v := lN 0) hx hb dX1_cutOf_16 (by decide) ?_
      refine lv_lstore (lv' := [(5, .long (lN 0)), (4, .int (nI j)), (2, .long (lN t)), (0, .ref o), (1, .int (nI p))]) hx hb dX1_cutOf_17 hl (by decide) rfl (fun ls hl => ?_)
      refine lv_lconst (v := lN 0) hx hb dX1_cutOf_19 (by decide) ?_
      refine lv_lstore (lv' := [(7, .long (lN 0)), (5, .long (lN 0)), (4, .int (nI j)), (2, .long (lN t)), (0, .ref o), (1, .int (nI p))]) hx hb dX1_cutOf_20 hl (by decide) rfl (fun ls hl => ?_)
      refine lv_iconst (v := nI 0) hx hb dX1_cutOf_22 (by decide) ?_
      refine lv_istore (lv' := [(9, .int (nI 0)), (7, .long (lN 0)), (5, .long (lN 0)), (4, .int (nI j)), (2, .long (lN t)), (0, .ref o), (1, .int (nI p))]) hx hb dX1_cutOf_23 hl (by decide) rfl (fun ls hl => ?_)
      obtain ⟨k, ek⟩ : ∃ k : Nat, k = 0 := ⟨_, rfl⟩
      obtain ⟨n, en⟩ : ∃ n : Nat, n = 0 := ⟨_, rfl⟩
      obtain ⟨ts, ets⟩ : ∃ ts : Nat, ts = 0 := ⟨_, rfl⟩
      replace hl : lv_has ls 11 [(9, .int (nI k)), (7, .long (lN n)), (5, .long (lN ts)), (4, .int (nI j)), (2, .long (lN t)), (0, .ref o), (1, .int (nI p))] := by subst ek en ets; exact lv_sub hl [0, 1, 2, 3, 4, 5, 6] rfl
      have hk : k ≤ 8 := by subst ek en ets; omega
      have hn : n = fb_ct (fun k => !(Z 14 ((p * 12 + j) * 8 + k) == 0)) k := by subst ek en ets; rfl
      have hs : ts = fb_sm (fun k => Z 14 ((p * 12 + j) * 8 + k) - 1) k := by subst ek en ets; rfl
      clear ek en ets
      obtain ⟨n25, hn25⟩ : ∃ n_0 : Nat, 8 - k < n_0 := ⟨_, Nat.lt_succ_self _⟩
      induction n25 generalizing k n ts ls with
      | zero => exact absurd hn25 (Nat.not_lt_zero _)
      | succ n25 ih25 =>
        refine lv_iload hx hb dX1_cutOf_25 (lv_at hl 0 rfl) ?_
        refine lv_bipush (v := nI 8) hx hb dX1_cutOf_27 (by decide) ?_
        refine x_icmp_ge (x := k) (y := 8) (tgt := 80) hx hb (by omega) (by omega) dX1_cutOf_29 (by decide) (fun c_29 => ?_) (fun c_29 => ?_)
        ·
          obtain rfl : k = 8 := by omega
          have hn8 : n = tdN Z (p * 12 + j) := hn
          have hs8 : ts = tdS Z (p * 12 + j) := hs
          have hcl := tdN_le Z (p * 12 + j)
          refine lv_lload hx hb dX1_cutOf_80 (lv_at hl 1 rfl) ?_
          refine lv_lconst (v := lN 0) hx hb dX1_cutOf_82 (by decide) ?_
          refine x_lle (x := (lN n)) (y := (lN 0)) (tgt := 118) hx hb dX1_cutOf_83 dX1_cutOf_84 (by decide) (fun c_83 => ?_) (fun c_83 => ?_)
          ·
            have hn0 : n = 0 := by have := (pk_lLE (by omega) (by decide)).mp c_83; omega
            refine lv_iinc (v := nI (j + 1)) (lv' := [(4, .int (nI (j + 1))), (9, .int (nI 8)), (7, .long (lN n)), (5, .long (lN ts)), (2, .long (lN t)), (0, .ref o), (1, .int (nI p))]) hx hb dX1_cutOf_118 hl (k := 3) rfl (x_inc1 _) (by decide) rfl (fun ls hl => ?_)
            refine lv_goto (tgt := 5) hx hb dX1_cutOf_121 (by decide) ?_
            exact ih5 ls (j + 1) t (lv_sub hl [0, 4, 5, 6] rfl) (by omega) (by rw [fb_sm_succ, ← ht]; first | (rw [if_pos hr_100, mnP, if_neg hn0, ← hn8, ← hs8, Nat.mul_comm]; done) | (rw [if_neg hr_100]; rfl) | (rw [show mnP Z (p * 12 + j) = 0 from if_pos (hn8.symm.trans hn0)]; split <;> rfl)) (by omega)
          ·
            have hn0 : ¬ tdN Z (p * 12 + j) = 0 := fun h => c_83 ((pk_lLE (by omega) (by decide)).mpr (by omega))
            refine lv_aload_n hx hb dX1_cutOf_87 rfl (lv_at hl 5 rfl) ?_
            refine lv_aload_n hx hb dX1_cutOf_88 rfl (lv_at hl 5 rfl) ?_
            refine m_g7 hx hb hts hown hK hP dX1_cutOf_89 ?_
            refine lv_bipush (v := nI 12) hx hb dX1_cutOf_92 (by decide) ?_
            refine lv_iload_n hx hb dX1_cutOf_94 rfl (lv_at hl 6 rfl) ?_
            refine x_imulc hx hb dX1_cutOf_95 ?_
            refine lv_iload hx hb dX1_cutOf_96 (lv_at hl 3 rfl) ?_
            refine x_iadd hx hb dX1_cutOf_98 ?_
            refine m_l7 (j := p * 12 + j) hx hb hK hP (by omega) dX1_cutOf_99 ?_
            refine r_Vi (As := [.int (nI (Z 10 (p * 12 + j)))]) (rest := []) fx (ct_X1_isCounted l dC dI cy cz o a Z G T K (Z 10 (p * 12 + j)) hI hR (by first | assumption | omega)) fyX1_isCounted tM_RX1_94 rfl rfl ⟨Nat.le_of_ble_eq_true rfl, Nat.le_of_ble_eq_true rfl⟩ (m_pre hK hP) rfl hl.1 rfl (Nat.le_of_ble_eq_true rfl) dX1_cutOf_100 ⟨Nat.le_of_ble_eq_true rfl, Nat.le_of_ble_eq_true rfl⟩ (fun r_100 hr_100 => ?_)
            rcases hr_100 with ⟨rfl, hr_100⟩ | ⟨rfl, hr_100⟩
            ·
              refine x_if_eq_T (tgt := 118) hx hb (by decide) dX1_cutOf_103 (by decide) ?_
              refine lv_iinc (v := nI (j + 1)) (lv' := [(4, .int (nI (j + 1))), (9, .int (nI 8)), (7, .long (lN n)), (5, .long (lN ts)), (2, .long (lN t)), (0, .ref o), (1, .int (nI p))]) hx hb dX1_cutOf_118 hl (k := 3) rfl (x_inc1 _) (by decide) rfl (fun ls hl => ?_)
              refine lv_goto (tgt := 5) hx hb dX1_cutOf_121 (by decide) ?_
              exact ih5 ls (j + 1) t (lv_sub hl [0, 4, 5, 6] rfl) (by omega) (by rw [fb_sm_succ, ← ht]; first | (rw [if_pos hr_100, mnP, if_neg hn0, ← hn8, ← hs8, Nat.mul_comm]; done) | (rw [if_neg hr_100]; rfl) | (rw [show mnP Z (p * 12 + j) = 0 from if_pos (hn8.symm.trans hn0)]; split <;> rfl)) (by omega)
            ·
              refine x_if_eq_F (tgt := 118) hx hb (by decide) dX1_cutOf_103 (by decide) ?_
              refine lv_lload_n hx hb dX1_cutOf_106 rfl (lv_at hl 4 rfl) ?_
              refine lv_ldc2 (v := 840) hx hb hown (hts _ (ok_of tJ_RX1_139 rfl)) dX1_cutOf_107 ?_
              refine W.eq (g2 := F0 mi 110 ls (.long (lN 840) :: [.long (lN t)])) rfl ?_
              refine lv_lload hx hb dX1_cutOf_110 (lv_at hl 1 rfl) ?_
              refine lv_ldiv hx hb dX1_cutOf_112 (by exact lN_ne0 (by omega) (by omega)) ?_
              rw [pk_lDiv (by decide) (by omega) (by omega)]
              refine lv_lload hx hb dX1_cutOf_113 (lv_at hl 2 rfl) ?_
              refine x_lmul hx hb dX1_cutOf_115 ?_
              refine x_ladd hx hb dX1_cutOf_116 ?_
              refine lv_lstore_n (lv' := [(2, .long (lN (t + ((840 / n) * ts)))), (9, .int (nI 8)), (7, .long (lN n)), (5, .long (lN ts)), (4, .int (nI j)), (0, .ref o), (1, .int (nI p))]) hx hb dX1_cutOf_117 rfl hl (by decide) rfl (fun ls hl => ?_)
              refine lv_iinc (v := nI (j + 1)) (lv' := [(4, .int (nI (j + 1))), (2, .long (lN (t + ((840 / n) * ts)))), (9, .int (nI 8)), (7, .long (lN n)), (5, .long (lN ts)), (0, .ref o), (1, .int (nI p))]) hx hb dX1_cutOf_118 hl (k := 4) rfl (x_inc1 _) (by decide) rfl (fun ls hl => ?_)
              refine lv_goto (tgt := 5) hx hb dX1_cutOf_121 (by decide) ?_
              exact ih5 ls (j + 1) (t + ((840 / n) * ts)) (lv_sub hl [0, 1, 5, 6] rfl) (by omega) (by rw [fb_sm_succ, ← ht]; first | (rw [if_pos hr_100, mnP, if_neg hn0, ← hn8, ← hs8, Nat.mul_comm]; done) | (rw [if_neg hr_100]; rfl) | (rw [show mnP Z (p * 12 + j) = 0 from if_pos (hn8.symm.trans hn0)]; split <;> rfl)) (by omega)
        ·
          refine lv_aload_n hx hb dX1_cutOf_32 rfl (lv_at hl 5 rfl) ?_
          refine m_g12 hx hb hts hown hK hP dX1_cutOf_33 ?_
          refine lv_bipush (v := nI 96) hx hb dX1_cutOf_36 (by decide) ?_
          refine lv_iload hx hb dX1_cutOf_38 (lv_at hl 0 rfl) ?_
          refine x_imulc hx hb dX1_cutOf_40 ?_
          refine lv_bipush (v := nI 12) hx hb dX1_cutOf_41 (by decide) ?_
          refine lv_iload_n hx hb dX1_cutOf_43 rfl (lv_at hl 6 rfl) ?_
          refine x_imulc hx hb dX1_cutOf_44 ?_
          refine x_iadd hx hb dX1_cutOf_45 ?_
          refine lv_iload hx hb dX1_cutOf_46 (lv_at hl 3 rfl) ?_
          refine x_iadd hx hb dX1_cutOf_48 ?_
          refine m_l12 (j := (k * 96 + (p * 12)) + j) hx hb hK hP (by omega) dX1_cutOf_49 ?_
          rw [hR.t hp (show j < Z 8 p by omega) (show k < 8 by omega)]
          refine x_gap (fun hg_49 => ?_) (fun kg_49 hg_49 => ?_)
          ·
            refine lv_istore (lv' := [(10, .int (-1)), (9, .int (nI k)), (7, .long (lN n)), (5, .long (lN ts)), (4, .int (nI j)), (2, .long (lN t)), (0, .ref o), (1, .int (nI p))]) hx hb dX1_cutOf_50 hl (by decide) rfl (fun ls hl => ?_)
            refine lv_iload hx hb dX1_cutOf_52 (lv_at hl 0 rfl) ?_
            refine x_if_ge_F (tgt := 60) hx hb (by decide) dX1_cutOf_54 (by decide) ?_
            refine lv_goto (tgt := 74) hx hb dX1_cutOf_57 (by decide) ?_
            refine lv_iinc (v := nI (k + 1)) (lv' := [(9, .int (nI (k + 1))), (10, .int (-1)), (7, .long (lN n)), (5, .long (lN ts)), (4, .int (nI j)), (2, .long (lN t)), (0, .ref o), (1, .int (nI p))]) hx hb dX1_cutOf_74 hl (k := 1) rfl (x_inc1 _) (by decide) rfl (fun ls hl => ?_)
            refine lv_goto (tgt := 25) hx hb dX1_cutOf_77 (by decide) ?_
            exact ih25 ls (k + 1) n ts (lv_sub hl [0, 2, 3, 4, 5, 6, 7] rfl) (by omega) (by rw [fb_ct_succ, ← hn]; simp [hg_49]) (by rw [fb_sm_succ, ← hs]; simp [hg_49]) (by omega)
          ·
            have hkt := td_le hI (k := p * 12 + j) (j := k) (by omega) (by omega)
            refine lv_istore (lv' := [(10, .int (nI kg_49)), (9, .int (nI k)), (7, .long (lN n)), (5, .long (lN ts)), (4, .int (nI j)), (2, .long (lN t)), (0, .ref o), (1, .int (nI p))]) hx hb dX1_cutOf_50 hl (by decide) rfl (fun ls hl => ?_)
            refine lv_iload hx hb dX1_cutOf_52 (lv_at hl 0 rfl) ?_
            refine x_if_ge_T (tgt := 60) hx hb (nI_pos' (by omega)) dX1_cutOf_54 (by decide) ?_
            refine lv_lload hx hb dX1_cutOf_60 (lv_at hl 3 rfl) ?_
            refine lv_iload hx hb dX1_cutOf_62 (lv_at hl 0 rfl) ?_
            refine lv_i2l (v := lN kg_49) hx hb dX1_cutOf_64 (nI_l (by omega)) ?_
            refine x_ladd hx hb dX1_cutOf_65 ?_
            refine lv_lstore (lv' := [(5, .long (lN (ts + kg_49))), (10, .int (nI kg_49)), (9, .int (nI k)), (7, .long (lN n)), (4, .int (nI j)), (2, .long (lN t)), (0, .ref o), (1, .int (nI p))]) hx hb dX1_cutOf_66 hl (by decide) rfl (fun ls hl => ?_)
            refine lv_lload hx hb dX1_cutOf_68 (lv_at hl 3 rfl) ?_
            refine lv_lconst (v := lN 1) hx hb dX1_cutOf_70 (by decide) ?_
            refine x_ladd hx hb dX1_cutOf_71 ?_
            refine lv_lstore (lv' := [(7, .long (lN (n + 1))), (5, .long (lN (ts + kg_49))), (10, .int (nI kg_49)), (9, .int (nI k)), (4, .int (nI j)), (2, .long (lN t)), (0, .ref o), (1, .int (nI p))]) hx hb dX1_cutOf_72 hl (by decide) rfl (fun ls hl => ?_)
            refine lv_iinc (v := nI (k + 1)) (lv' := [(9, .int (nI (k + 1))), (7, .long (lN (n + 1))), (5, .long (lN (ts + kg_49))), (10, .int (nI kg_49)), (4, .int (nI j)), (2, .long (lN t)), (0, .ref o), (1, .int (nI p))]) hx hb dX1_cutOf_74 hl (k := 3) rfl (x_inc1 _) (by decide) rfl (fun ls hl => ?_)
            refine lv_goto (tgt := 25) hx hb dX1_cutOf_77 (by decide) ?_
            exact ih25 ls (k + 1) (n + 1) (ts + kg_49) (lv_sub hl [0, 1, 2, 4, 5, 6, 7] rfl) (by omega) (by rw [fb_ct_succ, ← hn]; simp [hg_49]) (by rw [fb_sm_succ, ← hs]; simp [hg_49]) (by omega)

set_option maxHeartbeats 4000000 in
set_option maxRecDepth 100000 in
theorem ct_X1_isPassed (l : Launch) (dC : Nat → ClassId) (dI : Nat → Nat → Nat) (cy cz : ClassId) (o : Nat) (a : Nat → Nat) (Z : Nat → Nat → Nat) (G T K : Nat → Nat) (u : Nat) (hI : Inv Z) (hR : MRel Z G T K) (hu : u < Z 0 2) : Met l yX1_isPassed (wS yX1_isPassed cX1_isPassed 2 (Option.some Jvm.ClassFile.FieldType.boolean)) (rmF 3 68) (va_Pc [.ref o, .int (nI u)] (mR dC dI cy cz o a Z G T K)) (vp_Si (fun r => isB r (pas Z u))) 0 0 (fun _ => False) := by
  refine Met.ofW (cc := cX1_isPassed) (maxL := 2) (ret := (Option.some Jvm.ClassFile.FieldType.boolean)) (by decide) rfl ?_
  intro pg en sv mi ag bw mt cd s₁ BL hml hv
  obtain ⟨rfl, hP, hK⟩ := hv
  have hx := BL.exec
  have hb := BL.bytes
  have hr := BL.returns
  have hts : ∀ w ∈ lw_ok, w.before _ sv = true := fun w hw => atoms_spec (ws := wS yX1_isPassed cX1_isPassed 2 (Option.some Jvm.ClassFile.FieldType.boolean)) BL.pre w (List.mem_cons_of_mem _ hw)
  have hown : sv.vm.findClass RX1 = some mi.cls := findClass_of_methodNamed BL.named
  have hlocks := BL.notSynchronized
  have fx : CallFix pg mi cd cX1_isPassed 2 sv _ lw_ok RX1 := ⟨hx, hb, hml, hown, hts⟩
  have hl := lv_entry ([.ref o, .int (nI u)]) (n := 2) (Nat.le_of_ble_eq_true rfl)
  rw [lg_entry_eq]
  generalize (lg_sl ([.ref o, .int (nI u)]) ++ List.replicate (2 - (lg_sl ([.ref o, .int (nI u)])).length) Slot.unset).toArray = ls at hl ⊢
  replace hl : lv_has ls 2 [(0, .ref o), (1, .int (nI u))] := hl
  obtain ⟨b0, b1, b2⟩ := hI.bd
  have hpu := hI.pu hu
  have htl := tot_le hI hu
  have hcl := cutP_le hI (p := Z 11 u) (by omega)
  refine lv_ldc2 (v := 840) hx hb hown (hts _ (ok_of tJ_RX1_139 rfl)) dX1_isPassed_0 ?_
  refine W.eq (g2 := F0 mi 3 ls (.long (lN 840) :: [])) rfl ?_
  refine lv_aload_n hx hb dX1_isPassed_3 rfl (lv_at hl 0 rfl) ?_
  refine lv_iload_n hx hb dX1_isPassed_4 rfl (lv_at hl 1 rfl) ?_
  refine r_Vi (As := [.int (nI u)]) (rest := [.long (lN 840)]) fx (ct_X1_totalOf l dC dI cy cz o a Z G T K u hI hR (by first | assumption | omega)) fyX1_totalOf tM_RX1_97 rfl rfl ⟨Nat.le_of_ble_eq_true rfl, Nat.le_of_ble_eq_true rfl⟩ (m_pre hK hP) rfl hl.1 rfl (Nat.le_of_ble_eq_true rfl) dX1_isPassed_5 ⟨Nat.le_of_ble_eq_true rfl, Nat.le_of_ble_eq_true rfl⟩ (fun r_5 hr_5 => ?_)
  subst hr_5
  refine lv_i2l (v := lN (tot Z u)) hx hb dX1_isPassed_8 (nI_l (by omega)) ?_
  refine x_lmul hx hb dX1_isPassed_9 ?_
  refine lv_aload_n hx hb dX1_isPassed_10 rfl (lv_at hl 0 rfl) ?_
  refine lv_aload_n hx hb dX1_isPassed_11 rfl (lv_at hl 0 rfl) ?_
  refine m_g9 hx hb hts hown hK hP dX1_isPassed_12 ?_
  refine lv_iload_n hx hb dX1_isPassed_15 rfl (lv_at hl 1 rfl) ?_
  refine m_l9 (j := u) hx hb hK hP (by omega) dX1_isPassed_16 ?_
  refine r_Vl (As := [.int (nI (Z 11 u))]) (rest := [.long (lN (840 * (tot Z u)))]) fx (ct_X1_cutOf l dC dI cy cz o a Z G T K (Z 11 u) hI hR (by first | assumption | omega)) fyX1_cutOf tM_RX1_141 rfl rfl ⟨Nat.le_of_ble_eq_true rfl, Nat.le_of_ble_eq_true rfl⟩ (m_pre hK hP) rfl hl.1 rfl (Nat.le_of_ble_eq_true rfl) dX1_isPassed_17 ⟨Nat.le_of_ble_eq_true rfl, Nat.le_of_ble_eq_true rfl⟩ (fun r_17 hr_17 => ?_)
  subst hr_17
  refine x_llt (x := (lN (840 * (tot Z u)))) (y := (lN (cutP Z (Z 11 u)))) (tgt := 28) hx hb dX1_isPassed_20 dX1_isPassed_21 (by decide) (fun c_20 => ?_) (fun c_20 => ?_)
  ·
    refine lv_iconst (v := nI 0) hx hb dX1_isPassed_28 (by decide) ?_
    refine W.zret (v := (nI 0)) hx hb hr (by decide) (fun t9 ht9 hW9 => ⟨_, rfl, ?_, ht9⟩) (fun q h => by cases h) dX1_isPassed_29
    first | exact Or.inl ⟨rfl, fun h => by have h2 := (pk_lLT (by omega) (by omega)).mp c_20; have h3 : cutP Z (Z 11 u) ≤ tot Z u * 840 := h; omega⟩ | exact Or.inr ⟨rfl, Nat.not_lt.mp (fun h => c_20 ((pk_lLT (by omega) (by omega)).mpr (by omega)))⟩
  ·
    refine lv_iconst (v := nI 1) hx hb dX1_isPassed_24 (by decide) ?_
    refine lv_goto (tgt := 29) hx hb dX1_isPassed_25 (by decide) ?_
    refine W.zret (v := (nI 1)) hx hb hr (by decide) (fun t9 ht9 hW9 => ⟨_, rfl, ?_, ht9⟩) (fun q h => by cases h) dX1_isPassed_29
    first | exact Or.inl ⟨rfl, fun h => by have h2 := (pk_lLT (by omega) (by omega)).mp c_20; have h3 : cutP Z (Z 11 u) ≤ tot Z u * 840 := h; omega⟩ | exact Or.inr ⟨rfl, Nat.not_lt.mp (fun h => c_20 ((pk_lLT (by omega) (by omega)).mpr (by omega)))⟩

set_option maxHeartbeats 4000000 in
set_option maxRecDepth 100000 in
theorem ct_X1_alikeMany (l : Launch) (dC : Nat → ClassId) (dI : Nat → Nat → Nat) (cy cz : ClassId) (o : Nat) (a : Nat → Nat) (Z : Nat → Nat → Nat) (G T K : Nat → Nat) (u : Nat) (v : Nat) (hI : Inv Z) (hR : MRel Z G T K) (hu : u < Z 0 2) (hv : v < Z 0 2) (huv : Z 11 v = Z 11 u) : Met l yX1_alikeMany (wS yX1_alikeMany cX1_alikeMany 6 (Option.some Jvm.ClassFile.FieldType.int)) (rmF 2 45) (va_Pc [.ref o, .int (nI u), .int (nI v)] (mR dC dI cy cz o a Z G T K)) (vp_Si (fun r => r = nI (alk Z u v))) 0 0 (fun _ => False) := by
  refine Met.ofW (cc := cX1_alikeMany) (maxL := 6) (ret := (Option.some Jvm.ClassFile.FieldType.int)) (by decide) rfl ?_
  intro pg en sv mi ag bw mt cd s₁ BL hml hv
  obtain ⟨rfl, hP, hK⟩ := hv
  have hx := BL.exec
  have hb := BL.bytes
  have hr := BL.returns
  have hts : ∀ w ∈ lw_ok, w.before _ sv = true := fun w hw => atoms_spec (ws := wS yX1_alikeMany cX1_alikeMany 6 (Option.some Jvm.ClassFile.FieldType.int)) BL.pre w (List.mem_cons_of_mem _ hw)
  have hown : sv.vm.findClass RX1 = some mi.cls := findClass_of_methodNamed BL.named
  have hlocks := BL.notSynchronized
  have fx : CallFix pg mi cd cX1_alikeMany 6 sv _ lw_ok RX1 := ⟨hx, hb, hml, hown, hts⟩
  have hl := lv_entry ([.ref o, .int (nI u), .int (nI v)]) (n := 6) (Nat.le_of_ble_eq_true rfl)
  rw [lg_entry_eq]
  generalize (lg_sl ([.ref o, .int (nI u), .int (nI v)]) ++ List.replicate (6 - (lg_sl ([.ref o, .int (nI u), .int (nI v)])).length) Slot.unset).toArray = ls at hl ⊢
  replace hl : lv_has ls 6 [(0, .ref o), (1, .int (nI u)), (2, .int (nI v))] := hl
  obtain ⟨b0, b1, b2⟩ := hI.bd
  have hpu := hI.pu hu
  have bs := hI.sz (p := Z 11 u) (by omega)
  refine lv_aload_n hx hb dX1_alikeMany_0 rfl (lv_at hl 0 rfl) ?_
  refine m_g9 hx hb hts hown hK hP dX1_alikeMany_1 ?_
  refine lv_iload_n hx hb dX1_alikeMany_4 rfl (lv_at hl 1 rfl) ?_
  refine m_l9 (j := u) hx hb hK hP (by omega) dX1_alikeMany_5 ?_
  refine lv_istore_n (lv' := [(3, .int (nI (Z 11 u))), (0, .ref o), (1, .int (nI u)), (2, .int (nI v))]) hx hb dX1_alikeMany_6 rfl hl (by decide) rfl (fun ls hl => ?_)
  refine lv_iconst (v := nI 0) hx hb dX1_alikeMany_7 (by decide) ?_
  refine lv_istore (lv' := [(4, .int (nI 0)), (3, .int (nI (Z 11 u))), (0, .ref o), (1, .int (nI u)), (2, .int (nI v))]) hx hb dX1_alikeMany_8 hl (by decide) rfl (fun ls hl => ?_)
  refine lv_iconst (v := nI 0) hx hb dX1_alikeMany_10 (by decide) ?_
  refine lv_istore (lv' := [(5, .int (nI 0)), (4, .int (nI 0)), (3, .int (nI (Z 11 u))), (0, .ref o), (1, .int (nI u)), (2, .int (nI v))]) hx hb dX1_alikeMany_11 hl (by decide) rfl (fun ls hl => ?_)
  obtain ⟨j, ej⟩ : ∃ j : Nat, j = 0 := ⟨_, rfl⟩
  obtain ⟨t, et⟩ : ∃ t : Nat, t = 0 := ⟨_, rfl⟩
  replace hl : lv_has ls 6 [(5, .int (nI j)), (4, .int (nI t)), (3, .int (nI (Z 11 u))), (0, .ref o), (1, .int (nI u)), (2, .int (nI v))] := by subst ej et; exact lv_sub hl [0, 1, 2, 3, 4, 5] rfl
  have hj : j ≤ Z 8 (Z 11 u) := by subst ej et; omega
  have ht : t = fb_ct (fun i => !(Z 13 (u * 12 + i) == 0) && (Z 13 (u * 12 + i) == Z 13 (v * 12 + i)) && decide (mrk Z u i < Z 6 (Z 10 (Z 11 u * 12 + i)))) j := by subst ej et; rfl
  clear ej et
  obtain ⟨n13, hn13⟩ : ∃ n_0 : Nat, Z 8 (Z 11 u) - j < n_0 := ⟨_, Nat.lt_succ_self _⟩
  induction n13 generalizing j t ls with
  | zero => exact absurd hn13 (Nat.not_lt_zero _)
  | succ n13 ih13 =>
    refine lv_iload hx hb dX1_alikeMany_13 (lv_at hl 0 rfl) ?_
    refine lv_aload_n hx hb dX1_alikeMany_15 rfl (lv_at hl 3 rfl) ?_
    refine m_g8 hx hb hts hown hK hP dX1_alikeMany_16 ?_
    refine lv_iload_n hx hb dX1_alikeMany_19 rfl (lv_at hl 2 rfl) ?_
    refine m_l8 (j := Z 11 u) hx hb hK hP (by omega) dX1_alikeMany_20 ?_
    refine x_icmp_ge (x := j) (y := Z 8 (Z 11 u)) (tgt := 109) hx hb (by omega) (by omega) dX1_alikeMany_21 (by decide) (fun c_21 => ?_) (fun c_21 => ?_)
    ·
      refine lv_iload hx hb dX1_alikeMany_109 (lv_at hl 1 rfl) ?_
      refine W.iret (v := (nI t)) hx hb hr (fun t9 ht9 hW9 => ⟨_, rfl, ?_, ht9⟩) (fun q h => by cases h) dX1_alikeMany_111
      rw [ht, show j = Z 8 (Z 11 u) by omega]; rfl
    ·
      have hro := hI.row (p := Z 11 u) (i := j) (by omega) (by omega)
      have hqq := hI.q hro
      have hmk := mrk_le hI hu (show j < Z 8 (Z 11 u) by omega)
      refine lv_iload hx hb dX1_alikeMany_24 (lv_at hl 1 rfl) ?_
      refine lv_aload_n hx hb dX1_alikeMany_26 rfl (lv_at hl 3 rfl) ?_
      refine m_g11 hx hb hts hown hK hP dX1_alikeMany_27 ?_
      refine lv_bipush (v := nI 12) hx hb dX1_alikeMany_30 (by decide) ?_
      refine lv_iload_n hx hb dX1_alikeMany_32 rfl (lv_at hl 4 rfl) ?_
      refine x_imulc hx hb dX1_alikeMany_33 ?_
      refine lv_iload hx hb dX1_alikeMany_34 (lv_at hl 0 rfl) ?_
      refine x_iadd hx hb dX1_alikeMany_36 ?_
      refine m_l11 (j := u * 12 + j) hx hb hK hP (by omega) dX1_alikeMany_37 ?_
      rw [hR.g hu (by omega)]
      refine x_gap (fun hg_37 => ?_) (fun kg_37 hg_37 => ?_)
      ·
        refine x_if_lt_T (tgt := 99) hx hb (by decide) dX1_alikeMany_38 (by decide) ?_
        refine lv_iconst (v := nI 0) hx hb dX1_alikeMany_99 (by decide) ?_
        refine x_iadd hx hb dX1_alikeMany_100 ?_
        refine lv_istore (lv' := [(4, .int (nI (t + 0))), (5, .int (nI j)), (3, .int (nI (Z 11 u))), (0, .ref o), (1, .int (nI u)), (2, .int (nI v))]) hx hb dX1_alikeMany_101 hl (by decide) rfl (fun ls hl => ?_)
        refine lv_iinc (v := nI (j + 1)) (lv' := [(5, .int (nI (j + 1))), (4, .int (nI (t + 0))), (3, .int (nI (Z 11 u))), (0, .ref o), (1, .int (nI u)), (2, .int (nI v))]) hx hb dX1_alikeMany_103 hl (k := 1) rfl (x_inc1 _) (by decide) rfl (fun ls hl => ?_)
        refine lv_goto (tgt := 13) hx hb dX1_alikeMany_106 (by decide) ?_
        exact ih13 ls (j + 1) (t + 0) (lv_sub hl [0, 1, 2, 3, 4, 5] rfl) (by omega) (by rw [fb_ct_succ, ← ht]; first | (simp [hg_37]; done) | (simp [hg_37, hg_64]; done) | (simp [hg_37, hg_64, c_65]; done) | (simp [hg_37, hg_64, c_65, c_92]; done) | (simp [hg_37, hg_64, c_65]; omega)) (by omega)
      ·
        have hkt := an_le hI (show u * 12 + j < 720 by omega)
        refine x_if_lt_F (tgt := 99) hx hb (nI_pos (by omega)) dX1_alikeMany_38 (by decide) ?_
        refine lv_aload_n hx hb dX1_alikeMany_41 rfl (lv_at hl 3 rfl) ?_
        refine m_g11 hx hb hts hown hK hP dX1_alikeMany_42 ?_
        refine lv_bipush (v := nI 12) hx hb dX1_alikeMany_45 (by decide) ?_
        refine lv_iload_n hx hb dX1_alikeMany_47 rfl (lv_at hl 4 rfl) ?_
        refine x_imulc hx hb dX1_alikeMany_48 ?_
        refine lv_iload hx hb dX1_alikeMany_49 (lv_at hl 0 rfl) ?_
        refine x_iadd hx hb dX1_alikeMany_51 ?_
        refine m_l11 (j := u * 12 + j) hx hb hK hP (by omega) dX1_alikeMany_52 ?_
        rw [hR.g hu (by omega)]
        refine x_gap (fun hg_52 => ?_) (fun kg_52 hg_52 => ?_)
        ·
          exact absurd hg_52 (by omega)
        ·
          have hkk : kg_52 = kg_37 := by omega
          subst hkk
          refine lv_aload_n hx hb dX1_alikeMany_53 rfl (lv_at hl 3 rfl) ?_
          refine m_g11 hx hb hts hown hK hP dX1_alikeMany_54 ?_
          refine lv_bipush (v := nI 12) hx hb dX1_alikeMany_57 (by decide) ?_
          refine lv_iload_n hx hb dX1_alikeMany_59 rfl (lv_at hl 5 rfl) ?_
          refine x_imulc hx hb dX1_alikeMany_60 ?_
          refine lv_iload hx hb dX1_alikeMany_61 (lv_at hl 0 rfl) ?_
          refine x_iadd hx hb dX1_alikeMany_63 ?_
          refine m_l11 (j := v * 12 + j) hx hb hK hP (by omega) dX1_alikeMany_64 ?_
          rw [hR.g hv (by omega)]
          refine x_gap (fun hg_64 => ?_) (fun kg_64 hg_64 => ?_)
          ·
            refine x_icmp_ne_T (tgt := 99) hx hb (nI_ne_m1 (by omega)) dX1_alikeMany_65 (by decide) ?_
            refine lv_iconst (v := nI 0) hx hb dX1_alikeMany_99 (by decide) ?_
            refine x_iadd hx hb dX1_alikeMany_100 ?_
            refine lv_istore (lv' := [(4, .int (nI (t + 0))), (5, .int (nI j)), (3, .int (nI (Z 11 u))), (0, .ref o), (1, .int (nI u)), (2, .int (nI v))]) hx hb dX1_alikeMany_101 hl (by decide) rfl (fun ls hl => ?_)
            refine lv_iinc (v := nI (j + 1)) (lv' := [(5, .int (nI (j + 1))), (4, .int (nI (t + 0))), (3, .int (nI (Z 11 u))), (0, .ref o), (1, .int (nI u)), (2, .int (nI v))]) hx hb dX1_alikeMany_103 hl (k := 1) rfl (x_inc1 _) (by decide) rfl (fun ls hl => ?_)
            refine lv_goto (tgt := 13) hx hb dX1_alikeMany_106 (by decide) ?_
            exact ih13 ls (j + 1) (t + 0) (lv_sub hl [0, 1, 2, 3, 4, 5] rfl) (by omega) (by rw [fb_ct_succ, ← ht]; first | (simp [hg_37]; done) | (simp [hg_37, hg_64]; done) | (simp [hg_37, hg_64, c_65]; done) | (simp [hg_37, hg_64, c_65, c_92]; done) | (simp [hg_37, hg_64, c_65]; omega)) (by omega)
          ·
            have hkt2 := an_le hI (show v * 12 + j < 720 by omega)
            refine x_icmp_ne (x := kg_52) (y := kg_64) (tgt := 99) hx hb (by omega) (by omega) dX1_alikeMany_65 (by decide) (fun c_65 => ?_) (fun c_65 => ?_)
            ·
              refine lv_iconst (v := nI 0) hx hb dX1_alikeMany_99 (by decide) ?_
              refine x_iadd hx hb dX1_alikeMany_100 ?_
              refine lv_istore (lv' := [(4, .int (nI (t + 0))), (5, .int (nI j)), (3, .int (nI (Z 11 u))), (0, .ref o), (1, .int (nI u)), (2, .int (nI v))]) hx hb dX1_alikeMany_101 hl (by decide) rfl (fun ls hl => ?_)
              refine lv_iinc (v := nI (j + 1)) (lv' := [(5, .int (nI (j + 1))), (4, .int (nI (t + 0))), (3, .int (nI (Z 11 u))), (0, .ref o), (1, .int (nI u)), (2, .int (nI v))]) hx hb dX1_alikeMany_103 hl (k := 1) rfl (x_inc1 _) (by decide) rfl (fun ls hl => ?_)
              refine lv_goto (tgt := 13) hx hb dX1_alikeMany_106 (by decide) ?_
              exact ih13 ls (j + 1) (t + 0) (lv_sub hl [0, 1, 2, 3, 4, 5] rfl) (by omega) (by rw [fb_ct_succ, ← ht]; first | (simp [hg_37]; done) | (simp [hg_37, hg_64]; done) | (simp [hg_37, hg_64, c_65]; done) | (simp [hg_37, hg_64, c_65, c_92]; done) | (simp [hg_37, hg_64, c_65]; omega)) (by omega)
            ·
              refine lv_aload_n hx hb dX1_alikeMany_68 rfl (lv_at hl 3 rfl) ?_
              refine lv_iload_n hx hb dX1_alikeMany_69 rfl (lv_at hl 4 rfl) ?_
              refine lv_iload hx hb dX1_alikeMany_70 (lv_at hl 0 rfl) ?_
              refine r_Vi (As := [.int (nI u), .int (nI j)]) (rest := [.int (nI t)]) fx (ct_X1_markAt l dC dI cy cz o a Z G T K u j hI hR (by first | assumption | omega) (by first | assumption | omega)) fyX1_markAt tM_RX1_88 rfl rfl ⟨Nat.le_of_ble_eq_true rfl, Nat.le_of_ble_eq_true rfl⟩ (m_pre hK hP) rfl hl.1 rfl (Nat.le_of_ble_eq_true rfl) dX1_alikeMany_72 ⟨Nat.le_of_ble_eq_true rfl, Nat.le_of_ble_eq_true rfl⟩ (fun r_72 hr_72 => ?_)
              subst hr_72
              refine lv_aload_n hx hb dX1_alikeMany_75 rfl (lv_at hl 3 rfl) ?_
              refine m_g4 hx hb hts hown hK hP dX1_alikeMany_76 ?_
              refine lv_aload_n hx hb dX1_alikeMany_79 rfl (lv_at hl 3 rfl) ?_
              refine m_g7 hx hb hts hown hK hP dX1_alikeMany_80 ?_
              refine lv_bipush (v := nI 12) hx hb dX1_alikeMany_83 (by decide) ?_
              refine lv_iload_n hx hb dX1_alikeMany_85 rfl (lv_at hl 2 rfl) ?_
              refine x_imulc hx hb dX1_alikeMany_86 ?_
              refine lv_iload hx hb dX1_alikeMany_87 (lv_at hl 0 rfl) ?_
              refine x_iadd hx hb dX1_alikeMany_89 ?_
              refine m_l7 (j := ((Z 11 u) * 12) + j) hx hb hK hP (by omega) dX1_alikeMany_90 ?_
              refine m_l4 (j := Z 10 (((Z 11 u) * 12) + j)) hx hb hK hP (by omega) dX1_alikeMany_91 ?_
              refine x_icmp_ge (x := mrk Z u j) (y := Z 6 (Z 10 (((Z 11 u) * 12) + j))) (tgt := 99) hx hb (by omega) (by omega) dX1_alikeMany_92 (by decide) (fun c_92 => ?_) (fun c_92 => ?_)
              ·
                refine lv_iconst (v := nI 0) hx hb dX1_alikeMany_99 (by decide) ?_
                refine x_iadd hx hb dX1_alikeMany_100 ?_
                refine lv_istore (lv' := [(4, .int (nI (t + 0))), (5, .int (nI j)), (3, .int (nI (Z 11 u))), (0, .ref o), (1, .int (nI u)), (2, .int (nI v))]) hx hb dX1_alikeMany_101 hl (by decide) rfl (fun ls hl => ?_)
                refine lv_iinc (v := nI (j + 1)) (lv' := [(5, .int (nI (j + 1))), (4, .int (nI (t + 0))), (3, .int (nI (Z 11 u))), (0, .ref o), (1, .int (nI u)), (2, .int (nI v))]) hx hb dX1_alikeMany_103 hl (k := 1) rfl (x_inc1 _) (by decide) rfl (fun ls hl => ?_)
                refine lv_goto (tgt := 13) hx hb dX1_alikeMany_106 (by decide) ?_
                exact ih13 ls (j + 1) (t + 0) (lv_sub hl [0, 1, 2, 3, 4, 5] rfl) (by omega) (by rw [fb_ct_succ, ← ht]; first | (simp [hg_37]; done) | (simp [hg_37, hg_64]; done) | (simp [hg_37, hg_64, c_65]; done) | (simp [hg_37, hg_64, c_65, c_92]; done) | (simp [hg_37, hg_64, c_65]; omega)) (by omega)
              ·
                refine lv_iconst (v := nI 1) hx hb dX1_alikeMany_95 (by decide) ?_
                refine lv_goto (tgt := 100) hx hb dX1_alikeMany_96 (by decide) ?_
                refine x_iadd hx hb dX1_alikeMany_100 ?_
                refine lv_istore (lv' := [(4, .int (nI (t + 1))), (5, .int (nI j)), (3, .int (nI (Z 11 u))), (0, .ref o), (1, .int (nI u)), (2, .int (nI v))]) hx hb dX1_alikeMany_101 hl (by decide) rfl (fun ls hl => ?_)
                refine lv_iinc (v := nI (j + 1)) (lv' := [(5, .int (nI (j + 1))), (4, .int (nI (t + 1))), (3, .int (nI (Z 11 u))), (0, .ref o), (1, .int (nI u)), (2, .int (nI v))]) hx hb dX1_alikeMany_103 hl (k := 1) rfl (x_inc1 _) (by decide) rfl (fun ls hl => ?_)
                refine lv_goto (tgt := 13) hx hb dX1_alikeMany_106 (by decide) ?_
                exact ih13 ls (j + 1) (t + 1) (lv_sub hl [0, 1, 2, 3, 4, 5] rfl) (by omega) (by rw [fb_ct_succ, ← ht]; first | (simp [hg_37]; done) | (simp [hg_37, hg_64]; done) | (simp [hg_37, hg_64, c_65]; done) | (simp [hg_37, hg_64, c_65, c_92]; done) | (simp [hg_37, hg_64, c_65]; omega)) (by omega)
