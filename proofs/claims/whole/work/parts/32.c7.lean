set_option maxHeartbeats 4000000 in
set_option maxRecDepth 100000 in
theorem ct_J6_bitCount_0f7a4 (l : Launch) (x : Nat) (hx0 : x < 2 ^ 32) : Met l yJ6_bitCount_0f7a4 (wS yJ6_bitCount_0f7a4 cJ6_bitCount_0f7a4 1 (Option.some Jvm.ClassFile.FieldType.int)) (rmF 0 0) (va_Pc [.int (nI x)] (fun _ => True)) (vp_Si (fun r => r = nI (fb_ct (fun i => x.testBit i) 32))) 0 0 (fun _ => False) := by
  refine Met.ofW (cc := cJ6_bitCount_0f7a4) (maxL := 1) (ret := (Option.some Jvm.ClassFile.FieldType.int)) (by decide) rfl ?_
  intro pg en sv mi ag bw mt cd s₁ BL hml hv
  obtain ⟨rfl, -⟩ := hv
  have hx := BL.exec
  have hb := BL.bytes
  have hr := BL.returns
  have hts : ∀ w ∈ lw_ok, w.before _ sv = true := fun w hw => atoms_spec (ws := wS yJ6_bitCount_0f7a4 cJ6_bitCount_0f7a4 1 (Option.some Jvm.ClassFile.FieldType.int)) BL.pre w (List.mem_cons_of_mem _ hw)
  have hown : sv.vm.findClass RJ6 = some mi.cls := findClass_of_methodNamed BL.named
  have hlocks := BL.notSynchronized
  have fx : CallFix pg mi cd cJ6_bitCount_0f7a4 1 sv _ lw_ok RJ6 := ⟨hx, hb, hml, hown, hts⟩
  have hl := lv_entry ([.int (nI x)]) (n := 1) (Nat.le_of_ble_eq_true rfl)
  rw [lg_entry_eq]
  generalize (lg_sl ([.int (nI x)]) ++ List.replicate (1 - (lg_sl ([.int (nI x)])).length) Slot.unset).toArray = ls at hl ⊢
  replace hl : lv_has ls 1 [(0, .int (nI x))] := hl
  refine lv_iload_n hx hb dJ6_bitCount_0f7a4_0 rfl (lv_at hl 0 rfl) ?_
  refine lv_iload_n hx hb dJ6_bitCount_0f7a4_1 rfl (lv_at hl 0 rfl) ?_
  refine lv_iconst (v := nI 1) hx hb dJ6_bitCount_0f7a4_2 (by decide) ?_
  refine lv_iushr (v := nI (x / 2)) hx hb dJ6_bitCount_0f7a4_3 (pk_ushrN (by omega) (nI 1) 1 (by decide)) ?_
  refine lv_ldcw (v := nI 1431655765) hx hb hown (hts _ (ok_of tG_RJ6_265 rfl)) dJ6_bitCount_0f7a4_4 ?_
  refine x_iand hx hb dJ6_bitCount_0f7a4_7 ?_
  refine x_isub hx hb (by exact Nat.le_trans Nat.and_le_left (Nat.div_le_self x 2)) dJ6_bitCount_0f7a4_8 ?_
  refine lv_istore_n (lv' := [(0, .int (nI (x - ((x / 2) &&& 1431655765))))]) hx hb dJ6_bitCount_0f7a4_9 rfl hl (by decide) rfl (fun ls hl => ?_)
  obtain ⟨v1, ev1⟩ : ∃ w : Nat, w = x - ((x / 2) &&& 1431655765) := ⟨_, rfl⟩
  rw [← ev1] at hl
  have hv1 : v1 < 2 ^ 32 := by omega
  refine lv_iload_n hx hb dJ6_bitCount_0f7a4_10 rfl (lv_at hl 0 rfl) ?_
  refine lv_ldcw (v := nI 858993459) hx hb hown (hts _ (ok_of tG_RJ6_266 rfl)) dJ6_bitCount_0f7a4_11 ?_
  refine x_iand hx hb dJ6_bitCount_0f7a4_14 ?_
  refine lv_iload_n hx hb dJ6_bitCount_0f7a4_15 rfl (lv_at hl 0 rfl) ?_
  refine lv_iconst (v := nI 2) hx hb dJ6_bitCount_0f7a4_16 (by decide) ?_
  refine lv_iushr (v := nI (v1 / 4)) hx hb dJ6_bitCount_0f7a4_17 (pk_ushrN (by omega) (nI 2) 2 (by decide)) ?_
  refine lv_ldcw (v := nI 858993459) hx hb hown (hts _ (ok_of tG_RJ6_266 rfl)) dJ6_bitCount_0f7a4_18 ?_
  refine x_iand hx hb dJ6_bitCount_0f7a4_21 ?_
  refine x_iadd hx hb dJ6_bitCount_0f7a4_22 ?_
  refine lv_istore_n (lv' := [(0, .int (nI ((v1 &&& 858993459) + ((v1 / 4) &&& 858993459))))]) hx hb dJ6_bitCount_0f7a4_23 rfl hl (by decide) rfl (fun ls hl => ?_)
  obtain ⟨v2, ev2⟩ : ∃ w : Nat, w = (v1 &&& 858993459) + ((v1 / 4) &&& 858993459) := ⟨_, rfl⟩
  rw [← ev2] at hl
  have hv2 : v2 < 2 ^ 32 := by
    have h1 : v1 &&& 858993459 ≤ 858993459 := Nat.and_le_right
    have h2 : (v1 / 4) &&& 858993459 ≤ 858993459 := Nat.and_le_right
    omega
  refine lv_iload_n hx hb dJ6_bitCount_0f7a4_24 rfl (lv_at hl 0 rfl) ?_
  refine lv_iload_n hx hb dJ6_bitCount_0f7a4_25 rfl (lv_at hl 0 rfl) ?_
  refine lv_iconst (v := nI 4) hx hb dJ6_bitCount_0f7a4_26 (by decide) ?_
  refine lv_iushr (v := nI (v2 / 16)) hx hb dJ6_bitCount_0f7a4_27 (pk_ushrN (by omega) (nI 4) 4 (by decide)) ?_
  refine x_iadd hx hb dJ6_bitCount_0f7a4_28 ?_
  refine lv_ldcw (v := nI 252645135) hx hb hown (hts _ (ok_of tG_RJ6_267 rfl)) dJ6_bitCount_0f7a4_29 ?_
  refine x_iand hx hb dJ6_bitCount_0f7a4_32 ?_
  refine lv_istore_n (lv' := [(0, .int (nI ((v2 + (v2 / 16)) &&& 252645135)))]) hx hb dJ6_bitCount_0f7a4_33 rfl hl (by decide) rfl (fun ls hl => ?_)
  obtain ⟨v3, ev3⟩ : ∃ w : Nat, w = (v2 + (v2 / 16)) &&& 252645135 := ⟨_, rfl⟩
  rw [← ev3] at hl
  have hv3 : v3 < 2 ^ 32 := by
    have h1 : (v2 + v2 / 16) &&& 252645135 ≤ 252645135 := Nat.and_le_right
    omega
  refine lv_iload_n hx hb dJ6_bitCount_0f7a4_34 rfl (lv_at hl 0 rfl) ?_
  refine lv_iload_n hx hb dJ6_bitCount_0f7a4_35 rfl (lv_at hl 0 rfl) ?_
  refine lv_bipush (v := nI 8) hx hb dJ6_bitCount_0f7a4_36 (by decide) ?_
  refine lv_iushr (v := nI (v3 / 256)) hx hb dJ6_bitCount_0f7a4_38 (pk_ushrN (by omega) (nI 8) 8 (by decide)) ?_
  refine x_iadd hx hb dJ6_bitCount_0f7a4_39 ?_
  refine lv_istore_n (lv' := [(0, .int (nI (v3 + (v3 / 256))))]) hx hb dJ6_bitCount_0f7a4_40 rfl hl (by decide) rfl (fun ls hl => ?_)
  obtain ⟨v4, ev4⟩ : ∃ w : Nat, w = v3 + (v3 / 256) := ⟨_, rfl⟩
  rw [← ev4] at hl
  have hv4 : v4 < 2 ^ 32 := by
    have h1 : (v2 + v2 / 16) &&& 252645135 ≤ 252645135 := Nat.and_le_right
    omega
  refine lv_iload_n hx hb dJ6_bitCount_0f7a4_41 rfl (lv_at hl 0 rfl) ?_
  refine lv_iload_n hx hb dJ6_bitCount_0f7a4_42 rfl (lv_at hl 0 rfl) ?_
  refine lv_bipush (v := nI 16) hx hb dJ6_bitCount_0f7a4_43 (by decide) ?_
  refine lv_iushr (v := nI (v4 / 65536)) hx hb dJ6_bitCount_0f7a4_45 (pk_ushrN (by omega) (nI 16) 16 (by decide)) ?_
  refine x_iadd hx hb dJ6_bitCount_0f7a4_46 ?_
  refine lv_istore_n (lv' := [(0, .int (nI (v4 + (v4 / 65536))))]) hx hb dJ6_bitCount_0f7a4_47 rfl hl (by decide) rfl (fun ls hl => ?_)
  obtain ⟨v5, ev5⟩ : ∃ w : Nat, w = v4 + (v4 / 65536) := ⟨_, rfl⟩
  rw [← ev5] at hl
  refine lv_iload_n hx hb dJ6_bitCount_0f7a4_48 rfl (lv_at hl 0 rfl) ?_
  refine lv_bipush (v := nI 63) hx hb dJ6_bitCount_0f7a4_49 (by decide) ?_
  refine x_iand hx hb dJ6_bitCount_0f7a4_51 ?_
  refine W.iret (v := (nI (v5 &&& 63))) hx hb hr (fun t9 ht9 hW9 => ⟨_, rfl, ?_, ht9⟩) (fun q h => by cases h) dJ6_bitCount_0f7a4_52
  have q1 : v1 = mapB pc1 4 x := by rw [ev1]; exact pc_s1 hx0
  have q2 : v2 = mapB pc2 4 x := by rw [ev2, q1]; exact pc_s2 x
  have q3 : v3 = mapB pc3 4 x := by rw [ev3, q2]; exact pc_s3 4 x
  exact congrArg nI (pc_end v4 v5 (by rw [ev4, q3]) ev5)

theorem fyJ6_bitCount_0f7a4 : cfS yJ6_bitCount_0f7a4 cJ6_bitCount_0f7a4 1 (Option.some Jvm.ClassFile.FieldType.int) 1 := ⟨tK_yJ6_bitCount_0f7a4, tS_yJ6_bitCount_0f7a4, tI_RJ6, by decide +kernel⟩

/-- counting over a set, or over a row that runs through it without a repeat -/
theorem ct_inj {f : Nat → Nat} {g h : Nat → Bool} {N : Nat} : ∀ (n : Nat), (∀ i, i < n → f i < N) → (∀ i k, i < k → k < n → f i ≠ f k) → (∀ i, i < n → h (f i) = g (f i)) → (∀ x, x < N → g x = true → ∃ i, i < n ∧ f i = x) → fb_ct g N = fb_ct (fun i => h (f i)) n := by
  intro n
  induction n generalizing g with
  | zero =>
    intro _ _ _ h4
    show fb_ct g N = 0
    rw [fb_ct_zero]
    intro k hk
    cases e : g k with
    | false => rfl
    | true =>
      obtain ⟨i, hi, -⟩ := h4 k hk e
      omega
  | succ n ih =>
    intro h1 h2 h3 h4
    have hu := fb_ct_upd g false (i := f n) (n := N) (h1 n (by omega))
    have ih2 := ih (g := fun k => if k = f n then false else g k) (fun i hi => h1 i (by omega)) (fun i k a b => h2 i k a (by omega)) (fun i hi => by
        have hne : ¬ f i = f n := h2 i n hi (by omega)
        simp only [hne, if_false]
        exact h3 i (by omega)) (fun x hx hg => by
        by_cases e : x = f n
        · simp [e] at hg
        · simp only [e, if_false] at hg
          obtain ⟨i, hi, ei⟩ := h4 x hx hg
          rcases Nat.lt_or_ge i n with c | c
          · exact ⟨i, c, ei⟩
          · rw [show i = n by omega] at ei
            exact absurd ei.symm e)
    rw [fb_ct_succ, ← ih2, h3 n (by omega)]
    have hu2 : fb_ct (fun k => if k = f n then false else g k) N + (if g (f n) = true then 1 else 0) = fb_ct g N := hu
    omega

theorem sh_cnt {Z : ST} (hI : Inv Z) {p q : Nat} (hp : p < 8) (hq : q < 8) : fb_ct (fun x => (Z 9 p &&& Z 9 q &&& cset Z).testBit x) 32 = shM Z p q := by
  obtain ⟨b0, b1, b2⟩ := hI.bd
  have hsp := hI.sz hp
  have hb : ∀ x, x < 30 → (Z 9 p &&& Z 9 q &&& cset Z).testBit x = true → ∃ i, i < Z 8 p ∧ Z 10 (p * 12 + i) = x := fun x hx h => by
    rw [Nat.testBit_and, Nat.testBit_and, Bool.and_eq_true_iff, Bool.and_eq_true_iff] at h
    exact (hI.set hp hx).mp h.1.1
  have hi : ∀ i, i < Z 8 p → (Z 9 p &&& Z 9 q &&& cset Z).testBit (Z 10 (p * 12 + i)) = shB Z q (Z 10 (p * 12 + i)) := fun i hi => by
    have hr := hI.row hp hi
    have h1 : (Z 9 p).testBit (Z 10 (p * 12 + i)) = true := (hI.set hp (by omega)).mpr ⟨i, hi, rfl⟩
    have h2 : (Z 9 q).testBit (Z 10 (p * 12 + i)) = decide (spt Z q (Z 10 (p * 12 + i)) < Z 8 q) := by
      have hs := set_spt hI (p := q) (q := Z 10 (p * 12 + i)) hq (by omega)
      have hl := spt_le Z q (Z 10 (p * 12 + i))
      by_cases h : spt Z q (Z 10 (p * 12 + i)) < Z 8 q
      · rw [decide_eq_true h]; exact hs.mpr (by omega)
      · rw [decide_eq_false h]
        cases e : (Z 9 q).testBit (Z 10 (p * 12 + i)) with
        | false => rfl
        | true => exact absurd (hs.mp e) (by omega)
    rw [Nat.testBit_and, Nat.testBit_and, h1, h2, cset_bit hI hr, shB, Bool.true_and, Bool.and_comm]
  have e32 : fb_ct (fun x => (Z 9 p &&& Z 9 q &&& cset Z).testBit x) 32 = fb_ct (fun x => (Z 9 p &&& Z 9 q &&& cset Z).testBit x) 30 := ct_flat (by decide) (fun k h1 h2 => by
    rw [Nat.testBit_and, Nat.testBit_and, Nat.testBit_lt_two_pow (Nat.lt_of_lt_of_le hsp.2 (Nat.pow_le_pow_right (by omega) h1))]; rfl)
  rw [e32]
  exact ct_inj (f := fun i => Z 10 (p * 12 + i)) (Z 8 p) (fun i h => by have := hI.row hp h; omega) (fun i k h1 h2 => hI.one hp h1 h2) (fun i h => (hi i h).symm) (fun x hx h => hb x hx h)

set_option maxHeartbeats 4000000 in
set_option maxRecDepth 100000 in
theorem ct_X0_shared (l : Launch) (dC : Nat → ClassId) (dI : Nat → Nat → Nat) (cy : ClassId) (o : Nat) (a : Nat → Nat) (Z X : Nat → Nat → Nat) (p : Int32) (q : Int32) (hI : Inv Z) : Met l yX0_shared (wS yX0_shared cX0_shared 3 (Option.some Jvm.ClassFile.FieldType.int)) (rmF 2 42) (va_Pc [.ref o, .int p, .int q] (cR dC dI cy o a Z X)) (vp_Si (fun r => r = fShd Z p q)) 0 0 (fun _ => False) := by
  refine Met.ofW (cc := cX0_shared) (maxL := 3) (ret := (Option.some Jvm.ClassFile.FieldType.int)) (by decide) rfl ?_
  intro pg en sv mi ag bw mt cd s₁ BL hml hv
  obtain ⟨rfl, hP, hK⟩ := hv
  have hx := BL.exec
  have hb := BL.bytes
  have hr := BL.returns
  have hts : ∀ w ∈ lw_ok, w.before _ sv = true := fun w hw => atoms_spec (ws := wS yX0_shared cX0_shared 3 (Option.some Jvm.ClassFile.FieldType.int)) BL.pre w (List.mem_cons_of_mem _ hw)
  have hown : sv.vm.findClass RX0 = some mi.cls := findClass_of_methodNamed BL.named
  have hlocks := BL.notSynchronized
  have fx : CallFix pg mi cd cX0_shared 3 sv _ lw_ok RX0 := ⟨hx, hb, hml, hown, hts⟩
  have hl := lv_entry ([.ref o, .int p, .int q]) (n := 3) (Nat.le_of_ble_eq_true rfl)
  rw [lg_entry_eq]
  generalize (lg_sl ([.ref o, .int p, .int q]) ++ List.replicate (3 - (lg_sl ([.ref o, .int p, .int q])).length) Slot.unset).toArray = ls at hl ⊢
  replace hl : lv_has ls 3 [(0, .ref o), (1, .int p), (2, .int q)] := hl
  obtain ⟨b0, b1, b2⟩ := hI.bd
  have hcs := cset_lt hI
  refine lv_aload_n hx hb dX0_shared_0 rfl (lv_at hl 0 rfl) ?_
  refine lv_iload_n hx hb dX0_shared_1 rfl (lv_at hl 1 rfl) ?_
  refine r_Vi (As := [.int p]) (rest := []) fx (ct_X0_isPaper l dC dI cy o a Z X p hI) fyX0_isPaper tM_RX0_81 rfl rfl ⟨Nat.le_of_ble_eq_true rfl, Nat.le_of_ble_eq_true rfl⟩ (c_pre hK hP) rfl hl.1 rfl (Nat.le_of_ble_eq_true rfl) dX0_shared_2 ⟨Nat.le_of_ble_eq_true rfl, Nat.le_of_ble_eq_true rfl⟩ (fun r_2 hr_2 => ?_)
  rcases hr_2 with ⟨rfl, hr_2⟩ | ⟨rfl, hr_2⟩
  ·
    refine x_if_eq_T (tgt := 16) hx hb (by decide) dX0_shared_5 (by decide) ?_
    refine lv_iconst (v := -1) hx hb dX0_shared_16 (by decide) ?_
    refine W.iret (v := (-1)) hx hb hr (fun t9 ht9 hW9 => ⟨_, rfl, ?_, ht9⟩) (fun q h => by cases h) dX0_shared_17
    first
    | (rw [fShd, if_neg (fun h => hr_2 h.1)]; done)
    | (rw [fShd, if_neg (fun h => hr_10 h.2)]; done)
    | (rw [fShd, if_pos ⟨i_p, i_q⟩, t_p, t_q, if_pos c_20]; done)
    | (rw [fShd, if_pos ⟨i_p, i_q⟩, t_p, t_q, if_neg c_20, sh_cnt hI (by omega) (by omega)]; done)
  ·
    have i_p := hr_2
    obtain ⟨p1, -, h_p1, rfl⟩ := inR_of i_p
    have t_p : tn (nI p1) = p1 := tn_nI (by omega)
    refine x_if_eq_F (tgt := 16) hx hb (by decide) dX0_shared_5 (by decide) ?_
    refine lv_aload_n hx hb dX0_shared_8 rfl (lv_at hl 0 rfl) ?_
    refine lv_iload_n hx hb dX0_shared_9 rfl (lv_at hl 2 rfl) ?_
    refine r_Vi (As := [.int q]) (rest := []) fx (ct_X0_isPaper l dC dI cy o a Z X q hI) fyX0_isPaper tM_RX0_81 rfl rfl ⟨Nat.le_of_ble_eq_true rfl, Nat.le_of_ble_eq_true rfl⟩ (c_pre hK hP) rfl hl.1 rfl (Nat.le_of_ble_eq_true rfl) dX0_shared_10 ⟨Nat.le_of_ble_eq_true rfl, Nat.le_of_ble_eq_true rfl⟩ (fun r_10 hr_10 => ?_)
    rcases hr_10 with ⟨rfl, hr_10⟩ | ⟨rfl, hr_10⟩
    ·
      refine x_if_ne_F (tgt := 18) hx hb (by decide) dX0_shared_13 (by decide) ?_
      refine lv_iconst (v := -1) hx hb dX0_shared_16 (by decide) ?_
      refine W.iret (v := (-1)) hx hb hr (fun t9 ht9 hW9 => ⟨_, rfl, ?_, ht9⟩) (fun q h => by cases h) dX0_shared_17
      first
      | (rw [fShd, if_neg (fun h => hr_2 h.1)]; done)
      | (rw [fShd, if_neg (fun h => hr_10 h.2)]; done)
      | (rw [fShd, if_pos ⟨i_p, i_q⟩, t_p, t_q, if_pos c_20]; done)
      | (rw [fShd, if_pos ⟨i_p, i_q⟩, t_p, t_q, if_neg c_20, sh_cnt hI (by omega) (by omega)]; done)
    ·
      have i_q := hr_10
      obtain ⟨q1, -, h_q1, rfl⟩ := inR_of i_q
      have t_q : tn (nI q1) = q1 := tn_nI (by omega)
      refine x_if_ne_T (tgt := 18) hx hb (by decide) dX0_shared_13 (by decide) ?_
      refine lv_iload_n hx hb dX0_shared_18 rfl (lv_at hl 1 rfl) ?_
      refine lv_iload_n hx hb dX0_shared_19 rfl (lv_at hl 2 rfl) ?_
      refine x_icmp_ne (x := p1) (y := q1) (tgt := 28) hx hb (by omega) (by omega) dX0_shared_20 (by decide) (fun c_20 => ?_) (fun c_20 => ?_)
      ·
        refine lv_aload_n hx hb dX0_shared_28 rfl (lv_at hl 0 rfl) ?_
        refine lv_iload_n hx hb dX0_shared_29 rfl (lv_at hl 1 rfl) ?_
        refine lv_iload_n hx hb dX0_shared_30 rfl (lv_at hl 2 rfl) ?_
        refine r_Vi (As := [.int (nI p1), .int (nI q1)]) (rest := []) fx (ct_X0_sharedSet l dC dI cy o a Z X p1 q1 (by first | assumption | omega) (by first | assumption | omega)) fyX0_sharedSet tM_RX0_146 rfl rfl ⟨Nat.le_of_ble_eq_true rfl, Nat.le_of_ble_eq_true rfl⟩ (c_pre hK hP) rfl hl.1 rfl (Nat.le_of_ble_eq_true rfl) dX0_shared_31 ⟨Nat.le_of_ble_eq_true rfl, Nat.le_of_ble_eq_true rfl⟩ (fun r_31 hr_31 => ?_)
        subst hr_31
        refine r_Si (As := [.int (nI (Z 9 p1 &&& Z 9 q1 &&& cset Z))]) (rest := []) fx (ct_J6_bitCount_0f7a4 l (Z 9 p1 &&& Z 9 q1 &&& cset Z) (Nat.lt_of_le_of_lt Nat.and_le_right hcs)) fyJ6_bitCount_0f7a4 tM_RX0_149 rfl rfl ⟨Nat.le_of_ble_eq_true rfl, Nat.le_of_ble_eq_true rfl⟩ rfl hl.1 rfl (Nat.le_of_ble_eq_true rfl) dX0_shared_34 ⟨Nat.le_of_ble_eq_true rfl, Nat.le_of_ble_eq_true rfl⟩ (fun r_34 hr_34 => ?_)
        subst hr_34
        refine W.iret (v := (nI (fb_ct (fun i => (Z 9 p1 &&& Z 9 q1 &&& cset Z).testBit i) 32))) hx hb hr (fun t9 ht9 hW9 => ⟨_, rfl, ?_, ht9⟩) (fun q h => by cases h) dX0_shared_37
        first
        | (rw [fShd, if_neg (fun h => hr_2 h.1)]; done)
        | (rw [fShd, if_neg (fun h => hr_10 h.2)]; done)
        | (rw [fShd, if_pos ⟨i_p, i_q⟩, t_p, t_q, if_pos c_20]; done)
        | (rw [fShd, if_pos ⟨i_p, i_q⟩, t_p, t_q, if_neg c_20, sh_cnt hI (by omega) (by omega)]; done)
      ·
        refine lv_bipush (v := -2) hx hb dX0_shared_23 (by decide) ?_
        refine lv_goto (tgt := 37) hx hb dX0_shared_25 (by decide) ?_
        refine W.iret (v := (-2)) hx hb hr (fun t9 ht9 hW9 => ⟨_, rfl, ?_, ht9⟩) (fun q h => by cases h) dX0_shared_37
        first
        | (rw [fShd, if_neg (fun h => hr_2 h.1)]; done)
        | (rw [fShd, if_neg (fun h => hr_10 h.2)]; done)
        | (rw [fShd, if_pos ⟨i_p, i_q⟩, t_p, t_q, if_pos c_20]; done)
        | (rw [fShd, if_pos ⟨i_p, i_q⟩, t_p, t_q, if_neg c_20, sh_cnt hI (by omega) (by omega)]; done)

set_option maxHeartbeats 4000000 in
set_option maxRecDepth 100000 in
theorem ct_X0_count (l : Launch) (dC : Nat → ClassId) (dI : Nat → Nat → Nat) (cy : ClassId) (o : Nat) (a : Nat → Nat) (Z X : Nat → Nat → Nat) (w : Int32) (hI : Inv Z) : Met l yX0_count (wS yX0_count cX0_count 2 (Option.some Jvm.ClassFile.FieldType.int)) (rmF 6 134) (va_Pc [.ref o, .int w] (cR dC dI cy o a Z X)) (vp_Si (fun r => r = fCnt Z w)) 0 0 (fun _ => False) := by
  refine Met.ofW (cc := cX0_count) (maxL := 2) (ret := (Option.some Jvm.ClassFile.FieldType.int)) (by decide) rfl ?_
  intro pg en sv mi ag bw mt cd s₁ BL hml hv
  obtain ⟨rfl, hP, hK⟩ := hv
  have hx := BL.exec
  have hb := BL.bytes
  have hr := BL.returns
  have hts : ∀ w ∈ lw_ok, w.before _ sv = true := fun w hw => atoms_spec (ws := wS yX0_count cX0_count 2 (Option.some Jvm.ClassFile.FieldType.int)) BL.pre w (List.mem_cons_of_mem _ hw)
  have hown : sv.vm.findClass RX0 = some mi.cls := findClass_of_methodNamed BL.named
  have hlocks := BL.notSynchronized
  have fx : CallFix pg mi cd cX0_count 2 sv _ lw_ok RX0 := ⟨hx, hb, hml, hown, hts⟩
  have hl := lv_entry ([.ref o, .int w]) (n := 2) (Nat.le_of_ble_eq_true rfl)
  rw [lg_entry_eq]
  generalize (lg_sl ([.ref o, .int w]) ++ List.replicate (2 - (lg_sl ([.ref o, .int w])).length) Slot.unset).toArray = ls at hl ⊢
  replace hl : lv_has ls 2 [(0, .ref o), (1, .int w)] := hl
  obtain ⟨b0, b1, b2⟩ := hI.bd
  have hst := hI.sets
  refine lv_iload_n hx hb dX0_count_0 rfl (lv_at hl 1 rfl) ?_
  by_cases e_0 : w = nI 0
  ·
    subst e_0
    refine lv_tableIn (off := 39) (tgt := 40) hx hb dX0_count_1 (by decide) (by decide) (by decide) (by decide) ?_
    refine lv_aload_n hx hb dX0_count_40 rfl (lv_at hl 0 rfl) ?_
    refine c_g0 hx hb hts hown hK hP dX0_count_41 ?_
    refine W.iret (v := (nI (Z 0 0))) hx hb hr (fun t9 ht9 hW9 => ⟨_, rfl, ?_, ht9⟩) (fun q h => by cases h) dX0_count_44
    rfl
  by_cases e_1 : w = nI 1
  ·
    subst e_1
    refine lv_tableIn (off := 44) (tgt := 45) hx hb dX0_count_1 (by decide) (by decide) (by decide) (by decide) ?_
    refine lv_aload_n hx hb dX0_count_45 rfl (lv_at hl 0 rfl) ?_
    refine c_g1 hx hb hts hown hK hP dX0_count_46 ?_
    refine W.iret (v := (nI (Z 0 1))) hx hb hr (fun t9 ht9 hW9 => ⟨_, rfl, ?_, ht9⟩) (fun q h => by cases h) dX0_count_49
    rfl
  by_cases e_2 : w = nI 2
  ·
    subst e_2
    refine lv_tableIn (off := 49) (tgt := 50) hx hb dX0_count_1 (by decide) (by decide) (by decide) (by decide) ?_
    refine lv_aload_n hx hb dX0_count_50 rfl (lv_at hl 0 rfl) ?_
    refine c_g2 hx hb hts hown hK hP dX0_count_51 ?_
    refine W.iret (v := (nI (Z 0 2))) hx hb hr (fun t9 ht9 hW9 => ⟨_, rfl, ?_, ht9⟩) (fun q h => by cases h) dX0_count_54
    rfl
  by_cases e_3 : w = nI 3
  ·
    subst e_3
    refine lv_tableIn (off := 54) (tgt := 55) hx hb dX0_count_1 (by decide) (by decide) (by decide) (by decide) ?_
    refine lv_aload_n hx hb dX0_count_55 rfl (lv_at hl 0 rfl) ?_
    refine r_Vi (As := []) (rest := []) fx (ct_X0_countAnswers l dC dI cy o a Z X hI) fyX0_countAnswers tM_RX0_200 rfl rfl ⟨Nat.le_of_ble_eq_true rfl, Nat.le_of_ble_eq_true rfl⟩ (c_pre hK hP) rfl hl.1 rfl (Nat.le_of_ble_eq_true rfl) dX0_count_56 ⟨Nat.le_of_ble_eq_true rfl, Nat.le_of_ble_eq_true rfl⟩ (fun r_56 hr_56 => ?_)
    subst hr_56
    refine W.iret (v := (nI (cntA Z))) hx hb hr (fun t9 ht9 hW9 => ⟨_, rfl, ?_, ht9⟩) (fun q h => by cases h) dX0_count_59
    rfl
  by_cases e_4 : w = nI 4
  ·
    subst e_4
    refine lv_tableIn (off := 59) (tgt := 60) hx hb dX0_count_1 (by decide) (by decide) (by decide) (by decide) ?_
    refine lv_aload_n hx hb dX0_count_60 rfl (lv_at hl 0 rfl) ?_
    refine c_g3 hx hb hts hown hK hP dX0_count_61 ?_
    refine r_Si (As := [.int (nI (Z 0 3))]) (rest := []) fx (ct_J6_bitCount_0f7a4 l (Z 0 3) (by first | assumption | omega)) fyJ6_bitCount_0f7a4 tM_RX0_149 rfl rfl ⟨Nat.le_of_ble_eq_true rfl, Nat.le_of_ble_eq_true rfl⟩ rfl hl.1 rfl (Nat.le_of_ble_eq_true rfl) dX0_count_64 ⟨Nat.le_of_ble_eq_true rfl, Nat.le_of_ble_eq_true rfl⟩ (fun r_64 hr_64 => ?_)
    subst hr_64
    refine W.iret (v := (nI (fb_ct (fun i => (Z 0 3).testBit i) 32))) hx hb hr (fun t9 ht9 hW9 => ⟨_, rfl, ?_, ht9⟩) (fun q h => by cases h) dX0_count_67
    rw [strN_32 hI]; rfl
  by_cases e_5 : w = nI 5
  ·
    subst e_5
    refine lv_tableIn (off := 67) (tgt := 68) hx hb dX0_count_1 (by decide) (by decide) (by decide) (by decide) ?_
    refine lv_aload_n hx hb dX0_count_68 rfl (lv_at hl 0 rfl) ?_
    refine r_Vi (As := []) (rest := []) fx (ct_X0_countPassing l dC dI cy o a Z X hI) fyX0_countPassing tM_RX0_203 rfl rfl ⟨Nat.le_of_ble_eq_true rfl, Nat.le_of_ble_eq_true rfl⟩ (c_pre hK hP) rfl hl.1 rfl (Nat.le_of_ble_eq_true rfl) dX0_count_69 ⟨Nat.le_of_ble_eq_true rfl, Nat.le_of_ble_eq_true rfl⟩ (fun r_69 hr_69 => ?_)
    subst hr_69
    refine W.iret (v := (nI (cntP Z))) hx hb hr (fun t9 ht9 hW9 => ⟨_, rfl, ?_, ht9⟩) (fun q h => by cases h) dX0_count_72
    rfl
  have e_out := tab_out (n := 5) (by decide) (fun k hk => by rcases (show k = 0 ∨ k = 1 ∨ k = 2 ∨ k = 3 ∨ k = 4 ∨ k = 5 by omega) with e | e | e | e | e | e <;> subst e <;> assumption)
  refine lv_tableOut (tgt := 73) hx hb dX0_count_1 e_out (by decide) ?_
  refine lv_iconst (v := -1) hx hb dX0_count_73 (by decide) ?_
  refine W.iret (v := (-1)) hx hb hr (fun t9 ht9 hW9 => ⟨_, rfl, ?_, ht9⟩) (fun q h => by cases h) dX0_count_74
  rw [fCnt, if_neg (show ¬ w = 0 from e_0), if_neg (show ¬ w = 1 from e_1), if_neg (show ¬ w = 2 from e_2), if_neg (show ¬ w = 3 from e_3), if_neg (show ¬ w = 4 from e_4), if_neg (show ¬ w = 5 from e_5)]

set_option maxHeartbeats 4000000 in
set_option maxRecDepth 100000 in
theorem ct_X0_sharp (l : Launch) (dC : Nat → ClassId) (dI : Nat → Nat → Nat) (cy : ClassId) (o : Nat) (a : Nat → Nat) (Z X : Nat → Nat → Nat) (q : Int32) (hI : Inv Z) : Met l yX0_sharp (wS yX0_sharp cX0_sharp 17 (Option.some Jvm.ClassFile.FieldType.long)) (rmF 4 91) (va_Pc [.ref o, .int q] (cR dC dI cy o a Z X)) (vp_Sl (fun r => r = fShp Z q)) 0 0 (fun _ => False) := by
  refine Met.ofW (cc := cX0_sharp) (maxL := 17) (ret := (Option.some Jvm.ClassFile.FieldType.long)) (by decide) rfl ?_
  intro pg en sv mi ag bw mt cd s₁ BL hml hv
  obtain ⟨rfl, hP, hK⟩ := hv
  have hx := BL.exec
  have hb := BL.bytes
  have hr := BL.returns
  have hts : ∀ w ∈ lw_ok, w.before _ sv = true := fun w hw => atoms_spec (ws := wS yX0_sharp cX0_sharp 17 (Option.some Jvm.ClassFile.FieldType.long)) BL.pre w (List.mem_cons_of_mem _ hw)
  have hown : sv.vm.findClass RX0 = some mi.cls := findClass_of_methodNamed BL.named
  have hlocks := BL.notSynchronized
  have fx : CallFix pg mi cd cX0_sharp 17 sv _ lw_ok RX0 := ⟨hx, hb, hml, hown, hts⟩
  have hl := lv_entry ([.ref o, .int q]) (n := 17) (Nat.le_of_ble_eq_true rfl)
  rw [lg_entry_eq]
  generalize (lg_sl ([.ref o, .int q]) ++ List.replicate (17 - (lg_sl ([.ref o, .int q])).length) Slot.unset).toArray = ls at hl ⊢
  replace hl : lv_has ls 17 [(0, .ref o), (1, .int q)] := hl
  obtain ⟨b0, b1, b2⟩ := hI.bd
  have hcs := cset_lt hI
  refine lv_aload_n hx hb dX0_sharp_0 rfl (lv_at hl 0 rfl) ?_
  refine lv_iload_n hx hb dX0_sharp_1 rfl (lv_at hl 1 rfl) ?_
  refine r_Vi (As := [.int q]) (rest := []) fx (ct_X0_isQuestion l dC dI cy o a Z X q hI) fyX0_isQuestion tM_RX0_68 rfl rfl ⟨Nat.le_of_ble_eq_true rfl, Nat.le_of_ble_eq_true rfl⟩ (c_pre hK hP) rfl hl.1 rfl (Nat.le_of_ble_eq_true rfl) dX0_sharp_2 ⟨Nat.le_of_ble_eq_true rfl, Nat.le_of_ble_eq_true rfl⟩ (fun r_2 hr_2 => ?_)
  rcases hr_2 with ⟨rfl, hr_2⟩ | ⟨rfl, hr_2⟩
  ·
    refine x_if_ne_F (tgt := 12) hx hb (by decide) dX0_sharp_5 (by decide) ?_
    refine lv_ldc2 (v := -9223372036854775808) hx hb hown (hts _ (ok_of tJ_RX0_127 rfl)) dX0_sharp_8 ?_
    refine W.lret (v := ((-9223372036854775808))) hx hb hr (fun t9 ht9 hW9 => ⟨_, rfl, ?_, ht9⟩) (fun q h => by cases h) dX0_sharp_11
    rw [fShp, if_neg hr_2]
  ·
    have i_q := hr_2
    obtain ⟨q1, -, h_q1, rfl⟩ := inR_of i_q
    have t_q : tn (nI q1) = q1 := tn_nI (by omega)
    have hqq := hI.q h_q1
    have hss : cset Z &&& (2 ^ q1 ^^^ 4294967295) < 2 ^ 32 := Nat.lt_of_le_of_lt Nat.and_le_left hcs
    refine x_if_ne_T (tgt := 12) hx hb (by decide) dX0_sharp_5 (by decide) ?_
    refine lv_aload_n hx hb dX0_sharp_12 rfl (lv_at hl 0 rfl) ?_
    refine r_Vi (As := []) (rest := []) fx (ct_X0_countingSet l dC dI cy o a Z X ) fyX0_countingSet tM_RX0_117 rfl rfl ⟨Nat.le_of_ble_eq_true rfl, Nat.le_of_ble_eq_true rfl⟩ (c_pre hK hP) rfl hl.1 rfl (Nat.le_of_ble_eq_true rfl) dX0_sharp_13 ⟨Nat.le_of_ble_eq_true rfl, Nat.le_of_ble_eq_true rfl⟩ (fun r_13 hr_13 => ?_)
    subst hr_13
    refine lv_iconst (v := nI 1) hx hb dX0_sharp_16 (by decide) ?_
    refine lv_iload_n hx hb dX0_sharp_17 rfl (lv_at hl 1 rfl) ?_
    refine x_ishl1 hx hb (by omega) dX0_sharp_18 ?_
    refine lv_iconst (v := -1) hx hb dX0_sharp_19 (by decide) ?_
    refine x_ixorm hx hb dX0_sharp_20 ?_
    refine x_iand hx hb dX0_sharp_21 ?_
    refine lv_istore_n (lv' := [(2, .int (nI ((cset Z) &&& ((2 ^ q1) ^^^ 4294967295)))), (0, .ref o), (1, .int (nI q1))]) hx hb dX0_sharp_22 rfl hl (by decide) rfl (fun ls hl => ?_)
    refine lv_lconst (v := lN 0) hx hb dX0_sharp_23 (by decide) ?_
    refine lv_lstore_n (lv' := [(3, .long (lN 0)), (2, .int (nI ((cset Z) &&& ((2 ^ q1) ^^^ 4294967295)))), (0, .ref o), (1, .int (nI q1))]) hx hb dX0_sharp_24 rfl hl (by decide) rfl (fun ls hl => ?_)
    refine lv_lconst (v := lN 0) hx hb dX0_sharp_25 (by decide) ?_
    refine lv_lstore (lv' := [(5, .long (lN 0)), (3, .long (lN 0)), (2, .int (nI ((cset Z) &&& ((2 ^ q1) ^^^ 4294967295)))), (0, .ref o), (1, .int (nI q1))]) hx hb dX0_sharp_26 hl (by decide) rfl (fun ls hl => ?_)
    refine lv_lconst (v := lN 0) hx hb dX0_sharp_28 (by decide) ?_
    refine lv_lstore (lv' := [(7, .long (lN 0)), (5, .long (lN 0)), (3, .long (lN 0)), (2, .int (nI ((cset Z) &&& ((2 ^ q1) ^^^ 4294967295)))), (0, .ref o), (1, .int (nI q1))]) hx hb dX0_sharp_29 hl (by decide) rfl (fun ls hl => ?_)
    refine lv_lconst (v := lN 0) hx hb dX0_sharp_31 (by decide) ?_
    refine lv_lstore (lv' := [(9, .long (lN 0)), (7, .long (lN 0)), (5, .long (lN 0)), (3, .long (lN 0)), (2, .int (nI ((cset Z) &&& ((2 ^ q1) ^^^ 4294967295)))), (0, .ref o), (1, .int (nI q1))]) hx hb dX0_sharp_32 hl (by decide) rfl (fun ls hl => ?_)
    refine lv_iconst (v := nI 0) hx hb dX0_sharp_34 (by decide) ?_
    refine lv_istore (lv' := [(11, .int (nI 0)), (9, .long (lN 0)), (7, .long (lN 0)), (5, .long (lN 0)), (3, .long (lN 0)), (2, .int (nI ((cset Z) &&& ((2 ^ q1) ^^^ 4294967295)))), (0, .ref o), (1, .int (nI q1))]) hx hb dX0_sharp_35 hl (by decide) rfl (fun ls hl => ?_)
    obtain ⟨j, ej⟩ : ∃ j : Nat, j = 0 := ⟨_, rfl⟩
    obtain ⟨n, en⟩ : ∃ n : Nat, n = 0 := ⟨_, rfl⟩
    obtain ⟨t, et⟩ : ∃ t : Nat, t = 0 := ⟨_, rfl⟩
    obtain ⟨rs, ers⟩ : ∃ rs : Nat, rs = 0 := ⟨_, rfl⟩
    obtain ⟨ps, eps⟩ : ∃ ps : Nat, ps = 0 := ⟨_, rfl⟩
    replace hl : lv_has ls 17 [(11, .int (nI j)), (9, .long (lN ps)), (7, .long (lN rs)), (5, .long (lN t)), (3, .long (lN n)), (2, .int (nI ((cset Z) &&& ((2 ^ q1) ^^^ 4294967295)))), (0, .ref o), (1, .int (nI q1))] := by subst ej en et ers eps; exact lv_sub hl [0, 1, 2, 3, 4, 5, 6, 7] rfl
    have hj : j ≤ Z 0 2 := by subst ej en et ers eps; omega
    have hn : n = fb_ct (cqB Z q1) j := by subst ej en et ers eps; rfl
    have hm : t = fb_sm (fun u => if cqB Z q1 u then mkq Z q1 u else 0) j := by subst ej en et ers eps; rfl
    have hr1 : rs = fb_sm (fun u => if cqB Z q1 u then rst Z q1 u else 0) j := by subst ej en et ers eps; rfl
    have hp1 : ps = fb_sm (fun u => if cqB Z q1 u then mkq Z q1 u * rst Z q1 u else 0) j := by subst ej en et ers eps; rfl
    clear ej en et ers eps
    obtain ⟨n37, hn37⟩ : ∃ n_0 : Nat, Z 0 2 - j < n_0 := ⟨_, Nat.lt_succ_self _⟩
    induction n37 generalizing j n t rs ps ls with
    | zero => exact absurd hn37 (Nat.not_lt_zero _)
    | succ n37 ih37 =>
      refine lv_iload hx hb dX0_sharp_37 (lv_at hl 0 rfl) ?_
      refine lv_aload_n hx hb dX0_sharp_39 rfl (lv_at hl 6 rfl) ?_
      refine c_g2 hx hb hts hown hK hP dX0_sharp_40 ?_
      refine x_icmp_ge (x := j) (y := Z 0 2) (tgt := 116) hx hb (by omega) (by omega) dX0_sharp_43 (by decide) (fun c_43 => ?_) (fun c_43 => ?_)
      ·
        refine lv_lload_n hx hb dX0_sharp_116 rfl (lv_at hl 4 rfl) ?_
        refine lv_lload hx hb dX0_sharp_117 (lv_at hl 1 rfl) ?_
        refine x_lmul hx hb dX0_sharp_119 ?_
        refine lv_lload hx hb dX0_sharp_120 (lv_at hl 3 rfl) ?_
        refine lv_lload hx hb dX0_sharp_122 (lv_at hl 2 rfl) ?_
        refine x_lmul hx hb dX0_sharp_124 ?_
        refine lv_lsub hx hb dX0_sharp_125 ?_
        refine W.lret (v := ((lN (n * ps)) - (lN (t * rs)))) hx hb hr (fun t9 ht9 hW9 => ⟨_, rfl, ?_, ht9⟩) (fun q h => by cases h) dX0_sharp_126
        obtain rfl : j = Z 0 2 := by omega
        rw [fShp, if_pos i_q, t_q, hn, hm, hr1, hp1]
        rfl
      ·
        have hpu := hI.pu (u := j) (by omega)
        have hsz := hI.sz (p := Z 11 j) (by omega)
        refine lv_aload_n hx hb dX0_sharp_46 rfl (lv_at hl 6 rfl) ?_
        refine lv_iload hx hb dX0_sharp_47 (lv_at hl 0 rfl) ?_
        refine lv_iload_n hx hb dX0_sharp_49 rfl (lv_at hl 7 rfl) ?_
        refine r_Vi (As := [.int (nI j), .int (nI q1)]) (rest := []) fx (ct_X0_spotComeTo l dC dI cy o a Z X j q1 hI (by first | assumption | omega) (by first | assumption | omega)) fyX0_spotComeTo tM_RX0_129 rfl rfl ⟨Nat.le_of_ble_eq_true rfl, Nat.le_of_ble_eq_true rfl⟩ (c_pre hK hP) rfl hl.1 rfl (Nat.le_of_ble_eq_true rfl) dX0_sharp_50 ⟨Nat.le_of_ble_eq_true rfl, Nat.le_of_ble_eq_true rfl⟩ (fun r_50 hr_50 => ?_)
        rcases hr_50 with ⟨rfl, hs_50⟩ | ⟨i_50, hi_50, hs_50, hq_50, hc_50, rfl⟩
        ·
          refine lv_istore (lv' := [(12, .int (-1)), (11, .int (nI j)), (9, .long (lN ps)), (7, .long (lN rs)), (5, .long (lN t)), (3, .long (lN n)), (2, .int (nI ((cset Z) &&& ((2 ^ q1) ^^^ 4294967295)))), (0, .ref o), (1, .int (nI q1))]) hx hb dX0_sharp_53 hl (by decide) rfl (fun ls hl => ?_)
          refine lv_iload hx hb dX0_sharp_55 (lv_at hl 0 rfl) ?_
          refine lv_iconst (v := -1) hx hb dX0_sharp_57 (by decide) ?_
          refine x_icmp_eq_T (tgt := 110) hx hb (by decide) dX0_sharp_58 (by decide) ?_
          refine lv_iinc (v := nI (j + 1)) (lv' := [(11, .int (nI (j + 1))), (12, .int (-1)), (9, .long (lN ps)), (7, .long (lN rs)), (5, .long (lN t)), (3, .long (lN n)), (2, .int (nI ((cset Z) &&& ((2 ^ q1) ^^^ 4294967295)))), (0, .ref o), (1, .int (nI q1))]) hx hb dX0_sharp_110 hl (k := 1) rfl (x_inc1 _) (by decide) rfl (fun ls hl => ?_)
          refine lv_goto (tgt := 37) hx hb dX0_sharp_113 (by decide) ?_
          exact ih37 ls (j + 1) n t rs ps (lv_sub hl [0, 2, 3, 4, 5, 6, 7, 8] rfl) (by omega) (by rw [fb_ct_succ, ← hn]; first | (rw [cqB_t hcq]; rfl) | (rw [cqB_f hs_50]; rfl)) (by rw [fb_sm_succ, ← hm]; first | (rw [cqB_t hcq]; rfl) | (rw [cqB_f hs_50]; rfl)) (by rw [fb_sm_succ, ← hr1]; first | (rw [cqB_t hcq]; rfl) | (rw [cqB_f hs_50]; rfl)) (by rw [fb_sm_succ, ← hp1]; first | (rw [cqB_t hcq]; rfl) | (rw [cqB_f hs_50]; rfl)) (by omega)
        ·
          have hcq : cqP Z q1 j := ⟨by omega, by rw [hs_50]; exact hc_50⟩
          have hmk := mrk_le hI (u := j) (i := i_50) (by omega) hi_50
          have hme : mkq Z q1 j = mrk Z j i_50 := by rw [mkq, hs_50]
          have hrl := rst_le hI (q := q1) (u := j) (by omega)
          refine lv_istore (lv' := [(12, .int (nI i_50)), (11, .int (nI j)), (9, .long (lN ps)), (7, .long (lN rs)), (5, .long (lN t)), (3, .long (lN n)), (2, .int (nI ((cset Z) &&& ((2 ^ q1) ^^^ 4294967295)))), (0, .ref o), (1, .int (nI q1))]) hx hb dX0_sharp_53 hl (by decide) rfl (fun ls hl => ?_)
          refine lv_iload hx hb dX0_sharp_55 (lv_at hl 0 rfl) ?_
          refine lv_iconst (v := -1) hx hb dX0_sharp_57 (by decide) ?_
          refine x_icmp_eq_F (tgt := 110) hx hb (nI_ne_m1 (by omega)) dX0_sharp_58 (by decide) ?_
          refine lv_aload_n hx hb dX0_sharp_61 rfl (lv_at hl 7 rfl) ?_
          refine lv_iload hx hb dX0_sharp_62 (lv_at hl 1 rfl) ?_
          refine lv_iload hx hb dX0_sharp_64 (lv_at hl 0 rfl) ?_
          refine r_Vi (As := [.int (nI j), .int (nI i_50)]) (rest := []) fx (ct_X0_markAt l dC dI cy o a Z X j i_50 hI (by first | assumption | omega) (by first | assumption | omega)) fyX0_markAt tM_RX0_111 rfl rfl ⟨Nat.le_of_ble_eq_true rfl, Nat.le_of_ble_eq_true rfl⟩ (c_pre hK hP) rfl hl.1 rfl (Nat.le_of_ble_eq_true rfl) dX0_sharp_66 ⟨Nat.le_of_ble_eq_true rfl, Nat.le_of_ble_eq_true rfl⟩ (fun r_66 hr_66 => ?_)
          subst hr_66
          rw [← hme]
          have hmk2 : mkq Z q1 j ≤ 10 := by omega
          refine lv_i2l (v := lN (mkq Z q1 j)) hx hb dX0_sharp_69 (nI_l (by omega)) ?_
          refine lv_lstore (lv' := [(13, .long (lN (mkq Z q1 j))), (12, .int (nI i_50)), (11, .int (nI j)), (9, .long (lN ps)), (7, .long (lN rs)), (5, .long (lN t)), (3, .long (lN n)), (2, .int (nI ((cset Z) &&& ((2 ^ q1) ^^^ 4294967295)))), (0, .ref o), (1, .int (nI q1))]) hx hb dX0_sharp_70 hl (by decide) rfl (fun ls hl => ?_)
          refine lv_aload_n hx hb dX0_sharp_72 rfl (lv_at hl 8 rfl) ?_
          refine lv_iload hx hb dX0_sharp_73 (lv_at hl 2 rfl) ?_
          refine lv_iload_n hx hb dX0_sharp_75 rfl (lv_at hl 7 rfl) ?_
          refine r_Vi (As := [.int (nI j), .int (nI ((cset Z) &&& ((2 ^ q1) ^^^ 4294967295)))]) (rest := []) fx (ct_X0_sumOver l dC dI cy o a Z X j ((cset Z) &&& ((2 ^ q1) ^^^ 4294967295)) hI (by first | assumption | omega) (by first | assumption | omega)) fyX0_sumOver tM_RX0_121 rfl rfl ⟨Nat.le_of_ble_eq_true rfl, Nat.le_of_ble_eq_true rfl⟩ (c_pre hK hP) rfl hl.1 rfl (Nat.le_of_ble_eq_true rfl) dX0_sharp_76 ⟨Nat.le_of_ble_eq_true rfl, Nat.le_of_ble_eq_true rfl⟩ (fun r_76 hr_76 => ?_)
          subst hr_76
          rw [rst_c hI (show j < Z 0 2 by omega) (show q1 < 30 by omega)]
          refine lv_i2l (v := lN (rst Z q1 j)) hx hb dX0_sharp_79 (nI_l (by omega)) ?_
          refine lv_lstore (lv' := [(15, .long (lN (rst Z q1 j))), (13, .long (lN (mkq Z q1 j))), (12, .int (nI i_50)), (11, .int (nI j)), (9, .long (lN ps)), (7, .long (lN rs)), (5, .long (lN t)), (3, .long (lN n)), (2, .int (nI ((cset Z) &&& ((2 ^ q1) ^^^ 4294967295)))), (0, .ref o), (1, .int (nI q1))]) hx hb dX0_sharp_80 hl (by decide) rfl (fun ls hl => ?_)
          refine lv_lload_n hx hb dX0_sharp_82 rfl (lv_at hl 7 rfl) ?_
          refine lv_lconst (v := lN 1) hx hb dX0_sharp_83 (by decide) ?_
          refine x_ladd hx hb dX0_sharp_84 ?_
          refine lv_lstore_n (lv' := [(3, .long (lN (n + 1))), (15, .long (lN (rst Z q1 j))), (13, .long (lN (mkq Z q1 j))), (12, .int (nI i_50)), (11, .int (nI j)), (9, .long (lN ps)), (7, .long (lN rs)), (5, .long (lN t)), (2, .int (nI ((cset Z) &&& ((2 ^ q1) ^^^ 4294967295)))), (0, .ref o), (1, .int (nI q1))]) hx hb dX0_sharp_85 rfl hl (by decide) rfl (fun ls hl => ?_)
          refine lv_lload hx hb dX0_sharp_86 (lv_at hl 7 rfl) ?_
          refine lv_lload hx hb dX0_sharp_88 (lv_at hl 2 rfl) ?_
          refine x_ladd hx hb dX0_sharp_90 ?_
          refine lv_lstore (lv' := [(5, .long (lN (t + (mkq Z q1 j)))), (3, .long (lN (n + 1))), (15, .long (lN (rst Z q1 j))), (13, .long (lN (mkq Z q1 j))), (12, .int (nI i_50)), (11, .int (nI j)), (9, .long (lN ps)), (7, .long (lN rs)), (2, .int (nI ((cset Z) &&& ((2 ^ q1) ^^^ 4294967295)))), (0, .ref o), (1, .int (nI q1))]) hx hb dX0_sharp_91 hl (by decide) rfl (fun ls hl => ?_)
          refine lv_lload hx hb dX0_sharp_93 (lv_at hl 7 rfl) ?_
          refine lv_lload hx hb dX0_sharp_95 (lv_at hl 2 rfl) ?_
          refine x_ladd hx hb dX0_sharp_97 ?_
          refine lv_lstore (lv' := [(7, .long (lN (rs + (rst Z q1 j)))), (5, .long (lN (t + (mkq Z q1 j)))), (3, .long (lN (n + 1))), (15, .long (lN (rst Z q1 j))), (13, .long (lN (mkq Z q1 j))), (12, .int (nI i_50)), (11, .int (nI j)), (9, .long (lN ps)), (2, .int (nI ((cset Z) &&& ((2 ^ q1) ^^^ 4294967295)))), (0, .ref o), (1, .int (nI q1))]) hx hb dX0_sharp_98 hl (by decide) rfl (fun ls hl => ?_)
          refine lv_lload hx hb dX0_sharp_100 (lv_at hl 7 rfl) ?_
          refine lv_lload hx hb dX0_sharp_102 (lv_at hl 4 rfl) ?_
          refine lv_lload hx hb dX0_sharp_104 (lv_at hl 3 rfl) ?_
          refine x_lmul hx hb dX0_sharp_106 ?_
          refine x_ladd hx hb dX0_sharp_107 ?_
          refine lv_lstore (lv' := [(9, .long (lN (ps + ((mkq Z q1 j) * (rst Z q1 j))))), (7, .long (lN (rs + (rst Z q1 j)))), (5, .long (lN (t + (mkq Z q1 j)))), (3, .long (lN (n + 1))), (15, .long (lN (rst Z q1 j))), (13, .long (lN (mkq Z q1 j))), (12, .int (nI i_50)), (11, .int (nI j)), (2, .int (nI ((cset Z) &&& ((2 ^ q1) ^^^ 4294967295)))), (0, .ref o), (1, .int (nI q1))]) hx hb dX0_sharp_108 hl (by decide) rfl (fun ls hl => ?_)
          refine lv_iinc (v := nI (j + 1)) (lv' := [(11, .int (nI (j + 1))), (9, .long (lN (ps + ((mkq Z q1 j) * (rst Z q1 j))))), (7, .long (lN (rs + (rst Z q1 j)))), (5, .long (lN (t + (mkq Z q1 j)))), (3, .long (lN (n + 1))), (15, .long (lN (rst Z q1 j))), (13, .long (lN (mkq Z q1 j))), (12, .int (nI i_50)), (2, .int (nI ((cset Z) &&& ((2 ^ q1) ^^^ 4294967295)))), (0, .ref o), (1, .int (nI q1))]) hx hb dX0_sharp_110 hl (k := 7) rfl (x_inc1 _) (by decide) rfl (fun ls hl => ?_)
          refine lv_goto (tgt := 37) hx hb dX0_sharp_113 (by decide) ?_
          exact ih37 ls (j + 1) (n + 1) (t + (mkq Z q1 j)) (rs + (rst Z q1 j)) (ps + ((mkq Z q1 j) * (rst Z q1 j))) (lv_sub hl [0, 1, 2, 3, 4, 8, 9, 10] rfl) (by omega) (by rw [fb_ct_succ, ← hn]; first | (rw [cqB_t hcq]; rfl) | (rw [cqB_f hs_50]; rfl)) (by rw [fb_sm_succ, ← hm]; first | (rw [cqB_t hcq]; rfl) | (rw [cqB_f hs_50]; rfl)) (by rw [fb_sm_succ, ← hr1]; first | (rw [cqB_t hcq]; rfl) | (rw [cqB_f hs_50]; rfl)) (by rw [fb_sm_succ, ← hp1]; first | (rw [cqB_t hcq]; rfl) | (rw [cqB_f hs_50]; rfl)) (by omega)
