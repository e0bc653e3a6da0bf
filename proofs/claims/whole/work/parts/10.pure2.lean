theorem nI_eq0 {x : Nat} (h : x < 2 ^ 31) : nI x = 0 ↔ x = 0 := by rw [← nI_0]; exact nI_eq h (by decide)
theorem nI_le0 {x : Nat} (h : x < 2 ^ 31) : nI x ≤ 0 ↔ x = 0 := by rw [← nI_0, nI_leI h (by decide)]; omega
theorem lN_ne0 {n : Nat} (h0 : 0 < n) (h : n < 2 ^ 63) : ¬ lN n = 0 := fun e => by
  have := (pk_lEQ (b := 0) h (by decide)).mp e
  omega
section LONGS
variable {p : Program} {l : Launch} {e : Env} {R : Room} {s : State} {m : MethodId} {args : Array Value} {below : List Frame} {meth : Method} {c : Code} {H : Heap} {locs : List Loc} {cells slots : Nat} {Q : State → Prop}
variable {cc : ByteArray} {pc : Nat} {ls : Array Slot} {rest : List Value}
theorem x_ladd (hx : p.tables.exec = Jvm.exec) (hb : c.code = cc) {x y : Nat} (hdg : decode cc pc = .ok (.ladd, 1)) (k : W p l e R s m args below meth c H locs cells slots Q (F0 m (pc + 1) ls (.long (lN (x + y)) :: rest))) : W p l e R s m args below meth c H locs cells slots Q (F0 m pc ls (.long (lN y) :: .long (lN x) :: rest)) := lv_ladd hx hb hdg (by rw [lN_add]; exact k)
theorem x_lmul (hx : p.tables.exec = Jvm.exec) (hb : c.code = cc) {x y : Nat} (hdg : decode cc pc = .ok (.lmul, 1)) (k : W p l e R s m args below meth c H locs cells slots Q (F0 m (pc + 1) ls (.long (lN (x * y)) :: rest))) : W p l e R s m args below meth c H locs cells slots Q (F0 m pc ls (.long (lN y) :: .long (lN x) :: rest)) := lv_lmul hx hb hdg (by rw [lN_mul]; exact k)
theorem x_leq (hx : p.tables.exec = Jvm.exec) (hb : c.code = cc) {x y : Int64} {off : Int} {tgt : Nat} (h1 : decode cc pc = .ok (.lcmp, 1)) (h2 : decode cc (pc + 1) = .ok (.ifCond .eq off, 3)) (ht : ((pc + 1 : Nat) : Int) + off = (tgt : Int)) (kt : x = y → W p l e R s m args below meth c H locs cells slots Q (F0 m tgt ls rest)) (kf : ¬ x = y → W p l e R s m args below meth c H locs cells slots Q (F0 m (pc + 1 + 3) ls rest)) : W p l e R s m args below meth c H locs cells slots Q (F0 m pc ls (.long y :: .long x :: rest)) :=
  W.lcmp hx hb h1 (lv_if_eq hx hb h2 ht (fun h => kt ((lg_cmp_eq x y).mp h)) (fun h => kf (fun q => h ((lg_cmp_eq x y).mpr q))))
theorem x_lne (hx : p.tables.exec = Jvm.exec) (hb : c.code = cc) {x y : Int64} {off : Int} {tgt : Nat} (h1 : decode cc pc = .ok (.lcmp, 1)) (h2 : decode cc (pc + 1) = .ok (.ifCond .ne off, 3)) (ht : ((pc + 1 : Nat) : Int) + off = (tgt : Int)) (kt : ¬ x = y → W p l e R s m args below meth c H locs cells slots Q (F0 m tgt ls rest)) (kf : x = y → W p l e R s m args below meth c H locs cells slots Q (F0 m (pc + 1 + 3) ls rest)) : W p l e R s m args below meth c H locs cells slots Q (F0 m pc ls (.long y :: .long x :: rest)) :=
  W.lcmp hx hb h1 (lv_if_ne hx hb h2 ht (fun h => kt (fun q => h ((lg_cmp_eq x y).mpr q))) (fun h => kf ((lg_cmp_eq x y).mp h)))
theorem x_lle (hx : p.tables.exec = Jvm.exec) (hb : c.code = cc) {x y : Int64} {off : Int} {tgt : Nat} (h1 : decode cc pc = .ok (.lcmp, 1)) (h2 : decode cc (pc + 1) = .ok (.ifCond .le off, 3)) (ht : ((pc + 1 : Nat) : Int) + off = (tgt : Int)) (kt : x ≤ y → W p l e R s m args below meth c H locs cells slots Q (F0 m tgt ls rest)) (kf : ¬ x ≤ y → W p l e R s m args below meth c H locs cells slots Q (F0 m (pc + 1 + 3) ls rest)) : W p l e R s m args below meth c H locs cells slots Q (F0 m pc ls (.long y :: .long x :: rest)) :=
  W.lcmp hx hb h1 (lv_if_le hx hb h2 ht (fun h => kt ((lg_cmp_le x y).mp h)) (fun h => kf (fun q => h ((lg_cmp_le x y).mpr q))))
theorem x_llt (hx : p.tables.exec = Jvm.exec) (hb : c.code = cc) {x y : Int64} {off : Int} {tgt : Nat} (h1 : decode cc pc = .ok (.lcmp, 1)) (h2 : decode cc (pc + 1) = .ok (.ifCond .lt off, 3)) (ht : ((pc + 1 : Nat) : Int) + off = (tgt : Int)) (kt : x < y → W p l e R s m args below meth c H locs cells slots Q (F0 m tgt ls rest)) (kf : ¬ x < y → W p l e R s m args below meth c H locs cells slots Q (F0 m (pc + 1 + 3) ls rest)) : W p l e R s m args below meth c H locs cells slots Q (F0 m pc ls (.long y :: .long x :: rest)) :=
  W.lcmp hx hb h1 (lv_if_lt hx hb h2 ht (fun h => kt ((lg_cmp_lt x y).mp h)) (fun h => kf (fun q => h ((lg_cmp_lt x y).mpr q))))
theorem x_lge (hx : p.tables.exec = Jvm.exec) (hb : c.code = cc) {x y : Int64} {off : Int} {tgt : Nat} (h1 : decode cc pc = .ok (.lcmp, 1)) (h2 : decode cc (pc + 1) = .ok (.ifCond .ge off, 3)) (ht : ((pc + 1 : Nat) : Int) + off = (tgt : Int)) (kt : y ≤ x → W p l e R s m args below meth c H locs cells slots Q (F0 m tgt ls rest)) (kf : ¬ y ≤ x → W p l e R s m args below meth c H locs cells slots Q (F0 m (pc + 1 + 3) ls rest)) : W p l e R s m args below meth c H locs cells slots Q (F0 m pc ls (.long y :: .long x :: rest)) :=
  W.lcmp hx hb h1 (lv_if_ge hx hb h2 ht (fun h => kt ((lg_cmp_ge x y).mp h)) (fun h => kf (fun q => h ((lg_cmp_ge x y).mpr q))))
theorem x_lgt (hx : p.tables.exec = Jvm.exec) (hb : c.code = cc) {x y : Int64} {off : Int} {tgt : Nat} (h1 : decode cc pc = .ok (.lcmp, 1)) (h2 : decode cc (pc + 1) = .ok (.ifCond .gt off, 3)) (ht : ((pc + 1 : Nat) : Int) + off = (tgt : Int)) (kt : y < x → W p l e R s m args below meth c H locs cells slots Q (F0 m tgt ls rest)) (kf : ¬ y < x → W p l e R s m args below meth c H locs cells slots Q (F0 m (pc + 1 + 3) ls rest)) : W p l e R s m args below meth c H locs cells slots Q (F0 m pc ls (.long y :: .long x :: rest)) :=
  W.lcmp hx hb h1 (lv_if_gt hx hb h2 ht (fun h => kt ((lg_cmp_gt x y).mp h)) (fun h => kf (fun q => h ((lg_cmp_gt x y).mpr q))))
theorem x_ifn_eq (hx : p.tables.exec = Jvm.exec) (hb : c.code = cc) {x : Nat} (h1 : x < 2 ^ 31) {off : Int} {tgt : Nat} (hdg : decode cc pc = .ok (.ifCond .eq off, 3)) (ht : (pc : Int) + off = (tgt : Int)) (kt : x = 0 → W p l e R s m args below meth c H locs cells slots Q (F0 m tgt ls rest)) (kf : ¬ x = 0 → W p l e R s m args below meth c H locs cells slots Q (F0 m (pc + 3) ls rest)) : W p l e R s m args below meth c H locs cells slots Q (F0 m pc ls (.int (nI x) :: rest)) := lv_if_eq hx hb hdg ht (fun h => kt ((nI_eq0 h1).mp h)) (fun h => kf (fun q => h ((nI_eq0 h1).mpr q)))
theorem x_ifn_ne (hx : p.tables.exec = Jvm.exec) (hb : c.code = cc) {x : Nat} (h1 : x < 2 ^ 31) {off : Int} {tgt : Nat} (hdg : decode cc pc = .ok (.ifCond .ne off, 3)) (ht : (pc : Int) + off = (tgt : Int)) (kt : ¬ x = 0 → W p l e R s m args below meth c H locs cells slots Q (F0 m tgt ls rest)) (kf : x = 0 → W p l e R s m args below meth c H locs cells slots Q (F0 m (pc + 3) ls rest)) : W p l e R s m args below meth c H locs cells slots Q (F0 m pc ls (.int (nI x) :: rest)) := lv_if_ne hx hb hdg ht (fun h => kt (fun q => h ((nI_eq0 h1).mpr q))) (fun h => kf ((nI_eq0 h1).mp h))
theorem x_ifn_le (hx : p.tables.exec = Jvm.exec) (hb : c.code = cc) {x : Nat} (h1 : x < 2 ^ 31) {off : Int} {tgt : Nat} (hdg : decode cc pc = .ok (.ifCond .le off, 3)) (ht : (pc : Int) + off = (tgt : Int)) (kt : x = 0 → W p l e R s m args below meth c H locs cells slots Q (F0 m tgt ls rest)) (kf : ¬ x = 0 → W p l e R s m args below meth c H locs cells slots Q (F0 m (pc + 3) ls rest)) : W p l e R s m args below meth c H locs cells slots Q (F0 m pc ls (.int (nI x) :: rest)) := lv_if_le hx hb hdg ht (fun h => kt ((nI_le0 h1).mp h)) (fun h => kf (fun q => h ((nI_le0 h1).mpr q)))
end LONGS
theorem x_inc2 (n : Nat) : nI n + Int32.ofInt 2 = nI (n + 2) := nI_add n 2
theorem x_inc5 (n : Nat) : nI n + Int32.ofInt 5 = nI (n + 5) := nI_add n 5
/-- how many JUDGES told something at a row's place, what they told together, and the mean in 840ths -/
def tdN (Z : Nat → Nat → Nat) (k : Nat) : Nat := fb_ct (fun j => !(Z 14 (k * 8 + j) == 0)) 8
def tdS (Z : Nat → Nat → Nat) (k : Nat) : Nat := fb_sm (fun j => Z 14 (k * 8 + j) - 1) 8
def mnP (Z : Nat → Nat → Nat) (k : Nat) : Nat := if tdN Z k = 0 then 0 else tdS Z k * (840 / tdN Z k)
def cutP (Z : Nat → Nat → Nat) (p : Nat) : Nat := fb_sm (fun i => if cnt Z (Z 10 (p * 12 + i)) then mnP Z (p * 12 + i) else 0) (Z 8 p)
def alk (Z : Nat → Nat → Nat) (u v : Nat) : Nat := fb_ct (fun i => !(Z 13 (u * 12 + i) == 0) && (Z 13 (u * 12 + i) == Z 13 (v * 12 + i)) && decide (mrk Z u i < Z 6 (Z 10 (Z 11 u * 12 + i)))) (Z 8 (Z 11 u))
abbrev alC (Z : Nat → Nat → Nat) (p u v : Nat) (m : Int32) : Prop := Z 11 u = p ∧ Z 11 v = p ∧ ¬ nI (alk Z u v) < m
def cntA (Z : Nat → Nat → Nat) : Nat := fb_ct (fun i => !(Z 13 i == 0)) (Z 0 2 * 12)
abbrev pas (Z : Nat → Nat → Nat) (u : Nat) : Prop := cutP Z (Z 11 u) ≤ tot Z u * 840
def cntP (Z : Nat → Nat → Nat) : Nat := fb_ct (fun u => decide (pas Z u)) (Z 0 2)
theorem td_le {Z : Nat → Nat → Nat} (hI : Inv Z) {k j : Nat} (hk : k < 96) (hj : j < 8) : Z 14 (k * 8 + j) ≤ 11 := by
  obtain ⟨b0, b1, b2⟩ := hI.bd
  have e : k / 12 * 12 + k % 12 = k := Nat.div_add_mod' k 12
  rcases hI.td (p := k / 12) (i := k % 12) (j := j) (by omega) (by omega) hj with h | h
  · rw [e] at h
    have hr := hI.row (p := k / 12) (i := k % 12) (by omega) h.1
    rw [e] at hr
    have := hI.q hr
    omega
  · rw [e] at h; omega
theorem tdN_le (Z : Nat → Nat → Nat) (k : Nat) : tdN Z k ≤ 8 := fb_ct_le _ 8
theorem tdS_le {Z : Nat → Nat → Nat} (hI : Inv Z) {k : Nat} (hk : k < 96) : tdS Z k ≤ 80 := by
  have h := fb_sm_bound (f := fun j => Z 14 (k * 8 + j) - 1) (c := 10) (n := 8) (fun j hj => by have := td_le hI hk hj; omega)
  unfold tdS
  omega
theorem mnP_le {Z : Nat → Nat → Nat} (hI : Inv Z) {k : Nat} (hk : k < 96) : mnP Z k ≤ 67200 := by
  have h := tdS_le hI hk
  unfold mnP
  split
  · omega
  · have h2 : 840 / tdN Z k ≤ 840 := Nat.div_le_self _ _
    have := Nat.mul_le_mul h h2
    omega
theorem cutP_le {Z : Nat → Nat → Nat} (hI : Inv Z) {p : Nat} (hp : p < 8) : cutP Z p ≤ 806400 := by
  have hs := hI.sz hp
  have h := fb_sm_bound (f := fun i => if cnt Z (Z 10 (p * 12 + i)) then mnP Z (p * 12 + i) else 0) (c := 67200) (n := Z 8 p) (fun i hi => by
    have := mnP_le hI (k := p * 12 + i) (by omega)
    split <;> omega)
  unfold cutP
  omega
theorem tot_le {Z : Nat → Nat → Nat} (hI : Inv Z) {u : Nat} (hu : u < Z 0 2) : tot Z u ≤ 120 := smS_le hI hu _
theorem tot_cs {Z : Nat → Nat → Nat} (hI : Inv Z) {u : Nat} (hu : u < Z 0 2) : smS Z u (fun q => (cset Z).testBit q) = tot Z u := smS_cong hI hu (fun _ hq => cset_bit hI hq)
theorem alk_le (Z : Nat → Nat → Nat) (hI : Inv Z) {u v : Nat} (hu : u < Z 0 2) : alk Z u v ≤ 12 := by
  obtain ⟨b0, b1, b2⟩ := hI.bd
  have hp := hI.pu hu
  have hs := hI.sz (p := Z 11 u) (by omega)
  have := fb_ct_le (fun i => !(Z 13 (u * 12 + i) == 0) && (Z 13 (u * 12 + i) == Z 13 (v * 12 + i)) && decide (mrk Z u i < Z 6 (Z 10 (Z 11 u * 12 + i)))) (Z 8 (Z 11 u))
  unfold alk
  omega
/-! fractions -/
/-- |x| as it is worked out -/
theorem abs_lN {x : Int64} (h : x.toInt ≠ -9223372036854775808) : (if 0 < x then x else -x) = lN x.toInt.natAbs := by
  have h1 := fb_rngL x
  apply Int64.toInt_inj.mp
  rw [pk_lT (show x.toInt.natAbs < 2 ^ 63 by omega)]
  split
  · rename_i h2
    rw [Int64.lt_iff_toInt_lt] at h2
    have : (0 : Int64).toInt = 0 := rfl
    omega
  · rename_i h2
    rw [Int64.lt_iff_toInt_lt] at h2
    have h3 : (0 : Int64).toInt = 0 := rfl
    rw [Int64.toInt_neg, fb_bmodL (by omega) (by omega)]
    omega
def dst (a b : Nat) : Nat := (a - b) + (b - a)
theorem lN_dist {a b : Nat} (ha : a < 2 ^ 62) (hb : b < 2 ^ 62) : (if 0 < lN a - lN b then lN a - lN b else -(lN a - lN b)) = lN (dst a b) := by
  have e1 := pk_lT (n := a) (by omega)
  have e2 := pk_lT (n := b) (by omega)
  have e : (lN a - lN b).toInt = (a : Int) - b := by rw [fb_subL (by omega) (by omega), e1, e2]
  rw [abs_lN (by omega), e]
  unfold dst
  exact congrArg lN (by omega)
/-- a fraction without a common divisor: what is above (w = 0), or below the line -/
def frc (x : Int64) (B : Nat) (w : Int32) : Int64 := if w = 0 then x / lN (Nat.gcd x.toInt.natAbs B) else lN (B / Nat.gcd x.toInt.natAbs B)
theorem gcd_step {x y : Nat} : Nat.gcd y (x % y) = Nat.gcd x y := by rw [Nat.gcd_comm x y, Nat.gcd_rec y x, Nat.gcd_comm]
theorem euc_step {x y i : Nat} (hy : 0 < y) (hxy : y ≤ x) (h : x * y * 2 ^ i < 2 ^ 128) : y * (x % y) * 2 ^ (i + 1) < 2 ^ 128 := by
  have h1 : 2 * (x % y) ≤ x := by
    have h2 := Nat.mod_lt x hy
    have h3 := Nat.div_add_mod x y
    have h4 : 1 ≤ x / y := (Nat.one_le_div_iff hy).mpr hxy
    have h5 : y * 1 ≤ y * (x / y) := Nat.mul_le_mul_left y h4
    omega
  have h6 : y * (x % y) * 2 ^ (i + 1) ≤ x * y * 2 ^ i := by
    rw [Nat.pow_succ]
    calc y * (x % y) * (2 ^ i * 2) = y * (2 * (x % y)) * 2 ^ i := by
          rw [Nat.mul_comm (2 ^ i) 2, ← Nat.mul_assoc, Nat.mul_assoc y, Nat.mul_comm (x % y) 2]
      _ ≤ y * x * 2 ^ i := Nat.mul_le_mul_right _ (Nat.mul_le_mul_left y h1)
      _ = x * y * 2 ^ i := by rw [Nat.mul_comm y x]
  omega
theorem an_le {Z : Nat → Nat → Nat} (hI : Inv Z) {k : Nat} (hk : k < 720) : Z 13 k ≤ 1024 := by
  obtain ⟨b0, b1, b2⟩ := hI.bd
  have e : k / 12 * 12 + k % 12 = k := Nat.div_add_mod' k 12
  rcases hI.an (u := k / 12) (i := k % 12) (by omega) (by omega) with ⟨h1, h2, h | h⟩ | h
  · rw [e] at h; omega
  · have hp := hI.pu h1
    have hr := hI.row (p := Z 11 (k / 12)) (i := k % 12) (by omega) h2
    have ht := topA_le hI hr
    unfold okA at h
    rw [e] at h
    omega
  · rw [e] at h; omega
def rk (t : Nat) (v : Int32) : Nat := if nI t < v then 2 else if nI t = v then 1 else 0
/-- LEAKY, by how many came and how many were full at each PLACE -/
abbrev lkT (c f : Nat → Nat) (pl b : Nat) : Prop := ¬ c pl = 0 ∧ ¬ fb_sm c 4 - c pl = 0 ∧ ¬ 100 * (f pl * (fb_sm c 4 - c pl)) ≤ b * c pl * (fb_sm c 4 - c pl) + 100 * ((fb_sm f 4 - f pl) * c pl)
theorem lk_cmp {A B C : Nat} (hA : A ≤ 20000) (hB : B ≤ 20000) (hC : C ≤ 2000000) : nI 100 * (nI A - nI B) ≤ nI C ↔ 100 * A ≤ C + 100 * B := by
  have e1 : (nI A - nI B).toInt = (A : Int) - B := pk_sub_toInt (by omega) (by omega)
  have e0 : (nI 100).toInt = 100 := rfl
  have e2 : (nI 100 * (nI A - nI B)).toInt = 100 * ((A : Int) - B) := by
    rw [fb_mulI (by rw [e0, e1]; omega) (by rw [e0, e1]; omega), e0, e1]
  rw [Int32.le_iff_toInt_le, e2, nI_toInt (show C < 2 ^ 31 by omega)]
  omega
theorem sm4_part (f : Nat → Nat) {k : Nat} (h : k < 4) : f k ≤ fb_sm f 4 := by
  have := fb_sm_part f h
  omega
theorem sub_acc (a b : Int32) (c : Int32) : a - b + c = a + c - b := by
  rw [Int32.sub_eq_add_neg, Int32.sub_eq_add_neg, Int32.add_assoc, Int32.add_comm (-b) c, ← Int32.add_assoc]
