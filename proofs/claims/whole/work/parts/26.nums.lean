/-! ints and longs that stay in their range -/
theorem iz_add {a b : Int32} (h1 : -2147483648 ≤ a.toInt + b.toInt) (h2 : a.toInt + b.toInt < 2147483648) : (a + b).toInt = a.toInt + b.toInt := by
  rw [Int32.toInt_add, Int.bmod_def]; split <;> omega
theorem iz_sub {a b : Int32} (h1 : -2147483648 ≤ a.toInt - b.toInt) (h2 : a.toInt - b.toInt < 2147483648) : (a - b).toInt = a.toInt - b.toInt := by
  rw [Int32.toInt_sub, Int.bmod_def]; split <;> omega
theorem iz_mul {a b : Int32} (h1 : -2147483648 ≤ a.toInt * b.toInt) (h2 : a.toInt * b.toInt < 2147483648) : (a * b).toInt = a.toInt * b.toInt := by
  rw [Int32.toInt_mul, Int.bmod_def]; split <;> omega
theorem lz_add {a b : Int64} (h1 : -9223372036854775808 ≤ a.toInt + b.toInt) (h2 : a.toInt + b.toInt < 9223372036854775808) : (a + b).toInt = a.toInt + b.toInt := by
  rw [Int64.toInt_add, Int.bmod_def]; split <;> omega
theorem lz_sub {a b : Int64} (h1 : -9223372036854775808 ≤ a.toInt - b.toInt) (h2 : a.toInt - b.toInt < 9223372036854775808) : (a - b).toInt = a.toInt - b.toInt := by
  rw [Int64.toInt_sub, Int.bmod_def]; split <;> omega
theorem lz_mul {a b : Int64} (h1 : -9223372036854775808 ≤ a.toInt * b.toInt) (h2 : a.toInt * b.toInt < 9223372036854775808) : (a * b).toInt = a.toInt * b.toInt := by
  rw [Int64.toInt_mul, Int.bmod_def]; split <;> omega
theorem lz_of (a : Int32) : a.toInt64.toInt = a.toInt := Int32.toInt_toInt64 a
theorem lz_ext {a b : Int64} (h : a.toInt = b.toInt) : a = b := Int64.toInt_inj.mp h
theorem iz_ext {a b : Int32} (h : a.toInt = b.toInt) : a = b := Int32.toInt_inj.mp h
theorem lz_to {a : Int64} {n : Nat} (h : a.toInt = n) (hn : n < 2147483648) : a.toInt32 = nI n := by
  apply iz_ext
  rw [Int64.toInt_toInt32, h, nI_toInt (by omega), Int.bmod_def]
  split <;> omega
theorem iz_nI {x : Int32} {n : Nat} (h : x.toInt = n) (hn : n < 2147483648) : x = nI n := by
  apply iz_ext; rw [h, nI_toInt hn]
theorem iz_sq {a b : Int} (h1 : -b ≤ a) (h2 : a ≤ b) : 0 ≤ a * a ∧ a * a ≤ b * b := by
  have hb : 0 ≤ b := by omega
  rcases Int.le_total 0 a with q | q
  · exact ⟨Int.mul_nonneg q q, Int.mul_le_mul h2 h2 q hb⟩
  · have e : a * a = (-a) * (-a) := by rw [Int.neg_mul_neg]
    rw [e]
    exact ⟨Int.mul_nonneg (by omega) (by omega), Int.mul_le_mul (by omega) (by omega) (by omega) hb⟩
theorem iz_bd {a b x y : Int} (h1 : -x ≤ a) (h2 : a ≤ x) (h3 : -y ≤ b) (h4 : b ≤ y) : -(x * y) ≤ a * b ∧ a * b ≤ x * y := by
  have hx : 0 ≤ x := by omega
  have hy : 0 ≤ y := by omega
  rcases Int.le_total 0 a with q | q <;> rcases Int.le_total 0 b with w | w
  · have p := Int.mul_nonneg q w
    have p2 := Int.mul_le_mul h2 h4 w hx
    have p3 := Int.mul_nonneg hx hy
    omega
  · have e : a * b = -(a * (-b)) := by rw [Int.mul_neg, Int.neg_neg]
    have p := Int.mul_nonneg q (show 0 ≤ -b by omega)
    have p2 := Int.mul_le_mul h2 (show -b ≤ y by omega) (by omega) hx
    have p3 := Int.mul_nonneg hx hy
    omega
  · have e : a * b = -((-a) * b) := by rw [Int.neg_mul, Int.neg_neg]
    have p := Int.mul_nonneg (show 0 ≤ -a by omega) w
    have p2 := Int.mul_le_mul (show -a ≤ x by omega) h4 w hx
    have p3 := Int.mul_nonneg hx hy
    omega
  · have e : a * b = (-a) * (-b) := by rw [Int.neg_mul_neg]
    have p := Int.mul_nonneg (show 0 ≤ -a by omega) (show 0 ≤ -b by omega)
    have p2 := Int.mul_le_mul (show -a ≤ x by omega) (show -b ≤ y by omega) (by omega) hx
    have p3 := Int.mul_nonneg hx hy
    omega
/-- what is known of a track's fields -/
def tk_ok (t : Nat → Int32) : Prop := ta_in (t 0) 1050 ∧ ta_in (t 1) 1050 ∧ ta_in (t 2) 2100 ∧ ta_in (t 3) 2100 ∧ (0 ≤ (t 4).toInt ∧ (t 4).toInt ≤ 999) ∧ (0 ≤ (t 7).toInt ∧ (t 7).toInt ≤ 9) ∧ (t 8 = 0 ∨ t 8 = 1)
theorem tk_f_bd {τ : ta} {t : Nat → Int32} (ht : tk_ok t) {m : Int} (h0 : 0 ≤ m) (h1 : m ≤ 999) {c : Nat} (hc : c = 0 ∨ c = 1) : -2098950 ≤ tk_f τ t m c ∧ tk_f τ t m c ≤ 2098950 := by
  obtain ⟨t0, t1, t2, t3, t4, -, -⟩ := ht
  have hp : -2097900 ≤ tk_ah (ta_kd τ (t 7).toNatClampNeg) (m - (t 4).toInt) * (t (c + 2)).toInt ∧ tk_ah (ta_kd τ (t 7).toNatClampNeg) (m - (t 4).toInt) * (t (c + 2)).toInt ≤ 2097900 := by
    have ha : -999 ≤ tk_ah (ta_kd τ (t 7).toNatClampNeg) (m - (t 4).toInt) ∧ tk_ah (ta_kd τ (t 7).toNatClampNeg) (m - (t 4).toInt) ≤ 999 := by
      unfold tk_ah; split
      · omega
      · split <;> omega
    have hu : -2100 ≤ (t (c + 2)).toInt ∧ (t (c + 2)).toInt ≤ 2100 := by rcases hc with rfl | rfl; exact t2; exact t3
    have := iz_bd ha.1 ha.2 hu.1 hu.2
    omega
  unfold tk_f
  have hx : -1050 ≤ (t c).toInt ∧ (t c).toInt ≤ 1050 := by rcases hc with rfl | rfl; exact t0; exact t1
  omega
theorem ck_ah_ok {k m l : Int32} {kd : Nat} (hk : k = nI kd) (hkd : kd ≤ 2) (hm : 0 ≤ m.toInt ∧ m.toInt ≤ 999) (hl : 0 ≤ l.toInt ∧ l.toInt ≤ 999) : (ck_ah k m l).toInt = tk_ah kd (m.toInt - l.toInt) := by
  subst hk
  unfold ck_ah tk_ah
  have e1 : nI kd = 1 ↔ kd = 1 := nI_eq (a := kd) (b := 1) (by omega) (by decide)
  have e2 : nI kd = 2 ↔ kd = 2 := nI_eq (a := kd) (b := 2) (by omega) (by decide)
  by_cases h1 : kd = 1
  · rw [if_pos (e1.mpr h1), if_pos h1]; rfl
  · rw [if_neg (fun z => h1 (e1.mp z)), if_neg h1]
    by_cases h2 : kd = 2
    · rw [if_pos (e2.mpr h2), if_pos h2, iz_sub (by omega) (by omega)]; omega
    · rw [if_neg (fun z => h2 (e2.mp z)), if_neg h2, iz_sub (by omega) (by omega)]
/-- the class's foretold place, in ints, is the foretold place -/
theorem ck_f_ok {τ : ta} {t : Nat → Int32} (ht : tk_ok t) (hk : ∀ k, k < 10 → ta_kd τ k ≤ 2) {m : Int32} (h0 : 0 ≤ m.toInt) (h1 : m.toInt ≤ 999) {c : Nat} (hc : c = 0 ∨ c = 1) : (t c + ck_ah (nI (ta_kd τ (t 7).toNatClampNeg)) m (t 4) * t (c + 2)).toInt = tk_f τ t m.toInt c := by
  have hb := tk_f_bd (τ := τ) ht h0 h1 hc
  obtain ⟨t0, t1, t2, t3, t4, t7, -⟩ := ht
  have h7 : (t 7).toNatClampNeg < 10 := by
    have : (t 7).toNatClampNeg = (t 7).toInt.toNat := rfl
    omega
  have ea := ck_ah_ok (k := nI (ta_kd τ (t 7).toNatClampNeg)) rfl (hk _ h7) ⟨h0, h1⟩ t4
  have ha : -999 ≤ tk_ah (ta_kd τ (t 7).toNatClampNeg) (m.toInt - (t 4).toInt) ∧ tk_ah (ta_kd τ (t 7).toNatClampNeg) (m.toInt - (t 4).toInt) ≤ 999 := by
    unfold tk_ah; split
    · omega
    · split <;> omega
  have hu : -2100 ≤ (t (c + 2)).toInt ∧ (t (c + 2)).toInt ≤ 2100 := by rcases hc with rfl | rfl; exact t2; exact t3
  have hx : -1050 ≤ (t c).toInt ∧ (t c).toInt ≤ 1050 := by rcases hc with rfl | rfl; exact t0; exact t1
  have hp := iz_bd ha.1 ha.2 hu.1 hu.2
  have em : (ck_ah (nI (ta_kd τ (t 7).toNatClampNeg)) m (t 4) * t (c + 2)).toInt = tk_ah (ta_kd τ (t 7).toNatClampNeg) (m.toInt - (t 4).toInt) * (t (c + 2)).toInt := by
    rw [iz_mul (by rw [ea]; omega) (by rw [ea]; omega), ea]
  rw [iz_add (by rw [em]; omega) (by rw [em]; omega), em]
  rfl
/-- the class's toll of two differences -/
def ck_toll (g dx dy : Int64) : Int32 := if 0 < lg_cmp (dx * dx + dy * dy) g then -1 else (dx * dx + dy * dy).toInt32
theorem cw_toll {X : am_X} (hX : am_Cl X) (d : Nat) (M : am_M) (dx dy : Int64) (Q : am_P) (h : Q (some (.inl (ck_toll M.2.2 dx dy))) M) : X d 51 0 [some (.inr (.inl (10, 0))), some (.inr (.inr (dx))), none, some (.inr (.inr (dy))), none, none, none] [] M Q := by
  refine am_go hX [] 40 ?_
  refine ⟨fun (c : 0 < lg_cmp (dx * dx + dy * dy) M.2.2) => ?_, fun (c : ¬ 0 < lg_cmp (dx * dx + dy * dy) M.2.2) => ?_⟩
  · rw [ck_toll, if_pos c] at h; exact h
  · rw [ck_toll, if_neg c] at h; exact h
theorem ck_toll_ok {g dx dy : Int64} {gate : Nat} (hg : g.toInt = (gate * gate : Nat)) (hgt : gate ≤ 500) {x y : Int} (hx : dx.toInt = x) (hy : dy.toInt = y) (bx : -2100000 ≤ x ∧ x ≤ 2100000) (by_ : -2100000 ≤ y ∧ y ≤ 2100000) :
    ck_toll g dx dy = if (x * x + y * y).toNat ≤ gate * gate then nI (x * x + y * y).toNat else -1 := by
  have sx := iz_sq bx.1 bx.2
  have sy := iz_sq by_.1 by_.2
  have ex : (dx * dx).toInt = x * x := by rw [lz_mul (by rw [hx]; omega) (by rw [hx]; omega), hx]
  have ey : (dy * dy).toInt = y * y := by rw [lz_mul (by rw [hy]; omega) (by rw [hy]; omega), hy]
  have es : (dx * dx + dy * dy).toInt = x * x + y * y := by rw [lz_add (by rw [ex, ey]; omega) (by rw [ex, ey]; omega), ex, ey]
  unfold ck_toll
  have hgg : gate * gate ≤ 500 * 500 := Nat.mul_le_mul hgt hgt
  by_cases c : (x * x + y * y).toNat ≤ gate * gate
  · rw [if_pos c, if_neg]
    · refine lz_to ?_ (by omega)
      rw [es]; omega
    · rw [lg_cmp_gt, Int64.lt_iff_toInt_lt, es, hg]; omega
  · rw [if_neg c, if_pos]
    rw [lg_cmp_gt, Int64.lt_iff_toInt_lt, es, hg]; omega
