/-! THE FIRST STATE: the memory behind both constructors, where its cells lie, what holds there -/
def kRM : Nat → Int32 := fun q => if q = 5 then 3 else if q = 4 then 3 else if q = 3 then 4000 else if q = 2 then 2500 else if q = 1 then 900 else if q = 0 then 60 else 0
def M00 (L : Nat) (xs : Nat → Int32) : am_M := (fun f i k => if f = 61 then (if i = 0 then xs k else nI L) else if f = 6 then va_cpy kRF (fun _ => 0) 0 0 6 k else if f = 41 then kRM k else if f = 8 ∧ k = 1 then 1 else if f = 28 ∧ (k = 16 ∨ k = 18) then 1 else 0, fun f k => if f = 8 then (if k = 2 then 1 else 0) else k, 0)
def wb (N p : Nat) : Nat := if p < 4 then N + 78 + 18 * p else N + 87 + 18 * (p - 4)
def nu (N rl rm b : Nat) : Nat → Nat → Nat := fun f i => match f with
  | 0 => N
  | 1 => N + 1
  | 2 => N + 2
  | 3 => N + 3
  | 4 => N + 4
  | 5 => N + 5
  | 6 => N + 6
  | 7 => N + 7
  | 8 => N + 60
  | 9 => N + 61 + i
  | 10 => N + 63
  | 11 => N + 64
  | 12 => N + 65
  | 13 => N + 74
  | 14 => N + 75
  | 15 => N + 76
  | 16 => N + 77
  | 17 => N + 150
  | 18 => N + 8 + 4 * i
  | 19 => N + 8 + 4 * i + 1
  | 20 => N + 8 + 4 * i + 2
  | 21 => N + 8 + 4 * i + 3
  | 22 => N + 66 + 2 * i
  | 23 => N + 66 + 2 * i + 1
  | 24 => wb N i
  | 25 => wb N i + 1
  | 26 => wb N i + 2
  | 27 => wb N (i / 6) + 3 + i % 6
  | 28 => N + 151
  | 59 => rl
  | 60 => rm
  | 61 => b
  | f => N + 123 + f
def nof : Nat → Nat → Nat := fun f i => nu 0 0 0 0 f i
theorem wb_of (N p : Nat) : wb N p = N + wb 0 p := by unfold wb; split <;> omega
theorem nu_of (N rl rm b : Nat) : ∀ f i, f < 59 → nu N rl rm b f i = N + nof f i := by
  intro f i hf
  match f, hf with
  | 0, _ => exact rfl
  | 1, _ => show N + 1 = N + (0 + 1); omega
  | 2, _ => show N + 2 = N + (0 + 2); omega
  | 3, _ => show N + 3 = N + (0 + 3); omega
  | 4, _ => show N + 4 = N + (0 + 4); omega
  | 5, _ => show N + 5 = N + (0 + 5); omega
  | 6, _ => show N + 6 = N + (0 + 6); omega
  | 7, _ => show N + 7 = N + (0 + 7); omega
  | 8, _ => show N + 60 = N + (0 + 60); omega
  | 9, _ => show N + 61 + i = N + (0 + 61 + i); omega
  | 10, _ => show N + 63 = N + (0 + 63); omega
  | 11, _ => show N + 64 = N + (0 + 64); omega
  | 12, _ => show N + 65 = N + (0 + 65); omega
  | 13, _ => show N + 74 = N + (0 + 74); omega
  | 14, _ => show N + 75 = N + (0 + 75); omega
  | 15, _ => show N + 76 = N + (0 + 76); omega
  | 16, _ => show N + 77 = N + (0 + 77); omega
  | 17, _ => show N + 150 = N + (0 + 150); omega
  | 18, _ => show N + 8 + 4 * i = N + (0 + 8 + 4 * i); omega
  | 19, _ => show N + 8 + 4 * i + 1 = N + (0 + 8 + 4 * i + 1); omega
  | 20, _ => show N + 8 + 4 * i + 2 = N + (0 + 8 + 4 * i + 2); omega
  | 21, _ => show N + 8 + 4 * i + 3 = N + (0 + 8 + 4 * i + 3); omega
  | 22, _ => show N + 66 + 2 * i = N + (0 + 66 + 2 * i); omega
  | 23, _ => show N + 66 + 2 * i + 1 = N + (0 + 66 + 2 * i + 1); omega
  | 24, _ => exact wb_of N i
  | 25, _ => show wb N i + 1 = N + (wb 0 i + 1); rw [wb_of N i]; omega
  | 26, _ => show wb N i + 2 = N + (wb 0 i + 2); rw [wb_of N i]; omega
  | 27, _ => show wb N (i / 6) + 3 + i % 6 = N + (wb 0 (i / 6) + 3 + i % 6); rw [wb_of N (i / 6)]; omega
  | 28, _ => show N + 151 = N + (0 + 151); omega
  | 29, _ => show N + 123 + 29 = N + (0 + 123 + 29); omega
  | 30, _ => show N + 123 + 30 = N + (0 + 123 + 30); omega
  | 31, _ => show N + 123 + 31 = N + (0 + 123 + 31); omega
  | 32, _ => show N + 123 + 32 = N + (0 + 123 + 32); omega
  | 33, _ => show N + 123 + 33 = N + (0 + 123 + 33); omega
  | 34, _ => show N + 123 + 34 = N + (0 + 123 + 34); omega
  | 35, _ => show N + 123 + 35 = N + (0 + 123 + 35); omega
  | 36, _ => show N + 123 + 36 = N + (0 + 123 + 36); omega
  | 37, _ => show N + 123 + 37 = N + (0 + 123 + 37); omega
  | 38, _ => show N + 123 + 38 = N + (0 + 123 + 38); omega
  | 39, _ => show N + 123 + 39 = N + (0 + 123 + 39); omega
  | 40, _ => show N + 123 + 40 = N + (0 + 123 + 40); omega
  | 41, _ => show N + 123 + 41 = N + (0 + 123 + 41); omega
  | 42, _ => show N + 123 + 42 = N + (0 + 123 + 42); omega
  | 43, _ => show N + 123 + 43 = N + (0 + 123 + 43); omega
  | 44, _ => show N + 123 + 44 = N + (0 + 123 + 44); omega
  | 45, _ => show N + 123 + 45 = N + (0 + 123 + 45); omega
  | 46, _ => show N + 123 + 46 = N + (0 + 123 + 46); omega
  | 47, _ => show N + 123 + 47 = N + (0 + 123 + 47); omega
  | 48, _ => show N + 123 + 48 = N + (0 + 123 + 48); omega
  | 49, _ => show N + 123 + 49 = N + (0 + 123 + 49); omega
  | 50, _ => show N + 123 + 50 = N + (0 + 123 + 50); omega
  | 51, _ => show N + 123 + 51 = N + (0 + 123 + 51); omega
  | 52, _ => show N + 123 + 52 = N + (0 + 123 + 52); omega
  | 53, _ => show N + 123 + 53 = N + (0 + 123 + 53); omega
  | 54, _ => show N + 123 + 54 = N + (0 + 123 + 54); omega
  | 55, _ => show N + 123 + 55 = N + (0 + 123 + 55); omega
  | 56, _ => show N + 123 + 56 = N + (0 + 123 + 56); omega
  | 57, _ => show N + 123 + 57 = N + (0 + 123 + 57); omega
  | 58, _ => show N + 123 + 58 = N + (0 + 123 + 58); omega
  | f + 59, h => omega
theorem nof_nd : (am_nms.map fun q => nof q.1 q.2).Nodup := by decide +kernel
def τ00 : ta := (0, fun _ => 0, fun _ => 0, fun _ => 0, fun _ => 0, fun _ => 0, fun _ _ => 0, fun _ _ => 0, fun _ _ => 0, fun _ => 0, fun k => am_nth [60, 900, 2500, 4000, 3, 3] k 0)
def g00 : sg := ((0, 0, fun _ => 0, fun _ => 0, fun _ => 0), τ00)
theorem z_in (b : Int) (h : 0 ≤ b) : ta_in 0 b := ⟨by rw [show (0 : Int32).toInt = 0 by decide]; omega, by rw [show (0 : Int32).toInt = 0 by decide]; omega⟩
theorem g00_P : iP g00 := ⟨⟨by show 0 ≤ 12; omega, fun w _ => ⟨z_in 50 (by omega), z_in 50 (by omega)⟩, fun s hs => absurd hs (Nat.not_lt_zero s), fun k _ => Nat.zero_le 2, by decide, by decide, by decide, by decide, ⟨by decide, by decide⟩, ⟨by decide, by decide⟩⟩, by show 0 ≤ 3; omega, by show 0 ≤ 4; omega, fun e he => absurd he (Nat.not_lt_zero e), fun w _ _ => ⟨rfl, rfl⟩⟩
theorem M00_6 : ∀ k, k < 6 → va_cpy kRF (fun _ => 0) 0 0 6 k = nI (ta_ru τ00 k) := fun k hk => match k, hk with
  | 0, _ => rfl | 1, _ => rfl | 2, _ => rfl | 3, _ => rfl | 4, _ => rfl | 5, _ => rfl
  | n + 6, h => absurd h (by omega)
theorem M00_41 : ∀ k, k < 6 → kRM k = nI (ta_ru τ00 k) := fun k hk => match k, hk with
  | 0, _ => rfl | 1, _ => rfl | 2, _ => rfl | 3, _ => rfl | 4, _ => rfl | 5, _ => rfl
  | n + 6, h => absurd h (by omega)
theorem M00_C (L : Nat) (xs : Nat → Int32) : iC (M00 L xs) g00 := by
  refine ⟨⟨⟨rfl, fun w _ => ⟨rfl, rfl⟩, fun i hi => hi, fun i j _ _ q => q, fun s hs => absurd hs (Nat.not_lt_zero s), fun k _ => rfl, fun k hk => M00_6 k hk⟩, ⟨fun k _ => rfl, fun i hi => hi, fun i j _ _ q => q⟩, ⟨by show 0 < 2; omega, rfl⟩, fun _ => ⟨fun i hi => absurd hi (Nat.not_lt_zero i), rfl, (by decide : 1 ≤ 4), by show 0 < 2; omega, rfl, fun i hi => ?_⟩⟩, rfl, rfl, fun e he => absurd he (Nat.not_lt_zero e)⟩
  have hi : i < 1 := hi
  have hi0 : i = 0 := by omega
  subst hi0
  exact ⟨⟨rfl, rfl, fun k hk => absurd hk (Nat.not_lt_zero k), fun s e hs => absurd hs (Nat.not_lt_zero s)⟩, by show 0 ≤ 6; omega, by show 0 ≤ _; omega, fun k hk => absurd hk (Nat.not_lt_zero k)⟩
theorem M00_M (L : Nat) (xs : Nat → Int32) : iM (M00 L xs) g00 :=
  ⟨⟨⟨rfl, fun w _ => ⟨rfl, rfl⟩, fun s hs => absurd hs (Nat.not_lt_zero s), fun k _ => rfl, fun k hk => M00_41 k hk⟩, fun k _ => Or.inl rfl, fun q => absurd (show (1 : Int32) = 0 from q) (by decide)⟩, rfl, rfl, fun e he => absurd he (Nat.not_lt_zero e)⟩
theorem M00_J (L : Nat) (hL : L ≤ 2560) (xs : Nat → Int32) : lw_J xs L (M00 L xs) g00 := ⟨g00_P, M00_C L xs, M00_M L xs, nI_clamp (by omega), fun k => rfl⟩
theorem M00_ok (L : Nat) (xs : Nat → Int32) : am_okM (M00 L xs) := ⟨fun k hk => hk, fun k hk => hk, by show 0 < 2; omega, by show 1 < 2; omega⟩
