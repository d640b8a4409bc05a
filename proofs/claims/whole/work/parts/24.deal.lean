/-! joins: the least that they can cost; the class's dealer goes through them -/
def jl_m (T : Nat → Nat → Option Nat) (birth fals e : Nat) : Nat → Nat
  | 0 => if fals < birth then fals else birth
  | k + 1 => match T k e with
    | none => jl_m T birth fals e k
    | some t => if t < jl_m T birth fals e k then t else jl_m T birth fals e k
def jl_s (T : Nat → Nat → Option Nat) (nT birth fals : Nat) : Nat → Nat → Nat
  | 0, _ => 0
  | r + 1, e => jl_m T birth fals e nT + jl_s T nT birth fals r (e + 1)
theorem jl_m_b (T : Nat → Nat → Option Nat) (birth fals e : Nat) : ∀ n, jl_m T birth fals e n ≤ birth ∧ jl_m T birth fals e n ≤ fals ∧ ∀ k t, k < n → T k e = some t → jl_m T birth fals e n ≤ t
  | 0 => by
    refine ⟨?_, ?_, fun k t h => by omega⟩
    · unfold jl_m; split <;> omega
    · unfold jl_m; split <;> omega
  | n + 1 => by
    obtain ⟨h1, h2, h3⟩ := jl_m_b T birth fals e n
    have key : jl_m T birth fals e (n + 1) ≤ jl_m T birth fals e n ∧ ∀ t, T n e = some t → jl_m T birth fals e (n + 1) ≤ t := by
      rw [jl_m]
      cases hT : T n e with
      | none => exact ⟨Nat.le_refl _, fun t q => by cases q⟩
      | some t => dsimp only; refine ⟨by split <;> omega, fun t' q => by cases q; split <;> omega⟩
    refine ⟨by omega, by omega, fun k t hk hT => ?_⟩
    rcases Nat.lt_or_ge k n with q | q
    · have := h3 k t q hT; omega
    · have : k = n := by omega
      subst this; exact key.2 t hT
theorem jn_sub_ge (T : Nat → Nat → Option Nat) (nT miss birth fals : Nat) : ∀ (r e c u b : Nat) (tak : Nat → Bool) (pre : List Nat), ∀ x ∈ jn_sub T nT miss birth fals r e c u b tak pre, c + jl_s T nT birth fals r e + (u - r) * miss ≤ x.1
  | 0, e, c, u, b, tak, pre, x, h => by
    simp only [jn_sub, List.mem_singleton] at h
    subst h
    simp [jl_s]
  | r + 1, e, c, u, b, tak, pre, x, h => by
    obtain ⟨m1, m2, m3⟩ := jl_m_b T birth fals e nT
    have hm : (u - (r + 1)) * miss ≤ (u - r) * miss := Nat.mul_le_mul_right _ (by omega)
    simp only [jn_sub, List.mem_append, List.mem_flatMap, List.mem_range] at h
    simp only [jl_s]
    rcases h with ⟨k, hk, h⟩ | h | h
    · cases hT : T k e with
      | none => rw [hT] at h; simp at h
      | some t =>
        rw [hT] at h
        dsimp only at h
        cases htk : tak k with
        | true => rw [htk] at h; simp at h
        | false =>
          rw [htk] at h
          have := jn_sub_ge T nT miss birth fals r (e + 1) (c + t) (u - 1) b _ _ x h
          have := m3 k t hk hT
          rw [show u - 1 - r = u - (r + 1) by omega] at *
          omega
    · split at h
      · have := jn_sub_ge T nT miss birth fals r (e + 1) (c + birth) u (b + 1) _ _ x h
        omega
      · simp at h
    · have := jn_sub_ge T nT miss birth fals r (e + 1) (c + fals) u b _ _ x h
      omega
/-- how many of the first n are alive and not taken -/
def jn_cnt (lv tak : Nat → Bool) : Nat → Nat
  | 0 => 0
  | k + 1 => jn_cnt lv tak k + (if lv k = true ∧ tak k = false then 1 else 0)
theorem jn_cnt_le (lv tak : Nat → Bool) : ∀ n, jn_cnt lv tak n ≤ n
  | 0 => Nat.le_refl 0
  | n + 1 => by have := jn_cnt_le lv tak n; unfold jn_cnt; split <;> omega
theorem jn_cnt_tk (lv tak : Nat → Bool) (k : Nat) (h1 : lv k = true) (h2 : tak k = false) : ∀ n, jn_cnt lv (fun j => bif Nat.beq j k then true else tak j) n + (if k < n then 1 else 0) = jn_cnt lv tak n
  | 0 => by simp [jn_cnt]
  | n + 1 => by
    have ih := jn_cnt_tk lv tak k h1 h2 n
    by_cases hk : n = k
    · subst hk
      have hb : Nat.beq n n = true := Nat.beq_refl n
      simp only [jn_cnt, hb, cond_true, h1, h2]
      simp at ih ⊢
      omega
    · have hb : Nat.beq n k = false := by
        cases z : Nat.beq n k with
        | false => rfl
        | true => exact absurd (Nat.eq_of_beq_eq_true z) hk
      simp only [jn_cnt, hb, cond_false]
      rw [← ih]
      by_cases hkn : k < n
      · rw [if_pos hkn, if_pos (show k < n + 1 by omega)]; omega
      · rw [if_neg hkn, if_neg (show ¬ k < n + 1 by omega)]; omega
/-- the dealer's numbers for one world and one scan -/
def cs_D (M : am_M) (T : Nat → Nat → Option Nat) (lv : Nat → Bool) (nT n p miss birth fals : Nat) : Prop :=
  M.1 10 0 1 = nI miss ∧ M.1 10 0 2 = nI birth ∧ M.1 10 0 3 = nI fals ∧ M.1 10 0 5 = nI p ∧ M.1 10 0 6 = nI nT ∧ M.1 10 0 7 = nI n ∧ nT ≤ 6 ∧ n ≤ 4 ∧ miss ≤ 100000 ∧ birth ≤ 100000 ∧ fals ≤ 100000 ∧
  (∀ k e, k < nT → e < n → M.1 13 0 (4 * k + e) = match T k e with
    | none => -1
    | some t => nI t) ∧ (∀ k e t, T k e = some t → t ≤ 250000 ∧ lv k = true) ∧ ∀ e, e ≤ n → M.1 14 0 e = nI (jl_s T nT birth fals (n - e) e)
theorem cs_D_fr {M M' : am_M} {L LV : List Nat} {T : Nat → Nat → Option Nat} {lv : Nat → Bool} {nT n p miss birth fals : Nat} (h : cs_D M T lv nT n p miss birth fals) (fr : am_fg L LV M M') (h1 : 10 ∉ L) (h2 : 13 ∉ L) (h3 : 14 ∉ L) : cs_D M' T lv nT n p miss birth fals := by
  obtain ⟨a1, a2, a3, a4, a5, a6, a7, a8, a9, a10, a11, a12, a13, a14⟩ := h
  have f := fr.2.2
  exact ⟨(f _ _ _ h1).trans a1, (f _ _ _ h1).trans a2, (f _ _ _ h1).trans a3, (f _ _ _ h1).trans a4, (f _ _ _ h1).trans a5, (f _ _ _ h1).trans a6, a7, a8, a9, a10, a11, fun k e hk he => (f _ _ _ h2).trans (a12 k e hk he), a13, fun e he => (f _ _ _ h3).trans (a14 e he)⟩
theorem cs_L_fr {M M' : am_M} {L LV : List Nat} {K n : Nat} {l : List jn} (h : cs_L M K n l) (fr : am_fg L LV M M') (h1 : 11 ∉ L) (h2 : 22 ∉ L) (h3 : 23 ∉ L) (h4 : 12 ∉ LV) : cs_L M' K n l := by
  obtain ⟨e0, e1, hl, hK1, hK4, hs, hv, hvi, hel⟩ := h
  have f := fr.2.2
  have fv : ∀ i, M'.2.1 12 i = M.2.1 12 i := fun i => fr.2.1 12 i h4
  refine ⟨(f _ _ _ h1).trans e0, (f _ _ _ h1).trans e1, hl, hK1, hK4, hs, fun i hi => by rw [fv]; exact hv i hi, fun i j hi hj q => by rw [fv, fv] at q; exact hvi i j hi hj q, fun i hi => ?_⟩
  obtain ⟨w1, w2, w3, w4⟩ := hel i hi
  rw [fv]
  exact ⟨(f _ _ _ h2).trans w1, (f _ _ _ h2).trans w2, w3, fun e he => (f _ _ _ h3).trans (w4 e he)⟩
theorem cw_mayServe {X : am_X} (hX : am_Cl X) (d : Nat) (M : am_M) (hd : 1 ≤ d) (T : Nat → Nat → Option Nat) (lv : Nat → Bool) (nT n p miss birth fals K : Nat) (l : List jn) (hD : cs_D M T lv nT n p miss birth fals) (hL : cs_L M K n l) (e c u : Nat) (he : e ≤ n) (hu : u ≤ 6) (hB : c + jl_s T nT birth fals (n - e) e + (u - (n - e)) * miss < 2 ^ 30) (Q : am_P)
    (h1 : Q (some (.inl (1))) M) (h0 : l.length = K → (am_nth l (K - 1) jn_0).1 ≤ c + jl_s T nT birth fals (n - e) e + (u - (n - e)) * miss → Q (some (.inl (0))) M) : X d 53 0 [some (.inr (.inl (10, 0))), some (.inl (nI e)), some (.inl (nI c)), some (.inl (nI u)), none] [] M Q := by
  obtain ⟨a1, a2, a3, a4, a5, a6, a7, a8, a9, a10, a11, a12, a13, a14⟩ := hD
  refine am_go hX [] 30 ?_
  have em : (if (0 : Int32) < nI u - (M.1 10 0 7 - nI e) then nI u - (M.1 10 0 7 - nI e) else 0) = nI (u - (n - e)) := by
    rw [a6, pk_sub he]
    rcases Nat.lt_or_ge u (n - e) with q | q
    · have hneg : nI u - nI (n - e) < 0 := pk_sneg (by omega) q
      rw [if_neg (fun z => absurd (Int32.lt_trans hneg z) (by exact Int32.lt_irrefl)), show u - (n - e) = 0 by omega]; rfl
    · rw [pk_sub q]
      by_cases z : 0 < u - (n - e)
      · rw [if_pos (show 0 < nI (u - (n - e)) from nI_lt (a := 0) z (by omega))]
      · have : u - (n - e) = 0 := by omega
        rw [this]; rfl
  refine am_cc hd (lb_max hX _ _ _ _ _ ?_)
  rw [em]
  refine ⟨e, by show e < 5; omega, rfl, ?_⟩
  refine am_cc hd ?_
  have et : nI c + M.1 14 0 e + nI (u - (n - e)) * M.1 10 0 1 = nI (c + jl_s T nT birth fals (n - e) e + (u - (n - e)) * miss) := by
    rw [a14 e he, a1, nI_add, pk_mul, nI_add]
  refine (fun (z : X (d - 1) 56 0 [some (.inr (.inl (11, 0))), some (.inl (nI c + M.1 14 0 e + nI (u - (n - e)) * M.1 10 0 1))] [] M _) => z) ?_
  rw [et]
  exact cw_takes hX _ _ K n l hL _ hB _ (fun _ => ⟨Or.inr rfl, h1⟩) (fun q1 q2 => ⟨Or.inl rfl, h0 q1 q2⟩)
