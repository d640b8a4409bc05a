/-! joins are well made; worlds stay in their bounds -/
theorem jp_nb_c {a b : List Nat} : ∀ (e : Nat), (∀ i, i < e → am_nth a i 9 = am_nth b i 9) → jp_nb a e = jp_nb b e
  | 0, _ => rfl
  | e + 1, h => by
    simp only [jp_nb]
    rw [jp_nb_c e (fun i hi => h i (by omega)), h e (by omega)]
def jp_di (e : Nat) (ps : List Nat) : Prop := ∀ i j, i < j → j < e → am_nth ps i 9 = am_nth ps j 9 → 6 ≤ am_nth ps i 9
theorem jn_sub_ok (T : Nat → Nat → Option Nat) (nT miss birth fals : Nat) (hn6 : nT ≤ 6) (hm : miss ≤ 100000) (hb : birth ≤ 100000) (hf : fals ≤ 100000) (hT : ∀ k e t, T k e = some t → t ≤ 250000) : ∀ (r e c u b : Nat) (tak : Nat → Bool) (pre : List Nat), pre.length = e → (∀ i, i < e → am_nth pre i 9 < nT ∨ am_nth pre i 9 = 6 ∨ am_nth pre i 9 = 7) → b = jp_nb pre e → nT + b ≤ 6 → (∀ i, i < e → am_nth pre i 9 < nT → tak (am_nth pre i 9) = true) → jp_di e pre →
    ∀ x ∈ jn_sub T nT miss birth fals r e c u b tak pre, jp_ok nT (e + r) x.2 ∧ jp_di (e + r) x.2 ∧ x.1 ≤ c + r * 250000 + u * 100000
  | 0, e, c, u, b, tak, pre, hl, hp, hb', hb6, ht, hdi, x, hx => by
    simp only [jn_sub, List.mem_singleton] at hx
    subst hx
    refine ⟨⟨hl, hp, by rw [Nat.add_zero, ← hb']; exact hb6, hn6⟩, hdi, ?_⟩
    have := Nat.mul_le_mul_left u hm
    dsimp only; omega
  | r + 1, e, c, u, b, tak, pre, hl, hp, hb', hb6, ht, hdi, x, hx => by
    -- one pick more
    have step : ∀ (q : Nat) (tak' : Nat → Bool) (c' u' b' : Nat), (q < nT ∨ q = 6 ∨ q = 7) → b' = b + (if q = 6 then 1 else 0) → nT + b' ≤ 6 → (q < nT → ∀ i, i < e → am_nth pre i 9 ≠ q) → (∀ k, k < nT → (tak k = true ∨ k = q) → tak' k = true) → c' + u' * 100000 ≤ c + 250000 + u * 100000 →
        x ∈ jn_sub T nT miss birth fals r (e + 1) c' u' b' tak' (pre ++ [q]) → jp_ok nT (e + (r + 1)) x.2 ∧ jp_di (e + (r + 1)) x.2 ∧ x.1 ≤ c + (r + 1) * 250000 + u * 100000 := by
      intro q tak' c' u' b' hq hb1 hb2 hne htk hc hx
      have hpre : ∀ i, i < e → am_nth (pre ++ [q]) i 9 = am_nth pre i 9 := fun i hi => by rw [am_nth_snoc, if_pos (by omega)]
      have hlast : am_nth (pre ++ [q]) e 9 = q := by rw [am_nth_snoc, if_neg (by omega), if_pos (by omega)]
      have := jn_sub_ok T nT miss birth fals hn6 hm hb hf hT r (e + 1) c' u' b' tak' (pre ++ [q]) (by simp; omega) (fun i hi => ?_) ?_ hb2 (fun i hi hi2 => ?_) (fun i j hij hj hh => ?_) x hx
      · rw [show e + 1 + r = e + (r + 1) by omega] at this
        exact ⟨this.1, this.2.1, by have := this.2.2; omega⟩
      · by_cases z : i = e
        · rw [z, hlast]; exact hq
        · rw [hpre i (by omega)]; exact hp i (by omega)
      · rw [jp_nb, hlast, jp_nb_c e hpre, ← hb', hb1]
      · by_cases z : i = e
        · rw [z, hlast] at hi2 ⊢; exact htk q hi2 (Or.inr rfl)
        · rw [hpre i (by omega)] at hi2 ⊢; exact htk _ hi2 (Or.inl (ht i (by omega) hi2))
      · by_cases z : j = e
        · rw [z, hlast, hpre i (by omega)] at hh
          rw [hpre i (by omega), hh]
          rcases hq with w | w | w
          · exact absurd hh (hne w i (by omega))
          · omega
          · omega
        · rw [hpre i (by omega), hpre j (by omega)] at hh
          rw [hpre i (by omega)]; exact hdi i j hij (by omega) hh
    simp only [jn_sub, List.mem_append, List.mem_flatMap, List.mem_range] at hx
    rcases hx with ⟨k, hk, hx⟩ | hx | hx
    · cases hTk : T k e with
      | none => rw [hTk] at hx; simp at hx
      | some t =>
        rw [hTk] at hx
        dsimp only at hx
        cases htk : tak k with
        | true => rw [htk] at hx; simp at hx
        | false =>
          rw [htk] at hx
          have := hT k e t hTk
          refine step k _ (c + t) (u - 1) b (Or.inl hk) ?_ hb6 (fun _ i hi q => ?_) (fun k' hk' q => ?_) ?_ hx
          · rw [if_neg (by omega)]; rfl
          · have := ht i hi (by rw [q]; exact hk)
            rw [q, htk] at this; cases this
          · rcases q with q | q
            · cases Nat.beq k' k with
              | true => rfl
              | false => exact q
            · rw [q, Nat.beq_refl]; rfl
          · have : (u - 1) * 100000 ≤ u * 100000 := Nat.mul_le_mul_right _ (by omega)
            omega
    · split at hx
      · refine step 6 tak (c + birth) u (b + 1) (Or.inr (Or.inl rfl)) (by simp) (by omega) (fun q => by omega) (fun k' hk' q => ?_) (by omega) hx
        rcases q with q | q
        · exact q
        · omega
      · simp at hx
    · refine step 7 tak (c + fals) u b (Or.inr (Or.inr rfl)) (by simp) (by omega) (fun q => by omega) (fun k' hk' q => ?_) (by omega) hx
      rcases q with q | q
      · exact q
      · omega
theorem jn_sub_ne (T : Nat → Nat → Option Nat) (nT miss birth fals : Nat) : ∀ (r e c u b : Nat) (tak : Nat → Bool) (pre : List Nat), jn_sub T nT miss birth fals r e c u b tak pre ≠ []
  | 0, e, c, u, b, tak, pre => by simp [jn_sub]
  | r + 1, e, c, u, b, tak, pre => by
    have := jn_sub_ne T nT miss birth fals r (e + 1) (c + fals) u b tak (pre ++ [7])
    simp only [jn_sub]
    intro q
    rw [List.append_eq_nil_iff, List.append_eq_nil_iff] at q
    exact this q.2.2
theorem tk_toll_le {τ : ta} (hτ : ta_ok τ) {t : Nat → Int32} {s e x : Nat} (h : tk_toll τ t s e = some x) : x ≤ 250000 ∧ t 8 = 0 := by
  unfold tk_toll at h
  split at h
  · rename_i z
    cases h
    have := Nat.mul_le_mul hτ.2.2.2.2.1 hτ.2.2.2.2.1
    exact ⟨by omega, z.1⟩
  · cases h
theorem wd_lk_le (t : Nat → Nat → Int32) : ∀ n, wd_lk t n ≤ n
  | 0 => Nat.le_refl 0
  | n + 1 => by have := wd_lk_le t n; rw [wd_lk]; split <;> omega
theorem jn_all_ok {τ : ta} (hτ : ta_ok τ) {s m0 : Nat} (hs : s < ta_n τ) {w : wd} (hw : wd_ok m0 w) : ∀ x ∈ jn_all τ s w, jp_ok (wd_n w) (ta_dn τ s) x.2 ∧ jp_di (ta_dn τ s) x.2 ∧ x.1 ≤ 1600000 * (m0 + 1) := by
  intro x hx
  obtain ⟨-, ru1, ru2, ru3, -⟩ := hτ.2.2.2.2
  have h4 := (hτ.2.2.1 s hs).2.2.1
  have := jn_sub_ok _ (wd_n w) (ta_ru τ 1) (ta_ru τ 2) (ta_ru τ 3) hw.1 ru1 ru2 ru3 (fun k e t h => (tk_toll_le hτ h).1) (ta_dn τ s) 0 (wd_c w) _ 0 _ [] rfl (fun i hi => by omega) rfl (by have := hw.1; omega) (fun i hi => by omega) (fun i j h1 h2 => by omega) x hx
  rw [Nat.zero_add] at this
  have hl := wd_lk_le (wd_t w) (wd_n w)
  have h6 := hw.1
  have h7 := hw.2.1
  exact ⟨this.1, this.2.1, by have := this.2.2; omega⟩
theorem iz_msb (x : Int32) : x.toBitVec.msb = decide (x.toInt < 0) := BitVec.msb_eq_toInt
theorem iz_xor {x y : Int32} (hy : 0 < y.toInt) : 0 ≤ x ^^^ y ↔ 0 ≤ x.toInt := by
  have h1 : (x ^^^ y).toBitVec.msb = (x.toBitVec.msb ^^ y.toBitVec.msb) := by
    rw [Int32.toBitVec_xor, BitVec.msb_xor]
  rw [iz_msb, iz_msb, iz_msb] at h1
  have hy' : decide (y.toInt < 0) = false := by simp; omega
  rw [hy', Bool.xor_false] at h1
  rw [Int32.le_iff_toInt_le, Int32.toInt_zero]
  have : (x ^^^ y).toInt < 0 ↔ x.toInt < 0 := by
    constructor
    · intro q
      have : decide ((x ^^^ y).toInt < 0) = true := by simpa using q
      rw [h1] at this; simpa using this
    · intro q
      have : decide (x.toInt < 0) = true := by simpa using q
      rw [← h1] at this; simpa using this
  omega
theorem iz_div {x y : Int32} {b : Int} (hb : b < 2147483648) (h1 : -b ≤ x.toInt) (h2 : x.toInt ≤ b) (hy : 0 < y.toInt) : (x / y).toInt = x.toInt.tdiv y.toInt := by
  rw [Int32.toInt_div, Int.bmod_def]
  have h3 : x.toInt.tdiv y.toInt ≤ b ∧ -b ≤ x.toInt.tdiv y.toInt := by
    have := Int.natAbs_tdiv_le_natAbs x.toInt y.toInt
    omega
  split <;> omega
/-- the quotient, cut down: the same by the class's and by the reference's way -/
theorem lb_fd_bd {x y : Int32} {b : Int} (hb : b < 2147483647) (h1 : -b ≤ x.toInt) (h2 : x.toInt ≤ b) (hy : 0 < y.toInt) : -b ≤ (lb_fd x y).toInt ∧ (lb_fd x y).toInt ≤ b ∧ lb_fd x y = if x < x / y * y then x / y - 1 else x / y := by
  have hd := iz_div (b := b) (by omega) h1 h2 hy
  have hm := Int.tdiv_mul_add_tmod x.toInt y.toInt
  have hn := Int.natAbs_tdiv_le_natAbs x.toInt y.toInt
  have hp : (x / y * y).toInt = x.toInt.tdiv y.toInt * y.toInt := by
    have hr : (x.toInt.tdiv y.toInt * y.toInt).natAbs ≤ x.toInt.natAbs := by
      rw [Int.natAbs_mul, Int.natAbs_tdiv]
      exact Nat.div_mul_le_self _ _
    rw [iz_mul (by rw [hd]; omega) (by rw [hd]; omega), hd]
  unfold lb_fd
  have hlt : (x < x / y * y) ↔ (x.toInt < x.toInt.tdiv y.toInt * y.toInt) := by rw [Int32.lt_iff_toInt_lt, hp]
  by_cases hx : 0 ≤ x.toInt
  · rw [if_pos ((iz_xor hy).mpr hx)]
    have ht := Int.tmod_nonneg y.toInt hx
    rw [if_neg (fun z => by have := hlt.mp z; omega)]
    exact ⟨by omega, by omega, rfl⟩
  · rw [if_neg (fun q => hx ((iz_xor hy).mp q))]
    have ht : x.toInt.tmod y.toInt ≤ 0 := by
      have := Int.tmod_nonneg y.toInt (show 0 ≤ -x.toInt by omega)
      rw [Int.neg_tmod] at this; omega
    by_cases he : x / y * y = x
    · rw [if_pos he]
      have : x.toInt.tdiv y.toInt * y.toInt = x.toInt := by rw [← hp, he]
      rw [if_neg (fun z => by have := hlt.mp z; omega)]
      exact ⟨by omega, by omega, rfl⟩
    · rw [if_neg he]
      have hne : x.toInt.tdiv y.toInt * y.toInt ≠ x.toInt := fun q => he (iz_ext (by rw [hp, q]))
      rw [if_pos (hlt.mpr (by omega))]
      have hq : x.toInt.tdiv y.toInt ≤ 0 := by
        have e : (-x.toInt).tdiv y.toInt = -(x.toInt.tdiv y.toInt) := Int.neg_tdiv ..
        have := Int.tdiv_nonneg (show 0 ≤ -x.toInt by omega) (show 0 ≤ y.toInt by omega)
        omega
      have h1' : (1 : Int32).toInt = 1 := by decide
      have hlow : -b < x.toInt.tdiv y.toInt ∨ y.toInt = 1 := by
        rcases Int.lt_or_le 1 y.toInt with z | z
        · left
          have e : (-x.toInt).tdiv y.toInt = -(x.toInt.tdiv y.toInt) := Int.neg_tdiv ..
          have h3 : (x.toInt.tdiv y.toInt * y.toInt) ≥ x.toInt := by omega
          rcases Int.lt_or_le (-b) (x.toInt.tdiv y.toInt) with w | w
          · exact w
          · have h5 : x.toInt.tdiv y.toInt * y.toInt ≤ (-b) * y.toInt := Int.mul_le_mul_of_nonneg_right w (by omega)
            have h6 : (-b) * y.toInt ≤ (-b) * 2 := Int.mul_le_mul_of_nonpos_left (show (-b) ≤ 0 by omega) (by omega)
            omega
        · right; omega
      have hs : (x / y - 1).toInt = x.toInt.tdiv y.toInt - 1 := by rw [iz_sub (by rw [hd, h1']; omega) (by rw [hd, h1']; omega), hd, h1']
      refine ⟨?_, by rw [hs]; omega, rfl⟩
      rw [hs]
      rcases hlow with z | z
      · omega
      · rw [z, Int.mul_one, Int.tdiv_one] at hne
        exact absurd rfl hne

/-- tracks stay in their bounds -/
theorem tk_hit_ok {τ : ta} (hτ : ta_ok τ) {t : Nat → Int32} (ht : tk_ok t) {s e : Nat} (hs : s < ta_n τ) (he : e < ta_dn τ s) : tk_ok (tk_hit τ t s e) := by
  obtain ⟨bx, by_⟩ := ta_rx_bd hτ hs he
  obtain ⟨t0, t1, t2, t3, t4, t7, t8⟩ := ht
  obtain ⟨b1, b2, b3, b4⟩ := hτ.2.2.1 s hs
  have hmo : (nI (ta_mo τ s)).toInt = (ta_mo τ s : Int) := nI_toInt (by omega)
  have hdm : (nI (ta_dm τ s e)).toInt = (ta_dm τ s e : Int) := nI_toInt (by have := (b4 e he).2.2; omega)
  unfold ta_in at *
  have hdd : (nI (ta_mo τ s) - t 4).toInt = (ta_mo τ s : Int) - (t 4).toInt := by rw [iz_sub (by rw [hmo]; omega) (by rw [hmo]; omega), hmo]
  refine ⟨bx, by_, ?_, ?_, ?_, ?_, t8⟩
  · show -2100 ≤ (if 0 < nI (ta_mo τ s) - t 4 then lb_fd (ta_rx τ s e - t 0) (nI (ta_mo τ s) - t 4) else t 2).toInt ∧ (if 0 < nI (ta_mo τ s) - t 4 then lb_fd (ta_rx τ s e - t 0) (nI (ta_mo τ s) - t 4) else t 2).toInt ≤ 2100
    split
    · rename_i z
      rw [Int32.lt_iff_toInt_lt, Int32.toInt_zero] at z
      have e2 : (ta_rx τ s e - t 0).toInt = (ta_rx τ s e).toInt - (t 0).toInt := iz_sub (by omega) (by omega)
      have := lb_fd_bd (b := 2100) (by omega) (show -2100 ≤ (ta_rx τ s e - t 0).toInt by rw [e2]; omega) (by rw [e2]; omega) z
      exact ⟨this.1, this.2.1⟩
    · exact t2
  · show -2100 ≤ (if 0 < nI (ta_mo τ s) - t 4 then lb_fd (ta_ry τ s e - t 1) (nI (ta_mo τ s) - t 4) else t 3).toInt ∧ (if 0 < nI (ta_mo τ s) - t 4 then lb_fd (ta_ry τ s e - t 1) (nI (ta_mo τ s) - t 4) else t 3).toInt ≤ 2100
    split
    · rename_i z
      rw [Int32.lt_iff_toInt_lt, Int32.toInt_zero] at z
      have e2 : (ta_ry τ s e - t 1).toInt = (ta_ry τ s e).toInt - (t 1).toInt := iz_sub (by omega) (by omega)
      have := lb_fd_bd (b := 2100) (by omega) (show -2100 ≤ (ta_ry τ s e - t 1).toInt by rw [e2]; omega) (by rw [e2]; omega) z
      exact ⟨this.1, this.2.1⟩
    · exact t3
  · show 0 ≤ (nI (ta_mo τ s)).toInt ∧ (nI (ta_mo τ s)).toInt ≤ 999
    rw [hmo]; omega
  · show 0 ≤ (if t 7 = 0 then nI (ta_dm τ s e) else t 7).toInt ∧ (if t 7 = 0 then nI (ta_dm τ s e) else t 7).toInt ≤ 9
    split
    · rw [hdm]; have := (b4 e he).2.2; omega
    · exact t7
theorem tk_miss_ok {τ : ta} {t : Nat → Int32} (ht : tk_ok t) : tk_ok (tk_miss τ t) := by
  obtain ⟨t0, t1, t2, t3, t4, t7, t8⟩ := ht
  unfold tk_miss
  split
  · refine ⟨t0, t1, t2, t3, t4, t7, ?_⟩
    show (if nI (ta_ru τ 4) ≤ t 6 + 1 then (1 : Int32) else 0) = 0 ∨ (if nI (ta_ru τ 4) ≤ t 6 + 1 then (1 : Int32) else 0) = 1
    split
    · exact Or.inr rfl
    · exact Or.inl rfl
  · exact ⟨t0, t1, t2, t3, t4, t7, t8⟩
theorem tk_new_ok {τ : ta} (hτ : ta_ok τ) {s e : Nat} (hs : s < ta_n τ) (he : e < ta_dn τ s) : tk_ok (tk_new τ s e) := by
  obtain ⟨bx, by_⟩ := ta_rx_bd hτ hs he
  obtain ⟨b1, b2, b3, b4⟩ := hτ.2.2.1 s hs
  have hmo : (nI (ta_mo τ s)).toInt = (ta_mo τ s : Int) := nI_toInt (by omega)
  have hdm : (nI (ta_dm τ s e)).toInt = (ta_dm τ s e : Int) := nI_toInt (by have := (b4 e he).2.2; omega)
  have h0 : (0 : Int32).toInt = 0 := by decide
  refine ⟨bx, by_, ?_, ?_, ?_, ?_, Or.inl rfl⟩
  · show -2100 ≤ (0 : Int32).toInt ∧ (0 : Int32).toInt ≤ 2100
    rw [h0]; omega
  · show -2100 ≤ (0 : Int32).toInt ∧ (0 : Int32).toInt ≤ 2100
    rw [h0]; omega
  · show 0 ≤ (nI (ta_mo τ s)).toInt ∧ (nI (ta_mo τ s)).toInt ≤ 999
    rw [hmo]; omega
  · show 0 ≤ (nI (ta_dm τ s e)).toInt ∧ (nI (ta_dm τ s e)).toInt ≤ 9
    rw [hdm]; have := (b4 e he).2.2; omega
theorem jp_f_lt {ps : List Nat} {k : Nat} : ∀ {r e x : Nat}, jp_f ps k r e = some x → e ≤ x ∧ x < e + r ∧ am_nth ps x 9 = k
  | 0, e, x, h => by simp [jp_f] at h
  | r + 1, e, x, h => by
    rw [jp_f] at h
    split at h
    · rename_i z; cases h; exact ⟨Nat.le_refl _, by omega, z⟩
    · have := jp_f_lt h; exact ⟨by omega, by omega, this.2.2⟩
theorem jp_g_lt {ps : List Nat} {j : Nat} : ∀ {r e : Nat}, jp_nb ps e ≤ j → j < jp_nb ps (e + r) → jp_g ps j r e < e + r ∧ am_nth ps (jp_g ps j r e) 9 = 6 ∧ jp_nb ps (jp_g ps j r e) = j
  | 0, e, h1, h2 => by simp at h2; omega
  | r + 1, e, h1, h2 => by
    rw [jp_g]
    split
    · rename_i z; exact ⟨by omega, z.1, z.2⟩
    · rename_i z
      have h3 : jp_nb ps (e + 1) ≤ j := by
        rw [jp_nb]
        split
        · rename_i w
          rcases Nat.lt_or_ge (jp_nb ps e) j with q | q
          · omega
          · exact absurd ⟨w, by omega⟩ z
        · omega
      have := jp_g_lt (ps := ps) (j := j) (r := r) (e := e + 1) h3 (by rw [show e + 1 + r = e + (r + 1) by omega]; exact h2)
      exact ⟨by omega, this.2⟩
theorem wd_ap_ok {τ : ta} (hτ : ta_ok τ) {s m0 c : Nat} (hs : s < ta_n τ) {w : wd} (hw : wd_ok m0 w) {ps : List Nat} (hok : jp_ok (wd_n w) (ta_dn τ s) ps) (hc : c ≤ 1600000 * (m0 + 1)) : wd_ok (m0 + 1) (wd_ap τ s w c ps) := by
  obtain ⟨k1, k2, k3, k4⟩ := hok
  refine ⟨by show wd_n w + jp_nb ps ps.length ≤ 6; rw [k1]; exact k3, hc, fun k hk => ?_⟩
  have hk : k < wd_n w + jp_nb ps ps.length := hk
  show tk_ok (if k < wd_n w then (match jp_at ps k with
      | some d => tk_hit τ (wd_t w k) s d
      | none => tk_miss τ (wd_t w k)) else tk_new τ s (jp_dot ps (k - wd_n w)))
  split
  · rename_i z
    cases hat : jp_at ps k with
    | none => exact tk_miss_ok (hw.2.2 k z)
    | some e =>
      have := jp_f_lt hat
      exact tk_hit_ok hτ (hw.2.2 k z) hs (by omega)
  · rename_i z
    have := jp_g_lt (ps := ps) (j := k - wd_n w) (r := ps.length) (e := 0) (by simp [jp_nb]) (by rw [Nat.zero_add]; omega)
    refine tk_new_ok hτ hs ?_
    have h2 := this.1
    show jp_g ps (k - wd_n w) ps.length 0 < _
    omega
/-- the best: sorted, no more than K, each one of those offered -/
theorem jn_put_mem {x y : jn} : ∀ {l : List jn}, y ∈ jn_put x l → y = x ∨ y ∈ l
  | [], h => by simp [jn_put] at h; exact Or.inl h
  | z :: l, h => by
    rw [jn_put] at h
    split at h
    · rcases List.mem_cons.mp h with h | h
      · exact Or.inr (by rw [h]; exact List.mem_cons_self)
      · rcases jn_put_mem h with h | h
        · exact Or.inl h
        · exact Or.inr (List.mem_cons_of_mem _ h)
    · rcases List.mem_cons.mp h with h | h
      · exact Or.inl h
      · exact Or.inr h
theorem jn_off_mem {K : Nat} {l : List jn} {x y : jn} (h : y ∈ jn_off K l x) : y = x ∨ y ∈ l := jn_put_mem (List.mem_of_mem_take h)
theorem jn_fold_mem {K : Nat} {y : jn} : ∀ {xs l : List jn}, y ∈ xs.foldl (jn_off K) l → y ∈ xs ∨ y ∈ l
  | [], l, h => Or.inr h
  | x :: xs, l, h => by
    rcases jn_fold_mem (xs := xs) (l := jn_off K l x) h with h | h
    · exact Or.inl (List.mem_cons_of_mem _ h)
    · rcases jn_off_mem h with h | h
      · exact Or.inl (by rw [h]; exact List.mem_cons_self)
      · exact Or.inr h
theorem jn_put_len (x : jn) : ∀ l, (jn_put x l).length = l.length + 1
  | [] => rfl
  | z :: l => by
    rw [jn_put]
    split
    · simp [jn_put_len x l]
    · simp
theorem jn_fold_len {K : Nat} (hK : 1 ≤ K) : ∀ {xs l : List jn}, l.length ≤ K → (xs.foldl (jn_off K) l).length ≤ K ∧ (1 ≤ l.length ∨ xs ≠ [] → 1 ≤ (xs.foldl (jn_off K) l).length)
  | [], l, h => ⟨h, fun q => q.elim id (fun z => absurd rfl z)⟩
  | x :: xs, l, h => by
    have h1 : (jn_off K l x).length ≤ K ∧ 1 ≤ (jn_off K l x).length := by
      unfold jn_off
      rw [List.length_take, jn_put_len]
      omega
    have := jn_fold_len hK (xs := xs) (l := jn_off K l x) h1.1
    exact ⟨this.1, fun _ => this.2 (Or.inl h1.2)⟩
theorem jn_fold_srt {K : Nat} (hK : 1 ≤ K) : ∀ {xs l : List jn}, l.length ≤ K → jn_srt l → jn_srt (xs.foldl (jn_off K) l)
  | [], l, h, hs => hs
  | x :: xs, l, h, hs => by
    have h1 : (jn_off K l x).length ≤ K := by
      unfold jn_off
      rw [List.length_take]; omega
    refine jn_fold_srt hK (xs := xs) (l := jn_off K l x) h1 ?_
    obtain ⟨a, a1, a2, a3⟩ := jn_pos l x.1 hs
    rcases Nat.lt_or_ge a K with q | q
    · exact jn_off_srt hs a1 a2 a3 q h
    · have hl : l.length = K := by omega
      rw [jn_off_no hs hK hl (a2 (K - 1) (by omega))]; exact hs
