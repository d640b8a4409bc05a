/-! codes and their digits; what a code costs -/
def dg (n c e : Nat) : Nat := c / 8 ^ (n - 1 - e) % 8
theorem dg_lt (n c e : Nat) : dg n c e < 8 := Nat.mod_lt _ (by decide)
theorem mk_and7' : ∀ a, a < 64 → ∀ b, b < 64 → nI (64 * a + b) &&& 7 = nI (b % 8) := by decide +kernel
theorem mk_and7 (m : Nat) (h : m < 4096) : nI m &&& 7 = nI (m % 8) := by
  have := mk_and7' (m / 64) (by omega) (m % 64) (by omega)
  rw [show 64 * (m / 64) + m % 64 = m by omega] at this
  rw [this]; congr 1; omega
theorem mk_bit : ∀ m, m < 64 → ∀ k, k < 6 → (nI m >>> (nI k &&& 31)) &&& 1 = if m.testBit k = true then 1 else 0 := by decide +kernel
theorem mk_or : ∀ m, m < 64 → ∀ k, k < 6 → nI m ||| ((1 : Int32) <<< (nI k &&& 31)) = nI (m ||| 2 ^ k) ∧ m ||| 2 ^ k < 64 := by decide +kernel
theorem cm_digit {X : am_X} (hX : am_Cl X) (d : Nat) (M : am_M) (n c e : Nat) (hn : n ≤ 4) (he : e < n) (hc : c < 4096) (Q : am_P) (h : Q (some (.inl (nI (dg n c e)))) M) : X d 98 0 [some (.inr (.inl (28, 0))), some (.inl (nI c)), some (.inl (nI n)), some (.inl (nI e))] [] M Q := by
  refine am_go hX [] 30 ?_
  have e1 : 3 * (nI n - 1 - nI e) = nI (3 * (n - 1 - e)) := by
    obtain ⟨t, rfl⟩ : ∃ t, n = t + 1 := ⟨n - 1, by omega⟩
    rw [nI_pred, pk_sub (by omega), show (3 : Int32) = nI 3 from rfl, pk_mul]; rfl
  have e2 : nI c >>> (nI (3 * (n - 1 - e)) &&& 31) = nI (c / 2 ^ (3 * (n - 1 - e))) := by
    have : n - 1 - e = 0 ∨ n - 1 - e = 1 ∨ n - 1 - e = 2 ∨ n - 1 - e = 3 := by omega
    rcases this with z | z | z | z <;> rw [z] <;> exact pk_shrN (by omega) _ _ (by decide)
  have e3 : c / 2 ^ (3 * (n - 1 - e)) = c / 8 ^ (n - 1 - e) := by rw [Nat.pow_mul]
  have e4 : nI c >>> (3 * (nI n - 1 - nI e) &&& 31) &&& 7 = nI (dg n c e) := by
    rw [e1, e2, e3, mk_and7 _ (Nat.lt_of_le_of_lt (Nat.div_le_self _ _) hc)]; rfl
  refine (fun (z : Q (some (.inl (nI c >>> (3 * (nI n - 1 - nI e) &&& 31) &&& 7))) M) => z) ?_
  rw [e4]; exact h
/-- a code's digits tried one by one: what the dots cost, which tracks are taken -/
def jv (T : Nat → Nat → Option Nat) (nT birth fals : Nat) (g : Nat → Nat) : Nat → Nat → (Nat → Bool) → Nat → Option (Nat × (Nat → Bool))
  | 0, _, tak, _ => some (0, tak)
  | r + 1, e, tak, b =>
    if g e < nT then (match T (g e) e with
      | none => none
      | some t => if tak (g e) = true then none else (jv T nT birth fals g r (e + 1) (fun j => bif Nat.beq j (g e) then true else tak j) b).map fun q => (t + q.1, q.2))
    else if g e = 6 then (if nT + b < 6 then (jv T nT birth fals g r (e + 1) tak (b + 1)).map fun q => (birth + q.1, q.2) else none)
    else if g e = 7 then (jv T nT birth fals g r (e + 1) tak b).map fun q => (fals + q.1, q.2) else none
set_option maxHeartbeats 1000000 in
theorem cm_costOf {X : am_X} (hX : am_Cl X) (d : Nat) (M : am_M) (hd : 1 ≤ d) (τ : ta) (hτ : ta_ok τ) (hT : rm_T M τ) (s p : Nat) (hs : s < ta_n τ) (hp : p < 8) (P : Nat → Prop) (w : wd) (hW : rm_W M τ P p w) (m0 : Nat) (hw : wd_ok m0 w) (hj : ∀ e k, e < ta_dn τ s → k < 8 → M.1 55 0 (8 * e + k) = mj_v τ s w e k) (c : Nat) (hc : c < 4096) (Q : am_P)
    (h0 : jv (fun k e => tk_toll τ (wd_t w k) s e) (wd_n w) (ta_ru τ 2) (ta_ru τ 3) (dg (ta_dn τ s) c) (ta_dn τ s) 0 (fun _ => false) 0 = none → Q (some (.inl (-1))) M)
    (h1 : ∀ x tak, jv (fun k e => tk_toll τ (wd_t w k) s e) (wd_n w) (ta_ru τ 2) (ta_ru τ 3) (dg (ta_dn τ s) c) (ta_dn τ s) 0 (fun _ => false) 0 = some (x, tak) → x + jn_cnt (fun k => decide (wd_t w k 8 = 0)) tak (wd_n w) * ta_ru τ 1 ≤ 1600000 → Q (some (.inl (nI (x + jn_cnt (fun k => decide (wd_t w k 8 = 0)) tak (wd_n w) * ta_ru τ 1)))) M) :
    X d 99 0 [some (.inr (.inl (28, 0))), some (.inl (nI p)), some (.inl (nI s)), some (.inl (nI c)), none, none, none, none, none, none] [] M Q := by
  obtain ⟨t1, t2, t3, t4, t5⟩ := id hT
  obtain ⟨a1, a2, a3, a4⟩ := t3 s hs
  obtain ⟨b1, b2, b3, b4⟩ := hτ.2.2.1 s hs
  obtain ⟨w1, w2, w3, -⟩ := hW
  obtain ⟨o1, o2, o3⟩ := hw
  have hn := hτ.1
  obtain ⟨ru0, ru1, ru2, ru3, ru4, ru5⟩ := hτ.2.2.2.2
  generalize hn' : ta_dn τ s = n at *
  generalize hnT : wd_n w = nT at *
  have hTT : ∀ k e t, tk_toll τ (wd_t w k) s e = some t → t ≤ 250000 := fun k e t q => (tk_toll_le hτ q).1
  generalize hTf : (fun k e => tk_toll τ (wd_t w k) s e) = T at h0 h1
  have hTe : ∀ k e, T k e = tk_toll τ (wd_t w k) s e := fun k e => by rw [← hTf]
  refine am_go hX [16] 40 ?_
  refine ⟨s, by show s < 12; omega, rfl, p, hp, rfl, ?_⟩
  refine (fun (z : X d 99 16 [some (.inr (.inl (28, 0))), some (.inl (nI p)), some (.inl (nI s)), some (.inl (nI c)), some (.inl (M.1 33 0 s)), some (.inl (nI 0)), some (.inl (nI 0)), some (.inl (M.1 44 0 p)), some (.inl (nI 0)), none] [] M Q) => z) ?_
  rw [a3, w2]
  -- second loop: tracks that get none
  have tail : ∀ (x m : Nat) (tak : Nat → Bool), x ≤ 1000000 → m < 64 → (∀ k, k < 6 → tak k = m.testBit k) → (x + jn_cnt (fun k => decide (wd_t w k 8 = 0)) tak nT * ta_ru τ 1 ≤ 1600000 → Q (some (.inl (nI (x + jn_cnt (fun k => decide (wd_t w k 8 = 0)) tak nT * ta_ru τ 1)))) M) → ∀ r k, k + r = nT → ∀ (z7 : Int32) z9, X d 99 87 [some (.inr (.inl (28, 0))), some (.inl (nI p)), some (.inl (nI s)), some (.inl (nI c)), some (.inl (nI n)), some (.inl (nI (x + jn_cnt (fun k => decide (wd_t w k 8 = 0)) tak k * ta_ru τ 1))), some (.inl (nI m)), some (.inl (z7)), some (.inl (nI k)), z9] [] M Q := by
    intro x m tak hx hm htk hq r
    induction r with
    | zero =>
      intro k hk z7 z9
      have hk : k = nT := by omega
      subst hk
      have hcl := jn_cnt_le (fun k => decide (wd_t w k 8 = 0)) tak k
      have hmul : jn_cnt (fun k => decide (wd_t w k 8 = 0)) tak k * ta_ru τ 1 ≤ 6 * 100000 := Nat.mul_le_mul (by omega) ru1
      refine am_go hX [87] 40 ?_
      exact ⟨p, hp, rfl, fun _ => hq (by omega), fun (q : ¬ M.1 44 0 p ≤ nI k) => absurd (by rw [w2]; exact nI_le (Nat.le_refl _) (by omega)) q⟩
    | succ r ih =>
      intro k hk z7 z9
      have r8 : M.1 54 0 (6 * p + k) = wd_t w k 8 := w3 k (by omega) 8 (by omega)
      have ix6 : 6 * nI p + nI k = nI (6 * p + k) := by rw [show (6 : Int32) = nI 6 from rfl, pk_mul, nI_add]
      have hbit := mk_bit m hm k (by omega)
      have nxt : ∀ v : Nat, jn_cnt (fun k => decide (wd_t w k 8 = 0)) tak (k + 1) * ta_ru τ 1 = jn_cnt (fun k => decide (wd_t w k 8 = 0)) tak k * ta_ru τ 1 + v → ∀ y : Int32, y = nI v → X d 99 87 [some (.inr (.inl (28, 0))), some (.inl (nI p)), some (.inl (nI s)), some (.inl (nI c)), some (.inl (nI n)), some (.inl (nI (x + jn_cnt (fun k => decide (wd_t w k 8 = 0)) tak k * ta_ru τ 1) + y)), some (.inl (nI m)), some (.inl (z7)), some (.inl (nI k + 1)), z9] [] M Q := by
        rintro v hv y rfl
        rw [nI_1, nI_add, Nat.add_assoc, ← hv]
        exact ih (k + 1) (by omega) z7 z9
      refine am_go hX [87] 60 ?_
      refine ⟨p, hp, rfl, fun (q : M.1 44 0 p ≤ nI k) => absurd q (by rw [w2]; exact nI_ge (by omega) (by omega)), fun _ => ?_⟩
      refine ⟨6 * p + k, by show 6 * p + k < 48; omega, ix6, fun (q : ¬ M.1 54 0 (6 * p + k) = 0) => ?_, fun (q : ¬ ¬ M.1 54 0 (6 * p + k) = 0) => ?_⟩
      · rw [r8] at q
        refine nxt 0 ?_ 0 rfl
        rw [jn_cnt, if_neg (fun z => q (by simpa using z.1)), Nat.add_zero, Nat.add_zero]
      · have q := Classical.not_not.mp q
        rw [r8] at q
        refine ⟨fun (q2 : ¬ (nI m >>> (nI k &&& 31)) &&& 1 = 0) => ?_, fun (q2 : ¬ ¬ (nI m >>> (nI k &&& 31)) &&& 1 = 0) => ?_⟩
        · rw [hbit] at q2
          have q2 : m.testBit k = true := by
            cases z : m.testBit k with
            | true => rfl
            | false => rw [z] at q2; exact absurd rfl q2
          refine nxt 0 ?_ 0 rfl
          rw [jn_cnt, if_neg (fun z => by rw [htk k (by omega), q2] at z; exact absurd z.2 (by decide)), Nat.add_zero, Nat.add_zero]
        · have q2 := Classical.not_not.mp q2
          rw [hbit] at q2
          have q2 : m.testBit k = false := by
            cases z : m.testBit k with
            | false => rfl
            | true => rw [z] at q2; exact absurd q2 (by decide)
          refine ⟨1, by show 1 < 6; omega, rfl, ?_⟩
          refine nxt (ta_ru τ 1) ?_ _ (t5 1 (by omega))
          rw [jn_cnt, if_pos ⟨by simpa using q, by rw [htk k (by omega), q2]⟩, Nat.add_mul, Nat.one_mul]
  -- first loop: the dots
  have dots : ∀ r e : Nat, e + r = n → ∀ (x m b : Nat) (tak : Nat → Bool), x ≤ e * 250000 → m < 64 → nT + b ≤ 6 → (∀ k, k < 6 → tak k = m.testBit k) →
      (jv T nT (ta_ru τ 2) (ta_ru τ 3) (dg n c) r e tak b = none → Q (some (.inl (-1))) M) →
      (∀ y tak', jv T nT (ta_ru τ 2) (ta_ru τ 3) (dg n c) r e tak b = some (y, tak') → x + y + jn_cnt (fun k => decide (wd_t w k 8 = 0)) tak' nT * ta_ru τ 1 ≤ 1600000 → Q (some (.inl (nI (x + y + jn_cnt (fun k => decide (wd_t w k 8 = 0)) tak' nT * ta_ru τ 1)))) M) →
      ∀ z9, X d 99 16 [some (.inr (.inl (28, 0))), some (.inl (nI p)), some (.inl (nI s)), some (.inl (nI c)), some (.inl (nI n)), some (.inl (nI x)), some (.inl (nI m)), some (.inl (nI (nT + b))), some (.inl (nI e)), z9] [] M Q := by
    intro r
    induction r with
    | zero =>
      intro e he x m b tak hx hm hb htk g0 g1 z9
      have he : e = n := by omega
      subst he
      refine am_go hX [16, 87] 40 ?_
      refine ⟨fun _ => ?_, fun (q : ¬ nI e ≤ nI e) => absurd (nI_le (Nat.le_refl _) (by omega)) q⟩
      have := tail x m tak (by omega) hm htk (fun q => g1 0 tak rfl q) nT 0 (by omega) (nI (nT + b)) z9
      rw [jn_cnt, Nat.zero_mul, Nat.add_zero] at this
      exact this
    | succ r ih =>
      intro e he x m b tak hx hm hb htk g0 g1 z9
      have hen : e < n := by omega
      have hg8 := dg_lt n c e
      generalize hq : dg n c e = q at hg8
      have ix8 : 8 * nI e + nI q = nI (8 * e + q) := by rw [show (8 : Int32) = nI 8 from rfl, pk_mul, nI_add]
      have l32 : 8 * e + q < 32 := by omega
      have hjq := hj e q hen hg8
      have hbad : jv T nT (ta_ru τ 2) (ta_ru τ 3) (dg n c) (r + 1) e tak b = none → X d 99 50 [some (.inr (.inl (28, 0))), some (.inl (nI p)), some (.inl (nI s)), some (.inl (nI c)), some (.inl (nI n)), some (.inl (nI x)), some (.inl (nI m)), some (.inl (nI (nT + b))), some (.inl (nI e)), some (.inl (nI q))] [] M Q := by
        intro z
        refine am_go hX [] 20 ?_
        exact g0 z
      -- a good pick: what it costs, the mask, begun ones
      have good : ∀ (v m' b' : Nat) (tak' : Nat → Bool) (um : Int32) (ub : Int32), v ≤ 250000 → M.1 55 0 (8 * e + q) = nI v → m' < 64 → nT + b' ≤ 6 → (∀ k, k < 6 → tak' k = m'.testBit k) → um = nI m' → ub = nI (nT + b') → jv T nT (ta_ru τ 2) (ta_ru τ 3) (dg n c) (r + 1) e tak b = (jv T nT (ta_ru τ 2) (ta_ru τ 3) (dg n c) r (e + 1) tak' b').map (fun y => (v + y.1, y.2)) → X d 99 72 [some (.inr (.inl (28, 0))), some (.inl (nI p)), some (.inl (nI s)), some (.inl (nI c)), some (.inl (nI n)), some (.inl (nI x)), some (.inl (um)), some (.inl (ub)), some (.inl (nI e)), some (.inl (nI q))] [] M Q := by
        intro v m' b' tak' um ub hv hjv hm' hb' htk' hum hub hjv2
        subst hum hub
        refine am_go hX [16] 40 ?_
        refine ⟨8 * e + q, l32, ix8, ?_⟩
        refine (fun (z : X d 99 16 [some (.inr (.inl (28, 0))), some (.inl (nI p)), some (.inl (nI s)), some (.inl (nI c)), some (.inl (nI n)), some (.inl (nI x + M.1 55 0 (8 * e + q))), some (.inl (nI m')), some (.inl (nI (nT + b'))), some (.inl (nI e + 1)), some (.inl (nI q))] [] M Q) => z) ?_
        rw [hjv, nI_add, nI_1]
        refine ih (e + 1) (by omega) (x + v) m' b' tak' (by omega) hm' hb' htk' (fun z => g0 (by rw [hjv2, z]; rfl)) (fun y tk z1 z2 => ?_) _
        have := g1 (v + y) tk (by rw [hjv2, z1]; rfl)
        rw [← Nat.add_assoc] at this
        exact this z2
      have e52 : ∀ (v m' b' : Nat) (tak' : Nat → Bool), v ≤ 250000 → M.1 55 0 (8 * e + q) = nI v → m' < 64 → nT + b' ≤ 6 → (∀ k, k < 6 → tak' k = m'.testBit k) → (q < 6 → nI m ||| ((1 : Int32) <<< (nI q &&& 31)) = nI m') → (¬ q < 6 → m' = m) → (q = 6 → b' = b + 1) → (q ≠ 6 → b' = b) → jv T nT (ta_ru τ 2) (ta_ru τ 3) (dg n c) (r + 1) e tak b = (jv T nT (ta_ru τ 2) (ta_ru τ 3) (dg n c) r (e + 1) tak' b').map (fun y => (v + y.1, y.2)) → X d 99 52 [some (.inr (.inl (28, 0))), some (.inl (nI p)), some (.inl (nI s)), some (.inl (nI c)), some (.inl (nI n)), some (.inl (nI x)), some (.inl (nI m)), some (.inl (nI (nT + b))), some (.inl (nI e)), some (.inl (nI q))] [] M Q := by
        intro v m' b' tak' hv hjv hm' hb' htk' hm1 hm2 hb1 hb2 hjv2
        have e63 : ∀ um : Int32, um = nI m' → X d 99 63 [some (.inr (.inl (28, 0))), some (.inl (nI p)), some (.inl (nI s)), some (.inl (nI c)), some (.inl (nI n)), some (.inl (nI x)), some (.inl (um)), some (.inl (nI (nT + b))), some (.inl (nI e)), some (.inl (nI q))] [] M Q := by
          intro um hum
          refine am_go hX [72] 40 ?_
          refine ⟨fun (z : ¬ nI q = 6) => ?_, fun (z : ¬ ¬ nI q = 6) => ?_⟩
          · have z : q ≠ 6 := fun y => z (by rw [y]; rfl)
            exact good v m' b' tak' um _ hv hjv hm' hb' htk' hum (by rw [hb2 z]; exact Int32.add_zero _) hjv2
          · have z : q = 6 := (nI_eq (b := 6) (by omega) (by decide)).mp (Classical.not_not.mp z)
            exact good v m' b' tak' um _ hv hjv hm' hb' htk' hum (by rw [hb1 z]; exact nI_1 _) hjv2
        refine am_go hX [63] 40 ?_
        refine ⟨fun (z : (6 : Int32) ≤ nI q) => ?_, fun (z : ¬ (6 : Int32) ≤ nI q) => ?_⟩
        · have z := (nI_leI (a := 6) (by decide) (by omega)).mp z
          refine e63 _ ?_
          rw [hm2 (by omega)]
          exact Int32.or_zero
        · have z : q < 6 := by
            rcases Nat.lt_or_ge q 6 with y | y
            · exact y
            · exact absurd (nI_le (a := 6) y (by omega)) z
          exact e63 _ (hm1 z)
      refine am_go hX [16, 50, 52] 60 ?_
      refine ⟨fun (z : nI n ≤ nI e) => absurd z (nI_ge hen (by omega)), fun _ => am_cc hd (cm_digit hX _ _ n c e (by omega) hen hc _ ?_)⟩
      rw [hq]
      refine ⟨8 * e + q, l32, ix8, ?_⟩
      have hju : jv T nT (ta_ru τ 2) (ta_ru τ 3) (dg n c) (r + 1) e tak b = if q < nT then (match T q e with
          | none => none
          | some t => if tak q = true then none else (jv T nT (ta_ru τ 2) (ta_ru τ 3) (dg n c) r (e + 1) (fun j => bif Nat.beq j q then true else tak j) b).map fun y => (t + y.1, y.2))
        else if q = 6 then (if nT + b < 6 then (jv T nT (ta_ru τ 2) (ta_ru τ 3) (dg n c) r (e + 1) tak (b + 1)).map fun y => (ta_ru τ 2 + y.1, y.2) else none)
        else if q = 7 then (jv T nT (ta_ru τ 2) (ta_ru τ 3) (dg n c) r (e + 1) tak b).map fun y => (ta_ru τ 3 + y.1, y.2) else none := by rw [jv, hq]
      have nonneg : ∀ v : Nat, v ≤ 250000 → M.1 55 0 (8 * e + q) = nI v → ¬ M.1 55 0 (8 * e + q) < 0 := fun v hv z => by rw [z]; exact nI_pos (by omega)
      by_cases c1 : q < nT
      · rw [mj_v, if_pos (by omega), if_pos (by omega), ← hTe] at hjq
        rw [if_pos c1] at hju
        cases hTq : T q e with
        | none =>
          rw [hTq] at hjq hju
          exact ⟨fun _ => hbad hju, fun (z : ¬ M.1 55 0 (8 * e + q) < 0) => absurd (by rw [hjq]; decide) z⟩
        | some tl =>
          rw [hTq] at hjq hju
          have htl : tl ≤ 250000 := hTT q e tl (by rw [← hTe]; exact hTq)
          refine ⟨fun (z : M.1 55 0 (8 * e + q) < 0) => absurd z (nonneg tl htl hjq), fun _ => ?_⟩
          refine ⟨fun (z : (6 : Int32) ≤ nI q) => absurd z (nI_ge (b := 6) (by omega) (by decide)), fun _ => ?_⟩
          have hbit := mk_bit m hm q (by omega)
          have htq := htk q (by omega)
          dsimp only at hju
          refine ⟨fun (z : (nI m >>> (nI q &&& 31)) &&& 1 = 1) => ?_, fun (z : ¬ (nI m >>> (nI q &&& 31)) &&& 1 = 1) => ?_⟩
          · rw [hbit] at z
            have z : m.testBit q = true := by
              cases y : m.testBit q with
              | true => rfl
              | false => rw [y] at z; exact absurd z (by decide)
            rw [htq, z, if_pos rfl] at hju
            exact hbad hju
          · rw [hbit] at z
            have z : m.testBit q = false := by
              cases y : m.testBit q with
              | false => rfl
              | true => rw [y] at z; exact absurd rfl z
            rw [htq, z, if_neg (by decide)] at hju
            obtain ⟨or1, or2⟩ := mk_or m hm q (by omega)
            refine ⟨fun (y : ¬ nI q = 6) => ?_, fun (y : ¬ ¬ nI q = 6) => absurd ((nI_eq (b := 6) (by omega) (by decide)).mp (Classical.not_not.mp y)) (by omega)⟩
            refine e52 tl (m ||| 2 ^ q) b _ htl hjq or2 hb (fun k hk => ?_) (fun _ => or1) (fun y => by omega) (fun y => by omega) (fun _ => rfl) hju
            rw [Nat.testBit_or, Nat.testBit_two_pow]
            by_cases y : k = q
            · subst y; rw [Nat.beq_refl]; simp
            · have hbf : Nat.beq k q = false := by
                cases w : Nat.beq k q with
                | false => rfl
                | true => exact absurd (Nat.eq_of_beq_eq_true w) y
              rw [hbf]
              show tak k = _
              rw [htk k hk]
              have : decide (q = k) = false := by simp; omega
              rw [this, Bool.or_false]
      · rw [if_neg c1] at hju
        by_cases c6 : q < 6
        · rw [mj_v, if_pos c6, if_neg (by omega)] at hjq
          rw [if_neg (by omega), if_neg (by omega)] at hju
          exact ⟨fun _ => hbad hju, fun (z : ¬ M.1 55 0 (8 * e + q) < 0) => absurd (by rw [hjq]; decide) z⟩
        · rw [mj_v, if_neg c6] at hjq
          by_cases c66 : q = 6
          · rw [if_pos c66] at hjq hju
            refine ⟨fun (z : M.1 55 0 (8 * e + q) < 0) => absurd z (nonneg _ (by omega) hjq), fun _ => ?_⟩
            refine ⟨fun _ => ?_, fun (z : ¬ (6 : Int32) ≤ nI q) => absurd (nI_le (a := 6) (by omega) (by omega)) z⟩
            refine ⟨fun (z : ¬ nI q = 6) => absurd (by rw [c66]; rfl) z, fun _ => ?_⟩
            refine ⟨fun (z : ¬ nI (nT + b) = 6) => ?_, fun (z : ¬ ¬ nI (nT + b) = 6) => ?_⟩
            · have z : nT + b < 6 := by
                rcases Nat.lt_or_ge (nT + b) 6 with y | y
                · exact y
                · exact absurd (by rw [show nT + b = 6 by omega]; rfl) z
              rw [if_pos z] at hju
              exact e52 (ta_ru τ 2) m (b + 1) tak (by omega) hjq hm (by omega) htk (fun y => absurd y c6) (fun _ => rfl) (fun _ => rfl) (fun y => absurd c66 y) hju
            · have z := (nI_eq (b := 6) (by omega) (by decide)).mp (Classical.not_not.mp z)
              rw [if_neg (by omega)] at hju
              exact hbad hju
          · rw [if_neg c66] at hjq hju
            rw [if_pos (by omega)] at hju
            refine ⟨fun (z : M.1 55 0 (8 * e + q) < 0) => absurd z (nonneg _ (by omega) hjq), fun _ => ?_⟩
            refine ⟨fun _ => ?_, fun (z : ¬ (6 : Int32) ≤ nI q) => absurd (nI_le (a := 6) (by omega) (by omega)) z⟩
            refine ⟨fun _ => ?_, fun (z : ¬ ¬ nI q = 6) => absurd ((nI_eq (b := 6) (by omega) (by decide)).mp (Classical.not_not.mp z)) c66⟩
            exact e52 (ta_ru τ 3) m b tak (by omega) hjq hm hb htk (fun y => absurd y c6) (fun _ => rfl) (fun y => absurd y c66) (fun _ => rfl) hju
  exact dots n 0 (by omega) 0 0 0 (fun _ => false) (by omega) (by omega) (by omega) (fun k _ => by simp) h0 (fun y tak' z1 z2 => by rw [Nat.zero_add] at z2 ⊢; exact h1 y tak' z1 z2) _
