/-! the reference carries a join out -/
theorem am_nth_rg (f : Nat → Nat) (n i x : Nat) (h : i < n) : am_nth ((List.range n).map f) i x = f i := by
  have key : ∀ (l : List Nat) (i : Nat), i < l.length → am_nth (l.map f) i x = f (am_nth l i 0) := by
    intro l
    induction l with
    | nil => intro i h; simp at h
    | cons a l ih => intro i h; cases i with
      | zero => rfl
      | succ i => exact ih i (by simpa using h)
  have k2 : ∀ (n i : Nat), i < n → am_nth (List.range n) i 0 = i := by
    intro n
    induction n with
    | zero => intro i h; omega
    | succ n ih =>
      intro i h
      rw [List.range_succ, am_nth_app, List.length_range]
      by_cases z : i < n
      · rw [if_pos z]; exact ih i z
      · rw [if_neg z]
        have : i = n := by omega
        subst this; rw [Nat.sub_self]; rfl
  rw [key _ i (by simpa using h), k2 n i h]
theorem dgs_at {n c e : Nat} (h : e < n) : am_nth (dgs n c) e 9 = dg n c e := am_nth_rg (dg n c) n e 9 h
theorem dgs_len (n c : Nat) : (dgs n c).length = n := by unfold dgs; simp
theorem jp_f_s (ps : List Nat) (k : Nat) : ∀ (r x : Nat), jp_f ps k (r + 1) x = match jp_f ps k r x with
    | some d => some d
    | none => if am_nth ps (x + r) 9 = k then some (x + r) else none
  | 0, x => by simp [jp_f]
  | r + 1, x => by
    rw [jp_f]
    by_cases z : am_nth ps x 9 = k
    · rw [if_pos z, jp_f, if_pos z]
    · rw [if_neg z, jp_f_s ps k r (x + 1), jp_f, if_neg z, show x + 1 + r = x + (r + 1) by omega]
theorem jp_f_no {ps : List Nat} {n e : Nat} (hdi : jp_di n ps) (he : e < n) (h6 : am_nth ps e 9 < 6) : jp_f ps (am_nth ps e 9) e 0 = none := by
  cases h : jp_f ps (am_nth ps e 9) e 0 with
  | none => rfl
  | some x =>
    have := jp_f_lt h
    have := hdi x e (by omega) he this.2.2
    omega
def mA (M M' : am_M) (τ : ta) (s : Nat) (w : wd) (ps : List Nat) (p : Nat) (P : Nat → Prop) (e : Nat) : Prop :=
  rm_only p M M' ∧ M'.1 44 0 p = nI (wd_n w + jp_nb ps e) ∧ M'.1 43 0 p = M.1 43 0 p ∧
  (∀ k, k < wd_n w → ∀ j, j < 9 → M'.1 (46 + j) 0 (6 * p + k) = (match jp_f ps k e 0 with
    | some x => tk_hit τ (wd_t w k) s x
    | none => wd_t w k) j) ∧
  (∀ i, i < jp_nb ps e → ∀ j, j < 9 → M'.1 (46 + j) 0 (6 * p + (wd_n w + i)) = tk_new τ s (jp_dot ps i) j) ∧
  (∀ s' e', P s' → s' ≠ s → e' < ta_dn τ s' → M'.1 45 0 (48 * p + (4 * s' + e')) = wd_a w s' e') ∧
  (∀ e', e' < e → M'.1 45 0 (48 * p + (4 * s + e')) = jp_ac (wd_n w) ps e') ∧
  ∀ k, k < 48 → M'.1 54 0 k = 0 ∨ M'.1 54 0 k = 1
set_option maxHeartbeats 2000000 in
theorem cm_apply {X : am_X} (hX : am_Cl X) (d : Nat) (M : am_M) (hd : 2 ≤ d) (τ : ta) (hτ : ta_ok τ) (hT : rm_T M τ) (hE : ∀ k, k < 48 → M.1 54 0 k = 0 ∨ M.1 54 0 k = 1) (s p : Nat) (hs : s < ta_n τ) (hp : p < 8) (P : Nat → Prop) (hP : ∀ s, P s → s < ta_n τ) (w : wd) (m0 : Nat) (hw : wd_ok m0 w) (c code : Nat) (hcode : code < 4096) (h43 : M.1 43 0 p = nI c) (h44 : M.1 44 0 p = nI (wd_n w)) (hrows : ∀ k, k < wd_n w → ∀ j, j < 9 → M.1 (46 + j) 0 (6 * p + k) = wd_t w k j) (hacc : ∀ s' e', P s' → e' < ta_dn τ s' → M.1 45 0 (48 * p + (4 * s' + e')) = wd_a w s' e')
    (ps : List Nat) (hps : ps = dgs (ta_dn τ s) code) (hok : jp_ok (wd_n w) (ta_dn τ s) ps) (hdi : jp_di (ta_dn τ s) ps) (Q : am_P)
    (h : ∀ M', rm_only p M M' → rm_W M' τ (fun s' => s' = s ∨ P s') p (wd_ap τ s w c ps) → (∀ k, k < 48 → M'.1 54 0 k = 0 ∨ M'.1 54 0 k = 1) → Q none M') : X d 105 0 [some (.inr (.inl (28, 0))), some (.inl (nI p)), some (.inl (nI s)), some (.inl (nI code)), none, none, none, none, none, none] [] M Q := by
  obtain ⟨t1, t2, t3, t4, t5⟩ := id hT
  obtain ⟨a1, a2, a3, a4⟩ := t3 s hs
  obtain ⟨b1, b2, b3, b4⟩ := hτ.2.2.1 s hs
  obtain ⟨o1, o2, o3⟩ := hw
  obtain ⟨k1, k2, k3, -⟩ := hok
  have hn := hτ.1
  have hb9 : ta_ru τ 4 ≤ 9 := hτ.2.2.2.2.2.2.2.2.1.2
  generalize hnn : ta_dn τ s = n at *
  generalize hnT : wd_n w = nT at *
  have ix6 : ∀ k, 6 * nI p + nI k = nI (6 * p + k) := fun k => by rw [show (6 : Int32) = nI 6 from rfl, pk_mul, nI_add]
  -- second loop: those that get none
  have tail : ∀ (m : Nat), m < 64 → (∀ k, k < 6 → m.testBit k = (jp_f ps k n 0).isSome) → ∀ r k : Nat, k + r = nT → ∀ M' : am_M, rm_only p M M' → M'.1 44 0 p = nI (nT + jp_nb ps n) → M'.1 43 0 p = M.1 43 0 p →
      (∀ k', k ≤ k' → k' < nT → ∀ j, j < 9 → M'.1 (46 + j) 0 (6 * p + k') = (match jp_f ps k' n 0 with
        | some x => tk_hit τ (wd_t w k') s x
        | none => wd_t w k') j) → (∀ k', k' < k → ∀ j, j < 9 → M'.1 (46 + j) 0 (6 * p + k') = wd_t (wd_ap τ s w c ps) k' j) →
      (∀ i, i < jp_nb ps n → ∀ j, j < 9 → M'.1 (46 + j) 0 (6 * p + (nT + i)) = tk_new τ s (jp_dot ps i) j) →
      (∀ s' e', P s' → s' ≠ s → e' < ta_dn τ s' → M'.1 45 0 (48 * p + (4 * s' + e')) = wd_a w s' e') → (∀ e', e' < n → M'.1 45 0 (48 * p + (4 * s + e')) = jp_ac nT ps e') → (∀ k, k < 48 → M'.1 54 0 k = 0 ∨ M'.1 54 0 k = 1) →
      ∀ z8 z9, X d 105 97 [some (.inr (.inl (28, 0))), some (.inl (nI p)), some (.inl (nI s)), some (.inl (nI code)), some (.inl (nI n)), some (.inl (nI nT)), some (.inl (nI m)), some (.inl (nI k)), z8, z9] [] M' Q := by
    intro m hm hbits r
    have hap_lt : ∀ k, k < nT → wd_t (wd_ap τ s w c ps) k = match jp_f ps k n 0 with
        | some x => tk_hit τ (wd_t w k) s x
        | none => tk_miss τ (wd_t w k) := by
      intro k hk
      show (if k < wd_n w then (match jp_at ps k with
        | some d => tk_hit τ (wd_t w k) s d
        | none => tk_miss τ (wd_t w k)) else _) = _
      rw [if_pos (by omega)]
      unfold jp_at
      rw [k1]
    induction r with
    | zero =>
      intro k hk M' ho h1 h2 hrest hdone hnew hac1 hac2 hE' z8 z9
      have hk : k = nT := by omega
      subst hk
      refine am_go hX [97] 40 ?_
      refine ⟨fun _ => h M' ho ⟨h2.trans h43, ?_, fun k' hk' j hj => ?_, fun s' e' hs' he' => ?_⟩ hE', fun (q : ¬ nI k ≤ nI k) => absurd (nI_le (Nat.le_refl _) (by omega)) q⟩
      · rw [h1]
        show _ = nI (wd_n w + jp_nb ps ps.length)
        rw [hnT, k1]
      · have hk' : k' < wd_n w + jp_nb ps ps.length := hk'
        rw [hnT, k1] at hk'
        by_cases z : k' < k
        · exact hdone k' z j hj
        · have e := hnew (k' - k) (by omega) j hj
          rw [show k + (k' - k) = k' by omega] at e
          rw [e]
          show _ = (if k' < wd_n w then _ else tk_new τ s (jp_dot ps (k' - wd_n w))) j
          rw [if_neg (by omega), hnT]
      · show _ = (if s' = s then jp_ac (wd_n w) ps e' else wd_a w s' e')
        by_cases z : s' = s
        · subst z; rw [if_pos rfl, hnT]; exact hac2 e' (by omega)
        · rw [if_neg z]; exact hac1 s' e' (hs'.resolve_left z) z he'
    | succ r ih =>
      intro k hk M' ho h1 h2 hrest hdone hnew hac1 hac2 hE' z8 z9
      have hkn : k < nT := by omega
      have pk : 6 * p + k < 48 := by omega
      have hro := hrest k (Nat.le_refl k) hkn
      -- on, with what this track's cells hold
      have nxt : ∀ (M2 : am_M) (rr : Nat → Int32), mk_row M' M2 (6 * p + k) rr → (∀ j, j < 9 → rr j = wd_t (wd_ap τ s w c ps) k j) → (rr 8 = 0 ∨ rr 8 = 1) → X d 105 143 [some (.inr (.inl (28, 0))), some (.inl (nI p)), some (.inl (nI s)), some (.inl (nI code)), some (.inl (nI n)), some (.inl (nI nT)), some (.inl (nI m)), some (.inl (nI k)), some (.inl (nI (6 * p + k))), z9] [] M2 Q := by
        intro M2 rr hr hrr h8
        refine am_go hX [97] 40 ?_
        refine (fun (z : X d 105 97 [some (.inr (.inl (28, 0))), some (.inl (nI p)), some (.inl (nI s)), some (.inl (nI code)), some (.inl (nI n)), some (.inl (nI nT)), some (.inl (nI m)), some (.inl (nI k + 1)), some (.inl (nI (6 * p + k))), z9] [] M2 Q) => z) ?_
        rw [nI_1]
        refine ih (k + 1) (by omega) M2 (rm_only_row ho (by omega) hr) ((hr.2.1 _ _ _ (by omega)).trans h1) ((hr.2.1 _ _ _ (by omega)).trans h2) (fun k' q1 q2 j hj => ?_) (fun k' q1 j hj => ?_) (fun i hi j hj => ?_) (fun s' e' q1 q2 q3 => (hr.2.1 _ _ _ (by omega)).trans (hac1 s' e' q1 q2 q3)) (fun e' q => (hr.2.1 _ _ _ (by omega)).trans (hac2 e' q)) (fun k' q => ?_) _ _
        · rw [hr.2.1 _ _ _ (by omega)]; exact hrest k' (by omega) q2 j hj
        · by_cases z : k' = k
          · subst z; rw [hr.2.2 j hj]; exact hrr j hj
          · rw [hr.2.1 _ _ _ (by omega)]; exact hdone k' (by omega) j hj
        · rw [hr.2.1 _ _ _ (by omega)]; exact hnew i hi j hj
        · by_cases z : k' = 6 * p + k
          · subst z; rw [hr.2.2 8 (by omega)]; exact h8
          · rw [hr.2.1 _ _ _ (by omega)]; exact hE' k' q
      have same : mk_row M' M' (6 * p + k) (fun j => M'.1 (46 + j) 0 (6 * p + k)) := ⟨rfl, fun _ _ _ _ => rfl, fun _ _ => rfl⟩
      have hbit := mk_bit m hm k (by omega)
      have hbk := hbits k (by omega)
      have hok8 : M'.1 54 0 (6 * p + k) = wd_t w k 8 := by
        have := hro 8 (by omega)
        rw [show (46 + 8 : Nat) = 54 from rfl] at this
        rw [this]
        cases jp_f ps k n 0 with
        | none => rfl
        | some x => rfl
      refine am_go hX [97, 119, 143] 60 ?_
      refine ⟨fun (q : nI nT ≤ nI k) => absurd q (nI_ge hkn (by omega)), fun _ => ?_⟩
      refine ⟨6 * p + k, pk, ix6 k, fun (q : ¬ M'.1 54 0 (6 * p + k) = 0) => ?_, fun (q : ¬ ¬ M'.1 54 0 (6 * p + k) = 0) => ?_⟩
      · refine (fun (z : X d 105 143 [some (.inr (.inl (28, 0))), some (.inl (nI p)), some (.inl (nI s)), some (.inl (nI code)), some (.inl (nI n)), some (.inl (nI nT)), some (.inl (nI m)), some (.inl (nI k)), some (.inl (6 * nI p + nI k)), z9] [] M' Q) => z) ?_
        rw [ix6]
        rw [hok8] at q
        refine nxt M' _ same (fun j hj => ?_) (hE' _ pk)
        show M'.1 (46 + j) 0 (6 * p + k) = _
        rw [hro j hj, hap_lt k hkn]
        cases jp_f ps k n 0 with
        | some x => rfl
        | none =>
          show wd_t w k j = tk_miss τ (wd_t w k) j
          unfold tk_miss
          rw [if_neg q]
      · have q := Classical.not_not.mp q
        refine ⟨fun (q2 : ¬ (nI m >>> (nI k &&& 31)) &&& 1 = 1) => ?_, fun (q2 : ¬ ¬ (nI m >>> (nI k &&& 31)) &&& 1 = 1) => ?_⟩
        · rw [hbit] at q2
          have q2 : m.testBit k = false := by
            cases z : m.testBit k with
            | false => rfl
            | true => rw [z] at q2; exact absurd rfl q2
          rw [q2] at hbk
          have hno : jp_f ps k n 0 = none := by
            cases z : jp_f ps k n 0 with
            | none => rfl
            | some x => rw [z] at hbk; cases hbk
          rw [hok8] at q
          have hro' : ∀ j, j < 9 → M'.1 (46 + j) 0 (6 * p + k) = wd_t w k j := fun j hj => by rw [hro j hj, hno]
          refine (fun (z : X d 105 119 [some (.inr (.inl (28, 0))), some (.inl (nI p)), some (.inl (nI s)), some (.inl (nI code)), some (.inl (nI n)), some (.inl (nI nT)), some (.inl (nI m)), some (.inl (nI k)), some (.inl (6 * nI p + nI k)), z9] [] M' Q) => z) ?_
          rw [ix6]
          have e52 : M'.1 52 0 (6 * p + k) = wd_t w k 6 := hro' 6 (by omega)
          have e41 : M'.1 41 0 4 = nI (ta_ru τ 4) := (ho.2 41 0 4 (fun z => by unfold rm_in at z; omega)).trans (t5 4 (by omega))
          refine am_go hX [143] 60 ?_
          refine ⟨6 * p + k, pk, rfl, 6 * p + k, pk, rfl, 6 * p + k, pk, rfl, 4, by show 4 < 6; omega, rfl, ?_⟩
          have key : ∀ y : Int32, y = (if nI (ta_ru τ 4) ≤ wd_t w k 6 + 1 then 1 else 0) → X d 105 143 [some (.inr (.inl (28, 0))), some (.inl (nI p)), some (.inl (nI s)), some (.inl (nI code)), some (.inl (nI n)), some (.inl (nI nT)), some (.inl (nI m)), some (.inl (nI k)), some (.inl (nI (6 * p + k))), z9] [] (am_si (am_si M' 52 0 (6 * p + k) (wd_t w k 6 + 1)) 54 0 (6 * p + k) y) Q := by
            rintro y rfl
            refine nxt _ (tk_miss τ (wd_t w k)) ⟨rfl, fun f i k' z => ?_, fun j hj => ?_⟩ (fun j hj => ?_) ?_
            · rw [am_si_at, if_neg (by omega), am_si_at, if_neg (by omega)]
            · unfold tk_miss
              rw [if_pos q]
              match j, hj with
              | 0, _ => refine Eq.trans ?_ (hro' 0 (by omega)); simp [am_si_at]
              | 1, _ => refine Eq.trans ?_ (hro' 1 (by omega)); simp [am_si_at]
              | 2, _ => refine Eq.trans ?_ (hro' 2 (by omega)); simp [am_si_at]
              | 3, _ => refine Eq.trans ?_ (hro' 3 (by omega)); simp [am_si_at]
              | 4, _ => refine Eq.trans ?_ (hro' 4 (by omega)); simp [am_si_at]
              | 5, _ => refine Eq.trans ?_ (hro' 5 (by omega)); simp [am_si_at]
              | 6, _ => simp [am_si_at]
              | 7, _ => refine Eq.trans ?_ (hro' 7 (by omega)); simp [am_si_at]
              | 8, _ => simp [am_si_at]
            · rw [hap_lt k hkn, hno]
            · have := (tk_miss_ok (τ := τ) (o3 k hkn)).2.2.2.2.2.2
              exact this
          refine ⟨fun (z : (am_si M' 52 0 (6 * p + k) (M'.1 52 0 (6 * p + k) + 1)).1 52 0 (6 * p + k) < M'.1 41 0 4) => ?_, fun (z : ¬ (am_si M' 52 0 (6 * p + k) (M'.1 52 0 (6 * p + k) + 1)).1 52 0 (6 * p + k) < M'.1 41 0 4) => ?_⟩
          · rw [am_si_at, if_pos ⟨rfl, rfl, rfl⟩, e52, e41] at z
            refine ⟨6 * p + k, pk, rfl, Or.inl rfl, ?_⟩
            refine (fun (y : X d 105 143 [some (.inr (.inl (28, 0))), some (.inl (nI p)), some (.inl (nI s)), some (.inl (nI code)), some (.inl (nI n)), some (.inl (nI nT)), some (.inl (nI m)), some (.inl (nI k)), some (.inl (nI (6 * p + k))), z9] [] (am_si (am_si M' 52 0 (6 * p + k) (M'.1 52 0 (6 * p + k) + 1)) 54 0 (6 * p + k) 0) Q) => y) ?_
            rw [e52]
            exact key 0 (by rw [if_neg (Int32.not_le.mpr z)])
          · rw [am_si_at, if_pos ⟨rfl, rfl, rfl⟩, e52, e41] at z
            refine ⟨6 * p + k, pk, rfl, Or.inr rfl, ?_⟩
            refine (fun (y : X d 105 143 [some (.inr (.inl (28, 0))), some (.inl (nI p)), some (.inl (nI s)), some (.inl (nI code)), some (.inl (nI n)), some (.inl (nI nT)), some (.inl (nI m)), some (.inl (nI k)), some (.inl (nI (6 * p + k))), z9] [] (am_si (am_si M' 52 0 (6 * p + k) (M'.1 52 0 (6 * p + k) + 1)) 54 0 (6 * p + k) 1) Q) => y) ?_
            rw [e52]
            exact key 1 (by rw [if_pos (Int32.not_lt.mp z)])
        · have q2 := Classical.not_not.mp q2
          rw [hbit] at q2
          have q2 : m.testBit k = true := by
            cases z : m.testBit k with
            | true => rfl
            | false => rw [z] at q2; exact absurd q2 (by decide)
          rw [q2] at hbk
          refine (fun (z : X d 105 143 [some (.inr (.inl (28, 0))), some (.inl (nI p)), some (.inl (nI s)), some (.inl (nI code)), some (.inl (nI n)), some (.inl (nI nT)), some (.inl (nI m)), some (.inl (nI k)), some (.inl (6 * nI p + nI k)), z9] [] M' Q) => z) ?_
          rw [ix6]
          refine nxt M' _ same (fun j hj => ?_) (hE' _ pk)
          show M'.1 (46 + j) 0 (6 * p + k) = _
          rw [hro j hj, hap_lt k hkn]
          cases z : jp_f ps k n 0 with
          | some x => rfl
          | none => rw [z] at hbk; cases hbk
  -- first loop: the dots
  have dots : ∀ r e : Nat, e + r = n → ∀ (m : Nat) (M' : am_M), m < 64 → (∀ k, k < 6 → m.testBit k = (jp_f ps k e 0).isSome) → mA M M' τ s w ps p P e → ∀ z8 z9, X d 105 14 [some (.inr (.inl (28, 0))), some (.inl (nI p)), some (.inl (nI s)), some (.inl (nI code)), some (.inl (nI n)), some (.inl (nI nT)), some (.inl (nI m)), some (.inl (nI e)), z8, z9] [] M' Q := by
    intro r
    induction r with
    | zero =>
      intro e he m M' hm hbits hA z8 z9
      have he : e = n := by omega
      subst he
      obtain ⟨ho, h1, h2, hr1, hr2, hac1, hac2, hE'⟩ := hA
      refine am_go hX [14, 97] 40 ?_
      refine ⟨fun _ => ?_, fun (q : ¬ nI e ≤ nI e) => absurd (nI_le (Nat.le_refl _) (by omega)) q⟩
      rw [hnT] at h1 hr1 hr2 hac2
      exact tail m hm hbits nT 0 (by omega) M' ho h1 h2 (fun k' _ q j hj => hr1 k' q j hj) (fun k' q => by omega) hr2 hac1 hac2 hE' _ _
    | succ r ih =>
      intro e he m M' hm hbits hA z8 z9
      have hen : e < n := by omega
      obtain ⟨ho, h1, h2, hr1, hr2, hac1, hac2, hE'⟩ := hA
      rw [hnT] at h1 hr1 hr2 hac2
      have hT' : rm_T M' τ := rm_T_fr hT (am_fg_of (rm_only_fr ho) []) (by simp)
      have hqe : am_nth ps e 9 = dg n code e := by rw [hps, dgs_at hen]
      have hq3 := k2 e hen
      have hnb : nT + jp_nb ps (e + 1) ≤ 6 := by have := jp_nb_le ps (a := e + 1) (b := n) (by omega); omega
      have hnbs : jp_nb ps (e + 1) = jp_nb ps e + (if am_nth ps e 9 = 6 then 1 else 0) := rfl
      have hg8 := dg_lt n code e
      generalize hq : dg n code e = q at hg8 hqe
      rw [hqe] at hq3 hnbs
      have pacc : 48 * p + 4 * s + e < 384 := by omega
      have ixa : 48 * nI p + 4 * nI s + nI e = nI (48 * p + 4 * s + e) := by rw [show (48 : Int32) = nI 48 from rfl, show (4 : Int32) = nI 4 from rfl, pk_mul, pk_mul, nI_add, nI_add]
      have e44 : M'.1 44 0 p = nI (nT + jp_nb ps e) := h1
      -- what is to be shown behind this dot
      have nxt : ∀ (M2 : am_M) (m2 : Nat), m2 < 64 → (∀ k, k < 6 → m2.testBit k = (jp_f ps k (e + 1) 0).isSome) → mA M M2 τ s w ps p P (e + 1) → ∀ z9, X d 105 93 [some (.inr (.inl (28, 0))), some (.inl (nI p)), some (.inl (nI s)), some (.inl (nI code)), some (.inl (nI n)), some (.inl (nI nT)), some (.inl (nI m2)), some (.inl (nI e)), some (.inl (nI q)), z9] [] M2 Q := by
        intro M2 m2 hm2 hb2 hA2 z9
        refine am_go hX [14] 40 ?_
        refine (fun (z : X d 105 14 [some (.inr (.inl (28, 0))), some (.inl (nI p)), some (.inl (nI s)), some (.inl (nI code)), some (.inl (nI n)), some (.inl (nI nT)), some (.inl (nI m2)), some (.inl (nI e + 1)), some (.inl (nI q)), z9] [] M2 Q) => z) ?_
        rw [nI_1]
        exact ih (e + 1) (by omega) m2 M2 hm2 hb2 hA2 _ _
      have at37 : ∀ acc : Int32, acc = jp_ac nT ps e → X d 105 37 [some (.inr (.inl (28, 0))), some (.inl (nI p)), some (.inl (nI s)), some (.inl (nI code)), some (.inl (nI n)), some (.inl (nI nT)), some (.inl (nI m)), some (.inl (nI e)), some (.inl (nI q)), z9] [.inl acc] M' Q := by
        rintro acc rfl
        generalize hM1 : am_si M' 45 0 (48 * p + 4 * s + e) (jp_ac nT ps e) = M1
        have ho1 : rm_only p M M1 := by rw [← hM1]; exact rm_only_si ho (by unfold rm_in; omega)
        have f1 : ∀ f i k, f ≠ 45 → M1.1 f i k = M'.1 f i k := fun f i k z => by rw [← hM1, am_si_at, if_neg (fun y => z y.1)]
        have f45 : ∀ k, M1.1 45 0 k = if k = 48 * p + 4 * s + e then jp_ac nT ps e else M'.1 45 0 k := fun k => by rw [← hM1, am_si_at]; simp
        have hT1 : rm_T M1 τ := rm_T_fr hT (am_fg_of (rm_only_fr ho1) []) (by simp)
        -- accounts behind
        have ac1 : ∀ s' e', P s' → s' ≠ s → e' < ta_dn τ s' → M1.1 45 0 (48 * p + (4 * s' + e')) = wd_a w s' e' := by
          intro s' e' q1 q2 q3
          have := (hτ.2.2.1 s' (hP s' q1)).2.2.1
          rw [f45, if_neg (by omega)]; exact hac1 s' e' q1 q2 q3
        have ac2 : ∀ e', e' < e + 1 → M1.1 45 0 (48 * p + (4 * s + e')) = jp_ac nT ps e' := by
          intro e' q1
          rw [f45]
          by_cases z : e' = e
          · subst z; rw [if_pos (by omega)]
          · rw [if_neg (by omega)]; exact hac2 e' (by omega)
        refine am_go hX [93] 60 ?_
        refine ⟨48 * p + 4 * s + e, pacc, ixa, ?_⟩
        refine ⟨fun (z : ¬ nI q = 6) => ?_, fun (z : ¬ ¬ nI q = 6) => ?_⟩
        · have z : q ≠ 6 := fun y => z (by rw [y]; rfl)
          rw [if_neg z, Nat.add_zero] at hnbs
          refine ⟨fun (y : (6 : Int32) ≤ nI q) => ?_, fun (y : ¬ (6 : Int32) ≤ nI q) => ?_⟩
          · have y := (nI_leI (a := 6) (by decide) (by omega)).mp y
            refine (fun (x : X d 105 93 [some (.inr (.inl (28, 0))), some (.inl (nI p)), some (.inl (nI s)), some (.inl (nI code)), some (.inl (nI n)), some (.inl (nI nT)), some (.inl (nI m)), some (.inl (nI e)), some (.inl (nI q)), some (.inl (jp_ac nT ps e))] [] (am_si M' 45 0 (48 * p + 4 * s + e) (jp_ac nT ps e)) Q) => x) ?_
            rw [hM1]
            have hf : ∀ k, k < 6 → jp_f ps k (e + 1) 0 = jp_f ps k e 0 := by
              intro k hk
              rw [jp_f_s]
              cases jp_f ps k e 0 with
              | some x => rfl
              | none =>
                show (if am_nth ps (0 + e) 9 = k then _ else none) = none
                rw [Nat.zero_add, hqe, if_neg (by omega)]
            refine nxt M1 m hm (fun k hk => by rw [hf k hk]; exact hbits k hk) ⟨ho1, ?_, ?_, fun k hk j hj => ?_, fun i hi j hj => ?_, ac1, by rw [hnT]; exact ac2, fun k hk => ?_⟩ _
            · rw [f1 _ _ _ (by omega), hnbs, hnT]; exact h1
            · rw [f1 _ _ _ (by omega)]; exact h2
            · rw [hnT] at hk
              rw [f1 _ _ _ (by omega), hf k (by omega)]; exact hr1 k hk j hj
            · rw [f1 _ _ _ (by omega), hnT]; exact hr2 i (by omega) j hj
            · rw [f1 _ _ _ (by omega)]; exact hE' k hk
          · have y : q < 6 := by
              rcases Nat.lt_or_ge q 6 with x | x
              · exact x
              · exact absurd (nI_le (a := 6) x (by omega)) y
            have hqn : q < nT := by omega
            have pq : 6 * p + q < 48 := by omega
            have hno : jp_f ps q e 0 = none := by have := jp_f_no hdi hen (by rw [hqe]; exact y); rwa [hqe] at this
            obtain ⟨or1, or2⟩ := mk_or m hm q y
            refine am_cc (by omega) ?_
            refine (fun (x : X (d - 1) 104 0 [some (.inr (.inl (28, 0))), some (.inl (6 * nI p + nI q)), some (.inl (nI s)), some (.inl (nI e)), none] [] (am_si M' 45 0 (48 * p + 4 * s + e) (jp_ac nT ps e)) _) => x) ?_
            rw [hM1, ix6]
            refine cm_goOn hX _ _ (by omega) τ hτ hT1 s e hs (by omega) (6 * p + q) pq (wd_t w q) (fun j hj => ?_) (o3 q hqn) _ (fun M2 hr => ?_)
            · rw [f1 _ _ _ (by omega), hr1 q hqn j hj, hno]
            · refine (fun (x : X d 105 93 [some (.inr (.inl (28, 0))), some (.inl (nI p)), some (.inl (nI s)), some (.inl (nI code)), some (.inl (nI n)), some (.inl (nI nT)), some (.inl (nI m ||| ((1 : Int32) <<< (nI q &&& 31)))), some (.inl (nI e)), some (.inl (nI q)), some (.inl (jp_ac nT ps e))] [] M2 Q) => x) ?_
              rw [or1]
              have hfo : ∀ k, k ≠ q → jp_f ps k (e + 1) 0 = jp_f ps k e 0 := by
                intro k hk
                rw [jp_f_s]
                cases jp_f ps k e 0 with
                | some x => rfl
                | none =>
                  show (if am_nth ps (0 + e) 9 = k then _ else none) = none
                  rw [Nat.zero_add, hqe, if_neg (by omega)]
              have hfq : jp_f ps q (e + 1) 0 = some e := by
                rw [jp_f_s, hno]
                show (if am_nth ps (0 + e) 9 = q then some (0 + e) else none) = some e
                rw [Nat.zero_add, if_pos hqe]
              refine nxt M2 _ or2 (fun k hk => ?_) ⟨rm_only_row ho1 y hr, ?_, ?_, fun k hk j hj => ?_, fun i hi j hj => ?_, fun s' e' q1 q2 q3 => ?_, fun e' q1 => ?_, fun k hk => ?_⟩ _
              · rw [Nat.testBit_or, Nat.testBit_two_pow]
                by_cases x : k = q
                · subst x; rw [hfq]; simp
                · rw [hfo k x, ← hbits k hk]
                  have : decide (q = k) = false := by simp; omega
                  rw [this, Bool.or_false]
              · rw [hr.2.1 _ _ _ (by omega), f1 _ _ _ (by omega), hnbs, hnT]; exact h1
              · rw [hr.2.1 _ _ _ (by omega), f1 _ _ _ (by omega)]; exact h2
              · rw [hnT] at hk
                by_cases x : k = q
                · subst x; rw [hr.2.2 j hj, hfq]
                · rw [hr.2.1 _ _ _ (by omega), f1 _ _ _ (by omega), hfo k x]; exact hr1 k hk j hj
              · rw [hnT, hr.2.1 _ _ _ (by omega), f1 _ _ _ (by omega)]; exact hr2 i (by omega) j hj
              · rw [hr.2.1 _ _ _ (by omega)]; exact ac1 s' e' q1 q2 q3
              · rw [hnT, hr.2.1 _ _ _ (by omega)]; exact ac2 e' q1
              · by_cases x : k = 6 * p + q
                · subst x; rw [hr.2.2 8 (by omega)]; exact (o3 q hqn).2.2.2.2.2.2
                · rw [hr.2.1 _ _ _ (by omega), f1 _ _ _ (by omega)]; exact hE' k hk
        · have z : q = 6 := (nI_eq (b := 6) (by omega) (by decide)).mp (Classical.not_not.mp z)
          rw [if_pos z] at hnbs
          have pq : 6 * p + (nT + jp_nb ps e) < 48 := by omega
          have e44' : M1.1 44 0 p = nI (nT + jp_nb ps e) := by rw [f1 _ _ _ (by omega)]; exact h1
          refine ⟨p, hp, rfl, am_cc (by omega) ?_⟩
          refine (fun (x : X (d - 1) 103 0 [some (.inr (.inl (28, 0))), some (.inl (6 * nI p + M'.1 44 0 p)), some (.inl (nI s)), some (.inl (nI e))] [] (am_si M' 45 0 (48 * p + 4 * s + e) (jp_ac nT ps e)) _) => x) ?_
          rw [hM1, e44, ix6]
          refine cm_begin hX _ _ (by omega) τ hτ hT1 s e hs (by omega) _ pq _ (fun M2 hr => ?_)
          refine ⟨p, hp, rfl, p, hp, rfl, ?_⟩
          refine (fun (x : X d 105 93 [some (.inr (.inl (28, 0))), some (.inl (nI p)), some (.inl (nI s)), some (.inl (nI code)), some (.inl (nI n)), some (.inl (nI nT)), some (.inl (nI m)), some (.inl (nI e)), some (.inl (nI q)), some (.inl (jp_ac nT ps e))] [] (am_si M2 44 0 p (M2.1 44 0 p + 1)) Q) => x) ?_
          have e2 : M2.1 44 0 p + 1 = nI (nT + jp_nb ps (e + 1)) := by rw [hr.2.1 _ _ _ (by omega), e44', nI_1, hnbs, Nat.add_assoc]
          rw [e2]
          have hf : ∀ k, k < 6 → jp_f ps k (e + 1) 0 = jp_f ps k e 0 := by
            intro k hk
            rw [jp_f_s]
            cases jp_f ps k e 0 with
            | some x => rfl
            | none =>
              show (if am_nth ps (0 + e) 9 = k then _ else none) = none
              rw [Nat.zero_add, hqe, if_neg (by omega)]
          have hdot : jp_dot ps (jp_nb ps e) = e := jp_dot_at ps (by omega) (by rw [hqe, z])
          refine nxt _ m hm (fun k hk => by rw [hf k hk]; exact hbits k hk) ⟨rm_only_si (rm_only_row (k := nT + jp_nb ps e) ho1 (by omega) hr) (by unfold rm_in; omega), ?_, ?_, fun k hk j hj => ?_, fun i hi j hj => ?_, fun s' e' q1 q2 q3 => ?_, fun e' q1 => ?_, fun k hk => ?_⟩ _
          · rw [am_si_at, if_pos ⟨rfl, rfl, rfl⟩, hnT]
          · rw [am_si_at, if_neg (by omega), hr.2.1 _ _ _ (by omega), f1 _ _ _ (by omega)]; exact h2
          · rw [hnT] at hk
            rw [am_si_at, if_neg (by omega), hr.2.1 _ _ _ (by omega), f1 _ _ _ (by omega), hf k (by omega)]; exact hr1 k hk j hj
          · rw [am_si_at, if_neg (by omega), hnT]
            by_cases x : i = jp_nb ps e
            · subst x; rw [hr.2.2 j hj, hdot]
            · rw [hr.2.1 _ _ _ (by omega), f1 _ _ _ (by omega)]; exact hr2 i (by omega) j hj
          · rw [am_si_at, if_neg (by omega), hr.2.1 _ _ _ (by omega)]; exact ac1 s' e' q1 q2 q3
          · rw [am_si_at, if_neg (by omega), hnT, hr.2.1 _ _ _ (by omega)]; exact ac2 e' q1
          · rw [am_si_at, if_neg (by omega)]
            by_cases x : k = 6 * p + (nT + jp_nb ps e)
            · subst x; rw [hr.2.2 8 (by omega)]; exact Or.inl rfl
            · rw [hr.2.1 _ _ _ (by omega), f1 _ _ _ (by omega)]; exact hE' k hk
      refine am_go hX [14, 37] 60 ?_
      refine ⟨fun (z : nI n ≤ nI e) => absurd z (nI_ge hen (by omega)), fun _ => am_cc (by omega) (cm_digit hX _ _ n code e (by omega) hen hcode _ ?_)⟩
      rw [hq]
      refine ⟨fun (z : ¬ nI q = 7) => ?_, fun (z : ¬ ¬ nI q = 7) => ?_⟩
      · have z : q ≠ 7 := fun y => z (by rw [y]; rfl)
        refine ⟨fun (y : ¬ nI q = 6) => ?_, fun (y : ¬ ¬ nI q = 6) => ?_⟩
        · have y : q ≠ 6 := fun x => y (by rw [x]; rfl)
          refine at37 (nI q) ?_
          unfold jp_ac
          rw [hqe, if_neg z, if_neg y]
        · have y : q = 6 := (nI_eq (b := 6) (by omega) (by decide)).mp (Classical.not_not.mp y)
          refine ⟨p, hp, rfl, ?_⟩
          refine at37 (M'.1 44 0 p) ?_
          unfold jp_ac
          rw [hqe, if_neg z, if_pos y, e44]
      · have z : q = 7 := (nI_eq (b := 7) (by omega) (by decide)).mp (Classical.not_not.mp z)
        refine at37 (-1) ?_
        unfold jp_ac
        rw [hqe, if_pos z]
  refine am_go hX [14] 40 ?_
  refine ⟨s, by show s < 12; omega, rfl, p, hp, rfl, ?_⟩
  refine (fun (z : X d 105 14 [some (.inr (.inl (28, 0))), some (.inl (nI p)), some (.inl (nI s)), some (.inl (nI code)), some (.inl (M.1 33 0 s)), some (.inl (M.1 44 0 p)), some (.inl (nI 0)), some (.inl (nI 0)), none, none] [] M Q) => z) ?_
  rw [a3, h44]
  refine dots n 0 (by omega) 0 M (by omega) (fun k _ => by simp [jp_f]) ⟨rm_only_rf p M, by rw [hnT]; exact h44, rfl, fun k hk j hj => ?_, fun i hi => ?_, fun s' e' q1 _ q3 => hacc s' e' q1 q3, fun e' q => by omega, hE⟩ _ _
  · rw [hnT] at hk; exact hrows k hk j hj
  · exact absurd hi (Nat.not_lt_zero i)
