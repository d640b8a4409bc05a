/-! pairs, level, right: the class -/
abbrev pz : Type := Nat × Int32 × Int32
def pr_d (τ : ta) (s r a b : Nat) (z : pz) : pz := if ta_dm τ s a = 0 ∨ ¬ ta_dm τ s a = ta_dm τ r b then z else (z.1 + 1, z.2.1 + (ta_dx τ r b - ta_dx τ s a), z.2.2 + (ta_dy τ r b - ta_dy τ s a))
def pr_b (τ : ta) (s r a : Nat) : Nat → pz → pz
  | 0, z => z
  | b + 1, z => pr_d τ s r a b (pr_b τ s r a b z)
def pr_a (τ : ta) (s r : Nat) : Nat → pz → pz
  | 0, z => z
  | a + 1, z => pr_b τ s r a (ta_dn τ r) (pr_a τ s r a z)
def pr_r (τ : ta) (w u s : Nat) : Nat → pz → pz
  | 0, z => z
  | r + 1, z => if ta_wt τ s = w ∧ ta_wt τ r = u ∧ ta_mo τ s = ta_mo τ r then pr_a τ s r (ta_dn τ s) (pr_r τ w u s r z) else pr_r τ w u s r z
def pr_s (τ : ta) (w u : Nat) : Nat → pz
  | 0 => (0, 0, 0)
  | s + 1 => pr_r τ w u s (ta_n τ) (pr_s τ w u s)
def prs (τ : ta) (w u : Nat) : pz := pr_s τ w u (ta_n τ)
def pr_ok (c : Nat) (z : pz) : Prop := z.1 ≤ c ∧ (-(2000 * (z.1 : Int)) ≤ z.2.1.toInt ∧ z.2.1.toInt ≤ 2000 * z.1) ∧ (-(2000 * (z.1 : Int)) ≤ z.2.2.toInt ∧ z.2.2.toInt ≤ 2000 * z.1)
theorem pr_ok_le {c c' : Nat} {z : pz} (h : pr_ok c z) (hc : c ≤ c') : pr_ok c' z := ⟨Nat.le_trans h.1 hc, h.2⟩
theorem pr_d_ok {τ : ta} (hτ : ta_ok τ) {s r a b c : Nat} {z : pz} (hs : s < ta_n τ) (hr : r < ta_n τ) (ha : a < ta_dn τ s) (hb : b < ta_dn τ r) (hc : c ≤ 2400) (h : pr_ok c z) : pr_ok (c + 1) (pr_d τ s r a b z) := by
  unfold pr_d
  split
  · exact pr_ok_le h (by omega)
  · obtain ⟨h1, h2, h3⟩ := h
    obtain ⟨x1, y1, -⟩ := (hτ.2.2.1 s hs).2.2.2 a ha
    obtain ⟨x2, y2, -⟩ := (hτ.2.2.1 r hr).2.2.2 b hb
    unfold ta_in at x1 y1 x2 y2
    have dx : (ta_dx τ r b - ta_dx τ s a).toInt = (ta_dx τ r b).toInt - (ta_dx τ s a).toInt := iz_sub (by omega) (by omega)
    have dy : (ta_dy τ r b - ta_dy τ s a).toInt = (ta_dy τ r b).toInt - (ta_dy τ s a).toInt := iz_sub (by omega) (by omega)
    refine ⟨by show z.1 + 1 ≤ c + 1; omega, ?_, ?_⟩
    · show -(2000 * ((z.1 + 1 : Nat) : Int)) ≤ (z.2.1 + (ta_dx τ r b - ta_dx τ s a)).toInt ∧ (z.2.1 + (ta_dx τ r b - ta_dx τ s a)).toInt ≤ 2000 * ((z.1 + 1 : Nat) : Int)
      rw [iz_add (by rw [dx]; omega) (by rw [dx]; omega), dx]; omega
    · show -(2000 * ((z.1 + 1 : Nat) : Int)) ≤ (z.2.2 + (ta_dy τ r b - ta_dy τ s a)).toInt ∧ (z.2.2 + (ta_dy τ r b - ta_dy τ s a)).toInt ≤ 2000 * ((z.1 + 1 : Nat) : Int)
      rw [iz_add (by rw [dy]; omega) (by rw [dy]; omega), dy]; omega
theorem pr_b_ok {τ : ta} (hτ : ta_ok τ) {s r a c : Nat} {z : pz} (hs : s < ta_n τ) (hr : r < ta_n τ) (ha : a < ta_dn τ s) (hc : c ≤ 2396) (h : pr_ok c z) : ∀ b, b ≤ ta_dn τ r → pr_ok (c + b) (pr_b τ s r a b z)
  | 0, _ => h
  | b + 1, hb => by
    have h4 := (hτ.2.2.1 r hr).2.2.1
    exact pr_d_ok (c := c + b) hτ hs hr ha (by omega) (by omega) (pr_b_ok hτ hs hr ha hc h b (by omega))
theorem pr_a_ok {τ : ta} (hτ : ta_ok τ) {s r c : Nat} {z : pz} (hs : s < ta_n τ) (hr : r < ta_n τ) (hc : c ≤ 2380) (h : pr_ok c z) : ∀ a, a ≤ ta_dn τ s → pr_ok (c + 4 * a) (pr_a τ s r a z)
  | 0, _ => h
  | a + 1, ha => by
    have h4 := (hτ.2.2.1 r hr).2.2.1
    have h4' := (hτ.2.2.1 s hs).2.2.1
    exact pr_ok_le (pr_b_ok hτ hs hr (by omega) (by omega) (pr_a_ok hτ hs hr hc h a (by omega)) (ta_dn τ r) (Nat.le_refl _)) (by omega)
theorem pr_r_ok {τ : ta} (hτ : ta_ok τ) {w u s c : Nat} {z : pz} (hs : s < ta_n τ) (hc : c ≤ 2112) (h : pr_ok c z) : ∀ r, r ≤ ta_n τ → pr_ok (c + 16 * r) (pr_r τ w u s r z)
  | 0, _ => h
  | r + 1, hr => by
    have hn := hτ.1
    have h4 := (hτ.2.2.1 s hs).2.2.1
    have ih := pr_r_ok hτ (w := w) (u := u) hs hc h r (by omega)
    rw [pr_r]
    split
    · exact pr_ok_le (pr_a_ok hτ hs (by omega) (by omega) ih (ta_dn τ s) (Nat.le_refl _)) (by omega)
    · exact pr_ok_le ih (by omega)
theorem pr_s_ok {τ : ta} (hτ : ta_ok τ) {w u : Nat} : ∀ s, s ≤ ta_n τ → pr_ok (192 * s) (pr_s τ w u s)
  | 0, _ => ⟨Nat.le_refl 0, ⟨by show -(2000 * ((0 : Nat) : Int)) ≤ (0 : Int32).toInt; decide, by show (0 : Int32).toInt ≤ 2000 * ((0 : Nat) : Int); decide⟩, ⟨by show -(2000 * ((0 : Nat) : Int)) ≤ (0 : Int32).toInt; decide, by show (0 : Int32).toInt ≤ 2000 * ((0 : Nat) : Int); decide⟩⟩
  | s + 1, hs => by
    have hn := hτ.1
    exact pr_ok_le (pr_r_ok hτ (by omega) (by omega) (pr_s_ok hτ s (by omega)) (ta_n τ) (Nat.le_refl _)) (by omega)
theorem prs_ok {τ : ta} (hτ : ta_ok τ) (w u : Nat) : pr_ok 2304 (prs τ w u) := pr_ok_le (pr_s_ok hτ (ta_n τ) (Nat.le_refl _)) (by have := hτ.1; omega)
def k50 (x : Int32) : Int32 := if x < -50 then -50 else if 50 < x then 50 else x
noncomputable def q_ww {α : Type} (W : Nat) (w u : Int32) (no : α) (f : Nat → Nat → α) : α := match ix w W with
  | some a => (match ix u W with
    | some b => f a b
    | none => no)
  | none => no
theorem q_ww_at {α : Type} {W : Nat} {w u : Int32} {no : α} {f : Nat → Nat → α} {a b : Nat} (h1 : ix w W = some a) (h2 : ix u W = some b) : q_ww W w u no f = f a b := by
  unfold q_ww; rw [h1]; dsimp only; rw [h2]
theorem q_ww_n1 {α : Type} {W : Nat} {w u : Int32} {no : α} {f : Nat → Nat → α} (h1 : ix w W = none) : q_ww W w u no f = no := by
  unfold q_ww; rw [h1]
theorem q_ww_n2 {α : Type} {W : Nat} {w u : Int32} {no : α} {f : Nat → Nat → α} (h1 : ix u W = none) : q_ww W w u no f = no := by
  unfold q_ww; split
  · rw [h1]
  · rfl
noncomputable def q_pairs (τ : ta) (W : Nat) (w u : Int32) : Int32 := q_ww W w u (-1) fun a b => if a = b then -2 else nI (prs τ a b).1
noncomputable def q_level (τ : ta) (W : Nat) (w u o : Int32) : Int32 := q_ww W w u NO fun a b => if a = b ∨ ¬ (0 ≤ o ∧ o ≤ 1) ∨ (prs τ a b).1 = 0 then NO else lb_fd (if o = 0 then (prs τ a b).2.1 else (prs τ a b).2.2) (nI (prs τ a b).1)
def rg_a (τ : ta) (a b : Nat) : Int32 := k50 (ta_sa τ a - lb_fd (prs τ a b).2.1 (nI (prs τ a b).1))
def rg_b (τ : ta) (a b : Nat) : Int32 := k50 (ta_sb τ a - lb_fd (prs τ a b).2.2 (nI (prs τ a b).1))
def rg_n (τ : ta) (a b : Nat) : Int32 := (if rg_a τ a b = ta_sa τ b then 0 else 1) + (if rg_b τ a b = ta_sb τ b then 0 else 1)
def rc_z (M : am_M) (z : pz) : Prop := M.1 17 0 0 = nI z.1 ∧ M.1 17 0 1 = z.2.1 ∧ M.1 17 0 2 = z.2.2
theorem am_fr_T {M M' : am_M} {τ : ta} (h : rc_T M τ) (fr : am_fr [17] M M') : rc_T M' τ := rc_T_fr h (am_fg_of fr []) (by simp) (by simp)
set_option maxHeartbeats 1000000 in
theorem cw_addPairs {X : am_X} (hX : am_Cl X) (d : Nat) (M : am_M) (τ : ta) (hτ : ta_ok τ) (hT : rc_T M τ) (s r : Nat) (hs : s < ta_n τ) (hr : r < ta_n τ) (z : pz) (hz : rc_z M z) (Q : am_P) (h : ∀ M', am_fr [17] M M' → rc_z M' (pr_a τ s r (ta_dn τ s) z) → Q none M') : X d 59 0 [some (.inr (.inl (17, 0))), some (.inr (.inl (18, M.2.1 4 s))), some (.inr (.inl (18, M.2.1 4 r))), none, none] [] M Q := by
  have hn := hτ.1
  have bs := hτ.2.2.1 s hs
  have br := hτ.2.2.1 r hr
  have cs := hT.2.2.2.2.1 s hs
  have cr := hT.2.2.2.2.1 r hr
  generalize M.2.1 4 s = p at cs ⊢
  generalize M.2.1 4 r = q at cr ⊢
  refine am_go hX [2] 20 ?_
  have outer : ∀ t a : Nat, a + t = ta_dn τ s → ∀ M' : am_M, am_fr [17] M M' → rc_z M' (pr_a τ s r a z) → ∀ z4, X d 59 2 [some (.inr (.inl (17, 0))), some (.inr (.inl (18, p))), some (.inr (.inl (18, q))), some (.inl (nI a)), z4] [] M' Q := by
    intro t
    induction t with
    | zero =>
      intro a ha M' fr hz' z4
      have ha : a = ta_dn τ s := by omega
      subst ha
      have e : M'.1 18 p 2 = nI (ta_dn τ s) := (fr.2 18 _ _ (by simp)).trans cs.2.2.1
      refine am_go hX [2] 40 ?_
      exact ⟨fun _ => h M' fr hz', fun (y : ¬ M'.1 18 p 2 ≤ nI (ta_dn τ s)) => absurd (by rw [e]; exact nI_le (Nat.le_refl _) (by omega)) y⟩
    | succ t ih =>
      intro a ha M' fr hz' z4
      have had : a < ta_dn τ s := by omega
      have a4 : a < 4 := by omega
      have inner : ∀ t2 b : Nat, b + t2 = ta_dn τ r → ∀ M2 : am_M, am_fr [17] M M2 → rc_z M2 (pr_b τ s r a b (pr_a τ s r a z)) → X d 59 8 [some (.inr (.inl (17, 0))), some (.inr (.inl (18, p))), some (.inr (.inl (18, q))), some (.inl (nI a)), some (.inl (nI b))] [] M2 Q := by
        intro t2
        induction t2 with
        | zero =>
          intro b hb M2 fr2 hz2
          have hb : b = ta_dn τ r := by omega
          subst hb
          have e : M2.1 18 q 2 = nI (ta_dn τ r) := (fr2.2 18 _ _ (by simp)).trans cr.2.2.1
          refine am_go hX [2] 60 ?_
          refine ⟨fun _ => ?_, fun (y : ¬ M2.1 18 q 2 ≤ nI (ta_dn τ r)) => absurd (by rw [e]; exact nI_le (Nat.le_refl _) (by omega)) y⟩
          refine (fun (y : X d 59 2 [some (.inr (.inl (17, 0))), some (.inr (.inl (18, p))), some (.inr (.inl (18, q))), some (.inl (nI a + 1)), some (.inl (nI (ta_dn τ r)))] [] M2 Q) => y) ?_
          rw [nI_1]
          exact ih (a + 1) (by omega) M2 fr2 hz2 _
        | succ t2 ih2 =>
          intro b hb M2 fr2 hz2
          have hbd : b < ta_dn τ r := by omega
          have b4 : b < 4 := by omega
          have e : M2.1 18 q 2 = nI (ta_dn τ r) := (fr2.2 18 _ _ (by simp)).trans cr.2.2.1
          have m1 : M2.1 21 p a = nI (ta_dm τ s a) := (fr2.2 21 _ _ (by simp)).trans (cs.2.2.2 a had).2.2
          have m2 : M2.1 21 q b = nI (ta_dm τ r b) := (fr2.2 21 _ _ (by simp)).trans (cr.2.2.2 b hbd).2.2
          have k1 := (bs.2.2.2 a had).2.2
          have k2 := (br.2.2.2 b hbd).2.2
          have next : ∀ M3 : am_M, am_fr [17] M M3 → rc_z M3 (pr_b τ s r a (b + 1) (pr_a τ s r a z)) → X d 59 8 [some (.inr (.inl (17, 0))), some (.inr (.inl (18, p))), some (.inr (.inl (18, q))), some (.inl (nI a)), some (.inl (nI b + 1))] [] M3 Q := by
            intro M3 fr3 hz3
            rw [nI_1]
            exact ih2 (b + 1) (by omega) M3 fr3 hz3
          refine am_go hX [2, 8] 80 ?_
          refine ⟨fun (y : M2.1 18 q 2 ≤ nI b) => absurd y (by rw [e]; exact nI_ge hbd (by omega)), fun _ => ⟨a, a4, rfl, fun (y : M2.1 21 p a = 0) => ?_, fun (y : ¬ M2.1 21 p a = 0) => ⟨a, a4, rfl, b, b4, rfl, fun (w : ¬ M2.1 21 p a = M2.1 21 q b) => ?_, fun (w : ¬ ¬ M2.1 21 p a = M2.1 21 q b) => ⟨b, b4, rfl, a, a4, rfl, b, b4, rfl, a, a4, rfl, ?_⟩⟩⟩⟩
          · rw [m1] at y
            have y : ta_dm τ s a = 0 := (nI_eq (b := 0) (by omega) (by omega)).mp y
            refine next M2 fr2 ?_
            rw [pr_b, pr_d, if_pos (Or.inl y)]; exact hz2
          · rw [m1, m2] at w
            refine next M2 fr2 ?_
            rw [pr_b, pr_d, if_pos (Or.inr (fun v => w (by rw [v])))]; exact hz2
          · rw [m1] at y
            rw [m1, m2] at w
            have y : ¬ ta_dm τ s a = 0 := fun v => y (by rw [v]; rfl)
            have w := (nI_eq (by omega) (by omega)).mp (Classical.not_not.mp w)
            refine (fun (v : X d 59 8 [some (.inr (.inl (17, 0))), some (.inr (.inl (18, p))), some (.inr (.inl (18, q))), some (.inl (nI a)), some (.inl (nI b + 1))] [] (am_si (am_si (am_si M2 17 0 0 (M2.1 17 0 0 + 1)) 17 0 1 (M2.1 17 0 1 + (M2.1 19 q b - M2.1 19 p a))) 17 0 2 (M2.1 17 0 2 + (M2.1 20 q b - M2.1 20 p a))) Q) => v) ?_
            refine next _ (am_fr_si (am_fr_si (am_fr_si fr2 (by simp)) (by simp)) (by simp)) ?_
            rw [pr_b, pr_d, if_neg (fun v => v.elim y (fun v => v w))]
            obtain ⟨z1, z2, z3⟩ := hz2
            refine ⟨?_, ?_, ?_⟩
            · rw [am_si_at, if_neg (by omega), am_si_at, if_neg (by omega), am_si_at, if_pos ⟨rfl, rfl, rfl⟩, z1, nI_1]
            · rw [am_si_at, if_neg (by omega), am_si_at, if_pos ⟨rfl, rfl, rfl⟩, z2, fr2.2 19 _ _ (by simp), fr2.2 19 _ _ (by simp), (cs.2.2.2 a had).1, (cr.2.2.2 b hbd).1]
            · rw [am_si_at, if_pos ⟨rfl, rfl, rfl⟩, z3, fr2.2 20 _ _ (by simp), fr2.2 20 _ _ (by simp), (cs.2.2.2 a had).2.1, (cr.2.2.2 b hbd).2.1]
      have e : M'.1 18 p 2 = nI (ta_dn τ s) := (fr.2 18 _ _ (by simp)).trans cs.2.2.1
      refine am_go hX [2, 8] 40 ?_
      refine ⟨fun (y : M'.1 18 p 2 ≤ nI a) => absurd y (by rw [e]; exact nI_ge had (by omega)), fun _ => ?_⟩
      exact inner (ta_dn τ r) 0 (by omega) M' fr hz'
  exact outer (ta_dn τ s) 0 (by omega) M (am_fr_rf _ _) hz none
set_option maxHeartbeats 1000000 in
theorem cw_measure {X : am_X} (hX : am_Cl X) (d : Nat) (M : am_M) (hd : 1 ≤ d) (τ : ta) (hτ : ta_ok τ) (hT : rc_T M τ) (w u : Nat) (hw : w < 3) (hu : u < 3) (Q : am_P) (h : ∀ M', am_fr [17] M M' → rc_z M' (prs τ w u) → Q none M') : X d 58 0 [some (.inr (.inl (17, 0))), some (.inr (.inl (1, 0))), some (.inl (nI w)), some (.inl (nI u)), none, none, none, none] [] M Q := by
  have hn := hτ.1
  refine am_go hX [11] 40 ?_
  have outer : ∀ t s : Nat, s + t = ta_n τ → ∀ M' : am_M, am_fr [17] M M' → rc_z M' (pr_s τ w u s) → ∀ z5 z6 z7, X d 58 11 [some (.inr (.inl (17, 0))), some (.inr (.inl (1, 0))), some (.inl (nI w)), some (.inl (nI u)), some (.inl (nI s)), z5, z6, z7] [] M' Q := by
    intro t
    induction t with
    | zero =>
      intro s hs M' fr hz z5 z6 z7
      have hs : s = ta_n τ := by omega
      subst hs
      have e := (am_fr_T hT fr).1
      refine am_go hX [11] 40 ?_
      exact ⟨fun _ => h M' fr hz, fun (y : ¬ M'.1 1 0 2 ≤ nI (ta_n τ)) => absurd (by rw [e]; exact nI_le (Nat.le_refl _) (by omega)) y⟩
    | succ t ih =>
      intro s hs M' fr hz z5 z6 z7
      have hsn : s < ta_n τ := by omega
      have inner : ∀ t2 r : Nat, r + t2 = ta_n τ → ∀ M2 : am_M, am_fr [17] M M2 → rc_z M2 (pr_r τ w u s r (pr_s τ w u s)) → ∀ z6 z7, X d 58 17 [some (.inr (.inl (17, 0))), some (.inr (.inl (1, 0))), some (.inl (nI w)), some (.inl (nI u)), some (.inl (nI s)), some (.inl (nI r)), z6, z7] [] M2 Q := by
        intro t2
        induction t2 with
        | zero =>
          intro r hr M2 fr2 hz2 z6 z7
          have hr : r = ta_n τ := by omega
          subst hr
          have e := (am_fr_T hT fr2).1
          refine am_go hX [11] 60 ?_
          refine ⟨fun _ => ?_, fun (y : ¬ M2.1 1 0 2 ≤ nI (ta_n τ)) => absurd (by rw [e]; exact nI_le (Nat.le_refl _) (by omega)) y⟩
          refine (fun (y : X d 58 11 [some (.inr (.inl (17, 0))), some (.inr (.inl (1, 0))), some (.inl (nI w)), some (.inl (nI u)), some (.inl (nI s + 1)), some (.inl (nI (ta_n τ))), z6, z7] [] M2 Q) => y) ?_
          rw [nI_1]
          exact ih (s + 1) (by omega) M2 fr2 hz2 _ _ _
        | succ t2 ih2 =>
          intro r hr M2 fr2 hz2 z6 z7
          have hrn : r < ta_n τ := by omega
          have hT2 := am_fr_T hT fr2
          have e := hT2.1
          have cs := hT2.2.2.2.2.1 s hsn
          have cr := hT2.2.2.2.2.1 r hrn
          have bs := hτ.2.2.1 s hsn
          have br := hτ.2.2.1 r hrn
          have next : ∀ M3 : am_M, am_fr [17] M M3 → rc_z M3 (pr_r τ w u s (r + 1) (pr_s τ w u s)) → ∀ z6 z7, X d 58 17 [some (.inr (.inl (17, 0))), some (.inr (.inl (1, 0))), some (.inl (nI w)), some (.inl (nI u)), some (.inl (nI s)), some (.inl (nI r + 1)), z6, z7] [] M3 Q := by
            intro M3 fr3 hz3 z6 z7
            rw [nI_1]
            exact ih2 (r + 1) (by omega) M3 fr3 hz3 _ _
          have s13 : s < 13 := by omega
          have r13 : r < 13 := by omega
          refine am_go hX [11, 17] 80 ?_
          refine ⟨fun (y : M2.1 1 0 2 ≤ nI r) => absurd y (by rw [e]; exact nI_ge hrn (by omega)), fun _ => ⟨s, s13, rfl, r, r13, rfl, fun (y : ¬ M2.1 18 (M2.2.1 4 s) 0 = nI w) => ?_, fun (y : ¬ ¬ M2.1 18 (M2.2.1 4 s) 0 = nI w) => ⟨fun (v : ¬ M2.1 18 (M2.2.1 4 r) 0 = nI u) => ?_, fun (v : ¬ ¬ M2.1 18 (M2.2.1 4 r) 0 = nI u) => ⟨fun (x : ¬ M2.1 18 (M2.2.1 4 s) 1 = M2.1 18 (M2.2.1 4 r) 1) => ?_, fun (x : ¬ ¬ M2.1 18 (M2.2.1 4 s) 1 = M2.1 18 (M2.2.1 4 r) 1) => am_cc hd ?_⟩⟩⟩⟩
          · rw [cs.1] at y
            refine next M2 fr2 ?_ _ _
            rw [pr_r, if_neg (fun q => y (by rw [q.1]))]; exact hz2
          · rw [cr.1] at v
            refine next M2 fr2 ?_ _ _
            rw [pr_r, if_neg (fun q => v (by rw [q.2.1]))]; exact hz2
          · rw [cs.2.1, cr.2.1] at x
            refine next M2 fr2 ?_ _ _
            rw [pr_r, if_neg (fun q => x (by rw [q.2.2]))]; exact hz2
          · have y := Classical.not_not.mp y
            have v := Classical.not_not.mp v
            have x := Classical.not_not.mp x
            rw [cs.1, nI_eq (by omega) (by omega)] at y
            rw [cr.1, nI_eq (by omega) (by omega)] at v
            rw [cs.2.1, cr.2.1, nI_eq (by omega) (by omega)] at x
            refine cw_addPairs hX _ _ τ hτ hT2 s r hsn hrn _ hz2 _ (fun M3 fr3 hz3 => ?_)
            refine next M3 (am_fr_tr fr2 fr3) ?_ _ _
            rw [pr_r, if_pos ⟨y, v, x⟩]; exact hz3
      have e := (am_fr_T hT fr).1
      refine am_go hX [11, 17] 40 ?_
      refine ⟨fun (y : M'.1 1 0 2 ≤ nI s) => absurd y (by rw [e]; exact nI_ge hsn (by omega)), fun _ => ?_⟩
      exact inner (ta_n τ) 0 (by omega) M' fr hz _ _
  refine (fun (y : X d 58 11 [some (.inr (.inl (17, 0))), some (.inr (.inl (1, 0))), some (.inl (nI w)), some (.inl (nI u)), some (.inl (nI 0)), none, none, none] [] (am_si (am_si (am_si M 17 0 0 0) 17 0 1 0) 17 0 2 0) Q) => y) ?_
  refine outer (ta_n τ) 0 (by omega) _ (am_fr_si (am_fr_si (am_fr_si (am_fr_rf _ M) (by simp)) (by simp)) (by simp)) ⟨?_, ?_, ?_⟩ _ _ _
  · rw [am_si_at, if_neg (by omega), am_si_at, if_neg (by omega), am_si_at, if_pos ⟨rfl, rfl, rfl⟩]; rfl
  · rw [am_si_at, if_neg (by omega), am_si_at, if_pos ⟨rfl, rfl, rfl⟩]; rfl
  · rw [am_si_at, if_pos ⟨rfl, rfl, rfl⟩]; rfl
theorem cw_meanX {X : am_X} (hX : am_Cl X) (d : Nat) (M : am_M) (hd : 1 ≤ d) (z : pz) (hz : rc_z M z) (hb : z.1 ≤ 2304) (Q : am_P) (h0 : z.1 = 0 → Q (some (.inl (NO))) M) (h : ¬ z.1 = 0 → Q (some (.inl (lb_fd z.2.1 (nI z.1)))) M) : X d 60 0 [some (.inr (.inl (17, 0)))] [] M Q := by
  obtain ⟨z1, z2, z3⟩ := hz
  refine am_go hX [] 20 ?_
  refine ⟨fun (y : M.1 17 0 0 ≤ 0) => ?_, fun (y : ¬ M.1 17 0 0 ≤ 0) => am_cc hd ?_⟩
  · rw [z1] at y
    exact h0 (by have := (nI_leI (b := 0) (by omega) (by omega)).mp y; omega)
  · rw [z1] at y
    have hz : ¬ z.1 = 0 := fun v => y (by rw [v]; decide)
    refine (fun (v : X (d - 1) 134 0 [some (.inl (M.1 17 0 1)), some (.inl (M.1 17 0 0)), none] [] M _) => v) ?_
    rw [z1, z2]
    exact lb_floorDiv hX _ _ _ _ (nI_ne0 (by omega) (by omega)) _ (h hz)
theorem cw_meanY {X : am_X} (hX : am_Cl X) (d : Nat) (M : am_M) (hd : 1 ≤ d) (z : pz) (hz : rc_z M z) (hb : z.1 ≤ 2304) (Q : am_P) (h0 : z.1 = 0 → Q (some (.inl (NO))) M) (h : ¬ z.1 = 0 → Q (some (.inl (lb_fd z.2.2 (nI z.1)))) M) : X d 61 0 [some (.inr (.inl (17, 0)))] [] M Q := by
  obtain ⟨z1, z2, z3⟩ := hz
  refine am_go hX [] 20 ?_
  refine ⟨fun (y : M.1 17 0 0 ≤ 0) => ?_, fun (y : ¬ M.1 17 0 0 ≤ 0) => am_cc hd ?_⟩
  · rw [z1] at y
    exact h0 (by have := (nI_leI (b := 0) (by omega) (by omega)).mp y; omega)
  · rw [z1] at y
    have hz : ¬ z.1 = 0 := fun v => y (by rw [v]; decide)
    refine (fun (v : X (d - 1) 134 0 [some (.inl (M.1 17 0 2)), some (.inl (M.1 17 0 0)), none] [] M _) => v) ?_
    rw [z1, z3]
    exact lb_floorDiv hX _ _ _ _ (nI_ne0 (by omega) (by omega)) _ (h hz)
theorem k50_mm (v : Int32) : (if -50 < (if v < 50 then v else 50) then (if v < 50 then v else 50) else -50) = k50 v := by
  have e1 : (50 : Int32).toInt = 50 := by decide
  have e2 : (-50 : Int32).toInt = -50 := by decide
  unfold k50
  simp only [Int32.lt_iff_toInt_lt, e1, e2]
  by_cases c1 : v.toInt < 50
  · rw [if_pos c1]
    by_cases c2 : -50 < v.toInt
    · rw [if_pos c2, if_neg (by omega), if_neg (by omega)]
    · rw [if_neg c2]
      by_cases c3 : v.toInt < -50
      · rw [if_pos c3]
      · rw [if_neg c3, if_neg (by omega)]
        exact (iz_ext ((by omega : v.toInt = -50).trans e2.symm)).symm
  · rw [if_neg c1, e1, if_pos (by omega), if_neg (by omega)]
    by_cases c3 : 50 < v.toInt
    · rw [if_pos c3]
    · rw [if_neg c3]
      exact (iz_ext ((by omega : v.toInt = 50).trans e1.symm)).symm
theorem cw_keptWithin {X : am_X} (hX : am_Cl X) (d : Nat) (M : am_M) (hd : 1 ≤ d) (v : Int32) (Q : am_P) (h : Q (some (.inl (k50 v))) M) : X d 26 0 [some (.inl (v))] [] M Q := by
  refine am_go hX [] 20 ?_
  refine am_cc hd (lb_min hX _ _ 50 v _ (am_cc hd (lb_max hX _ _ _ _ _ ?_)))
  rw [k50_mm]; exact h
theorem cw_pairs {X : am_X} (hX : am_Cl X) (d : Nat) (M : am_M) (hd : 2 ≤ d) (τ : ta) (hτ : ta_ok τ) (hT : rc_T M τ) (W : Nat) (hW : W ≤ 3) (eW : M.1 1 0 1 = nI W) (w u : Int32) (Q : am_P) (h : ∀ M', am_fr [17] M M' → Q (some (.inl (q_pairs τ W w u))) M') : X d 21 0 [some (.inr (.inl (0, 0))), some (.inl (w)), some (.inl (u))] [] M Q := by
  refine am_go hX [] 40 ?_
  refine am_cc (by omega) (cw_isWatcher hX _ _ _ _ (fun w1 w2 => am_beq1 (am_cc (by omega) ?_)) (fun c => am_beq0 ?_))
  · rw [eW] at w2
    obtain ⟨a, a1, a2, a3⟩ := ix_y (by omega) w1 w2
    refine cw_isWatcher hX _ _ _ _ (fun u1 u2 => am_bne1 ?_) (fun c => am_bne0 ?_)
    · rw [eW] at u2
      obtain ⟨b, b1, b2, b3⟩ := ix_y (by omega) u1 u2
      unfold q_pairs at h
      rw [q_ww_at a3 b3] at h
      refine ⟨fun (y : ¬ w = u) => am_cc (by omega) ?_, fun (y : ¬ ¬ w = u) => ?_⟩
      · rw [a2, b2] at y ⊢
        rw [if_neg (fun v => y (by rw [v]))] at h
        refine cw_measure hX _ _ (by omega) τ hτ hT a b (by omega) (by omega) _ (fun M' fr hz => ?_)
        have := h M' fr
        rw [← hz.1] at this; exact this
      · rw [a2, b2] at y
        rw [if_pos ((nI_eq (by omega) (by omega)).mp (Classical.not_not.mp y))] at h
        exact h M (am_fr_rf _ _)
    · rw [eW] at c
      have := h M (am_fr_rf _ _)
      unfold q_pairs at this
      rw [q_ww_n2 (ix_n (by omega) c)] at this; exact this
  · rw [eW] at c
    have := h M (am_fr_rf _ _)
    unfold q_pairs at this
    rw [q_ww_n1 (ix_n (by omega) c)] at this; exact this
theorem cw_level {X : am_X} (hX : am_Cl X) (d : Nat) (M : am_M) (hd : 2 ≤ d) (τ : ta) (hτ : ta_ok τ) (hT : rc_T M τ) (W : Nat) (hW : W ≤ 3) (eW : M.1 1 0 1 = nI W) (w u o : Int32) (Q : am_P) (h : ∀ M', am_fr [17] M M' → Q (some (.inl (q_level τ W w u o))) M') : X d 22 0 [some (.inr (.inl (0, 0))), some (.inl (w)), some (.inl (u)), some (.inl (o))] [] M Q := by
  refine am_go hX [] 40 ?_
  refine am_cc (by omega) (cw_isWatcher hX _ _ _ _ (fun w1 w2 => am_beq1 (am_cc (by omega) ?_)) (fun c => am_beq0 ?_))
  · rw [eW] at w2
    obtain ⟨a, a1, a2, a3⟩ := ix_y (by omega) w1 w2
    refine cw_isWatcher hX _ _ _ _ (fun u1 u2 => am_beq1 ?_) (fun c => am_beq0 ?_)
    · rw [eW] at u2
      obtain ⟨b, b1, b2, b3⟩ := ix_y (by omega) u1 u2
      unfold q_level at h
      rw [q_ww_at a3 b3] at h
      refine ⟨fun (y : w = u) => ?_, fun (y : ¬ w = u) => am_cc (by omega) ?_⟩
      · rw [a2, b2] at y
        rw [if_pos (Or.inl ((nI_eq (by omega) (by omega)).mp y))] at h
        exact h M (am_fr_rf _ _)
      · rw [a2, b2] at y
        have y : ¬ a = b := fun v => y (by rw [v])
        refine cw_within hX _ _ _ _ _ _ (fun o1 o2 => am_bne1 (am_cc (by omega) ?_)) (fun c => am_bne0 ?_)
        · rw [a2, b2]
          have ok := prs_ok hτ a b
          refine cw_measure hX _ _ (by omega) τ hτ hT a b (by omega) (by omega) _ (fun M' fr hz => ?_)
          have := h M' fr
          refine ⟨fun (q : ¬ o = 0) => am_cc (by omega) (cw_meanY hX _ _ (by omega) (prs τ a b) hz ok.1 _ (fun v => ?_) (fun v => ?_)), fun (q : ¬ ¬ o = 0) => am_cc (by omega) (cw_meanX hX _ _ (by omega) (prs τ a b) hz ok.1 _ (fun v => ?_) (fun v => ?_))⟩
          · rw [if_pos (Or.inr (Or.inr v))] at this; exact this
          · rw [if_neg (fun z => z.elim y (fun z => z.elim (fun z => z ⟨o1, o2⟩) v)), if_neg q] at this; exact this
          · rw [if_pos (Or.inr (Or.inr v))] at this; exact this
          · rw [if_neg (fun z => z.elim y (fun z => z.elim (fun z => z ⟨o1, o2⟩) v)), if_pos (Classical.not_not.mp q)] at this; exact this
        · rw [if_pos (Or.inr (Or.inl c))] at h
          exact h M (am_fr_rf _ _)
    · rw [eW] at c
      have := h M (am_fr_rf _ _)
      unfold q_level at this
      rw [q_ww_n2 (ix_n (by omega) c)] at this; exact this
  · rw [eW] at c
    have := h M (am_fr_rf _ _)
    unfold q_level at this
    rw [q_ww_n1 (ix_n (by omega) c)] at this; exact this
set_option maxHeartbeats 1000000 in
theorem cw_right {X : am_X} (hX : am_Cl X) (d : Nat) (M : am_M) (hd : 2 ≤ d) (τ : ta) (hτ : ta_ok τ) (hT : rc_T M τ) (W : Nat) (hW : W ≤ 3) (eW : M.1 1 0 1 = nI W) (w u : Int32) (Q : am_P)
    (h0 : (ix w W = none ∨ ix u W = none) → Q (some (.inl (-1))) M) (h1 : ∀ a b, ix w W = some a → ix u W = some b → a < W → b < W → a = b → Q (some (.inl (-2))) M)
    (h2 : ∀ a b, ix w W = some a → ix u W = some b → a < W → b < W → ¬ a = b → (prs τ a b).1 = 0 → ∀ M', am_fr [17] M M' → Q (some (.inl (-3))) M')
    (h3 : ∀ a b, ix w W = some a → ix u W = some b → a < W → b < W → ¬ a = b → ¬ (prs τ a b).1 = 0 → ∀ M', am_fr [17] M M' → Q (some (.inl (rg_n τ a b))) (am_si (am_si (am_si M' 2 0 b (rg_a τ a b)) 3 0 b (rg_b τ a b)) 1 0 0 1)) : X d 23 0 [some (.inr (.inl (0, 0))), some (.inl (w)), some (.inl (u)), none, none, none] [] M Q := by
  refine am_go hX [52] 80 ?_
  refine am_cc (by omega) (cw_isWatcher hX _ _ _ _ (fun w1 w2 => am_beq1 (am_cc (by omega) ?_)) (fun c => am_beq0 ?_))
  · rw [eW] at w2
    obtain ⟨a, a1, a2, a3⟩ := ix_y (by omega) w1 w2
    refine cw_isWatcher hX _ _ _ _ (fun u1 u2 => am_bne1 ?_) (fun c => am_bne0 ?_)
    · rw [eW] at u2
      obtain ⟨b, b1, b2, b3⟩ := ix_y (by omega) u1 u2
      refine ⟨fun (y : ¬ w = u) => am_cc (by omega) ?_, fun (y : ¬ ¬ w = u) => ?_⟩
      · rw [a2, b2] at y
        have y : ¬ a = b := fun v => y (by rw [v])
        rw [a2, b2]
        have ok := prs_ok hτ a b
        refine cw_measure hX _ _ (by omega) τ hτ hT a b (by omega) (by omega) _ (fun M' fr hz => ?_)
        have a3' : a < 3 := by omega
        have b3' : b < 3 := by omega
        have hT' := am_fr_T hT fr
        obtain ⟨z1, z2, z3⟩ := id hz
        refine ⟨fun (q : ¬ M'.1 17 0 0 = 0) => ?_, fun (q : ¬ ¬ M'.1 17 0 0 = 0) => ?_⟩
        · rw [z1] at q
          have q : ¬ (prs τ a b).1 = 0 := fun v => q (by rw [v]; rfl)
          have h3 := h3 a b a3 b3 a1 b1 y q M' fr
          refine ⟨a, a3', rfl, am_cc (by omega) ?_⟩
          refine cw_meanX hX _ _ (by omega) (prs τ a b) hz ok.1 _ (fun v => absurd v q) (fun _ => am_cc (by omega) ?_)
          refine (fun (v : X (d - 1) 26 0 [some (.inl (M'.1 2 0 a - lb_fd (prs τ a b).2.1 (nI (prs τ a b).1)))] [] M' _) => v) ?_
          refine cw_keptWithin hX _ _ (by omega) _ _ ?_
          refine ⟨a, a3', rfl, am_cc (by omega) ?_⟩
          refine cw_meanY hX _ _ (by omega) (prs τ a b) hz ok.1 _ (fun v => absurd v q) (fun _ => am_cc (by omega) ?_)
          refine (fun (v : X (d - 1) 26 0 [some (.inl (M'.1 3 0 a - lb_fd (prs τ a b).2.2 (nI (prs τ a b).1)))] [] M' _) => v) ?_
          refine cw_keptWithin hX _ _ (by omega) _ _ ?_
          refine (fun (v : X d 23 52 [some (.inr (.inl (0, 0))), some (.inl (nI a)), some (.inl (nI b)), some (.inl (k50 (M'.1 2 0 a - lb_fd (prs τ a b).2.1 (nI (prs τ a b).1)))), some (.inl (k50 (M'.1 3 0 a - lb_fd (prs τ a b).2.2 (nI (prs τ a b).1)))), none] [] M' Q) => v) ?_
          have ea : k50 (M'.1 2 0 a - lb_fd (prs τ a b).2.1 (nI (prs τ a b).1)) = rg_a τ a b := by rw [(hT'.2.1 a a3').1]; rfl
          have eb : k50 (M'.1 3 0 a - lb_fd (prs τ a b).2.2 (nI (prs τ a b).1)) = rg_b τ a b := by rw [(hT'.2.1 a a3').2]; rfl
          rw [ea, eb]
          have sa : M'.1 2 0 b = ta_sa τ b := (hT'.2.1 b b3').1
          have sb : M'.1 3 0 b = ta_sb τ b := (hT'.2.1 b b3').2
          unfold rg_n at h3
          refine am_go hX [] 60 ?_
          refine ⟨b, b3', rfl, fun (v : rg_a τ a b = M'.1 2 0 b) => ⟨b, b3', rfl, fun (v2 : rg_b τ a b = M'.1 3 0 b) => ⟨b, b3', rfl, b, b3', rfl, Or.inr rfl, ?_⟩, fun (v2 : ¬ rg_b τ a b = M'.1 3 0 b) => ⟨b, b3', rfl, b, b3', rfl, Or.inr rfl, ?_⟩⟩, fun (v : ¬ rg_a τ a b = M'.1 2 0 b) => ⟨b, b3', rfl, fun (v2 : rg_b τ a b = M'.1 3 0 b) => ⟨b, b3', rfl, b, b3', rfl, Or.inr rfl, ?_⟩, fun (v2 : ¬ rg_b τ a b = M'.1 3 0 b) => ⟨b, b3', rfl, b, b3', rfl, Or.inr rfl, ?_⟩⟩⟩
          · rw [if_pos (v.trans sa), if_pos (v2.trans sb)] at h3; exact h3
          · rw [if_pos (v.trans sa), if_neg (fun k => v2 (k.trans sb.symm))] at h3; exact h3
          · rw [if_neg (fun k => v (k.trans sa.symm)), if_pos (v2.trans sb)] at h3; exact h3
          · rw [if_neg (fun k => v (k.trans sa.symm)), if_neg (fun k => v2 (k.trans sb.symm))] at h3; exact h3
        · have q := Classical.not_not.mp q
          rw [z1] at q
          exact h2 a b a3 b3 a1 b1 y ((nI_eq (b := 0) (by have := ok.1; omega) (by omega)).mp q) M' fr
      · rw [a2, b2] at y
        exact h1 a b a3 b3 a1 b1 ((nI_eq (by omega) (by omega)).mp (Classical.not_not.mp y))
    · rw [eW] at c
      exact h0 (Or.inr (ix_n (by omega) c))
  · rw [eW] at c
    exact h0 (Or.inl (ix_n (by omega) c))
