/-! questions about one world -/
def NO : Int32 := -2147483648
def wn (τ : ta) (a : Nat) : wd := am_nth (wds τ) a wd_0
def q_cost (τ : ta) (w : Int32) : Int32 := match ix w (wds τ).length with
  | some a => nI (wd_c (wn τ a))
  | none => NO
def q_gap (τ : ta) (w : Int32) : Int32 := match ix w (wds τ).length with
  | some a => nI (wd_c (wn τ a)) - nI (wd_c (wn τ 0))
  | none => -1
def q_tracks (τ : ta) (w : Int32) : Int32 := match ix w (wds τ).length with
  | some a => nI (wd_n (wn τ a))
  | none => -1
/-- a field of a track, read -/
def tk_rd (t : Nat → Int32) (u : Int32) : Int32 :=
  if u.toInt = 0 then t 0 else if u.toInt = 1 then t 1 else if u.toInt = 2 then t 2 else if u.toInt = 3 then t 3 else if u.toInt = 4 then t 4 else if u.toInt = 5 then t 5 else if u.toInt = 6 then t 6 else if u.toInt = 7 then t 7 else
  if u.toInt = 8 then (if t 8 = 0 then 0 else 1) else if u.toInt = 9 then (if 1 < t 5 then 1 else 0) else NO
def q_tr {α : Type} (τ : ta) (w t : Int32) (no : α) (f : wd → Nat → α) : α := match ix w (wds τ).length with
  | some a => (match ix t (wd_n (wn τ a)) with
    | some b => f (wn τ a) b
    | none => no)
  | none => no
def q_track (τ : ta) (w t u : Int32) : Int32 := q_tr τ w t NO fun x b => tk_rd (wd_t x b) u
def q_dt {α : Type} (τ : ta) (s e : Int32) (no : α) (f : Nat → Nat → α) : α := match ix s (ta_n τ) with
  | some a => (match ix e (ta_dn τ a) with
    | some b => f a b
    | none => no)
  | none => no
def q_account (τ : ta) (w s e : Int32) : Int32 := match ix w (wds τ).length with
  | some a => q_dt τ s e (-2) fun s e => wd_a (wn τ a) s e
  | none => -2
def q_ordered (τ : ta) (i : Int32) : Int32 := match ix i (ta_n τ) with
  | some k => nI (od τ k)
  | none => -1
theorem q_tr_no {α : Type} {τ : ta} {w t : Int32} {no : α} {f : wd → Nat → α} (h : ∀ a, ix w (wds τ).length = some a → ix t (wd_n (am_nth (wds τ) a wd_0)) = none) : q_tr τ w t no f = no := by
  unfold q_tr wn
  cases e : ix w (wds τ).length with
  | none => rfl
  | some a => dsimp only; rw [h a e]
theorem q_tr_at {α : Type} {τ : ta} {w t : Int32} {no : α} {f : wd → Nat → α} {a b : Nat} (h1 : ix w (wds τ).length = some a) (h2 : ix t (wd_n (am_nth (wds τ) a wd_0)) = some b) : q_tr τ w t no f = f (am_nth (wds τ) a wd_0) b := by
  unfold q_tr wn; rw [h1]; dsimp only; rw [h2]
theorem q_dt_no {α : Type} {τ : ta} {s e : Int32} {no : α} {f : Nat → Nat → α} (h : ∀ a, ix s (ta_n τ) = some a → ix e (ta_dn τ a) = none) : q_dt τ s e no f = no := by
  unfold q_dt
  cases z : ix s (ta_n τ) with
  | none => rfl
  | some a => dsimp only; rw [h a z]
theorem q_dt_at {α : Type} {τ : ta} {s e : Int32} {no : α} {f : Nat → Nat → α} {a b : Nat} (h1 : ix s (ta_n τ) = some a) (h2 : ix e (ta_dn τ a) = some b) : q_dt τ s e no f = f a b := by
  unfold q_dt; rw [h1]; dsimp only; rw [h2]
theorem cw_worlds {X : am_X} (hX : am_Cl X) (d : Nat) (M : am_M) (hd : 10 ≤ d) (τ : ta) (hτ : ta_ok τ) (hC : cC M τ) (Q : am_P) (h : ∀ M', rc_F M M' → cC M' τ → Q (some (.inl (nI (wds τ).length))) M') : X d 7 0 [some (.inr (.inl (0, 0)))] [] M Q := by
  refine am_go hX [] 20 ?_
  refine am_cc (by omega) (cw_fresh hX _ _ (by omega) τ hτ hC _ (fun M' F R => ?_))
  have := h M' F (cR_C R)
  refine (fun (z : Q (some (.inl (M'.1 8 0 1))) M') => z) ?_
  rw [show M'.1 8 0 1 = nI (wds τ).length from R.2.2.2.1]; exact this
theorem cw_cost {X : am_X} (hX : am_Cl X) (d : Nat) (M : am_M) (hd : 10 ≤ d) (τ : ta) (hτ : ta_ok τ) (hC : cC M τ) (w : Int32) (Q : am_P) (h : ∀ M', rc_F M M' → cC M' τ → Q (some (.inl (q_cost τ w))) M') : X d 8 0 [some (.inr (.inl (0, 0))), some (.inl (w))] [] M Q := by
  have hl := (wds_ok hτ).2.1
  refine am_go hX [] 30 ?_
  refine am_cc (by omega) (cw_fresh hX _ _ (by omega) τ hτ hC _ (fun M' F R => ?_))
  have := h M' F (cR_C R)
  unfold q_cost at this
  refine am_cc (by omega) (cw_isWorld hX _ _ τ hτ R w _ (fun a a1 a2 a3 => ?_) (fun a3 => ?_))
  · refine am_beq1 ⟨a, by show a < 4; omega, a2, ?_⟩
    refine (fun (z : Q (some (.inl (M'.1 24 (4 * M'.2.1 8 0 + a) 0))) M') => z) ?_
    rw [(cR_W R a1).1]
    rw [a3] at this; exact this
  · refine am_beq0 ?_
    rw [a3] at this; exact this
theorem cw_gap {X : am_X} (hX : am_Cl X) (d : Nat) (M : am_M) (hd : 10 ≤ d) (τ : ta) (hτ : ta_ok τ) (hC : cC M τ) (w : Int32) (Q : am_P) (h : ∀ M', rc_F M M' → cC M' τ → Q (some (.inl (q_gap τ w))) M') : X d 9 0 [some (.inr (.inl (0, 0))), some (.inl (w))] [] M Q := by
  have hl := (wds_ok hτ).2.1
  refine am_go hX [] 40 ?_
  refine am_cc (by omega) (cw_fresh hX _ _ (by omega) τ hτ hC _ (fun M' F R => ?_))
  have := h M' F (cR_C R)
  unfold q_gap at this
  refine am_cc (by omega) (cw_isWorld hX _ _ τ hτ R w _ (fun a a1 a2 a3 => ?_) (fun a3 => ?_))
  · refine am_beq1 ⟨a, by show a < 4; omega, a2, 0, by show 0 < 4; omega, rfl, ?_⟩
    refine (fun (z : Q (some (.inl (M'.1 24 (4 * M'.2.1 8 0 + a) 0 - M'.1 24 (4 * M'.2.1 8 0 + 0) 0))) M') => z) ?_
    rw [(cR_W R a1).1, (cR_W R (i := 0) (by omega)).1]
    rw [a3] at this; exact this
  · refine am_beq0 ?_
    rw [a3] at this; exact this
theorem cw_tracks {X : am_X} (hX : am_Cl X) (d : Nat) (M : am_M) (hd : 10 ≤ d) (τ : ta) (hτ : ta_ok τ) (hC : cC M τ) (w : Int32) (Q : am_P) (h : ∀ M', rc_F M M' → cC M' τ → Q (some (.inl (q_tracks τ w))) M') : X d 10 0 [some (.inr (.inl (0, 0))), some (.inl (w))] [] M Q := by
  have hl := (wds_ok hτ).2.1
  refine am_go hX [] 30 ?_
  refine am_cc (by omega) (cw_fresh hX _ _ (by omega) τ hτ hC _ (fun M' F R => ?_))
  have := h M' F (cR_C R)
  unfold q_tracks at this
  refine am_cc (by omega) (cw_isWorld hX _ _ τ hτ R w _ (fun a a1 a2 a3 => ?_) (fun a3 => ?_))
  · refine am_beq1 ⟨a, by show a < 4; omega, a2, ?_⟩
    refine (fun (z : Q (some (.inl (M'.1 24 (4 * M'.2.1 8 0 + a) 1))) M') => z) ?_
    rw [(cR_W R a1).2.1]
    rw [a3] at this; exact this
  · refine am_beq0 ?_
    rw [a3] at this; exact this
theorem iz_1lt (x : Int32) : 2 ≤ x ↔ 1 < x := by
  rw [Int32.le_iff_toInt_le, Int32.lt_iff_toInt_lt, show (2 : Int32).toInt = 2 by decide, show (1 : Int32).toInt = 1 by decide]; omega
theorem cw_read {X : am_X} (hX : am_Cl X) (d : Nat) (M : am_M) (hd : 1 ≤ d) (p : Nat) (t : Nat → Int32) (ht : ∀ j, j < 9 → M.1 27 p j = t j) (u : Int32) (Q : am_P) (h : Q (some (.inl (tk_rd t u))) M) : X d 81 0 [some (.inr (.inl (27, p))), some (.inl (u))] [] M Q := by
  unfold tk_rd at h
  refine am_go hX [] 20 ?_
  refine ⟨fun (q : u.toInt < 0 ∨ 9 < u.toInt) => ?_, fun (q : u.toInt = 0) => ?_, fun (q : u.toInt = 1) => ?_, fun (q : u.toInt = 2) => ?_, fun (q : u.toInt = 3) => ?_, fun (q : u.toInt = 4) => ?_, fun (q : u.toInt = 5) => ?_, fun (q : u.toInt = 6) => ?_, fun (q : u.toInt = 7) => ?_, fun (q : u.toInt = 8) => ?_, fun (q : u.toInt = 9) => ?_, trivial⟩
  · rw [if_neg (by omega), if_neg (by omega), if_neg (by omega), if_neg (by omega), if_neg (by omega), if_neg (by omega), if_neg (by omega), if_neg (by omega), if_neg (by omega), if_neg (by omega)] at h; exact h
  · rw [if_pos q, ← ht 0 (by omega)] at h; exact h
  · rw [if_neg (by omega), if_pos q, ← ht 1 (by omega)] at h; exact h
  · rw [if_neg (by omega), if_neg (by omega), if_pos q, ← ht 2 (by omega)] at h; exact h
  · rw [if_neg (by omega), if_neg (by omega), if_neg (by omega), if_pos q, ← ht 3 (by omega)] at h; exact h
  · rw [if_neg (by omega), if_neg (by omega), if_neg (by omega), if_neg (by omega), if_pos q, ← ht 4 (by omega)] at h; exact h
  · rw [if_neg (by omega), if_neg (by omega), if_neg (by omega), if_neg (by omega), if_neg (by omega), if_pos q, ← ht 5 (by omega)] at h; exact h
  · rw [if_neg (by omega), if_neg (by omega), if_neg (by omega), if_neg (by omega), if_neg (by omega), if_neg (by omega), if_pos q, ← ht 6 (by omega)] at h; exact h
  · rw [if_neg (by omega), if_neg (by omega), if_neg (by omega), if_neg (by omega), if_neg (by omega), if_neg (by omega), if_neg (by omega), if_pos q, ← ht 7 (by omega)] at h; exact h
  · rw [if_neg (by omega), if_neg (by omega), if_neg (by omega), if_neg (by omega), if_neg (by omega), if_neg (by omega), if_neg (by omega), if_neg (by omega), if_pos q, ← ht 8 (by omega)] at h
    refine ⟨fun (z : M.1 27 p 8 = 0) => ?_, fun (z : ¬ M.1 27 p 8 = 0) => ?_⟩
    · rw [if_pos z] at h; exact h
    · rw [if_neg z] at h; exact h
  · rw [if_neg (by omega), if_neg (by omega), if_neg (by omega), if_neg (by omega), if_neg (by omega), if_neg (by omega), if_neg (by omega), if_neg (by omega), if_neg (by omega), if_pos q, ← ht 5 (by omega)] at h
    refine am_cc hd (cw_isConfirmed hX _ _ p _ (fun z => am_beq1 ?_) (fun z => am_beq0 ?_))
    · rw [if_pos ((iz_1lt _).mp z)] at h; exact h
    · rw [if_neg (fun y => z ((iz_1lt _).mpr y))] at h; exact h
theorem cw_track {X : am_X} (hX : am_Cl X) (d : Nat) (M : am_M) (hd : 10 ≤ d) (τ : ta) (hτ : ta_ok τ) (hC : cC M τ) (w t u : Int32) (Q : am_P) (h : ∀ M', rc_F M M' → cC M' τ → Q (some (.inl (q_track τ w t u))) M') : X d 11 0 [some (.inr (.inl (0, 0))), some (.inl (w)), some (.inl (t)), some (.inl (u))] [] M Q := by
  have hl := (wds_ok hτ).2.1
  refine am_go hX [] 30 ?_
  refine am_cc (by omega) (cw_fresh hX _ _ (by omega) τ hτ hC _ (fun M' F R => ?_))
  have := h M' F (cR_C R)
  unfold q_track at this
  refine am_cc (by omega) (cw_isTrack hX _ _ (by omega) τ hτ R w t _ (fun a b a1 b1 a2 b2 a3 b3 => ?_) (fun z => ?_))
  · have h6 := ((wds_ok hτ).2.2 a a1).1
    rw [q_tr_at a3 b3] at this
    refine am_bne1 ⟨a, by show a < 4; omega, a2, b, by show b < 6; omega, b2, am_cc (by omega) ?_⟩
    exact cw_read hX _ _ (by omega) _ (wd_t (am_nth (wds τ) a wd_0) b) (fun j hj => (cR_W R a1).2.2.1 b b1 j hj) u _ this
  · rw [q_tr_no z] at this
    exact am_bne0 this
theorem cw_accountOf {X : am_X} (hX : am_Cl X) (d : Nat) (M : am_M) (p s e : Nat) (hs : s < 12) (he : e < 4) (Q : am_P) (h : Q (some (.inl (M.1 26 p (4 * s + e)))) M) : X d 66 0 [some (.inr (.inl (24, p))), some (.inl (nI s)), some (.inl (nI e))] [] M Q := by
  have ix4 : 4 * nI s + nI e = nI (4 * s + e) := by rw [show (4 : Int32) = nI 4 from rfl, pk_mul, nI_add]
  refine am_go hX [] 20 ?_
  exact ⟨4 * s + e, by show 4 * s + e < 48; omega, ix4, h⟩
theorem cw_account {X : am_X} (hX : am_Cl X) (d : Nat) (M : am_M) (hd : 10 ≤ d) (τ : ta) (hτ : ta_ok τ) (hC : cC M τ) (w s e : Int32) (Q : am_P) (h : ∀ M', rc_F M M' → cC M' τ → Q (some (.inl (q_account τ w s e))) M') : X d 12 0 [some (.inr (.inl (0, 0))), some (.inl (w)), some (.inl (s)), some (.inl (e))] [] M Q := by
  have hl := (wds_ok hτ).2.1
  have hn := hτ.1
  refine am_go hX [] 30 ?_
  refine am_cc (by omega) (cw_fresh hX _ _ (by omega) τ hτ hC _ (fun M' F R => ?_))
  have := h M' F (cR_C R)
  unfold q_account at this
  have hV := R.2.2.2.2.2.1
  refine am_cc (by omega) (cw_isWorld hX _ _ τ hτ R w _ (fun a a1 a2 a3 => am_beq1 (am_cc (by omega) ?_)) (fun a3 => am_beq0 ?_))
  · rw [a3] at this
    dsimp only at this
    refine cw_isDot hX _ _ (by omega) τ hτ R.1 s e _ (fun x y x1 y1 x2 y2 x3 y3 => ?_) (fun z => am_bne0 ?_)
    · rw [q_dt_at x3 y3] at this
      have h4 := (hτ.2.2.1 x x1).2.2.1
      refine am_bne1 ⟨a, by show a < 4; omega, a2, am_cc (by omega) ?_⟩
      rw [x2, y2]
      refine cw_accountOf hX _ _ _ x y (by omega) (by omega) _ ?_
      refine (fun (z : Q (some (.inl (M'.1 26 (4 * M'.2.1 8 0 + a) (4 * x + y)))) M') => z) ?_
      rw [(cR_W R a1).2.2.2 x y x1 y1]; exact this
    · rw [q_dt_no z] at this; exact this
  · rw [a3] at this; exact this
theorem cw_ordered {X : am_X} (hX : am_Cl X) (d : Nat) (M : am_M) (hd : 10 ≤ d) (τ : ta) (hτ : ta_ok τ) (hC : cC M τ) (i : Int32) (Q : am_P) (h : ∀ M', rc_F M M' → cC M' τ → Q (some (.inl (q_ordered τ i))) M') : X d 14 0 [some (.inr (.inl (0, 0))), some (.inl (i))] [] M Q := by
  have hn := hτ.1
  refine am_go hX [] 30 ?_
  refine am_cc (by omega) (cw_isScan hX _ _ i _ (fun q1 q2 => am_bne1 (am_cc (by omega) ?_)) (fun q => am_bne0 ?_))
  · rw [hC.1.1] at q2
    obtain ⟨k, k1, k2, k3⟩ := ix_y (by omega) q1 q2
    refine cw_fresh hX _ _ (by omega) τ hτ hC _ (fun M' F R => ?_)
    have := h M' F (cR_C R)
    unfold q_ordered at this
    rw [k3] at this
    refine ⟨k, by show k < 12; omega, k2, ?_⟩
    refine (fun (z : Q (some (.inl (M'.1 5 0 k))) M') => z) ?_
    rw [R.2.2.1 k k1]; exact this
  · rw [hC.1.1] at q
    have := h M ⟨fun _ _ _ => rfl, fun _ _ _ _ => rfl, fun _ _ => rfl⟩ hC
    unfold q_ordered at this
    rw [ix_n (by omega) q] at this; exact this
