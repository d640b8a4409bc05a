/-! foretell, name, sure, alive: the class -/
theorem rc_F_rf (M : am_M) : rc_F M M := ⟨fun _ _ _ => rfl, fun _ _ _ _ => rfl, fun _ _ => rfl⟩
noncomputable def lst (P : Nat → Prop) : Nat → Nat → Option Nat
  | 0, _ => none
  | r + 1, k => @ite _ (P k) (Classical.propDecidable (P k)) (some k) (lst P r (k + 1))
theorem lst_y {P : Nat → Prop} {r k : Nat} (h : P k) : lst P (r + 1) k = some k := if_pos h
theorem lst_n {P : Nat → Prop} {r k : Nat} (h : ¬ P k) : lst P (r + 1) k = lst P r (k + 1) := if_neg h
theorem lst_no {P : Nat → Prop} : ∀ (r k : Nat), (∀ j, k ≤ j → j < k + r → ¬ P j) → lst P r k = none
  | 0, _, _ => rfl
  | r + 1, k, h => (lst_n (h k (Nat.le_refl k) (by omega))).trans (lst_no r (k + 1) fun j h1 h2 => h j (by omega) (by omega))
noncomputable def pI (P : Prop) : Int32 := @ite _ P (Classical.propDecidable P) 1 0
theorem pI_y {P : Prop} (h : P) : pI P = 1 := if_pos h
theorem pI_n {P : Prop} (h : ¬ P) : pI P = 0 := if_neg h
def oI (o : Option Nat) : Int32 := match o with
  | some k => nI k
  | none => -1
def q_foretell (τ : ta) (w t m u : Int32) : Int32 := q_tr τ w t NO fun x b => if (0 ≤ u ∧ u ≤ 1) ∧ (wd_t x b 4 ≤ m ∧ m ≤ 999) then Int32.ofInt (tk_f τ (wd_t x b) m.toInt (if u = 0 then 0 else 1)) else NO
def nm_all (τ : ta) (m : Int32) (k : Nat) : Prop := ∀ i, i < (wds τ).length → k < wd_n (wn τ i) ∧ wd_t (wn τ i) k 7 = m
noncomputable def q_name (τ : ta) (m : Int32) : Int32 := if 1 ≤ m ∧ m ≤ 9 then oI (lst (nm_all τ m) 6 0) else -1
def sr_all (τ : ta) (s e : Nat) : Prop := ∀ i, i < (wds τ).length → wd_a (wn τ i) s e = wd_a (wn τ 0) s e
noncomputable def q_sure (τ : ta) (s e : Int32) : Int32 := q_dt τ s e (-1) fun s e => pI (sr_all τ s e)
def al_n (t : Nat → Nat → Int32) : Nat → Nat
  | 0 => 0
  | k + 1 => al_n t k + (if 1 < t k 5 ∧ t k 8 = 0 then 1 else 0)
def q_alive (τ : ta) (w : Int32) : Int32 := match ix w (wds τ).length with
  | some a => nI (al_n (wd_t (wn τ a)) (wd_n (wn τ a)))
  | none => -1
theorem iz_of {x : Int32} {z : Int} (h : x.toInt = z) : x = Int32.ofInt z := by rw [← h, Int32.ofInt_toInt]
theorem tk_mk {r : Nat → Int32} (hok : tk_ok r) : (r 7).toNatClampNeg < 10 ∧ r 7 = nI (r 7).toNatClampNeg := by
  obtain ⟨t0, t1, t2, t3, t4, t7, -⟩ := id hok
  have e : (r 7).toNatClampNeg = (r 7).toInt.toNat := rfl
  exact ⟨by omega, iz_nI (by omega) (by omega)⟩
theorem cw_foretell {X : am_X} (hX : am_Cl X) (d : Nat) (M : am_M) (hd : 10 ≤ d) (τ : ta) (hτ : ta_ok τ) (hC : cC M τ) (w t m u : Int32) (Q : am_P) (h : ∀ M', rc_F M M' → cC M' τ → Q (some (.inl (q_foretell τ w t m u))) M') : X d 13 0 [some (.inr (.inl (0, 0))), some (.inl (w)), some (.inl (t)), some (.inl (m)), some (.inl (u)), none, none] [] M Q := by
  have hl := (wds_ok hτ).2.1
  refine am_go hX [] 60 ?_
  refine am_cc (by omega) (cw_fresh hX _ _ (by omega) τ hτ hC _ (fun M' F R => ?_))
  have := h M' F (cR_C R)
  unfold q_foretell at this
  refine am_cc (by omega) (cw_isTrack hX _ _ (by omega) τ hτ R w t _ (fun a b a1 b1 a2 b2 a3 b3 => am_beq1 (am_cc (by omega) ?_)) (fun z => am_beq0 ?_))
  · have h6 := ((wds_ok hτ).2.2 a a1).1
    have hok := ((wds_ok hτ).2.2 a a1).2.2 b b1
    have hr := (cR_W R a1).2.2.1 b b1
    rw [q_tr_at a3 b3] at this
    generalize wd_t (am_nth (wds τ) a wd_0) b = r at this hok hr
    refine cw_within hX _ _ _ _ _ _ (fun u1 u2 => am_bne1 ?_) (fun z => am_bne0 ?_)
    · refine ⟨a, by show a < 4; omega, a2, b, by show b < 6; omega, b2, am_cc (by omega) ?_⟩
      refine (fun (z : X (d - 1) 25 0 [some (.inl (m)), some (.inl (M'.1 27 (6 * (4 * M'.2.1 8 0 + a) + b) 4)), some (.inl (999))] [] M' _) => z) ?_
      rw [hr 4 (by omega)]
      refine cw_within hX _ _ _ _ _ _ (fun m1 m2 => am_bne1 ?_) (fun z => am_bne0 ?_)
      · rw [if_pos ⟨⟨u1, u2⟩, m1, m2⟩] at this
        obtain ⟨k1, k2⟩ := tk_mk hok
        have t4 := hok.2.2.2.2.1
        have mm1 := Int32.le_iff_toInt_le.mp m1
        have mm2 := Int32.le_iff_toInt_le.mp m2
        rw [show (999 : Int32).toInt = 999 by decide] at mm2
        have ef : ∀ c, c = 0 ∨ c = 1 → M'.1 27 (6 * (4 * M'.2.1 8 0 + a) + b) c + ck_ah (M'.1 7 0 (r 7).toNatClampNeg) m (M'.1 27 (6 * (4 * M'.2.1 8 0 + a) + b) 4) * M'.1 27 (6 * (4 * M'.2.1 8 0 + a) + b) (c + 2) = Int32.ofInt (tk_f τ r m.toInt c) := by
          intro c hc
          rw [hr c (by omega), hr 4 (by omega), hr (c + 2) (by omega), R.1.2.2.2.2.2.1 _ k1]
          exact iz_of (ck_f_ok hok hτ.2.2.2.1 (by omega) mm2 hc)
        refine ⟨(r 7).toNatClampNeg, k1, (hr 7 (by omega)).trans k2, fun (q : ¬ u = 0) => am_cc (by omega) ?_, fun (q : ¬ ¬ u = 0) => am_cc (by omega) ?_⟩
        · rw [if_neg q, ← ef 1 (Or.inr rfl)] at this
          exact cw_foretoldY hX _ _ (by omega) _ _ _ _ this
        · rw [if_pos (Classical.not_not.mp q), ← ef 0 (Or.inl rfl)] at this
          exact cw_foretoldX hX _ _ (by omega) _ _ _ _ this
      · rw [if_neg (fun q => z q.2)] at this; exact this
    · rw [if_neg (fun q => z q.1)] at this; exact this
  · rw [q_tr_no z] at this; exact this
theorem cw_hasMarked {X : am_X} (hX : am_Cl X) (d : Nat) (M : am_M) (τ : ta) (hτ : ta_ok τ) (hR : cR M τ) (i k : Nat) (hi : i < (wds τ).length) (hk : k < 6) (m : Int32) (Q : am_P) (h1 : k < wd_n (wn τ i) ∧ wd_t (wn τ i) k 7 = m → Q (some (.inl (1))) M) (h0 : ¬ (k < wd_n (wn τ i) ∧ wd_t (wn τ i) k 7 = m) → Q (some (.inl (0))) M) : X d 70 0 [some (.inr (.inl (24, 4 * M.2.1 8 0 + i))), some (.inl (nI k)), some (.inl (m))] [] M Q := by
  have hW := cR_W hR hi
  have h6 : wd_n (wn τ i) ≤ 6 := ((wds_ok hτ).2.2 i hi).1
  have e : M.1 24 (4 * M.2.1 8 0 + i) 1 = nI (wd_n (wn τ i)) := hW.2.1
  refine am_go hX [] 20 ?_
  refine ⟨fun (q : M.1 24 (4 * M.2.1 8 0 + i) 1 ≤ nI k) => ⟨Or.inl rfl, h0 (fun z => ?_)⟩, fun (q : ¬ M.1 24 (4 * M.2.1 8 0 + i) 1 ≤ nI k) => ?_⟩
  · rw [e, nI_leI (by omega) (by omega)] at q; omega
  · rw [e, nI_leI (by omega) (by omega)] at q
    have e7 : M.1 27 (6 * (4 * M.2.1 8 0 + i) + k) 7 = wd_t (wn τ i) k 7 := hW.2.2.1 k (by show k < wd_n (wn τ i); omega) 7 (by omega)
    refine ⟨k, by show k < 6; omega, rfl, fun (q2 : ¬ M.1 27 (6 * (4 * M.2.1 8 0 + i) + k) 7 = m) => ⟨Or.inl rfl, h0 (fun z => q2 (e7.trans z.2))⟩, fun (q2 : ¬ ¬ M.1 27 (6 * (4 * M.2.1 8 0 + i) + k) 7 = m) => ⟨Or.inr rfl, h1 ⟨by omega, e7.symm.trans (Classical.not_not.mp q2)⟩⟩⟩
theorem cw_allMark {X : am_X} (hX : am_Cl X) (d : Nat) (M : am_M) (hd : 1 ≤ d) (τ : ta) (hτ : ta_ok τ) (hR : cR M τ) (k : Nat) (hk : k < 6) (m : Int32) (Q : am_P) (h1 : nm_all τ m k → Q (some (.inl (1))) M) (h0 : ¬ nm_all τ m k → Q (some (.inl (0))) M) : X d 46 0 [some (.inr (.inl (8, 0))), some (.inl (nI k)), some (.inl (m)), none] [] M Q := by
  have hl := (wds_ok hτ).2.1
  have e : M.1 8 0 1 = nI (wds τ).length := hR.2.2.2.1
  refine am_go hX [2] 20 ?_
  have loop : ∀ t i : Nat, i + t = (wds τ).length → (∀ j, j < i → k < wd_n (wn τ j) ∧ wd_t (wn τ j) k 7 = m) → X d 46 2 [some (.inr (.inl (8, 0))), some (.inl (nI k)), some (.inl (m)), some (.inl (nI i))] [] M Q := by
    intro t
    induction t with
    | zero =>
      intro i hi ha
      have hi : i = (wds τ).length := by omega
      refine am_go hX [2] 30 ?_
      refine ⟨fun _ => ⟨Or.inr rfl, h1 (fun j hj => ha j (by omega))⟩, fun (q : ¬ M.1 8 0 1 ≤ nI i) => absurd (by rw [e, hi]; exact nI_le (Nat.le_refl _) (by omega)) q⟩
    | succ t ih =>
      intro i hi ha
      refine am_go hX [2] 30 ?_
      refine ⟨fun (q : M.1 8 0 1 ≤ nI i) => absurd q (by rw [e]; exact nI_ge (by omega) (by omega)), fun _ => ⟨i, by show i < 4; omega, rfl, am_cc hd ?_⟩⟩
      refine cw_hasMarked hX _ _ τ hτ hR i k (by omega) hk m _ (fun z => am_bne1 ?_) (fun z => am_bne0 ⟨Or.inl rfl, h0 (fun y => z (y i (by omega)))⟩)
      refine (fun (z : X d 46 2 [some (.inr (.inl (8, 0))), some (.inl (nI k)), some (.inl (m)), some (.inl (nI i + 1))] [] M Q) => z) ?_
      rw [nI_1]
      refine ih (i + 1) (by omega) (fun j hj => ?_)
      by_cases c : j = i
      · rw [c]; exact z
      · exact ha j (by omega)
  exact loop (wds τ).length 0 (by omega) (fun j hj => by omega)
theorem cw_name {X : am_X} (hX : am_Cl X) (d : Nat) (M : am_M) (hd : 10 ≤ d) (τ : ta) (hτ : ta_ok τ) (hC : cC M τ) (m : Int32) (Q : am_P) (h : ∀ M', rc_F M M' → cC M' τ → Q (some (.inl (q_name τ m))) M') : X d 15 0 [some (.inr (.inl (0, 0))), some (.inl (m)), none] [] M Q := by
  have hl := wds_ok hτ
  refine am_go hX [14] 60 ?_
  refine am_cc (by omega) (cw_within hX _ _ _ _ _ _ (fun m1 m2 => am_bne1 (am_cc (by omega) ?_)) (fun z => am_bne0 ?_))
  · refine cw_fresh hX _ _ (by omega) τ hτ hC _ (fun M' F R => ?_)
    have := h M' F (cR_C R)
    unfold q_name at this
    rw [if_pos ⟨m1, m2⟩] at this
    have h6 : wd_n (wn τ 0) ≤ 6 := (hl.2.2 0 (by omega)).1
    have e : M'.1 24 (4 * M'.2.1 8 0 + 0) 1 = nI (wd_n (wn τ 0)) := (cR_W R (i := 0) (by omega)).2.1
    have loop : ∀ t k : Nat, k + t = wd_n (wn τ 0) → lst (nm_all τ m) 6 0 = lst (nm_all τ m) (6 - k) k → X d 15 14 [some (.inr (.inl (0, 0))), some (.inl (m)), some (.inl (nI k))] [] M' Q := by
      intro t
      induction t with
      | zero =>
        intro k hk ha
        have hk : k = wd_n (wn τ 0) := by omega
        refine am_go hX [14] 30 ?_
        refine ⟨0, by show 0 < 4; omega, rfl, fun _ => ?_, fun (q : ¬ M'.1 24 (4 * M'.2.1 8 0 + 0) 1 ≤ nI k) => absurd (by rw [e, hk]; exact nI_le (Nat.le_refl _) (by omega)) q⟩
        rw [ha, lst_no _ _ (fun j j1 j2 z => by have := (z 0 (by omega)).1; omega)] at this
        exact this
      | succ t ih =>
        intro k hk ha
        refine am_go hX [14] 30 ?_
        refine ⟨0, by show 0 < 4; omega, rfl, fun (q : M'.1 24 (4 * M'.2.1 8 0 + 0) 1 ≤ nI k) => absurd q (by rw [e]; exact nI_ge (by omega) (by omega)), fun _ => am_cc (by omega) ?_⟩
        have e6 : 6 - k = (6 - (k + 1)) + 1 := by omega
        refine cw_allMark hX _ _ (by omega) τ hτ R k (by omega) m _ (fun z => am_beq1 ?_) (fun z => am_beq0 ?_)
        · rw [ha, e6, lst_y z] at this; exact this
        · refine (fun (z : X d 15 14 [some (.inr (.inl (0, 0))), some (.inl (m)), some (.inl (nI k + 1))] [] M' Q) => z) ?_
          rw [nI_1]
          refine ih (k + 1) (by omega) ?_
          rw [ha, e6, lst_n z]
    exact loop (wd_n (wn τ 0)) 0 (by omega) rfl
  · have := h M (rc_F_rf M) hC
    unfold q_name at this
    rw [if_neg z] at this; exact this
theorem cw_allAgree {X : am_X} (hX : am_Cl X) (d : Nat) (M : am_M) (hd : 1 ≤ d) (τ : ta) (hτ : ta_ok τ) (hR : cR M τ) (s e : Nat) (hs : s < ta_n τ) (he : e < ta_dn τ s) (Q : am_P) (h1 : sr_all τ s e → Q (some (.inl (1))) M) (h0 : ¬ sr_all τ s e → Q (some (.inl (0))) M) : X d 47 0 [some (.inr (.inl (8, 0))), some (.inl (nI s)), some (.inl (nI e)), none] [] M Q := by
  have hl := wds_ok hτ
  have hn := hτ.1
  have h4 := (hτ.2.2.1 s hs).2.2.1
  have ek : M.1 8 0 1 = nI (wds τ).length := hR.2.2.2.1
  have ea : ∀ i, i < (wds τ).length → M.1 26 (4 * M.2.1 8 0 + i) (4 * s + e) = wd_a (wn τ i) s e := fun i hi => (cR_W hR hi).2.2.2 s e hs he
  refine am_go hX [2] 20 ?_
  have loop : ∀ t i : Nat, i + t = (wds τ).length → (∀ j, j < i → wd_a (wn τ j) s e = wd_a (wn τ 0) s e) → X d 47 2 [some (.inr (.inl (8, 0))), some (.inl (nI s)), some (.inl (nI e)), some (.inl (nI i))] [] M Q := by
    intro t
    induction t with
    | zero =>
      intro i hi ha
      have hi : i = (wds τ).length := by omega
      refine am_go hX [2] 30 ?_
      refine ⟨fun _ => ⟨Or.inr rfl, h1 (fun j hj => ha j (by omega))⟩, fun (q : ¬ M.1 8 0 1 ≤ nI i) => absurd (by rw [ek, hi]; exact nI_le (Nat.le_refl _) (by omega)) q⟩
    | succ t ih =>
      intro i hi ha
      refine am_go hX [2] 30 ?_
      refine ⟨fun (q : M.1 8 0 1 ≤ nI i) => absurd q (by rw [ek]; exact nI_ge (by omega) (by omega)), fun _ => ⟨i, by show i < 4; omega, rfl, am_cc hd ?_⟩⟩
      refine cw_accountOf hX _ _ _ s e (by omega) (by omega) _ ⟨0, by show 0 < 4; omega, rfl, am_cc hd ?_⟩
      refine cw_accountOf hX _ _ _ s e (by omega) (by omega) _ ?_
      refine ⟨fun (q : M.1 26 (4 * M.2.1 8 0 + i) (4 * s + e) = M.1 26 (4 * M.2.1 8 0 + 0) (4 * s + e)) => ?_, fun (q : ¬ M.1 26 (4 * M.2.1 8 0 + i) (4 * s + e) = M.1 26 (4 * M.2.1 8 0 + 0) (4 * s + e)) => ⟨Or.inl rfl, h0 (fun z => q ?_)⟩⟩
      · refine (fun (z : X d 47 2 [some (.inr (.inl (8, 0))), some (.inl (nI s)), some (.inl (nI e)), some (.inl (nI i + 1))] [] M Q) => z) ?_
        rw [nI_1]
        refine ih (i + 1) (by omega) (fun j hj => ?_)
        by_cases c : j = i
        · rw [c, ← ea i (by omega), ← ea 0 (by omega)]; exact q
        · exact ha j (by omega)
      · rw [ea i (by omega), ea 0 (by omega)]; exact z i (by omega)
  exact loop ((wds τ).length - 1) 1 (by omega) (fun j hj => by rw [show j = 0 by omega])
theorem cw_sure {X : am_X} (hX : am_Cl X) (d : Nat) (M : am_M) (hd : 10 ≤ d) (τ : ta) (hτ : ta_ok τ) (hC : cC M τ) (s e : Int32) (Q : am_P) (h : ∀ M', rc_F M M' → cC M' τ → Q (some (.inl (q_sure τ s e))) M') : X d 16 0 [some (.inr (.inl (0, 0))), some (.inl (s)), some (.inl (e))] [] M Q := by
  refine am_go hX [] 40 ?_
  refine am_cc (by omega) (cw_isDot hX _ _ (by omega) τ hτ hC.1 s e _ (fun x y x1 y1 x2 y2 x3 y3 => am_bne1 (am_cc (by omega) ?_)) (fun z => am_bne0 ?_))
  · refine cw_fresh hX _ _ (by omega) τ hτ hC _ (fun M' F R => am_cc (by omega) ?_)
    have := h M' F (cR_C R)
    unfold q_sure at this
    rw [q_dt_at x3 y3] at this
    rw [x2, y2]
    refine cw_allAgree hX _ _ (by omega) τ hτ R x y x1 y1 _ (fun z => am_beq1 ?_) (fun z => am_beq0 ?_)
    · rw [pI_y z] at this; exact this
    · rw [pI_n z] at this; exact this
  · have := h M (rc_F_rf M) hC
    unfold q_sure at this
    rw [q_dt_no z] at this; exact this
theorem cw_countAlive {X : am_X} (hX : am_Cl X) (d : Nat) (M : am_M) (hd : 1 ≤ d) (p n : Nat) (hn : n ≤ 6) (t : Nat → Nat → Int32) (e1 : M.1 24 p 1 = nI n) (et : ∀ k, k < n → ∀ j, j < 9 → M.1 27 (6 * p + k) j = t k j) (Q : am_P) (h : Q (some (.inl (nI (al_n t n)))) M) : X d 69 0 [some (.inr (.inl (24, p))), none, none] [] M Q := by
  refine am_go hX [4] 20 ?_
  have loop : ∀ r k : Nat, k + r = n → X d 69 4 [some (.inr (.inl (24, p))), some (.inl (nI (al_n t k))), some (.inl (nI k))] [] M Q := by
    intro r
    induction r with
    | zero =>
      intro k hk
      have hk : k = n := by omega
      subst hk
      refine am_go hX [4] 30 ?_
      exact ⟨fun _ => h, fun (q : ¬ M.1 24 p 1 ≤ nI k) => absurd (by rw [e1]; exact nI_le (Nat.le_refl _) (by omega)) q⟩
    | succ r ih =>
      intro k hk
      have next : ∀ x : Nat, al_n t (k + 1) = al_n t k + x → X d 69 4 [some (.inr (.inl (24, p))), some (.inl (nI (al_n t k) + nI x)), some (.inl (nI k + 1))] [] M Q := by
        intro x hx
        rw [nI_1, nI_add, ← hx]
        exact ih (k + 1) (by omega)
      refine am_go hX [4] 30 ?_
      refine ⟨fun (q : M.1 24 p 1 ≤ nI k) => absurd q (by rw [e1]; exact nI_ge (by omega) (by omega)), fun _ => ⟨k, by show k < 6; omega, rfl, am_cc hd ?_⟩⟩
      have e5 : M.1 27 (6 * p + k) 5 = t k 5 := et k (by omega) 5 (by omega)
      have e8 : M.1 27 (6 * p + k) 8 = t k 8 := et k (by omega) 8 (by omega)
      refine cw_isConfirmed hX _ _ (6 * p + k) _ (fun z => am_beq1 ?_) (fun z => am_beq0 ?_)
      · rw [e5, iz_1lt] at z
        refine ⟨k, by show k < 6; omega, rfl, fun (q : ¬ M.1 27 (6 * p + k) 8 = 0) => ?_, fun (q : ¬ ¬ M.1 27 (6 * p + k) 8 = 0) => ?_⟩
        · exact next 0 (by rw [al_n, if_neg (fun y => q (e8.trans y.2))])
        · exact next 1 (by rw [al_n, if_pos ⟨z, e8.symm.trans (Classical.not_not.mp q)⟩])
      · rw [e5, iz_1lt] at z
        exact next 0 (by rw [al_n, if_neg (fun y => z y.1)])
  exact loop n 0 (by omega)
theorem cw_alive {X : am_X} (hX : am_Cl X) (d : Nat) (M : am_M) (hd : 10 ≤ d) (τ : ta) (hτ : ta_ok τ) (hC : cC M τ) (w : Int32) (Q : am_P) (h : ∀ M', rc_F M M' → cC M' τ → Q (some (.inl (q_alive τ w))) M') : X d 17 0 [some (.inr (.inl (0, 0))), some (.inl (w))] [] M Q := by
  have hl := (wds_ok hτ).2.1
  refine am_go hX [] 30 ?_
  refine am_cc (by omega) (cw_fresh hX _ _ (by omega) τ hτ hC _ (fun M' F R => ?_))
  have := h M' F (cR_C R)
  unfold q_alive at this
  refine am_cc (by omega) (cw_isWorld hX _ _ τ hτ R w _ (fun a a1 a2 a3 => ?_) (fun a3 => ?_))
  · rw [a3] at this
    refine am_beq1 ⟨a, by show a < 4; omega, a2, am_cc (by omega) ?_⟩
    exact cw_countAlive hX _ _ (by omega) _ (wd_n (wn τ a)) ((wds_ok hτ).2.2 a a1).1 (wd_t (wn τ a)) (cR_W R a1).2.1 (cR_W R a1).2.2.1 _ this
  · refine am_beq0 ?_
    rw [a3] at this; exact this
