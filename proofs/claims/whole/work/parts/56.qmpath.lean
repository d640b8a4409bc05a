/-! paths of world 0: the reference -/
theorem lst_skip {P : Nat → Prop} : ∀ {r k : Nat}, ¬ P (k + r) → lst P (r + 1) k = lst P r k
  | 0, k, h => lst_n h
  | r + 1, k, h => by
    by_cases q : P k
    · rw [lst_y q, lst_y q]
    · rw [lst_n q, lst_n q, lst_skip (by rw [show k + 1 + r = k + (r + 1) by omega]; exact h)]
theorem lst_new {P : Nat → Prop} : ∀ {r k : Nat}, (∀ j, k ≤ j → j < k + r → ¬ P j) → P (k + r) → lst P (r + 1) k = some (k + r)
  | 0, k, _, h => lst_y h
  | r + 1, k, hn, h => by
    rw [lst_n (hn k (Nat.le_refl k) (by omega)), lst_new (fun j h1 h2 => hn j (by omega) (by omega)) (by rw [show k + 1 + r = k + (r + 1) by omega]; exact h), show k + 1 + r = k + (r + 1) by omega]
noncomputable def lt_i (τ : ta) (k m : Int32) (i e : Nat) : Option (Nat × Nat) := if nI (ta_mo τ (od τ i)) ≤ m then (match lst (fun e => wd_a (wn τ 0) (od τ i) e = k) e 0 with
      | some e => some (od τ i, e)
      | none => lt_k τ k m i) else lt_k τ k m i
theorem lt_i_0 (τ : ta) (k m : Int32) (i : Nat) : lt_i τ k m i 0 = lt_k τ k m i := by unfold lt_i; split <;> rfl
theorem lt_i_n (τ : ta) (k m : Int32) (i : Nat) : lt_i τ k m i (ta_dn τ (od τ i)) = lt_k τ k m (i + 1) := rfl
theorem dt_uni {τ : ta} (hτ : ta_ok τ) {k : Int32} (hk : ¬ k = -1) {s e e' : Nat} (hs : s < ta_n τ) (h1 : e < e') (h2 : e' < ta_dn τ s) (h3 : wd_a (wn τ 0) s e' = k) : ¬ wd_a (wn τ 0) s e = k := by
  intro z
  have := wds_u hτ (j := 0) (by have := (wds_ok hτ).1; omega) s hs e e' h1 h2 (z.trans h3.symm)
  exact hk (z.symm.trans this)
theorem iz_nm1 {b : Nat} (h : b < 6) : ¬ nI b = -1 := by
  intro q
  have := congrArg Int32.toInt q
  rw [nI_toInt (by omega), show (-1 : Int32).toInt = -1 by decide] at this
  omega
set_option maxHeartbeats 1000000 in
theorem cm_latest {X : am_X} (hX : am_Cl X) (d : Nat) (M : am_M) (hd : 1 ≤ d) (τ : ta) (hτ : ta_ok τ) (hR : mR M τ) (k m : Int32) (hk : ¬ k = -1) (Q : am_P) (h : Q (some (.inl (oP (lt_k τ k m (ta_n τ))))) M) : X d 124 0 [some (.inr (.inl (28, 0))), some (.inl (k)), some (.inl (m)), none, none, none] [] M Q := by
  have hn := hτ.1
  have hl := wds_ok hτ
  have e1 : M.1 28 0 1 = nI (ta_n τ) := hR.1.1
  refine am_go hX [4] 20 ?_
  have loop : ∀ t i : Nat, i + t = ta_n τ → ∀ z5, X d 124 4 [some (.inr (.inl (28, 0))), some (.inl (k)), some (.inl (m)), some (.inl (oP (lt_k τ k m i))), some (.inl (nI i)), z5] [] M Q := by
    intro t
    induction t with
    | zero =>
      intro i hi z5
      have hi : i = ta_n τ := by omega
      rw [hi]
      refine am_go hX [4] 60 ?_
      exact ⟨fun _ => h, fun (q : ¬ M.1 28 0 1 ≤ nI (ta_n τ)) => absurd (by rw [e1]; exact nI_le (Nat.le_refl _) (by omega)) q⟩
    | succ t ih =>
      intro i hi z5
      have hin : i < ta_n τ := by omega
      have hs : od τ i < ta_n τ := (od_facts (ta_mo τ) (ta_n τ)).1 i hin
      have ho : M.1 42 0 i = nI (od τ i) := hR.2.2.1 i hin
      have hT := hR.1.2.2.1 _ hs
      have em : M.1 32 0 (od τ i) = nI (ta_mo τ (od τ i)) := hT.2.1
      have ed : M.1 33 0 (od τ i) = nI (ta_dn τ (od τ i)) := hT.2.2.1
      have h4 := (hτ.2.2.1 _ hs).2.2.1
      have i12 : i < 12 := by omega
      have s12 : od τ i < 12 := by omega
      have inner : ∀ r e : Nat, e + r = ta_dn τ (od τ i) → X d 124 10 [some (.inr (.inl (28, 0))), some (.inl (k)), some (.inl (m)), some (.inl (oP (lt_i τ k m i e))), some (.inl (nI i)), some (.inl (nI e))] [] M Q := by
        intro r
        induction r with
        | zero =>
          intro e he
          have he : e = ta_dn τ (od τ i) := by omega
          refine am_go hX [4] 60 ?_
          refine ⟨i, i12, rfl, od τ i, s12, ho, fun _ => ?_, fun (q : ¬ M.1 33 0 (od τ i) ≤ nI e) => absurd (by rw [ed, he]; exact nI_le (Nat.le_refl _) (by omega)) q⟩
          refine (fun (z : X d 124 4 [some (.inr (.inl (28, 0))), some (.inl (k)), some (.inl (m)), some (.inl (oP (lt_i τ k m i e))), some (.inl (nI i + 1)), some (.inl (nI e))] [] M Q) => z) ?_
          rw [nI_1, he, lt_i_n]
          exact ih (i + 1) (by omega) _
        | succ r ihr =>
          intro e he
          have het : e < ta_dn τ (od τ i) := by omega
          have next : ∀ o, o = lt_i τ k m i (e + 1) → X d 124 10 [some (.inr (.inl (28, 0))), some (.inl (k)), some (.inl (m)), some (.inl (oP o)), some (.inl (nI i)), some (.inl (nI e + 1))] [] M Q := by
            intro o eo
            rw [nI_1, eo]
            exact ihr (e + 1) (by omega)
          refine am_go hX [10, 4] 60 ?_
          refine ⟨i, i12, rfl, od τ i, s12, ho, fun (q : M.1 33 0 (od τ i) ≤ nI e) => absurd q (by rw [ed]; exact nI_ge het (by omega)), fun _ => ⟨i, i12, rfl, od τ i, s12, ho, fun (q : m < M.1 32 0 (od τ i)) => ?_, fun (q : ¬ m < M.1 32 0 (od τ i)) => ⟨i, i12, rfl, am_cc hd ?_⟩⟩⟩
          · rw [em] at q
            exact next (lt_i τ k m i e) (by unfold lt_i; rw [if_neg (Int32.not_le.mpr q), if_neg (Int32.not_le.mpr q)])
          · rw [em] at q
            have q := Int32.not_lt.mp q
            refine (fun (z : X (d - 1) 115 0 [some (.inr (.inl (28, 0))), some (.inl (nI 0)), some (.inl (M.1 42 0 i)), some (.inl (nI e))] [] M _) => z) ?_
            rw [ho]
            refine cm_accountOf hX _ _ τ hτ hR 0 (od τ i) e (by omega) hs het _ ?_
            refine ⟨fun (y : ¬ wd_a (wn τ 0) (od τ i) e = k) => ?_, fun (y : ¬ ¬ wd_a (wn τ 0) (od τ i) e = k) => ⟨i, i12, rfl, ?_⟩⟩
            · exact next (lt_i τ k m i e) (by unfold lt_i; rw [if_pos q, if_pos q, lst_skip (P := fun e => wd_a (wn τ 0) (od τ i) e = k) (by rw [Nat.zero_add]; exact y)])
            · have y := Classical.not_not.mp y
              have ix : 4 * M.1 42 0 i + nI e = nI (4 * od τ i + e) := by rw [ho, show (4 : Int32) = nI 4 from rfl, pk_mul, nI_add]
              refine (fun (z : X d 124 10 [some (.inr (.inl (28, 0))), some (.inl (k)), some (.inl (m)), some (.inl (4 * M.1 42 0 i + nI e)), some (.inl (nI i)), some (.inl (nI e + 1))] [] M Q) => z) ?_
              rw [ix]
              refine next (some (od τ i, e)) ?_
              unfold lt_i
              rw [if_pos q, lst_new (P := fun e => wd_a (wn τ 0) (od τ i) e = k) (fun j _ hj => dt_uni hτ hk hs (by omega) het y) (by rw [Nat.zero_add]; exact y), Nat.zero_add]
      refine am_go hX [10] 60 ?_
      refine ⟨fun (q : M.1 28 0 1 ≤ nI i) => absurd q (by rw [e1]; exact nI_ge hin (by omega)), fun _ => ?_⟩
      have := inner (ta_dn τ (od τ i)) 0 (by omega)
      rw [lt_i_0] at this
      exact this
  exact loop (ta_n τ) 0 (by omega) none
set_option maxHeartbeats 1000000 in
theorem cm_apartAt {X : am_X} (hX : am_Cl X) (d : Nat) (M : am_M) (hd : 2 ≤ d) (τ : ta) (hτ : ta_ok τ) (hR : mR M τ) (k j m : Int32) (hk : ¬ k = -1) (hj : ¬ j = -1) (Q : am_P) (h : Q (some (.inl (sqa τ k j m))) M) : X d 125 0 [some (.inr (.inl (28, 0))), some (.inl (k)), some (.inl (j)), some (.inl (m)), none, none, none, none] [] M Q := by
  have hn := hτ.1
  unfold sqa at h
  refine am_go hX [16] 40 ?_
  refine am_cc (by omega) (cm_latest hX _ _ (by omega) τ hτ hR k m hk _ (am_cc (by omega) (cm_latest hX _ _ (by omega) τ hτ hR j m hj _ ?_)))
  have la := fun z => lt_lt (τ := τ) (k := k) (m := m) (i := ta_n τ) (z := z) (Nat.le_refl _)
  have lb := fun z => lt_lt (τ := τ) (k := j) (m := m) (i := ta_n τ) (z := z) (Nat.le_refl _)
  generalize lt_k τ k m (ta_n τ) = A at h la ⊢
  generalize lt_k τ j m (ta_n τ) = B at h lb ⊢
  cases A with
  | none => exact ⟨fun _ => h, fun (y : ¬ (-1 : Int32) < 0) => absurd (by decide) y⟩
  | some a =>
    obtain ⟨a1, a2⟩ := la a rfl
    have a4 := (hτ.2.2.1 _ a1).2.2.1
    refine ⟨fun (y : nI (4 * a.1 + a.2) < 0) => absurd y (nI_pos (by omega)), fun _ => ?_⟩
    cases B with
    | none => exact ⟨fun (y : (0 : Int32) ≤ -1) => absurd y (by decide), fun _ => h⟩
    | some b =>
      obtain ⟨b1, b2⟩ := lb b rfl
      have b4 := (hτ.2.2.1 _ b1).2.2.1
      refine ⟨fun _ => ?_, fun (y : ¬ (0 : Int32) ≤ nI (4 * b.1 + b.2)) => absurd (nI_pos' (by omega)) y⟩
      refine (fun (z : X d 125 16 [some (.inr (.inl (28, 0))), some (.inl (k)), some (.inl (j)), some (.inl (m)), some (.inl (nI (4 * a.1 + a.2))), some (.inl (nI (4 * b.1 + b.2))), none, none] [] M Q) => z) ?_
      obtain ⟨da, ma⟩ := iz_d4 (s := a.1) (e := a.2) (by omega) (by omega)
      obtain ⟨db, mb⟩ := iz_d4 (s := b.1) (e := b.2) (by omega) (by omega)
      refine am_go hX [] 60 ?_
      have r1 : ∀ Q', Q' (some (.inl (ta_rx τ a.1 a.2))) M → X (d - 1) 94 0 [some (.inr (.inl (28, 0))), some (.inl (nI (4 * a.1 + a.2) / 4)), some (.inl (nI (4 * a.1 + a.2) - nI (4 * a.1 + a.2) / 4 * 4))] [] M Q' := fun Q' h => by rw [ma, da]; exact cm_rightX hX _ _ τ hτ hR.1 _ _ a1 a2 Q' h
      have r2 : ∀ Q', Q' (some (.inl (ta_rx τ b.1 b.2))) M → X (d - 1) 94 0 [some (.inr (.inl (28, 0))), some (.inl (nI (4 * b.1 + b.2) / 4)), some (.inl (nI (4 * b.1 + b.2) - nI (4 * b.1 + b.2) / 4 * 4))] [] M Q' := fun Q' h => by rw [mb, db]; exact cm_rightX hX _ _ τ hτ hR.1 _ _ b1 b2 Q' h
      have r3 : ∀ Q', Q' (some (.inl (ta_ry τ a.1 a.2))) M → X (d - 1) 95 0 [some (.inr (.inl (28, 0))), some (.inl (nI (4 * a.1 + a.2) / 4)), some (.inl (nI (4 * a.1 + a.2) - nI (4 * a.1 + a.2) / 4 * 4))] [] M Q' := fun Q' h => by rw [ma, da]; exact cm_rightY hX _ _ τ hτ hR.1 _ _ a1 a2 Q' h
      have r4 : ∀ Q', Q' (some (.inl (ta_ry τ b.1 b.2))) M → X (d - 1) 95 0 [some (.inr (.inl (28, 0))), some (.inl (nI (4 * b.1 + b.2) / 4)), some (.inl (nI (4 * b.1 + b.2) - nI (4 * b.1 + b.2) / 4 * 4))] [] M Q' := fun Q' h => by rw [mb, db]; exact cm_rightY hX _ _ τ hτ hR.1 _ _ b1 b2 Q' h
      refine ⟨by decide, by decide, am_cc (by omega) (r1 _ ?_)⟩
      refine ⟨by decide, by decide, am_cc (by omega) (r2 _ ?_)⟩
      refine ⟨by decide, by decide, am_cc (by omega) (r3 _ ?_)⟩
      refine ⟨by decide, by decide, am_cc (by omega) (r4 _ ?_)⟩
      exact h
theorem cm_apartQ {X : am_X} (hX : am_Cl X) (d : Nat) (M : am_M) (hd : 7 ≤ d) (τ : ta) (hτ : ta_ok τ) (hC : mC M τ) (k j m : Int32) (Q : am_P) (h : ∀ M', rm_F M M' → mC M' τ → Q (some (.inl (q_apart τ k j m))) M') : X d 126 0 [some (.inr (.inl (28, 0))), some (.inl (k)), some (.inl (j)), some (.inl (m))] [] M Q := by
  refine am_go hX [] 40 ?_
  refine am_cc (by omega) (cm_isTrack hX _ _ (by omega) τ hτ hC 0 k _ (fun M' F R a b a1 b1 a2 b2 a3 b3 => am_beq1 (am_cc (by omega) ?_)) (fun M' F R z => am_beq0 ?_))
  · refine cm_isTrack hX _ _ (by omega) τ hτ (mR_C R) 0 j _ (fun M2 F2 R2 a' b' a1' b1' a2' b2' a3' b3' => am_beq1 (am_cc (by omega) ?_)) (fun M2 F2 R2 z => am_beq0 ?_)
    · have := h M2 (rm_F_tr F F2) (mR_C R2)
      unfold q_apart at this
      rw [q_tr_at a3 b3, q_tr_at a3' b3'] at this
      have g1 := ((wds_ok hτ).2.2 a a1).1
      have g2 := ((wds_ok hτ).2.2 a' a1').1
      exact cm_apartAt hX _ _ (by omega) τ hτ R2 k j m (by rw [b2]; exact iz_nm1 (by omega)) (by rw [b2']; exact iz_nm1 (by omega)) _ this
    · have := h M2 (rm_F_tr F F2) (mR_C R2)
      unfold q_apart at this
      rw [q_tr_at a3 b3, q_tr_no z] at this; exact this
  · have := h M' F (mR_C R)
    unfold q_apart at this
    rw [q_tr_no z] at this; exact this
theorem cm_near {X : am_X} (hX : am_Cl X) (d : Nat) (M : am_M) (hd : 7 ≤ d) (τ : ta) (hτ : ta_ok τ) (hC : mC M τ) (k j m : Int32) (Q : am_P) (h : ∀ M', rm_F M M' → mC M' τ → Q (some (.inl (q_near τ k j m))) M') : X d 127 0 [some (.inr (.inl (28, 0))), some (.inl (k)), some (.inl (j)), some (.inl (m)), none, none] [] M Q := by
  have hn := hτ.1
  refine am_go hX [25] 40 ?_
  refine am_cc (by omega) (cm_isTrack hX _ _ (by omega) τ hτ hC 0 k _ (fun M' F R a b a1 b1 a2 b2 a3 b3 => am_beq1 (am_cc (by omega) ?_)) (fun M' F R z => am_beq0 ?_))
  · refine cm_isTrack hX _ _ (by omega) τ hτ (mR_C R) 0 j _ (fun M2 F2 R2 a' b' a1' b1' a2' b2' a3' b3' => am_bne1 (am_cc (by omega) ?_)) (fun M2 F2 R2 z => am_bne0 ?_)
    · have := h M2 (rm_F_tr F F2) (mR_C R2)
      unfold q_near at this
      rw [q_tr_at a3 b3, q_tr_at a3' b3'] at this
      have g1 := ((wds_ok hτ).2.2 a a1).1
      have g2 := ((wds_ok hτ).2.2 a' a1').1
      have k1 : ¬ k = -1 := by rw [b2]; exact iz_nm1 (by omega)
      have j1 : ¬ j = -1 := by rw [b2']; exact iz_nm1 (by omega)
      refine cm_in hX _ _ _ _ _ _ (fun m1 m2 => am_beq1 ⟨fun (q : ¬ k = j) => ?_, fun (q : ¬ ¬ k = j) => ?_⟩) (fun z => am_beq0 ?_)
      · rw [if_pos ⟨⟨m1, m2⟩, q⟩] at this
        have e1 : M2.1 28 0 1 = nI (ta_n τ) := R2.1.1
        have loop : ∀ t n : Nat, n + t = ta_n τ → ∀ z5, nr τ k j m (ta_n τ) 0 = nr τ k j m t n → X d 127 25 [some (.inr (.inl (28, 0))), some (.inl (k)), some (.inl (j)), some (.inl (m)), some (.inl (nI n)), z5] [] M2 Q := by
          intro t
          induction t with
          | zero =>
            intro n hn' z5 ha
            rw [ha] at this
            refine am_go hX [25] 60 ?_
            exact ⟨fun _ => this, fun (q : ¬ M2.1 28 0 1 ≤ nI n) => absurd (by rw [e1]; exact nI_le (by omega) (by omega)) q⟩
          | succ t ih =>
            intro n hn' z5 ha
            have hin : n < ta_n τ := by omega
            have hs : od τ n < ta_n τ := (od_facts (ta_mo τ) (ta_n τ)).1 n hin
            have ho : M2.1 42 0 n = nI (od τ n) := R2.2.2.1 n hin
            have em : M2.1 32 0 (od τ n) = nI (ta_mo τ (od τ n)) := (R2.1.2.2.1 _ hs).2.1
            have i12 : n < 12 := by omega
            have s12 : od τ n < 12 := by omega
            have next : ∀ z5, nr τ k j m (ta_n τ) 0 = nr τ k j m t (n + 1) → X d 127 25 [some (.inr (.inl (28, 0))), some (.inl (k)), some (.inl (j)), some (.inl (m)), some (.inl (nI n + 1)), z5] [] M2 Q := by
              intro z5 e
              rw [nI_1]
              exact ih (n + 1) (by omega) z5 e
            refine am_go hX [25] 60 ?_
            refine ⟨fun (q : M2.1 28 0 1 ≤ nI n) => absurd q (by rw [e1]; exact nI_ge hin (by omega)), fun _ => ⟨n, i12, rfl, od τ n, s12, ho, am_cc (by omega) ?_⟩⟩
            refine (fun (z : X (d - 1) 125 0 [some (.inr (.inl (28, 0))), some (.inl (k)), some (.inl (j)), some (.inl (M2.1 32 0 (od τ n))), none, none, none, none] [] M2 _) => z) ?_
            rw [em]
            refine cm_apartAt hX _ _ (by omega) τ hτ R2 k j _ k1 j1 _ ?_
            have hnr : nr τ k j m (ta_n τ) 0 = if 0 ≤ sqa τ k j (nI (ta_mo τ (od τ n))) ∧ sqa τ k j (nI (ta_mo τ (od τ n))) ≤ m * m then nI (ta_mo τ (od τ n)) else nr τ k j m t (n + 1) := by rw [ha, nr]
            refine ⟨fun (y : sqa τ k j (nI (ta_mo τ (od τ n))) < 0) => ?_, fun (y : ¬ sqa τ k j (nI (ta_mo τ (od τ n))) < 0) => ⟨fun (w : m * m < sqa τ k j (nI (ta_mo τ (od τ n)))) => ?_, fun (w : ¬ m * m < sqa τ k j (nI (ta_mo τ (od τ n)))) => ⟨n, i12, rfl, od τ n, s12, ho, ?_⟩⟩⟩
            · exact next _ (by rw [hnr, if_neg (fun v => Int32.not_le.mpr y v.1)])
            · exact next _ (by rw [hnr, if_neg (fun v => Int32.not_le.mpr w v.2)])
            · rw [hnr, if_pos ⟨Int32.not_lt.mp y, Int32.not_lt.mp w⟩] at this
              refine (fun (z : Q (some (.inl (M2.1 32 0 (od τ n)))) M2) => z) ?_
              rw [em]; exact this
        exact loop (ta_n τ) 0 (by omega) none rfl
      · rw [if_neg (fun z => q z.2)] at this; exact this
      · rw [if_neg (fun q => z q.1)] at this; exact this
    · have := h M2 (rm_F_tr F F2) (mR_C R2)
      unfold q_near at this
      rw [q_tr_at a3 b3, q_tr_no z] at this; exact this
  · have := h M' F (mR_C R)
    unfold q_near at this
    rw [q_tr_no z] at this; exact this
set_option maxHeartbeats 1000000 in
theorem cm_path {X : am_X} (hX : am_Cl X) (d : Nat) (M : am_M) (hd : 7 ≤ d) (τ : ta) (hτ : ta_ok τ) (hC : mC M τ) (k i : Int32) (Q : am_P) (h : ∀ M', rm_F M M' → mC M' τ → Q (some (.inl (q_path τ k i))) M') : X d 123 0 [some (.inr (.inl (28, 0))), some (.inl (k)), some (.inl (i)), none, none, none] [] M Q := by
  have hn := hτ.1
  have hl := wds_ok hτ
  refine am_go hX [13] 40 ?_
  refine am_cc (by omega) (cm_isTrack hX _ _ (by omega) τ hτ hC 0 k _ (fun M' F R a b a1 b1 a2 b2 a3 b3 => am_beq1 ?_) (fun M' F R z => am_beq0 ?_))
  · have := h M' F (mR_C R)
    unfold q_path at this
    rw [q_tr_at a3 b3] at this
    have g1 := (hl.2.2 a a1).1
    have k1 : ¬ k = -1 := by rw [b2]; exact iz_nm1 (by omega)
    refine ⟨fun (q : 0 ≤ i) => ?_, fun (q : ¬ 0 ≤ i) => ?_⟩
    · rw [if_pos q] at this
      have e1 : M'.1 28 0 1 = nI (ta_n τ) := R.1.1
      have loop : ∀ t n : Nat, n + t = ta_n τ → ∀ l z5, pt τ k (ta_n τ) 0 i = pt τ k t n l → X d 123 13 [some (.inr (.inl (28, 0))), some (.inl (k)), some (.inl (i)), some (.inl (l)), some (.inl (nI n)), z5] [] M' Q := by
        intro t
        induction t with
        | zero =>
          intro n hn' l z5 ha
          rw [ha] at this
          refine am_go hX [13] 60 ?_
          exact ⟨fun _ => this, fun (q : ¬ M'.1 28 0 1 ≤ nI n) => absurd (by rw [e1]; exact nI_le (by omega) (by omega)) q⟩
        | succ t ih =>
          intro n hn' l z5 ha
          have hin : n < ta_n τ := by omega
          have hs : od τ n < ta_n τ := (od_facts (ta_mo τ) (ta_n τ)).1 n hin
          have ho : M'.1 42 0 n = nI (od τ n) := R.2.2.1 n hin
          have ed : M'.1 33 0 (od τ n) = nI (ta_dn τ (od τ n)) := (R.1.2.2.1 _ hs).2.2.1
          have h4 := (hτ.2.2.1 _ hs).2.2.1
          have i12 : n < 12 := by omega
          have s12 : od τ n < 12 := by omega
          have next : ∀ l z5, pt τ k (ta_n τ) 0 i = pt τ k t (n + 1) l → X d 123 13 [some (.inr (.inl (28, 0))), some (.inl (k)), some (.inl (i)), some (.inl (l)), some (.inl (nI n + 1)), z5] [] M' Q := by
            intro l z5 e
            rw [nI_1]
            exact ih (n + 1) (by omega) l z5 e
          have rest : ∀ l, pt τ k (ta_n τ) 0 i = pt τ k t (n + 1) l → ∀ r e : Nat, e + r = ta_dn τ (od τ n) → (∀ e', e ≤ e' → e' < ta_dn τ (od τ n) → ¬ wd_a (wn τ 0) (od τ n) e' = k) → X d 123 19 [some (.inr (.inl (28, 0))), some (.inl (k)), some (.inl (i)), some (.inl (l)), some (.inl (nI n)), some (.inl (nI e))] [] M' Q := by
            intro l hl' r
            induction r with
            | zero =>
              intro e he hno
              refine am_go hX [13, 19] 60 ?_
              refine ⟨n, i12, rfl, od τ n, s12, ho, fun _ => ?_, fun (q : ¬ M'.1 33 0 (od τ n) ≤ nI e) => absurd (by rw [ed]; exact nI_le (by omega) (by omega)) q⟩
              exact next l _ hl'
            | succ r ihr =>
              intro e he hno
              refine am_go hX [13, 19] 60 ?_
              refine ⟨n, i12, rfl, od τ n, s12, ho, fun (q : M'.1 33 0 (od τ n) ≤ nI e) => absurd q (by rw [ed]; exact nI_ge (by omega) (by omega)), fun _ => ⟨n, i12, rfl, am_cc (by omega) ?_⟩⟩
              refine (fun (z : X (d - 1) 115 0 [some (.inr (.inl (28, 0))), some (.inl (nI 0)), some (.inl (M'.1 42 0 n)), some (.inl (nI e))] [] M' _) => z) ?_
              rw [ho]
              refine cm_accountOf hX _ _ τ hτ R 0 (od τ n) e (by omega) hs (by omega) _ ?_
              refine ⟨fun (y : wd_a (wn τ 0) (od τ n) e = k) => absurd y (hno e (Nat.le_refl _) (by omega)), fun _ => ?_⟩
              refine (fun (z : X d 123 19 [some (.inr (.inl (28, 0))), some (.inl (k)), some (.inl (i)), some (.inl (l)), some (.inl (nI n)), some (.inl (nI e + 1))] [] M' Q) => z) ?_
              rw [nI_1]
              exact ihr (e + 1) (by omega) (fun e' h1 h2 => hno e' (by omega) h2)
          have inner : ∀ r e : Nat, e + r = ta_dn τ (od τ n) → dt τ k (od τ n) = lst (fun e => wd_a (wn τ 0) (od τ n) e = k) r e → X d 123 19 [some (.inr (.inl (28, 0))), some (.inl (k)), some (.inl (i)), some (.inl (l)), some (.inl (nI n)), some (.inl (nI e))] [] M' Q := by
            intro r
            induction r with
            | zero =>
              intro e he hno
              refine am_go hX [13, 19] 60 ?_
              refine ⟨n, i12, rfl, od τ n, s12, ho, fun _ => ?_, fun (q : ¬ M'.1 33 0 (od τ n) ≤ nI e) => absurd (by rw [ed]; exact nI_le (by omega) (by omega)) q⟩
              exact next l _ (by rw [ha, pt, hno]; rfl)
            | succ r ihr =>
              intro e he hno
              refine am_go hX [13, 19] 60 ?_
              refine ⟨n, i12, rfl, od τ n, s12, ho, fun (q : M'.1 33 0 (od τ n) ≤ nI e) => absurd q (by rw [ed]; exact nI_ge (by omega) (by omega)), fun _ => ⟨n, i12, rfl, am_cc (by omega) ?_⟩⟩
              refine (fun (z : X (d - 1) 115 0 [some (.inr (.inl (28, 0))), some (.inl (nI 0)), some (.inl (M'.1 42 0 n)), some (.inl (nI e))] [] M' _) => z) ?_
              rw [ho]
              refine cm_accountOf hX _ _ τ hτ R 0 (od τ n) e (by omega) hs (by omega) _ ?_
              refine ⟨fun (y : wd_a (wn τ 0) (od τ n) e = k) => ?_, fun (y : ¬ wd_a (wn τ 0) (od τ n) e = k) => ?_⟩
              · rw [lst_y (P := fun e => wd_a (wn τ 0) (od τ n) e = k) y] at hno
                have hpt : pt τ k (ta_n τ) 0 i = if l = 0 then nI (4 * od τ n + e) else pt τ k t (n + 1) (l + (-1)) := by rw [ha, pt, hno]
                refine ⟨fun (w : ¬ l = 0) => ?_, fun (w : ¬ ¬ l = 0) => ⟨n, i12, rfl, ?_⟩⟩
                · refine (fun (z : X d 123 19 [some (.inr (.inl (28, 0))), some (.inl (k)), some (.inl (i)), some (.inl (l + (-1))), some (.inl (nI n)), some (.inl (nI e + 1))] [] M' Q) => z) ?_
                  rw [nI_1]
                  exact rest (l + (-1)) (by rw [hpt, if_neg w]) r (e + 1) (by omega) (fun e' h1 h2 z => dt_uni hτ k1 hs (by omega : e < e') h2 z y)
                · have ix : 4 * M'.1 42 0 n + nI e = nI (4 * od τ n + e) := by rw [ho, show (4 : Int32) = nI 4 from rfl, pk_mul, nI_add]
                  rw [hpt, if_pos (Classical.not_not.mp w), ← ix] at this
                  exact this
              · refine (fun (z : X d 123 19 [some (.inr (.inl (28, 0))), some (.inl (k)), some (.inl (i)), some (.inl (l)), some (.inl (nI n)), some (.inl (nI e + 1))] [] M' Q) => z) ?_
                rw [nI_1]
                exact ihr (e + 1) (by omega) (by rw [hno, lst_n (P := fun e => wd_a (wn τ 0) (od τ n) e = k) y])
          refine am_go hX [13, 19] 60 ?_
          refine ⟨fun (q : M'.1 28 0 1 ≤ nI n) => absurd q (by rw [e1]; exact nI_ge hin (by omega)), fun _ => ?_⟩
          exact inner (ta_dn τ (od τ n)) 0 (by omega) rfl
      exact loop (ta_n τ) 0 (by omega) i none rfl
    · rw [if_neg q] at this; exact this
  · have := h M' F (mR_C R)
    unfold q_path at this
    rw [q_tr_no z] at this; exact this
