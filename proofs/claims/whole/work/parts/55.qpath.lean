/-! paths of world 0: accounts of one scan are unlike; path, apart, near of the class -/
def wd_u (τ : ta) (P : Nat → Prop) (w : wd) : Prop := ∀ s, P s → ∀ e e', e < e' → e' < ta_dn τ s → wd_a w s e = wd_a w s e' → wd_a w s e = -1
theorem jp_ac_u {n m : Nat} {ps : List Nat} (hm : m ≤ 4) (hok : jp_ok n m ps) (hdi : jp_di m ps) {e e' : Nat} (h1 : e < e') (h2 : e' < m) (h : jp_ac n ps e = jp_ac n ps e') : jp_ac n ps e = -1 := by
  obtain ⟨o1, o2, o3, o4⟩ := hok
  have n1 : jp_nb ps (e + 1) ≤ jp_nb ps e' := jp_nb_le ps h1
  have n2 : jp_nb ps e' ≤ jp_nb ps m := jp_nb_le ps (by omega)
  have p1 := o2 e (by omega)
  have p2 := o2 e' h2
  have dd := hdi e e' h1 h2
  have n0 : jp_nb ps e ≤ jp_nb ps e' := jp_nb_le ps (by omega)
  by_cases c7 : am_nth ps e 9 = 7
  · unfold jp_ac; rw [if_pos c7]
  by_cases c7' : am_nth ps e' 9 = 7
  · rw [h]; unfold jp_ac; rw [if_pos c7']
  exfalso
  unfold jp_ac at h
  rw [if_neg c7, if_neg c7'] at h
  by_cases c6 : am_nth ps e 9 = 6
  · rw [if_pos c6] at h
    rw [jp_nb, if_pos c6] at n1
    by_cases c6' : am_nth ps e' 9 = 6
    · rw [if_pos c6', nI_eq (by omega) (by omega)] at h; omega
    · rw [if_neg c6', nI_eq (by omega) (by omega)] at h; omega
  · rw [if_neg c6] at h
    by_cases c6' : am_nth ps e' 9 = 6
    · rw [if_pos c6', nI_eq (by omega) (by omega)] at h; omega
    · rw [if_neg c6', nI_eq (by omega) (by omega)] at h
      have := dd h; omega
theorem wd_ap_u {τ : ta} {s c : Nat} {w : wd} {ps : List Nat} (hm : ta_dn τ s ≤ 4) (hok : jp_ok (wd_n w) (ta_dn τ s) ps) (hdi : jp_di (ta_dn τ s) ps) {P : Nat → Prop} (h : wd_u τ P w) : wd_u τ (fun s' => s' = s ∨ P s') (wd_ap τ s w c ps) := by
  intro s' hs' e e' h1 h2 h3
  have key : ∀ e, wd_a (wd_ap τ s w c ps) s' e = if s' = s then jp_ac (wd_n w) ps e else wd_a w s' e := fun _ => rfl
  rw [key, key] at h3
  rw [key]
  by_cases q : s' = s
  · rw [if_pos q, if_pos q] at h3
    rw [if_pos q]
    rw [q] at h2
    exact jp_ac_u hm hok hdi h1 h2 h3
  · rw [if_neg q, if_neg q] at h3
    rw [if_neg q]
    exact h s' (hs'.resolve_left q) e e' h1 h2 h3
theorem wd_k_u {τ : ta} (hτ : ta_ok τ) : ∀ i, i ≤ ta_n τ → ∀ j, j < (wd_k τ i).length → wd_u τ (fun s => ∃ i', i' < i ∧ od τ i' = s) (am_nth (wd_k τ i) j wd_0)
  | 0, _, j, _ => fun s hs => by obtain ⟨i', h, _⟩ := hs; omega
  | i + 1, hi, j, hj => by
    have ih := wd_k_u hτ i (by omega)
    obtain ⟨h1, h2, h3⟩ := wd_k_ok hτ i (by omega)
    have hs := (od_facts (ta_mo τ) (ta_n τ)).1 i (by omega)
    have hb := jn_best_ok hτ (s := od τ i) hs h3
    have hst := wd_step_ok hτ (s := od τ i) hs h3
    have hj' : j < (jn_best τ (od τ i) (wd_k τ i)).length := by rw [← hst.1]; exact hj
    have e := (hst.2 j hj').1
    obtain ⟨b1, b2, b3, -⟩ := hb.2.2 _ (am_nth_in (d := jn_0) hj')
    intro s hs' e1 e2 q1 q2 q3
    refine (fun (z : wd_a (am_nth (wd_step τ (od τ i) (wd_k τ i)) j wd_0) s e1 = -1) => z) ?_
    have q3 : wd_a (am_nth (wd_step τ (od τ i) (wd_k τ i)) j wd_0) s e1 = wd_a (am_nth (wd_step τ (od τ i) (wd_k τ i)) j wd_0) s e2 := q3
    rw [e] at q3 ⊢
    refine wd_ap_u (hτ.2.2.1 _ hs).2.2.1 b2 b3 (ih _ b1) s ?_ e1 e2 q1 q2 q3
    obtain ⟨i', z1, z2⟩ := hs'
    by_cases c : i' = i
    · exact Or.inl (by rw [← z2, c]; rfl)
    · exact Or.inr ⟨i', by omega, z2⟩
theorem wds_u {τ : ta} (hτ : ta_ok τ) {j : Nat} (hj : j < (wds τ).length) : wd_u τ (fun s => s < ta_n τ) (wn τ j) := by
  intro s hs
  exact wd_k_u hτ (ta_n τ) (Nat.le_refl _) j hj s ((od_facts (ta_mo τ) (ta_n τ)).2.2 s hs)
theorem lst_lt {P : Nat → Prop} : ∀ {r k e : Nat}, lst P r k = some e → k ≤ e ∧ e < k + r ∧ P e
  | 0, _, _, h => by cases h
  | r + 1, k, e, h => by
    by_cases q : P k
    · rw [lst_y q] at h; cases h; exact ⟨Nat.le_refl _, by omega, q⟩
    · rw [lst_n q] at h
      obtain ⟨h1, h2, h3⟩ := lst_lt h
      exact ⟨by omega, by omega, h3⟩
/-- the dot of a scan that a track has in world 0 -/
noncomputable def dt (τ : ta) (k : Int32) (s : Nat) : Option Nat := lst (fun e => wd_a (wn τ 0) s e = k) (ta_dn τ s) 0
theorem dt_lt {τ : ta} {k : Int32} {s e : Nat} (h : dt τ k s = some e) : e < ta_dn τ s := by have := (lst_lt h).2.1; omega
noncomputable def lt_k (τ : ta) (k m : Int32) : Nat → Option (Nat × Nat)
  | 0 => none
  | i + 1 => if nI (ta_mo τ (od τ i)) ≤ m then (match dt τ k (od τ i) with
      | some e => some (od τ i, e)
      | none => lt_k τ k m i) else lt_k τ k m i
def oP (o : Option (Nat × Nat)) : Int32 := match o with
  | some z => nI (4 * z.1 + z.2)
  | none => -1
theorem lt_lt {τ : ta} {k m : Int32} : ∀ {i : Nat} {z : Nat × Nat}, i ≤ ta_n τ → lt_k τ k m i = some z → z.1 < ta_n τ ∧ z.2 < ta_dn τ z.1
  | 0, _, _, h => by cases h
  | i + 1, z, hi, h => by
    rw [lt_k] at h
    split at h
    · split at h
      · rename_i e he
        cases h
        exact ⟨(od_facts (ta_mo τ) (ta_n τ)).1 i (by omega), dt_lt he⟩
      · exact lt_lt (by omega) h
    · exact lt_lt (by omega) h
theorem lt_stop {τ : ta} (hτ : ta_ok τ) {k m : Int32} {i : Nat} (hi : i < ta_n τ) (hm : ¬ nI (ta_mo τ (od τ i)) ≤ m) : ∀ t, i + t ≤ ta_n τ → lt_k τ k m (i + t) = lt_k τ k m i
  | 0, _ => rfl
  | t + 1, h => by
    rw [← Nat.add_assoc, lt_k, if_neg, lt_stop hτ hi hm t (by omega)]
    intro q
    have s1 := (od_facts (ta_mo τ) (ta_n τ)).2.1 i (i + t) (by omega) (by omega)
    have b := (hτ.2.2.1 _ ((od_facts (ta_mo τ) (ta_n τ)).1 (i + t) (by omega))).2.1
    exact hm (Int32.le_trans (nI_le s1 (by show ta_mo τ (od τ (i + t)) < _; have : ta_mo τ (od τ (i + t)) ≤ 999 := b; omega)) q)
def sq_of (τ : ta) (a b : Option (Nat × Nat)) : Int32 := match a, b with
  | some x, some y => (ta_rx τ x.1 x.2 - ta_rx τ y.1 y.2) * (ta_rx τ x.1 x.2 - ta_rx τ y.1 y.2) + (ta_ry τ x.1 x.2 - ta_ry τ y.1 y.2) * (ta_ry τ x.1 x.2 - ta_ry τ y.1 y.2)
  | _, _ => -1
noncomputable def sqa (τ : ta) (k j m : Int32) : Int32 := sq_of τ (lt_k τ k m (ta_n τ)) (lt_k τ j m (ta_n τ))
noncomputable def pt (τ : ta) (k : Int32) : Nat → Nat → Int32 → Int32
  | 0, _, _ => -1
  | r + 1, i, l => match dt τ k (od τ i) with
    | some e => if l = 0 then nI (4 * od τ i + e) else pt τ k r (i + 1) (l + (-1))
    | none => pt τ k r (i + 1) l
noncomputable def nr (τ : ta) (k j d : Int32) : Nat → Nat → Int32
  | 0, _ => -1
  | r + 1, i => if 0 ≤ sqa τ k j (nI (ta_mo τ (od τ i))) ∧ sqa τ k j (nI (ta_mo τ (od τ i))) ≤ d * d then nI (ta_mo τ (od τ i)) else nr τ k j d r (i + 1)
noncomputable def q_path (τ : ta) (k i : Int32) : Int32 := q_tr τ 0 k (-1) fun _ _ => if 0 ≤ i then pt τ k (ta_n τ) 0 i else -1
noncomputable def q_apart (τ : ta) (k j m : Int32) : Int32 := q_tr τ 0 k (-1) fun _ _ => q_tr τ 0 j (-1) fun _ _ => sqa τ k j m
noncomputable def q_near (τ : ta) (k j d : Int32) : Int32 := q_tr τ 0 k (-1) fun _ _ => q_tr τ 0 j (-1) fun _ _ => if (0 ≤ d ∧ d ≤ 1000) ∧ ¬ k = j then nr τ k j d (ta_n τ) 0 else -2
theorem cw_rx {X : am_X} (hX : am_Cl X) (d : Nat) (M : am_M) (τ : ta) (hτ : ta_ok τ) (hT : rc_T M τ) (s e : Nat) (hs : s < ta_n τ) (he : e < ta_dn τ s) (Q : am_P) (h : Q (some (.inl (ta_rx τ s e))) M) : X d 39 0 [some (.inr (.inl (1, 0))), some (.inl (nI s)), some (.inl (nI e))] [] M Q := by
  have b := hτ.2.2.1 s hs
  have a := hT.2.2.2.2.1 s hs
  have hn := hτ.1
  refine cw_rightX hX d M s e (ta_wt τ s) (by omega) (by omega) b.1 a.1 Q ?_
  rw [(a.2.2.2 e he).1, (hT.2.1 _ b.1).1]; exact h
theorem cw_ry {X : am_X} (hX : am_Cl X) (d : Nat) (M : am_M) (τ : ta) (hτ : ta_ok τ) (hT : rc_T M τ) (s e : Nat) (hs : s < ta_n τ) (he : e < ta_dn τ s) (Q : am_P) (h : Q (some (.inl (ta_ry τ s e))) M) : X d 40 0 [some (.inr (.inl (1, 0))), some (.inl (nI s)), some (.inl (nI e))] [] M Q := by
  have b := hτ.2.2.1 s hs
  have a := hT.2.2.2.2.1 s hs
  have hn := hτ.1
  refine cw_rightY hX d M s e (ta_wt τ s) (by omega) (by omega) b.1 a.1 Q ?_
  rw [(a.2.2.2 e he).2.1, (hT.2.1 _ b.1).2]; exact h
theorem cw_dotOfTrack {X : am_X} (hX : am_Cl X) (d : Nat) (M : am_M) (hd : 1 ≤ d) (τ : ta) (hτ : ta_ok τ) (hR : cR M τ) (s : Nat) (hs : s < ta_n τ) (k : Int32) (Q : am_P) (h : Q (some (.inl (oI (dt τ k s)))) M) : X d 27 0 [some (.inr (.inl (0, 0))), some (.inl (nI s)), some (.inl (k)), none] [] M Q := by
  have hl := wds_ok hτ
  have hn := hτ.1
  have h4 := (hτ.2.2.1 s hs).2.2.1
  have ed : M.1 18 (M.2.1 4 s) 2 = nI (ta_dn τ s) := (hR.1.2.2.2.2.1 s hs).2.2.1
  have ea : ∀ e, e < ta_dn τ s → M.1 26 (4 * M.2.1 8 0 + 0) (4 * s + e) = wd_a (wn τ 0) s e := fun e he => (cR_W hR (i := 0) (by omega)).2.2.2 s e hs he
  unfold dt at h
  refine am_go hX [2] 20 ?_
  have loop : ∀ t e : Nat, e + t = ta_dn τ s → lst (fun e => wd_a (wn τ 0) s e = k) (ta_dn τ s) 0 = lst (fun e => wd_a (wn τ 0) s e = k) t e → X d 27 2 [some (.inr (.inl (0, 0))), some (.inl (nI s)), some (.inl (k)), some (.inl (nI e))] [] M Q := by
    intro t
    induction t with
    | zero =>
      intro e he ha
      rw [ha] at h
      refine am_go hX [2] 30 ?_
      exact ⟨s, by show s < 13; omega, rfl, fun _ => h, fun (q : ¬ M.1 18 (M.2.1 4 s) 2 ≤ nI e) => absurd (by rw [ed]; exact nI_le (by omega) (by omega)) q⟩
    | succ t ih =>
      intro e he ha
      refine am_go hX [2] 30 ?_
      refine ⟨s, by show s < 13; omega, rfl, fun (q : M.1 18 (M.2.1 4 s) 2 ≤ nI e) => absurd q (by rw [ed]; exact nI_ge (by omega) (by omega)), fun _ => ⟨0, by show 0 < 4; omega, rfl, am_cc hd ?_⟩⟩
      refine cw_accountOf hX _ _ _ s e (by omega) (by omega) _ ?_
      refine ⟨fun (q : ¬ M.1 26 (4 * M.2.1 8 0 + 0) (4 * s + e) = k) => ?_, fun (q : ¬ ¬ M.1 26 (4 * M.2.1 8 0 + 0) (4 * s + e) = k) => ?_⟩
      · refine (fun (z : X d 27 2 [some (.inr (.inl (0, 0))), some (.inl (nI s)), some (.inl (k)), some (.inl (nI e + 1))] [] M Q) => z) ?_
        rw [nI_1]
        rw [ea e (by omega)] at q
        refine ih (e + 1) (by omega) ?_
        rw [ha, lst_n (P := fun e => wd_a (wn τ 0) s e = k) q]
      · rw [ea e (by omega)] at q
        rw [ha, lst_y (P := fun e => wd_a (wn τ 0) s e = k) (Classical.not_not.mp q)] at h
        exact h
  exact loop (ta_dn τ s) 0 (by omega) rfl
theorem cw_latestDot {X : am_X} (hX : am_Cl X) (d : Nat) (M : am_M) (hd : 2 ≤ d) (τ : ta) (hτ : ta_ok τ) (hR : cR M τ) (k m : Int32) (Q : am_P) (h : Q (some (.inl (oP (lt_k τ k m (ta_n τ))))) M) : X d 28 0 [some (.inr (.inl (0, 0))), some (.inl (k)), some (.inl (m)), none, none, none, none] [] M Q := by
  have hn := hτ.1
  have e2 : M.1 1 0 2 = nI (ta_n τ) := hR.1.1
  refine am_go hX [4] 20 ?_
  have loop : ∀ t i : Nat, i + t = ta_n τ → ∀ z5 z6, X d 28 4 [some (.inr (.inl (0, 0))), some (.inl (k)), some (.inl (m)), some (.inl (oP (lt_k τ k m i))), some (.inl (nI i)), z5, z6] [] M Q := by
    intro t
    induction t with
    | zero =>
      intro i hi z5 z6
      have hi : i = ta_n τ := by omega
      rw [hi]
      refine am_go hX [4] 60 ?_
      exact ⟨fun _ => h, fun (q : ¬ M.1 1 0 2 ≤ nI (ta_n τ)) => absurd (by rw [e2]; exact nI_le (Nat.le_refl _) (by omega)) q⟩
    | succ t ih =>
      intro i hi z5 z6
      have hin : i < ta_n τ := by omega
      have hs := (od_facts (ta_mo τ) (ta_n τ)).1 i hin
      have ho : M.1 5 0 i = nI (od τ i) := hR.2.2.1 i hin
      have em : M.1 18 (M.2.1 4 (od τ i)) 1 = nI (ta_mo τ (od τ i)) := (hR.1.2.2.2.2.1 _ hs).2.1
      have next : ∀ o z5 z6, o = lt_k τ k m (i + 1) → X d 28 4 [some (.inr (.inl (0, 0))), some (.inl (k)), some (.inl (m)), some (.inl (oP o)), some (.inl (nI i + 1)), z5, z6] [] M Q := by
        intro o z5 z6 e
        rw [nI_1, e]
        exact ih (i + 1) (by omega) z5 z6
      refine am_go hX [4] 60 ?_
      refine ⟨fun (q : M.1 1 0 2 ≤ nI i) => absurd q (by rw [e2]; exact nI_ge hin (by omega)), fun _ => ⟨i, by show i < 12; omega, rfl, od τ i, by show od τ i < 13; have : od τ i < ta_n τ := hs; omega, ho, fun (q : M.1 18 (M.2.1 4 (od τ i)) 1 ≤ m) => am_cc (by omega) ?_, fun (q : ¬ M.1 18 (M.2.1 4 (od τ i)) 1 ≤ m) => ?_⟩⟩
      · rw [em] at q
        refine (fun (z : X (d - 1) 27 0 [some (.inr (.inl (0, 0))), some (.inl (M.1 5 0 i)), some (.inl (k)), none] [] M _) => z) ?_
        rw [ho]
        refine cw_dotOfTrack hX _ _ (by omega) τ hτ hR (od τ i) hs k _ ?_
        cases hdt : dt τ k (od τ i) with
        | none =>
          refine ⟨fun _ => ?_, fun (y : ¬ (-1 : Int32) < 0) => absurd (by decide) y⟩
          exact next (lt_k τ k m i) _ _ (by rw [lt_k, if_pos q, hdt])
        | some e =>
          have he := dt_lt hdt
          have h4 : ta_dn τ (od τ i) ≤ 4 := (hτ.2.2.1 _ hs).2.2.1
          have hs' : od τ i < ta_n τ := hs
          have ix : 4 * M.1 5 0 i + nI e = nI (4 * od τ i + e) := by rw [ho, show (4 : Int32) = nI 4 from rfl, pk_mul, nI_add]
          refine ⟨fun (y : nI e < 0) => absurd y (nI_pos (by omega)), fun _ => ?_⟩
          refine (fun (z : X d 28 4 [some (.inr (.inl (0, 0))), some (.inl (k)), some (.inl (m)), some (.inl (4 * M.1 5 0 i + nI e)), some (.inl (nI i + 1)), some (.inl (M.1 5 0 i)), some (.inl (nI e))] [] M Q) => z) ?_
          rw [ix]
          exact next (some (od τ i, e)) _ _ (by rw [lt_k, if_pos q, hdt])
      · rw [em] at q
        have z := lt_stop hτ (k := k) hin q (t + 1) (by omega)
        rw [hi] at z
        rw [z] at h
        exact h
  exact loop (ta_n τ) 0 (by omega) none none
theorem iz_d4 {s e : Nat} (hs : s < 12) (he : e < 4) : nI (4 * s + e) / 4 = nI s ∧ nI (4 * s + e) - nI (4 * s + e) / 4 * 4 = nI e := by
  have e1 := pk_div (a := 4 * s + e) (d := 4) (by omega) (by omega) (by omega)
  have e2 := pk_rem (a := 4 * s + e) (d := 4) (by omega) (by omega) (by omega)
  rw [show (4 * s + e) / 4 = s by omega] at e1
  rw [show (4 * s + e) % 4 = e by omega] at e2
  exact ⟨e1, e2⟩
set_option maxHeartbeats 1000000 in
theorem cw_squareApart {X : am_X} (hX : am_Cl X) (d : Nat) (M : am_M) (hd : 3 ≤ d) (τ : ta) (hτ : ta_ok τ) (hR : cR M τ) (k j m : Int32) (Q : am_P) (h : Q (some (.inl (sqa τ k j m))) M) : X d 29 0 [some (.inr (.inl (0, 0))), some (.inl (k)), some (.inl (j)), some (.inl (m)), none, none, none, none] [] M Q := by
  have hn := hτ.1
  unfold sqa at h
  refine am_go hX [16] 40 ?_
  refine am_cc (by omega) (cw_latestDot hX _ _ (by omega) τ hτ hR k m _ (am_cc (by omega) (cw_latestDot hX _ _ (by omega) τ hτ hR j m _ ?_)))
  have la := fun z => lt_lt (τ := τ) (k := k) (m := m) (i := ta_n τ) (z := z) (Nat.le_refl _)
  have lb := fun z => lt_lt (τ := τ) (k := j) (m := m) (i := ta_n τ) (z := z) (Nat.le_refl _)
  generalize lt_k τ k m (ta_n τ) = A at h la ⊢
  generalize lt_k τ j m (ta_n τ) = B at h lb ⊢
  cases A with
  | none => exact ⟨fun _ => h, fun (y : ¬ (-1 : Int32) < 0) => absurd (by decide) y⟩
  | some a =>
    obtain ⟨a1, a2⟩ := la a rfl
    have a4 := (hτ.2.2.1 _ a1).2.2.1
    refine ⟨fun (y : nI (4 * a.1 + a.2) < 0) => absurd y (nI_pos (by omega)), fun _ => ?_⟩
    cases B with
    | none => exact ⟨fun (y : (0 : Int32) ≤ -1) => absurd y (by decide), fun _ => h⟩
    | some b =>
      obtain ⟨b1, b2⟩ := lb b rfl
      have b4 := (hτ.2.2.1 _ b1).2.2.1
      refine ⟨fun _ => ?_, fun (y : ¬ (0 : Int32) ≤ nI (4 * b.1 + b.2)) => absurd (nI_pos' (by omega)) y⟩
      refine (fun (z : X d 29 16 [some (.inr (.inl (0, 0))), some (.inl (k)), some (.inl (j)), some (.inl (m)), some (.inl (nI (4 * a.1 + a.2))), some (.inl (nI (4 * b.1 + b.2))), none, none] [] M Q) => z) ?_
      obtain ⟨da, ma⟩ := iz_d4 (s := a.1) (e := a.2) (by omega) (by omega)
      obtain ⟨db, mb⟩ := iz_d4 (s := b.1) (e := b.2) (by omega) (by omega)
      refine am_go hX [] 60 ?_
      have r1 : ∀ Q', Q' (some (.inl (ta_rx τ a.1 a.2))) M → X (d - 1) 39 0 [some (.inr (.inl (1, 0))), some (.inl (nI (4 * a.1 + a.2) / 4)), some (.inl (nI (4 * a.1 + a.2) - nI (4 * a.1 + a.2) / 4 * 4))] [] M Q' := fun Q' h => by rw [ma, da]; exact cw_rx hX _ _ τ hτ hR.1 _ _ a1 a2 Q' h
      have r2 : ∀ Q', Q' (some (.inl (ta_rx τ b.1 b.2))) M → X (d - 1) 39 0 [some (.inr (.inl (1, 0))), some (.inl (nI (4 * b.1 + b.2) / 4)), some (.inl (nI (4 * b.1 + b.2) - nI (4 * b.1 + b.2) / 4 * 4))] [] M Q' := fun Q' h => by rw [mb, db]; exact cw_rx hX _ _ τ hτ hR.1 _ _ b1 b2 Q' h
      have r3 : ∀ Q', Q' (some (.inl (ta_ry τ a.1 a.2))) M → X (d - 1) 40 0 [some (.inr (.inl (1, 0))), some (.inl (nI (4 * a.1 + a.2) / 4)), some (.inl (nI (4 * a.1 + a.2) - nI (4 * a.1 + a.2) / 4 * 4))] [] M Q' := fun Q' h => by rw [ma, da]; exact cw_ry hX _ _ τ hτ hR.1 _ _ a1 a2 Q' h
      have r4 : ∀ Q', Q' (some (.inl (ta_ry τ b.1 b.2))) M → X (d - 1) 40 0 [some (.inr (.inl (1, 0))), some (.inl (nI (4 * b.1 + b.2) / 4)), some (.inl (nI (4 * b.1 + b.2) - nI (4 * b.1 + b.2) / 4 * 4))] [] M Q' := fun Q' h => by rw [mb, db]; exact cw_ry hX _ _ τ hτ hR.1 _ _ b1 b2 Q' h
      refine ⟨by decide, by decide, am_cc (by omega) (r1 _ ?_)⟩
      refine ⟨by decide, by decide, am_cc (by omega) (r2 _ ?_)⟩
      refine ⟨by decide, by decide, am_cc (by omega) (r3 _ ?_)⟩
      refine ⟨by decide, by decide, am_cc (by omega) (r4 _ ?_)⟩
      exact h
theorem cw_path {X : am_X} (hX : am_Cl X) (d : Nat) (M : am_M) (hd : 10 ≤ d) (τ : ta) (hτ : ta_ok τ) (hC : cC M τ) (k i : Int32) (Q : am_P) (h : ∀ M', rc_F M M' → cC M' τ → Q (some (.inl (q_path τ k i))) M') : X d 18 0 [some (.inr (.inl (0, 0))), some (.inl (k)), some (.inl (i)), none, none, none, none] [] M Q := by
  have hn := hτ.1
  refine am_go hX [19] 40 ?_
  refine am_cc (by omega) (cw_fresh hX _ _ (by omega) τ hτ hC _ (fun M' F R => ?_))
  have := h M' F (cR_C R)
  unfold q_path at this
  refine am_cc (by omega) (cw_isTrack hX _ _ (by omega) τ hτ R 0 k _ (fun a b a1 b1 a2 b2 a3 b3 => am_beq1 ?_) (fun z => am_beq0 ?_))
  · rw [q_tr_at a3 b3] at this
    refine ⟨fun (q : 0 ≤ i) => ?_, fun (q : ¬ 0 ≤ i) => ?_⟩
    · rw [if_pos q] at this
      have e2 : M'.1 1 0 2 = nI (ta_n τ) := R.1.1
      have loop : ∀ t n : Nat, n + t = ta_n τ → ∀ l z5 z6, pt τ k (ta_n τ) 0 i = pt τ k t n l → X d 18 19 [some (.inr (.inl (0, 0))), some (.inl (k)), some (.inl (i)), some (.inl (l)), some (.inl (nI n)), z5, z6] [] M' Q := by
        intro t
        induction t with
        | zero =>
          intro n hn' l z5 z6 ha
          rw [ha] at this
          refine am_go hX [19] 60 ?_
          exact ⟨fun _ => this, fun (q : ¬ M'.1 1 0 2 ≤ nI n) => absurd (by rw [e2]; exact nI_le (by omega) (by omega)) q⟩
        | succ t ih =>
          intro n hn' l z5 z6 ha
          have hin : n < ta_n τ := by omega
          have hs := (od_facts (ta_mo τ) (ta_n τ)).1 n hin
          have ho : M'.1 5 0 n = nI (od τ n) := R.2.2.1 n hin
          have next : ∀ l z5 z6, pt τ k (ta_n τ) 0 i = pt τ k t (n + 1) l → X d 18 19 [some (.inr (.inl (0, 0))), some (.inl (k)), some (.inl (i)), some (.inl (l)), some (.inl (nI n + 1)), z5, z6] [] M' Q := by
            intro l z5 z6 e
            rw [nI_1]
            exact ih (n + 1) (by omega) l z5 z6 e
          refine am_go hX [19] 60 ?_
          refine ⟨fun (q : M'.1 1 0 2 ≤ nI n) => absurd q (by rw [e2]; exact nI_ge hin (by omega)), fun _ => ⟨n, by show n < 12; omega, rfl, am_cc (by omega) ?_⟩⟩
          refine (fun (z : X (d - 1) 27 0 [some (.inr (.inl (0, 0))), some (.inl (M'.1 5 0 n)), some (.inl (k)), none] [] M' _) => z) ?_
          rw [ho]
          refine cw_dotOfTrack hX _ _ (by omega) τ hτ R (od τ n) hs k _ ?_
          cases hdt : dt τ k (od τ n) with
          | none =>
            refine ⟨fun _ => ?_, fun (y : ¬ (-1 : Int32) < 0) => absurd (by decide) y⟩
            exact next l _ _ (by rw [ha, pt, hdt])
          | some e =>
            have he := dt_lt hdt
            have h4 : ta_dn τ (od τ n) ≤ 4 := (hτ.2.2.1 _ hs).2.2.1
            have hs' : od τ n < ta_n τ := hs
            have ix : 4 * M'.1 5 0 n + nI e = nI (4 * od τ n + e) := by rw [ho, show (4 : Int32) = nI 4 from rfl, pk_mul, nI_add]
            refine ⟨fun (y : nI e < 0) => absurd y (nI_pos (by omega)), fun _ => ⟨fun (y : ¬ l = 0) => ?_, fun (y : ¬ ¬ l = 0) => ?_⟩⟩
            · exact next (l + (-1)) _ _ (by rw [ha, pt, hdt]; exact if_neg y)
            · rw [ha, pt, hdt] at this
              have this : Q (some (.inl (if l = 0 then nI (4 * od τ n + e) else pt τ k t (n + 1) (l + (-1))))) M' := this
              rw [if_pos (Classical.not_not.mp y), ← ix] at this
              exact this
      exact loop (ta_n τ) 0 (by omega) i none none rfl
    · rw [if_neg q] at this; exact this
  · rw [q_tr_no z] at this; exact this
theorem cw_apart {X : am_X} (hX : am_Cl X) (d : Nat) (M : am_M) (hd : 10 ≤ d) (τ : ta) (hτ : ta_ok τ) (hC : cC M τ) (k j m : Int32) (Q : am_P) (h : ∀ M', rc_F M M' → cC M' τ → Q (some (.inl (q_apart τ k j m))) M') : X d 19 0 [some (.inr (.inl (0, 0))), some (.inl (k)), some (.inl (j)), some (.inl (m))] [] M Q := by
  refine am_go hX [] 40 ?_
  refine am_cc (by omega) (cw_fresh hX _ _ (by omega) τ hτ hC _ (fun M' F R => ?_))
  have := h M' F (cR_C R)
  unfold q_apart at this
  refine am_cc (by omega) (cw_isTrack hX _ _ (by omega) τ hτ R 0 k _ (fun a b a1 b1 a2 b2 a3 b3 => am_beq1 (am_cc (by omega) ?_)) (fun z => am_beq0 ?_))
  · rw [q_tr_at a3 b3] at this
    refine cw_isTrack hX _ _ (by omega) τ hτ R 0 j _ (fun a b a1 b1 a2 b2 a3 b3 => am_bne1 (am_cc (by omega) ?_)) (fun z => am_bne0 ?_)
    · rw [q_tr_at a3 b3] at this
      exact cw_squareApart hX _ _ (by omega) τ hτ R k j m _ this
    · rw [q_tr_no z] at this; exact this
  · rw [q_tr_no z] at this; exact this
theorem cw_near {X : am_X} (hX : am_Cl X) (d : Nat) (M : am_M) (hd : 10 ≤ d) (τ : ta) (hτ : ta_ok τ) (hC : cC M τ) (k j m : Int32) (Q : am_P) (h : ∀ M', rc_F M M' → cC M' τ → Q (some (.inl (q_near τ k j m))) M') : X d 20 0 [some (.inr (.inl (0, 0))), some (.inl (k)), some (.inl (j)), some (.inl (m)), none, none, none] [] M Q := by
  have hn := hτ.1
  refine am_go hX [31] 40 ?_
  refine am_cc (by omega) (cw_fresh hX _ _ (by omega) τ hτ hC _ (fun M' F R => ?_))
  have := h M' F (cR_C R)
  unfold q_near at this
  refine am_cc (by omega) (cw_isTrack hX _ _ (by omega) τ hτ R 0 k _ (fun a b a1 b1 a2 b2 a3 b3 => am_beq1 (am_cc (by omega) ?_)) (fun z => am_beq0 ?_))
  · rw [q_tr_at a3 b3] at this
    refine cw_isTrack hX _ _ (by omega) τ hτ R 0 j _ (fun a b a1 b1 a2 b2 a3 b3 => am_bne1 (am_cc (by omega) ?_)) (fun z => am_bne0 ?_)
    · rw [q_tr_at a3 b3] at this
      refine cw_within hX _ _ _ _ _ _ (fun m1 m2 => am_beq1 ⟨fun (q : ¬ k = j) => ?_, fun (q : ¬ ¬ k = j) => ?_⟩) (fun z => am_beq0 ?_)
      · rw [if_pos ⟨⟨m1, m2⟩, q⟩] at this
        have e2 : M'.1 1 0 2 = nI (ta_n τ) := R.1.1
        have loop : ∀ t n : Nat, n + t = ta_n τ → ∀ z5 z6, nr τ k j m (ta_n τ) 0 = nr τ k j m t n → X d 20 31 [some (.inr (.inl (0, 0))), some (.inl (k)), some (.inl (j)), some (.inl (m)), some (.inl (nI n)), z5, z6] [] M' Q := by
          intro t
          induction t with
          | zero =>
            intro n hn' z5 z6 ha
            rw [ha] at this
            refine am_go hX [31] 60 ?_
            exact ⟨fun _ => this, fun (q : ¬ M'.1 1 0 2 ≤ nI n) => absurd (by rw [e2]; exact nI_le (by omega) (by omega)) q⟩
          | succ t ih =>
            intro n hn' z5 z6 ha
            have hin : n < ta_n τ := by omega
            have hs := (od_facts (ta_mo τ) (ta_n τ)).1 n hin
            have ho : M'.1 5 0 n = nI (od τ n) := R.2.2.1 n hin
            have em : M'.1 18 (M'.2.1 4 (od τ n)) 1 = nI (ta_mo τ (od τ n)) := (R.1.2.2.2.2.1 _ hs).2.1
            have next : ∀ z5 z6, nr τ k j m (ta_n τ) 0 = nr τ k j m t (n + 1) → X d 20 31 [some (.inr (.inl (0, 0))), some (.inl (k)), some (.inl (j)), some (.inl (m)), some (.inl (nI n + 1)), z5, z6] [] M' Q := by
              intro z5 z6 e
              rw [nI_1]
              exact ih (n + 1) (by omega) z5 z6 e
            refine am_go hX [31] 60 ?_
            refine ⟨fun (q : M'.1 1 0 2 ≤ nI n) => absurd q (by rw [e2]; exact nI_ge hin (by omega)), fun _ => ⟨n, by show n < 12; omega, rfl, od τ n, by show od τ n < 13; have : od τ n < ta_n τ := hs; omega, ho, am_cc (by omega) ?_⟩⟩
            refine (fun (z : X (d - 1) 29 0 [some (.inr (.inl (0, 0))), some (.inl (k)), some (.inl (j)), some (.inl (M'.1 18 (M'.2.1 4 (od τ n)) 1)), none, none, none, none] [] M' _) => z) ?_
            rw [em]
            refine cw_squareApart hX _ _ (by omega) τ hτ R k j _ _ ?_
            have hnr : nr τ k j m (ta_n τ) 0 = if 0 ≤ sqa τ k j (nI (ta_mo τ (od τ n))) ∧ sqa τ k j (nI (ta_mo τ (od τ n))) ≤ m * m then nI (ta_mo τ (od τ n)) else nr τ k j m t (n + 1) := by rw [ha, nr]
            refine ⟨fun (y : sqa τ k j (nI (ta_mo τ (od τ n))) < 0) => ?_, fun (y : ¬ sqa τ k j (nI (ta_mo τ (od τ n))) < 0) => ⟨fun (w : m * m < sqa τ k j (nI (ta_mo τ (od τ n)))) => ?_, fun (w : ¬ m * m < sqa τ k j (nI (ta_mo τ (od τ n)))) => ?_⟩⟩
            · exact next _ _ (by rw [hnr, if_neg (fun v => Int32.not_le.mpr y v.1)])
            · exact next _ _ (by rw [hnr, if_neg (fun v => Int32.not_le.mpr w v.2)])
            · rw [hnr, if_pos ⟨Int32.not_lt.mp y, Int32.not_lt.mp w⟩] at this
              refine (fun (z : Q (some (.inl (M'.1 18 (M'.2.1 4 (od τ n)) 1))) M') => z) ?_
              rw [em]; exact this
        exact loop (ta_n τ) 0 (by omega) none none rfl
      · rw [if_neg (fun z => q z.2)] at this; exact this
      · rw [if_neg (fun q => z q.1)] at this; exact this
    · rw [q_tr_no z] at this; exact this
  · rw [q_tr_no z] at this; exact this
