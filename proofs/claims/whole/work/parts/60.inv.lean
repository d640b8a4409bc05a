/-! WHAT HOLDS BETWEEN TWO CALLS: watchers, dots that wait, what was told; the class's cells, the reference's -/
abbrev wa : Type := Nat × Nat × (Nat → Int32) × (Nat → Int32) × (Nat → Nat)
abbrev sg : Type := wa × ta
def sg_W (g : sg) : Nat := g.1.1
def sg_q (g : sg) : Nat := g.1.2.1
def sg_x (g : sg) : Nat → Int32 := g.1.2.2.1
def sg_y (g : sg) : Nat → Int32 := g.1.2.2.2.1
def sg_m (g : sg) : Nat → Nat := g.1.2.2.2.2
def iP (g : sg) : Prop := ta_ok g.2 ∧ sg_W g ≤ 3 ∧ sg_q g ≤ 4 ∧ (∀ e, e < sg_q g → ta_in (sg_x g e) 1000 ∧ ta_in (sg_y g e) 1000 ∧ sg_m g e ≤ 9) ∧ ∀ w, sg_W g ≤ w → w < 3 → ta_sa g.2 w = 0 ∧ ta_sb g.2 w = 0
def iC (M : am_M) (g : sg) : Prop := cC M g.2 ∧ M.1 1 0 1 = nI (sg_W g) ∧ M.1 18 (M.2.1 4 (ta_n g.2)) 2 = nI (sg_q g) ∧ ∀ e, e < sg_q g → M.1 19 (M.2.1 4 (ta_n g.2)) e = sg_x g e ∧ M.1 20 (M.2.1 4 (ta_n g.2)) e = sg_y g e ∧ M.1 21 (M.2.1 4 (ta_n g.2)) e = nI (sg_m g e)
def iM (M : am_M) (g : sg) : Prop := mC M g.2 ∧ M.1 28 0 0 = nI (sg_W g) ∧ M.1 28 0 2 = nI (sg_q g) ∧ ∀ e, e < sg_q g → M.1 37 0 e = sg_x g e ∧ M.1 38 0 e = sg_y g e ∧ M.1 39 0 e = nI (sg_m g e)
def sC (M M' : am_M) : Prop := ∀ f i k, 28 ≤ f → M'.1 f i k = M.1 f i k
def sM (M M' : am_M) : Prop := M'.2 = M.2 ∧ ∀ f i k, (f < 28 ∨ 58 < f) → M'.1 f i k = M.1 f i k
theorem sC_rf (M : am_M) : sC M M := fun _ _ _ _ => rfl
theorem sM_rf (M : am_M) : sM M M := ⟨rfl, fun _ _ _ _ => rfl⟩
theorem sC_si {M M' : am_M} {f i k : Nat} {x : Int32} (h : sC M M') (hf : f < 28) : sC M (am_si M' f i k x) := fun f' i' k' hf' => by rw [am_si_at, if_neg (by omega)]; exact h f' i' k' hf'
theorem sM_si {M M' : am_M} {f i k : Nat} {x : Int32} (h : sM M M') (hf : 28 ≤ f) (hf2 : f ≤ 58) : sM M (am_si M' f i k x) := ⟨h.1, fun f' i' k' hf' => by rw [am_si_at, if_neg (by omega)]; exact h.2 f' i' k' hf'⟩
theorem rc_D_fr {M M' : am_M} {L : List Nat} {τ : ta} (h : rc_D M τ) (fr : am_fr L M M') (hL : ∀ f ∈ [5, 8, 24, 26, 27], f ∉ L) : rc_D M' τ := by
  obtain ⟨d1, q1, q2, q3, q4, q5⟩ := h
  have v : ∀ f k, M'.2.1 f k = M.2.1 f k := fun f k => by rw [fr.1]
  refine ⟨fun i hi => (fr.2 5 _ _ (hL 5 (by simp))).trans (d1 i hi), (fr.2 8 _ _ (hL 8 (by simp))).trans q1, q2, by rw [v]; exact q3, by rw [v, v]; exact q4, fun i hi => ⟨?_, (q5 i hi).2⟩⟩
  rw [v]
  exact rc_W_fr (q5 i hi).1 (am_fg_of fr []) (fun f hf => hL f (by simp at hf ⊢; omega))
theorem rc_T_of {M M' : am_M} {τ : ta} (h : rc_T M τ) (e1 : M'.1 1 0 2 = M.1 1 0 2) (fv : ∀ i, M'.2.1 4 i = M.2.1 4 i) (f : ∀ g ∈ [2, 3, 6, 7, 18, 19, 20, 21], ∀ i k, M'.1 g i k = M.1 g i k) : rc_T M' τ := by
  obtain ⟨h1, h2, h3, h4, h5, h6, h7⟩ := h
  refine ⟨e1.trans h1, fun w hw => ⟨(f 2 (by simp) _ _).trans (h2 w hw).1, (f 3 (by simp) _ _).trans (h2 w hw).2⟩, fun i hi => by rw [fv]; exact h3 i hi, fun i j hi hj q => by rw [fv, fv] at q; exact h4 i j hi hj q, fun s hs => ?_, fun k hk => (f 7 (by simp) _ _).trans (h6 k hk), fun k hk => (f 6 (by simp) _ _).trans (h7 k hk)⟩
  obtain ⟨a1, a2, a3, a4⟩ := h5 s hs
  rw [fv]
  exact ⟨(f 18 (by simp) _ _).trans a1, (f 18 (by simp) _ _).trans a2, (f 18 (by simp) _ _).trans a3, fun e he => ⟨(f 19 (by simp) _ _).trans (a4 e he).1, (f 20 (by simp) _ _).trans (a4 e he).2.1, (f 21 (by simp) _ _).trans (a4 e he).2.2⟩⟩
/-- what is reckoned stays where its cells do -/
theorem cC_of {M M' : am_M} {L : List Nat} {τ τ' : ta} (h : cC M τ) (fr : am_fr L M M') (hL : ∀ f ∈ [5, 8, 16, 24, 26, 27], f ∉ L) (hT : rc_T M' τ') (h0 : M'.1 1 0 0 = 0 → M.1 1 0 0 = 0 ∧ τ' = τ) : cC M' τ' := by
  obtain ⟨-, ⟨s1, s2, s3⟩, h3, hD⟩ := h
  have v : ∀ f k, M'.2.1 f k = M.2.1 f k := fun f k => by rw [fr.1]
  refine ⟨hT, ⟨fun k hk => (fr.2 16 _ _ (hL 16 (by simp))).trans (s1 k hk), fun i hi => by rw [v]; exact s2 i hi, fun i j hi hj q => by rw [v, v] at q; exact s3 i j hi hj q⟩, by rw [v, v]; exact h3, fun q => ?_⟩
  obtain ⟨q, e⟩ := h0 q
  rw [e]
  exact rc_D_fr (hD q) fr (fun f hf => hL f (by simp at hf ⊢; omega))
theorem cC_fr {M M' : am_M} {L : List Nat} {τ : ta} (h : cC M τ) (fr : am_fr L M M') (hL : ∀ f ∈ [1, 2, 3, 5, 6, 7, 8, 16, 18, 19, 20, 21, 24, 26, 27], f ∉ L) : cC M' τ :=
  cC_of h fr (fun f hf => hL f (by simp at hf ⊢; omega)) (rc_T_fr h.1 (am_fg_of fr []) (fun f hf => hL f (by simp at hf ⊢; omega)) (by simp)) (fun q => ⟨by rw [fr.2 1 _ _ (hL 1 (by simp))] at q; exact q, rfl⟩)
theorem iC_fr {M M' : am_M} {L : List Nat} {g : sg} (h : iC M g) (fr : am_fr L M M') (hL : ∀ f ∈ [1, 2, 3, 5, 6, 7, 8, 16, 18, 19, 20, 21, 24, 26, 27], f ∉ L) : iC M' g := by
  obtain ⟨h1, h2, h3, h4⟩ := h
  have v : ∀ f k, M'.2.1 f k = M.2.1 f k := fun f k => by rw [fr.1]
  refine ⟨cC_fr h1 fr hL, (fr.2 1 _ _ (hL 1 (by simp))).trans h2, ?_, fun e he => ?_⟩
  · rw [v, fr.2 18 _ _ (hL 18 (by simp))]; exact h3
  · rw [v, fr.2 19 _ _ (hL 19 (by simp)), fr.2 20 _ _ (hL 20 (by simp)), fr.2 21 _ _ (hL 21 (by simp))]; exact h4 e he
theorem iC_sM {M M' : am_M} {g : sg} (h : iC M g) (s : sM M M') : iC M' g := by
  refine iC_fr (L := List.range' 28 31) h ⟨s.1, fun f i k hf => s.2 f i k ?_⟩ (fun f hf => ?_)
  · rw [List.mem_range'_1] at hf; omega
  · rw [List.mem_range'_1]; simp at hf; omega
theorem rm_D_fr {M M' : am_M} {L : List Nat} {τ : ta} (h : rm_D M τ) (fr : am_fr L M M') (hL : ∀ f, 42 ≤ f → f ≤ 54 → f ∉ L) (e1 : M'.1 28 0 18 = M.1 28 0 18) (e2 : M'.1 28 0 19 = M.1 28 0 19) : rm_D M' τ := by
  obtain ⟨d1, q1, q2, b, q3, q4, q5⟩ := h
  exact ⟨fun i hi => (fr.2 42 _ _ (hL 42 (by omega) (by omega))).trans (d1 i hi), e1.trans q1, q2, b, q3, e2.trans q4, fun i hi => ⟨rm_W_fr (q5 i hi).1 fr (fun f f1 f2 => hL f (by omega) f2), (q5 i hi).2⟩⟩
theorem mC_fr {M M' : am_M} {L : List Nat} {τ : ta} (h : mC M τ) (fr : am_fr L M M') (hL : ∀ f, 29 ≤ f → f ≤ 54 → f ∉ L) (e1 : ∀ k, k = 1 ∨ k = 16 ∨ k = 18 ∨ k = 19 → M'.1 28 0 k = M.1 28 0 k) : mC M' τ := by
  obtain ⟨hT, hE, hD⟩ := h
  refine ⟨rm_T_fr' hT (am_fg_of (am_fr_mono (L' := 28 :: L) fr (fun f hf => List.mem_cons_of_mem _ hf)) []) (e1 1 (Or.inl rfl)) (fun f hf => fun z => by
    rcases List.mem_cons.mp z with z | z
    · simp at hf; omega
    · exact hL f (by simp at hf; omega) (by simp at hf; omega) z), fun k hk => ?_, fun q => ?_⟩
  · rw [fr.2 54 _ _ (hL 54 (by omega) (by omega))]; exact hE k hk
  · rw [e1 16 (by simp)] at q
    exact rm_D_fr (hD q) fr (fun f f1 f2 => hL f (by omega) f2) (e1 18 (by simp)) (e1 19 (by simp))
theorem iM_sC {M M' : am_M} {g : sg} (h : iM M g) (s : sC M M') : iM M' g := by
  obtain ⟨h1, h2, h3, h4⟩ := h
  have fr : am_fr (List.range 28) M (M'.1, M.2) := ⟨rfl, fun f i k hf => s f i k (by rw [List.mem_range] at hf; omega)⟩
  refine ⟨?_, (s 28 0 0 (by omega)).trans h2, (s 28 0 2 (by omega)).trans h3, fun e he => ?_⟩
  · have := mC_fr (M' := (M'.1, M.2)) (L := List.range 28) h1 fr (fun f f1 f2 => by rw [List.mem_range]; omega) (fun k _ => s 28 0 k (by omega))
    exact this
  · rw [s 37 _ _ (by omega), s 38 _ _ (by omega), s 39 _ _ (by omega)]; exact h4 e he
/-- questions: what they leave -/
theorem sC_F {M M' : am_M} (F : rc_F M M') : sC M M' := fun f i k hf => F.2.1 f i k (by simp; omega)
theorem iC_F {M M' : am_M} {g : sg} (h : iC M g) (F : rc_F M M') (hC : cC M' g.2) : iC M' g := by
  obtain ⟨h1, h2, h3, h4⟩ := h
  refine ⟨hC, (F.2.2 1 (by omega)).trans h2, ?_, fun e he => ?_⟩
  · rw [F.1 4 _ (by simp), F.2.1 18 _ _ (by simp)]; exact h3
  · rw [F.1 4 _ (by simp), F.2.1 19 _ _ (by simp), F.2.1 20 _ _ (by simp), F.2.1 21 _ _ (by simp)]; exact h4 e he
theorem sM_F {M M' : am_M} (F : rm_F M M') : sM M M' := ⟨F.1.1, fun f i k hf => F.1.2 f i k (by simp; omega)⟩
theorem iM_F {M M' : am_M} {g : sg} (h : iM M g) (F : rm_F M M') (hC : mC M' g.2) : iM M' g := by
  obtain ⟨h1, h2, h3, h4⟩ := h
  refine ⟨hC, (F.2 0 (by simp)).trans h2, (F.2 2 (by simp)).trans h3, fun e he => ?_⟩
  rw [F.1.2 37 _ _ (by simp), F.1.2 38 _ _ (by simp), F.1.2 39 _ _ (by simp)]; exact h4 e he
theorem sC_17 {M M' : am_M} (fr : am_fr [17] M M') : sC M M' := fun f i k hf => fr.2 f i k (by simp; omega)
theorem iC_17 {M M' : am_M} {g : sg} (h : iC M g) (fr : am_fr [17] M M') : iC M' g := iC_fr h fr (fun f hf => by simp at hf ⊢; omega)
theorem sM_P {M M' : am_M} (F : rm_P M M') : sM M M' := ⟨F.1.1, fun f i k hf => F.1.2 f i k (by simp; omega)⟩
theorem iM_P {M M' : am_M} {g : sg} (h : iM M g) (F : rm_P M M') : iM M' g := by
  obtain ⟨h1, h2, h3, h4⟩ := h
  refine ⟨mC_fr h1 F.1 (fun f f1 f2 => by simp; omega) (fun k hk => F.2 k (by omega) (by omega)), (F.2 0 (by simp) (by simp)).trans h2, (F.2 2 (by simp) (by simp)).trans h3, fun e he => ?_⟩
  rw [F.1.2 37 _ _ (by simp), F.1.2 38 _ _ (by simp), F.1.2 39 _ _ (by simp)]; exact h4 e he
/-- a call of the class, a call of the reference: from what holds to what holds, the answer ans -/
def dC (X : am_X) (d y : Nat) (ls : List (Option am_V)) (g g' : sg) (ans : Int32) : Prop := ∀ (M : am_M), iC M g → ∀ Q : am_P, (∀ M', sC M M' → iC M' g' → Q (some (.inl (ans))) M') → X d y 0 ls [] M Q
def dM (X : am_X) (d y : Nat) (ls : List (Option am_V)) (g g' : sg) (ans : Int32) : Prop := ∀ (M : am_M), iM M g → ∀ Q : am_P, (∀ M', sM M M' → iM M' g' → Q (some (.inl (ans))) M') → X d y 0 ls [] M Q
