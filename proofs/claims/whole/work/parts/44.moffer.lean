/-! the reference's list of the cheapest -/
def dgs (n c : Nat) : List Nat := (List.range n).map (dg n c)
def cm_L (M : am_M) (K b n : Nat) (l : List jn) : Prop :=
  M.1 28 0 33 = nI l.length ∧ l.length ≤ K ∧ jn_srt l ∧
  ∀ i, i < l.length → M.1 56 0 i = nI (am_nth l i jn_0).1 ∧ M.1 57 0 i = nI (b + (am_nth l i jn_0).2.1) ∧ (am_nth l i jn_0).1 < 2 ^ 30 ∧ ∃ c, c < 4096 ∧ M.1 58 0 i = nI c ∧ (am_nth l i jn_0).2.2 = dgs n c
set_option maxHeartbeats 1000000 in
theorem cm_offer {X : am_X} (hX : am_Cl X) (d : Nat) (M : am_M) (K : Nat) (hK : 1 ≤ K ∧ K ≤ 4) (h41 : M.1 41 0 5 = nI K) (b n : Nat) (l : List jn) (hL : cm_L M K b n l) (c p code : Nat) (hc : c < 2 ^ 30) (hcode : code < 4096) (Q : am_P)
    (h : ∀ M', am_fr [28, 56, 57, 58] M M' → (∀ k, k ≠ 33 → M'.1 28 0 k = M.1 28 0 k) → cm_L M' K b n (jn_off K l (c, p, dgs n code)) → Q none M') : X d 100 0 [some (.inr (.inl (28, 0))), some (.inl (nI c)), some (.inl (nI (b + p))), some (.inl (nI code)), none] [] M Q := by
  obtain ⟨l1, l2, l3, l4⟩ := id hL
  refine am_go hX [3] 40 ?_
  refine (fun (z : X d 100 3 [some (.inr (.inl (28, 0))), some (.inl (nI c)), some (.inl (nI (b + p))), some (.inl (nI code)), some (.inl (M.1 28 0 33))] [] M Q) => z) ?_
  rw [l1]
  have fin : ∀ (a : Nat) (M' : am_M), a ≤ l.length → am_fr [56, 57, 58] M M' → (∀ f k, f = 56 ∨ f = 57 ∨ f = 58 → M'.1 f 0 k = if a < k ∧ k ≤ l.length ∧ k < 4 then M.1 f 0 (k - 1) else M.1 f 0 k) → (∀ i, a ≤ i → i < l.length → c < (am_nth l i jn_0).1) → (∀ i, i < a → (am_nth l i jn_0).1 ≤ c) → X d 100 48 [some (.inr (.inl (28, 0))), some (.inl (nI c)), some (.inl (nI (b + p))), some (.inl (nI code)), some (.inl (nI a))] [] M' Q := by
    intro a M' ha fr hsh hgt hle
    have r5 : M'.1 41 0 5 = nI K := (fr.2 41 0 5 (by simp)).trans h41
    refine am_go hX [] 60 ?_
    refine ⟨5, by show 5 < 6; omega, rfl, fun (q : nI a < M'.1 41 0 5) => ?_, fun (q : ¬ nI a < M'.1 41 0 5) => ?_⟩
    · rw [r5] at q
      have haK : a < K := (nI_ltI (by omega) (by omega)).mp q
      obtain ⟨hl1, he⟩ := jn_off_at (K := K) (l := l) (x := (c, p, dgs n code)) (a := a) ha hle (hgt a (Nat.le_refl a)) haK l2
      refine ⟨a, by show a < 5; omega, rfl, a, by show a < 5; omega, rfl, a, by show a < 5; omega, rfl, 5, by show 5 < 6; omega, rfl, ?_⟩
      have key : ∀ (y : Int32), y = nI (jn_off K l (c, p, dgs n code)).length → Q none (am_si (am_si (am_si (am_si M' 56 0 a (nI c)) 57 0 a (nI (b + p))) 58 0 a (nI code)) 28 0 33 y) := by
        rintro y rfl
        refine h _ (am_fr_si (am_fr_si (am_fr_si (am_fr_si (am_fr_mono fr (by simp)) (by simp)) (by simp)) (by simp)) (by simp)) (fun k hk => ?_) ⟨?_, by rw [hl1]; split <;> omega, jn_off_srt l3 ha hle (hgt a (Nat.le_refl a)) haK l2, fun i hi => ?_⟩
        · rw [am_si_at, if_neg (by omega), am_si_at, if_neg (by omega), am_si_at, if_neg (by omega), am_si_at, if_neg (by omega)]; exact fr.2 28 0 k (by simp)
        · rw [am_si_at, if_pos ⟨rfl, rfl, rfl⟩]
        · have hiK : i < K := by rw [hl1] at hi; split at hi <;> omega
          have hil : i ≤ l.length := by rw [hl1] at hi; split at hi <;> omega
          have g56 : (am_si (am_si (am_si (am_si M' 56 0 a (nI c)) 57 0 a (nI (b + p))) 58 0 a (nI code)) 28 0 33 (nI (jn_off K l (c, p, dgs n code)).length)).1 56 0 i = if i = a then nI c else M'.1 56 0 i := by simp [am_si_at]
          have g57 : (am_si (am_si (am_si (am_si M' 56 0 a (nI c)) 57 0 a (nI (b + p))) 58 0 a (nI code)) 28 0 33 (nI (jn_off K l (c, p, dgs n code)).length)).1 57 0 i = if i = a then nI (b + p) else M'.1 57 0 i := by simp [am_si_at]
          have g58 : (am_si (am_si (am_si (am_si M' 56 0 a (nI c)) 57 0 a (nI (b + p))) 58 0 a (nI code)) 28 0 33 (nI (jn_off K l (c, p, dgs n code)).length)).1 58 0 i = if i = a then nI code else M'.1 58 0 i := by simp [am_si_at]
          rw [he i hi, g56, g57, g58]
          by_cases c1 : i = a
          · subst c1
            rw [if_pos rfl, if_pos rfl, if_pos rfl, if_neg (by omega), if_pos rfl]
            exact ⟨rfl, rfl, hc, code, hcode, rfl, rfl⟩
          · rw [if_neg c1, if_neg c1, if_neg c1, hsh 56 i (by simp), hsh 57 i (by simp), hsh 58 i (by simp), if_neg c1]
            by_cases c2 : i < a
            · rw [if_pos c2, if_neg (show ¬ (a < i ∧ i ≤ l.length ∧ i < 4) by omega), if_neg (show ¬ (a < i ∧ i ≤ l.length ∧ i < 4) by omega), if_neg (show ¬ (a < i ∧ i ≤ l.length ∧ i < 4) by omega)]; exact l4 i (by omega)
            · rw [if_neg c2, if_pos (show a < i ∧ i ≤ l.length ∧ i < 4 by omega), if_pos (show a < i ∧ i ≤ l.length ∧ i < 4 by omega), if_pos (show a < i ∧ i ≤ l.length ∧ i < 4 by omega)]; exact l4 (i - 1) (by omega)
      have b33 : M'.1 28 0 33 = nI l.length := (fr.2 28 0 33 (by simp)).trans l1
      refine ⟨fun (q2 : M'.1 41 0 5 ≤ M'.1 28 0 33) => ?_, fun (q2 : ¬ M'.1 41 0 5 ≤ M'.1 28 0 33) => ?_⟩
      · rw [r5, b33] at q2
        have q2 := (nI_leI (by omega) (by omega)).mp q2
        refine key _ ?_
        show M'.1 28 0 33 = _
        rw [b33, hl1, if_neg (by omega)]; congr 1; omega
      · rw [r5, b33] at q2
        have q2 : l.length < K := by
          rcases Nat.lt_or_ge l.length K with z | z
          · exact z
          · exact absurd (nI_le z (by omega)) q2
        refine key _ ?_
        show M'.1 28 0 33 + 1 = _
        rw [b33, hl1, if_pos q2, nI_1]
    · rw [r5] at q
      have haK : K ≤ a := by
        rcases Nat.lt_or_ge a K with z | z
        · exact absurd (nI_lt z (by omega)) q
        · exact z
      have hlK : l.length = K := by omega
      refine h M' (am_fr_mono fr (by simp)) (fun k _ => fr.2 28 0 k (by simp)) ?_
      rw [jn_off_no l3 hK.1 hlK (hle (K - 1) (by omega))]
      refine ⟨(fr.2 28 0 33 (by simp)).trans l1, l2, l3, fun i hi => ?_⟩
      rw [hsh 56 i (by simp), hsh 57 i (by simp), hsh 58 i (by simp), if_neg (by omega), if_neg (by omega), if_neg (by omega)]
      exact l4 i hi
  have loop : ∀ (a : Nat) (M' : am_M), a ≤ l.length → am_fr [56, 57, 58] M M' → (∀ f k, f = 56 ∨ f = 57 ∨ f = 58 → M'.1 f 0 k = if a < k ∧ k ≤ l.length ∧ k < 4 then M.1 f 0 (k - 1) else M.1 f 0 k) → (∀ i, a ≤ i → i < l.length → c < (am_nth l i jn_0).1) → X d 100 3 [some (.inr (.inl (28, 0))), some (.inl (nI c)), some (.inl (nI (b + p))), some (.inl (nI code)), some (.inl (nI a))] [] M' Q := by
    intro a
    induction a with
    | zero =>
      intro M' ha fr hsh hgt
      refine am_go hX [3, 46, 48] 40 ?_
      refine ⟨fun _ => fin 0 M' ha fr hsh hgt (fun i hi => by omega), fun (q : ¬ nI 0 ≤ 0) => absurd (by decide) q⟩
    | succ a ih =>
      intro M' ha fr hsh hgt
      have e56 : M'.1 56 0 a = nI (am_nth l a jn_0).1 := by rw [hsh 56 a (by simp), if_neg (by omega)]; exact (l4 a (by omega)).1
      have hb := (l4 a (by omega)).2.2.1
      refine am_go hX [3, 46, 48] 60 ?_
      refine ⟨fun (q : nI (a + 1) ≤ 0) => absurd q (nI_nle (by omega) (by omega)), fun _ => ?_⟩
      refine ⟨a, by show a < 5; omega, nI_pred a, fun (q : M'.1 56 0 a ≤ nI c) => ?_, fun (q : ¬ M'.1 56 0 a ≤ nI c) => ?_⟩
      · rw [e56] at q
        have q := (nI_leI (by omega) (by omega)).mp q
        exact fin (a + 1) M' ha fr hsh hgt (fun i hi => Nat.le_trans (l3 i a (by omega) (by omega)) q)
      · rw [e56] at q
        have q : c < (am_nth l a jn_0).1 := by
          rcases Nat.lt_or_ge c (am_nth l a jn_0).1 with z | z
          · exact z
          · exact absurd (nI_le z (by omega)) q
        have hgt' : ∀ i, a ≤ i → i < l.length → c < (am_nth l i jn_0).1 := fun i h1 h2 => Nat.lt_of_lt_of_le q (l3 a i h1 h2)
        have nxt : ∀ M2 : am_M, am_fr [56, 57, 58] M M2 → (∀ f k, f = 56 ∨ f = 57 ∨ f = 58 → M2.1 f 0 k = if a < k ∧ k ≤ l.length ∧ k < 4 then M.1 f 0 (k - 1) else M.1 f 0 k) → X d 100 46 [some (.inr (.inl (28, 0))), some (.inl (nI c)), some (.inl (nI (b + p))), some (.inl (nI code)), some (.inl (nI (a + 1)))] [] M2 Q := by
          intro M2 fr2 hsh2
          refine am_go hX [3] 40 ?_
          refine (fun (z : X d 100 3 [some (.inr (.inl (28, 0))), some (.inl (nI c)), some (.inl (nI (b + p))), some (.inl (nI code)), some (.inl (nI (a + 1) + (-1)))] [] M2 Q) => z) ?_
          rw [pk_m1]
          exact ih M2 (by omega) fr2 hsh2 hgt'
        refine ⟨fun (q2 : 4 ≤ nI (a + 1)) => ?_, fun (q2 : ¬ 4 ≤ nI (a + 1)) => ?_⟩
        · have q2 := (nI_leI (a := 4) (by decide) (by omega)).mp q2
          refine nxt M' fr (fun f k hf => ?_)
          rw [hsh f k hf]
          by_cases z : a + 1 < k ∧ k ≤ l.length ∧ k < 4
          · rw [if_pos z, if_pos (by omega)]
          · rw [if_neg z, if_neg (by omega)]
        · have q2 : a + 1 < 4 := by
            rcases Nat.lt_or_ge (a + 1) 4 with z | z
            · exact z
            · exact absurd (nI_le (a := 4) z (by omega)) q2
          refine ⟨a, by show a < 5; omega, nI_pred a, a + 1, by show a + 1 < 5; omega, rfl, a, by show a < 5; omega, nI_pred a, a + 1, by show a + 1 < 5; omega, rfl, a, by show a < 5; omega, nI_pred a, a + 1, by show a + 1 < 5; omega, rfl, ?_⟩
          refine (fun (z : X d 100 46 [some (.inr (.inl (28, 0))), some (.inl (nI c)), some (.inl (nI (b + p))), some (.inl (nI code)), some (.inl (nI (a + 1)))] [] (am_si (am_si (am_si M' 56 0 (a + 1) (M'.1 56 0 a)) 57 0 (a + 1) (M'.1 57 0 a)) 58 0 (a + 1) (M'.1 58 0 a)) Q) => z) ?_
          refine nxt _ (am_fr_si (am_fr_si (am_fr_si fr (by simp)) (by simp)) (by simp)) (fun f k hf => ?_)
          have old : ∀ f, f = 56 ∨ f = 57 ∨ f = 58 → M'.1 f 0 a = M.1 f 0 a := fun f hf => by rw [hsh f a hf, if_neg (by omega)]
          rw [am_si_at, am_si_at, am_si_at, hsh f k hf, old 56 (by simp), old 57 (by simp), old 58 (by simp)]
          by_cases z : k = a + 1
          · subst z
            rw [if_pos (show a < a + 1 ∧ a + 1 ≤ l.length ∧ a + 1 < 4 by omega), Nat.add_sub_cancel]
            rcases hf with rfl | rfl | rfl
            · rw [if_neg (by omega), if_neg (by omega), if_pos ⟨rfl, rfl, rfl⟩]
            · rw [if_neg (by omega), if_pos ⟨rfl, rfl, rfl⟩]
            · rw [if_pos ⟨rfl, rfl, rfl⟩]
          · rw [if_neg (by omega), if_neg (by omega), if_neg (by omega)]
            by_cases z2 : a + 1 < k ∧ k ≤ l.length ∧ k < 4
            · rw [if_pos z2, if_pos (by omega)]
            · rw [if_neg z2, if_neg (by omega)]
  exact loop l.length M (Nat.le_refl _) (am_fr_rf _ M) (fun f k _ => by rw [if_neg (by omega)]) (fun i h1 h2 => by omega)
