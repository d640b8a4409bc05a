def jn_J (p : Nat) (x : Nat × List Nat) : jn := (x.1, p, x.2)
theorem jl_s_le (T : Nat → Nat → Option Nat) (nT birth fals : Nat) (hb : birth ≤ 100000) : ∀ r e, jl_s T nT birth fals r e ≤ r * 100000
  | 0, e => by simp [jl_s]
  | r + 1, e => by
    have := jl_s_le T nT birth fals hb r (e + 1)
    have := (jl_m_b T birth fals e nT).1
    simp only [jl_s]; omega
theorem am_nth_snoc (pre : List Nat) (k i : Nat) : am_nth (pre ++ [k]) i 9 = if i < pre.length then am_nth pre i 9 else if i = pre.length then k else 9 := by
  rw [am_nth_app]
  split
  · rfl
  · split
    · rename_i h1 h2; subst h2; simp [am_nth]
    · rename_i h1 h2
      rw [am_nth_out (by simp; omega)]
set_option maxHeartbeats 2000000 in
theorem cw_dealFrom {X : am_X} (hX : am_Cl X) (T : Nat → Nat → Option Nat) (lv : Nat → Bool) (nT n p miss birth fals K : Nat) : ∀ (r d : Nat), r + 2 ≤ d → ∀ (M : am_M) (l : List jn) (e c u b : Nat) (tak : Nat → Bool) (pre : List Nat), cs_D M T lv nT n p miss birth fals → cs_L M K n l → e + r = n → pre.length = e → u = jn_cnt lv tak nT → b ≤ e → c + r * 250000 + u * 100000 < 2 ^ 30 →
    (∀ k, k < 6 → M.1 16 0 k = if tak k = true then 1 else 0) → (∀ i, i < e → M.1 15 0 i = nI (am_nth pre i 9)) → ∀ (Q : am_P),
    (∀ M', am_fg [11, 15, 16, 22, 23] [12] M M' → cs_L M' K n (((jn_sub T nT miss birth fals r e c u b tak pre).map (jn_J p)).foldl (jn_off K) l) → (∀ k, k < 6 → M'.1 16 0 k = M.1 16 0 k) → (∀ i, i < e → M'.1 15 0 i = M.1 15 0 i) → Q none M') →
    X d 54 0 [some (.inr (.inl (10, 0))), some (.inl (nI e)), some (.inl (nI c)), some (.inl (nI u)), some (.inl (nI b)), none, none] [] M Q := by
  intro r
  induction r with
  | zero =>
    intro d hd M l e c u b tak pre hD hL her hpl hu hbe hB htk hpk Q h
    obtain ⟨a1, a2, a3, a4, a5, a6, a7, a8, a9, a10, a11, a12, a13, a14⟩ := id hD
    have hen : e = n := by omega
    subst hen
    refine am_go hX [] 60 ?_
    refine ⟨fun _ => ?_, fun (q : ¬ M.1 10 0 7 ≤ nI e) => absurd (by rw [a6]; exact nI_le (Nat.le_refl _) (by omega)) q⟩
    refine am_cc (by omega) ?_
    have hu6 : u ≤ 6 := by have := jn_cnt_le lv tak nT; omega
    have hum : u * miss ≤ u * 100000 := Nat.mul_le_mul_left _ a9
    have et : nI c + nI u * M.1 10 0 1 = nI (c + u * miss) := by rw [a1, pk_mul, nI_add]
    refine (fun (z : X (d - 1) 57 0 [some (.inr (.inl (11, 0))), some (.inl (M.1 10 0 5)), some (.inl (nI c + nI u * M.1 10 0 1)), some (.inr (.inl (15, 0))), none, none] [] M _) => z) ?_
    rw [et, a4]
    refine cw_offer hX _ _ (by omega) K e a8 l hL p (c + u * miss) (by omega) pre hpk _ (fun M' fr hL' => ?_)
    exact h M' (am_fg_mono fr (by simp) (by simp)) hL' (fun k hk => fr.2.2 16 0 k (by simp)) (fun i hi => fr.2.2 15 0 i (by simp))
  | succ r ih =>
    intro d hd M l e c u b tak pre hD hL her hpl hu hbe hB htk hpk Q h
    obtain ⟨a1, a2, a3, a4, a5, a6, a7, a8, a9, a10, a11, a12, a13, a14⟩ := id hD
    have hu6 : u ≤ 6 := by have := jn_cnt_le lv tak nT; omega
    have hls := jl_s_le T nT birth fals a10 (n - e) e
    have hum : (u - (n - e)) * miss ≤ u * 100000 := Nat.mul_le_mul (by omega) a9
    have hne : n - e = r + 1 := by omega
    have hge := jn_sub_ge T nT miss birth fals (r + 1) e c u b tak pre
    refine am_go hX [30] 60 ?_
    refine ⟨fun (q : M.1 10 0 7 ≤ nI e) => absurd q (by rw [a6]; exact nI_ge (by omega) (by omega)), fun _ => ⟨fun _ => ?_, fun (q : ¬ nI e < 4) => absurd (nI_lt (b := 4) (by omega) (by decide)) q⟩⟩
    refine am_cc (by omega) (cw_mayServe hX _ _ (by omega) T lv nT n p miss birth fals K l hD hL e c u (by omega) hu6 (by rw [hne] at hls hum ⊢; omega) _ ?_ (fun q1 q2 => ?_))
    · refine am_bne1 ?_
      -- the part that each track adds
      generalize hf : (fun k => match T k e with
        | none => []
        | some t => bif tak k then [] else jn_sub T nT miss birth fals r (e + 1) (c + t) (u - 1) b (fun j => bif Nat.beq j k then true else tak j) (pre ++ [k])) = f
      have hsub : jn_sub T nT miss birth fals (r + 1) e c u b tak pre = (List.range nT).flatMap f ++ ((if nT + b < 6 then jn_sub T nT miss birth fals r (e + 1) (c + birth) u (b + 1) tak (pre ++ [6]) else []) ++ jn_sub T nT miss birth fals r (e + 1) (c + fals) u b tak (pre ++ [7])) := by
        rw [← hf]; rfl
      -- behind the tracks
      have last : ∀ (M' : am_M) (l' : List jn), am_fg [11, 15, 16, 22, 23] [12] M M' → cs_L M' K n l' → (∀ k, k < 6 → M'.1 16 0 k = M.1 16 0 k) → (∀ i, i < e → M'.1 15 0 i = M.1 15 0 i) →
          ((jn_sub T nT miss birth fals (r + 1) e c u b tak pre).map (jn_J p)).foldl (jn_off K) l = ((jn_sub T nT miss birth fals r (e + 1) (c + fals) u b tak (pre ++ [7])).map (jn_J p)).foldl (jn_off K) l' → ∀ z1 z2, X d 54 104 [some (.inr (.inl (10, 0))), some (.inl (nI e)), some (.inl (nI c)), some (.inl (nI u)), some (.inl (nI b)), z1, z2] [] M' Q := by
        intro M' l' fr hL' ht hp heq z1 z2
        refine am_go hX [] 60 ?_
        refine ⟨e, by show e < 4; omega, rfl, am_cc (by omega) ?_⟩
        have e3 : M'.1 10 0 3 = nI fals := (fr.2.2 10 0 3 (by simp)).trans a3
        refine (fun (z : X (d - 1) 54 0 [some (.inr (.inl (10, 0))), some (.inl (nI e + 1)), some (.inl (nI c + M'.1 10 0 3)), some (.inl (nI u)), some (.inl (nI b)), none, none] [] (am_si M' 15 0 e 7) _) => z) ?_
        rw [e3, nI_1, nI_add]
        have fr1 : am_fg [15] [] M' (am_si M' 15 0 e 7) := am_fg_si (am_fg_rf _ _ _) (by simp)
        refine ih (d - 1) (by omega) _ l' (e + 1) (c + fals) u b tak (pre ++ [7]) (cs_D_fr (cs_D_fr hD fr (by simp) (by simp) (by simp)) fr1 (by simp) (by simp) (by simp)) (cs_L_fr hL' fr1 (by simp) (by simp) (by simp) (by simp)) (by omega) (by simp; omega) hu (by omega) (by omega) (fun k hk => ?_) (fun i hi => ?_) _ (fun M2 fr2 hL2 ht2 hp2 => ?_)
        · rw [fr1.2.2 16 0 k (by simp), ht k hk]; exact htk k hk
        · rw [am_nth_snoc, am_si_at]
          by_cases z : i = e
          · rw [if_pos ⟨rfl, rfl, z⟩, if_neg (by omega), if_pos (by omega)]; rfl
          · rw [if_neg (fun q => z q.2.2), if_pos (by omega), hp i (by omega)]; exact hpk i (by omega)
        · rw [← heq] at hL2
          refine h M2 (am_fg_tr fr (am_fg_tr (am_fg_mono fr1 (by simp) (by simp)) fr2)) hL2 (fun k hk => ?_) (fun i hi => ?_)
          · rw [ht2 k hk, fr1.2.2 16 0 k (by simp)]; exact ht k hk
          · rw [hp2 i (by omega), am_si_at, if_neg (by omega)]; exact hp i hi
      have mid : ∀ (M' : am_M) (l' : List jn), am_fg [11, 15, 16, 22, 23] [12] M M' → cs_L M' K n l' → (∀ k, k < 6 → M'.1 16 0 k = M.1 16 0 k) → (∀ i, i < e → M'.1 15 0 i = M.1 15 0 i) →
          l' = (((List.range nT).flatMap f).map (jn_J p)).foldl (jn_off K) l → ∀ z1 z2, X d 54 80 [some (.inr (.inl (10, 0))), some (.inl (nI e)), some (.inl (nI c)), some (.inl (nI u)), some (.inl (nI b)), z1, z2] [] M' Q := by
        intro M' l' fr hL' ht hp heq z1 z2
        have e6 : M'.1 10 0 6 = nI nT := (fr.2.2 10 0 6 (by simp)).trans a5
        have e2 : M'.1 10 0 2 = nI birth := (fr.2.2 10 0 2 (by simp)).trans a2
        have fr1 : am_fg [15] [] M' (am_si M' 15 0 e 6) := am_fg_si (am_fg_rf _ _ _) (by simp)
        refine am_go hX [104] 60 ?_
        refine ⟨fun (q : (6 : Int32) ≤ M'.1 10 0 6 + nI b) => ?_, fun (q : ¬ (6 : Int32) ≤ M'.1 10 0 6 + nI b) => ?_⟩
        · rw [e6, nI_add] at q
          have q := (nI_leI (a := 6) (by decide) (by omega)).mp q
          refine last M' l' fr hL' ht hp ?_ z1 z2
          rw [hsub, if_neg (by omega), List.nil_append, List.map_append, List.foldl_append, ← heq]
        · rw [e6, nI_add] at q
          have q : nT + b < 6 := by
            rcases Nat.lt_or_ge (nT + b) 6 with z | z
            · exact z
            · exact absurd (nI_le (a := 6) z (by omega)) q
          refine ⟨e, by show e < 4; omega, rfl, am_cc (by omega) ?_⟩
          refine (fun (z : X (d - 1) 54 0 [some (.inr (.inl (10, 0))), some (.inl (nI e + 1)), some (.inl (nI c + M'.1 10 0 2)), some (.inl (nI u)), some (.inl (nI b + 1)), none, none] [] (am_si M' 15 0 e 6) _) => z) ?_
          rw [e2, nI_1, nI_1, nI_add]
          refine ih (d - 1) (by omega) _ l' (e + 1) (c + birth) u (b + 1) tak (pre ++ [6]) (cs_D_fr (cs_D_fr hD fr (by simp) (by simp) (by simp)) fr1 (by simp) (by simp) (by simp)) (cs_L_fr hL' fr1 (by simp) (by simp) (by simp) (by simp)) (by omega) (by simp; omega) hu (by omega) (by omega) (fun k hk => ?_) (fun i hi => ?_) _ (fun M2 fr2 hL2 ht2 hp2 => ?_)
          · rw [fr1.2.2 16 0 k (by simp), ht k hk]; exact htk k hk
          · rw [am_nth_snoc, am_si_at]
            by_cases z : i = e
            · rw [if_pos ⟨rfl, rfl, z⟩, if_neg (by omega), if_pos (by omega)]; rfl
            · rw [if_neg (fun q => z q.2.2), if_pos (by omega), hp i (by omega)]; exact hpk i (by omega)
          · refine last M2 _ (am_fg_tr fr (am_fg_tr (am_fg_mono fr1 (by simp) (by simp)) fr2)) hL2 (fun k hk => ?_) (fun i hi => ?_) ?_ z1 z2
            · rw [ht2 k hk, fr1.2.2 16 0 k (by simp)]; exact ht k hk
            · rw [hp2 i (by omega), am_si_at, if_neg (by omega)]; exact hp i hi
            · rw [hsub, if_pos q, List.map_append, List.foldl_append, List.map_append, List.foldl_append, ← heq]
      have loop : ∀ (t k : Nat), k + t = nT → ∀ (M' : am_M) (l' : List jn), am_fg [11, 15, 16, 22, 23] [12] M M' → cs_L M' K n l' → (∀ k, k < 6 → M'.1 16 0 k = M.1 16 0 k) → (∀ i, i < e → M'.1 15 0 i = M.1 15 0 i) →
          l' = (((List.range k).flatMap f).map (jn_J p)).foldl (jn_off K) l → ∀ z2, X d 54 30 [some (.inr (.inl (10, 0))), some (.inl (nI e)), some (.inl (nI c)), some (.inl (nI u)), some (.inl (nI b)), some (.inl (nI k)), z2] [] M' Q := by
        intro t
        induction t with
        | zero =>
          intro k hk M' l' fr hL' ht hp heq z2
          have hk : k = nT := by omega
          subst hk
          have e6 : M'.1 10 0 6 = nI k := (fr.2.2 10 0 6 (by simp)).trans a5
          refine am_go hX [30, 80] 60 ?_
          exact ⟨fun _ => mid M' l' fr hL' ht hp heq _ _, fun (q : ¬ M'.1 10 0 6 ≤ nI k) => absurd (by rw [e6]; exact nI_le (Nat.le_refl _) (by omega)) q⟩
        | succ t iht =>
          intro k hk M' l' fr hL' ht hp heq z2
          have e6 : M'.1 10 0 6 = nI nT := (fr.2.2 10 0 6 (by simp)).trans a5
          have et : M'.1 13 0 (4 * k + e) = _ := (fr.2.2 13 0 (4 * k + e) (by simp)).trans (a12 k e (by omega) (by omega))
          have ix : 4 * nI k + nI e = nI (4 * k + e) := by rw [show (4 : Int32) = nI 4 from rfl, pk_mul, nI_add]
          have hflat : (List.range (k + 1)).flatMap f = (List.range k).flatMap f ++ f k := by rw [List.range_succ, List.flatMap_append]; simp
          refine am_go hX [30, 78] 60 ?_
          refine ⟨fun (q : M'.1 10 0 6 ≤ nI k) => absurd q (by rw [e6]; exact nI_ge (by omega) (by omega)), fun _ => ?_⟩
          refine ⟨4 * k + e, by show 4 * k + e < 24; omega, ix, ?_⟩
          have nxt : ∀ (M2 : am_M) (l2 : List jn), am_fg [11, 15, 16, 22, 23] [12] M M2 → cs_L M2 K n l2 → (∀ k, k < 6 → M2.1 16 0 k = M.1 16 0 k) → (∀ i, i < e → M2.1 15 0 i = M.1 15 0 i) → l2 = ((f k).map (jn_J p)).foldl (jn_off K) l' → ∀ z, X d 54 78 [some (.inr (.inl (10, 0))), some (.inl (nI e)), some (.inl (nI c)), some (.inl (nI u)), some (.inl (nI b)), some (.inl (nI k)), z] [] M2 Q := by
            intro M2 l2 fr2 hL2 ht2 hp2 heq2 z
            refine am_go hX [30] 60 ?_
            refine (fun (w : X d 54 30 [some (.inr (.inl (10, 0))), some (.inl (nI e)), some (.inl (nI c)), some (.inl (nI u)), some (.inl (nI b)), some (.inl (nI k + 1)), z] [] M2 Q) => w) ?_
            rw [nI_1]
            refine iht (k + 1) (by omega) M2 l2 fr2 hL2 ht2 hp2 ?_ z
            rw [hflat, List.map_append, List.foldl_append, ← heq]; exact heq2
          have hfk : f k = match T k e with
            | none => []
            | some t => bif tak k then [] else jn_sub T nT miss birth fals r (e + 1) (c + t) (u - 1) b (fun j => bif Nat.beq j k then true else tak j) (pre ++ [k]) := by rw [← hf]
          cases hT : T k e with
          | none =>
            rw [hT] at et hfk
            dsimp only at et hfk
            refine ⟨fun _ => nxt M' l' fr hL' ht hp (by rw [hfk]; rfl) _, fun (q : ¬ M'.1 13 0 (4 * k + e) = -1) => absurd et q⟩
          | some tl =>
            rw [hT] at et hfk
            dsimp only at et hfk
            obtain ⟨tl1, tl2⟩ := a13 k e tl hT
            refine ⟨fun (q : M'.1 13 0 (4 * k + e) = -1) => ?_, fun _ => ?_⟩
            · rw [et] at q
              have h1 : (nI tl).toInt = (-1 : Int32).toInt := by rw [q]
              rw [nI_toInt (by omega)] at h1
              have h2 : (-1 : Int32).toInt = -1 := by decide
              omega
            · have htkk : M'.1 16 0 k = if tak k = true then 1 else 0 := (ht k (by omega)).trans (htk k (by omega))
              refine ⟨k, by show k < 6; omega, rfl, ?_⟩
              cases htt : tak k with
              | true =>
                rw [htt] at htkk hfk
                refine ⟨fun _ => nxt M' l' fr hL' ht hp (by rw [hfk]; rfl) _, fun (q : ¬ ¬ M'.1 16 0 k = 0) => ?_⟩
                rw [htkk] at q
                exact absurd (by decide) q
              | false =>
                rw [htt] at htkk hfk
                refine ⟨fun (q : ¬ M'.1 16 0 k = 0) => absurd (by rw [htkk]; rfl) q, fun _ => ?_⟩
                refine ⟨k, by show k < 6; omega, rfl, Or.inr rfl, e, by show e < 4; omega, rfl, am_cc (by omega) ?_⟩
                have hcnt := jn_cnt_tk lv tak k tl2 htt nT
                rw [if_pos (by omega)] at hcnt
                have hu1 : 1 ≤ u := by omega
                have eu : nI u - 1 = nI (u - 1) := by
                  obtain ⟨v, rfl⟩ : ∃ v, u = v + 1 := ⟨u - 1, by omega⟩
                  exact nI_pred v
                refine (fun (z : X (d - 1) 54 0 [some (.inr (.inl (10, 0))), some (.inl (nI e + 1)), some (.inl (nI c + M'.1 13 0 (4 * k + e))), some (.inl (nI u - 1)), some (.inl (nI b)), none, none] [] (am_si (am_si M' 16 0 k 1) 15 0 e (nI k)) _) => z) ?_
                rw [et, nI_1, nI_add, eu]
                have fr1 : am_fg [15, 16] [] M' (am_si (am_si M' 16 0 k 1) 15 0 e (nI k)) := am_fg_si (am_fg_si (am_fg_rf _ _ _) (by simp)) (by simp)
                refine ih (d - 1) (by omega) _ l' (e + 1) (c + tl) (u - 1) b (fun j => bif Nat.beq j k then true else tak j) (pre ++ [k]) (cs_D_fr (cs_D_fr hD fr (by simp) (by simp) (by simp)) fr1 (by simp) (by simp) (by simp)) (cs_L_fr hL' fr1 (by simp) (by simp) (by simp) (by simp)) (by omega) (by simp; omega) (by omega) (by omega) (by omega) (fun j hj => ?_) (fun i hi => ?_) _ (fun M2 fr2 hL2 ht2 hp2 => ?_)
                · rw [am_si_at, if_neg (by omega), am_si_at]
                  by_cases z : j = k
                  · subst z; rw [if_pos ⟨rfl, rfl, rfl⟩, Nat.beq_refl]; rfl
                  · rw [if_neg (fun q => z q.2.2)]
                    have hb : Nat.beq j k = false := by
                      cases w : Nat.beq j k with
                      | false => rfl
                      | true => exact absurd (Nat.eq_of_beq_eq_true w) z
                    rw [hb, ht j hj]; exact htk j hj
                · rw [am_nth_snoc, am_si_at]
                  by_cases z : i = e
                  · rw [if_pos ⟨rfl, rfl, z⟩, if_neg (by omega), if_pos (by omega)]
                  · rw [if_neg (fun q => z q.2.2), if_pos (by omega), am_si_at, if_neg (by omega), hp i (by omega)]; exact hpk i (by omega)
                · refine ⟨k, by show k < 6; omega, rfl, Or.inl rfl, ?_⟩
                  have fr3 : am_fg [11, 15, 16, 22, 23] [12] M (am_si M2 16 0 k 0) := am_fg_si (am_fg_tr fr (am_fg_tr (am_fg_mono fr1 (by simp) (by simp)) fr2)) (by simp)
                  have fr4 : am_fg [16] [] M2 (am_si M2 16 0 k 0) := am_fg_si (am_fg_rf _ _ _) (by simp)
                  refine nxt (am_si M2 16 0 k 0) _ fr3 (cs_L_fr hL2 fr4 (by simp) (by simp) (by simp) (by simp)) (fun j hj => ?_) (fun i hi => ?_) (by rw [hfk]; rfl) _
                  · rw [am_si_at]
                    by_cases z : j = k
                    · subst z; rw [if_pos ⟨rfl, rfl, rfl⟩, ← ht j hj, htkk]; rfl
                    · rw [if_neg (fun q => z q.2.2), ht2 j hj, am_si_at, if_neg (by omega), am_si_at, if_neg (fun q => z q.2.2)]; exact ht j hj
                  · rw [am_si_at, if_neg (by omega), hp2 i (by omega), am_si_at, if_neg (by omega), am_si_at, if_neg (by omega)]; exact hp i hi
      exact loop nT 0 (by omega) M l (am_fg_rf _ _ _) hL (fun _ _ => rfl) (fun _ _ => rfl) rfl _
    · refine am_bne0 ?_
      have hno := jn_fold_no hL.2.2.2.2.2.1 hL.2.2.2.1 q1 ((jn_sub T nT miss birth fals (r + 1) e c u b tak pre).map (jn_J p)) (fun x hx => by
        obtain ⟨y, hy, rfl⟩ := List.mem_map.mp hx
        have := hge y hy
        rw [hne] at q2
        exact Nat.le_trans q2 this)
      refine h M (am_fg_rf _ _ _) ?_ (fun _ _ => rfl) (fun _ _ => rfl)
      rw [hno]; exact hL
