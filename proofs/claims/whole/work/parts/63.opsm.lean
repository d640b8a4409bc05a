/-! the calls of the reference, from what holds to what holds -/
theorem mC_of {M M' : am_M} {L : List Nat} {τ τ' : ta} (h : mC M τ) (fr : am_fr L M M') (hL : ∀ f, 42 ≤ f → f ≤ 54 → f ∉ L) (hT : rm_T M' τ') (e1 : M'.1 28 0 18 = M.1 28 0 18) (e2 : M'.1 28 0 19 = M.1 28 0 19) (h0 : M'.1 28 0 16 = 0 → M.1 28 0 16 = 0 ∧ τ' = τ) : mC M' τ' := by
  obtain ⟨-, hE, hD⟩ := h
  refine ⟨hT, fun k hk => ?_, fun q => ?_⟩
  · rw [fr.2 54 _ _ (hL 54 (by omega) (by omega))]; exact hE k hk
  · obtain ⟨q, e⟩ := h0 q
    rw [e]
    exact rm_D_fr (hD q) fr hL e1 e2
theorem dm_watcher {X : am_X} (hX : am_Cl X) {d : Nat} {g : sg} (hP : iP g) : dM X d 86 [some (.inr (.inl (28, 0)))] g (op_watcher g).1 (op_watcher g).2 := by
  intro M hI Q h
  obtain ⟨c1, c2, c3, c4⟩ := id hI
  have hW := hP.2.1
  refine cm_watcher hX d M (sg_W g) hW c2 Q (fun c => ?_) (fun c => ?_)
  · have e : op_watcher g = (g, -4) := if_pos c
    rw [e] at h
    exact h M (sM_rf M) hI
  · have e : op_watcher g = (((sg_W g + 1, g.1.2), g.2), nI (sg_W g)) := if_neg (by omega)
    rw [e] at h
    obtain ⟨t1, t2, t3, t4, t5⟩ := id c1.1
    refine h _ (sM_si (sM_si (sM_si (sM_rf M) (by omega) (by omega)) (by omega) (by omega)) (by omega) (by omega)) ⟨mC_of c1 (L := [28, 29, 30]) (am_fr_si (am_fr_si (am_fr_si (am_fr_rf _ _) (by simp)) (by simp)) (by simp)) (fun f f1 f2 => by simp; omega) ⟨?_, fun w hw => ?_, fun s hs => ?_, fun j hj => ?_, fun j hj => ?_⟩ ?_ ?_ (fun q => ⟨?_, rfl⟩), ?_, ?_, fun e he => ?_⟩
    · simp only [am_si_at]; simp; exact t1
    · simp only [am_si_at]
      by_cases cw : w = sg_W g
      · have z := hP.2.2.2.2 w (by omega) hw
        rw [cw] at z ⊢
        simp
        exact ⟨z.1.symm, z.2.symm⟩
      · simp [cw]; exact t2 w hw
    · simp only [am_si_at]; simp; exact t3 s hs
    · simp only [am_si_at]; simp; exact t4 j hj
    · simp only [am_si_at]; simp; exact t5 j hj
    · simp only [am_si_at]; simp
    · simp only [am_si_at]; simp
    · simp only [am_si_at] at q; simp at q; exact q
    · simp only [am_si_at]; simp; rfl
    · simp only [am_si_at]; simp; exact c3
    · simp only [am_si_at]; simp; exact c4 e he
theorem iM_sh {M : am_M} {g : sg} {k : Nat} {a b : Int32} (hI : iM M g) (hk : k < 3) : sM M (am_si (am_si (am_si M 29 0 k a) 30 0 k b) 28 0 16 1) ∧ iM (am_si (am_si (am_si M 29 0 k a) 30 0 k b) 28 0 16 1) (g.1, ta_sh g.2 k a b) := by
  obtain ⟨c1, c2, c3, c4⟩ := hI
  obtain ⟨t1, t2, t3, t4, t5⟩ := id c1.1
  refine ⟨sM_si (sM_si (sM_si (sM_rf M) (by omega) (by omega)) (by omega) (by omega)) (by omega) (by omega), mC_of c1 (L := [28, 29, 30]) (am_fr_si (am_fr_si (am_fr_si (am_fr_rf _ _) (by simp)) (by simp)) (by simp)) (fun f f1 f2 => by simp; omega) ⟨?_, fun w hw => ?_, fun s hs => ?_, fun j hj => ?_, fun j hj => ?_⟩ ?_ ?_ (fun q => ?_), ?_, ?_, fun e he => ?_⟩
  · simp only [am_si_at]; simp; exact t1
  · show _ = fu (ta_sa g.2) k a w ∧ _ = fu (ta_sb g.2) k b w
    simp only [am_si_at]
    by_cases c : w = k
    · rw [c, fu_at, fu_at]; simp
    · rw [fu_ne _ _ c, fu_ne _ _ c]; simp [c]; exact t2 w hw
  · simp only [am_si_at]; simp; exact t3 s hs
  · simp only [am_si_at]; simp; exact t4 j hj
  · simp only [am_si_at]; simp; exact t5 j hj
  · simp only [am_si_at]; simp
  · simp only [am_si_at]; simp
  · rw [am_si_at, if_pos ⟨rfl, rfl, rfl⟩] at q; exact absurd q (by decide)
  · simp only [am_si_at]; simp; exact c2
  · simp only [am_si_at]; simp; exact c3
  · simp only [am_si_at]; simp; exact c4 e he
theorem dm_shift {X : am_X} (hX : am_Cl X) {d : Nat} (hd : 2 ≤ d) {g : sg} (hP : iP g) (w a b : Int32) : dM X d 87 [some (.inr (.inl (28, 0))), some (.inl (w)), some (.inl (a)), some (.inl (b))] g (op_shift g w a b).1 (op_shift g w a b).2 := by
  intro M hI Q h
  obtain ⟨c1, c2, c3, c4⟩ := id hI
  have hW := hP.2.1
  refine cm_shift hX d M hd w a b Q (fun z => ?_) (fun w1 w2 z => ?_) (fun w1 w2 za zb => ?_)
  · rw [c2, ix_lt (by omega)] at z
    have e : op_shift g w a b = (g, -1) := by unfold op_shift; rw [ix_n (by omega) z]
    rw [e] at h; exact h M (sM_rf M) hI
  · rw [c2, ix_lt (by omega)] at w2
    obtain ⟨k, k1, k2, k3⟩ := ix_y (by omega) w1 w2
    have e : op_shift g w a b = (g, -2) := by unfold op_shift; rw [k3]; exact if_neg z
    rw [e] at h; exact h M (sM_rf M) hI
  · rw [c2, ix_lt (by omega)] at w2
    obtain ⟨k, k1, k2, k3⟩ := ix_y (by omega) w1 w2
    have e : op_shift g w a b = ((g.1, ta_sh g.2 k a b), 0) := by unfold op_shift; rw [k3]; exact if_pos ⟨za, zb⟩
    rw [e] at h
    have z := iM_sh (a := a) (b := b) hI (by omega : k < 3)
    exact ⟨k, by omega, k2, h _ z.1 z.2⟩
theorem dm_dot {X : am_X} (hX : am_Cl X) {d : Nat} (hd : 1 ≤ d) {g : sg} (hP : iP g) (x y k : Int32) : dM X d 88 [some (.inr (.inl (28, 0))), some (.inl (x)), some (.inl (y)), some (.inl (k))] g (op_dot g x y k).1 (op_dot g x y k).2 := by
  intro M hI Q h
  obtain ⟨c1, c2, c3, c4⟩ := id hI
  have hq := hP.2.2.1
  refine cm_dot hX d M hd (sg_q g) hq c3 x y k Q (fun z => ?_) (fun zx zy zk q4 => ?_) (fun q4 z => ?_)
  · have e : op_dot g x y k = (g, -2) := if_neg z
    rw [e] at h; exact h M (sM_rf M) hI
  · have e : op_dot g x y k = (((sg_W g, sg_q g + 1, fu (sg_x g) (sg_q g) x, fu (sg_y g) (sg_q g) y, fu (sg_m g) (sg_q g) k.toInt.toNat), g.2), nI (sg_q g + 1)) := by
      unfold op_dot; rw [if_pos ⟨zx, zy, zk⟩, if_neg (by omega)]
    rw [e] at h
    obtain ⟨t1, t2, t3, t4, t5⟩ := id c1.1
    have ek := (iz_rg (m := 0) (n := 9) (by decide) (by decide) zk).2.2 (by omega)
    refine h _ (sM_si (sM_si (sM_si (sM_si (sM_rf M) (by omega) (by omega)) (by omega) (by omega)) (by omega) (by omega)) (by omega) (by omega)) ⟨mC_of c1 (L := [28, 37, 38, 39]) (am_fr_si (am_fr_si (am_fr_si (am_fr_si (am_fr_rf _ _) (by simp)) (by simp)) (by simp)) (by simp)) (fun f f1 f2 => by simp; omega) ⟨?_, fun w hw => ?_, fun s hs => ?_, fun j hj => ?_, fun j hj => ?_⟩ ?_ ?_ (fun q => ⟨?_, rfl⟩), ?_, ?_, fun e he => ?_⟩
    · simp only [am_si_at]; simp; exact t1
    · simp only [am_si_at]; simp; exact t2 w hw
    · simp only [am_si_at]; simp; exact t3 s hs
    · simp only [am_si_at]; simp; exact t4 j hj
    · simp only [am_si_at]; simp; exact t5 j hj
    · simp only [am_si_at]; simp
    · simp only [am_si_at]; simp
    · simp only [am_si_at] at q; simp at q; exact q
    · simp only [am_si_at]; simp; exact c2
    · simp only [am_si_at]; simp; rfl
    · have he : e < sg_q g + 1 := he
      simp only [am_si_at]
      show _ = fu (sg_x g) (sg_q g) x e ∧ _ = fu (sg_y g) (sg_q g) y e ∧ _ = nI (fu (sg_m g) (sg_q g) k.toInt.toNat e)
      by_cases c : e = sg_q g
      · rw [c, fu_at, fu_at, fu_at, ← ek]; simp
      · rw [fu_ne _ _ c, fu_ne _ _ c, fu_ne _ _ c]; simp [c]; exact c4 e (by omega)
  · have e : op_dot g x y k = (g, -4) := by unfold op_dot; rw [if_pos z, if_pos q4]
    rw [e] at h; exact h M (sM_rf M) hI
theorem dm_scan {X : am_X} (hX : am_Cl X) {d : Nat} (hd : 2 ≤ d) {g : sg} (hP : iP g) (w m : Int32) : dM X d 89 [some (.inr (.inl (28, 0))), some (.inl (w)), some (.inl (m)), none] g (op_scan g w m).1 (op_scan g w m).2 := by
  intro M hI Q h
  obtain ⟨c1, c2, c3, c4⟩ := id hI
  have hn := hP.1.1
  have hW := hP.2.1
  have hq := hP.2.2.1
  refine cm_scan hX d M hd (ta_n g.2) (sg_q g) hn hq c1.1.1 c3 w m Q (fun z => ?_) (fun w1 w2 z => ?_) (fun w1 w2 z z12 => ?_) (fun w1 w2 z z12 M' hS => ?_)
  · rw [c2, ix_lt (by omega)] at z
    have e : op_scan g w m = (g, -1) := by unfold op_scan; rw [ix_n (by omega) z]
    rw [e] at h; exact h M (sM_rf M) hI
  · rw [c2, ix_lt (by omega)] at w2
    obtain ⟨k, k1, k2, k3⟩ := ix_y (by omega) w1 w2
    have e : op_scan g w m = (g, -2) := by unfold op_scan; rw [k3]; exact if_neg z
    rw [e] at h; exact h M (sM_rf M) hI
  · rw [c2, ix_lt (by omega)] at w2
    obtain ⟨k, k1, k2, k3⟩ := ix_y (by omega) w1 w2
    have e : op_scan g w m = (g, -4) := by unfold op_scan; rw [k3]; exact (if_pos z).trans (if_pos z12)
    rw [e] at h; exact h M (sM_rf M) hI
  · rw [c2, ix_lt (by omega)] at w2
    obtain ⟨k, k1, k2, k3⟩ := ix_y (by omega) w1 w2
    have e : op_scan g w m = (((sg_W g, 0, sg_x g, sg_y g, sg_m g), ta_sc g k m), nI (ta_n g.2)) := by unfold op_scan; rw [k3]; exact (if_pos z).trans (if_neg (by omega))
    rw [e] at h
    obtain ⟨t1, t2, t3, t4, t5⟩ := id c1.1
    obtain ⟨fr, h28, g1, g2, g3, g4, g5, g6⟩ := hS
    have em := (iz_rg (m := 0) (n := 999) (by decide) (by decide) z).2.2 (by omega)
    refine h M' ⟨fr.1, fun f i j hf => fr.2 f i j (by simp; omega)⟩ ⟨mC_of c1 fr (fun f f1 f2 => by simp; omega) ⟨?_, fun w hw => ?_, fun s hs => ?_, fun j hj => ?_, fun j hj => ?_⟩ ?_ ?_ (fun q => ?_), ?_, ?_, fun e he => absurd he (Nat.not_lt_zero e)⟩
    · rw [h28]; rfl
    · rw [fr.2 29 _ _ (by simp), fr.2 30 _ _ (by simp)]; exact t2 w hw
    · have hs : s < ta_n g.2 + 1 := hs
      show _ = nI (fu (ta_wt g.2) (ta_n g.2) k s) ∧ _ = nI (fu (ta_mo g.2) (ta_n g.2) m.toInt.toNat s) ∧ _ = nI (fu (ta_dn g.2) (ta_n g.2) (sg_q g) s) ∧ ∀ e, e < fu (ta_dn g.2) (ta_n g.2) (sg_q g) s → _ = fu (ta_dx g.2) (ta_n g.2) (sg_x g) s e ∧ _ = fu (ta_dy g.2) (ta_n g.2) (sg_y g) s e ∧ _ = nI (fu (ta_dm g.2) (ta_n g.2) (sg_m g) s e)
      by_cases c : s = ta_n g.2
      · rw [c, fu_at, fu_at, fu_at, fu_at, fu_at, fu_at, g1, if_pos rfl, g2, if_pos rfl, g3, if_pos rfl]
        refine ⟨k2, em, rfl, fun e he => ?_⟩
        rw [g4, if_pos ⟨by omega, by omega⟩, g5, if_pos ⟨by omega, by omega⟩, g6, if_pos ⟨by omega, by omega⟩, show 4 * ta_n g.2 + e - 4 * ta_n g.2 = e by omega]
        exact c4 e he
      · have h4 := (hP.1.2.2.1 s (by omega)).2.2.1
        rw [fu_ne _ _ c, fu_ne _ _ c, fu_ne _ _ c, fu_ne _ _ c, fu_ne _ _ c, fu_ne _ _ c, g1, if_neg c, g2, if_neg c, g3, if_neg c]
        refine ⟨(t3 s (by omega)).1, (t3 s (by omega)).2.1, (t3 s (by omega)).2.2.1, fun e he => ?_⟩
        rw [g4, if_neg (by omega), g5, if_neg (by omega), g6, if_neg (by omega)]
        exact (t3 s (by omega)).2.2.2 e he
    · rw [fr.2 40 _ _ (by simp)]; exact t4 j hj
    · rw [fr.2 41 _ _ (by simp)]; exact t5 j hj
    · rw [h28]; rfl
    · rw [h28]; rfl
    · rw [h28] at q; exact absurd (show (1 : Int32) = 0 from q) (by decide)
    · rw [h28]; exact c2
    · rw [h28]; rfl
theorem dm_drop {X : am_X} (hX : am_Cl X) {d : Nat} (hd : 2 ≤ d) {g : sg} (hP : iP g) (s : Int32) : dM X d 90 [some (.inr (.inl (28, 0))), some (.inl (s)), none, none] g (op_drop g s).1 (op_drop g s).2 := by
  intro M hI Q h
  obtain ⟨c1, c2, c3, c4⟩ := id hI
  have hn := hP.1.1
  refine cm_drop hX d M hd (ta_n g.2) hn c1.1.1 s Q (fun z => ?_) (fun k hk ek M2 hD => ?_)
  · rw [c1.1.1, ix_lt (by omega)] at z
    have e : op_drop g s = (g, -1) := by unfold op_drop; rw [ix_n (by omega) z]
    rw [e] at h; exact h M (sM_rf M) hI
  · have e : op_drop g s = ((g.1, ta_dr g.2 k), nI (ta_n g.2 - 1)) := by unfold op_drop; rw [ek, ix_of hk (by omega)]
    rw [e] at h
    obtain ⟨t1, t2, t3, t4, t5⟩ := id c1.1
    obtain ⟨fr, g1, g2⟩ := hD
    generalize hM' : am_si M2 28 0 16 1 = M'
    have fr' : am_fr [28, 31, 32, 33, 34, 35, 36] M M' := by
      rw [← hM']
      exact am_fr_si (am_fr_tr (am_fr_si (am_fr_rf _ M) (by simp)) (am_fr_mono fr (by simp))) (by simp)
    have h28 : ∀ j, M'.1 28 0 j = if j = 16 then 1 else if j = 1 then nI (ta_n g.2 - 1) else M.1 28 0 j := by
      intro j
      rw [← hM', am_si_at]
      by_cases c : j = 16
      · rw [if_pos ⟨rfl, rfl, c⟩, if_pos c]
      · rw [if_neg (fun z => c z.2.2), if_neg c, fr.2 28 0 j (by simp), am_si_at]
        by_cases c1 : j = 1
        · rw [if_pos ⟨rfl, rfl, c1⟩, if_pos c1]
        · rw [if_neg (fun z => c1 z.2.2), if_neg c1]
    have ga : ∀ f, f = 31 ∨ f = 32 ∨ f = 33 → ∀ j, M'.1 f 0 j = if k ≤ j ∧ j < ta_n g.2 - 1 then M.1 f 0 (j + 1) else M.1 f 0 j := by
      intro f hf j
      have e : ∀ j, (am_si M 28 0 1 (nI (ta_n g.2 - 1))).1 f 0 j = M.1 f 0 j := fun j => by rw [am_si_at, if_neg (by omega)]
      rw [← hM', am_si_at, if_neg (by omega), g1 f hf j, e, e]
    have gb : ∀ f, f = 34 ∨ f = 35 ∨ f = 36 → ∀ j, M'.1 f 0 j = if 4 * k ≤ j ∧ j < 4 * (ta_n g.2 - 1) then M.1 f 0 (j + 4) else M.1 f 0 j := by
      intro f hf j
      have e : ∀ j, (am_si M 28 0 1 (nI (ta_n g.2 - 1))).1 f 0 j = M.1 f 0 j := fun j => by rw [am_si_at, if_neg (by omega)]
      rw [← hM', am_si_at, if_neg (by omega), g2 f hf j, e, e]
    refine h M' ⟨fr'.1, fun f i j hf => fr'.2 f i j (by simp; omega)⟩ ⟨mC_of c1 fr' (fun f f1 f2 => by simp; omega) ⟨?_, fun w hw => ?_, fun s hs => ?_, fun j hj => ?_, fun j hj => ?_⟩ ?_ ?_ (fun q => ?_), ?_, ?_, fun e he => ?_⟩
    · rw [h28]; rfl
    · rw [fr'.2 29 _ _ (by simp), fr'.2 30 _ _ (by simp)]; exact t2 w hw
    · have hs : s < ta_n g.2 - 1 := hs
      show _ = nI (fd (ta_wt g.2) k s) ∧ _ = nI (fd (ta_mo g.2) k s) ∧ _ = nI (fd (ta_dn g.2) k s) ∧ ∀ e, e < fd (ta_dn g.2) k s → _ = fd (ta_dx g.2) k s e ∧ _ = fd (ta_dy g.2) k s e ∧ _ = nI (fd (ta_dm g.2) k s e)
      rw [ga 31 (by omega), ga 32 (by omega), ga 33 (by omega)]
      by_cases c : s < k
      · have h4 := (hP.1.2.2.1 s (by omega)).2.2.1
        rw [if_neg (by omega), if_neg (by omega), if_neg (by omega), fd_lt _ c, fd_lt _ c, fd_lt _ c, fd_lt _ c, fd_lt _ c, fd_lt _ c]
        refine ⟨(t3 s (by omega)).1, (t3 s (by omega)).2.1, (t3 s (by omega)).2.2.1, fun e he => ?_⟩
        rw [gb 34 (by omega), if_neg (by omega), gb 35 (by omega), if_neg (by omega), gb 36 (by omega), if_neg (by omega)]
        exact (t3 s (by omega)).2.2.2 e he
      · have h4 := (hP.1.2.2.1 (s + 1) (by omega)).2.2.1
        rw [if_pos ⟨by omega, hs⟩, if_pos ⟨by omega, hs⟩, if_pos ⟨by omega, hs⟩, fd_ge _ c, fd_ge _ c, fd_ge _ c, fd_ge _ c, fd_ge _ c, fd_ge _ c]
        refine ⟨(t3 (s + 1) (by omega)).1, (t3 (s + 1) (by omega)).2.1, (t3 (s + 1) (by omega)).2.2.1, fun e he => ?_⟩
        rw [gb 34 (by omega), if_pos ⟨by omega, by omega⟩, gb 35 (by omega), if_pos ⟨by omega, by omega⟩, gb 36 (by omega), if_pos ⟨by omega, by omega⟩, show 4 * s + e + 4 = 4 * (s + 1) + e by omega]
        exact (t3 (s + 1) (by omega)).2.2.2 e he
    · rw [fr'.2 40 _ _ (by simp)]; exact t4 j hj
    · rw [fr'.2 41 _ _ (by simp)]; exact t5 j hj
    · rw [h28]; rfl
    · rw [h28]; rfl
    · rw [h28] at q; exact absurd (show (1 : Int32) = 0 from q) (by decide)
    · rw [h28]; exact c2
    · rw [h28]; exact c3
    · rw [fr'.2 37 _ _ (by simp), fr'.2 38 _ _ (by simp), fr'.2 39 _ _ (by simp)]; exact c4 e he
theorem dm_kind {X : am_X} (hX : am_Cl X) {d : Nat} (hd : 1 ≤ d) {g : sg} (m k : Int32) : dM X d 91 [some (.inr (.inl (28, 0))), some (.inl (m)), some (.inl (k)), none] g (op_kind g m k).1 (op_kind g m k).2 := by
  intro M hI Q h
  obtain ⟨c1, c2, c3, c4⟩ := id hI
  refine cm_kind hX d M hd m k Q (fun z => ?_) (fun z z2 => ?_) (fun z z2 => ?_)
  · have e : op_kind g m k = (g, -1) := if_neg z
    rw [e] at h; exact h M (sM_rf M) hI
  · have e : op_kind g m k = (g, -2) := (if_pos z).trans (if_neg z2)
    rw [e] at h; exact h M (sM_rf M) hI
  · have e : op_kind g m k = ((g.1, ta_ki g.2 m.toInt.toNat k.toInt.toNat), nI (ta_kd g.2 m.toInt.toNat)) := (if_pos z).trans (if_pos z2)
    rw [e] at h
    obtain ⟨t1, t2, t3, t4, t5⟩ := id c1.1
    have rm := iz_rg (m := 1) (n := 9) (by decide) (by decide) z
    have rk := iz_rg (m := 0) (n := 2) (by decide) (by decide) z2
    refine ⟨m.toInt.toNat, by omega, rm.2.2 (by omega), ?_⟩
    rw [t4 _ (by omega : m.toInt.toNat < 10)]
    generalize m.toInt.toNat = n at h rm ⊢
    refine h _ (sM_si (sM_si (sM_rf M) (by omega) (by omega)) (by omega) (by omega)) ⟨mC_of c1 (L := [28, 40]) (am_fr_si (am_fr_si (am_fr_rf _ _) (by simp)) (by simp)) (fun f f1 f2 => by simp; omega) ⟨?_, fun w hw => ?_, fun s hs => ?_, fun j hj => ?_, fun j hj => ?_⟩ ?_ ?_ (fun q => ?_), ?_, ?_, fun e he => ?_⟩
    · simp only [am_si_at]; simp; exact t1
    · simp only [am_si_at]; simp; exact t2 w hw
    · simp only [am_si_at]; simp; exact t3 s hs
    · show _ = nI (fu (ta_kd g.2) n k.toInt.toNat j)
      simp only [am_si_at]
      by_cases c : j = n
      · rw [c, fu_at, ← rk.2.2 (by omega)]; simp
      · rw [fu_ne _ _ c]; simp [c]; exact t4 j hj
    · simp only [am_si_at]; simp; exact t5 j hj
    · simp only [am_si_at]; simp
    · simp only [am_si_at]; simp
    · rw [am_si_at, if_pos ⟨rfl, rfl, rfl⟩] at q; exact absurd q (by decide)
    · simp only [am_si_at]; simp; exact c2
    · simp only [am_si_at]; simp; exact c3
    · simp only [am_si_at]; simp; exact c4 e he
theorem dm_rule {X : am_X} (hX : am_Cl X) {d : Nat} (hd : 1 ≤ d) {g : sg} (m v : Int32) : dM X d 92 [some (.inr (.inl (28, 0))), some (.inl (m)), some (.inl (v)), none] g (op_rule g m v).1 (op_rule g m v).2 := by
  intro M hI Q h
  obtain ⟨c1, c2, c3, c4⟩ := id hI
  refine cm_rule hX d M hd m v Q (fun z => ?_) (fun n hn en z => ?_) (fun n hn en z => ?_)
  · have e : op_rule g m v = (g, -1) := by
      unfold op_rule
      rw [ix_n (by omega) (fun q => z ⟨q.1, ?_⟩)]
      have := Int32.lt_iff_toInt_lt.mp q.2
      rw [Int32.le_iff_toInt_le, show (5 : Int32).toInt = 5 by decide]
      rw [nI_toInt (by omega)] at this; omega
    rw [e] at h; exact h M (sM_rf M) hI
  · have e : op_rule g m v = (g, -2) := by unfold op_rule; rw [en, ix_of hn (by omega)]; exact if_neg z
    rw [e] at h; exact h M (sM_rf M) hI
  · have e : op_rule g m v = ((g.1, ta_rl g.2 n v.toInt.toNat), nI (ta_ru g.2 n)) := by unfold op_rule; rw [en, ix_of hn (by omega)]; exact if_pos z
    rw [e] at h
    obtain ⟨t1, t2, t3, t4, t5⟩ := id c1.1
    have ev : v = nI v.toInt.toNat := by
      match n, hn, z with
      | 0, _, z => exact (iz_rg (m := 0) (n := 500) (by decide) (by decide) z).2.2 (by omega)
      | 1, _, z => exact (iz_rg (m := 0) (n := 100000) (by decide) (by decide) z).2.2 (by omega)
      | 2, _, z => exact (iz_rg (m := 0) (n := 100000) (by decide) (by decide) z).2.2 (by omega)
      | 3, _, z => exact (iz_rg (m := 0) (n := 100000) (by decide) (by decide) z).2.2 (by omega)
      | 4, _, z => exact (iz_rg (m := 1) (n := 9) (by decide) (by decide) z).2.2 (by omega)
      | 5, _, z => exact (iz_rg (m := 1) (n := 4) (by decide) (by decide) z).2.2 (by omega)
      | k + 6, hk, _ => omega
    rw [t5 n hn]
    refine h _ (sM_si (sM_si (sM_rf M) (by omega) (by omega)) (by omega) (by omega)) ⟨mC_of c1 (L := [28, 41]) (am_fr_si (am_fr_si (am_fr_rf _ _) (by simp)) (by simp)) (fun f f1 f2 => by simp; omega) ⟨?_, fun w hw => ?_, fun s hs => ?_, fun j hj => ?_, fun j hj => ?_⟩ ?_ ?_ (fun q => ?_), ?_, ?_, fun e he => ?_⟩
    · simp only [am_si_at]; simp; exact t1
    · simp only [am_si_at]; simp; exact t2 w hw
    · simp only [am_si_at]; simp; exact t3 s hs
    · simp only [am_si_at]; simp; exact t4 j hj
    · show _ = nI (fu (ta_ru g.2) n v.toInt.toNat j)
      simp only [am_si_at]
      by_cases c : j = n
      · rw [c, fu_at, ← ev]; simp
      · rw [fu_ne _ _ c]; simp [c]; exact t5 j hj
    · simp only [am_si_at]; simp
    · simp only [am_si_at]; simp
    · rw [am_si_at, if_pos ⟨rfl, rfl, rfl⟩] at q; exact absurd q (by decide)
    · simp only [am_si_at]; simp; exact c2
    · simp only [am_si_at]; simp; exact c3
    · simp only [am_si_at]; simp; exact c4 e he
theorem dm_right {X : am_X} (hX : am_Cl X) {d : Nat} (hd : 2 ≤ d) {g : sg} (hP : iP g) (w u : Int32) : dM X d 132 [some (.inr (.inl (28, 0))), some (.inl (w)), some (.inl (u)), none, none, none, none] g (op_right g w u).1 (op_right g w u).2 := by
  intro M hI Q h
  have hW := hP.2.1
  refine cm_right hX d M hd g.2 hP.1 hI.1.1 (sg_W g) hW hI.2.1 w u Q (fun z => ?_) (fun a b ea eb ha hb ab => ?_) (fun a b ea eb ha hb ab z M' fr => ?_) (fun a b ea eb ha hb ab z M' fr => ?_)
  · have e : op_right g w u = (g, -1) := by
      unfold op_right
      rcases z with z | z
      · rw [z]
      · rw [z]; split <;> rfl
    rw [e] at h; exact h M (sM_rf M) hI
  · have e : op_right g w u = (g, -2) := by unfold op_right; rw [ea]; dsimp only; rw [eb]; exact if_pos ab
    rw [e] at h; exact h M (sM_rf M) hI
  · have e : op_right g w u = (g, -3) := by unfold op_right; rw [ea]; dsimp only; rw [eb]; exact (if_neg ab).trans (if_pos z)
    rw [e] at h; exact h M' (sM_P fr) (iM_P hI fr)
  · have e : op_right g w u = ((g.1, ta_sh g.2 b (rg_a g.2 a b) (rg_b g.2 a b)), rg_n g.2 a b) := by unfold op_right; rw [ea]; dsimp only; rw [eb]; exact (if_neg ab).trans (if_neg z)
    rw [e] at h
    have k := iM_sh (a := rg_a g.2 a b) (b := rg_b g.2 a b) (iM_P hI fr) (by omega : b < 3)
    exact h _ (sM_tr (sM_P fr) k.1) k.2
