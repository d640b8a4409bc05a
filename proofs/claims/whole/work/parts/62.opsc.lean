/-! the calls of the class, from what holds to what holds -/
theorem sC_tr {M M' M'' : am_M} (h : sC M M') (h' : sC M' M'') : sC M M'' := fun f i k hf => (h' f i k hf).trans (h f i k hf)
theorem sM_tr {M M' M'' : am_M} (h : sM M M') (h' : sM M' M'') : sM M M'' := ⟨h'.1.trans h.1, fun f i k hf => (h'.2 f i k hf).trans (h.2 f i k hf)⟩
theorem dc_watcher {X : am_X} (hX : am_Cl X) {d : Nat} {g : sg} (hP : iP g) : dC X d 0 [some (.inr (.inl (0, 0)))] g (op_watcher g).1 (op_watcher g).2 := by
  intro M hI Q h
  obtain ⟨c1, c2, c3, c4⟩ := id hI
  have hW := hP.2.1
  refine cw_watcher hX d M Q (fun c => ?_) (fun c => ?_)
  · rw [c2] at c ⊢
    have c : sg_W g < 3 := (nI_ltI (b := 3) (by omega) (by omega)).mp c
    have e : op_watcher g = (((sg_W g + 1, g.1.2), g.2), nI (sg_W g)) := if_neg (by omega)
    rw [e] at h
    rw [nI_1, nI_pred]
    refine h _ (sC_si (sC_rf M) (by omega)) ⟨cC_of c1 (L := [1]) (am_fr_si (am_fr_rf _ _) (by simp)) (by simp) (rc_T_of c1.1 (by simp [am_si_at]) (fun _ => rfl) (fun f hf i k => ?_)) (fun q => ⟨?_, rfl⟩), ?_, ?_, fun e he => ?_⟩
    · rw [am_si_at, if_neg (fun z => by simp at hf; omega)]
    · rw [am_si_at, if_neg (by omega)] at q; exact q
    · rw [am_si_at, if_pos ⟨rfl, rfl, rfl⟩]; rfl
    · show (am_si M 1 0 1 (nI (sg_W g + 1))).1 18 (M.2.1 4 (ta_n g.2)) 2 = _
      rw [am_si_at, if_neg (by omega)]; exact c3
    · show (am_si M 1 0 1 (nI (sg_W g + 1))).1 19 (M.2.1 4 (ta_n g.2)) e = _ ∧ (am_si M 1 0 1 (nI (sg_W g + 1))).1 20 (M.2.1 4 (ta_n g.2)) e = _ ∧ (am_si M 1 0 1 (nI (sg_W g + 1))).1 21 (M.2.1 4 (ta_n g.2)) e = _
      rw [am_si_at, if_neg (by omega), am_si_at, if_neg (by omega), am_si_at, if_neg (by omega)]; exact c4 e he
  · rw [c2] at c
    have c : sg_W g = 3 := by
      rcases Nat.lt_or_ge (sg_W g) 3 with q | q
      · exact absurd (nI_lt q (by omega)) c
      · omega
    have e : op_watcher g = (g, -4) := if_pos c
    rw [e] at h
    exact h M (sC_rf M) hI
theorem iC_sh {M : am_M} {g : sg} {k : Nat} {a b : Int32} (hI : iC M g) (hk : k < 3) : sC M (am_si (am_si (am_si M 2 0 k a) 3 0 k b) 1 0 0 1) ∧ iC (am_si (am_si (am_si M 2 0 k a) 3 0 k b) 1 0 0 1) (g.1, ta_sh g.2 k a b) := by
  obtain ⟨c1, c2, c3, c4⟩ := hI
  obtain ⟨t1, t2, t3, t4, t5, t6, t7⟩ := id c1.1
  have hf : ∀ f i j, f ≠ 1 → f ≠ 2 → f ≠ 3 → (am_si (am_si (am_si M 2 0 k a) 3 0 k b) 1 0 0 1).1 f i j = M.1 f i j := fun f i j h1 h2 h3 => by
    rw [am_si_at, if_neg (fun z => h1 z.1), am_si_at, if_neg (fun z => h3 z.1), am_si_at, if_neg (fun z => h2 z.1)]
  have h1 : ∀ j, j ≠ 0 → (am_si (am_si (am_si M 2 0 k a) 3 0 k b) 1 0 0 1).1 1 0 j = M.1 1 0 j := fun j hj => by
    rw [am_si_at, if_neg (fun z => hj z.2.2), am_si_at, if_neg (by omega), am_si_at, if_neg (by omega)]
  refine ⟨sC_si (sC_si (sC_si (sC_rf M) (by omega)) (by omega)) (by omega), cC_of c1 (L := [1, 2, 3]) (am_fr_si (am_fr_si (am_fr_si (am_fr_rf _ _) (by simp)) (by simp)) (by simp)) (by simp) ⟨?_, fun w hw => ?_, t3, t4, fun s hs => ?_, fun j hj => ?_, fun j hj => ?_⟩ (fun q => ?_), ?_, ?_, fun e he => ?_⟩
  · rw [h1 2 (by omega)]; exact t1
  · show _ = fu (ta_sa g.2) k a w ∧ _ = fu (ta_sb g.2) k b w
    simp only [am_si_at]
    by_cases c : w = k
    · rw [c, fu_at, fu_at]; simp
    · rw [fu_ne _ _ c, fu_ne _ _ c]; simp [c]; exact t2 w hw
  · show (am_si (am_si (am_si M 2 0 k a) 3 0 k b) 1 0 0 1).1 18 (M.2.1 4 s) 0 = _ ∧ (am_si (am_si (am_si M 2 0 k a) 3 0 k b) 1 0 0 1).1 18 (M.2.1 4 s) 1 = _ ∧ (am_si (am_si (am_si M 2 0 k a) 3 0 k b) 1 0 0 1).1 18 (M.2.1 4 s) 2 = _ ∧ ∀ e, e < ta_dn g.2 s → (am_si (am_si (am_si M 2 0 k a) 3 0 k b) 1 0 0 1).1 19 (M.2.1 4 s) e = _ ∧ (am_si (am_si (am_si M 2 0 k a) 3 0 k b) 1 0 0 1).1 20 (M.2.1 4 s) e = _ ∧ (am_si (am_si (am_si M 2 0 k a) 3 0 k b) 1 0 0 1).1 21 (M.2.1 4 s) e = _
    rw [hf 18 _ _ (by omega) (by omega) (by omega), hf 18 _ _ (by omega) (by omega) (by omega), hf 18 _ _ (by omega) (by omega) (by omega)]
    refine ⟨(t5 s hs).1, (t5 s hs).2.1, (t5 s hs).2.2.1, fun e he => ?_⟩
    rw [hf 19 _ _ (by omega) (by omega) (by omega), hf 20 _ _ (by omega) (by omega) (by omega), hf 21 _ _ (by omega) (by omega) (by omega)]
    exact (t5 s hs).2.2.2 e he
  · rw [hf 7 _ _ (by omega) (by omega) (by omega)]; exact t6 j hj
  · rw [hf 6 _ _ (by omega) (by omega) (by omega)]; exact t7 j hj
  · rw [am_si_at, if_pos ⟨rfl, rfl, rfl⟩] at q; exact absurd q (by decide)
  · rw [h1 1 (by omega)]; exact c2
  · show (am_si (am_si (am_si M 2 0 k a) 3 0 k b) 1 0 0 1).1 18 (M.2.1 4 (ta_n g.2)) 2 = _
    rw [hf 18 _ _ (by omega) (by omega) (by omega)]; exact c3
  · show (am_si (am_si (am_si M 2 0 k a) 3 0 k b) 1 0 0 1).1 19 (M.2.1 4 (ta_n g.2)) e = _ ∧ (am_si (am_si (am_si M 2 0 k a) 3 0 k b) 1 0 0 1).1 20 (M.2.1 4 (ta_n g.2)) e = _ ∧ (am_si (am_si (am_si M 2 0 k a) 3 0 k b) 1 0 0 1).1 21 (M.2.1 4 (ta_n g.2)) e = _
    rw [hf 19 _ _ (by omega) (by omega) (by omega), hf 20 _ _ (by omega) (by omega) (by omega), hf 21 _ _ (by omega) (by omega) (by omega)]
    exact c4 e he
theorem dc_shift {X : am_X} (hX : am_Cl X) {d : Nat} (hd : 1 ≤ d) {g : sg} (hP : iP g) (w a b : Int32) : dC X d 1 [some (.inr (.inl (0, 0))), some (.inl (w)), some (.inl (a)), some (.inl (b))] g (op_shift g w a b).1 (op_shift g w a b).2 := by
  intro M hI Q h
  obtain ⟨c1, c2, c3, c4⟩ := id hI
  have hW := hP.2.1
  refine cw_shift hX d M hd w a b Q (fun z => ?_) (fun w1 w2 z => ?_) (fun w1 w2 za zb => ?_)
  · rw [c2] at z
    have e : op_shift g w a b = (g, -1) := by unfold op_shift; rw [ix_n (by omega) z]
    rw [e] at h; exact h M (sC_rf M) hI
  · rw [c2] at w2
    obtain ⟨k, k1, k2, k3⟩ := ix_y (by omega) w1 w2
    have e : op_shift g w a b = (g, -2) := by unfold op_shift; rw [k3]; exact if_neg z
    rw [e] at h; exact h M (sC_rf M) hI
  · rw [c2] at w2
    obtain ⟨k, k1, k2, k3⟩ := ix_y (by omega) w1 w2
    have e : op_shift g w a b = ((g.1, ta_sh g.2 k a b), 0) := by unfold op_shift; rw [k3]; exact if_pos ⟨za, zb⟩
    rw [e] at h
    have z := iC_sh (a := a) (b := b) hI (by omega : k < 3)
    exact ⟨k, by omega, k2, h _ z.1 z.2⟩
theorem dc_dot {X : am_X} (hX : am_Cl X) {d : Nat} (hd : 1 ≤ d) {g : sg} (hP : iP g) (x y k : Int32) : dC X d 2 [some (.inr (.inl (0, 0))), some (.inl (x)), some (.inl (y)), some (.inl (k)), none] g (op_dot g x y k).1 (op_dot g x y k).2 := by
  intro M hI Q h
  obtain ⟨c1, c2, c3, c4⟩ := id hI
  have hn := hP.1.1
  have hq := hP.2.2.1
  refine cw_dot hX d M hd (ta_n g.2) (sg_q g) (by omega) hq c1.1.1 c3 x y k Q (fun z => ?_) (fun zx zy zk q4 => ?_) (fun q4 z => ?_)
  · have e : op_dot g x y k = (g, -2) := if_neg z
    rw [e] at h; exact h M (sC_rf M) hI
  · have e : op_dot g x y k = (((sg_W g, sg_q g + 1, fu (sg_x g) (sg_q g) x, fu (sg_y g) (sg_q g) y, fu (sg_m g) (sg_q g) k.toInt.toNat), g.2), nI (sg_q g + 1)) := by
      unfold op_dot; rw [if_pos ⟨zx, zy, zk⟩, if_neg (by omega)]
    rw [e] at h
    obtain ⟨t1, t2, t3, t4, t5, t6, t7⟩ := id c1.1
    have ek := (iz_rg (m := 0) (n := 9) (by decide) (by decide) zk).2.2 (by omega)
    refine h _ (sC_si (sC_si (sC_si (sC_si (sC_rf M) (by omega)) (by omega)) (by omega)) (by omega)) ⟨cC_of c1 (L := [18, 19, 20, 21]) (am_fr_si (am_fr_si (am_fr_si (am_fr_si (am_fr_rf _ _) (by simp)) (by simp)) (by simp)) (by simp)) (by simp) ⟨?_, fun w hw => ?_, t3, t4, fun s hs => ?_, fun j hj => ?_, fun j hj => ?_⟩ (fun q => ⟨?_, rfl⟩), ?_, ?_, fun e he => ?_⟩
    · simp only [am_si_at]; simp; exact t1
    · simp only [am_si_at]; simp; exact t2 w hw
    · have hs : s < ta_n g.2 := hs
      have ne : ¬ M.2.1 4 s = M.2.1 4 (ta_n g.2) := fun z => by have := t4 s (ta_n g.2) (by omega) (by omega) z; omega
      simp only [am_si_at, am_si_2]; simp [ne]; exact t5 s hs
    · simp only [am_si_at]; simp; exact t6 j hj
    · simp only [am_si_at]; simp; exact t7 j hj
    · simp only [am_si_at] at q; simp at q; exact q
    · simp only [am_si_at]; simp; exact c2
    · simp only [am_si_at, am_si_2]; simp; rfl
    · have he : e < sg_q g + 1 := he
      simp only [am_si_at, am_si_2]
      show _ = fu (sg_x g) (sg_q g) x e ∧ _ = fu (sg_y g) (sg_q g) y e ∧ _ = nI (fu (sg_m g) (sg_q g) k.toInt.toNat e)
      by_cases c : e = sg_q g
      · rw [c, fu_at, fu_at, fu_at, ← ek]; simp
      · rw [fu_ne _ _ c, fu_ne _ _ c, fu_ne _ _ c]; simp [c]; exact c4 e (by omega)
  · have e : op_dot g x y k = (g, -4) := by unfold op_dot; rw [if_pos z, if_pos q4]
    rw [e] at h; exact h M (sC_rf M) hI
theorem dc_scan {X : am_X} (hX : am_Cl X) {d : Nat} (hd : 1 ≤ d) {g : sg} (hP : iP g) (w m : Int32) : dC X d 3 [some (.inr (.inl (0, 0))), some (.inl (w)), some (.inl (m))] g (op_scan g w m).1 (op_scan g w m).2 := by
  intro M hI Q h
  obtain ⟨c1, c2, c3, c4⟩ := id hI
  have hn := hP.1.1
  have hW := hP.2.1
  have hq := hP.2.2.1
  refine cw_scan hX d M hd (ta_n g.2) hn c1.1.1 w m Q (fun z => ?_) (fun w1 w2 z => ?_) (fun w1 w2 z z12 => ?_) (fun w1 w2 z z12 => ?_)
  · rw [c2] at z
    have e : op_scan g w m = (g, -1) := by unfold op_scan; rw [ix_n (by omega) z]
    rw [e] at h; exact h M (sC_rf M) hI
  · rw [c2] at w2
    obtain ⟨k, k1, k2, k3⟩ := ix_y (by omega) w1 w2
    have e : op_scan g w m = (g, -2) := by unfold op_scan; rw [k3]; exact if_neg z
    rw [e] at h; exact h M (sC_rf M) hI
  · rw [c2] at w2
    obtain ⟨k, k1, k2, k3⟩ := ix_y (by omega) w1 w2
    have e : op_scan g w m = (g, -4) := by unfold op_scan; rw [k3]; exact (if_pos z).trans (if_pos z12)
    rw [e] at h; exact h M (sC_rf M) hI
  · rw [c2] at w2
    obtain ⟨k, k1, k2, k3⟩ := ix_y (by omega) w1 w2
    have e : op_scan g w m = (((sg_W g, 0, sg_x g, sg_y g, sg_m g), ta_sc g k m), nI (ta_n g.2)) := by unfold op_scan; rw [k3]; exact (if_pos z).trans (if_neg (by omega))
    rw [e] at h
    obtain ⟨t1, t2, t3, t4, t5, t6, t7⟩ := id c1.1
    have em := (iz_rg (m := 0) (n := 999) (by decide) (by decide) z).2.2 (by omega)
    have n1 : ¬ M.2.1 4 (ta_n g.2) = M.2.1 4 (ta_n g.2 + 1) := fun z => by have := t4 (ta_n g.2) (ta_n g.2 + 1) (by omega) (by omega) z; omega
    refine h _ (sC_si (sC_si (sC_si (sC_si (sC_si (sC_rf M) (by omega)) (by omega)) (by omega)) (by omega)) (by omega)) ⟨cC_of c1 (L := [1, 18]) (am_fr_si (am_fr_si (am_fr_si (am_fr_si (am_fr_si (am_fr_rf _ _) (by simp)) (by simp)) (by simp)) (by simp)) (by simp)) (by simp) ⟨?_, fun w hw => ?_, t3, t4, fun s hs => ?_, fun j hj => ?_, fun j hj => ?_⟩ (fun q => ?_), ?_, ?_, fun e he => absurd he (Nat.not_lt_zero e)⟩
    · simp only [am_si_at, cw_closeM]; simp; rfl
    · simp only [am_si_at, cw_closeM]; simp; exact t2 w hw
    · have hs : s < ta_n g.2 + 1 := hs
      have ne2 : ¬ M.2.1 4 s = M.2.1 4 (ta_n g.2 + 1) := fun z => by have := t4 s (ta_n g.2 + 1) (by omega) (by omega) z; omega
      show _ = nI (fu (ta_wt g.2) (ta_n g.2) k s) ∧ _ = nI (fu (ta_mo g.2) (ta_n g.2) m.toInt.toNat s) ∧ _ = nI (fu (ta_dn g.2) (ta_n g.2) (sg_q g) s) ∧ ∀ e, e < fu (ta_dn g.2) (ta_n g.2) (sg_q g) s → _ = fu (ta_dx g.2) (ta_n g.2) (sg_x g) s e ∧ _ = fu (ta_dy g.2) (ta_n g.2) (sg_y g) s e ∧ _ = nI (fu (ta_dm g.2) (ta_n g.2) (sg_m g) s e)
      simp only [am_si_at, am_si_2, cw_closeM]
      by_cases c : s = ta_n g.2
      · rw [c, fu_at, fu_at, fu_at, fu_at, fu_at, fu_at]
        simp [n1]
        exact ⟨k2, em, c3, c4⟩
      · have ne : ¬ M.2.1 4 s = M.2.1 4 (ta_n g.2) := fun z => by have := t4 s (ta_n g.2) (by omega) (by omega) z; omega
        rw [fu_ne _ _ c, fu_ne _ _ c, fu_ne _ _ c, fu_ne _ _ c, fu_ne _ _ c, fu_ne _ _ c]
        simp [ne, ne2]
        exact t5 s (by omega)
    · simp only [am_si_at, cw_closeM]; simp; exact t6 j hj
    · simp only [am_si_at, cw_closeM]; simp; exact t7 j hj
    · rw [am_si_at, if_pos ⟨rfl, rfl, rfl⟩] at q; exact absurd q (by decide)
    · simp only [am_si_at, cw_closeM]; simp; exact c2
    · show (am_si (cw_closeM M (ta_n g.2) w m) 1 0 0 1).1 18 (M.2.1 4 (ta_n g.2 + 1)) 2 = nI 0
      simp only [am_si_at, cw_closeM]; simp; rfl
theorem dc_drop {X : am_X} (hX : am_Cl X) {d : Nat} (hd : 2 ≤ d) {g : sg} (hP : iP g) (s : Int32) : dC X d 4 [some (.inr (.inl (0, 0))), some (.inl (s))] g (op_drop g s).1 (op_drop g s).2 := by
  intro M hI Q h
  obtain ⟨c1, c2, c3, c4⟩ := id hI
  have hn := hP.1.1
  refine cw_drop hX d M hd (ta_n g.2) hn c1.1.1 s Q (fun z => ?_) (fun k hk ek => ?_)
  · rw [c1.1.1] at z
    have e : op_drop g s = (g, -1) := by unfold op_drop; rw [ix_n (by omega) z]
    rw [e] at h; exact h M (sC_rf M) hI
  · have e : op_drop g s = ((g.1, ta_dr g.2 k), nI (ta_n g.2 - 1)) := by unfold op_drop; rw [ek, ix_of hk (by omega)]
    rw [e] at h
    obtain ⟨⟨t1, t2, t3, t4, t5, t6, t7⟩, ⟨s1, s2, s3⟩, h8, hD⟩ := id c1
    generalize hM' : am_si (am_si (am_sv (M.1, cw_rot M.2.1 k (ta_n g.2), M.2.2) 4 (ta_n g.2) (M.2.1 4 k)) 1 0 2 (nI (ta_n g.2 - 1))) 1 0 0 1 = M'
    have v4 : ∀ j, M'.2.1 4 j = M.2.1 4 (if j = ta_n g.2 then k else if k ≤ j ∧ j < ta_n g.2 then j + 1 else j) := by
      intro j
      rw [← hM']
      show (if 4 = 4 ∧ j = ta_n g.2 then M.2.1 4 k else if 4 = 4 ∧ k ≤ j ∧ j < ta_n g.2 then M.2.1 4 (j + 1) else M.2.1 4 j) = _
      simp only [true_and]
      split
      · rfl
      · split <;> rfl
    have vn : ∀ f j, f ≠ 4 → M'.2.1 f j = M.2.1 f j := by
      intro f j hf
      rw [← hM']
      show (if f = 4 ∧ j = ta_n g.2 then M.2.1 4 k else if f = 4 ∧ k ≤ j ∧ j < ta_n g.2 then M.2.1 4 (j + 1) else M.2.1 f j) = _
      rw [if_neg (fun z => hf z.1), if_neg (fun z => hf z.1)]
    have fc : ∀ f i j, f ≠ 1 → M'.1 f i j = M.1 f i j := by
      intro f i j hf
      rw [← hM', am_si_at, if_neg (fun z => hf z.1), am_si_at, if_neg (fun z => hf z.1)]; rfl
    have f0 : M'.1 1 0 0 = 1 := by rw [← hM', am_si_at, if_pos ⟨rfl, rfl, rfl⟩]
    have f2 : M'.1 1 0 2 = nI (ta_n g.2 - 1) := by rw [← hM', am_si_at, if_neg (by omega), am_si_at, if_pos ⟨rfl, rfl, rfl⟩]
    have f1 : M'.1 1 0 1 = M.1 1 0 1 := by rw [← hM', am_si_at, if_neg (by omega), am_si_at, if_neg (by omega)]; rfl
    refine h M' (fun f i j hf => fc f i j (by omega)) ⟨⟨⟨f2, fun w hw => ?_, fun i hi => ?_, fun i j hi hj z => ?_, fun s hs => ?_, fun j hj => ?_, fun j hj => ?_⟩, ⟨fun j hj => ?_, fun i hi => ?_, fun i j hi hj z => ?_⟩, ?_, fun z => ?_⟩, ?_, ?_, fun e he => ?_⟩
    · rw [fc 2 _ _ (by omega), fc 3 _ _ (by omega)]; exact t2 w hw
    · rw [v4]
      refine t3 _ ?_
      split
      · omega
      · split <;> omega
    · rw [v4, v4] at z
      have z := t4 _ _ (by split; omega; split <;> omega) (by split; omega; split <;> omega) z
      split at z <;> split at z <;> (try split at z) <;> (try split at z) <;> omega
    · have hs : s < ta_n g.2 - 1 := hs
      show _ = nI (fd (ta_wt g.2) k s) ∧ _ = nI (fd (ta_mo g.2) k s) ∧ _ = nI (fd (ta_dn g.2) k s) ∧ ∀ e, e < fd (ta_dn g.2) k s → _ = fd (ta_dx g.2) k s e ∧ _ = fd (ta_dy g.2) k s e ∧ _ = nI (fd (ta_dm g.2) k s e)
      rw [v4, if_neg (by omega), fc 18 _ _ (by omega), fc 18 _ _ (by omega), fc 18 _ _ (by omega)]
      by_cases c : s < k
      · rw [if_neg (by omega), fd_lt _ c, fd_lt _ c, fd_lt _ c, fd_lt _ c, fd_lt _ c, fd_lt _ c]
        refine ⟨(t5 s (by omega)).1, (t5 s (by omega)).2.1, (t5 s (by omega)).2.2.1, fun e he => ?_⟩
        rw [fc 19 _ _ (by omega), fc 20 _ _ (by omega), fc 21 _ _ (by omega)]
        exact (t5 s (by omega)).2.2.2 e he
      · rw [if_pos ⟨by omega, by omega⟩, fd_ge _ c, fd_ge _ c, fd_ge _ c, fd_ge _ c, fd_ge _ c, fd_ge _ c]
        refine ⟨(t5 (s + 1) (by omega)).1, (t5 (s + 1) (by omega)).2.1, (t5 (s + 1) (by omega)).2.2.1, fun e he => ?_⟩
        rw [fc 19 _ _ (by omega), fc 20 _ _ (by omega), fc 21 _ _ (by omega)]
        exact (t5 (s + 1) (by omega)).2.2.2 e he
    · rw [fc 7 _ _ (by omega)]; exact t6 j hj
    · rw [fc 6 _ _ (by omega)]; exact t7 j hj
    · rw [fc 16 _ _ (by omega)]; exact s1 j hj
    · rw [vn 12 _ (by omega)]; exact s2 i hi
    · rw [vn 12 _ (by omega), vn 12 _ (by omega)] at z; exact s3 i j hi hj z
    · rw [vn 8 _ (by omega), vn 8 _ (by omega)]; exact h8
    · rw [f0] at z; exact absurd z (by decide)
    · rw [f1]; exact c2
    · show M'.1 18 (M'.2.1 4 (ta_n g.2 - 1)) 2 = _
      rw [v4, if_neg (by omega), if_pos ⟨by omega, by omega⟩, fc 18 _ _ (by omega), show ta_n g.2 - 1 + 1 = ta_n g.2 by omega]; exact c3
    · show M'.1 19 (M'.2.1 4 (ta_n g.2 - 1)) e = _ ∧ M'.1 20 (M'.2.1 4 (ta_n g.2 - 1)) e = _ ∧ M'.1 21 (M'.2.1 4 (ta_n g.2 - 1)) e = _
      rw [v4, if_neg (by omega), if_pos ⟨by omega, by omega⟩, fc 19 _ _ (by omega), fc 20 _ _ (by omega), fc 21 _ _ (by omega), show ta_n g.2 - 1 + 1 = ta_n g.2 by omega]; exact c4 e he
theorem dc_kind {X : am_X} (hX : am_Cl X) {d : Nat} (hd : 1 ≤ d) {g : sg} (m k : Int32) : dC X d 5 [some (.inr (.inl (0, 0))), some (.inl (m)), some (.inl (k)), none] g (op_kind g m k).1 (op_kind g m k).2 := by
  intro M hI Q h
  obtain ⟨c1, c2, c3, c4⟩ := id hI
  refine cw_kind hX d M hd m k Q (fun z => ?_) (fun z z2 => ?_) (fun z z2 => ?_)
  · have e : op_kind g m k = (g, -1) := if_neg z
    rw [e] at h; exact h M (sC_rf M) hI
  · have e : op_kind g m k = (g, -2) := (if_pos z).trans (if_neg z2)
    rw [e] at h; exact h M (sC_rf M) hI
  · have e : op_kind g m k = ((g.1, ta_ki g.2 m.toInt.toNat k.toInt.toNat), nI (ta_kd g.2 m.toInt.toNat)) := (if_pos z).trans (if_pos z2)
    rw [e] at h
    obtain ⟨t1, t2, t3, t4, t5, t6, t7⟩ := id c1.1
    have rm := iz_rg (m := 1) (n := 9) (by decide) (by decide) z
    have rk := iz_rg (m := 0) (n := 2) (by decide) (by decide) z2
    refine ⟨m.toInt.toNat, by omega, rm.2.2 (by omega), ?_⟩
    rw [t6 _ (by omega : m.toInt.toNat < 10)]
    generalize m.toInt.toNat = n at h rm ⊢
    refine h _ (sC_si (sC_si (sC_rf M) (by omega)) (by omega)) ⟨cC_of c1 (L := [1, 7]) (am_fr_si (am_fr_si (am_fr_rf _ _) (by simp)) (by simp)) (by simp) ⟨?_, fun w hw => ?_, t3, t4, fun s hs => ?_, fun j hj => ?_, fun j hj => ?_⟩ (fun q => ?_), ?_, ?_, fun e he => ?_⟩
    · simp only [am_si_at]; simp; exact t1
    · simp only [am_si_at]; simp; exact t2 w hw
    · simp only [am_si_at, am_si_2]; simp; exact t5 s hs
    · show _ = nI (fu (ta_kd g.2) n k.toInt.toNat j)
      simp only [am_si_at]
      by_cases c : j = n
      · rw [c, fu_at, ← rk.2.2 (by omega)]; simp
      · rw [fu_ne _ _ c]; simp [c]; exact t6 j hj
    · simp only [am_si_at]; simp; exact t7 j hj
    · rw [am_si_at, if_pos ⟨rfl, rfl, rfl⟩] at q; exact absurd q (by decide)
    · simp only [am_si_at]; simp; exact c2
    · simp only [am_si_at, am_si_2]; simp; exact c3
    · simp only [am_si_at, am_si_2]; simp; exact c4 e he
theorem dc_rule {X : am_X} (hX : am_Cl X) {d : Nat} (hd : 1 ≤ d) {g : sg} (m v : Int32) : dC X d 6 [some (.inr (.inl (0, 0))), some (.inl (m)), some (.inl (v)), none] g (op_rule g m v).1 (op_rule g m v).2 := by
  intro M hI Q h
  obtain ⟨c1, c2, c3, c4⟩ := id hI
  refine cw_rule hX d M hd m v Q (fun z => ?_) (fun n hn en z => ?_) (fun n hn en z => ?_)
  · have e : op_rule g m v = (g, -1) := by
      unfold op_rule
      rw [ix_n (by omega) (fun q => z ⟨q.1, ?_⟩)]
      have := Int32.lt_iff_toInt_lt.mp q.2
      rw [Int32.le_iff_toInt_le, show (5 : Int32).toInt = 5 by decide]
      rw [nI_toInt (by omega)] at this; omega
    rw [e] at h; exact h M (sC_rf M) hI
  · have e : op_rule g m v = (g, -2) := by unfold op_rule; rw [en, ix_of hn (by omega)]; exact if_neg z
    rw [e] at h; exact h M (sC_rf M) hI
  · have e : op_rule g m v = ((g.1, ta_rl g.2 n v.toInt.toNat), nI (ta_ru g.2 n)) := by unfold op_rule; rw [en, ix_of hn (by omega)]; exact if_pos z
    rw [e] at h
    obtain ⟨t1, t2, t3, t4, t5, t6, t7⟩ := id c1.1
    have ev : v = nI v.toInt.toNat := by
      match n, hn, z with
      | 0, _, z => exact (iz_rg (m := 0) (n := 500) (by decide) (by decide) z).2.2 (by omega)
      | 1, _, z => exact (iz_rg (m := 0) (n := 100000) (by decide) (by decide) z).2.2 (by omega)
      | 2, _, z => exact (iz_rg (m := 0) (n := 100000) (by decide) (by decide) z).2.2 (by omega)
      | 3, _, z => exact (iz_rg (m := 0) (n := 100000) (by decide) (by decide) z).2.2 (by omega)
      | 4, _, z => exact (iz_rg (m := 1) (n := 9) (by decide) (by decide) z).2.2 (by omega)
      | 5, _, z => exact (iz_rg (m := 1) (n := 4) (by decide) (by decide) z).2.2 (by omega)
      | k + 6, hk, _ => omega
    rw [t7 n hn]
    refine h _ (sC_si (sC_si (sC_rf M) (by omega)) (by omega)) ⟨cC_of c1 (L := [1, 6]) (am_fr_si (am_fr_si (am_fr_rf _ _) (by simp)) (by simp)) (by simp) ⟨?_, fun w hw => ?_, t3, t4, fun s hs => ?_, fun j hj => ?_, fun j hj => ?_⟩ (fun q => ?_), ?_, ?_, fun e he => ?_⟩
    · simp only [am_si_at]; simp; exact t1
    · simp only [am_si_at]; simp; exact t2 w hw
    · simp only [am_si_at, am_si_2]; simp; exact t5 s hs
    · simp only [am_si_at]; simp; exact t6 j hj
    · show _ = nI (fu (ta_ru g.2) n v.toInt.toNat j)
      simp only [am_si_at]
      by_cases c : j = n
      · rw [c, fu_at, ← ev]; simp
      · rw [fu_ne _ _ c]; simp [c]; exact t7 j hj
    · rw [am_si_at, if_pos ⟨rfl, rfl, rfl⟩] at q; exact absurd q (by decide)
    · simp only [am_si_at]; simp; exact c2
    · simp only [am_si_at, am_si_2]; simp; exact c3
    · simp only [am_si_at, am_si_2]; simp; exact c4 e he
theorem dc_right {X : am_X} (hX : am_Cl X) {d : Nat} (hd : 2 ≤ d) {g : sg} (hP : iP g) (w u : Int32) : dC X d 23 [some (.inr (.inl (0, 0))), some (.inl (w)), some (.inl (u)), none, none, none] g (op_right g w u).1 (op_right g w u).2 := by
  intro M hI Q h
  have hW := hP.2.1
  refine cw_right hX d M hd g.2 hP.1 hI.1.1 (sg_W g) hW hI.2.1 w u Q (fun z => ?_) (fun a b ea eb ha hb ab => ?_) (fun a b ea eb ha hb ab z M' fr => ?_) (fun a b ea eb ha hb ab z M' fr => ?_)
  · have e : op_right g w u = (g, -1) := by
      unfold op_right
      rcases z with z | z
      · rw [z]
      · rw [z]; split <;> rfl
    rw [e] at h; exact h M (sC_rf M) hI
  · have e : op_right g w u = (g, -2) := by unfold op_right; rw [ea]; dsimp only; rw [eb]; exact if_pos ab
    rw [e] at h; exact h M (sC_rf M) hI
  · have e : op_right g w u = (g, -3) := by unfold op_right; rw [ea]; dsimp only; rw [eb]; exact (if_neg ab).trans (if_pos z)
    rw [e] at h; exact h M' (sC_17 fr) (iC_17 hI fr)
  · have e : op_right g w u = ((g.1, ta_sh g.2 b (rg_a g.2 a b) (rg_b g.2 a b)), rg_n g.2 a b) := by unfold op_right; rw [ea]; dsimp only; rw [eb]; exact (if_neg ab).trans (if_neg z)
    rw [e] at h
    have k := iC_sh (a := rg_a g.2 a b) (b := rg_b g.2 a b) (iC_17 hI fr) (by omega : b < 3)
    exact h _ (sC_tr (sC_17 fr) k.1) k.2
