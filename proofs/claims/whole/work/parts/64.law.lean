/-! the questions from what holds to what holds; the law, case by case; its loop -/
theorem dc_worlds {X : am_X} (hX : am_Cl X) {d : Nat} (hd : 11 ≤ d) {g : sg} (hP : iP g) : dC X d 7 [some (.inr (.inl (0, 0)))] g g (nI (wds g.2).length) := by
  intro M hI Q h
  exact cw_worlds hX d M (by omega) g.2 hP.1 hI.1  Q (fun M' F C => h M' (sC_F F) (iC_F hI F C))
theorem dm_worlds {X : am_X} (hX : am_Cl X) {d : Nat} (hd : 11 ≤ d) {g : sg} (hP : iP g) : dM X d 110 [some (.inr (.inl (28, 0)))] g g (nI (wds g.2).length) := by
  intro M hI Q h
  exact cm_worlds hX d M (by omega) g.2 hP.1 hI.1  Q (fun M' F C => h M' (sM_F F) (iM_F hI F C))
theorem dc_cost {X : am_X} (hX : am_Cl X) {d : Nat} (hd : 11 ≤ d) {g : sg} (hP : iP g) (a1 : Int32) : dC X d 8 [some (.inr (.inl (0, 0))), some (.inl (a1))] g g (q_cost g.2 a1) := by
  intro M hI Q h
  exact cw_cost hX d M (by omega) g.2 hP.1 hI.1 a1 Q (fun M' F C => h M' (sC_F F) (iC_F hI F C))
theorem dm_cost {X : am_X} (hX : am_Cl X) {d : Nat} (hd : 11 ≤ d) {g : sg} (hP : iP g) (a1 : Int32) : dM X d 111 [some (.inr (.inl (28, 0))), some (.inl (a1))] g g (q_cost g.2 a1) := by
  intro M hI Q h
  exact cm_cost hX d M (by omega) g.2 hP.1 hI.1 a1 Q (fun M' F C => h M' (sM_F F) (iM_F hI F C))
theorem dc_gap {X : am_X} (hX : am_Cl X) {d : Nat} (hd : 11 ≤ d) {g : sg} (hP : iP g) (a1 : Int32) : dC X d 9 [some (.inr (.inl (0, 0))), some (.inl (a1))] g g (q_gap g.2 a1) := by
  intro M hI Q h
  exact cw_gap hX d M (by omega) g.2 hP.1 hI.1 a1 Q (fun M' F C => h M' (sC_F F) (iC_F hI F C))
theorem dm_gap {X : am_X} (hX : am_Cl X) {d : Nat} (hd : 11 ≤ d) {g : sg} (hP : iP g) (a1 : Int32) : dM X d 112 [some (.inr (.inl (28, 0))), some (.inl (a1))] g g (q_gap g.2 a1) := by
  intro M hI Q h
  exact cm_gap hX d M (by omega) g.2 hP.1 hI.1 a1 Q (fun M' F C => h M' (sM_F F) (iM_F hI F C))
theorem dc_tracks {X : am_X} (hX : am_Cl X) {d : Nat} (hd : 11 ≤ d) {g : sg} (hP : iP g) (a1 : Int32) : dC X d 10 [some (.inr (.inl (0, 0))), some (.inl (a1))] g g (q_tracks g.2 a1) := by
  intro M hI Q h
  exact cw_tracks hX d M (by omega) g.2 hP.1 hI.1 a1 Q (fun M' F C => h M' (sC_F F) (iC_F hI F C))
theorem dm_tracks {X : am_X} (hX : am_Cl X) {d : Nat} (hd : 11 ≤ d) {g : sg} (hP : iP g) (a1 : Int32) : dM X d 113 [some (.inr (.inl (28, 0))), some (.inl (a1))] g g (q_tracks g.2 a1) := by
  intro M hI Q h
  exact cm_tracks hX d M (by omega) g.2 hP.1 hI.1 a1 Q (fun M' F C => h M' (sM_F F) (iM_F hI F C))
theorem dc_track {X : am_X} (hX : am_Cl X) {d : Nat} (hd : 11 ≤ d) {g : sg} (hP : iP g) (a1 a2 a3 : Int32) : dC X d 11 [some (.inr (.inl (0, 0))), some (.inl (a1)), some (.inl (a2)), some (.inl (a3))] g g (q_track g.2 a1 a2 a3) := by
  intro M hI Q h
  exact cw_track hX d M (by omega) g.2 hP.1 hI.1 a1 a2 a3 Q (fun M' F C => h M' (sC_F F) (iC_F hI F C))
theorem dm_track {X : am_X} (hX : am_Cl X) {d : Nat} (hd : 11 ≤ d) {g : sg} (hP : iP g) (a1 a2 a3 : Int32) : dM X d 114 [some (.inr (.inl (28, 0))), some (.inl (a1)), some (.inl (a2)), some (.inl (a3)), none] g g (q_track g.2 a1 a2 a3) := by
  intro M hI Q h
  exact cm_track hX d M (by omega) g.2 hP.1 hI.1 a1 a2 a3 Q (fun M' F C => h M' (sM_F F) (iM_F hI F C))
theorem dc_account {X : am_X} (hX : am_Cl X) {d : Nat} (hd : 11 ≤ d) {g : sg} (hP : iP g) (a1 a2 a3 : Int32) : dC X d 12 [some (.inr (.inl (0, 0))), some (.inl (a1)), some (.inl (a2)), some (.inl (a3))] g g (q_account g.2 a1 a2 a3) := by
  intro M hI Q h
  exact cw_account hX d M (by omega) g.2 hP.1 hI.1 a1 a2 a3 Q (fun M' F C => h M' (sC_F F) (iC_F hI F C))
theorem dm_account {X : am_X} (hX : am_Cl X) {d : Nat} (hd : 11 ≤ d) {g : sg} (hP : iP g) (a1 a2 a3 : Int32) : dM X d 116 [some (.inr (.inl (28, 0))), some (.inl (a1)), some (.inl (a2)), some (.inl (a3))] g g (q_account g.2 a1 a2 a3) := by
  intro M hI Q h
  exact cm_account hX d M (by omega) g.2 hP.1 hI.1 a1 a2 a3 Q (fun M' F C => h M' (sM_F F) (iM_F hI F C))
theorem dc_foretell {X : am_X} (hX : am_Cl X) {d : Nat} (hd : 11 ≤ d) {g : sg} (hP : iP g) (a1 a2 a3 a4 : Int32) : dC X d 13 [some (.inr (.inl (0, 0))), some (.inl (a1)), some (.inl (a2)), some (.inl (a3)), some (.inl (a4)), none, none] g g (q_foretell g.2 a1 a2 a3 a4) := by
  intro M hI Q h
  exact cw_foretell hX d M (by omega) g.2 hP.1 hI.1 a1 a2 a3 a4 Q (fun M' F C => h M' (sC_F F) (iC_F hI F C))
theorem dm_foretell {X : am_X} (hX : am_Cl X) {d : Nat} (hd : 11 ≤ d) {g : sg} (hP : iP g) (a1 a2 a3 a4 : Int32) : dM X d 117 [some (.inr (.inl (28, 0))), some (.inl (a1)), some (.inl (a2)), some (.inl (a3)), some (.inl (a4))] g g (q_foretell g.2 a1 a2 a3 a4) := by
  intro M hI Q h
  exact cm_foretell hX d M (by omega) g.2 hP.1 hI.1 a1 a2 a3 a4 Q (fun M' F C => h M' (sM_F F) (iM_F hI F C))
theorem dc_ordered {X : am_X} (hX : am_Cl X) {d : Nat} (hd : 11 ≤ d) {g : sg} (hP : iP g) (a1 : Int32) : dC X d 14 [some (.inr (.inl (0, 0))), some (.inl (a1))] g g (q_ordered g.2 a1) := by
  intro M hI Q h
  exact cw_ordered hX d M (by omega) g.2 hP.1 hI.1 a1 Q (fun M' F C => h M' (sC_F F) (iC_F hI F C))
theorem dm_ordered {X : am_X} (hX : am_Cl X) {d : Nat} (hd : 11 ≤ d) {g : sg} (hP : iP g) (a1 : Int32) : dM X d 118 [some (.inr (.inl (28, 0))), some (.inl (a1))] g g (q_ordered g.2 a1) := by
  intro M hI Q h
  exact cm_ordered hX d M (by omega) g.2 hP.1 hI.1 a1 Q (fun M' F C => h M' (sM_F F) (iM_F hI F C))
theorem dc_name {X : am_X} (hX : am_Cl X) {d : Nat} (hd : 11 ≤ d) {g : sg} (hP : iP g) (a1 : Int32) : dC X d 15 [some (.inr (.inl (0, 0))), some (.inl (a1)), none] g g (q_name g.2 a1) := by
  intro M hI Q h
  exact cw_name hX d M (by omega) g.2 hP.1 hI.1 a1 Q (fun M' F C => h M' (sC_F F) (iC_F hI F C))
theorem dm_name {X : am_X} (hX : am_Cl X) {d : Nat} (hd : 11 ≤ d) {g : sg} (hP : iP g) (a1 : Int32) : dM X d 119 [some (.inr (.inl (28, 0))), some (.inl (a1)), none, none, none] g g (q_name g.2 a1) := by
  intro M hI Q h
  exact cm_name hX d M (by omega) g.2 hP.1 hI.1 a1 Q (fun M' F C => h M' (sM_F F) (iM_F hI F C))
theorem dc_sure {X : am_X} (hX : am_Cl X) {d : Nat} (hd : 11 ≤ d) {g : sg} (hP : iP g) (a1 a2 : Int32) : dC X d 16 [some (.inr (.inl (0, 0))), some (.inl (a1)), some (.inl (a2))] g g (q_sure g.2 a1 a2) := by
  intro M hI Q h
  exact cw_sure hX d M (by omega) g.2 hP.1 hI.1 a1 a2 Q (fun M' F C => h M' (sC_F F) (iC_F hI F C))
theorem dm_sure {X : am_X} (hX : am_Cl X) {d : Nat} (hd : 11 ≤ d) {g : sg} (hP : iP g) (a1 a2 : Int32) : dM X d 121 [some (.inr (.inl (28, 0))), some (.inl (a1)), some (.inl (a2))] g g (q_sure g.2 a1 a2) := by
  intro M hI Q h
  exact cm_sure hX d M (by omega) g.2 hP.1 hI.1 a1 a2 Q (fun M' F C => h M' (sM_F F) (iM_F hI F C))
theorem dc_alive {X : am_X} (hX : am_Cl X) {d : Nat} (hd : 11 ≤ d) {g : sg} (hP : iP g) (a1 : Int32) : dC X d 17 [some (.inr (.inl (0, 0))), some (.inl (a1))] g g (q_alive g.2 a1) := by
  intro M hI Q h
  exact cw_alive hX d M (by omega) g.2 hP.1 hI.1 a1 Q (fun M' F C => h M' (sC_F F) (iC_F hI F C))
theorem dm_alive {X : am_X} (hX : am_Cl X) {d : Nat} (hd : 11 ≤ d) {g : sg} (hP : iP g) (a1 : Int32) : dM X d 122 [some (.inr (.inl (28, 0))), some (.inl (a1)), none, none] g g (q_alive g.2 a1) := by
  intro M hI Q h
  exact cm_alive hX d M (by omega) g.2 hP.1 hI.1 a1 Q (fun M' F C => h M' (sM_F F) (iM_F hI F C))
theorem dc_path {X : am_X} (hX : am_Cl X) {d : Nat} (hd : 11 ≤ d) {g : sg} (hP : iP g) (a1 a2 : Int32) : dC X d 18 [some (.inr (.inl (0, 0))), some (.inl (a1)), some (.inl (a2)), none, none, none, none] g g (q_path g.2 a1 a2) := by
  intro M hI Q h
  exact cw_path hX d M (by omega) g.2 hP.1 hI.1 a1 a2 Q (fun M' F C => h M' (sC_F F) (iC_F hI F C))
theorem dm_path {X : am_X} (hX : am_Cl X) {d : Nat} (hd : 11 ≤ d) {g : sg} (hP : iP g) (a1 a2 : Int32) : dM X d 123 [some (.inr (.inl (28, 0))), some (.inl (a1)), some (.inl (a2)), none, none, none] g g (q_path g.2 a1 a2) := by
  intro M hI Q h
  exact cm_path hX d M (by omega) g.2 hP.1 hI.1 a1 a2 Q (fun M' F C => h M' (sM_F F) (iM_F hI F C))
theorem dc_apart {X : am_X} (hX : am_Cl X) {d : Nat} (hd : 11 ≤ d) {g : sg} (hP : iP g) (a1 a2 a3 : Int32) : dC X d 19 [some (.inr (.inl (0, 0))), some (.inl (a1)), some (.inl (a2)), some (.inl (a3))] g g (q_apart g.2 a1 a2 a3) := by
  intro M hI Q h
  exact cw_apart hX d M (by omega) g.2 hP.1 hI.1 a1 a2 a3 Q (fun M' F C => h M' (sC_F F) (iC_F hI F C))
theorem dm_apart {X : am_X} (hX : am_Cl X) {d : Nat} (hd : 11 ≤ d) {g : sg} (hP : iP g) (a1 a2 a3 : Int32) : dM X d 126 [some (.inr (.inl (28, 0))), some (.inl (a1)), some (.inl (a2)), some (.inl (a3))] g g (q_apart g.2 a1 a2 a3) := by
  intro M hI Q h
  exact cm_apartQ hX d M (by omega) g.2 hP.1 hI.1 a1 a2 a3 Q (fun M' F C => h M' (sM_F F) (iM_F hI F C))
theorem dc_near {X : am_X} (hX : am_Cl X) {d : Nat} (hd : 11 ≤ d) {g : sg} (hP : iP g) (a1 a2 a3 : Int32) : dC X d 20 [some (.inr (.inl (0, 0))), some (.inl (a1)), some (.inl (a2)), some (.inl (a3)), none, none, none] g g (q_near g.2 a1 a2 a3) := by
  intro M hI Q h
  exact cw_near hX d M (by omega) g.2 hP.1 hI.1 a1 a2 a3 Q (fun M' F C => h M' (sC_F F) (iC_F hI F C))
theorem dm_near {X : am_X} (hX : am_Cl X) {d : Nat} (hd : 11 ≤ d) {g : sg} (hP : iP g) (a1 a2 a3 : Int32) : dM X d 127 [some (.inr (.inl (28, 0))), some (.inl (a1)), some (.inl (a2)), some (.inl (a3)), none, none] g g (q_near g.2 a1 a2 a3) := by
  intro M hI Q h
  exact cm_near hX d M (by omega) g.2 hP.1 hI.1 a1 a2 a3 Q (fun M' F C => h M' (sM_F F) (iM_F hI F C))
theorem dc_pairs {X : am_X} (hX : am_Cl X) {d : Nat} (hd : 11 ≤ d) {g : sg} (hP : iP g) (a1 a2 : Int32) : dC X d 21 [some (.inr (.inl (0, 0))), some (.inl (a1)), some (.inl (a2))] g g (q_pairs g.2 (sg_W g) a1 a2) := by
  intro M hI Q h
  exact cw_pairs hX d M (by omega) g.2 hP.1 hI.1.1 (sg_W g) hP.2.1 hI.2.1 a1 a2 Q (fun M' F => h M' (sC_17 F) (iC_17 hI F))
theorem dm_pairs {X : am_X} (hX : am_Cl X) {d : Nat} (hd : 11 ≤ d) {g : sg} (hP : iP g) (a1 a2 : Int32) : dM X d 129 [some (.inr (.inl (28, 0))), some (.inl (a1)), some (.inl (a2))] g g (q_pairs g.2 (sg_W g) a1 a2) := by
  intro M hI Q h
  exact cm_pairs hX d M (by omega) g.2 hP.1 hI.1.1 (sg_W g) hP.2.1 hI.2.1 a1 a2 Q (fun M' F => h M' (sM_P F) (iM_P hI F))
theorem dc_level {X : am_X} (hX : am_Cl X) {d : Nat} (hd : 11 ≤ d) {g : sg} (hP : iP g) (a1 a2 a3 : Int32) : dC X d 22 [some (.inr (.inl (0, 0))), some (.inl (a1)), some (.inl (a2)), some (.inl (a3))] g g (q_level g.2 (sg_W g) a1 a2 a3) := by
  intro M hI Q h
  exact cw_level hX d M (by omega) g.2 hP.1 hI.1.1 (sg_W g) hP.2.1 hI.2.1 a1 a2 a3 Q (fun M' F => h M' (sC_17 F) (iC_17 hI F))
theorem dm_level {X : am_X} (hX : am_Cl X) {d : Nat} (hd : 11 ≤ d) {g : sg} (hP : iP g) (a1 a2 a3 : Int32) : dM X d 130 [some (.inr (.inl (28, 0))), some (.inl (a1)), some (.inl (a2)), some (.inl (a3)), none] g g (q_level g.2 (sg_W g) a1 a2 a3) := by
  intro M hI Q h
  exact cm_level hX d M (by omega) g.2 hP.1 hI.1.1 (sg_W g) hP.2.1 hI.2.1 a1 a2 a3 Q (fun M' F => h M' (sM_P F) (iM_P hI F))
theorem dc_count {X : am_X} (hX : am_Cl X) {d : Nat} (hd : 11 ≤ d) {g : sg} (hP : iP g) (a1 : Int32) : dC X d 24 [some (.inr (.inl (0, 0))), some (.inl (a1))] g g (q_count g.2 (sg_W g) (sg_q g) a1) := by
  intro M hI Q h
  exact cw_count hX d M (by omega) g.2 hP.1 hI.1 (sg_W g) (sg_q g) hI.2.1 hI.2.2.1 a1 Q (fun M' F C => h M' (sC_F F) (iC_F hI F C))
theorem dm_count {X : am_X} (hX : am_Cl X) {d : Nat} (hd : 11 ≤ d) {g : sg} (hP : iP g) (a1 : Int32) : dM X d 133 [some (.inr (.inl (28, 0))), some (.inl (a1)), none, none, none] g g (q_count g.2 (sg_W g) (sg_q g) a1) := by
  intro M hI Q h
  exact cm_count hX d M (by omega) g.2 hP.1 hI.1 (sg_W g) (sg_q g) hI.2.1 hI.2.2.1 a1 Q (fun M' F C => h M' (sM_F F) (iM_F hI F C))
/-- what holds at the head of the law's loop -/
def lw_J (S : Nat → Int32) (N : Nat) (M : am_M) (g : sg) : Prop := iP g ∧ iC M g ∧ iM M g ∧ am_len M 61 = N ∧ ∀ k, M.1 61 0 k = S k
theorem lw_J_on {S : Nat → Int32} {N : Nat} {M M1 M2 : am_M} {g g' : sg} (h : lw_J S N M g) (hP : iP g') (s1 : sC M M1) (c1 : iC M1 g') (s2 : sM M1 M2) (m2 : iM M2 g') : lw_J S N M2 g' := by
  refine ⟨hP, iC_sM c1 s2, m2, ?_, fun k => ?_⟩
  · rw [← h.2.2.2.1]; show (M2.1 61 1 0).toNatClampNeg = (M.1 61 1 0).toNatClampNeg; rw [s2.2 61 _ _ (by omega), s1 61 _ _ (by omega)]
  · rw [s2.2 61 _ _ (by omega), s1 61 _ _ (by omega)]; exact h.2.2.2.2 k
set_option maxRecDepth 20000 in
set_option maxHeartbeats 1000000 in
theorem lw_watcher {X : am_X} (hX : am_Cl X) {d : Nat} (hd : 12 ≤ d) {S : Nat → Int32} {N i : Nat} (hi : i + 5 ≤ N) {M : am_M} {g : sg} (hJ : lw_J S N M g) (Q : am_P) (next : ∀ M' g', lw_J S N M' g' → X d 137 667 [some (.inr (.inl (61, 0))), some (.inr (.inl (0, 0))), some (.inr (.inl (28, 0))), some (.inl (nI i))] [] M' Q) : X d 137 22 [some (.inr (.inl (61, 0))), some (.inr (.inl (0, 0))), some (.inr (.inl (28, 0))), some (.inl (nI i))] [] M Q := by
  obtain ⟨hP, hC, hM, hl, hS⟩ := id hJ
  refine am_go hX [667] 60 ?_
  refine am_cc (by omega) ?_
  refine (fun (z : X (d - 1) 0 0 [some (.inr (.inl (0, 0)))] [] M _) => z) ?_
  refine dc_watcher hX hP  M hC _ (fun M1 s1 c1 => ?_)
  have l1 : am_len M1 61 = N := by rw [← hl]; show (M1.1 61 1 0).toNatClampNeg = (M.1 61 1 0).toNatClampNeg; rw [s1 61 _ _ (by omega)]
  refine am_cc (by omega) ?_
  refine (fun (z : X (d - 1) 86 0 [some (.inr (.inl (28, 0)))] [] M1 _) => z) ?_
  refine dm_watcher hX hP  M1 (iM_sC hM s1) _ (fun M2 s2 m2 => ?_)
  exact ⟨fun _ => next M2 _ (lw_J_on hJ (iP_watcher hP ) s1 c1 s2 m2), fun q => absurd rfl q⟩
set_option maxRecDepth 20000 in
set_option maxHeartbeats 1000000 in
theorem lw_shift {X : am_X} (hX : am_Cl X) {d : Nat} (hd : 12 ≤ d) {S : Nat → Int32} {N i : Nat} (hi : i + 5 ≤ N) {M : am_M} {g : sg} (hJ : lw_J S N M g) (Q : am_P) (next : ∀ M' g', lw_J S N M' g' → X d 137 667 [some (.inr (.inl (61, 0))), some (.inr (.inl (0, 0))), some (.inr (.inl (28, 0))), some (.inl (nI i))] [] M' Q) : X d 137 29 [some (.inr (.inl (61, 0))), some (.inr (.inl (0, 0))), some (.inr (.inl (28, 0))), some (.inl (nI i))] [] M Q := by
  obtain ⟨hP, hC, hM, hl, hS⟩ := id hJ
  refine am_go hX [667] 60 ?_
  refine ⟨i + 1, by show i + 1 < am_len M 61; omega, nI_add i 1, i + 2, by show i + 2 < am_len M 61; omega, nI_add i 2, i + 3, by show i + 3 < am_len M 61; omega, nI_add i 3, am_cc (by omega) ?_⟩
  refine (fun (z : X (d - 1) 1 0 [some (.inr (.inl (0, 0))), some (.inl (M.1 61 0 (i + 1))), some (.inl (M.1 61 0 (i + 2))), some (.inl (M.1 61 0 (i + 3)))] [] M _) => z) ?_
  rw [hS (i + 1), hS (i + 2), hS (i + 3)]
  refine dc_shift hX (by omega) hP (S (i + 1)) (S (i + 2)) (S (i + 3)) M hC _ (fun M1 s1 c1 => ?_)
  have l1 : am_len M1 61 = N := by rw [← hl]; show (M1.1 61 1 0).toNatClampNeg = (M.1 61 1 0).toNatClampNeg; rw [s1 61 _ _ (by omega)]
  refine ⟨i + 1, by show i + 1 < am_len M1 61; omega, nI_add i 1, i + 2, by show i + 2 < am_len M1 61; omega, nI_add i 2, i + 3, by show i + 3 < am_len M1 61; omega, nI_add i 3, am_cc (by omega) ?_⟩
  refine (fun (z : X (d - 1) 87 0 [some (.inr (.inl (28, 0))), some (.inl (M1.1 61 0 (i + 1))), some (.inl (M1.1 61 0 (i + 2))), some (.inl (M1.1 61 0 (i + 3)))] [] M1 _) => z) ?_
  rw [(s1 61 0 (i + 1) (by omega)).trans (hS (i + 1)), (s1 61 0 (i + 2) (by omega)).trans (hS (i + 2)), (s1 61 0 (i + 3) (by omega)).trans (hS (i + 3))]
  refine dm_shift hX (by omega) hP (S (i + 1)) (S (i + 2)) (S (i + 3)) M1 (iM_sC hM s1) _ (fun M2 s2 m2 => ?_)
  exact ⟨fun _ => next M2 _ (lw_J_on hJ (iP_shift hP (S (i + 1)) (S (i + 2)) (S (i + 3))) s1 c1 s2 m2), fun q => absurd rfl q⟩
set_option maxRecDepth 20000 in
set_option maxHeartbeats 1000000 in
theorem lw_dot {X : am_X} (hX : am_Cl X) {d : Nat} (hd : 12 ≤ d) {S : Nat → Int32} {N i : Nat} (hi : i + 5 ≤ N) {M : am_M} {g : sg} (hJ : lw_J S N M g) (Q : am_P) (next : ∀ M' g', lw_J S N M' g' → X d 137 667 [some (.inr (.inl (61, 0))), some (.inr (.inl (0, 0))), some (.inr (.inl (28, 0))), some (.inl (nI i))] [] M' Q) : X d 137 66 [some (.inr (.inl (61, 0))), some (.inr (.inl (0, 0))), some (.inr (.inl (28, 0))), some (.inl (nI i))] [] M Q := by
  obtain ⟨hP, hC, hM, hl, hS⟩ := id hJ
  refine am_go hX [667] 60 ?_
  refine ⟨i + 1, by show i + 1 < am_len M 61; omega, nI_add i 1, i + 2, by show i + 2 < am_len M 61; omega, nI_add i 2, i + 3, by show i + 3 < am_len M 61; omega, nI_add i 3, am_cc (by omega) ?_⟩
  refine (fun (z : X (d - 1) 2 0 [some (.inr (.inl (0, 0))), some (.inl (M.1 61 0 (i + 1))), some (.inl (M.1 61 0 (i + 2))), some (.inl (M.1 61 0 (i + 3))), none] [] M _) => z) ?_
  rw [hS (i + 1), hS (i + 2), hS (i + 3)]
  refine dc_dot hX (by omega) hP (S (i + 1)) (S (i + 2)) (S (i + 3)) M hC _ (fun M1 s1 c1 => ?_)
  have l1 : am_len M1 61 = N := by rw [← hl]; show (M1.1 61 1 0).toNatClampNeg = (M.1 61 1 0).toNatClampNeg; rw [s1 61 _ _ (by omega)]
  refine ⟨i + 1, by show i + 1 < am_len M1 61; omega, nI_add i 1, i + 2, by show i + 2 < am_len M1 61; omega, nI_add i 2, i + 3, by show i + 3 < am_len M1 61; omega, nI_add i 3, am_cc (by omega) ?_⟩
  refine (fun (z : X (d - 1) 88 0 [some (.inr (.inl (28, 0))), some (.inl (M1.1 61 0 (i + 1))), some (.inl (M1.1 61 0 (i + 2))), some (.inl (M1.1 61 0 (i + 3)))] [] M1 _) => z) ?_
  rw [(s1 61 0 (i + 1) (by omega)).trans (hS (i + 1)), (s1 61 0 (i + 2) (by omega)).trans (hS (i + 2)), (s1 61 0 (i + 3) (by omega)).trans (hS (i + 3))]
  refine dm_dot hX (by omega) hP (S (i + 1)) (S (i + 2)) (S (i + 3)) M1 (iM_sC hM s1) _ (fun M2 s2 m2 => ?_)
  exact ⟨fun _ => next M2 _ (lw_J_on hJ (iP_dot hP (S (i + 1)) (S (i + 2)) (S (i + 3))) s1 c1 s2 m2), fun q => absurd rfl q⟩
set_option maxRecDepth 20000 in
set_option maxHeartbeats 1000000 in
theorem lw_scan {X : am_X} (hX : am_Cl X) {d : Nat} (hd : 12 ≤ d) {S : Nat → Int32} {N i : Nat} (hi : i + 5 ≤ N) {M : am_M} {g : sg} (hJ : lw_J S N M g) (Q : am_P) (next : ∀ M' g', lw_J S N M' g' → X d 137 667 [some (.inr (.inl (61, 0))), some (.inr (.inl (0, 0))), some (.inr (.inl (28, 0))), some (.inl (nI i))] [] M' Q) : X d 137 103 [some (.inr (.inl (61, 0))), some (.inr (.inl (0, 0))), some (.inr (.inl (28, 0))), some (.inl (nI i))] [] M Q := by
  obtain ⟨hP, hC, hM, hl, hS⟩ := id hJ
  refine am_go hX [667] 60 ?_
  refine ⟨i + 1, by show i + 1 < am_len M 61; omega, nI_add i 1, i + 2, by show i + 2 < am_len M 61; omega, nI_add i 2, am_cc (by omega) ?_⟩
  refine (fun (z : X (d - 1) 3 0 [some (.inr (.inl (0, 0))), some (.inl (M.1 61 0 (i + 1))), some (.inl (M.1 61 0 (i + 2)))] [] M _) => z) ?_
  rw [hS (i + 1), hS (i + 2)]
  refine dc_scan hX (by omega) hP (S (i + 1)) (S (i + 2)) M hC _ (fun M1 s1 c1 => ?_)
  have l1 : am_len M1 61 = N := by rw [← hl]; show (M1.1 61 1 0).toNatClampNeg = (M.1 61 1 0).toNatClampNeg; rw [s1 61 _ _ (by omega)]
  refine ⟨i + 1, by show i + 1 < am_len M1 61; omega, nI_add i 1, i + 2, by show i + 2 < am_len M1 61; omega, nI_add i 2, am_cc (by omega) ?_⟩
  refine (fun (z : X (d - 1) 89 0 [some (.inr (.inl (28, 0))), some (.inl (M1.1 61 0 (i + 1))), some (.inl (M1.1 61 0 (i + 2))), none] [] M1 _) => z) ?_
  rw [(s1 61 0 (i + 1) (by omega)).trans (hS (i + 1)), (s1 61 0 (i + 2) (by omega)).trans (hS (i + 2))]
  refine dm_scan hX (by omega) hP (S (i + 1)) (S (i + 2)) M1 (iM_sC hM s1) _ (fun M2 s2 m2 => ?_)
  exact ⟨fun _ => next M2 _ (lw_J_on hJ (iP_scan hP (S (i + 1)) (S (i + 2))) s1 c1 s2 m2), fun q => absurd rfl q⟩
set_option maxRecDepth 20000 in
set_option maxHeartbeats 1000000 in
theorem lw_drop {X : am_X} (hX : am_Cl X) {d : Nat} (hd : 12 ≤ d) {S : Nat → Int32} {N i : Nat} (hi : i + 5 ≤ N) {M : am_M} {g : sg} (hJ : lw_J S N M g) (Q : am_P) (next : ∀ M' g', lw_J S N M' g' → X d 137 667 [some (.inr (.inl (61, 0))), some (.inr (.inl (0, 0))), some (.inr (.inl (28, 0))), some (.inl (nI i))] [] M' Q) : X d 137 130 [some (.inr (.inl (61, 0))), some (.inr (.inl (0, 0))), some (.inr (.inl (28, 0))), some (.inl (nI i))] [] M Q := by
  obtain ⟨hP, hC, hM, hl, hS⟩ := id hJ
  refine am_go hX [667] 60 ?_
  refine ⟨i + 1, by show i + 1 < am_len M 61; omega, nI_add i 1, am_cc (by omega) ?_⟩
  refine (fun (z : X (d - 1) 4 0 [some (.inr (.inl (0, 0))), some (.inl (M.1 61 0 (i + 1)))] [] M _) => z) ?_
  rw [hS (i + 1)]
  refine dc_drop hX (by omega) hP (S (i + 1)) M hC _ (fun M1 s1 c1 => ?_)
  have l1 : am_len M1 61 = N := by rw [← hl]; show (M1.1 61 1 0).toNatClampNeg = (M.1 61 1 0).toNatClampNeg; rw [s1 61 _ _ (by omega)]
  refine ⟨i + 1, by show i + 1 < am_len M1 61; omega, nI_add i 1, am_cc (by omega) ?_⟩
  refine (fun (z : X (d - 1) 90 0 [some (.inr (.inl (28, 0))), some (.inl (M1.1 61 0 (i + 1))), none, none] [] M1 _) => z) ?_
  rw [(s1 61 0 (i + 1) (by omega)).trans (hS (i + 1))]
  refine dm_drop hX (by omega) hP (S (i + 1)) M1 (iM_sC hM s1) _ (fun M2 s2 m2 => ?_)
  exact ⟨fun _ => next M2 _ (lw_J_on hJ (iP_drop hP (S (i + 1))) s1 c1 s2 m2), fun q => absurd rfl q⟩
set_option maxRecDepth 20000 in
set_option maxHeartbeats 1000000 in
theorem lw_kind {X : am_X} (hX : am_Cl X) {d : Nat} (hd : 12 ≤ d) {S : Nat → Int32} {N i : Nat} (hi : i + 5 ≤ N) {M : am_M} {g : sg} (hJ : lw_J S N M g) (Q : am_P) (next : ∀ M' g', lw_J S N M' g' → X d 137 667 [some (.inr (.inl (61, 0))), some (.inr (.inl (0, 0))), some (.inr (.inl (28, 0))), some (.inl (nI i))] [] M' Q) : X d 137 147 [some (.inr (.inl (61, 0))), some (.inr (.inl (0, 0))), some (.inr (.inl (28, 0))), some (.inl (nI i))] [] M Q := by
  obtain ⟨hP, hC, hM, hl, hS⟩ := id hJ
  refine am_go hX [667] 60 ?_
  refine ⟨i + 1, by show i + 1 < am_len M 61; omega, nI_add i 1, i + 2, by show i + 2 < am_len M 61; omega, nI_add i 2, am_cc (by omega) ?_⟩
  refine (fun (z : X (d - 1) 5 0 [some (.inr (.inl (0, 0))), some (.inl (M.1 61 0 (i + 1))), some (.inl (M.1 61 0 (i + 2))), none] [] M _) => z) ?_
  rw [hS (i + 1), hS (i + 2)]
  refine dc_kind hX (by omega) (S (i + 1)) (S (i + 2)) M hC _ (fun M1 s1 c1 => ?_)
  have l1 : am_len M1 61 = N := by rw [← hl]; show (M1.1 61 1 0).toNatClampNeg = (M.1 61 1 0).toNatClampNeg; rw [s1 61 _ _ (by omega)]
  refine ⟨i + 1, by show i + 1 < am_len M1 61; omega, nI_add i 1, i + 2, by show i + 2 < am_len M1 61; omega, nI_add i 2, am_cc (by omega) ?_⟩
  refine (fun (z : X (d - 1) 91 0 [some (.inr (.inl (28, 0))), some (.inl (M1.1 61 0 (i + 1))), some (.inl (M1.1 61 0 (i + 2))), none] [] M1 _) => z) ?_
  rw [(s1 61 0 (i + 1) (by omega)).trans (hS (i + 1)), (s1 61 0 (i + 2) (by omega)).trans (hS (i + 2))]
  refine dm_kind hX (by omega) (S (i + 1)) (S (i + 2)) M1 (iM_sC hM s1) _ (fun M2 s2 m2 => ?_)
  exact ⟨fun _ => next M2 _ (lw_J_on hJ (iP_kind hP (S (i + 1)) (S (i + 2))) s1 c1 s2 m2), fun q => absurd rfl q⟩
set_option maxRecDepth 20000 in
set_option maxHeartbeats 1000000 in
theorem lw_rule {X : am_X} (hX : am_Cl X) {d : Nat} (hd : 12 ≤ d) {S : Nat → Int32} {N i : Nat} (hi : i + 5 ≤ N) {M : am_M} {g : sg} (hJ : lw_J S N M g) (Q : am_P) (next : ∀ M' g', lw_J S N M' g' → X d 137 667 [some (.inr (.inl (61, 0))), some (.inr (.inl (0, 0))), some (.inr (.inl (28, 0))), some (.inl (nI i))] [] M' Q) : X d 137 174 [some (.inr (.inl (61, 0))), some (.inr (.inl (0, 0))), some (.inr (.inl (28, 0))), some (.inl (nI i))] [] M Q := by
  obtain ⟨hP, hC, hM, hl, hS⟩ := id hJ
  refine am_go hX [667] 60 ?_
  refine ⟨i + 1, by show i + 1 < am_len M 61; omega, nI_add i 1, i + 2, by show i + 2 < am_len M 61; omega, nI_add i 2, am_cc (by omega) ?_⟩
  refine (fun (z : X (d - 1) 6 0 [some (.inr (.inl (0, 0))), some (.inl (M.1 61 0 (i + 1))), some (.inl (M.1 61 0 (i + 2))), none] [] M _) => z) ?_
  rw [hS (i + 1), hS (i + 2)]
  refine dc_rule hX (by omega) (S (i + 1)) (S (i + 2)) M hC _ (fun M1 s1 c1 => ?_)
  have l1 : am_len M1 61 = N := by rw [← hl]; show (M1.1 61 1 0).toNatClampNeg = (M.1 61 1 0).toNatClampNeg; rw [s1 61 _ _ (by omega)]
  refine ⟨i + 1, by show i + 1 < am_len M1 61; omega, nI_add i 1, i + 2, by show i + 2 < am_len M1 61; omega, nI_add i 2, am_cc (by omega) ?_⟩
  refine (fun (z : X (d - 1) 92 0 [some (.inr (.inl (28, 0))), some (.inl (M1.1 61 0 (i + 1))), some (.inl (M1.1 61 0 (i + 2))), none] [] M1 _) => z) ?_
  rw [(s1 61 0 (i + 1) (by omega)).trans (hS (i + 1)), (s1 61 0 (i + 2) (by omega)).trans (hS (i + 2))]
  refine dm_rule hX (by omega) (S (i + 1)) (S (i + 2)) M1 (iM_sC hM s1) _ (fun M2 s2 m2 => ?_)
  exact ⟨fun _ => next M2 _ (lw_J_on hJ (iP_rule hP (S (i + 1)) (S (i + 2))) s1 c1 s2 m2), fun q => absurd rfl q⟩
set_option maxRecDepth 20000 in
set_option maxHeartbeats 1000000 in
theorem lw_worlds {X : am_X} (hX : am_Cl X) {d : Nat} (hd : 12 ≤ d) {S : Nat → Int32} {N i : Nat} (hi : i + 5 ≤ N) {M : am_M} {g : sg} (hJ : lw_J S N M g) (Q : am_P) (next : ∀ M' g', lw_J S N M' g' → X d 137 667 [some (.inr (.inl (61, 0))), some (.inr (.inl (0, 0))), some (.inr (.inl (28, 0))), some (.inl (nI i))] [] M' Q) : X d 137 201 [some (.inr (.inl (61, 0))), some (.inr (.inl (0, 0))), some (.inr (.inl (28, 0))), some (.inl (nI i))] [] M Q := by
  obtain ⟨hP, hC, hM, hl, hS⟩ := id hJ
  refine am_go hX [667] 60 ?_
  refine am_cc (by omega) ?_
  refine (fun (z : X (d - 1) 7 0 [some (.inr (.inl (0, 0)))] [] M _) => z) ?_
  refine dc_worlds hX (by omega) hP  M hC _ (fun M1 s1 c1 => ?_)
  have l1 : am_len M1 61 = N := by rw [← hl]; show (M1.1 61 1 0).toNatClampNeg = (M.1 61 1 0).toNatClampNeg; rw [s1 61 _ _ (by omega)]
  refine am_cc (by omega) ?_
  refine (fun (z : X (d - 1) 110 0 [some (.inr (.inl (28, 0)))] [] M1 _) => z) ?_
  refine dm_worlds hX (by omega) hP  M1 (iM_sC hM s1) _ (fun M2 s2 m2 => ?_)
  exact ⟨fun _ => next M2 _ (lw_J_on hJ hP s1 c1 s2 m2), fun q => absurd rfl q⟩
set_option maxRecDepth 20000 in
set_option maxHeartbeats 1000000 in
theorem lw_cost {X : am_X} (hX : am_Cl X) {d : Nat} (hd : 12 ≤ d) {S : Nat → Int32} {N i : Nat} (hi : i + 5 ≤ N) {M : am_M} {g : sg} (hJ : lw_J S N M g) (Q : am_P) (next : ∀ M' g', lw_J S N M' g' → X d 137 667 [some (.inr (.inl (61, 0))), some (.inr (.inl (0, 0))), some (.inr (.inl (28, 0))), some (.inl (nI i))] [] M' Q) : X d 137 208 [some (.inr (.inl (61, 0))), some (.inr (.inl (0, 0))), some (.inr (.inl (28, 0))), some (.inl (nI i))] [] M Q := by
  obtain ⟨hP, hC, hM, hl, hS⟩ := id hJ
  refine am_go hX [667] 60 ?_
  refine ⟨i + 1, by show i + 1 < am_len M 61; omega, nI_add i 1, am_cc (by omega) ?_⟩
  refine (fun (z : X (d - 1) 8 0 [some (.inr (.inl (0, 0))), some (.inl (M.1 61 0 (i + 1)))] [] M _) => z) ?_
  rw [hS (i + 1)]
  refine dc_cost hX (by omega) hP (S (i + 1)) M hC _ (fun M1 s1 c1 => ?_)
  have l1 : am_len M1 61 = N := by rw [← hl]; show (M1.1 61 1 0).toNatClampNeg = (M.1 61 1 0).toNatClampNeg; rw [s1 61 _ _ (by omega)]
  refine ⟨i + 1, by show i + 1 < am_len M1 61; omega, nI_add i 1, am_cc (by omega) ?_⟩
  refine (fun (z : X (d - 1) 111 0 [some (.inr (.inl (28, 0))), some (.inl (M1.1 61 0 (i + 1)))] [] M1 _) => z) ?_
  rw [(s1 61 0 (i + 1) (by omega)).trans (hS (i + 1))]
  refine dm_cost hX (by omega) hP (S (i + 1)) M1 (iM_sC hM s1) _ (fun M2 s2 m2 => ?_)
  exact ⟨fun _ => next M2 _ (lw_J_on hJ hP s1 c1 s2 m2), fun q => absurd rfl q⟩
set_option maxRecDepth 20000 in
set_option maxHeartbeats 1000000 in
theorem lw_gap {X : am_X} (hX : am_Cl X) {d : Nat} (hd : 12 ≤ d) {S : Nat → Int32} {N i : Nat} (hi : i + 5 ≤ N) {M : am_M} {g : sg} (hJ : lw_J S N M g) (Q : am_P) (next : ∀ M' g', lw_J S N M' g' → X d 137 667 [some (.inr (.inl (61, 0))), some (.inr (.inl (0, 0))), some (.inr (.inl (28, 0))), some (.inl (nI i))] [] M' Q) : X d 137 225 [some (.inr (.inl (61, 0))), some (.inr (.inl (0, 0))), some (.inr (.inl (28, 0))), some (.inl (nI i))] [] M Q := by
  obtain ⟨hP, hC, hM, hl, hS⟩ := id hJ
  refine am_go hX [667] 60 ?_
  refine ⟨i + 1, by show i + 1 < am_len M 61; omega, nI_add i 1, am_cc (by omega) ?_⟩
  refine (fun (z : X (d - 1) 9 0 [some (.inr (.inl (0, 0))), some (.inl (M.1 61 0 (i + 1)))] [] M _) => z) ?_
  rw [hS (i + 1)]
  refine dc_gap hX (by omega) hP (S (i + 1)) M hC _ (fun M1 s1 c1 => ?_)
  have l1 : am_len M1 61 = N := by rw [← hl]; show (M1.1 61 1 0).toNatClampNeg = (M.1 61 1 0).toNatClampNeg; rw [s1 61 _ _ (by omega)]
  refine ⟨i + 1, by show i + 1 < am_len M1 61; omega, nI_add i 1, am_cc (by omega) ?_⟩
  refine (fun (z : X (d - 1) 112 0 [some (.inr (.inl (28, 0))), some (.inl (M1.1 61 0 (i + 1)))] [] M1 _) => z) ?_
  rw [(s1 61 0 (i + 1) (by omega)).trans (hS (i + 1))]
  refine dm_gap hX (by omega) hP (S (i + 1)) M1 (iM_sC hM s1) _ (fun M2 s2 m2 => ?_)
  exact ⟨fun _ => next M2 _ (lw_J_on hJ hP s1 c1 s2 m2), fun q => absurd rfl q⟩
set_option maxRecDepth 20000 in
set_option maxHeartbeats 1000000 in
theorem lw_tracks {X : am_X} (hX : am_Cl X) {d : Nat} (hd : 12 ≤ d) {S : Nat → Int32} {N i : Nat} (hi : i + 5 ≤ N) {M : am_M} {g : sg} (hJ : lw_J S N M g) (Q : am_P) (next : ∀ M' g', lw_J S N M' g' → X d 137 667 [some (.inr (.inl (61, 0))), some (.inr (.inl (0, 0))), some (.inr (.inl (28, 0))), some (.inl (nI i))] [] M' Q) : X d 137 242 [some (.inr (.inl (61, 0))), some (.inr (.inl (0, 0))), some (.inr (.inl (28, 0))), some (.inl (nI i))] [] M Q := by
  obtain ⟨hP, hC, hM, hl, hS⟩ := id hJ
  refine am_go hX [667] 60 ?_
  refine ⟨i + 1, by show i + 1 < am_len M 61; omega, nI_add i 1, am_cc (by omega) ?_⟩
  refine (fun (z : X (d - 1) 10 0 [some (.inr (.inl (0, 0))), some (.inl (M.1 61 0 (i + 1)))] [] M _) => z) ?_
  rw [hS (i + 1)]
  refine dc_tracks hX (by omega) hP (S (i + 1)) M hC _ (fun M1 s1 c1 => ?_)
  have l1 : am_len M1 61 = N := by rw [← hl]; show (M1.1 61 1 0).toNatClampNeg = (M.1 61 1 0).toNatClampNeg; rw [s1 61 _ _ (by omega)]
  refine ⟨i + 1, by show i + 1 < am_len M1 61; omega, nI_add i 1, am_cc (by omega) ?_⟩
  refine (fun (z : X (d - 1) 113 0 [some (.inr (.inl (28, 0))), some (.inl (M1.1 61 0 (i + 1)))] [] M1 _) => z) ?_
  rw [(s1 61 0 (i + 1) (by omega)).trans (hS (i + 1))]
  refine dm_tracks hX (by omega) hP (S (i + 1)) M1 (iM_sC hM s1) _ (fun M2 s2 m2 => ?_)
  exact ⟨fun _ => next M2 _ (lw_J_on hJ hP s1 c1 s2 m2), fun q => absurd rfl q⟩
set_option maxRecDepth 20000 in
set_option maxHeartbeats 1000000 in
theorem lw_track {X : am_X} (hX : am_Cl X) {d : Nat} (hd : 12 ≤ d) {S : Nat → Int32} {N i : Nat} (hi : i + 5 ≤ N) {M : am_M} {g : sg} (hJ : lw_J S N M g) (Q : am_P) (next : ∀ M' g', lw_J S N M' g' → X d 137 667 [some (.inr (.inl (61, 0))), some (.inr (.inl (0, 0))), some (.inr (.inl (28, 0))), some (.inl (nI i))] [] M' Q) : X d 137 259 [some (.inr (.inl (61, 0))), some (.inr (.inl (0, 0))), some (.inr (.inl (28, 0))), some (.inl (nI i))] [] M Q := by
  obtain ⟨hP, hC, hM, hl, hS⟩ := id hJ
  refine am_go hX [667] 60 ?_
  refine ⟨i + 1, by show i + 1 < am_len M 61; omega, nI_add i 1, i + 2, by show i + 2 < am_len M 61; omega, nI_add i 2, i + 3, by show i + 3 < am_len M 61; omega, nI_add i 3, am_cc (by omega) ?_⟩
  refine (fun (z : X (d - 1) 11 0 [some (.inr (.inl (0, 0))), some (.inl (M.1 61 0 (i + 1))), some (.inl (M.1 61 0 (i + 2))), some (.inl (M.1 61 0 (i + 3)))] [] M _) => z) ?_
  rw [hS (i + 1), hS (i + 2), hS (i + 3)]
  refine dc_track hX (by omega) hP (S (i + 1)) (S (i + 2)) (S (i + 3)) M hC _ (fun M1 s1 c1 => ?_)
  have l1 : am_len M1 61 = N := by rw [← hl]; show (M1.1 61 1 0).toNatClampNeg = (M.1 61 1 0).toNatClampNeg; rw [s1 61 _ _ (by omega)]
  refine ⟨i + 1, by show i + 1 < am_len M1 61; omega, nI_add i 1, i + 2, by show i + 2 < am_len M1 61; omega, nI_add i 2, i + 3, by show i + 3 < am_len M1 61; omega, nI_add i 3, am_cc (by omega) ?_⟩
  refine (fun (z : X (d - 1) 114 0 [some (.inr (.inl (28, 0))), some (.inl (M1.1 61 0 (i + 1))), some (.inl (M1.1 61 0 (i + 2))), some (.inl (M1.1 61 0 (i + 3))), none] [] M1 _) => z) ?_
  rw [(s1 61 0 (i + 1) (by omega)).trans (hS (i + 1)), (s1 61 0 (i + 2) (by omega)).trans (hS (i + 2)), (s1 61 0 (i + 3) (by omega)).trans (hS (i + 3))]
  refine dm_track hX (by omega) hP (S (i + 1)) (S (i + 2)) (S (i + 3)) M1 (iM_sC hM s1) _ (fun M2 s2 m2 => ?_)
  exact ⟨fun _ => next M2 _ (lw_J_on hJ hP s1 c1 s2 m2), fun q => absurd rfl q⟩
set_option maxRecDepth 20000 in
set_option maxHeartbeats 1000000 in
theorem lw_account {X : am_X} (hX : am_Cl X) {d : Nat} (hd : 12 ≤ d) {S : Nat → Int32} {N i : Nat} (hi : i + 5 ≤ N) {M : am_M} {g : sg} (hJ : lw_J S N M g) (Q : am_P) (next : ∀ M' g', lw_J S N M' g' → X d 137 667 [some (.inr (.inl (61, 0))), some (.inr (.inl (0, 0))), some (.inr (.inl (28, 0))), some (.inl (nI i))] [] M' Q) : X d 137 296 [some (.inr (.inl (61, 0))), some (.inr (.inl (0, 0))), some (.inr (.inl (28, 0))), some (.inl (nI i))] [] M Q := by
  obtain ⟨hP, hC, hM, hl, hS⟩ := id hJ
  refine am_go hX [667] 60 ?_
  refine ⟨i + 1, by show i + 1 < am_len M 61; omega, nI_add i 1, i + 2, by show i + 2 < am_len M 61; omega, nI_add i 2, i + 3, by show i + 3 < am_len M 61; omega, nI_add i 3, am_cc (by omega) ?_⟩
  refine (fun (z : X (d - 1) 12 0 [some (.inr (.inl (0, 0))), some (.inl (M.1 61 0 (i + 1))), some (.inl (M.1 61 0 (i + 2))), some (.inl (M.1 61 0 (i + 3)))] [] M _) => z) ?_
  rw [hS (i + 1), hS (i + 2), hS (i + 3)]
  refine dc_account hX (by omega) hP (S (i + 1)) (S (i + 2)) (S (i + 3)) M hC _ (fun M1 s1 c1 => ?_)
  have l1 : am_len M1 61 = N := by rw [← hl]; show (M1.1 61 1 0).toNatClampNeg = (M.1 61 1 0).toNatClampNeg; rw [s1 61 _ _ (by omega)]
  refine ⟨i + 1, by show i + 1 < am_len M1 61; omega, nI_add i 1, i + 2, by show i + 2 < am_len M1 61; omega, nI_add i 2, i + 3, by show i + 3 < am_len M1 61; omega, nI_add i 3, am_cc (by omega) ?_⟩
  refine (fun (z : X (d - 1) 116 0 [some (.inr (.inl (28, 0))), some (.inl (M1.1 61 0 (i + 1))), some (.inl (M1.1 61 0 (i + 2))), some (.inl (M1.1 61 0 (i + 3)))] [] M1 _) => z) ?_
  rw [(s1 61 0 (i + 1) (by omega)).trans (hS (i + 1)), (s1 61 0 (i + 2) (by omega)).trans (hS (i + 2)), (s1 61 0 (i + 3) (by omega)).trans (hS (i + 3))]
  refine dm_account hX (by omega) hP (S (i + 1)) (S (i + 2)) (S (i + 3)) M1 (iM_sC hM s1) _ (fun M2 s2 m2 => ?_)
  exact ⟨fun _ => next M2 _ (lw_J_on hJ hP s1 c1 s2 m2), fun q => absurd rfl q⟩
set_option maxRecDepth 20000 in
set_option maxHeartbeats 1000000 in
theorem lw_foretell {X : am_X} (hX : am_Cl X) {d : Nat} (hd : 12 ≤ d) {S : Nat → Int32} {N i : Nat} (hi : i + 5 ≤ N) {M : am_M} {g : sg} (hJ : lw_J S N M g) (Q : am_P) (next : ∀ M' g', lw_J S N M' g' → X d 137 667 [some (.inr (.inl (61, 0))), some (.inr (.inl (0, 0))), some (.inr (.inl (28, 0))), some (.inl (nI i))] [] M' Q) : X d 137 333 [some (.inr (.inl (61, 0))), some (.inr (.inl (0, 0))), some (.inr (.inl (28, 0))), some (.inl (nI i))] [] M Q := by
  obtain ⟨hP, hC, hM, hl, hS⟩ := id hJ
  refine am_go hX [667] 60 ?_
  refine ⟨i + 1, by show i + 1 < am_len M 61; omega, nI_add i 1, i + 2, by show i + 2 < am_len M 61; omega, nI_add i 2, i + 3, by show i + 3 < am_len M 61; omega, nI_add i 3, i + 4, by show i + 4 < am_len M 61; omega, nI_add i 4, am_cc (by omega) ?_⟩
  refine (fun (z : X (d - 1) 13 0 [some (.inr (.inl (0, 0))), some (.inl (M.1 61 0 (i + 1))), some (.inl (M.1 61 0 (i + 2))), some (.inl (M.1 61 0 (i + 3))), some (.inl (M.1 61 0 (i + 4))), none, none] [] M _) => z) ?_
  rw [hS (i + 1), hS (i + 2), hS (i + 3), hS (i + 4)]
  refine dc_foretell hX (by omega) hP (S (i + 1)) (S (i + 2)) (S (i + 3)) (S (i + 4)) M hC _ (fun M1 s1 c1 => ?_)
  have l1 : am_len M1 61 = N := by rw [← hl]; show (M1.1 61 1 0).toNatClampNeg = (M.1 61 1 0).toNatClampNeg; rw [s1 61 _ _ (by omega)]
  refine ⟨i + 1, by show i + 1 < am_len M1 61; omega, nI_add i 1, i + 2, by show i + 2 < am_len M1 61; omega, nI_add i 2, i + 3, by show i + 3 < am_len M1 61; omega, nI_add i 3, i + 4, by show i + 4 < am_len M1 61; omega, nI_add i 4, am_cc (by omega) ?_⟩
  refine (fun (z : X (d - 1) 117 0 [some (.inr (.inl (28, 0))), some (.inl (M1.1 61 0 (i + 1))), some (.inl (M1.1 61 0 (i + 2))), some (.inl (M1.1 61 0 (i + 3))), some (.inl (M1.1 61 0 (i + 4)))] [] M1 _) => z) ?_
  rw [(s1 61 0 (i + 1) (by omega)).trans (hS (i + 1)), (s1 61 0 (i + 2) (by omega)).trans (hS (i + 2)), (s1 61 0 (i + 3) (by omega)).trans (hS (i + 3)), (s1 61 0 (i + 4) (by omega)).trans (hS (i + 4))]
  refine dm_foretell hX (by omega) hP (S (i + 1)) (S (i + 2)) (S (i + 3)) (S (i + 4)) M1 (iM_sC hM s1) _ (fun M2 s2 m2 => ?_)
  exact ⟨fun _ => next M2 _ (lw_J_on hJ hP s1 c1 s2 m2), fun q => absurd rfl q⟩
set_option maxRecDepth 20000 in
set_option maxHeartbeats 1000000 in
theorem lw_ordered {X : am_X} (hX : am_Cl X) {d : Nat} (hd : 12 ≤ d) {S : Nat → Int32} {N i : Nat} (hi : i + 5 ≤ N) {M : am_M} {g : sg} (hJ : lw_J S N M g) (Q : am_P) (next : ∀ M' g', lw_J S N M' g' → X d 137 667 [some (.inr (.inl (61, 0))), some (.inr (.inl (0, 0))), some (.inr (.inl (28, 0))), some (.inl (nI i))] [] M' Q) : X d 137 380 [some (.inr (.inl (61, 0))), some (.inr (.inl (0, 0))), some (.inr (.inl (28, 0))), some (.inl (nI i))] [] M Q := by
  obtain ⟨hP, hC, hM, hl, hS⟩ := id hJ
  refine am_go hX [667] 60 ?_
  refine ⟨i + 1, by show i + 1 < am_len M 61; omega, nI_add i 1, am_cc (by omega) ?_⟩
  refine (fun (z : X (d - 1) 14 0 [some (.inr (.inl (0, 0))), some (.inl (M.1 61 0 (i + 1)))] [] M _) => z) ?_
  rw [hS (i + 1)]
  refine dc_ordered hX (by omega) hP (S (i + 1)) M hC _ (fun M1 s1 c1 => ?_)
  have l1 : am_len M1 61 = N := by rw [← hl]; show (M1.1 61 1 0).toNatClampNeg = (M.1 61 1 0).toNatClampNeg; rw [s1 61 _ _ (by omega)]
  refine ⟨i + 1, by show i + 1 < am_len M1 61; omega, nI_add i 1, am_cc (by omega) ?_⟩
  refine (fun (z : X (d - 1) 118 0 [some (.inr (.inl (28, 0))), some (.inl (M1.1 61 0 (i + 1)))] [] M1 _) => z) ?_
  rw [(s1 61 0 (i + 1) (by omega)).trans (hS (i + 1))]
  refine dm_ordered hX (by omega) hP (S (i + 1)) M1 (iM_sC hM s1) _ (fun M2 s2 m2 => ?_)
  exact ⟨fun _ => next M2 _ (lw_J_on hJ hP s1 c1 s2 m2), fun q => absurd rfl q⟩
set_option maxRecDepth 20000 in
set_option maxHeartbeats 1000000 in
theorem lw_name {X : am_X} (hX : am_Cl X) {d : Nat} (hd : 12 ≤ d) {S : Nat → Int32} {N i : Nat} (hi : i + 5 ≤ N) {M : am_M} {g : sg} (hJ : lw_J S N M g) (Q : am_P) (next : ∀ M' g', lw_J S N M' g' → X d 137 667 [some (.inr (.inl (61, 0))), some (.inr (.inl (0, 0))), some (.inr (.inl (28, 0))), some (.inl (nI i))] [] M' Q) : X d 137 397 [some (.inr (.inl (61, 0))), some (.inr (.inl (0, 0))), some (.inr (.inl (28, 0))), some (.inl (nI i))] [] M Q := by
  obtain ⟨hP, hC, hM, hl, hS⟩ := id hJ
  refine am_go hX [667] 60 ?_
  refine ⟨i + 1, by show i + 1 < am_len M 61; omega, nI_add i 1, am_cc (by omega) ?_⟩
  refine (fun (z : X (d - 1) 15 0 [some (.inr (.inl (0, 0))), some (.inl (M.1 61 0 (i + 1))), none] [] M _) => z) ?_
  rw [hS (i + 1)]
  refine dc_name hX (by omega) hP (S (i + 1)) M hC _ (fun M1 s1 c1 => ?_)
  have l1 : am_len M1 61 = N := by rw [← hl]; show (M1.1 61 1 0).toNatClampNeg = (M.1 61 1 0).toNatClampNeg; rw [s1 61 _ _ (by omega)]
  refine ⟨i + 1, by show i + 1 < am_len M1 61; omega, nI_add i 1, am_cc (by omega) ?_⟩
  refine (fun (z : X (d - 1) 119 0 [some (.inr (.inl (28, 0))), some (.inl (M1.1 61 0 (i + 1))), none, none, none] [] M1 _) => z) ?_
  rw [(s1 61 0 (i + 1) (by omega)).trans (hS (i + 1))]
  refine dm_name hX (by omega) hP (S (i + 1)) M1 (iM_sC hM s1) _ (fun M2 s2 m2 => ?_)
  exact ⟨fun _ => next M2 _ (lw_J_on hJ hP s1 c1 s2 m2), fun q => absurd rfl q⟩
set_option maxRecDepth 20000 in
set_option maxHeartbeats 1000000 in
theorem lw_sure {X : am_X} (hX : am_Cl X) {d : Nat} (hd : 12 ≤ d) {S : Nat → Int32} {N i : Nat} (hi : i + 5 ≤ N) {M : am_M} {g : sg} (hJ : lw_J S N M g) (Q : am_P) (next : ∀ M' g', lw_J S N M' g' → X d 137 667 [some (.inr (.inl (61, 0))), some (.inr (.inl (0, 0))), some (.inr (.inl (28, 0))), some (.inl (nI i))] [] M' Q) : X d 137 414 [some (.inr (.inl (61, 0))), some (.inr (.inl (0, 0))), some (.inr (.inl (28, 0))), some (.inl (nI i))] [] M Q := by
  obtain ⟨hP, hC, hM, hl, hS⟩ := id hJ
  refine am_go hX [667] 60 ?_
  refine ⟨i + 1, by show i + 1 < am_len M 61; omega, nI_add i 1, i + 2, by show i + 2 < am_len M 61; omega, nI_add i 2, am_cc (by omega) ?_⟩
  refine (fun (z : X (d - 1) 16 0 [some (.inr (.inl (0, 0))), some (.inl (M.1 61 0 (i + 1))), some (.inl (M.1 61 0 (i + 2)))] [] M _) => z) ?_
  rw [hS (i + 1), hS (i + 2)]
  refine dc_sure hX (by omega) hP (S (i + 1)) (S (i + 2)) M hC _ (fun M1 s1 c1 => ?_)
  have l1 : am_len M1 61 = N := by rw [← hl]; show (M1.1 61 1 0).toNatClampNeg = (M.1 61 1 0).toNatClampNeg; rw [s1 61 _ _ (by omega)]
  refine ⟨i + 1, by show i + 1 < am_len M1 61; omega, nI_add i 1, i + 2, by show i + 2 < am_len M1 61; omega, nI_add i 2, am_cc (by omega) ?_⟩
  refine (fun (z : X (d - 1) 121 0 [some (.inr (.inl (28, 0))), some (.inl (M1.1 61 0 (i + 1))), some (.inl (M1.1 61 0 (i + 2)))] [] M1 _) => z) ?_
  rw [(s1 61 0 (i + 1) (by omega)).trans (hS (i + 1)), (s1 61 0 (i + 2) (by omega)).trans (hS (i + 2))]
  refine dm_sure hX (by omega) hP (S (i + 1)) (S (i + 2)) M1 (iM_sC hM s1) _ (fun M2 s2 m2 => ?_)
  exact ⟨fun _ => next M2 _ (lw_J_on hJ hP s1 c1 s2 m2), fun q => absurd rfl q⟩
set_option maxRecDepth 20000 in
set_option maxHeartbeats 1000000 in
theorem lw_alive {X : am_X} (hX : am_Cl X) {d : Nat} (hd : 12 ≤ d) {S : Nat → Int32} {N i : Nat} (hi : i + 5 ≤ N) {M : am_M} {g : sg} (hJ : lw_J S N M g) (Q : am_P) (next : ∀ M' g', lw_J S N M' g' → X d 137 667 [some (.inr (.inl (61, 0))), some (.inr (.inl (0, 0))), some (.inr (.inl (28, 0))), some (.inl (nI i))] [] M' Q) : X d 137 441 [some (.inr (.inl (61, 0))), some (.inr (.inl (0, 0))), some (.inr (.inl (28, 0))), some (.inl (nI i))] [] M Q := by
  obtain ⟨hP, hC, hM, hl, hS⟩ := id hJ
  refine am_go hX [667] 60 ?_
  refine ⟨i + 1, by show i + 1 < am_len M 61; omega, nI_add i 1, am_cc (by omega) ?_⟩
  refine (fun (z : X (d - 1) 17 0 [some (.inr (.inl (0, 0))), some (.inl (M.1 61 0 (i + 1)))] [] M _) => z) ?_
  rw [hS (i + 1)]
  refine dc_alive hX (by omega) hP (S (i + 1)) M hC _ (fun M1 s1 c1 => ?_)
  have l1 : am_len M1 61 = N := by rw [← hl]; show (M1.1 61 1 0).toNatClampNeg = (M.1 61 1 0).toNatClampNeg; rw [s1 61 _ _ (by omega)]
  refine ⟨i + 1, by show i + 1 < am_len M1 61; omega, nI_add i 1, am_cc (by omega) ?_⟩
  refine (fun (z : X (d - 1) 122 0 [some (.inr (.inl (28, 0))), some (.inl (M1.1 61 0 (i + 1))), none, none] [] M1 _) => z) ?_
  rw [(s1 61 0 (i + 1) (by omega)).trans (hS (i + 1))]
  refine dm_alive hX (by omega) hP (S (i + 1)) M1 (iM_sC hM s1) _ (fun M2 s2 m2 => ?_)
  exact ⟨fun _ => next M2 _ (lw_J_on hJ hP s1 c1 s2 m2), fun q => absurd rfl q⟩
set_option maxRecDepth 20000 in
set_option maxHeartbeats 1000000 in
theorem lw_path {X : am_X} (hX : am_Cl X) {d : Nat} (hd : 12 ≤ d) {S : Nat → Int32} {N i : Nat} (hi : i + 5 ≤ N) {M : am_M} {g : sg} (hJ : lw_J S N M g) (Q : am_P) (next : ∀ M' g', lw_J S N M' g' → X d 137 667 [some (.inr (.inl (61, 0))), some (.inr (.inl (0, 0))), some (.inr (.inl (28, 0))), some (.inl (nI i))] [] M' Q) : X d 137 458 [some (.inr (.inl (61, 0))), some (.inr (.inl (0, 0))), some (.inr (.inl (28, 0))), some (.inl (nI i))] [] M Q := by
  obtain ⟨hP, hC, hM, hl, hS⟩ := id hJ
  refine am_go hX [667] 60 ?_
  refine ⟨i + 1, by show i + 1 < am_len M 61; omega, nI_add i 1, i + 2, by show i + 2 < am_len M 61; omega, nI_add i 2, am_cc (by omega) ?_⟩
  refine (fun (z : X (d - 1) 18 0 [some (.inr (.inl (0, 0))), some (.inl (M.1 61 0 (i + 1))), some (.inl (M.1 61 0 (i + 2))), none, none, none, none] [] M _) => z) ?_
  rw [hS (i + 1), hS (i + 2)]
  refine dc_path hX (by omega) hP (S (i + 1)) (S (i + 2)) M hC _ (fun M1 s1 c1 => ?_)
  have l1 : am_len M1 61 = N := by rw [← hl]; show (M1.1 61 1 0).toNatClampNeg = (M.1 61 1 0).toNatClampNeg; rw [s1 61 _ _ (by omega)]
  refine ⟨i + 1, by show i + 1 < am_len M1 61; omega, nI_add i 1, i + 2, by show i + 2 < am_len M1 61; omega, nI_add i 2, am_cc (by omega) ?_⟩
  refine (fun (z : X (d - 1) 123 0 [some (.inr (.inl (28, 0))), some (.inl (M1.1 61 0 (i + 1))), some (.inl (M1.1 61 0 (i + 2))), none, none, none] [] M1 _) => z) ?_
  rw [(s1 61 0 (i + 1) (by omega)).trans (hS (i + 1)), (s1 61 0 (i + 2) (by omega)).trans (hS (i + 2))]
  refine dm_path hX (by omega) hP (S (i + 1)) (S (i + 2)) M1 (iM_sC hM s1) _ (fun M2 s2 m2 => ?_)
  exact ⟨fun _ => next M2 _ (lw_J_on hJ hP s1 c1 s2 m2), fun q => absurd rfl q⟩
set_option maxRecDepth 20000 in
set_option maxHeartbeats 1000000 in
theorem lw_apart {X : am_X} (hX : am_Cl X) {d : Nat} (hd : 12 ≤ d) {S : Nat → Int32} {N i : Nat} (hi : i + 5 ≤ N) {M : am_M} {g : sg} (hJ : lw_J S N M g) (Q : am_P) (next : ∀ M' g', lw_J S N M' g' → X d 137 667 [some (.inr (.inl (61, 0))), some (.inr (.inl (0, 0))), some (.inr (.inl (28, 0))), some (.inl (nI i))] [] M' Q) : X d 137 485 [some (.inr (.inl (61, 0))), some (.inr (.inl (0, 0))), some (.inr (.inl (28, 0))), some (.inl (nI i))] [] M Q := by
  obtain ⟨hP, hC, hM, hl, hS⟩ := id hJ
  refine am_go hX [667] 60 ?_
  refine ⟨i + 1, by show i + 1 < am_len M 61; omega, nI_add i 1, i + 2, by show i + 2 < am_len M 61; omega, nI_add i 2, i + 3, by show i + 3 < am_len M 61; omega, nI_add i 3, am_cc (by omega) ?_⟩
  refine (fun (z : X (d - 1) 19 0 [some (.inr (.inl (0, 0))), some (.inl (M.1 61 0 (i + 1))), some (.inl (M.1 61 0 (i + 2))), some (.inl (M.1 61 0 (i + 3)))] [] M _) => z) ?_
  rw [hS (i + 1), hS (i + 2), hS (i + 3)]
  refine dc_apart hX (by omega) hP (S (i + 1)) (S (i + 2)) (S (i + 3)) M hC _ (fun M1 s1 c1 => ?_)
  have l1 : am_len M1 61 = N := by rw [← hl]; show (M1.1 61 1 0).toNatClampNeg = (M.1 61 1 0).toNatClampNeg; rw [s1 61 _ _ (by omega)]
  refine ⟨i + 1, by show i + 1 < am_len M1 61; omega, nI_add i 1, i + 2, by show i + 2 < am_len M1 61; omega, nI_add i 2, i + 3, by show i + 3 < am_len M1 61; omega, nI_add i 3, am_cc (by omega) ?_⟩
  refine (fun (z : X (d - 1) 126 0 [some (.inr (.inl (28, 0))), some (.inl (M1.1 61 0 (i + 1))), some (.inl (M1.1 61 0 (i + 2))), some (.inl (M1.1 61 0 (i + 3)))] [] M1 _) => z) ?_
  rw [(s1 61 0 (i + 1) (by omega)).trans (hS (i + 1)), (s1 61 0 (i + 2) (by omega)).trans (hS (i + 2)), (s1 61 0 (i + 3) (by omega)).trans (hS (i + 3))]
  refine dm_apart hX (by omega) hP (S (i + 1)) (S (i + 2)) (S (i + 3)) M1 (iM_sC hM s1) _ (fun M2 s2 m2 => ?_)
  exact ⟨fun _ => next M2 _ (lw_J_on hJ hP s1 c1 s2 m2), fun q => absurd rfl q⟩
set_option maxRecDepth 20000 in
set_option maxHeartbeats 1000000 in
theorem lw_near {X : am_X} (hX : am_Cl X) {d : Nat} (hd : 12 ≤ d) {S : Nat → Int32} {N i : Nat} (hi : i + 5 ≤ N) {M : am_M} {g : sg} (hJ : lw_J S N M g) (Q : am_P) (next : ∀ M' g', lw_J S N M' g' → X d 137 667 [some (.inr (.inl (61, 0))), some (.inr (.inl (0, 0))), some (.inr (.inl (28, 0))), some (.inl (nI i))] [] M' Q) : X d 137 522 [some (.inr (.inl (61, 0))), some (.inr (.inl (0, 0))), some (.inr (.inl (28, 0))), some (.inl (nI i))] [] M Q := by
  obtain ⟨hP, hC, hM, hl, hS⟩ := id hJ
  refine am_go hX [667] 60 ?_
  refine ⟨i + 1, by show i + 1 < am_len M 61; omega, nI_add i 1, i + 2, by show i + 2 < am_len M 61; omega, nI_add i 2, i + 3, by show i + 3 < am_len M 61; omega, nI_add i 3, am_cc (by omega) ?_⟩
  refine (fun (z : X (d - 1) 20 0 [some (.inr (.inl (0, 0))), some (.inl (M.1 61 0 (i + 1))), some (.inl (M.1 61 0 (i + 2))), some (.inl (M.1 61 0 (i + 3))), none, none, none] [] M _) => z) ?_
  rw [hS (i + 1), hS (i + 2), hS (i + 3)]
  refine dc_near hX (by omega) hP (S (i + 1)) (S (i + 2)) (S (i + 3)) M hC _ (fun M1 s1 c1 => ?_)
  have l1 : am_len M1 61 = N := by rw [← hl]; show (M1.1 61 1 0).toNatClampNeg = (M.1 61 1 0).toNatClampNeg; rw [s1 61 _ _ (by omega)]
  refine ⟨i + 1, by show i + 1 < am_len M1 61; omega, nI_add i 1, i + 2, by show i + 2 < am_len M1 61; omega, nI_add i 2, i + 3, by show i + 3 < am_len M1 61; omega, nI_add i 3, am_cc (by omega) ?_⟩
  refine (fun (z : X (d - 1) 127 0 [some (.inr (.inl (28, 0))), some (.inl (M1.1 61 0 (i + 1))), some (.inl (M1.1 61 0 (i + 2))), some (.inl (M1.1 61 0 (i + 3))), none, none] [] M1 _) => z) ?_
  rw [(s1 61 0 (i + 1) (by omega)).trans (hS (i + 1)), (s1 61 0 (i + 2) (by omega)).trans (hS (i + 2)), (s1 61 0 (i + 3) (by omega)).trans (hS (i + 3))]
  refine dm_near hX (by omega) hP (S (i + 1)) (S (i + 2)) (S (i + 3)) M1 (iM_sC hM s1) _ (fun M2 s2 m2 => ?_)
  exact ⟨fun _ => next M2 _ (lw_J_on hJ hP s1 c1 s2 m2), fun q => absurd rfl q⟩
set_option maxRecDepth 20000 in
set_option maxHeartbeats 1000000 in
theorem lw_pairs {X : am_X} (hX : am_Cl X) {d : Nat} (hd : 12 ≤ d) {S : Nat → Int32} {N i : Nat} (hi : i + 5 ≤ N) {M : am_M} {g : sg} (hJ : lw_J S N M g) (Q : am_P) (next : ∀ M' g', lw_J S N M' g' → X d 137 667 [some (.inr (.inl (61, 0))), some (.inr (.inl (0, 0))), some (.inr (.inl (28, 0))), some (.inl (nI i))] [] M' Q) : X d 137 559 [some (.inr (.inl (61, 0))), some (.inr (.inl (0, 0))), some (.inr (.inl (28, 0))), some (.inl (nI i))] [] M Q := by
  obtain ⟨hP, hC, hM, hl, hS⟩ := id hJ
  refine am_go hX [667] 60 ?_
  refine ⟨i + 1, by show i + 1 < am_len M 61; omega, nI_add i 1, i + 2, by show i + 2 < am_len M 61; omega, nI_add i 2, am_cc (by omega) ?_⟩
  refine (fun (z : X (d - 1) 21 0 [some (.inr (.inl (0, 0))), some (.inl (M.1 61 0 (i + 1))), some (.inl (M.1 61 0 (i + 2)))] [] M _) => z) ?_
  rw [hS (i + 1), hS (i + 2)]
  refine dc_pairs hX (by omega) hP (S (i + 1)) (S (i + 2)) M hC _ (fun M1 s1 c1 => ?_)
  have l1 : am_len M1 61 = N := by rw [← hl]; show (M1.1 61 1 0).toNatClampNeg = (M.1 61 1 0).toNatClampNeg; rw [s1 61 _ _ (by omega)]
  refine ⟨i + 1, by show i + 1 < am_len M1 61; omega, nI_add i 1, i + 2, by show i + 2 < am_len M1 61; omega, nI_add i 2, am_cc (by omega) ?_⟩
  refine (fun (z : X (d - 1) 129 0 [some (.inr (.inl (28, 0))), some (.inl (M1.1 61 0 (i + 1))), some (.inl (M1.1 61 0 (i + 2)))] [] M1 _) => z) ?_
  rw [(s1 61 0 (i + 1) (by omega)).trans (hS (i + 1)), (s1 61 0 (i + 2) (by omega)).trans (hS (i + 2))]
  refine dm_pairs hX (by omega) hP (S (i + 1)) (S (i + 2)) M1 (iM_sC hM s1) _ (fun M2 s2 m2 => ?_)
  exact ⟨fun _ => next M2 _ (lw_J_on hJ hP s1 c1 s2 m2), fun q => absurd rfl q⟩
set_option maxRecDepth 20000 in
set_option maxHeartbeats 1000000 in
theorem lw_level {X : am_X} (hX : am_Cl X) {d : Nat} (hd : 12 ≤ d) {S : Nat → Int32} {N i : Nat} (hi : i + 5 ≤ N) {M : am_M} {g : sg} (hJ : lw_J S N M g) (Q : am_P) (next : ∀ M' g', lw_J S N M' g' → X d 137 667 [some (.inr (.inl (61, 0))), some (.inr (.inl (0, 0))), some (.inr (.inl (28, 0))), some (.inl (nI i))] [] M' Q) : X d 137 586 [some (.inr (.inl (61, 0))), some (.inr (.inl (0, 0))), some (.inr (.inl (28, 0))), some (.inl (nI i))] [] M Q := by
  obtain ⟨hP, hC, hM, hl, hS⟩ := id hJ
  refine am_go hX [667] 60 ?_
  refine ⟨i + 1, by show i + 1 < am_len M 61; omega, nI_add i 1, i + 2, by show i + 2 < am_len M 61; omega, nI_add i 2, i + 3, by show i + 3 < am_len M 61; omega, nI_add i 3, am_cc (by omega) ?_⟩
  refine (fun (z : X (d - 1) 22 0 [some (.inr (.inl (0, 0))), some (.inl (M.1 61 0 (i + 1))), some (.inl (M.1 61 0 (i + 2))), some (.inl (M.1 61 0 (i + 3)))] [] M _) => z) ?_
  rw [hS (i + 1), hS (i + 2), hS (i + 3)]
  refine dc_level hX (by omega) hP (S (i + 1)) (S (i + 2)) (S (i + 3)) M hC _ (fun M1 s1 c1 => ?_)
  have l1 : am_len M1 61 = N := by rw [← hl]; show (M1.1 61 1 0).toNatClampNeg = (M.1 61 1 0).toNatClampNeg; rw [s1 61 _ _ (by omega)]
  refine ⟨i + 1, by show i + 1 < am_len M1 61; omega, nI_add i 1, i + 2, by show i + 2 < am_len M1 61; omega, nI_add i 2, i + 3, by show i + 3 < am_len M1 61; omega, nI_add i 3, am_cc (by omega) ?_⟩
  refine (fun (z : X (d - 1) 130 0 [some (.inr (.inl (28, 0))), some (.inl (M1.1 61 0 (i + 1))), some (.inl (M1.1 61 0 (i + 2))), some (.inl (M1.1 61 0 (i + 3))), none] [] M1 _) => z) ?_
  rw [(s1 61 0 (i + 1) (by omega)).trans (hS (i + 1)), (s1 61 0 (i + 2) (by omega)).trans (hS (i + 2)), (s1 61 0 (i + 3) (by omega)).trans (hS (i + 3))]
  refine dm_level hX (by omega) hP (S (i + 1)) (S (i + 2)) (S (i + 3)) M1 (iM_sC hM s1) _ (fun M2 s2 m2 => ?_)
  exact ⟨fun _ => next M2 _ (lw_J_on hJ hP s1 c1 s2 m2), fun q => absurd rfl q⟩
set_option maxRecDepth 20000 in
set_option maxHeartbeats 1000000 in
theorem lw_right {X : am_X} (hX : am_Cl X) {d : Nat} (hd : 12 ≤ d) {S : Nat → Int32} {N i : Nat} (hi : i + 5 ≤ N) {M : am_M} {g : sg} (hJ : lw_J S N M g) (Q : am_P) (next : ∀ M' g', lw_J S N M' g' → X d 137 667 [some (.inr (.inl (61, 0))), some (.inr (.inl (0, 0))), some (.inr (.inl (28, 0))), some (.inl (nI i))] [] M' Q) : X d 137 623 [some (.inr (.inl (61, 0))), some (.inr (.inl (0, 0))), some (.inr (.inl (28, 0))), some (.inl (nI i))] [] M Q := by
  obtain ⟨hP, hC, hM, hl, hS⟩ := id hJ
  refine am_go hX [667] 60 ?_
  refine ⟨i + 1, by show i + 1 < am_len M 61; omega, nI_add i 1, i + 2, by show i + 2 < am_len M 61; omega, nI_add i 2, am_cc (by omega) ?_⟩
  refine (fun (z : X (d - 1) 23 0 [some (.inr (.inl (0, 0))), some (.inl (M.1 61 0 (i + 1))), some (.inl (M.1 61 0 (i + 2))), none, none, none] [] M _) => z) ?_
  rw [hS (i + 1), hS (i + 2)]
  refine dc_right hX (by omega) hP (S (i + 1)) (S (i + 2)) M hC _ (fun M1 s1 c1 => ?_)
  have l1 : am_len M1 61 = N := by rw [← hl]; show (M1.1 61 1 0).toNatClampNeg = (M.1 61 1 0).toNatClampNeg; rw [s1 61 _ _ (by omega)]
  refine ⟨i + 1, by show i + 1 < am_len M1 61; omega, nI_add i 1, i + 2, by show i + 2 < am_len M1 61; omega, nI_add i 2, am_cc (by omega) ?_⟩
  refine (fun (z : X (d - 1) 132 0 [some (.inr (.inl (28, 0))), some (.inl (M1.1 61 0 (i + 1))), some (.inl (M1.1 61 0 (i + 2))), none, none, none, none] [] M1 _) => z) ?_
  rw [(s1 61 0 (i + 1) (by omega)).trans (hS (i + 1)), (s1 61 0 (i + 2) (by omega)).trans (hS (i + 2))]
  refine dm_right hX (by omega) hP (S (i + 1)) (S (i + 2)) M1 (iM_sC hM s1) _ (fun M2 s2 m2 => ?_)
  exact ⟨fun _ => next M2 _ (lw_J_on hJ (iP_right hP (S (i + 1)) (S (i + 2))) s1 c1 s2 m2), fun q => absurd rfl q⟩
set_option maxRecDepth 20000 in
set_option maxHeartbeats 1000000 in
theorem lw_count {X : am_X} (hX : am_Cl X) {d : Nat} (hd : 12 ≤ d) {S : Nat → Int32} {N i : Nat} (hi : i + 5 ≤ N) {M : am_M} {g : sg} (hJ : lw_J S N M g) (Q : am_P) (next : ∀ M' g', lw_J S N M' g' → X d 137 667 [some (.inr (.inl (61, 0))), some (.inr (.inl (0, 0))), some (.inr (.inl (28, 0))), some (.inl (nI i))] [] M' Q) : X d 137 650 [some (.inr (.inl (61, 0))), some (.inr (.inl (0, 0))), some (.inr (.inl (28, 0))), some (.inl (nI i))] [] M Q := by
  obtain ⟨hP, hC, hM, hl, hS⟩ := id hJ
  refine am_go hX [667] 60 ?_
  refine ⟨i + 1, by show i + 1 < am_len M 61; omega, nI_add i 1, am_cc (by omega) ?_⟩
  refine (fun (z : X (d - 1) 24 0 [some (.inr (.inl (0, 0))), some (.inl (M.1 61 0 (i + 1)))] [] M _) => z) ?_
  rw [hS (i + 1)]
  refine dc_count hX (by omega) hP (S (i + 1)) M hC _ (fun M1 s1 c1 => ?_)
  have l1 : am_len M1 61 = N := by rw [← hl]; show (M1.1 61 1 0).toNatClampNeg = (M.1 61 1 0).toNatClampNeg; rw [s1 61 _ _ (by omega)]
  refine ⟨i + 1, by show i + 1 < am_len M1 61; omega, nI_add i 1, am_cc (by omega) ?_⟩
  refine (fun (z : X (d - 1) 133 0 [some (.inr (.inl (28, 0))), some (.inl (M1.1 61 0 (i + 1))), none, none, none] [] M1 _) => z) ?_
  rw [(s1 61 0 (i + 1) (by omega)).trans (hS (i + 1))]
  refine dm_count hX (by omega) hP (S (i + 1)) M1 (iM_sC hM s1) _ (fun M2 s2 m2 => ?_)
  exact ⟨fun _ => next M2 _ (lw_J_on hJ hP s1 c1 s2 m2), fun q => absurd rfl q⟩
set_option maxRecDepth 20000 in
set_option maxHeartbeats 1000000 in
theorem lw_loop {X : am_X} (hX : am_Cl X) {d : Nat} (hd : 12 ≤ d) {S : Nat → Int32} {N : Nat} (hN : N ≤ 2560) (Q : am_P) (hQ : ∀ M', Q (some (.inl (1))) M') : ∀ (t i : Nat), N ≤ i + 5 * t → i ≤ N + 5 → ∀ (M : am_M) (g : sg), lw_J S N M g → X d 137 10 [some (.inr (.inl (61, 0))), some (.inr (.inl (0, 0))), some (.inr (.inl (28, 0))), some (.inl (nI i))] [] M Q := by
  intro t
  have n5 : (nI N - 5).toInt = (N : Int) - 5 := by
    have h5 : (5 : Int32).toInt = 5 := by decide
    rw [iz_sub (by rw [nI_toInt (by omega), h5]; omega) (by rw [nI_toInt (by omega), h5]; omega), nI_toInt (by omega), h5]
  induction t with
  | zero =>
    intro i h1 h2 M g hJ
    have el : am_len M 61 = N := hJ.2.2.2.1
    refine am_go hX [10, 22] 30 ?_
    refine ⟨fun _ => ⟨Or.inr rfl, hQ M⟩, fun (q : ¬ nI (am_len M 61) - 5 < nI i) => absurd ?_ q⟩
    rw [el, Int32.lt_iff_toInt_lt, n5, nI_toInt (by omega)]; omega
  | succ t ih =>
    intro i h1 h2 M g hJ
    have el : am_len M 61 = N := hJ.2.2.2.1
    refine am_go hX [22, 29, 66, 103, 130, 147, 174, 201, 208, 225, 242, 259, 296, 333, 380, 397, 414, 441, 458, 485, 522, 559, 586, 623, 650, 667] 30 ?_
    refine ⟨fun _ => ⟨Or.inr rfl, hQ M⟩, fun (q : ¬ nI (am_len M 61) - 5 < nI i) => ?_⟩
    rw [el, Int32.lt_iff_toInt_lt, n5, nI_toInt (by omega)] at q
    have hi : i + 5 ≤ N := by omega
    have next : ∀ M' g', lw_J S N M' g' → X d 137 667 [some (.inr (.inl (61, 0))), some (.inr (.inl (0, 0))), some (.inr (.inl (28, 0))), some (.inl (nI i))] [] M' Q := by
      intro M' g' hJ'
      refine am_go hX [10] 30 ?_
      refine (fun (z : X d 137 10 [some (.inr (.inl (61, 0))), some (.inr (.inl (0, 0))), some (.inr (.inl (28, 0))), some (.inl (nI i + nI 5))] [] M' Q) => z) ?_
      rw [nI_add]
      exact ih (i + 5) (by omega) (by omega) M' g' hJ'
    refine ⟨i, by show i < am_len M 61; omega, rfl, fun _ => next M g hJ, fun _ => lw_watcher hX hd hi hJ Q next, fun _ => lw_shift hX hd hi hJ Q next, fun _ => lw_dot hX hd hi hJ Q next, fun _ => lw_scan hX hd hi hJ Q next, fun _ => lw_drop hX hd hi hJ Q next, fun _ => lw_kind hX hd hi hJ Q next, fun _ => lw_rule hX hd hi hJ Q next, fun _ => lw_worlds hX hd hi hJ Q next, fun _ => lw_cost hX hd hi hJ Q next, fun _ => lw_gap hX hd hi hJ Q next, fun _ => lw_tracks hX hd hi hJ Q next, fun _ => lw_track hX hd hi hJ Q next, fun _ => lw_account hX hd hi hJ Q next, fun _ => lw_foretell hX hd hi hJ Q next, fun _ => lw_ordered hX hd hi hJ Q next, fun _ => lw_name hX hd hi hJ Q next, fun _ => lw_sure hX hd hi hJ Q next, fun _ => lw_alive hX hd hi hJ Q next, fun _ => lw_path hX hd hi hJ Q next, fun _ => lw_apart hX hd hi hJ Q next, fun _ => lw_near hX hd hi hJ Q next, fun _ => lw_pairs hX hd hi hJ Q next, fun _ => lw_level hX hd hi hJ Q next, fun _ => lw_right hX hd hi hJ Q next, fun _ => lw_count hX hd hi hJ Q next, trivial⟩
