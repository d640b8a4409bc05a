/-! all codes, in their order, are all joins, in theirs -/
def dls : Nat → List (List Nat)
  | 0 => [[]]
  | r + 1 => (List.range 8).flatMap fun q => (dls r).map (q :: ·)
theorem jv_c (T : Nat → Nat → Option Nat) (nT birth fals : Nat) {g g' : Nat → Nat} : ∀ (r e : Nat) (tak : Nat → Bool) (b : Nat), (∀ i, e ≤ i → i < e + r → g i = g' i) → jv T nT birth fals g r e tak b = jv T nT birth fals g' r e tak b
  | 0, e, tak, b, h => rfl
  | r + 1, e, tak, b, h => by
    have he : g e = g' e := h e (Nat.le_refl e) (by omega)
    have hr : ∀ tak b, jv T nT birth fals g r (e + 1) tak b = jv T nT birth fals g' r (e + 1) tak b := fun tak b => jv_c T nT birth fals r (e + 1) tak b (fun i h1 h2 => h i (by omega) (by omega))
    simp only [jv, he, hr]
theorem rg_split {α : Type} (f : Nat → List α) (n : Nat) (hn : n ≤ 6) (h : ∀ q, n ≤ q → q < 6 → f q = []) : (List.range 8).flatMap f = (List.range n).flatMap f ++ (f 6 ++ f 7) := by
  have e8 : (List.range 8).flatMap f = f 0 ++ (f 1 ++ (f 2 ++ (f 3 ++ (f 4 ++ (f 5 ++ (f 6 ++ f 7)))))) := by
    show [0, 1, 2, 3, 4, 5, 6, 7].flatMap f = _
    simp
  rw [e8]
  match n, hn with
  | 0, _ => rw [h 0 (by omega) (by omega), h 1 (by omega) (by omega), h 2 (by omega) (by omega), h 3 (by omega) (by omega), h 4 (by omega) (by omega), h 5 (by omega) (by omega)]; simp
  | 1, _ => rw [h 1 (by omega) (by omega), h 2 (by omega) (by omega), h 3 (by omega) (by omega), h 4 (by omega) (by omega), h 5 (by omega) (by omega)]; simp [List.range_succ]
  | 2, _ => rw [h 2 (by omega) (by omega), h 3 (by omega) (by omega), h 4 (by omega) (by omega), h 5 (by omega) (by omega)]; simp [List.range_succ]
  | 3, _ => rw [h 3 (by omega) (by omega), h 4 (by omega) (by omega), h 5 (by omega) (by omega)]; simp [List.range_succ]
  | 4, _ => rw [h 4 (by omega) (by omega), h 5 (by omega) (by omega)]; simp [List.range_succ]
  | 5, _ => rw [h 5 (by omega) (by omega)]; simp [List.range_succ]
  | 6, _ => simp [List.range_succ]
theorem fl_c {α β : Type} {f g : α → List β} : ∀ (l : List α), (∀ x ∈ l, f x = g x) → l.flatMap f = l.flatMap g
  | [], _ => rfl
  | a :: l, h => by rw [List.flatMap_cons, List.flatMap_cons, h a List.mem_cons_self, fl_c l (fun x hx => h x (List.mem_cons_of_mem _ hx))]
theorem jn_sub_dls (T : Nat → Nat → Option Nat) (lv : Nat → Bool) (nT miss birth fals : Nat) (hn : nT ≤ 6) (hT : ∀ k e t, T k e = some t → lv k = true) : ∀ (r e c u b : Nat) (tak : Nat → Bool) (pre : List Nat), u = jn_cnt lv tak nT →
    jn_sub T nT miss birth fals r e c u b tak pre = (dls r).filterMap fun ds => (jv T nT birth fals (fun i => am_nth ds (i - e) 9) r e tak b).map fun y => (c + y.1 + jn_cnt lv y.2 nT * miss, pre ++ ds)
  | 0, e, c, u, b, tak, pre, hu => by
    simp [jn_sub, dls, jv, hu]
  | r + 1, e, c, u, b, tak, pre, hu => by
    -- one pick: the lists that begin with it
    have one : ∀ q, ((dls r).map (q :: ·)).filterMap (fun ds => (jv T nT birth fals (fun i => am_nth ds (i - e) 9) (r + 1) e tak b).map fun y => (c + y.1 + jn_cnt lv y.2 nT * miss, pre ++ ds)) =
        if q < nT then (match T q e with
          | none => []
          | some t => bif tak q then [] else jn_sub T nT miss birth fals r (e + 1) (c + t) (u - 1) b (fun j => bif Nat.beq j q then true else tak j) (pre ++ [q]))
        else if q = 6 then (if nT + b < 6 then jn_sub T nT miss birth fals r (e + 1) (c + birth) u (b + 1) tak (pre ++ [6]) else [])
        else if q = 7 then jn_sub T nT miss birth fals r (e + 1) (c + fals) u b tak (pre ++ [7]) else [] := by
      intro q
      rw [List.filterMap_map]
      have inner : ∀ (v : Nat) (tak' : Nat → Bool) (b' u' : Nat), u' = jn_cnt lv tak' nT → (dls r).filterMap (fun ds => ((jv T nT birth fals (fun i => am_nth (q :: ds) (i - e) 9) r (e + 1) tak' b').map fun y => (v + y.1, y.2)).map fun y => (c + y.1 + jn_cnt lv y.2 nT * miss, pre ++ (q :: ds))) = jn_sub T nT miss birth fals r (e + 1) (c + v) u' b' tak' (pre ++ [q]) := by
        intro v tak' b' u' hu'
        rw [jn_sub_dls T lv nT miss birth fals hn hT r (e + 1) (c + v) u' b' tak' (pre ++ [q]) hu']
        congr 1
        funext ds
        rw [jv_c T nT birth fals (g := fun i => am_nth (q :: ds) (i - e) 9) (g' := fun i => am_nth ds (i - (e + 1)) 9) r (e + 1) tak' b' (fun i h1 h2 => by
          show am_nth (q :: ds) (i - e) 9 = am_nth ds (i - (e + 1)) 9
          rw [show i - e = (i - (e + 1)) + 1 by omega]; rfl)]
        cases jv T nT birth fals (fun i => am_nth ds (i - (e + 1)) 9) r (e + 1) tak' b' with
        | none => rfl
        | some y => simp [Nat.add_assoc]
      have g0 : ∀ ds : List Nat, am_nth (q :: ds) (e - e) 9 = q := fun ds => by rw [Nat.sub_self]; rfl
      have allnone : (dls r).filterMap (fun _ => (none : Option (Nat × List Nat))) = [] := by simp
      by_cases c1 : q < nT
      · rw [if_pos c1]
        cases hTq : T q e with
        | none =>
          refine Eq.trans ?_ allnone
          congr 1; funext ds
          simp only [Function.comp, jv, g0, if_pos c1, hTq]; rfl
        | some t =>
          dsimp only
          cases htk : tak q with
          | true =>
            refine Eq.trans ?_ allnone
            congr 1; funext ds
            simp only [Function.comp, jv, g0, if_pos c1, hTq, htk]; rfl
          | false =>
            have hcnt := jn_cnt_tk lv tak q (hT q e t hTq) htk nT
            rw [if_pos c1] at hcnt
            refine Eq.trans ?_ (inner t (fun j => bif Nat.beq j q then true else tak j) b (u - 1) (by omega))
            congr 1; funext ds
            simp only [Function.comp, jv, g0, if_pos c1, hTq, htk]; rfl
      · rw [if_neg c1]
        by_cases c6 : q = 6
        · subst c6
          rw [if_pos rfl]
          by_cases cb : nT + b < 6
          · rw [if_pos cb]
            refine Eq.trans ?_ (inner birth tak (b + 1) u hu)
            congr 1; funext ds
            simp only [Function.comp, jv, g0, if_neg c1, if_pos, if_pos cb]
          · rw [if_neg cb]
            refine Eq.trans ?_ allnone
            congr 1; funext ds
            simp only [Function.comp, jv, g0, if_neg c1, if_pos, if_neg cb]; rfl
        · rw [if_neg c6]
          by_cases c7 : q = 7
          · subst c7
            rw [if_pos rfl]
            refine Eq.trans ?_ (inner fals tak b u hu)
            congr 1; funext ds
            simp only [Function.comp, jv, g0, if_neg c1, if_neg c6, if_pos]
          · rw [if_neg c7]
            refine Eq.trans ?_ allnone
            congr 1; funext ds
            simp only [Function.comp, jv, g0, if_neg c1, if_neg c6, if_neg c7]; rfl
    rw [dls, List.filterMap_flatMap]
    have hfun : (fun q => ((dls r).map (q :: ·)).filterMap (fun ds => (jv T nT birth fals (fun i => am_nth ds (i - e) 9) (r + 1) e tak b).map fun y => (c + y.1 + jn_cnt lv y.2 nT * miss, pre ++ ds))) = _ := funext one
    rw [hfun, rg_split _ nT hn (fun q h1 h2 => by rw [if_neg (by omega), if_neg (by omega), if_neg (by omega)])]
    rw [if_neg (show ¬ 6 < nT by omega), if_pos (show (6 : Nat) = 6 from rfl), if_neg (show ¬ 7 < nT by omega), if_neg (show ¬ (7 : Nat) = 6 by decide), if_pos (show (7 : Nat) = 7 from rfl)]
    rw [jn_sub]
    congr 1
    exact fl_c _ (fun q hq => by rw [if_pos (List.mem_range.mp hq)]; rfl)
/-- the lists of digits, by codes -/
theorem dls_map : ∀ (n : Nat) (g : Nat → Nat), dls n = (List.range (8 ^ n)).map (fun c => (List.range n).map (fun i => c / 8 ^ (n - 1 - i) % 8))
  | 0, _ => rfl
  | n + 1, g => by
    rw [dls, dls_map n g]
    have key : ∀ m, (List.range m).flatMap (fun q => ((List.range (8 ^ n)).map (fun c => (List.range n).map (fun i => c / 8 ^ (n - 1 - i) % 8))).map (q % 8 :: ·)) = (List.range (m * 8 ^ n)).map (fun c => (List.range (n + 1)).map (fun i => c / 8 ^ (n - i) % 8)) := by
      intro m
      induction m with
      | zero => simp
      | succ m ih =>
        rw [List.range_succ (n := m), List.flatMap_append, ih, Nat.add_mul, Nat.one_mul, List.range_add (n := m * 8 ^ n) (m := 8 ^ n), List.map_append, List.flatMap_singleton, List.map_map, List.map_map]
        congr 1
        apply List.map_congr_left
        intro c hc
        have hc := List.mem_range.mp hc
        show m % 8 :: _ = (List.range (n + 1)).map (fun i => (m * 8 ^ n + c) / 8 ^ (n - i) % 8)
        rw [List.range_succ_eq_map, List.map_cons, List.map_map]
        congr 1
        · rw [Nat.sub_zero, Nat.mul_comm, Nat.mul_add_div (Nat.pow_pos (by decide)), Nat.div_eq_of_lt hc, Nat.add_zero]
        · apply List.map_congr_left
          intro i hi
          have hi := List.mem_range.mp hi
          show c / 8 ^ (n - 1 - i) % 8 = (m * 8 ^ n + c) / 8 ^ (n - (i + 1)) % 8
          rw [show n - (i + 1) = n - 1 - i by omega]
          generalize hj : n - 1 - i = j
          have e : 8 ^ n = 8 ^ j * (8 * 8 ^ (n - j - 1)) := by rw [← Nat.pow_succ', ← Nat.pow_add]; congr 1; omega
          rw [e, show m * (8 ^ j * (8 * 8 ^ (n - j - 1))) = 8 ^ j * (8 * (m * 8 ^ (n - j - 1))) by rw [Nat.mul_left_comm, Nat.mul_left_comm m 8], Nat.mul_add_div (Nat.pow_pos (by decide)), Nat.mul_add_mod]
    have k8 := key 8
    rw [← Nat.pow_succ'] at k8
    rw [← show (List.range 8).flatMap (fun q => ((List.range (8 ^ n)).map (fun c => (List.range n).map (fun i => c / 8 ^ (n - 1 - i) % 8))).map (q % 8 :: ·)) = (List.range 8).flatMap (fun q => ((List.range (8 ^ n)).map (fun c => (List.range n).map (fun i => c / 8 ^ (n - 1 - i) % 8))).map (q :: ·)) from fl_c _ (fun q hq => by rw [Nat.mod_eq_of_lt (List.mem_range.mp hq)]), k8]
    simp only [Nat.add_sub_cancel]
