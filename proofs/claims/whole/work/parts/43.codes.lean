/-! all codes, in their order, are all joins, in theirs -/
def dls : Nat → List (List Nat)
  | 0 => [[]]
  | r + 1 => (List.range 8).flatMap fun q => (dls r).map (q :: ·)
theorem jv_c (T : Nat → Nat → Option Nat) (nT birth fals : Nat) {g g' : Nat → Nat} : ∀ (r e : Nat) (tak : Nat → Bool) (b : Nat), (∀ i, e ≤ i → i < e + r → g i = g' i) → jv T nT birth fals g r e tak b = jv T nT birth fals g' r e tak b
  | 0, e, tak, b, h => rfl
  | r + 1, e, tak, b, h => by
    have he : g e = g' e := h e (Nat.le_refl e) (by omega)
    have hr : ∀ tak b, jv T nT birth fals g r (e + 1) tak b = jv T nT birth fals g' r (e + 1) tak b := fun tak b => jv_c T nT birth fals r (e + 1) tak b (fun i h1 h2 => h i (by omega) (by omega))
    simp only [jv, he, hr]
theorem rg_split {α : Type} (f : Nat → List α) (n : Nat) (hn : n ≤ 6) (h : ∀ q, n ≤ q → q < 6 → f q = []) : (List.range 8).flatMap f = (List.range n).flatMap f ++ (f 6 ++ f 7) := by
  have e8 : (List.range 8).flatMap f = f 0 ++ (f 1 ++ (f 2 ++ (f 3 ++ (f 4 ++ (f 5 ++ (f 6 ++ f 7)))))) := by
    show [0, 1, 2, 3, 4, 5, 6, 7].flatMap f = _
    simp
  rw [e8]
  match n, hn with
  | 0, _ => rw [h 0 (by omega) (by omega), h 1 (by omega) (by omega), h 2 (by omega) (by omega), h 3 (by omega) (by omega), h 4 (by omega) (by omega), h 5 (by omega) (by omega)]; simp
  | 1, _ => rw [h 1 (by omega) (by omega), h 2 (by omega) (by omega), h 3 (by omega) (by omega), h 4 (by omega) (by omega), h 5 (by omega) (by omega)]; simp [List.range_succ]
  | 2, _ => rw [h 2 (by omega) (by omega), h 3 (by omega) (by omega), h 4 (by omega) (by omega), h 5 (by omega) (by omega)]; simp [List.range_succ]
  | 3, _ => rw [h 3 (by omega) (by omega), h 4 (by omega) (by omega), h 5 (by omega) (by omega)]; simp [List.range_succ]
  | 4, _ => rw [h 4 (by omega) (by omega), h 5 (by omega) (by omega)]; simp [List.range_succ]
  | 5, _ => rw [h 5 (by omega) (by omega)]; simp [List.range_succ]
  | 6, _ => simp [List.range_succ]
theorem jn_sub_dls (T : Nat → Nat → Option Nat) (lv : Nat → Bool) (nT miss birth fals : Nat) (hn : nT ≤ 6) (hT : ∀ k e t, T k e = some t → lv k = true) : ∀ (r e c u b : Nat) (tak : Nat → Bool) (pre : List Nat), u = jn_cnt lv tak nT →
    jn_sub T nT miss birth fals r e c u b tak pre = (dls r).filterMap fun ds => (jv T nT birth fals (fun i => am_nth ds (i - e) 9) r e tak b).map fun y => (c + y.1 + jn_cnt lv y.2 nT * miss, pre ++ ds)
  | 0, e, c, u, b, tak, pre, hu => by
    simp [jn_sub, dls, jv, hu]
  | r + 1, e, c, u, b, tak, pre, hu => by
    -- one pick: the lists that begin with it
    have one : ∀ q, ((dls r).map (q :: ·)).filterMap (fun ds => (jv T nT birth fals (fun i => am_nth ds (i - e) 9) (r + 1) e tak b).map fun y => (c + y.1 + jn_cnt lv y.2 nT * miss, pre ++ ds)) =
        if q < nT then (match T q e with
          | none => []
          | some t => bif tak q then [] else jn_sub T nT miss birth fals r (e + 1) (c + t) (u - 1) b (fun j => bif Nat.beq j q then true else tak j) (pre ++ [q]))
        else if q = 6 then (if nT + b < 6 then jn_sub T nT miss birth fals r (e + 1) (c + birth) u (b + 1) tak (pre ++ [6]) else [])
        else if q = 7 then jn_sub T nT miss birth fals r (e + 1) (c + fals) u b tak (pre ++ [7]) else [] := by
      intro q
      rw [List.filterMap_map]
      have inner : ∀ (v : Nat) (tak' : Nat → Bool) (b' u' : Nat), u' = jn_cnt lv tak' nT → (dls r).filterMap (fun ds => ((jv T nT birth fals (fun i => am_nth (q :: ds) (i - e) 9) r (e + 1) tak' b').map fun y => (v + y.1, y.2)).map fun y => (c + y.1 + jn_cnt lv y.2 nT * miss, pre ++ (q :: ds))) = jn_sub T nT miss birth fals r (e + 1) (c + v) u' b' tak' (pre ++ [q]) := by
        intro v tak' b' u' hu'
        rw [jn_sub_dls T lv nT miss birth fals hn hT r (e + 1) (c + v) u' b' tak' (pre ++ [q]) hu']
        congr 1
        funext ds
        rw [jv_c T nT birth fals (g := fun i => am_nth (q :: ds) (i - e) 9) (g' := fun i => am_nth ds (i - (e + 1)) 9) r (e + 1) tak' b' (fun i h1 h2 => by
          show am_nth (q :: ds) (i - e) 9 = am_nth ds (i - (e + 1)) 9
          rw [show i - e = (i - (e + 1)) + 1 by omega]; rfl)]
        cases jv T nT birth fals (fun i => am_nth ds (i - (e + 1)) 9) r (e + 1) tak' b' with
        | none => rfl
        | some y => simp [Nat.add_assoc]
      have g0 : ∀ ds : List Nat, am_nth (q :: ds) (e - e) 9 = q := fun ds => by rw [Nat.sub_self]; rfl
      have allnone : (dls r).filterMap (fun _ => (none : Option (Nat × List Nat))) = [] := by simp
      by_cases c1 : q < nT
      · rw [if_pos c1]
        cases hTq : T q e with
        | none =>
          refine Eq.trans ?_ allnone
          congr 1; funext ds
          simp only [Function.comp, jv, g0, if_pos c1, hTq]; rfl
        | some t =>
          dsimp only
          cases htk : tak q with
          | true =>
            refine Eq.trans ?_ allnone
            congr 1; funext ds
            simp only [Function.comp, jv, g0, if_pos c1, hTq, htk]; rfl
          | false =>
            have hcnt := jn_cnt_tk lv tak q (hT q e t hTq) htk nT
            rw [if_pos c1] at hcnt
            refine Eq.trans ?_ (inner t (fun j => bif Nat.beq j q then true else tak j) b (u - 1) (by omega))
            congr 1; funext ds
            simp only [Function.comp, jv, g0, if_pos c1, hTq, htk]; rfl
      · rw [if_neg c1]
        by_cases c6 : q = 6
        · rw [if_pos c6]
          by_cases cb : nT + b < 6
          · rw [if_pos cb]
            refine Eq.trans ?_ (c6 ▸ inner birth tak (b + 1) u hu)
            congr 1; funext ds
            simp only [Function.comp, jv, g0, if_neg c1, if_pos c6, if_pos cb]
          · rw [if_neg cb]
            refine Eq.trans ?_ allnone
            congr 1; funext ds
            simp only [Function.comp, jv, g0, if_neg c1, if_pos c6, if_neg cb]; rfl
        · rw [if_neg c6]
          by_cases c7 : q = 7
          · rw [if_pos c7]
            refine Eq.trans ?_ (c7 ▸ inner fals tak b u hu)
            congr 1; funext ds
            simp only [Function.comp, jv, g0, if_neg c1, if_neg c6, if_pos c7]
          · rw [if_neg c7]
            refine Eq.trans ?_ allnone
            congr 1; funext ds
            simp only [Function.comp, jv, g0, if_neg c1, if_neg c6, if_neg c7]; rfl
    rw [dls, List.filterMap_flatMap]
    have hfun : (fun q => ((dls r).map (q :: ·)).filterMap (fun ds => (jv T nT birth fals (fun i => am_nth ds (i - e) 9) (r + 1) e tak b).map fun y => (c + y.1 + jn_cnt lv y.2 nT * miss, pre ++ ds))) = _ := funext one
    rw [hfun, rg_split _ nT hn (fun q h1 h2 => by rw [if_neg (by omega), if_neg (by omega), if_neg (by omega)])]
    rw [if_neg (by omega), if_pos rfl, if_neg (by omega), if_neg (by decide), if_pos rfl]
    rw [jn_sub]
    congr 1
    apply List.flatMap_congr
    intro q hq
    rw [if_pos (List.mem_range.mp hq)]
