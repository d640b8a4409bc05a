/-! the cells behind both constructors are those of the first memory -/
theorem kq_at {D : va_G} {a n : Nat} {cA : ClassId} {f g : Nat → Option Nat} {H : Heap} (h : va_at D am_cl (a, .inl (cA, n, .inr (.inr (.inr (.inr f))))) H) (e : ∀ j, j < n → f j = g j) : va_at D am_cl (a, .inl (cA, n, .inr (.inr (.inr (.inr g))))) H := by
  have h1 : H[a]? = some (vp_cell cA (n, .inr (.inr (.inr (.inr f))))) := h
  show H[a]? = some (vp_cell cA (n, .inr (.inr (.inr (.inr g)))))
  rw [h1, vp_cell_q, vp_cell_q]
  unfold arrV
  have e2 : (fun j : Fin n => va_rf (f j.val)) = (fun j : Fin n => va_rf (g j.val)) := by
    funext j
    rw [e j.val j.isLt]
  rw [e2]
theorem kV_at {dA : Nat → ClassId} {N p a : Nat} (hp : p < 8) (h1 : wb N p ≤ a) (h2 : a < wb N p + 9) : kV dA (N + 78) a = kF_World dA (wb N p) (wb N p + 1) a := by
  unfold kV
  unfold wb at h1 h2 ⊢
  by_cases c : p < 4
  · rw [if_pos c] at h1 h2 ⊢
    rw [if_pos (by omega), show N + 78 + 18 * ((a - (N + 78)) / 18) = N + 78 + 18 * p by omega]
  · rw [if_neg c] at h1 h2 ⊢
    rw [if_neg (by omega), show N + 78 + 18 * ((a - (N + 78)) / 18) + 9 = N + 87 + 18 * (p - 4) by omega, show N + 78 + 18 * ((a - (N + 78)) / 18) + 10 = N + 87 + 18 * (p - 4) + 1 by omega]
theorem wb_bd {N p : Nat} (hp : p < 8) : N + 78 ≤ wb N p ∧ wb N p + 9 ≤ N + 150 := by unfold wb; split <;> omega
set_option maxHeartbeats 4000000 in
set_option maxRecDepth 100000 in
theorem k_world {D : va_G} {dA : Nat → ClassId} {N rl rm b L : Nat} {xs : Nat → Int32} {H : Heap} (hw : ∀ a x, kF_Who dA N (N + 1) a = some x → va_at D am_cl (a, x) H) (hm : ∀ a x, kF_Model dA (N + 151) (N + 152) a = some x → va_at D am_cl (a, x) H) : ∀ f i, f < 59 → i < am_cnt f → va_at D am_cl (nu N rl rm b f i, am_cell (nu N rl rm b) dA (M00 L xs) f i) H := by
  have ht : ∀ a x, N + 1 ≤ a → a < N + 60 → kF_Told dA (N + 1) (N + 2) a = some x → va_at D am_cl (a, x) H := fun a x h1 h2 q => hw a x (by unfold kF_Who; rw [if_neg (by omega), if_pos (by omega)]; exact q)
  have hk : ∀ a x, N + 60 ≤ a → a < N + 150 → kF_Keeper dA (N + 60) (N + 61) a = some x → va_at D am_cl (a, x) H := fun a x h1 h2 q => hw a x (by unfold kF_Who; rw [if_neg (by omega), if_neg (by omega), if_pos (by omega)]; exact q)
  have hd : ∀ a x, N + 63 ≤ a → a < N + 78 → kF_Dealer dA (N + 63) (N + 64) a = some x → va_at D am_cl (a, x) H := fun a x h1 h2 q => hk a x (by omega) (by omega) (by unfold kF_Keeper kK; rw [if_neg (by omega), if_neg (by omega), if_neg (by omega), if_pos (by omega)]; exact q)
  have hs : ∀ a x, N + 64 ≤ a → a < N + 74 → kF_Shortlist dA (N + 64) (N + 65) a = some x → va_at D am_cl (a, x) H := fun a x h1 h2 q => hd a x (by omega) (by omega) (by unfold kF_Dealer; rw [if_neg (by omega), if_neg (by omega), if_neg (by omega), if_neg (by omega), if_neg (by omega), if_pos (by omega)]; exact q)
  have hwo : ∀ p, p < 8 → ∀ a x, wb N p ≤ a → a < wb N p + 9 → kF_World dA (wb N p) (wb N p + 1) a = some x → va_at D am_cl (a, x) H := fun p hp a x h1 h2 q => by
    have hb := wb_bd (N := N) hp
    refine hk a x (by omega) (by omega) ?_
    unfold kF_Keeper kK
    rw [if_neg (by omega), if_neg (by omega), if_neg (by omega), if_neg (by omega), if_pos (by omega)]
    exact (kV_at hp h1 h2).trans q
  intro f i hf hi
  match f, hf, hi with
  | 0, _, hi =>
    have hi : i < 1 := hi
    have hi0 : i = 0 := by omega
    subst hi0
    exact hw (N) _ (by unfold kF_Who; rw [if_pos (by omega)]; rfl)
  | 1, _, hi =>
    have hi : i < 1 := hi
    have hi0 : i = 0 := by omega
    subst hi0
    exact ht (N + 1) _ (by omega) (by omega) (by unfold kF_Told kT; rw [if_pos (by omega)]; rfl)
  | 2, _, hi =>
    have hi : i < 1 := hi
    have hi0 : i = 0 := by omega
    subst hi0
    exact ht (N + 2) _ (by omega) (by omega) (by unfold kF_Told kT; rw [if_neg (by omega), if_pos (by omega)]; rfl)
  | 3, _, hi =>
    have hi : i < 1 := hi
    have hi0 : i = 0 := by omega
    subst hi0
    exact ht (N + 3) _ (by omega) (by omega) (by unfold kF_Told kT; rw [if_neg (by omega), if_neg (by omega), if_pos (by omega)]; rfl)
  | 4, _, hi =>
    have hi : i < 1 := hi
    have hi0 : i = 0 := by omega
    subst hi0
    exact kq_at (f := fun k => if k < 13 then some (N + 2 + 6 + 4 * k) else none) (ht (N + 4) _ (by omega) (by omega) (by unfold kF_Told kT; rw [if_neg (by omega), if_neg (by omega), if_neg (by omega), if_pos (by omega)]; rfl)) (fun j hj => (if_pos (show j < 13 from hj)).trans rfl)
  | 5, _, hi =>
    have hi : i < 1 := hi
    have hi0 : i = 0 := by omega
    subst hi0
    exact ht (N + 5) _ (by omega) (by omega) (by unfold kF_Told kT; rw [if_neg (by omega), if_neg (by omega), if_neg (by omega), if_neg (by omega), if_pos (by omega)]; rfl)
  | 6, _, hi =>
    have hi : i < 1 := hi
    have hi0 : i = 0 := by omega
    subst hi0
    exact ht (N + 6) _ (by omega) (by omega) (by unfold kF_Told kT; rw [if_neg (by omega), if_neg (by omega), if_neg (by omega), if_neg (by omega), if_neg (by omega), if_pos (by omega)]; rfl)
  | 7, _, hi =>
    have hi : i < 1 := hi
    have hi0 : i = 0 := by omega
    subst hi0
    exact ht (N + 7) _ (by omega) (by omega) (by unfold kF_Told kT; rw [if_neg (by omega), if_neg (by omega), if_neg (by omega), if_neg (by omega), if_neg (by omega), if_neg (by omega), if_pos (by omega)]; rfl)
  | 8, _, hi =>
    have hi : i < 1 := hi
    have hi0 : i = 0 := by omega
    subst hi0
    exact hk (N + 60) _ (by omega) (by omega) (by unfold kF_Keeper kK; rw [if_pos (by omega)]; rfl)
  | 9, _, hi =>
    have hi : i < 2 := hi
    by_cases c : i = 0
    · subst c
      refine kq_at (f := fun k => if k < 4 then some (N + 61 + 17 + 18 * k) else none) (hk (N + 61) _ (by omega) (by omega) (by unfold kF_Keeper kK; rw [if_neg (by omega), if_pos (by omega)]; rfl)) (fun j hj => ?_)
      have hj : j < 4 := hj
      refine (if_pos hj).trans ?_
      show some _ = some (wb N (4 * 0 + j))
      unfold wb; rw [if_pos (by omega)]; congr 1; omega
    · have c : i = 1 := by omega
      subst c
      refine kq_at (f := fun k => if k < 4 then some (N + 61 + 26 + 18 * k) else none) (hk (N + 61 + 1) _ (by omega) (by omega) (by unfold kF_Keeper kK; rw [if_neg (by omega), if_neg (by omega), if_pos (by omega)]; rfl)) (fun j hj => ?_)
      have hj : j < 4 := hj
      refine (if_pos hj).trans ?_
      show some _ = some (wb N (4 * 1 + j))
      unfold wb; rw [if_neg (by omega)]; congr 1; omega
  | 10, _, hi =>
    have hi : i < 1 := hi
    have hi0 : i = 0 := by omega
    subst hi0
    exact hd (N + 63) _ (by omega) (by omega) (by unfold kF_Dealer; rw [if_pos (by omega)]; rfl)
  | 11, _, hi =>
    have hi : i < 1 := hi
    have hi0 : i = 0 := by omega
    subst hi0
    exact hs (N + 64) _ (by omega) (by omega) (by unfold kF_Shortlist kJ; rw [if_pos (by omega)]; rfl)
  | 12, _, hi =>
    have hi : i < 1 := hi
    have hi0 : i = 0 := by omega
    subst hi0
    exact kq_at (f := fun k => if k < 4 then some (N + 65 + 1 + 2 * k) else none) (hs (N + 65) _ (by omega) (by omega) (by unfold kF_Shortlist kJ; rw [if_neg (by omega), if_pos (by omega)]; rfl)) (fun j hj => (if_pos (show j < 4 from hj)).trans rfl)
  | 13, _, hi =>
    have hi : i < 1 := hi
    have hi0 : i = 0 := by omega
    subst hi0
    exact hd (N + 74) _ (by omega) (by omega) (by unfold kF_Dealer; rw [if_neg (by omega), if_pos (by omega)]; rfl)
  | 14, _, hi =>
    have hi : i < 1 := hi
    have hi0 : i = 0 := by omega
    subst hi0
    exact hd (N + 75) _ (by omega) (by omega) (by unfold kF_Dealer; rw [if_neg (by omega), if_neg (by omega), if_pos (by omega)]; rfl)
  | 15, _, hi =>
    have hi : i < 1 := hi
    have hi0 : i = 0 := by omega
    subst hi0
    exact hd (N + 76) _ (by omega) (by omega) (by unfold kF_Dealer; rw [if_neg (by omega), if_neg (by omega), if_neg (by omega), if_pos (by omega)]; rfl)
  | 16, _, hi =>
    have hi : i < 1 := hi
    have hi0 : i = 0 := by omega
    subst hi0
    exact hd (N + 77) _ (by omega) (by omega) (by unfold kF_Dealer; rw [if_neg (by omega), if_neg (by omega), if_neg (by omega), if_neg (by omega), if_pos (by omega)]; rfl)
  | 17, _, hi =>
    have hi : i < 1 := hi
    have hi0 : i = 0 := by omega
    subst hi0
    exact hw (N + 150) _ (by unfold kF_Who; rw [if_neg (by omega), if_neg (by omega), if_neg (by omega), if_pos (by omega)]; rfl)
  | 18, _, hi =>
    have hi : i < 13 := hi
    exact ht (N + 8 + 4 * i) _ (by omega) (by omega) (by unfold kF_Told kT; rw [if_neg (by omega), if_neg (by omega), if_neg (by omega), if_neg (by omega), if_neg (by omega), if_neg (by omega), if_neg (by omega), if_pos (by omega), if_pos (by omega)]; rfl)
  | 19, _, hi =>
    have hi : i < 13 := hi
    exact ht (N + 8 + 4 * i + 1) _ (by omega) (by omega) (by unfold kF_Told kT; rw [if_neg (by omega), if_neg (by omega), if_neg (by omega), if_neg (by omega), if_neg (by omega), if_neg (by omega), if_neg (by omega), if_pos (by omega), if_neg (by omega)]; rfl)
  | 20, _, hi =>
    have hi : i < 13 := hi
    exact ht (N + 8 + 4 * i + 2) _ (by omega) (by omega) (by unfold kF_Told kT; rw [if_neg (by omega), if_neg (by omega), if_neg (by omega), if_neg (by omega), if_neg (by omega), if_neg (by omega), if_neg (by omega), if_pos (by omega), if_neg (by omega)]; rfl)
  | 21, _, hi =>
    have hi : i < 13 := hi
    exact ht (N + 8 + 4 * i + 3) _ (by omega) (by omega) (by unfold kF_Told kT; rw [if_neg (by omega), if_neg (by omega), if_neg (by omega), if_neg (by omega), if_neg (by omega), if_neg (by omega), if_neg (by omega), if_pos (by omega), if_neg (by omega)]; rfl)
  | 22, _, hi =>
    have hi : i < 4 := hi
    exact hs (N + 66 + 2 * i) _ (by omega) (by omega) (by unfold kF_Shortlist kJ; rw [if_neg (by omega), if_neg (by omega), if_pos (by omega), if_pos (by omega)]; rfl)
  | 23, _, hi =>
    have hi : i < 4 := hi
    exact hs (N + 66 + 2 * i + 1) _ (by omega) (by omega) (by unfold kF_Shortlist kJ; rw [if_neg (by omega), if_neg (by omega), if_pos (by omega), if_neg (by omega)]; rfl)
  | 24, _, hi =>
    have hi : i < 8 := hi
    exact hwo i hi (wb N i) _ (by omega) (by omega) (by unfold kF_World kW; rw [if_pos (by omega)]; rfl)
  | 25, _, hi =>
    have hi : i < 8 := hi
    refine kq_at (f := fun k => if k < 6 then some (wb N i + 1 + 2 + k) else none) (hwo i hi (wb N i + 1) _ (by omega) (by omega) (by unfold kF_World kW; rw [if_neg (by omega), if_pos (by omega)]; rfl)) (fun j hj => ?_)
    have hj : j < 6 := hj
    refine (if_pos hj).trans ?_
    show some (wb N i + 1 + 2 + j) = some (wb N ((6 * i + j) / 6) + 3 + (6 * i + j) % 6)
    rw [show (6 * i + j) / 6 = i by omega, show (6 * i + j) % 6 = j by omega]
  | 26, _, hi =>
    have hi : i < 8 := hi
    exact hwo i hi (wb N i + 2) _ (by omega) (by omega) (by unfold kF_World kW; rw [if_neg (by omega), if_neg (by omega), if_pos (by omega)]; rfl)
  | 27, _, hi =>
    have hi : i < 48 := hi
    exact hwo (i / 6) (by omega) (wb N (i / 6) + 3 + i % 6) _ (by omega) (by omega) (by unfold kF_World kW; rw [if_neg (by omega), if_neg (by omega), if_neg (by omega), if_pos (by omega)]; rfl)
  | 28, _, hi =>
    have hi : i < 1 := hi
    have hi0 : i = 0 := by omega
    subst hi0
    exact hm (N + 151) _ (by unfold kF_Model; rw [if_pos (by omega)]; rfl)
  | 29, _, hi =>
    have hi : i < 1 := hi
    have hi0 : i = 0 := by omega
    subst hi0
    exact hm (N + 123 + 29) _ (by unfold kF_Model; rw [if_neg (by omega), if_pos (by omega)]; rfl)
  | 30, _, hi =>
    have hi : i < 1 := hi
    have hi0 : i = 0 := by omega
    subst hi0
    exact hm (N + 123 + 30) _ (by unfold kF_Model; rw [if_neg (by omega), if_neg (by omega), if_pos (by omega)]; rfl)
  | 31, _, hi =>
    have hi : i < 1 := hi
    have hi0 : i = 0 := by omega
    subst hi0
    exact hm (N + 123 + 31) _ (by unfold kF_Model; rw [if_neg (by omega), if_neg (by omega), if_neg (by omega), if_pos (by omega)]; rfl)
  | 32, _, hi =>
    have hi : i < 1 := hi
    have hi0 : i = 0 := by omega
    subst hi0
    exact hm (N + 123 + 32) _ (by unfold kF_Model; rw [if_neg (by omega), if_neg (by omega), if_neg (by omega), if_neg (by omega), if_pos (by omega)]; rfl)
  | 33, _, hi =>
    have hi : i < 1 := hi
    have hi0 : i = 0 := by omega
    subst hi0
    exact hm (N + 123 + 33) _ (by unfold kF_Model; rw [if_neg (by omega), if_neg (by omega), if_neg (by omega), if_neg (by omega), if_neg (by omega), if_pos (by omega)]; rfl)
  | 34, _, hi =>
    have hi : i < 1 := hi
    have hi0 : i = 0 := by omega
    subst hi0
    exact hm (N + 123 + 34) _ (by unfold kF_Model; rw [if_neg (by omega), if_neg (by omega), if_neg (by omega), if_neg (by omega), if_neg (by omega), if_neg (by omega), if_pos (by omega)]; rfl)
  | 35, _, hi =>
    have hi : i < 1 := hi
    have hi0 : i = 0 := by omega
    subst hi0
    exact hm (N + 123 + 35) _ (by unfold kF_Model; rw [if_neg (by omega), if_neg (by omega), if_neg (by omega), if_neg (by omega), if_neg (by omega), if_neg (by omega), if_neg (by omega), if_pos (by omega)]; rfl)
  | 36, _, hi =>
    have hi : i < 1 := hi
    have hi0 : i = 0 := by omega
    subst hi0
    exact hm (N + 123 + 36) _ (by unfold kF_Model; rw [if_neg (by omega), if_neg (by omega), if_neg (by omega), if_neg (by omega), if_neg (by omega), if_neg (by omega), if_neg (by omega), if_neg (by omega), if_pos (by omega)]; rfl)
  | 37, _, hi =>
    have hi : i < 1 := hi
    have hi0 : i = 0 := by omega
    subst hi0
    exact hm (N + 123 + 37) _ (by unfold kF_Model; rw [if_neg (by omega), if_neg (by omega), if_neg (by omega), if_neg (by omega), if_neg (by omega), if_neg (by omega), if_neg (by omega), if_neg (by omega), if_neg (by omega), if_pos (by omega)]; rfl)
  | 38, _, hi =>
    have hi : i < 1 := hi
    have hi0 : i = 0 := by omega
    subst hi0
    exact hm (N + 123 + 38) _ (by unfold kF_Model; rw [if_neg (by omega), if_neg (by omega), if_neg (by omega), if_neg (by omega), if_neg (by omega), if_neg (by omega), if_neg (by omega), if_neg (by omega), if_neg (by omega), if_neg (by omega), if_pos (by omega)]; rfl)
  | 39, _, hi =>
    have hi : i < 1 := hi
    have hi0 : i = 0 := by omega
    subst hi0
    exact hm (N + 123 + 39) _ (by unfold kF_Model; rw [if_neg (by omega), if_neg (by omega), if_neg (by omega), if_neg (by omega), if_neg (by omega), if_neg (by omega), if_neg (by omega), if_neg (by omega), if_neg (by omega), if_neg (by omega), if_neg (by omega), if_pos (by omega)]; rfl)
  | 40, _, hi =>
    have hi : i < 1 := hi
    have hi0 : i = 0 := by omega
    subst hi0
    exact hm (N + 123 + 40) _ (by unfold kF_Model; rw [if_neg (by omega), if_neg (by omega), if_neg (by omega), if_neg (by omega), if_neg (by omega), if_neg (by omega), if_neg (by omega), if_neg (by omega), if_neg (by omega), if_neg (by omega), if_neg (by omega), if_neg (by omega), if_pos (by omega)]; rfl)
  | 41, _, hi =>
    have hi : i < 1 := hi
    have hi0 : i = 0 := by omega
    subst hi0
    exact hm (N + 123 + 41) _ (by unfold kF_Model; rw [if_neg (by omega), if_neg (by omega), if_neg (by omega), if_neg (by omega), if_neg (by omega), if_neg (by omega), if_neg (by omega), if_neg (by omega), if_neg (by omega), if_neg (by omega), if_neg (by omega), if_neg (by omega), if_neg (by omega), if_pos (by omega)]; rfl)
  | 42, _, hi =>
    have hi : i < 1 := hi
    have hi0 : i = 0 := by omega
    subst hi0
    exact hm (N + 123 + 42) _ (by unfold kF_Model; rw [if_neg (by omega), if_neg (by omega), if_neg (by omega), if_neg (by omega), if_neg (by omega), if_neg (by omega), if_neg (by omega), if_neg (by omega), if_neg (by omega), if_neg (by omega), if_neg (by omega), if_neg (by omega), if_neg (by omega), if_neg (by omega), if_pos (by omega)]; rfl)
  | 43, _, hi =>
    have hi : i < 1 := hi
    have hi0 : i = 0 := by omega
    subst hi0
    exact hm (N + 123 + 43) _ (by unfold kF_Model; rw [if_neg (by omega), if_neg (by omega), if_neg (by omega), if_neg (by omega), if_neg (by omega), if_neg (by omega), if_neg (by omega), if_neg (by omega), if_neg (by omega), if_neg (by omega), if_neg (by omega), if_neg (by omega), if_neg (by omega), if_neg (by omega), if_neg (by omega), if_pos (by omega)]; rfl)
  | 44, _, hi =>
    have hi : i < 1 := hi
    have hi0 : i = 0 := by omega
    subst hi0
    exact hm (N + 123 + 44) _ (by unfold kF_Model; rw [if_neg (by omega), if_neg (by omega), if_neg (by omega), if_neg (by omega), if_neg (by omega), if_neg (by omega), if_neg (by omega), if_neg (by omega), if_neg (by omega), if_neg (by omega), if_neg (by omega), if_neg (by omega), if_neg (by omega), if_neg (by omega), if_neg (by omega), if_neg (by omega), if_pos (by omega)]; rfl)
  | 45, _, hi =>
    have hi : i < 1 := hi
    have hi0 : i = 0 := by omega
    subst hi0
    exact hm (N + 123 + 45) _ (by unfold kF_Model; rw [if_neg (by omega), if_neg (by omega), if_neg (by omega), if_neg (by omega), if_neg (by omega), if_neg (by omega), if_neg (by omega), if_neg (by omega), if_neg (by omega), if_neg (by omega), if_neg (by omega), if_neg (by omega), if_neg (by omega), if_neg (by omega), if_neg (by omega), if_neg (by omega), if_neg (by omega), if_pos (by omega)]; rfl)
  | 46, _, hi =>
    have hi : i < 1 := hi
    have hi0 : i = 0 := by omega
    subst hi0
    exact hm (N + 123 + 46) _ (by unfold kF_Model; rw [if_neg (by omega), if_neg (by omega), if_neg (by omega), if_neg (by omega), if_neg (by omega), if_neg (by omega), if_neg (by omega), if_neg (by omega), if_neg (by omega), if_neg (by omega), if_neg (by omega), if_neg (by omega), if_neg (by omega), if_neg (by omega), if_neg (by omega), if_neg (by omega), if_neg (by omega), if_neg (by omega), if_pos (by omega)]; rfl)
  | 47, _, hi =>
    have hi : i < 1 := hi
    have hi0 : i = 0 := by omega
    subst hi0
    exact hm (N + 123 + 47) _ (by unfold kF_Model; rw [if_neg (by omega), if_neg (by omega), if_neg (by omega), if_neg (by omega), if_neg (by omega), if_neg (by omega), if_neg (by omega), if_neg (by omega), if_neg (by omega), if_neg (by omega), if_neg (by omega), if_neg (by omega), if_neg (by omega), if_neg (by omega), if_neg (by omega), if_neg (by omega), if_neg (by omega), if_neg (by omega), if_neg (by omega), if_pos (by omega)]; rfl)
  | 48, _, hi =>
    have hi : i < 1 := hi
    have hi0 : i = 0 := by omega
    subst hi0
    exact hm (N + 123 + 48) _ (by unfold kF_Model; rw [if_neg (by omega), if_neg (by omega), if_neg (by omega), if_neg (by omega), if_neg (by omega), if_neg (by omega), if_neg (by omega), if_neg (by omega), if_neg (by omega), if_neg (by omega), if_neg (by omega), if_neg (by omega), if_neg (by omega), if_neg (by omega), if_neg (by omega), if_neg (by omega), if_neg (by omega), if_neg (by omega), if_neg (by omega), if_neg (by omega), if_pos (by omega)]; rfl)
  | 49, _, hi =>
    have hi : i < 1 := hi
    have hi0 : i = 0 := by omega
    subst hi0
    exact hm (N + 123 + 49) _ (by unfold kF_Model; rw [if_neg (by omega), if_neg (by omega), if_neg (by omega), if_neg (by omega), if_neg (by omega), if_neg (by omega), if_neg (by omega), if_neg (by omega), if_neg (by omega), if_neg (by omega), if_neg (by omega), if_neg (by omega), if_neg (by omega), if_neg (by omega), if_neg (by omega), if_neg (by omega), if_neg (by omega), if_neg (by omega), if_neg (by omega), if_neg (by omega), if_neg (by omega), if_pos (by omega)]; rfl)
  | 50, _, hi =>
    have hi : i < 1 := hi
    have hi0 : i = 0 := by omega
    subst hi0
    exact hm (N + 123 + 50) _ (by unfold kF_Model; rw [if_neg (by omega), if_neg (by omega), if_neg (by omega), if_neg (by omega), if_neg (by omega), if_neg (by omega), if_neg (by omega), if_neg (by omega), if_neg (by omega), if_neg (by omega), if_neg (by omega), if_neg (by omega), if_neg (by omega), if_neg (by omega), if_neg (by omega), if_neg (by omega), if_neg (by omega), if_neg (by omega), if_neg (by omega), if_neg (by omega), if_neg (by omega), if_neg (by omega), if_pos (by omega)]; rfl)
  | 51, _, hi =>
    have hi : i < 1 := hi
    have hi0 : i = 0 := by omega
    subst hi0
    exact hm (N + 123 + 51) _ (by unfold kF_Model; rw [if_neg (by omega), if_neg (by omega), if_neg (by omega), if_neg (by omega), if_neg (by omega), if_neg (by omega), if_neg (by omega), if_neg (by omega), if_neg (by omega), if_neg (by omega), if_neg (by omega), if_neg (by omega), if_neg (by omega), if_neg (by omega), if_neg (by omega), if_neg (by omega), if_neg (by omega), if_neg (by omega), if_neg (by omega), if_neg (by omega), if_neg (by omega), if_neg (by omega), if_neg (by omega), if_pos (by omega)]; rfl)
  | 52, _, hi =>
    have hi : i < 1 := hi
    have hi0 : i = 0 := by omega
    subst hi0
    exact hm (N + 123 + 52) _ (by unfold kF_Model; rw [if_neg (by omega), if_neg (by omega), if_neg (by omega), if_neg (by omega), if_neg (by omega), if_neg (by omega), if_neg (by omega), if_neg (by omega), if_neg (by omega), if_neg (by omega), if_neg (by omega), if_neg (by omega), if_neg (by omega), if_neg (by omega), if_neg (by omega), if_neg (by omega), if_neg (by omega), if_neg (by omega), if_neg (by omega), if_neg (by omega), if_neg (by omega), if_neg (by omega), if_neg (by omega), if_neg (by omega), if_pos (by omega)]; rfl)
  | 53, _, hi =>
    have hi : i < 1 := hi
    have hi0 : i = 0 := by omega
    subst hi0
    exact hm (N + 123 + 53) _ (by unfold kF_Model; rw [if_neg (by omega), if_neg (by omega), if_neg (by omega), if_neg (by omega), if_neg (by omega), if_neg (by omega), if_neg (by omega), if_neg (by omega), if_neg (by omega), if_neg (by omega), if_neg (by omega), if_neg (by omega), if_neg (by omega), if_neg (by omega), if_neg (by omega), if_neg (by omega), if_neg (by omega), if_neg (by omega), if_neg (by omega), if_neg (by omega), if_neg (by omega), if_neg (by omega), if_neg (by omega), if_neg (by omega), if_neg (by omega), if_pos (by omega)]; rfl)
  | 54, _, hi =>
    have hi : i < 1 := hi
    have hi0 : i = 0 := by omega
    subst hi0
    exact hm (N + 123 + 54) _ (by unfold kF_Model; rw [if_neg (by omega), if_neg (by omega), if_neg (by omega), if_neg (by omega), if_neg (by omega), if_neg (by omega), if_neg (by omega), if_neg (by omega), if_neg (by omega), if_neg (by omega), if_neg (by omega), if_neg (by omega), if_neg (by omega), if_neg (by omega), if_neg (by omega), if_neg (by omega), if_neg (by omega), if_neg (by omega), if_neg (by omega), if_neg (by omega), if_neg (by omega), if_neg (by omega), if_neg (by omega), if_neg (by omega), if_neg (by omega), if_neg (by omega), if_pos (by omega)]; rfl)
  | 55, _, hi =>
    have hi : i < 1 := hi
    have hi0 : i = 0 := by omega
    subst hi0
    exact hm (N + 123 + 55) _ (by unfold kF_Model; rw [if_neg (by omega), if_neg (by omega), if_neg (by omega), if_neg (by omega), if_neg (by omega), if_neg (by omega), if_neg (by omega), if_neg (by omega), if_neg (by omega), if_neg (by omega), if_neg (by omega), if_neg (by omega), if_neg (by omega), if_neg (by omega), if_neg (by omega), if_neg (by omega), if_neg (by omega), if_neg (by omega), if_neg (by omega), if_neg (by omega), if_neg (by omega), if_neg (by omega), if_neg (by omega), if_neg (by omega), if_neg (by omega), if_neg (by omega), if_neg (by omega), if_pos (by omega)]; rfl)
  | 56, _, hi =>
    have hi : i < 1 := hi
    have hi0 : i = 0 := by omega
    subst hi0
    exact hm (N + 123 + 56) _ (by unfold kF_Model; rw [if_neg (by omega), if_neg (by omega), if_neg (by omega), if_neg (by omega), if_neg (by omega), if_neg (by omega), if_neg (by omega), if_neg (by omega), if_neg (by omega), if_neg (by omega), if_neg (by omega), if_neg (by omega), if_neg (by omega), if_neg (by omega), if_neg (by omega), if_neg (by omega), if_neg (by omega), if_neg (by omega), if_neg (by omega), if_neg (by omega), if_neg (by omega), if_neg (by omega), if_neg (by omega), if_neg (by omega), if_neg (by omega), if_neg (by omega), if_neg (by omega), if_neg (by omega), if_pos (by omega)]; rfl)
  | 57, _, hi =>
    have hi : i < 1 := hi
    have hi0 : i = 0 := by omega
    subst hi0
    exact hm (N + 123 + 57) _ (by unfold kF_Model; rw [if_neg (by omega), if_neg (by omega), if_neg (by omega), if_neg (by omega), if_neg (by omega), if_neg (by omega), if_neg (by omega), if_neg (by omega), if_neg (by omega), if_neg (by omega), if_neg (by omega), if_neg (by omega), if_neg (by omega), if_neg (by omega), if_neg (by omega), if_neg (by omega), if_neg (by omega), if_neg (by omega), if_neg (by omega), if_neg (by omega), if_neg (by omega), if_neg (by omega), if_neg (by omega), if_neg (by omega), if_neg (by omega), if_neg (by omega), if_neg (by omega), if_neg (by omega), if_neg (by omega), if_pos (by omega)]; rfl)
  | 58, _, hi =>
    have hi : i < 1 := hi
    have hi0 : i = 0 := by omega
    subst hi0
    exact hm (N + 123 + 58) _ (by unfold kF_Model; rw [if_neg (by omega), if_neg (by omega), if_neg (by omega), if_neg (by omega), if_neg (by omega), if_neg (by omega), if_neg (by omega), if_neg (by omega), if_neg (by omega), if_neg (by omega), if_neg (by omega), if_neg (by omega), if_neg (by omega), if_neg (by omega), if_neg (by omega), if_neg (by omega), if_neg (by omega), if_neg (by omega), if_neg (by omega), if_neg (by omega), if_neg (by omega), if_neg (by omega), if_neg (by omega), if_neg (by omega), if_neg (by omega), if_neg (by omega), if_neg (by omega), if_neg (by omega), if_neg (by omega), if_neg (by omega), if_pos (by omega)]; rfl)
  | f + 59, h, _ => omega
