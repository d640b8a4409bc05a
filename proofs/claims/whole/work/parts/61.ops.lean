/-! WHAT A CALL DOES, purely: the calls that tell -/
def fu {α : Type} (f : Nat → α) (k : Nat) (x : α) : Nat → α := fun j => if j = k then x else f j
theorem fu_at {α : Type} (f : Nat → α) (k : Nat) (x : α) : fu f k x k = x := if_pos rfl
theorem fu_ne {α : Type} (f : Nat → α) {k j : Nat} (x : α) (h : j ≠ k) : fu f k x j = f j := if_neg h
def op_watcher (g : sg) : sg × Int32 := if sg_W g = 3 then (g, -4) else (((sg_W g + 1, g.1.2), g.2), nI (sg_W g))
def ta_sh (τ : ta) (k : Nat) (a b : Int32) : ta := (ta_n τ, fu (ta_sa τ) k a, fu (ta_sb τ) k b, ta_wt τ, ta_mo τ, ta_dn τ, ta_dx τ, ta_dy τ, ta_dm τ, ta_kd τ, ta_ru τ)
def op_shift (g : sg) (w a b : Int32) : sg × Int32 := match ix w (sg_W g) with
  | some k => if (-50 ≤ a ∧ a ≤ 50) ∧ (-50 ≤ b ∧ b ≤ 50) then ((g.1, ta_sh g.2 k a b), 0) else (g, -2)
  | none => (g, -1)
def op_dot (g : sg) (x y k : Int32) : sg × Int32 := if (-1000 ≤ x ∧ x ≤ 1000) ∧ (-1000 ≤ y ∧ y ≤ 1000) ∧ (0 ≤ k ∧ k ≤ 9) then (if sg_q g = 4 then (g, -4) else (((sg_W g, sg_q g + 1, fu (sg_x g) (sg_q g) x, fu (sg_y g) (sg_q g) y, fu (sg_m g) (sg_q g) k.toInt.toNat), g.2), nI (sg_q g + 1))) else (g, -2)
def ta_sc (g : sg) (k : Nat) (m : Int32) : ta := (ta_n g.2 + 1, ta_sa g.2, ta_sb g.2, fu (ta_wt g.2) (ta_n g.2) k, fu (ta_mo g.2) (ta_n g.2) m.toInt.toNat, fu (ta_dn g.2) (ta_n g.2) (sg_q g), fu (ta_dx g.2) (ta_n g.2) (sg_x g), fu (ta_dy g.2) (ta_n g.2) (sg_y g), fu (ta_dm g.2) (ta_n g.2) (sg_m g), ta_kd g.2, ta_ru g.2)
def op_scan (g : sg) (w m : Int32) : sg × Int32 := match ix w (sg_W g) with
  | some k => if 0 ≤ m ∧ m ≤ 999 then (if ta_n g.2 = 12 then (g, -4) else (((sg_W g, 0, sg_x g, sg_y g, sg_m g), ta_sc g k m), nI (ta_n g.2))) else (g, -2)
  | none => (g, -1)
def fd {α : Type} (f : Nat → α) (k : Nat) : Nat → α := fun j => if j < k then f j else f (j + 1)
theorem fd_lt {α : Type} (f : Nat → α) {k j : Nat} (h : j < k) : fd f k j = f j := if_pos h
theorem fd_ge {α : Type} (f : Nat → α) {k j : Nat} (h : ¬ j < k) : fd f k j = f (j + 1) := if_neg h
def ta_dr (τ : ta) (k : Nat) : ta := (ta_n τ - 1, ta_sa τ, ta_sb τ, fd (ta_wt τ) k, fd (ta_mo τ) k, fd (ta_dn τ) k, fd (ta_dx τ) k, fd (ta_dy τ) k, fd (ta_dm τ) k, ta_kd τ, ta_ru τ)
def op_drop (g : sg) (s : Int32) : sg × Int32 := match ix s (ta_n g.2) with
  | some k => ((g.1, ta_dr g.2 k), nI (ta_n g.2 - 1))
  | none => (g, -1)
def ta_ki (τ : ta) (m k : Nat) : ta := (ta_n τ, ta_sa τ, ta_sb τ, ta_wt τ, ta_mo τ, ta_dn τ, ta_dx τ, ta_dy τ, ta_dm τ, fu (ta_kd τ) m k, ta_ru τ)
def op_kind (g : sg) (m k : Int32) : sg × Int32 := if 1 ≤ m ∧ m ≤ 9 then (if 0 ≤ k ∧ k ≤ 2 then ((g.1, ta_ki g.2 m.toInt.toNat k.toInt.toNat), nI (ta_kd g.2 m.toInt.toNat)) else (g, -2)) else (g, -1)
def ta_rl (τ : ta) (m k : Nat) : ta := (ta_n τ, ta_sa τ, ta_sb τ, ta_wt τ, ta_mo τ, ta_dn τ, ta_dx τ, ta_dy τ, ta_dm τ, ta_kd τ, fu (ta_ru τ) m k)
def op_rule (g : sg) (m v : Int32) : sg × Int32 := match ix m 6 with
  | some k => if am_stT 59 k ≤ v ∧ v ≤ am_stT 60 k then ((g.1, ta_rl g.2 k v.toInt.toNat), nI (ta_ru g.2 k)) else (g, -2)
  | none => (g, -1)
def op_right (g : sg) (w u : Int32) : sg × Int32 := match ix w (sg_W g) with
  | some a => (match ix u (sg_W g) with
    | some b => if a = b then (g, -2) else if (prs g.2 a b).1 = 0 then (g, -3) else ((g.1, ta_sh g.2 b (rg_a g.2 a b) (rg_b g.2 a b)), rg_n g.2 a b)
    | none => (g, -1))
  | none => (g, -1)
theorem ix_inv {w : Int32} {n k : Nat} (h : ix w n = some k) : k < n ∧ w.toInt = k := by
  unfold ix at h
  split at h
  · cases h; omega
  · cases h
theorem iz_in {x : Int32} {a b : Int32} {z : Int} (ha : a.toInt = -z) (hb : b.toInt = z) (h : a ≤ x ∧ x ≤ b) : ta_in x z := by
  have h1 := Int32.le_iff_toInt_le.mp h.1
  have h2 := Int32.le_iff_toInt_le.mp h.2
  exact ⟨by omega, by omega⟩
theorem iz_rg {x : Int32} {a b : Int32} {m n : Nat} (ha : a.toInt = m) (hb : b.toInt = n) (h : a ≤ x ∧ x ≤ b) : m ≤ x.toInt.toNat ∧ x.toInt.toNat ≤ n ∧ (n < 2 ^ 31 → x = nI x.toInt.toNat) := by
  have h1 := Int32.le_iff_toInt_le.mp h.1
  have h2 := Int32.le_iff_toInt_le.mp h.2
  exact ⟨by omega, by omega, fun hn => iz_nI (by omega) (by omega)⟩
theorem iP_watcher {g : sg} (h : iP g) : iP (op_watcher g).1 := by
  unfold op_watcher
  split
  · exact h
  · rename_i c
    obtain ⟨h1, h2, h3, h4, h5⟩ := h
    exact ⟨h1, by show sg_W g + 1 ≤ 3; omega, h3, h4, fun w hw => h5 w (by have : sg_W g + 1 ≤ w := hw; omega)⟩
theorem ta_sh_ok {τ : ta} (h : ta_ok τ) {k : Nat} {a b : Int32} (ha : ta_in a 50) (hb : ta_in b 50) : ta_ok (ta_sh τ k a b) := by
  obtain ⟨h1, h2, h3⟩ := h
  refine ⟨h1, fun w hw => ?_, h3⟩
  show ta_in (fu (ta_sa τ) k a w) 50 ∧ ta_in (fu (ta_sb τ) k b w) 50
  by_cases c : w = k
  · rw [c, fu_at, fu_at]; exact ⟨ha, hb⟩
  · rw [fu_ne _ _ c, fu_ne _ _ c]; exact h2 w hw
theorem iP_sh {g : sg} (h : iP g) {k : Nat} (hk : k < sg_W g) {a b : Int32} (ha : ta_in a 50) (hb : ta_in b 50) : iP (g.1, ta_sh g.2 k a b) := by
  obtain ⟨h1, h2, h3, h4, h5⟩ := h
  refine ⟨ta_sh_ok h1 ha hb, h2, h3, h4, fun w hw hw3 => ?_⟩
  have hw : sg_W g ≤ w := hw
  show fu (ta_sa g.2) k a w = 0 ∧ fu (ta_sb g.2) k b w = 0
  rw [fu_ne _ _ (by omega), fu_ne _ _ (by omega)]; exact h5 w hw hw3
theorem iP_shift {g : sg} (h : iP g) (w a b : Int32) : iP (op_shift g w a b).1 := by
  unfold op_shift
  split
  · rename_i k hk
    split
    · rename_i c
      exact iP_sh h (ix_inv hk).1 (iz_in (by decide) (by decide) c.1) (iz_in (by decide) (by decide) c.2)
    · exact h
  · exact h
theorem iP_dot {g : sg} (h : iP g) (x y k : Int32) : iP (op_dot g x y k).1 := by
  unfold op_dot
  split
  · rename_i c
    split
    · exact h
    · rename_i c4
      obtain ⟨h1, h2, h3, h4, h5⟩ := h
      refine ⟨h1, h2, by show sg_q g + 1 ≤ 4; omega, fun e he => ?_, h5⟩
      have he : e < sg_q g + 1 := he
      show ta_in (fu (sg_x g) (sg_q g) x e) 1000 ∧ ta_in (fu (sg_y g) (sg_q g) y e) 1000 ∧ fu (sg_m g) (sg_q g) k.toInt.toNat e ≤ 9
      by_cases ce : e = sg_q g
      · rw [ce, fu_at, fu_at, fu_at]
        exact ⟨iz_in (by decide) (by decide) c.1, iz_in (by decide) (by decide) c.2.1, (iz_rg (m := 0) (n := 9) (by decide) (by decide) c.2.2).2.1⟩
      · rw [fu_ne _ _ ce, fu_ne _ _ ce, fu_ne _ _ ce]; exact h4 e (by omega)
  · exact h
theorem iP_scan {g : sg} (h : iP g) (w m : Int32) : iP (op_scan g w m).1 := by
  unfold op_scan
  split
  · rename_i k hk
    split
    · rename_i c
      split
      · exact h
      · rename_i c12
        obtain ⟨h1, h2, h3, h4, h5⟩ := h
        refine ⟨?_, h2, by show 0 ≤ 4; omega, fun e he => absurd he (Nat.not_lt_zero e), h5⟩
        obtain ⟨t1, t2, t3, t4⟩ := h1
        refine ⟨by show ta_n g.2 + 1 ≤ 12; omega, t2, fun s hs => ?_, t4⟩
        have hs : s < ta_n g.2 + 1 := hs
        show fu (ta_wt g.2) (ta_n g.2) k s < 3 ∧ fu (ta_mo g.2) (ta_n g.2) m.toInt.toNat s ≤ 999 ∧ fu (ta_dn g.2) (ta_n g.2) (sg_q g) s ≤ 4 ∧ ∀ d, d < fu (ta_dn g.2) (ta_n g.2) (sg_q g) s → ta_in (fu (ta_dx g.2) (ta_n g.2) (sg_x g) s d) 1000 ∧ ta_in (fu (ta_dy g.2) (ta_n g.2) (sg_y g) s d) 1000 ∧ fu (ta_dm g.2) (ta_n g.2) (sg_m g) s d ≤ 9
        by_cases cs : s = ta_n g.2
        · rw [cs, fu_at, fu_at, fu_at, fu_at, fu_at, fu_at]
          exact ⟨by have := (ix_inv hk).1; omega, (iz_rg (m := 0) (n := 999) (by decide) (by decide) c).2.1, h3, h4⟩
        · rw [fu_ne _ _ cs, fu_ne _ _ cs, fu_ne _ _ cs, fu_ne _ _ cs, fu_ne _ _ cs, fu_ne _ _ cs]
          exact t3 s (by omega)
    · exact h
  · exact h
theorem iP_drop {g : sg} (h : iP g) (s : Int32) : iP (op_drop g s).1 := by
  unfold op_drop
  split
  · rename_i k hk
    have hk := (ix_inv hk).1
    obtain ⟨h1, h2, h3, h4, h5⟩ := h
    refine ⟨?_, h2, h3, h4, h5⟩
    obtain ⟨t1, t2, t3, t4⟩ := h1
    refine ⟨by show ta_n g.2 - 1 ≤ 12; omega, t2, fun s hs => ?_, t4⟩
    have hs : s < ta_n g.2 - 1 := hs
    show fd (ta_wt g.2) k s < 3 ∧ fd (ta_mo g.2) k s ≤ 999 ∧ fd (ta_dn g.2) k s ≤ 4 ∧ ∀ d, d < fd (ta_dn g.2) k s → ta_in (fd (ta_dx g.2) k s d) 1000 ∧ ta_in (fd (ta_dy g.2) k s d) 1000 ∧ fd (ta_dm g.2) k s d ≤ 9
    by_cases c : s < k
    · rw [fd_lt _ c, fd_lt _ c, fd_lt _ c, fd_lt _ c, fd_lt _ c, fd_lt _ c]; exact t3 s (by omega)
    · rw [fd_ge _ c, fd_ge _ c, fd_ge _ c, fd_ge _ c, fd_ge _ c, fd_ge _ c]; exact t3 (s + 1) (by omega)
  · exact h
theorem iP_kind {g : sg} (h : iP g) (m k : Int32) : iP (op_kind g m k).1 := by
  unfold op_kind
  split
  · split
    · rename_i c2
      obtain ⟨⟨t1, t2, t3, t4, t5⟩, h2⟩ := h
      refine ⟨⟨t1, t2, t3, fun j hj => ?_, t5⟩, h2⟩
      show fu (ta_kd g.2) m.toInt.toNat k.toInt.toNat j ≤ 2
      by_cases c : j = m.toInt.toNat
      · rw [c, fu_at]; exact (iz_rg (m := 0) (n := 2) (by decide) (by decide) c2).2.1
      · rw [fu_ne _ _ c]; exact t4 j hj
    · exact h
  · exact h
theorem iP_rule {g : sg} (h : iP g) (m v : Int32) : iP (op_rule g m v).1 := by
  unfold op_rule
  split
  · rename_i k hk
    have hk := (ix_inv hk).1
    split
    · rename_i c
      obtain ⟨⟨t1, t2, t3, t4, t5, t6, t7, t8, t9, t10⟩, h2⟩ := h
      have key : ∀ j, fu (ta_ru g.2) k v.toInt.toNat j = if j = k then v.toInt.toNat else ta_ru g.2 j := fun _ => rfl
      refine ⟨⟨t1, t2, t3, t4, ?_⟩, h2⟩
      show fu (ta_ru g.2) k v.toInt.toNat 0 ≤ 500 ∧ fu (ta_ru g.2) k v.toInt.toNat 1 ≤ 100000 ∧ fu (ta_ru g.2) k v.toInt.toNat 2 ≤ 100000 ∧ fu (ta_ru g.2) k v.toInt.toNat 3 ≤ 100000 ∧ (1 ≤ fu (ta_ru g.2) k v.toInt.toNat 4 ∧ fu (ta_ru g.2) k v.toInt.toNat 4 ≤ 9) ∧ (1 ≤ fu (ta_ru g.2) k v.toInt.toNat 5 ∧ fu (ta_ru g.2) k v.toInt.toNat 5 ≤ 4)
      rw [key, key, key, key, key, key]
      match k, hk, c with
      | 0, _, c => have z := iz_rg (m := 0) (n := 500) (by decide) (by decide) c; exact ⟨z.2.1, t6, t7, t8, t9, t10⟩
      | 1, _, c => have z := iz_rg (m := 0) (n := 100000) (by decide) (by decide) c; exact ⟨t5, z.2.1, t7, t8, t9, t10⟩
      | 2, _, c => have z := iz_rg (m := 0) (n := 100000) (by decide) (by decide) c; exact ⟨t5, t6, z.2.1, t8, t9, t10⟩
      | 3, _, c => have z := iz_rg (m := 0) (n := 100000) (by decide) (by decide) c; exact ⟨t5, t6, t7, z.2.1, t9, t10⟩
      | 4, _, c => have z := iz_rg (m := 1) (n := 9) (by decide) (by decide) c; exact ⟨t5, t6, t7, t8, ⟨z.1, z.2.1⟩, t10⟩
      | 5, _, c => have z := iz_rg (m := 1) (n := 4) (by decide) (by decide) c; exact ⟨t5, t6, t7, t8, t9, ⟨z.1, z.2.1⟩⟩
      | k + 6, hk, _ => omega
    · exact h
  · exact h
theorem k50_in (x : Int32) : ta_in (k50 x) 50 := by
  have e1 : (50 : Int32).toInt = 50 := by decide
  have e2 : (-50 : Int32).toInt = -50 := by decide
  unfold k50
  split
  · unfold ta_in; rw [e2]; omega
  · rename_i c
    split
    · unfold ta_in; rw [e1]; omega
    · rename_i c2
      rw [Int32.lt_iff_toInt_lt, e2] at c
      rw [Int32.lt_iff_toInt_lt, e1] at c2
      exact ⟨by omega, by omega⟩
theorem iP_right {g : sg} (h : iP g) (w u : Int32) : iP (op_right g w u).1 := by
  unfold op_right
  split
  · rename_i a ha
    split
    · rename_i b hb
      split
      · exact h
      · split
        · exact h
        · exact iP_sh h (ix_inv hb).1 (k50_in _) (k50_in _)
    · exact h
  · exact h
