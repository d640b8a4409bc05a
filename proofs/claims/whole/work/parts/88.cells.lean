/-! how a write of the abstract machine changes its cells -/
theorem am_i_e {st : List am_V} {K : Int32 → List am_V → Prop} (h : am_i st K) : ∃ x r, st = .inl x :: r ∧ K x r := by
  unfold am_i at h; split at h
  · exact ⟨_, _, rfl, h⟩
  · exact h.elim
theorem am_r_e {st : List am_V} {K : Nat → Nat → List am_V → Prop} (h : am_r st K) : ∃ f i r, st = .inr (.inl (f, i)) :: r ∧ K f i r := by
  unfold am_r at h; split at h
  · exact ⟨_, _, _, rfl, h⟩
  · exact h.elim
theorem am_l_e {st : List am_V} {K : Int64 → List am_V → Prop} (h : am_l st K) : ∃ x r, st = .inr (.inr x) :: r ∧ K x r := by
  unfold am_l at h; split at h
  · exact ⟨_, _, rfl, h⟩
  · exact h.elim
theorem am_ii_e {st : List am_V} {K : Int32 → Int32 → List am_V → Prop} (h : am_ii st K) : ∃ x y r, st = .inl y :: .inl x :: r ∧ K x y r := by
  obtain ⟨y, r1, e1, h1⟩ := am_i_e h
  obtain ⟨x, r2, e2, h2⟩ := am_i_e h1
  exact ⟨x, y, r2, by rw [e1, e2], h2⟩
theorem am_ll_e {st : List am_V} {K : Int64 → Int64 → List am_V → Prop} (h : am_ll st K) : ∃ x y r, st = .inr (.inr y) :: .inr (.inr x) :: r ∧ K x y r := by
  obtain ⟨y, r1, e1, h1⟩ := am_l_e h
  obtain ⟨x, r2, e2, h2⟩ := am_l_e h1
  exact ⟨x, y, r2, by rw [e1, e2], h2⟩
theorem am_vi_e {v : Option am_V} {K : Int32 → Prop} (h : am_vi v K) : ∃ x, v = some (.inl x) ∧ K x := by
  unfold am_vi at h; split at h
  · exact ⟨_, rfl, h⟩
  · exact h.elim
theorem am_vr_e {v : Option am_V} {K : Nat → Nat → Prop} (h : am_vr v K) : ∃ f i, v = some (.inr (.inl (f, i))) ∧ K f i := by
  unfold am_vr at h; split at h
  · exact ⟨_, _, rfl, h⟩
  · exact h.elim
theorem am_vl_e {v : Option am_V} {K : Int64 → Prop} (h : am_vl v K) : ∃ x, v = some (.inr (.inr x)) ∧ K x := by
  unfold am_vl at h; split at h
  · exact ⟨_, rfl, h⟩
  · exact h.elim
theorem am_b_e {c : Bool} {P : Prop} (h : bif c then P else False) : c = true ∧ P := by
  cases c
  · exact h.elim
  · exact ⟨rfl, h⟩
theorem am_bf {a b : Nat} (h : a ≠ b) : Nat.beq a b = false := by
  cases hb : Nat.beq a b with
  | false => rfl
  | true => exact absurd (Nat.eq_of_beq_eq_true hb) h
theorem am_sv_at {M : am_M} {f n j f' k : Nat} : (am_sv M f n j).2.1 f' k = if f' = f ∧ k = n then j else M.2.1 f' k := rfl
theorem am_nth_ge {α : Type} {l : List α} {k : Nat} {d : α} (h : l.length ≤ k) : am_nth l k d = d := by
  induction l generalizing k with
  | nil => rfl
  | cons a l ih => cases k with
    | zero => simp at h
    | succ k => exact ih (by simp at h; omega)
theorem am_fam_ge {f : Nat} (h : 62 ≤ f) : am_kind f = 9 := by
  unfold am_kind; rw [am_nth_ge (show am_fam.length ≤ f from h)]
theorem am_k0' : ∀ f, f < 62 → am_kind f = 0 → f < 59 ∧ am_cls f < 11 ∧ am_len0 f = am_Nc (am_cls f) := by decide +kernel
theorem am_k0 {f : Nat} (h : am_kind f = 0) : f < 59 ∧ am_cls f < 11 ∧ am_len0 f = am_Nc (am_cls f) := by
  rcases Nat.lt_or_ge f 62 with q | q
  · exact am_k0' f q h
  · rw [am_fam_ge q] at h; cases h
theorem am_k1' : ∀ f, f < 62 → am_kind f = 1 → f < 59 ∨ f = 59 ∨ f = 60 ∨ f = 61 := by decide +kernel
theorem am_k1 {f : Nat} (h : am_kind f = 1) : f < 59 ∨ f = 59 ∨ f = 60 ∨ f = 61 := by
  rcases Nat.lt_or_ge f 62 with q | q
  · exact am_k1' f q h
  · rw [am_fam_ge q] at h; cases h
theorem am_k2' : ∀ f, f < 62 → am_kind f = 2 → f < 59 := by decide +kernel
theorem am_k2 {f : Nat} (h : am_kind f = 2) : f < 59 := by
  rcases Nat.lt_or_ge f 62 with q | q
  · exact am_k2' f q h
  · rw [am_fam_ge q] at h; cases h
theorem am_k3' : ∀ f, f < 62 → am_kind f = 3 → f = 4 ∨ f = 9 ∨ f = 12 ∨ f = 25 := by decide +kernel
theorem am_k3 {f : Nat} (h : am_kind f = 3) : f = 4 ∨ f = 9 ∨ f = 12 ∨ f = 25 := by
  rcases Nat.lt_or_ge f 62 with q | q
  · exact am_k3' f q h
  · rw [am_fam_ge q] at h; cases h
theorem am_l0' : ∀ f, f < 62 → am_len0 f < 400 := by decide +kernel
theorem am_l0 (f : Nat) : am_len0 f < 400 := by
  rcases Nat.lt_or_ge f 62 with q | q
  · exact am_l0' f q
  · unfold am_len0; rw [am_nth_ge (show am_fam.length ≤ f from q)]; decide
theorem am_len_lt (M : am_M) (f : Nat) : am_len M f < 2 ^ 31 := by
  unfold am_len
  cases Nat.beq f 61
  · have := am_l0 f; show am_len0 f < _; omega
  · show (M.1 61 1 0).toNatClampNeg < _
    have := Int32.toInt_lt (M.1 61 1 0)
    have h2 : (M.1 61 1 0).toNatClampNeg = (M.1 61 1 0).toInt.toNat := rfl
    omega
theorem am_len_eq {M : am_M} {f : Nat} (h : f ≠ 61) : am_len M f = am_len0 f := by
  unfold am_len
  rw [am_bf h]; rfl
theorem am_cl_full : ∀ c, c < 11 → am_cl[c]? = some (am_on c, am_Tc c, am_Nc c) := fun c h => match c, h with
  | 0, _ => rfl | 1, _ => rfl | 2, _ => rfl | 3, _ => rfl | 4, _ => rfl | 5, _ => rfl | 6, _ => rfl | 7, _ => rfl | 8, _ => rfl | 9, _ => rfl | 10, _ => rfl
  | n + 11, h => absurd h (by omega)
theorem am_fty0 : ∀ c, c < 11 → ∀ k, k < am_Nc c → am_fty c k = 0 → am_Yc c k = .int ∧ (am_Tc c k).2.2.2 = false := by decide +kernel
theorem am_fty1 : ∀ c, c < 11 → ∀ k, k < am_Nc c → am_fty c k = 1 → am_Yc c k = .boolean ∧ (am_Tc c k).2.2.2 = false := by decide +kernel
theorem am_fv_c {M M' : am_M} {c f i k : Nat} (h1 : M'.1 f i k = M.1 f i k) (h2 : am_fty c k = 2 → am_riF M' f i k = am_riF M f i k) (h3 : am_fty c k = 3 → M'.2.2 = M.2.2) : am_fv M' c f i k = am_fv M c f i k := by
  unfold am_fv
  split
  · rename_i h; rw [h2 h]
  · rename_i h; rw [h3 h]
  · rw [h1]
theorem am_cell_c {ν : Nat → Nat → Nat} {dA : Nat → ClassId} {M M' : am_M} {f i : Nat} (h1 : M'.1 f i = M.1 f i) (h2 : ∀ k, am_riF M' f i k = am_riF M f i k) (h3 : ∀ k, k < am_len0 f → am_kind f = 0 → am_fty (am_cls f) k = 3 → M'.2.2 = M.2.2) (h4 : ∀ k, am_kind f = 3 → am_riA M' f i k = am_riA M f i k) : am_cell ν dA M' f i = am_cell ν dA M f i := by
  unfold am_cell
  split
  · rename_i hk
    congr 2
    apply List.map_congr_left
    intro k hkm
    rw [am_fv_c (by rw [h1]) (fun _ => h2 k) (h3 k (List.mem_range.mp hkm) hk)]
  · rw [h1]
  · rw [h1]
  · rename_i n e1 e2 e3
    have e : (fun k => some (ν (am_rfA f) (am_riA M' f i k))) = (fun k => some (ν (am_rfA f) (am_riA M f i k))) := by
      funext k
      by_cases hk : am_kind f = 3
      · rw [h4 k hk]
      · have hf : 62 ≤ f := by
          rcases Nat.lt_or_ge f 62 with q | q
          · have : ∀ f, f < 62 → am_kind f = 0 ∨ am_kind f = 1 ∨ am_kind f = 2 ∨ am_kind f = 3 := by decide +kernel
            rcases this f q with z | z | z | z
            · exact absurd z e1
            · exact absurd z e2
            · exact absurd z e3
            · exact absurd z hk
          · exact q
        unfold am_riA
        rw [am_bf (show f ≠ 4 by omega), am_bf (show f ≠ 12 by omega)]; rfl
    rw [e]
theorem am_si_row {M : am_M} {f i k f' i' : Nat} {x : Int32} (h : (f', i') ≠ (f, i)) : (am_si M f i k x).1 f' i' = M.1 f' i' := by
  funext k'
  show (if f' = f ∧ i' = i ∧ k' = k then x else M.1 f' i' k') = _
  rw [if_neg]
  rintro ⟨rfl, rfl, -⟩
  exact h rfl
theorem am_si_upd {M : am_M} {f i k : Nat} {x : Int32} : (am_si M f i k x).1 f i = upd (M.1 f i) k x := by
  funext k'
  show (if f = f ∧ i = i ∧ k' = k then x else M.1 f i k') = if k' = k then x else M.1 f i k'
  simp
theorem am_si_other {ν : Nat → Nat → Nat} {dA : Nat → ClassId} {M : am_M} {f i k : Nat} {x : Int32} : ∀ f' i', (f', i') ∈ am_nms → (f', i') ≠ (f, i) → am_cell ν dA (am_si M f i k x) f' i' = am_cell ν dA M f' i' :=
  fun f' i' _ h => am_cell_c (am_si_row h) (fun _ => rfl) (fun _ _ _ _ => rfl) (fun _ _ => rfl)
theorem am_si_obj {ν : Nat → Nat → Nat} {dA : Nat → ClassId} {M : am_M} {f i k : Nat} {x : Int32} (hk : am_kind f = 0) (ht : am_fty (am_cls f) k = 0 ∨ am_fty (am_cls f) k = 1) : am_cell ν dA (am_si M f i k x) f i = .inr (am_cls f, ((List.range (am_len0 f)).map fun k => am_rv ν (am_fv M (am_cls f) f i k)).set k (.int x)) := by
  rw [show am_cell ν dA (am_si M f i k x) f i = .inr (am_cls f, (List.range (am_len0 f)).map fun j => am_rv ν (am_fv (am_si M f i k x) (am_cls f) f i j)) from by unfold am_cell; rw [hk]; rfl]
  refine congrArg (fun z => (.inr (am_cls f, z) : va_E)) ?_
  apply List.ext_getElem?
  intro j
  rw [List.getElem?_map]
  by_cases hj : j < am_len0 f
  · rw [List.getElem?_range hj]
    by_cases e : j = k
    · subst e
      rw [List.getElem?_set_self (by simpa using hj)]
      have : am_fv (am_si M f i j x) (am_cls f) f i j = .inl x := by
        unfold am_fv
        have hx : (am_si M f i j x).1 f i j = x := by rw [am_si_upd]; simp [upd]
        rcases ht with ht | ht <;> rw [ht] <;> simp [hx]
      show some (am_rv ν (am_fv (am_si M f i j x) (am_cls f) f i j)) = _
      rw [this]; rfl
    · rw [List.getElem?_set_ne (Ne.symm e), List.getElem?_map, List.getElem?_range hj]
      show some (am_rv ν (am_fv (am_si M f i k x) (am_cls f) f i j)) = some (am_rv ν (am_fv M (am_cls f) f i j))
      rw [am_fv_c (M := M) (M' := am_si M f i k x) (by rw [am_si_upd]; simp [upd, e]) (fun _ => rfl) (fun _ => rfl)]
  · have h1 : (List.range (am_len0 f))[j]? = none := by simp; omega
    rw [h1, List.getElem?_eq_none (by simp; omega)]; rfl
theorem am_sl_other {ν : Nat → Nat → Nat} {dA : Nat → ClassId} {M : am_M} {x : Int64} : ∀ f' i', (f', i') ∈ am_nms → (f', i') ≠ (10, 0) → am_cell ν dA (am_sl M x) f' i' = am_cell ν dA M f' i' := by
  intro f' i' hm hne
  refine am_cell_c rfl (fun _ => rfl) (fun k hk h0 h3 => ?_) (fun _ _ => rfl)
  exfalso
  obtain ⟨hf, hi⟩ := am_nms_ok hm
  have key : ∀ f, f < 59 → ∀ k, k < am_len0 f → am_kind f = 0 → am_fty (am_cls f) k = 3 → f = 10 := by decide +kernel
  have := key f' hf k hk h0 h3
  subst this
  have : i' = 0 := by have h1 : am_cnt 10 = 1 := rfl; rw [h1] at hi; omega
  subst this
  exact hne rfl
theorem am_sl_obj {ν : Nat → Nat → Nat} {dA : Nat → ClassId} {M : am_M} {x : Int64} : am_cell ν dA (am_sl M x) 10 0 = .inr (3, ((List.range 12).map fun k => am_rv ν (am_fv M 3 10 0 k)).set 4 (.long x)) := rfl
theorem am_sv_keep {ν : Nat → Nat → Nat} {dA : Nat → ClassId} {M : am_M} {b j : Nat} : ∀ f' i', (f', i') ∈ am_nms → (f', i') ≠ (8, 0) → am_cell ν dA (am_sv M 8 b j) f' i' = am_cell ν dA M f' i' := by
  intro f' i' hm hne
  obtain ⟨hf, hi⟩ := am_nms_ok hm
  have h8 : f' ≠ 8 := by
    rintro rfl
    have h1 : am_cnt 8 = 1 := rfl
    rw [h1] at hi
    have : i' = 0 := by omega
    subst this; exact hne rfl
  refine am_cell_c rfl (fun k => ?_) (fun _ _ _ _ => rfl) (fun k _ => ?_)
  · unfold am_riF
    rw [am_bf h8]; rfl
  · unfold am_riA
    show (bif Nat.beq f' 4 then (am_sv M 8 b j).2.1 4 k else bif Nat.beq f' 12 then (am_sv M 8 b j).2.1 12 k else _) = _
    have e1 : (am_sv M 8 b j).2.1 4 k = M.2.1 4 k := by rw [am_sv_at, if_neg (by omega)]
    have e2 : (am_sv M 8 b j).2.1 12 k = M.2.1 12 k := by rw [am_sv_at, if_neg (by omega)]
    rw [e1, e2]
theorem am_sv_obj {ν : Nat → Nat → Nat} {dA : Nat → ClassId} {M : am_M} {b j : Nat} (hb : b = 0 ∨ b = 2) : am_cell ν dA (am_sv M 8 b j) 8 0 = .inr (2, ((List.range 4).map fun k => am_rv ν (am_fv M 2 8 0 k)).set b (.ref (ν 9 j))) := by
  rcases hb with rfl | rfl <;> rfl
theorem am_sv_arr {ν : Nat → Nat → Nat} {dA : Nat → ClassId} {M : am_M} {f n j : Nat} (hf : f = 4 ∨ f = 12) : ∀ f' i', (f', i') ∈ am_nms → (f', i') ≠ (f, 0) → am_cell ν dA (am_sv M f n j) f' i' = am_cell ν dA M f' i' := by
  intro f' i' hm hne
  obtain ⟨hf', hi⟩ := am_nms_ok hm
  have h8 : f' ≠ f := by
    rintro rfl
    have h1 : am_cnt f' = 1 := by rcases hf with rfl | rfl <;> rfl
    rw [h1] at hi
    have : i' = 0 := by omega
    subst this; exact hne rfl
  refine am_cell_c rfl (fun k => ?_) (fun _ _ _ _ => rfl) (fun k _ => ?_)
  · unfold am_riF
    have e1 : (am_sv M f n j).2.1 8 k = M.2.1 8 k := by rw [am_sv_at, if_neg (by omega)]
    rw [e1]
  · unfold am_riA
    rcases hf with rfl | rfl
    · rw [am_bf h8]
      have e2 : (am_sv M 4 n j).2.1 12 k = M.2.1 12 k := by rw [am_sv_at, if_neg (by omega)]
      rw [e2]; rfl
    · rw [am_bf h8]
      have e2 : (am_sv M 12 n j).2.1 4 k = M.2.1 4 k := by rw [am_sv_at, if_neg (by omega)]
      rw [e2]; rfl
theorem am_sr_other {ν : Nat → Nat → Nat} {dA : Nat → ClassId} {M : am_M} {f i : Nat} {r : Nat → Int32} : ∀ f' i', (f', i') ∈ am_nms → (f', i') ≠ (f, i) → am_cell ν dA (am_sr M f i r) f' i' = am_cell ν dA M f' i' := by
  intro f' i' _ h
  refine am_cell_c ?_ (fun _ => rfl) (fun _ _ _ _ => rfl) (fun _ _ => rfl)
  funext k'
  show (if f' = f ∧ i' = i then r k' else M.1 f' i' k') = _
  rw [if_neg]
  rintro ⟨rfl, rfl⟩
  exact h rfl
theorem am_sr_row {M : am_M} {f i : Nat} {r : Nat → Int32} : (am_sr M f i r).1 f i = r := by
  funext k
  show (if f = f ∧ i = i then r k else M.1 f i k) = r k
  simp
