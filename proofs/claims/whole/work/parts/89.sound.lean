theorem am_St_si {ν : Nat → Nat → Nat} {A : Nat → Prop} {M : am_M} {U : State} {H0 : Heap} {f i k : Nat} {x : Int32} (hf : f < 59) (h : am_St ν A M U H0) : am_St ν A (am_si M f i k x) U H0 := by
  have e0 : (am_si M f i k x).1 61 0 = M.1 61 0 := am_si_row (fun q => by have := congrArg Prod.fst q; simp at this; omega)
  have e1 : (am_si M f i k x).1 61 1 = M.1 61 1 := am_si_row (fun q => by have := congrArg Prod.fst q; simp at this; omega)
  have e2 : am_len (am_si M f i k x) 61 = am_len M 61 := by
    show ((am_si M f i k x).1 61 1 0).toNatClampNeg = (M.1 61 1 0).toNatClampNeg
    rw [e1]
  refine ⟨h.1, ?_, h.2.2⟩
  rw [e0, e2]; exact h.2.1
theorem am_St_sr {ν : Nat → Nat → Nat} {A : Nat → Prop} {M : am_M} {U : State} {H0 : Heap} {f i : Nat} {r : Nat → Int32} (hf : f < 59) (h : am_St ν A M U H0) : am_St ν A (am_sr M f i r) U H0 := by
  have e : ∀ j k, (am_sr M f i r).1 61 j k = M.1 61 j k := by
    intro j k
    show (if 61 = f ∧ j = i then r k else M.1 61 j k) = _
    rw [if_neg (by omega)]
  have e0 : (am_sr M f i r).1 61 0 = M.1 61 0 := by funext k; exact e 0 k
  have e2 : am_len (am_sr M f i r) 61 = am_len M 61 := by
    show ((am_sr M f i r).1 61 1 0).toNatClampNeg = (M.1 61 1 0).toNatClampNeg
    rw [e]
  refine ⟨h.1, ?_, h.2.2⟩
  rw [e0, e2]; exact h.2.1
/-! one step of the abstract machine is the machine's -/
theorem am_okc {v : am_V} {st : List am_V} (h : am_okV v) (hs : ∀ w ∈ st, am_okV w) : ∀ w ∈ v :: st, am_okV w := by
  intro w hw
  rcases List.mem_cons.mp hw with rfl | hw
  · exact h
  · exact hs w hw
theorem am_okt {v : am_V} {st : List am_V} (hs : ∀ w ∈ v :: st, am_okV w) : ∀ w ∈ st, am_okV w := fun w hw => hs w (List.mem_cons_of_mem _ hw)
theorem am_okset {ls : List (Option am_V)} {i : Nat} {v : am_V} (hi : i < ls.length) (hl : ∀ k v, am_nth ls k none = some v → am_okV v) (hv : am_okV v) : ∀ k w, am_nth (am_set ls i v) k none = some w → am_okV w := by
  intro k w h
  rcases am_set_at hi h with ⟨-, rfl⟩ | ⟨-, h2, -⟩
  · exact hv
  · exact hl k w h2
theorem am_okset2 {ls : List (Option am_V)} {i : Nat} {v : Int64} (hi : i + 1 < ls.length) (hl : ∀ k v, am_nth ls k none = some v → am_okV v) : ∀ k w, am_nth (am_set2 ls i v) k none = some w → am_okV w := by
  intro k w h
  rcases am_set2_at hi h with ⟨-, rfl⟩ | ⟨-, -, h2, -⟩
  · trivial
  · exact hl k w h2
theorem am_beq {a b : Nat} (h : Nat.beq a b = true) : a = b := Nat.eq_of_beq_eq_true h
theorem am_blt {a b : Nat} (h : Nat.blt a b = true) : a < b := by
  unfold Nat.blt at h; exact Nat.le_of_ble_eq_true h
theorem am_lay_good : ∀ c, c < 11 → ∀ w ∈ u_ws (am_on c) (am_Tc c) (am_Nc c), goodWord w = true := by decide +kernel
theorem am_lay {c : Nat} (h : c < 11) : ∀ w ∈ u_ws (am_on c) (am_Tc c) (am_Nc c), w ∈ am_tb := by
  intro w hw
  refine List.mem_filter.mpr ⟨?_, am_lay_good c h w hw⟩
  rw [am_lp_ok c h] at hw
  obtain ⟨i, -, hi⟩ := List.mem_filterMap.mp hw
  exact List.mem_of_getElem? hi
theorem am_has5_e {l : List (Nat × Nat × Nat × Nat × Nat)} {a b c d : Nat} (h : am_has5 l a b c d = true) : ∃ e, (a, b, c, d, e) ∈ l := by
  unfold am_has5 at h
  obtain ⟨⟨x1, x2, x3, x4, x5⟩, hm, hq⟩ := List.any_eq_true.mp h
  simp only [Bool.and_eq_true] at hq
  obtain ⟨⟨⟨h1, h2⟩, h3⟩, h4⟩ := hq
  rw [am_beq h1, am_beq h2, am_beq h3, am_beq h4] at hm
  exact ⟨_, hm⟩
theorem am_has4_e {l : List (Nat × Nat × Nat × Nat)} {a b c : Nat} (h : am_has4 l a b c = true) : ∃ e, (a, b, c, e) ∈ l := by
  unfold am_has4 at h
  obtain ⟨⟨x1, x2, x3, x4⟩, hm, hq⟩ := List.any_eq_true.mp h
  simp only [Bool.and_eq_true] at hq
  obtain ⟨⟨h1, h2⟩, h3⟩ := hq
  rw [am_beq h1, am_beq h2, am_beq h3] at hm
  exact ⟨_, hm⟩
theorem am_has3_e {l : List (Nat × Nat × Nat)} {a b : Nat} (h : am_has3 l a b = true) : ∃ e, (a, b, e) ∈ l := by
  unfold am_has3 at h
  obtain ⟨⟨x1, x2, x3⟩, hm, hq⟩ := List.any_eq_true.mp h
  simp only [Bool.and_eq_true] at hq
  obtain ⟨h1, h2⟩ := hq
  rw [am_beq h1, am_beq h2] at hm
  exact ⟨_, hm⟩
theorem am_hasC_e {l : List (Nat × Nat × Int32 × Nat)} {a b : Nat} {z : Int32} (h : am_hasC l a b z = true) : ∃ e, (a, b, z, e) ∈ l := by
  unfold am_hasC at h
  obtain ⟨⟨x1, x2, x3, x4⟩, hm, hq⟩ := List.any_eq_true.mp h
  simp only [Bool.and_eq_true, decide_eq_true_eq] at hq
  obtain ⟨⟨h1, h2⟩, h3⟩ := hq
  rw [am_beq h1, am_beq h2, h3] at hm
  exact ⟨_, hm⟩
theorem am_cell_obj {ν : Nat → Nat → Nat} {dA : Nat → ClassId} {M : am_M} {f i : Nat} (hk : am_kind f = 0) : am_cell ν dA M f i = .inr (am_cls f, (List.range (am_len0 f)).map fun k => am_rv ν (am_fv M (am_cls f) f i k)) := by
  unfold am_cell; rw [hk]; rfl
theorem am_cell_int {ν : Nat → Nat → Nat} {dA : Nat → ClassId} {M : am_M} {f i : Nat} (hk : am_kind f = 1) : am_cell ν dA M f i = .inl (dA 0, am_len0 f, .inl (M.1 f i)) := by
  unfold am_cell; rw [hk]; rfl
theorem am_cell_bool {ν : Nat → Nat → Nat} {dA : Nat → ClassId} {M : am_M} {f i : Nat} (hk : am_kind f = 2) : am_cell ν dA M f i = .inl (dA 1, am_len0 f, .inl (M.1 f i)) := by
  unfold am_cell; rw [hk]; rfl
theorem am_cell_ref {ν : Nat → Nat → Nat} {dA : Nat → ClassId} {M : am_M} {f i : Nat} (hk : am_kind f = 3) : am_cell ν dA M f i = .inl (dA (am_cls f - 4), am_len0 f, .inr (.inr (.inr (.inr fun k => some (ν (am_rfA f) (am_riA M f i k)))))) := by
  unfold am_cell; rw [hk]; rfl
theorem am_okF : ∀ f, f < 59 → am_kind f = 0 → f ≠ 8 → ∀ k, k < am_len0 f → am_fty (am_cls f) k = 2 → am_cnt f ≤ am_cnt (am_rfF (am_cls f) k) := by decide +kernel
theorem am_fv_ok {M : am_M} {f i k : Nat} (hM : am_okM M) (hf : f < 59) (hk0 : am_kind f = 0) (hi : i < am_cnt f) (hk : k < am_len0 f) : am_okV (am_fv M (am_cls f) f i k) := by
  unfold am_fv
  split
  · rename_i ht
    show am_riF M f i k < am_cnt (am_rfF (am_cls f) k)
    unfold am_riF
    by_cases h8 : f = 8
    · subst h8
      have hl : am_len0 8 = 4 := rfl
      rw [hl] at hk
      match k, hk with
      | 0, _ => exact hM.2.2.1
      | 1, _ => exact absurd ht (by decide)
      | 2, _ => exact hM.2.2.2
      | 3, _ => exact (by decide : 0 < am_cnt (am_rfF (am_cls 8) 3))
    · rw [am_bf h8]
      exact Nat.lt_of_lt_of_le hi (am_okF f hf hk0 h8 k hk ht)
  · trivial
  · trivial
theorem am_riA_ok {M : am_M} {f i n : Nat} (hM : am_okM M) (hk : am_kind f = 3) (hi : i < am_cnt f) (hn : n < am_len0 f) : am_riA M f i n < am_cnt (am_rfA f) := by
  rcases am_k3 hk with rfl | rfl | rfl | rfl
  · exact hM.1 n hn
  · have h1 : i < 2 := hi
    have h2 : n < 4 := hn
    show 4 * i + n < 8
    omega
  · exact hM.2.1 n hn
  · have h1 : i < 8 := hi
    have h2 : n < 6 := hn
    show 6 * i + n < 48
    omega
section
variable {p : Program} {l : Launch} {e : Env} {R : Room} {s : State} {m : MethodId} {args : Array Value} {below : List Frame} {meth : Method} {c : Code} {H : Heap} {locs : List Loc} {cells slots : Nat} {Qm : State → Prop}
theorem am_run {ν : Nat → Nat → Nat} {dA : Nat → ClassId} {D : va_G} {A : Nat → Prop} {M : am_M} {Q : am_P} {pcv : Nat} {lsc : Array Slot} {st0 rest : List Value} {X : Array Value} (hr : va_Run p l e R s m args below meth c H locs cells slots 0 0 (F0 m pcv lsc st0) rest (am_Qc ν dA D A Q X) A) (Wd : am_Wd ν dA D A s H locs M)
    (kk : ∀ (r : Option am_V) (M' : am_M) (H' : Heap) (locs' : List Loc), Q r M' → (∀ v, r = some v → am_okV v) → am_Wd ν dA D A s H' locs' M' → W p l e R s m args below meth c H' locs' cells slots Qm (F0 m (pcv + 3) lsc ((r.map (am_rv ν)).toList ++ rest))) : W p l e R s m args below meth c H locs cells slots Qm (F0 m pcv lsc st0) := by
  obtain ⟨hK, hP, hD, hS, hM, hSt⟩ := Wd
  intro T hT X0
  obtain ⟨v, st₀, t, T', L, h0, X', hL, e1, e2, ⟨⟨r, M', hq, hv, hok, hK', hP', hD', hM', hSt'⟩, hz, hk⟩, st⟩ := hr T hT X0
  cases hv
  rw [h0] at hz hk
  have hkT : ∀ q : Nat, q < s.heap.size → ¬ A q → T'.heap[q]? = s.heap[q]? := fun q h1 h2 => by rw [e1, hk q (Nat.lt_of_lt_of_le h1 hS.1) h2]; exact hS.2.1 q h1 h2
  obtain ⟨t2, a1, b1⟩ := kk r M' T'.heap (locs ++ L) hq hok ⟨hK, by rw [e1]; exact hP', hD', ⟨Nat.le_trans hS.1 (by rw [e1]; exact hz), hkT, fun q hq => by
      rcases List.mem_append.mp hq with h | h
      · exact hS.2.2 q h
      · exact hL q h⟩, hM', am_St_back (H' := T'.heap) (by rw [← e2]; exact X'.warmed.alike.symm) hkT hSt (by rw [e1]; exact hSt')⟩ T' rfl X'
  exact ⟨t2, st t2 a1, b1⟩
end
theorem am_W0_blind {ν : Nat → Nat → Nat} {dA : Nat → ClassId} {D : va_G} {A : Nat → Prop} {M : am_M} {vs : List Value} : FrameBlind (va_Pc vs (am_W0 ν dA D A M)) := by
  intro a U g mk q
  obtain ⟨q0, qK, qP, qD, qM, qS⟩ := q
  exact ⟨q0, va_K.moved (u := U) (U := U.calling g mk a) (Vm.Alike.refl U.vm) qK, qP, qD, qM, am_St_moved (u := U) (U := U.calling g mk a) (H := U.heap) (H' := U.heap) (Vm.Alike.refl U.vm) (Nat.le_refl _) (fun _ _ _ => rfl) qS⟩
theorem am_W0_of {ν : Nat → Nat → Nat} {dA : Nat → ClassId} {D : va_G} {A : Nat → Prop} {M : am_M} {s U : State} {H : Heap} {locs : List Loc} (Wd : am_Wd ν dA D A s H locs M) (hU : U.heap = H) (hW : s.WarmedH U.vm) : am_W0 ν dA D A M U := by
  obtain ⟨hK, hP, hD, hS, hM, hSt⟩ := Wd
  exact ⟨va_K.moved hW.alike hK, by rw [hU]; exact hP, hD, hM, by rw [hU]; exact am_St_moved hW.alike hS.1 hS.2.1 hSt⟩
theorem am_ml_lt : ∀ y, y < 138 → am_ml y < 14 := by decide +kernel
set_option maxHeartbeats 4000000 in
theorem am_sound : am_Cl am_Sem := by
  intro d y pc ls st M Q h hy hokl hoks p l e R s m args below meth c H locs cells slots Qm ν dA D A lsc C Rm Wd hl hr
  obtain ⟨hx, hb, hml, hown, hts⟩ := id C
  obtain ⟨hK, hP, hD, hS, hM, hSt⟩ := id Wd
  have go : ∀ {n : Nat} {ls' : List (Option am_V)} {st' : List am_V} {M' : am_M} {H' : Heap} {locs' : List Loc} {lsc' : Array Slot}, Nat.beq (am_pc y (pc + 1)) (am_pc y pc + n) = true → am_Sem d y (pc + 1) ls' st' M' Q → (∀ k v, am_nth ls' k none = some v → am_okV v) → (∀ v ∈ st', am_okV v) → am_Wd ν dA D A s H' locs' M' → am_lv ν (am_ml y) ls' lsc' →
      W p l e R s m args below meth c H' locs' cells slots Qm (F0 m (am_pc y pc + n) lsc' (st'.map (am_rv ν))) := by
    intro n ls' st' M' H' locs' lsc' hn hs h1 h2 h3 h4
    rw [← am_beq hn]
    exact hs hy h1 h2 p l e R s m args below meth c H' locs' cells slots Qm ν dA D A lsc' C Rm h3 h4 hr
  have jump : ∀ {a : Nat} {st' : List am_V}, am_Sem d y a ls st' M Q → (∀ v ∈ st', am_okV v) → W p l e R s m args below meth c H locs cells slots Qm (F0 m (am_pc y a) lsc (st'.map (am_rv ν))) := fun {a st'} hs h2 => hs hy hokl h2 p l e R s m args below meth c H locs cells slots Qm ν dA D A lsc C Rm Wd hl hr
  cases hen : am_at y pc with
  | none => rw [hen] at h; exact h.elim
  | some en =>
    rw [hen] at h
    obtain ⟨p0, ins, a, b, z, tg⟩ := en
    cases ins with
    | aload_n k =>
      obtain ⟨hd, ho⟩ := am_row2 hy hen rfl
      simp only [am_F] at h
      obtain ⟨f, i, hv, hh1⟩ := am_vr_e h
      refine lv_aload_n hx hb hd rfl (hl.2.2.2 _ _ hv) ?_
      exact go (n := 1) ho hh1 hokl (am_okc (hokl _ _ hv) hoks) Wd hl
    | aload k =>
      obtain ⟨hd, ho⟩ := am_row2 hy hen rfl
      simp only [am_F] at h
      obtain ⟨f, i, hv, hh1⟩ := am_vr_e h
      refine lv_aload hx hb hd (hl.2.2.2 _ _ hv) ?_
      exact go (n := 2) ho hh1 hokl (am_okc (hokl _ _ hv) hoks) Wd hl
    | iload_n k =>
      obtain ⟨hd, ho⟩ := am_row2 hy hen rfl
      obtain ⟨x, hv, hh1⟩ := am_vi_e h
      refine lv_iload_n hx hb hd rfl (hl.2.2.2 _ _ hv) ?_
      exact go (n := 1) ho hh1 hokl (am_okc (hokl _ _ hv) hoks) Wd hl
    | iload k =>
      obtain ⟨hd, ho⟩ := am_row2 hy hen rfl
      obtain ⟨x, hv, hh1⟩ := am_vi_e h
      refine lv_iload hx hb hd (hl.2.2.2 _ _ hv) ?_
      exact go (n := 2) ho hh1 hokl (am_okc (hokl _ _ hv) hoks) Wd hl
    | lload_n k =>
      obtain ⟨hd, ho⟩ := am_row2 hy hen rfl
      obtain ⟨x, hv, hh1⟩ := am_vl_e h
      refine lv_lload_n hx hb hd rfl (hl.2.2.2 _ _ hv) ?_
      exact go (n := 1) ho hh1 hokl (am_okc (hokl _ _ hv) hoks) Wd hl
    | lload k =>
      obtain ⟨hd, ho⟩ := am_row2 hy hen rfl
      obtain ⟨x, hv, hh1⟩ := am_vl_e h
      refine lv_lload hx hb hd (hl.2.2.2 _ _ hv) ?_
      exact go (n := 2) ho hh1 hokl (am_okc (hokl _ _ hv) hoks) Wd hl
    | istore_n k =>
      obtain ⟨hd, ho⟩ := am_row2 hy hen rfl
      simp only [am_F] at h
      obtain ⟨x, r, rfl, hh1⟩ := am_i_e h
      simp only [am_okI, Bool.and_eq_true] at ho
      obtain ⟨hk, hn⟩ := ho
      have hk := am_blt hk
      refine lv_istore_n (lv := am_prs ν 0 ls) hx hb hd rfl (am_lv_has hl) hk rfl (fun ls' hl' => ?_)
      exact go (n := 1) hn hh1 (am_okset (by rw [hl.1]; exact hk) hokl (hoks _ List.mem_cons_self)) (am_okt hoks) Wd (am_lv_set (v := (.inl x)) hl hk hl')
    | istore k =>
      obtain ⟨hd, ho⟩ := am_row2 hy hen rfl
      simp only [am_F] at h
      obtain ⟨x, r, rfl, hh1⟩ := am_i_e h
      simp only [am_okI, Bool.and_eq_true] at ho
      obtain ⟨hk, hn⟩ := ho
      have hk := am_blt hk
      refine lv_istore (lv := am_prs ν 0 ls) hx hb hd (am_lv_has hl) hk rfl (fun ls' hl' => ?_)
      exact go (n := 2) hn hh1 (am_okset (by rw [hl.1]; exact hk) hokl (hoks _ List.mem_cons_self)) (am_okt hoks) Wd (am_lv_set (v := (.inl x)) hl hk hl')
    | astore_n k =>
      obtain ⟨hd, ho⟩ := am_row2 hy hen rfl
      simp only [am_F] at h
      obtain ⟨f, i, r, rfl, hh1⟩ := am_r_e h
      simp only [am_okI, Bool.and_eq_true] at ho
      obtain ⟨hk, hn⟩ := ho
      have hk := am_blt hk
      refine lv_astore_n (lv := am_prs ν 0 ls) hx hb hd rfl (am_lv_has hl) hk rfl (fun ls' hl' => ?_)
      exact go (n := 1) hn hh1 (am_okset (by rw [hl.1]; exact hk) hokl (hoks _ List.mem_cons_self)) (am_okt hoks) Wd (am_lv_set (v := (.inr (.inl (f, i)))) hl hk hl')
    | astore k =>
      obtain ⟨hd, ho⟩ := am_row2 hy hen rfl
      simp only [am_F] at h
      obtain ⟨f, i, r, rfl, hh1⟩ := am_r_e h
      simp only [am_okI, Bool.and_eq_true] at ho
      obtain ⟨hk, hn⟩ := ho
      have hk := am_blt hk
      refine lv_astore (lv := am_prs ν 0 ls) hx hb hd (am_lv_has hl) hk rfl (fun ls' hl' => ?_)
      exact go (n := 2) hn hh1 (am_okset (by rw [hl.1]; exact hk) hokl (hoks _ List.mem_cons_self)) (am_okt hoks) Wd (am_lv_set (v := (.inr (.inl (f, i)))) hl hk hl')
    | lstore k =>
      obtain ⟨hd, ho⟩ := am_row2 hy hen rfl
      simp only [am_F] at h
      obtain ⟨x, r, rfl, hh1⟩ := am_l_e h
      simp only [am_okI, Bool.and_eq_true] at ho
      obtain ⟨hk, hn⟩ := ho
      have hk := am_blt hk
      refine lv_lstore (lv := am_prs ν 0 ls) hx hb hd (am_lv_has hl) hk rfl (fun ls' hl' => ?_)
      exact go (n := 2) hn hh1 (am_okset2 (by rw [hl.1]; exact hk) hokl) (am_okt hoks) Wd (am_lv_set2 hl hk hl')
    | iconst k =>
      obtain ⟨hd, ho⟩ := am_row2 hy hen rfl
      simp only [am_okI, Bool.and_eq_true, decide_eq_true_eq] at ho
      refine lv_iconst hx hb hd ho.1 ?_
      exact go (n := 1) ho.2 h hokl (am_okc trivial hoks) Wd hl
    | bipush k =>
      obtain ⟨hd, ho⟩ := am_row2 hy hen rfl
      simp only [am_okI, Bool.and_eq_true, decide_eq_true_eq] at ho
      refine lv_bipush hx hb hd ho.1 ?_
      exact go (n := 2) ho.2 h hokl (am_okc trivial hoks) Wd hl
    | sipush k =>
      obtain ⟨hd, ho⟩ := am_row2 hy hen rfl
      simp only [am_okI, Bool.and_eq_true, decide_eq_true_eq] at ho
      refine lv_sipush hx hb hd ho.1 ?_
      exact go (n := 3) ho.2 h hokl (am_okc trivial hoks) Wd hl
    | ldc k =>
      obtain ⟨hd, ho⟩ := am_row2 hy hen rfl
      simp only [am_okI, Bool.and_eq_true] at ho
      obtain ⟨q, hq⟩ := am_hasC_e ho.1
      refine lv_ldc hx hb hown (hts _ (am_tb_in (am_kk_ok _ hq) rfl)) hd ?_
      exact go (n := 2) ho.2 h hokl (am_okc trivial hoks) Wd hl
    | iadd =>
      obtain ⟨hd, ho⟩ := am_row2 hy hen rfl
      obtain ⟨u, v, r, rfl, hh1⟩ := am_ii_e h
      refine lv_iadd hx hb hd ?_
      exact go (n := 1) ho hh1 hokl (am_okc trivial (am_okt (am_okt hoks))) Wd hl
    | isub =>
      obtain ⟨hd, ho⟩ := am_row2 hy hen rfl
      obtain ⟨u, v, r, rfl, hh1⟩ := am_ii_e h
      refine lv_isub hx hb hd ?_
      exact go (n := 1) ho hh1 hokl (am_okc trivial (am_okt (am_okt hoks))) Wd hl
    | imul =>
      obtain ⟨hd, ho⟩ := am_row2 hy hen rfl
      obtain ⟨u, v, r, rfl, hh1⟩ := am_ii_e h
      refine lv_imul hx hb hd ?_
      exact go (n := 1) ho hh1 hokl (am_okc trivial (am_okt (am_okt hoks))) Wd hl
    | iand =>
      obtain ⟨hd, ho⟩ := am_row2 hy hen rfl
      obtain ⟨u, v, r, rfl, hh1⟩ := am_ii_e h
      refine lv_iand hx hb hd ?_
      exact go (n := 1) ho hh1 hokl (am_okc trivial (am_okt (am_okt hoks))) Wd hl
    | ior =>
      obtain ⟨hd, ho⟩ := am_row2 hy hen rfl
      obtain ⟨u, v, r, rfl, hh1⟩ := am_ii_e h
      refine lv_ior hx hb hd ?_
      exact go (n := 1) ho hh1 hokl (am_okc trivial (am_okt (am_okt hoks))) Wd hl
    | ixor =>
      obtain ⟨hd, ho⟩ := am_row2 hy hen rfl
      obtain ⟨u, v, r, rfl, hh1⟩ := am_ii_e h
      refine lv_ixor hx hb hd ?_
      exact go (n := 1) ho hh1 hokl (am_okc trivial (am_okt (am_okt hoks))) Wd hl
    | ishl =>
      obtain ⟨hd, ho⟩ := am_row2 hy hen rfl
      obtain ⟨u, v, r, rfl, hh1⟩ := am_ii_e h
      refine lv_ishl hx hb hd ?_
      exact go (n := 1) ho hh1 hokl (am_okc trivial (am_okt (am_okt hoks))) Wd hl
    | ishr =>
      obtain ⟨hd, ho⟩ := am_row2 hy hen rfl
      obtain ⟨u, v, r, rfl, hh1⟩ := am_ii_e h
      refine lv_ishr hx hb hd ?_
      exact go (n := 1) ho hh1 hokl (am_okc trivial (am_okt (am_okt hoks))) Wd hl
    | idiv =>
      obtain ⟨hd, ho⟩ := am_row2 hy hen rfl
      obtain ⟨u, v, r, rfl, h0, hh1⟩ := am_ii_e h
      refine lv_idiv hx hb hd h0 ?_
      exact go (n := 1) ho hh1 hokl (am_okc trivial (am_okt (am_okt hoks))) Wd hl
    | irem =>
      obtain ⟨hd, ho⟩ := am_row2 hy hen rfl
      obtain ⟨u, v, r, rfl, h0, hh1⟩ := am_ii_e h
      refine lv_irem hx hb hd h0 ?_
      exact go (n := 1) ho hh1 hokl (am_okc trivial (am_okt (am_okt hoks))) Wd hl
    | ladd =>
      obtain ⟨hd, ho⟩ := am_row2 hy hen rfl
      obtain ⟨u, v, r, rfl, hh1⟩ := am_ll_e h
      refine lv_ladd hx hb hd ?_
      exact go (n := 1) ho hh1 hokl (am_okc trivial (am_okt (am_okt hoks))) Wd hl
    | lsub =>
      obtain ⟨hd, ho⟩ := am_row2 hy hen rfl
      obtain ⟨u, v, r, rfl, hh1⟩ := am_ll_e h
      refine lv_lsub hx hb hd ?_
      exact go (n := 1) ho hh1 hokl (am_okc trivial (am_okt (am_okt hoks))) Wd hl
    | lmul =>
      obtain ⟨hd, ho⟩ := am_row2 hy hen rfl
      obtain ⟨u, v, r, rfl, hh1⟩ := am_ll_e h
      refine lv_lmul hx hb hd ?_
      exact go (n := 1) ho hh1 hokl (am_okc trivial (am_okt (am_okt hoks))) Wd hl
    | lcmp =>
      obtain ⟨hd, ho⟩ := am_row2 hy hen rfl
      obtain ⟨u, v, r, rfl, hh1⟩ := am_ll_e h
      refine W.lcmp hx hb hd ?_
      exact go (n := 1) ho hh1 hokl (am_okc trivial (am_okt (am_okt hoks))) Wd hl
    | i2l =>
      obtain ⟨hd, ho⟩ := am_row2 hy hen rfl
      obtain ⟨u, r, rfl, hh1⟩ := am_i_e h
      refine lv_i2l hx hb hd rfl ?_
      exact go (n := 1) ho hh1 hokl (am_okc trivial (am_okt hoks)) Wd hl
    | l2i =>
      obtain ⟨hd, ho⟩ := am_row2 hy hen rfl
      obtain ⟨u, r, rfl, hh1⟩ := am_l_e h
      refine lv_l2i hx hb hd rfl ?_
      exact go (n := 1) ho hh1 hokl (am_okc trivial (am_okt hoks)) Wd hl
    | iinc k n =>
      obtain ⟨hd, ho⟩ := am_row2 hy hen rfl
      simp only [am_F] at h
      obtain ⟨x, hv, hh1⟩ := am_vi_e h
      simp only [am_okI, Bool.and_eq_true, decide_eq_true_eq] at ho
      have hk : k < am_ml y := by rw [← hl.1]; exact am_nth_lt hv
      have hm := am_prs_of (ν := ν) (j := 0) hv
      rw [Nat.zero_add] at hm
      obtain ⟨q, hq⟩ := List.getElem?_of_mem hm
      refine lv_iinc (lv := am_prs ν 0 ls) (v := x + z) hx hb hd (am_lv_has hl) hq (by rw [ho.1]) hk rfl (fun ls' hl' => ?_)
      exact go (n := 3) ho.2 hh1 (am_okset (by rw [hl.1]; exact hk) hokl trivial) hoks Wd (am_lv_set (v := .inl (x + z)) hl hk hl')
    | dup =>
      obtain ⟨hd, ho⟩ := am_row2 hy hen rfl
      simp only [am_F] at h
      obtain ⟨f, i, r, rfl, hh1⟩ := am_r_e h
      refine lv_dup hx hb hd rfl ?_
      exact go (n := 1) ho hh1 hokl (am_okc (hoks _ List.mem_cons_self) hoks) Wd hl
    | dup2 =>
      obtain ⟨hd, ho⟩ := am_row2 hy hen rfl
      simp only [am_F] at h
      obtain ⟨j, r1, rfl, hh1⟩ := am_i_e h
      obtain ⟨f, i, r, rfl, hh2⟩ := am_r_e hh1
      refine lv_dup2_11 hx hb hd rfl rfl ?_
      exact go (n := 1) ho hh2 hokl (am_okc trivial (am_okc (am_okt hoks _ List.mem_cons_self) hoks)) Wd hl
    | goto k =>
      obtain ⟨hd, ho⟩ := am_row2 hy hen rfl
      simp only [am_okI, decide_eq_true_eq] at ho
      exact lv_goto hx hb hd ho (jump h hoks)
    | ifCond cc k =>
      obtain ⟨hd, ho⟩ := am_row2 hy hen rfl
      obtain ⟨u, r, rfl, h1, h2⟩ := am_i_e h
      simp only [am_okI, Bool.and_eq_true, decide_eq_true_eq] at ho
      cases cc with
      | eq => exact lv_if_eq hx hb hd ho.1 (fun q => jump (h1 q) (am_okt hoks)) (fun q => go (n := 3) ho.2 (h2 q) hokl (am_okt hoks) Wd hl)
      | ne => exact lv_if_ne hx hb hd ho.1 (fun q => jump (h1 q) (am_okt hoks)) (fun q => go (n := 3) ho.2 (h2 (fun z => z q)) hokl (am_okt hoks) Wd hl)
      | lt => exact lv_if_lt hx hb hd ho.1 (fun q => jump (h1 q) (am_okt hoks)) (fun q => go (n := 3) ho.2 (h2 q) hokl (am_okt hoks) Wd hl)
      | ge => exact lv_if_ge hx hb hd ho.1 (fun q => jump (h1 q) (am_okt hoks)) (fun q => go (n := 3) ho.2 (h2 q) hokl (am_okt hoks) Wd hl)
      | gt => exact lv_if_gt hx hb hd ho.1 (fun q => jump (h1 q) (am_okt hoks)) (fun q => go (n := 3) ho.2 (h2 q) hokl (am_okt hoks) Wd hl)
      | le => exact lv_if_le hx hb hd ho.1 (fun q => jump (h1 q) (am_okt hoks)) (fun q => go (n := 3) ho.2 (h2 q) hokl (am_okt hoks) Wd hl)
    | if_icmp cc k =>
      obtain ⟨hd, ho⟩ := am_row2 hy hen rfl
      obtain ⟨u, v, r, rfl, h1, h2⟩ := am_ii_e h
      simp only [am_okI, Bool.and_eq_true, decide_eq_true_eq] at ho
      cases cc with
      | eq => exact lv_icmp_eq hx hb hd ho.1 (fun q => jump (h1 q) (am_okt (am_okt hoks))) (fun q => go (n := 3) ho.2 (h2 q) hokl (am_okt (am_okt hoks)) Wd hl)
      | ne => exact lv_icmp_ne hx hb hd ho.1 (fun q => jump (h1 q) (am_okt (am_okt hoks))) (fun q => go (n := 3) ho.2 (h2 (fun z => z q)) hokl (am_okt (am_okt hoks)) Wd hl)
      | lt => exact lv_icmp_lt hx hb hd ho.1 (fun q => jump (h1 q) (am_okt (am_okt hoks))) (fun q => go (n := 3) ho.2 (h2 q) hokl (am_okt (am_okt hoks)) Wd hl)
      | ge => exact lv_icmp_ge hx hb hd ho.1 (fun q => jump (h1 q) (am_okt (am_okt hoks))) (fun q => go (n := 3) ho.2 (h2 q) hokl (am_okt (am_okt hoks)) Wd hl)
      | gt => exact lv_icmp_gt hx hb hd ho.1 (fun q => jump (h1 q) (am_okt (am_okt hoks))) (fun q => go (n := 3) ho.2 (h2 q) hokl (am_okt (am_okt hoks)) Wd hl)
      | le => exact lv_icmp_le hx hb hd ho.1 (fun q => jump (h1 q) (am_okt (am_okt hoks))) (fun q => go (n := 3) ho.2 (h2 q) hokl (am_okt (am_okt hoks)) Wd hl)
    | tableswitch df lo hi offs =>
      obtain ⟨n, hd, ho⟩ := am_row3 hy hen
      obtain ⟨u, r, rfl, h1, h2⟩ := am_i_e h
      simp only [am_okI, Bool.and_eq_true, decide_eq_true_eq] at ho
      obtain ⟨⟨ho1, ho2⟩, ho3⟩ := ho
      by_cases hu : u.toInt < lo ∨ hi < u.toInt
      · exact lv_tableOut hx hb hd hu ho1 (jump (h1 hu) (am_okt hoks))
      · have key : ∀ (ts : List Nat) (os : List Int) (lo' : Int), am_tgs y (am_pc y pc) ts os = true → am_sw u.toInt lo' ts (fun t => am_Sem d y t ls r M Q) → lo' ≤ u.toInt → u.toInt < lo' + ts.length → ∃ t o, os[(u.toInt - lo').toNat]? = some o ∧ (am_pc y pc : Int) + o = (am_pc y t : Int) ∧ am_Sem d y t ls r M Q := by
          intro ts
          induction ts with
          | nil => intro os lo' _ _ g1 g2; simp at g2; omega
          | cons t ts ih =>
            intro os lo' g g0 g1 g2
            cases os with
            | nil => simp [am_tgs] at g
            | cons o os =>
              simp only [am_tgs, Bool.and_eq_true, decide_eq_true_eq] at g
              obtain ⟨s1, s2⟩ := g0
              by_cases e : u.toInt = lo'
              · exact ⟨t, o, by rw [e]; simp, g.1, s1 e⟩
              · obtain ⟨t', o', q1, q2, q3⟩ := ih os (lo' + 1) g.2 s2 (by omega) (by simp at g2; omega)
                refine ⟨t', o', ?_, q2, q3⟩
                rw [show (u.toInt - lo').toNat = (u.toInt - (lo' + 1)).toNat + 1 by omega, List.getElem?_cons_succ]
                exact q1
        obtain ⟨t, o, q1, q2, q3⟩ := key tg offs.toList lo ho2 h2 (by omega) (by omega)
        exact lv_tableIn hx hb hd (fun q => hu (Or.inl q)) (fun q => hu (Or.inr q)) (by rw [← Array.getElem?_toList]; exact q1) q2 (jump q3 (am_okt hoks))
    | getfield k =>
      obtain ⟨hd, ho⟩ := am_row2 hy hen rfl
      simp only [am_okI, Bool.and_eq_true] at ho
      obtain ⟨hol, hn⟩ := ho
      obtain ⟨qp, hqp⟩ := am_has5_e hol
      obtain ⟨ha11, hbN, hpos⟩ := am_fl_ok _ hqp
      dsimp only at ha11 hbN hpos
      have hlink : (Cond.fieldLink (am_on (am_mc y)) k (am_on a) (am_Tc a b).2.1 (am_Tc a b).2.2.1).before args s = true := hts _ (am_tb_in hpos rfl)
      have hsame : ∀ x, s.fieldFound? (am_Tc a b).1 (am_Tc a b).2.1 (am_Tc a b).2.2.1 = some x → s.fieldFound? (am_on a) (am_Tc a b).2.1 (am_Tc a b).2.2.1 = some x := by
        intro x q; rw [am_decl_ok a ha11 b hbN] at q; exact q
      simp only [am_F] at h
      obtain ⟨f, i, r, rfl, hh1⟩ := am_r_e h
      obtain ⟨hc, hh2⟩ := am_b_e hh1
      simp only [Bool.and_eq_true] at hc
      have hk0 := am_beq hc.1
      have hca := am_beq hc.2
      subst hca
      have hi : i < am_cnt f := hoks _ List.mem_cons_self
      obtain ⟨hf, -, hlen⟩ := am_k0 hk0
      obtain ⟨q0, hq0⟩ := am_in hf hi
      have he := am_ws_at (ν := ν) (dA := dA) (M := M) hq0
      rw [am_cell_obj hk0] at he
      have hbl : b < am_len0 f := by rw [hlen]; exact hbN
      refine va_get hx hb hts (am_lay ha11) hown hK hP q0 he (am_cl_full _ ha11) b hbN hlink hsame (v := am_rv ν (am_fv M (am_cls f) f i b)) (by rw [List.getElem?_map, List.getElem?_range hbl]; rfl) hd ?_
      exact go (n := 3) hn hh2 hokl (am_okc (am_fv_ok hM hf hk0 hi hbl) (am_okt hoks)) Wd hl
    | putfield k =>
      obtain ⟨hd, ho⟩ := am_row2 hy hen rfl
      simp only [am_okI, Bool.and_eq_true] at ho
      obtain ⟨hol, hn⟩ := ho
      obtain ⟨qp, hqp⟩ := am_has5_e hol
      obtain ⟨ha11, hbN, hpos⟩ := am_fl_ok _ hqp
      dsimp only at ha11 hbN hpos
      have hlink : (Cond.fieldLink (am_on (am_mc y)) k (am_on a) (am_Tc a b).2.1 (am_Tc a b).2.2.1).before args s = true := hts _ (am_tb_in hpos rfl)
      have hsame : ∀ x, s.fieldFound? (am_Tc a b).1 (am_Tc a b).2.1 (am_Tc a b).2.2.1 = some x → s.fieldFound? (am_on a) (am_Tc a b).2.1 (am_Tc a b).2.2.1 = some x := by
        intro x q; rw [am_decl_ok a ha11 b hbN] at q; exact q
      simp only [am_F] at h
      split at h
      · rename_i hty
        obtain ⟨x, r1, rfl, hh1⟩ := am_i_e h
        obtain ⟨f, i, r, rfl, hh2⟩ := am_r_e hh1
        obtain ⟨hc, hh3⟩ := am_b_e hh2
        simp only [Bool.and_eq_true] at hc
        have hk0 := am_beq hc.1
        have hca := am_beq hc.2
        subst hca
        have hi : i < am_cnt f := am_okt hoks _ List.mem_cons_self
        obtain ⟨hf, -, hlen⟩ := am_k0 hk0
        obtain ⟨q0, hq0⟩ := am_in hf hi
        have he := am_ws_at (ν := ν) (dA := dA) (M := M) hq0
        rw [am_cell_obj hk0] at he
        have hbl : b < am_len0 f := by rw [hlen]; exact hbN
        obtain ⟨hY, hfin⟩ := am_fty0 _ ha11 b hbN hty
        have hset := am_ws_set (ν := ν) (dA := dA) (M := M) (M' := am_si M f i b x) hq0 (am_si_obj hk0 (Or.inl hty)) am_si_other
        refine va_put hx hb hts (am_lay ha11) (am_Yc (am_cls f)) (am_ty_ok _ ha11) (am_nm_ok _ ha11) hown hK hP hD hS q0 he (am_cl_full _ ha11) b hbN hlink hsame hfin (ty := am_Yc (am_cls f) b) (v := .int x) (am_ty_ok _ ha11 b hbN) (by rw [hY]; rfl) (by rw [hY]; rfl) (by simpa using hbl) hd (fun H1 locs1 hP1 hD1 hS1 => ?_)
        rw [hset] at hP1 hD1
        exact go (n := 3) hn hh3 hokl (am_okt (am_okt hoks)) ⟨hK, hP1, hD1, hS1, hM, am_St_si hf hSt⟩ hl
      · rename_i hty
        obtain ⟨x, r1, rfl, hh4⟩ := am_i_e h
        obtain ⟨f, i, r, rfl, hh5⟩ := am_r_e hh4
        obtain ⟨hc, hx01, hh6⟩ := am_b_e hh5
        simp only [Bool.and_eq_true] at hc
        have hk0 := am_beq hc.1
        have hca := am_beq hc.2
        subst hca
        have hi : i < am_cnt f := am_okt hoks _ List.mem_cons_self
        obtain ⟨hf, -, hlen⟩ := am_k0 hk0
        obtain ⟨q0, hq0⟩ := am_in hf hi
        have he := am_ws_at (ν := ν) (dA := dA) (M := M) hq0
        rw [am_cell_obj hk0] at he
        have hbl : b < am_len0 f := by rw [hlen]; exact hbN
        obtain ⟨hY, hfin⟩ := am_fty1 _ ha11 b hbN hty
        have hset := am_ws_set (ν := ν) (dA := dA) (M := M) (M' := am_si M f i b x) hq0 (am_si_obj hk0 (Or.inr hty)) am_si_other
        refine va_put hx hb hts (am_lay ha11) (am_Yc (am_cls f)) (am_ty_ok _ ha11) (am_nm_ok _ ha11) hown hK hP hD hS q0 he (am_cl_full _ ha11) b hbN hlink hsame hfin (ty := am_Yc (am_cls f) b) (v := .int x) (am_ty_ok _ ha11 b hbN) (by rw [hY]; rcases hx01 with rfl | rfl <;> rfl) (by rw [hY]; rcases hx01 with rfl | rfl <;> rfl) (by simpa using hbl) hd (fun H1 locs1 hP1 hD1 hS1 => ?_)
        rw [hset] at hP1 hD1
        exact go (n := 3) hn hh6 hokl (am_okt (am_okt hoks)) ⟨hK, hP1, hD1, hS1, hM, am_St_si hf hSt⟩ hl
      · rename_i hty
        obtain ⟨g, j, r1, rfl, hh7⟩ := am_r_e h
        obtain ⟨f, i, r, rfl, hh8⟩ := am_r_e hh7
        obtain ⟨hc, hh9⟩ := am_b_e hh8
        simp only [Bool.and_eq_true, Bool.or_eq_true] at hc
        obtain ⟨⟨⟨h8, h2⟩, h9⟩, hb02⟩ := hc
        have h8 := am_beq h8
        have h2 := am_beq h2
        have h9 := am_beq h9
        subst h8 h2 h9
        have hb02 : b = 0 ∨ b = 2 := hb02.imp am_beq am_beq
        have hi : i < 1 := am_okt hoks _ List.mem_cons_self
        have hi0 : i = 0 := by omega
        subst hi0
        have hj : j < 2 := hoks _ List.mem_cons_self
        obtain ⟨q0, hq0⟩ := am_in (f := 8) (i := 0) (by decide) (by decide)
        have he := am_ws_at (ν := ν) (dA := dA) (M := M) hq0
        rw [am_cell_obj (f := 8) rfl] at he
        have hset := am_ws_set (ν := ν) (dA := dA) (M := M) (M' := am_sv M 8 b j) hq0 (am_sv_obj hb02) am_sv_keep
        have hty' : ∃ ty, am_Yc 2 b = ty ∧ narrow ty (.ref (ν 9 j)) = .ref (ν 9 j) ∧ fits ty (.ref (ν 9 j)) = true ∧ (am_Tc 2 b).2.2.2 = false := by rcases hb02 with rfl | rfl <;> exact ⟨_, rfl, rfl, rfl, rfl⟩
        obtain ⟨ty, hY, hn1, hn2, hfin⟩ := hty'
        refine va_put hx hb hts (am_lay ha11) (am_Yc 2) (am_ty_ok _ ha11) (am_nm_ok _ ha11) hown hK hP hD hS q0 he (am_cl_full _ ha11) b hbN hlink hsame hfin (ty := ty) (v := .ref (ν 9 j)) (by rw [← hY]; exact am_ty_ok _ ha11 b hbN) hn1 hn2 (by rw [List.length_map, List.length_range]; exact hbN) hd (fun H1 locs1 hP1 hD1 hS1 => ?_)
        rw [show am_cls 8 = 2 from rfl, show am_len0 8 = 4 from rfl] at hP1 hD1
        rw [hset] at hP1 hD1
        refine go (n := 3) hn hh9 hokl (am_okt (am_okt hoks)) ⟨hK, hP1, hD1, hS1, ⟨fun k hk => ?_, fun k hk => ?_, ?_, ?_⟩, hSt⟩ hl
        · rw [am_sv_at, if_neg (by omega)]; exact hM.1 k hk
        · rw [am_sv_at, if_neg (by omega)]; exact hM.2.1 k hk
        · rw [am_sv_at]; split
          · exact hj
          · exact hM.2.2.1
        · rw [am_sv_at]; split
          · exact hj
          · exact hM.2.2.2
      · rename_i hty
        obtain ⟨x, r1, rfl, hh10⟩ := am_l_e h
        obtain ⟨f, i, r, rfl, hh11⟩ := am_r_e hh10
        obtain ⟨hc, hh12⟩ := am_b_e hh11
        simp only [Bool.and_eq_true] at hc
        have h10 := am_beq hc.1
        have h3 := am_beq hc.2
        subst h10 h3
        have hi : i < 1 := am_okt hoks _ List.mem_cons_self
        have hi0 : i = 0 := by omega
        subst hi0
        have hb4 : b = 4 := by
          have key : ∀ b, b < am_Nc 3 → am_fty 3 b = 3 → b = 4 := by decide +kernel
          exact key b hbN hty
        subst hb4
        obtain ⟨q0, hq0⟩ := am_in (f := 10) (i := 0) (by decide) (by decide)
        have he := am_ws_at (ν := ν) (dA := dA) (M := M) hq0
        rw [am_cell_obj (f := 10) rfl] at he
        have hset := am_ws_set (ν := ν) (dA := dA) (M := M) (M' := am_sl M x) hq0 am_sl_obj am_sl_other
        refine va_put hx hb hts (am_lay ha11) (am_Yc 3) (am_ty_ok _ ha11) (am_nm_ok _ ha11) hown hK hP hD hS q0 he (am_cl_full _ ha11) 4 hbN hlink hsame rfl (ty := .long) (v := .long x) (am_ty_ok _ ha11 4 hbN) rfl rfl (by rw [List.length_map, List.length_range]; exact hbN) hd (fun H1 locs1 hP1 hD1 hS1 => ?_)
        rw [show am_cls 10 = 3 from rfl, show am_len0 10 = 12 from rfl] at hP1 hD1
        rw [hset] at hP1 hD1
        exact go (n := 3) hn hh12 hokl (am_okt (am_okt hoks)) ⟨hK, hP1, hD1, hS1, hM, hSt⟩ hl
      · exact h.elim
    | iaload =>
      obtain ⟨hd, ho⟩ := am_row2 hy hen rfl
      simp only [am_F] at h
      obtain ⟨j, r1, rfl, hh1⟩ := am_i_e h
      obtain ⟨f, i, r, rfl, hh2⟩ := am_r_e hh1
      obtain ⟨hc, n, hnl, rfl, hh3⟩ := am_b_e hh2
      have hcl : (nI n).toNatClampNeg = n := nI_clamp (Nat.lt_trans hnl (am_len_lt M f))
      have hin : vp_in (nI n) (am_len M f) := vp_in_nI hnl (am_len_lt M f)
      have hk1 := am_beq hc
      have hi : i < am_cnt f := am_okt hoks _ List.mem_cons_self
      rcases am_k1 hk1 with hf | rfl | rfl | rfl
      · obtain ⟨q0, hq0⟩ := am_in hf hi
        have he := am_ws_at (ν := ν) (dA := dA) (M := M) hq0
        rw [am_cell_int hk1] at he
        rw [am_len_eq (by omega)] at hin
        refine va_iald hx hb hK hP q0 0 he rfl hin hd ?_
        rw [hcl]
        have hv : am_iv M f i n = M.1 f i n := by unfold am_iv; rw [am_bf (show f ≠ 59 by omega), am_bf (show f ≠ 60 by omega)]; rfl
        rw [hv] at hh3
        exact go (n := 1) ho hh3 hokl (am_okc trivial (am_okt (am_okt hoks))) Wd hl
      · have hi0 : i = 0 := by have : i < 1 := hi; omega
        subst hi0
        obtain ⟨-, z2, z3, z4⟩ := hSt.1 59 (Or.inl rfl)
        refine va_ti hx hb z2 hS hin (v := .int (am_stT 59 n)) (by show Value.int (am_stT 59 _) = _; rw [hcl]) hd ?_
        exact go (n := 1) ho hh3 hokl (am_okc trivial (am_okt (am_okt hoks))) Wd hl
      · have hi0 : i = 0 := by have : i < 1 := hi; omega
        subst hi0
        obtain ⟨-, z2, z3, z4⟩ := hSt.1 60 (Or.inr rfl)
        refine va_ti hx hb z2 hS hin (v := .int (am_stT 60 n)) (by show Value.int (am_stT 60 _) = _; rw [hcl]) hd ?_
        exact go (n := 1) ho hh3 hokl (am_okc trivial (am_okt (am_okt hoks))) Wd hl
      · have hi0 : i = 0 := by have : i < 1 := hi; omega
        subst hi0
        obtain ⟨z2, z3, z4⟩ := hSt.2
        refine va_sld hx hb z2 z3 z4 hS hin hd ?_
        rw [hcl]
        exact go (n := 1) ho hh3 hokl (am_okc trivial (am_okt (am_okt hoks))) Wd hl
    | baload =>
      obtain ⟨hd, ho⟩ := am_row2 hy hen rfl
      simp only [am_F] at h
      obtain ⟨j, r1, rfl, hh1⟩ := am_i_e h
      obtain ⟨f, i, r, rfl, hh2⟩ := am_r_e hh1
      obtain ⟨hc, n, hnl, rfl, hh3⟩ := am_b_e hh2
      have hcl : (nI n).toNatClampNeg = n := nI_clamp (Nat.lt_trans hnl (am_len_lt M f))
      have hin : vp_in (nI n) (am_len M f) := vp_in_nI hnl (am_len_lt M f)
      have hk1 := am_beq hc
      have hi : i < am_cnt f := am_okt hoks _ List.mem_cons_self
      have hf := am_k2 hk1
      obtain ⟨q0, hq0⟩ := am_in hf hi
      have he := am_ws_at (ν := ν) (dA := dA) (M := M) hq0
      rw [am_cell_bool hk1] at he
      rw [am_len_eq (by omega)] at hin
      refine va_zald hx hb hK hP q0 1 he rfl hin hd ?_
      rw [hcl]
      exact go (n := 1) ho hh3 hokl (am_okc trivial (am_okt (am_okt hoks))) Wd hl
    | aaload =>
      obtain ⟨hd, ho⟩ := am_row2 hy hen rfl
      simp only [am_F] at h
      obtain ⟨j, r1, rfl, hh1⟩ := am_i_e h
      obtain ⟨f, i, r, rfl, hh2⟩ := am_r_e hh1
      obtain ⟨hc, n, hnl, rfl, hh3⟩ := am_b_e hh2
      have hcl : (nI n).toNatClampNeg = n := nI_clamp (Nat.lt_trans hnl (am_len_lt M f))
      have hin : vp_in (nI n) (am_len M f) := vp_in_nI hnl (am_len_lt M f)
      have hk1 := am_beq hc
      have hi : i < am_cnt f := am_okt hoks _ List.mem_cons_self
      have hf : f < 59 := by rcases am_k3 hk1 with z | z | z | z <;> omega
      obtain ⟨q0, hq0⟩ := am_in hf hi
      have he := am_ws_at (ν := ν) (dA := dA) (M := M) hq0
      rw [am_cell_ref hk1] at he
      rw [am_len_eq (by omega)] at hin hnl
      have hty : ∃ (t0 : Nat) (C : String), (am_aT dA)[t0]? = some (dA (am_cls f - 4), FieldType.object C) := by
        rcases am_k3 hk1 with rfl | rfl | rfl | rfl
        · exact ⟨2, _, rfl⟩
        · exact ⟨4, _, rfl⟩
        · exact ⟨3, _, rfl⟩
        · exact ⟨5, _, rfl⟩
      obtain ⟨t0, Cn, ht0⟩ := hty
      refine va_aldq hx hb hK hP q0 t0 he ht0 hin hd ?_
      rw [hcl]
      exact go (n := 1) ho hh3 hokl (am_okc (am_riA_ok hM hk1 hi hnl) (am_okt (am_okt hoks))) Wd hl
    | iastore =>
      obtain ⟨hd, ho⟩ := am_row2 hy hen rfl
      simp only [am_F] at h
      obtain ⟨x, r0, rfl, hh1⟩ := am_i_e h
      obtain ⟨j, r1, rfl, hh2⟩ := am_i_e hh1
      obtain ⟨f, i, r, rfl, hh3⟩ := am_r_e hh2
      obtain ⟨hc, n, hnl, rfl, hh4⟩ := am_b_e hh3
      have hcl : (nI n).toNatClampNeg = n := nI_clamp (Nat.lt_trans hnl (am_len_lt M f))
      have hin : vp_in (nI n) (am_len M f) := vp_in_nI hnl (am_len_lt M f)
      simp only [Bool.and_eq_true] at hc
      have hk1 := am_beq hc.1
      have hf := am_blt hc.2
      have hi : i < am_cnt f := am_okt (am_okt hoks) _ List.mem_cons_self
      obtain ⟨q0, hq0⟩ := am_in hf hi
      have he := am_ws_at (ν := ν) (dA := dA) (M := M) hq0
      rw [am_cell_int hk1] at he
      rw [am_len_eq (by omega)] at hin
      have hset := am_ws_set (ν := ν) (dA := dA) (M := M) (M' := am_si M f i n x) hq0 (by rw [am_cell_int hk1, am_si_upd]) am_si_other
      refine va_iast hx hb hK hP hD hS q0 0 he rfl hin hd (fun H1 locs1 hP1 hD1 hS1 => ?_)
      rw [hcl, hset] at hP1 hD1
      exact go (n := 1) ho hh4 hokl (am_okt (am_okt (am_okt hoks))) ⟨hK, hP1, hD1, hS1, hM, am_St_si hf hSt⟩ hl
    | bastore =>
      obtain ⟨hd, ho⟩ := am_row2 hy hen rfl
      simp only [am_F] at h
      obtain ⟨x, r0, rfl, hh1⟩ := am_i_e h
      obtain ⟨j, r1, rfl, hh2⟩ := am_i_e hh1
      obtain ⟨f, i, r, rfl, hh3⟩ := am_r_e hh2
      obtain ⟨hc, n, hnl, rfl, hx01, hh4⟩ := am_b_e hh3
      have hcl : (nI n).toNatClampNeg = n := nI_clamp (Nat.lt_trans hnl (am_len_lt M f))
      have hin : vp_in (nI n) (am_len M f) := vp_in_nI hnl (am_len_lt M f)
      have hk1 := am_beq hc
      have hf := am_k2 hk1
      have hi : i < am_cnt f := am_okt (am_okt hoks) _ List.mem_cons_self
      obtain ⟨q0, hq0⟩ := am_in hf hi
      have he := am_ws_at (ν := ν) (dA := dA) (M := M) hq0
      rw [am_cell_bool hk1] at he
      rw [am_len_eq (by omega)] at hin
      have hset := am_ws_set (ν := ν) (dA := dA) (M := M) (M' := am_si M f i n x) hq0 (by rw [am_cell_bool hk1, am_si_upd]) am_si_other
      have hnar : vp_nar .boolean x = x := by rcases hx01 with rfl | rfl <;> rfl
      refine va_zast hx hb hK hP hD hS q0 1 he rfl hin hd (fun H1 locs1 hP1 hD1 hS1 => ?_)
      rw [hcl, hnar, hset] at hP1 hD1
      exact go (n := 1) ho hh4 hokl (am_okt (am_okt (am_okt hoks))) ⟨hK, hP1, hD1, hS1, hM, am_St_si hf hSt⟩ hl
    | aastore =>
      obtain ⟨hd, ho⟩ := am_row2 hy hen rfl
      simp only [am_F] at h
      obtain ⟨g, j2, r0, rfl, hh1⟩ := am_r_e h
      obtain ⟨j, r1, rfl, hh2⟩ := am_i_e hh1
      obtain ⟨f, i, r, rfl, hh3⟩ := am_r_e hh2
      obtain ⟨hc, n, hnl, rfl, hh4⟩ := am_b_e hh3
      have hcl : (nI n).toNatClampNeg = n := nI_clamp (Nat.lt_trans hnl (am_len_lt M f))
      have hin : vp_in (nI n) (am_len M f) := vp_in_nI hnl (am_len_lt M f)
      simp only [Bool.and_eq_true, Bool.or_eq_true] at hc
      have hfg : (f = 4 ∧ g = 18) ∨ (f = 12 ∧ g = 22) := hc.imp (fun q => ⟨am_beq q.1, am_beq q.2⟩) (fun q => ⟨am_beq q.1, am_beq q.2⟩)
      have hi : i < am_cnt f := am_okt (am_okt hoks) _ List.mem_cons_self
      have hj2 : j2 < am_cnt g := hoks _ List.mem_cons_self
      have hi0 : i = 0 := by rcases hfg with ⟨rfl, -⟩ | ⟨rfl, -⟩ <;> (have : i < 1 := hi; omega)
      subst hi0
      have hf : f = 4 ∨ f = 12 := hfg.imp (fun q => q.1) (fun q => q.1)
      have hg : g < 59 := by omega
      have hk1 : am_kind f = 3 := by rcases hf with rfl | rfl <;> rfl
      have hkg : am_kind g = 0 := by rcases hfg with ⟨-, rfl⟩ | ⟨-, rfl⟩ <;> rfl
      obtain ⟨q0, hq0⟩ := am_in (f := f) (i := 0) (by omega) hi
      obtain ⟨q1, hq1⟩ := am_in hg hj2
      have he := am_ws_at (ν := ν) (dA := dA) (M := M) hq0
      have he1 := am_ws_at (ν := ν) (dA := dA) (M := M) hq1
      rw [am_cell_ref hk1] at he
      rw [am_cell_obj hkg] at he1
      rw [am_len_eq (by omega)] at hin hnl
      have hcg := (am_k0 hkg).2.1
      have hset := am_ws_set (ν := ν) (dA := dA) (M := M) (M' := am_sv M f n j2) (e := .inl (dA (am_cls f - 4), am_len0 f, .inr (.inr (.inr (.inr (va_up (fun k => some (ν (am_rfA f) (am_riA M f 0 k))) n (some (ν g j2)))))))) hq0 (by
        rw [am_cell_ref hk1]
        refine congrArg (fun z => (.inl (dA (am_cls f - 4), am_len0 f, .inr (.inr (.inr (.inr z)))) : va_E)) ?_
        funext k
        unfold va_up
        by_cases hkn : k = n
        · subst hkn
          rw [if_pos rfl]
          rcases hfg with ⟨rfl, rfl⟩ | ⟨rfl, rfl⟩
          · show some (ν 18 ((am_sv M 4 k j2).2.1 4 k)) = _
            rw [am_sv_at, if_pos ⟨rfl, rfl⟩]
          · show some (ν 22 ((am_sv M 12 k j2).2.1 12 k)) = _
            rw [am_sv_at, if_pos ⟨rfl, rfl⟩]
        · rw [if_neg hkn]
          rcases hf with rfl | rfl
          · show some (ν 18 ((am_sv M 4 n j2).2.1 4 k)) = some (ν 18 (M.2.1 4 k))
            rw [am_sv_at, if_neg (fun q => hkn q.2)]
          · show some (ν 22 ((am_sv M 12 n j2).2.1 12 k)) = some (ν 22 (M.2.1 12 k))
            rw [am_sv_at, if_neg (fun q => hkn q.2)]) (am_sv_arr hf)
      have hty : (am_aT dA)[(am_cls f - 4)]? = some (dA (am_cls f - 4), .object (am_on (am_cls g))) := by
        rcases hfg with ⟨rfl, rfl⟩ | ⟨rfl, rfl⟩ <;> rfl
      refine va_astq hx hb hK hP hD hS q0 (am_cls f - 4) q1 (am_cls g) (r := (am_on (am_cls g), am_Tc (am_cls g), am_Nc (am_cls g))) he hty he1 (am_cl_full _ hcg) hin hd (fun H1 locs1 hP1 hD1 hS1 => ?_)
      rw [hcl, hset] at hP1 hD1
      refine go (n := 1) ho hh4 hokl (am_okt (am_okt (am_okt hoks))) ⟨hK, hP1, hD1, hS1, ⟨fun k hk => ?_, fun k hk => ?_, ?_, ?_⟩, hSt⟩ hl
      · rw [am_sv_at]; split
        · rename_i q; rcases hfg with ⟨-, rfl⟩ | ⟨rfl, -⟩
          · exact hj2
          · omega
        · exact hM.1 k hk
      · rw [am_sv_at]; split
        · rename_i q; rcases hfg with ⟨rfl, -⟩ | ⟨-, rfl⟩
          · omega
          · exact hj2
        · exact hM.2.1 k hk
      · rw [am_sv_at, if_neg (by omega)]; exact hM.2.2.1
      · rw [am_sv_at, if_neg (by omega)]; exact hM.2.2.2
    | arraylength =>
      obtain ⟨hd, ho⟩ := am_row2 hy hen rfl
      simp only [am_F] at h
      obtain ⟨f, i, r, rfl, hh1⟩ := am_r_e h
      obtain ⟨hc, hh2⟩ := am_b_e hh1
      have hk1 := am_beq hc
      have hi : i < am_cnt f := hoks _ List.mem_cons_self
      rcases am_k1 hk1 with hf | rfl | rfl | rfl
      · obtain ⟨q0, hq0⟩ := am_in hf hi
        have he := am_ws_at (ν := ν) (dA := dA) (M := M) hq0
        rw [am_cell_int hk1] at he
        rw [am_len_eq (by omega)] at hh2
        refine va_alen hx hb hK hP q0 0 he (ty := .int) rfl rfl hd ?_
        exact go (n := 1) ho hh2 hokl (am_okc trivial (am_okt hoks)) Wd hl
      · have hi0 : i = 0 := by have : i < 1 := hi; omega
        subst hi0
        obtain ⟨-, z2, z3, z4⟩ := hSt.1 59 (Or.inl rfl)
        refine va_tlen hx hb z2 hS rfl hd ?_
        exact go (n := 1) ho hh2 hokl (am_okc trivial (am_okt hoks)) Wd hl
      · have hi0 : i = 0 := by have : i < 1 := hi; omega
        subst hi0
        obtain ⟨-, z2, z3, z4⟩ := hSt.1 60 (Or.inr rfl)
        refine va_tlen hx hb z2 hS rfl hd ?_
        exact go (n := 1) ho hh2 hokl (am_okc trivial (am_okt hoks)) Wd hl
      · have hi0 : i = 0 := by have : i < 1 := hi; omega
        subst hi0
        obtain ⟨z2, z3, z4⟩ := hSt.2
        refine va_slen hx hb z2 z3 z4 hS hd ?_
        exact go (n := 1) ho hh2 hokl (am_okc trivial (am_okt hoks)) Wd hl
    | getstatic k =>
      obtain ⟨hd, ho⟩ := am_row2 hy hen rfl
      simp only [am_F] at h
      obtain ⟨hc, hh1⟩ := am_b_e h
      simp only [Bool.or_eq_true] at hc
      have ha : a = 59 ∨ a = 60 := hc.imp am_beq am_beq
      simp only [am_okI, Bool.and_eq_true] at ho
      obtain ⟨qp, hqp⟩ := am_has4_e ho.1
      have hpos := am_sk_ok _ hqp
      dsimp only at hpos
      obtain ⟨z1, -, -, -⟩ := hSt.1 a ha
      refine va_gets hx hb z1 hS hown (hts _ (am_tb_in hpos rfl)) (fun _ q => q) hd ?_
      exact go (n := 3) ho.2 hh1 hokl (am_okc (by rcases ha with rfl | rfl <;> exact (show 0 < 1 by decide)) hoks) Wd hl
    | invokevirtual k =>
      obtain ⟨hd, ho⟩ := am_row2 hy hen rfl
      simp only [am_F] at h
      simp only [am_okI, Bool.and_eq_true] at ho
      obtain ⟨⟨⟨ho1, ho2⟩, ho3⟩, hn⟩ := ho
      obtain ⟨qp, hqp⟩ := am_has4_e ho1
      obtain ⟨ha, hpos⟩ := am_mk_ok _ hqp
      dsimp only at ha hpos
      have hmi := am_beq ho2
      have hnp := am_beq ho3
      unfold am_call at h
      cases hp : am_pop (b + 1) st [] with
      | none => rw [hp] at h; exact h.elim
      | some q =>
        obtain ⟨as, rest⟩ := q
        rw [hp] at h
        obtain ⟨hc, hd1, Q', hY, hk⟩ := am_b_e h
        simp only [Bool.and_eq_true, Bool.false_or] at hc
        obtain ⟨⟨hc1, hc2⟩, hc3⟩ := hc
        have hc1 := Nat.le_of_ble_eq_true hc1
        have hc2 := Nat.le_of_ble_eq_true hc2
        obtain ⟨hpo, hle⟩ := am_pop_of hp
        simp only [List.reverse_nil, List.nil_append] at hpo
        have hokas : ∀ v ∈ as, am_okV v := fun v hv => hoks v (by rw [hpo]; exact List.mem_append_left _ (List.mem_reverse.mpr hv))
        have hokr : ∀ v ∈ rest, am_okV v := fun v hv => hoks v (by rw [hpo]; exact List.mem_append_right _ hv)
        have hgood : GoodIn am_tb (am_wsM a) := by
          intro w hw
          rcases List.mem_cons.mp hw with rfl | hw
          · exact ⟨am_tb_in (am_mw_ok a ha) rfl, Or.inl (by rfl)⟩
          · exact ⟨hw, good_of_word (List.mem_filter.mp hw).2⟩
        have hpn := am_mw_pn a (by omega)
        have hml14 := am_ml_lt a (by omega)
        have hini : (Cond.initialized (am_mn a).cls).before args s = true := hts _ (am_tb_in (am_mw_it a ha) rfl)
        have hlk : (Cond.methodLink (am_on (am_mc y)) k (am_mn a)).before args s = true := hts _ (am_tb_in hpos rfl)
        have hmet := am_met (l := l) ha hY hokas hc2 ν dA D A
        have hRm : (⟨d - 1, 0, 0, 40 * (d - 1)⟩ : Room).frames + 1 ≤ R.frames ∧ 8 + (am_ml a + 11) + (⟨d - 1, 0, 0, 40 * (d - 1)⟩ : Room).locals ≤ R.locals := ⟨by show d - 1 + 1 ≤ _; have := Rm.1; omega, by show 8 + (am_ml a + 11) + 40 * (d - 1) ≤ _; have := Rm.2.1; omega⟩
        have hCB : CallB R s args (am_on (am_mc y)) k (am_mn a) (am_bt a) (am_ml a) (am_rtT a) (am_wsM a) ⟨d - 1, 0, 0, 40 * (d - 1)⟩ 0 0 (am_np a) := callB_of (am_np a) hts hgood rfl rfl rfl hini hlk ⟨hpn.2.1, hpn.2.2.1, hpn.2.2.2⟩ hRm
        have hW8 : 2 * (F0 m (am_pc y pc) lsc (st.map (am_rv ν))).monitorRoom + ((rest.map (am_rv ν)).map fun v => v.category).sum ≤ 8 := lv_room (by rw [am_cat_sum]; exact hc1)
        have hcs : cells + 0 ≤ R.cells ∧ slots + 0 ≤ R.slots := ⟨Rm.2.2.1, Rm.2.2.2⟩
        have fin : ∀ (r : Option am_V) (M' : am_M) (H' : Heap) (locs' : List Loc), Q' r M' → (∀ v, r = some v → am_okV v) → am_Wd ν dA D A s H' locs' M' → W p l e R s m args below meth c H' locs' cells slots Qm (F0 m (am_pc y pc + 3) lsc ((r.map (am_rv ν)).toList ++ rest.map (am_rv ν))) := by
          intro r M' H' locs' hq hokv hWd
          have hs := hk r M' hq
          have hst : (r.map (am_rv ν)).toList ++ rest.map (am_rv ν) = (r.toList ++ rest).map (am_rv ν) := by cases r <;> rfl
          rw [hst]
          refine go (n := 3) hn hs hokl (fun v hv => ?_) hWd hl
          rcases List.mem_append.mp hv with hv | hv
          · exact hokv v (by cases r with
              | none => simp at hv
              | some w => simp at hv; rw [hv])
          · exact hokr v hv
        obtain ⟨hw1, hw2⟩ := am_mw_in a ha hmi
        match as, hc3, hpo, hle, hokas, hmet with
        | [], hc3, _, _, _, _ => simp [am_recv] at hc3
        | .inl x :: as', hc3, _, _, _, _ => simp [am_recv] at hc3
        | .inr (.inr x) :: as', hc3, _, _, _, _ => simp [am_recv] at hc3
        | .inr (.inl (f, i)) :: as', hc3, hpo, hle, hokas, hmet =>
          simp only [am_recv, Bool.and_eq_true] at hc3
          have hk0 := am_beq hc3.1
          have hcf := am_beq hc3.2
          obtain ⟨hf, hc11, -⟩ := am_k0 hk0
          have hi : i < am_cnt f := hokas _ List.mem_cons_self
          obtain ⟨q0, hq0⟩ := am_in hf hi
          have he := am_ws_at (ν := ν) (dA := dA) (M := M) hq0
          rw [am_cell_obj hk0] at he
          have hrecv := va_recv hK hP (am_cl_full _ hc11) he
          dsimp only at hrecv
          rw [hcf] at hrecv
          refine am_run (va_runV (As := as'.map (am_rv ν)) (rest := rest.map (am_rv ν)) (b := ν f i) (C := am_on (am_mc a)) ⟨hx, hb, hml, hown, hts⟩ hmet ⟨hCB, hts _ (am_tb_in hw1 rfl), hts _ (am_tb_in hw2 rfl)⟩ ⟨am_W0_blind, hrecv, fun U hU hW => ⟨rfl, am_W0_of Wd hU hW⟩⟩ rfl (by simp at hle ⊢; omega) hl.2.1 ?_ hW8 hd hcs) Wd fin
          show st.map (am_rv ν) = _
          rw [hpo]; simp [am_rv]
    | invokestatic k =>
      obtain ⟨hd, ho⟩ := am_row2 hy hen rfl
      simp only [am_F] at h
      simp only [am_okI, Bool.and_eq_true] at ho
      obtain ⟨ho1, hn⟩ := ho
      cases h999 : Nat.beq a 999 with
      | true =>
        rw [h999] at h ho1
        obtain ⟨n, r0, rfl, hh1⟩ := am_i_e h
        obtain ⟨q, r1, rfl, hh2⟩ := am_i_e hh1
        obtain ⟨g, k2, r2, rfl, hh3⟩ := am_r_e hh2
        obtain ⟨pp, r3, rfl, hh4⟩ := am_i_e hh3
        obtain ⟨f, i, r, rfl, hh5⟩ := am_r_e hh4
        obtain ⟨hc, hd1, rfl, rfl, rfl, hh6⟩ := am_b_e hh5
        simp only [Bool.and_eq_true] at hc
        obtain ⟨⟨⟨⟨⟨hcat, hkf⟩, hkg⟩, hf⟩, hg⟩, hlen⟩ := hc
        have hcat := Nat.le_of_ble_eq_true hcat
        have hkf := am_beq hkf
        have hkg := am_beq hkg
        have hf := am_blt hf
        have hg := am_blt hg
        have hlen := am_beq hlen
        have hi : i < am_cnt f := am_okt (am_okt (am_okt (am_okt hoks))) _ List.mem_cons_self
        have hk2 : k2 < am_cnt g := am_okt (am_okt hoks) _ List.mem_cons_self
        obtain ⟨q0, hq0⟩ := am_in hf hi
        obtain ⟨q1, hq1⟩ := am_in hg hk2
        have he0 := am_ws_at (ν := ν) (dA := dA) (M := M) hq0
        have he1 := am_ws_at (ν := ν) (dA := dA) (M := M) hq1
        rw [am_cell_int hkf] at he0
        rw [am_cell_int hkg] at he1
        obtain ⟨qp, hqp⟩ := am_has3_e ho1
        have hpos := am_ak_ok _ hqp
        dsimp only at hpos
        have hl0 := am_l0 f
        have hcl : (nI (am_len0 f)).toNatClampNeg = am_len0 f := nI_clamp (by omega)
        have hset := am_ws_set (ν := ν) (dA := dA) (M := M) (M' := am_sr M g k2 (va_cpy (M.1 f i) (M.1 g k2) 0 0 (am_len0 f))) (e := .inl (dA 0, am_len0 g, .inl (va_cpy (M.1 f i) (M.1 g k2) 0 0 (am_len0 f)))) hq1 (by rw [am_cell_int hkg, am_sr_row]) am_sr_other
        refine va_copyi hx hb (hml.trans hl.2.1.symm) hown (hts _ (am_tb_in hpos rfl)) (hts _ (am_tb_in am_nw_ok.1 rfl)) (hts _ (am_tb_in am_nw_ok.2.1 rfl)) (hts _ (am_tb_in am_nw_ok.2.2 rfl)) hK hP hD hS q0 q1 0 0 (ty := .int) he0 he1 rfl rfl rfl (by decide) (by decide) (nI_pos (by omega)) (by rw [hcl]; exact Nat.le_of_eq (Nat.zero_add _)) (by rw [hcl, hlen]; exact Nat.le_of_eq (Nat.zero_add _)) (fun _ _ => rfl) (by have := Rm.1; omega) ?_ hd (fun H1 locs1 hP1 hD1 hS1 => ?_)
        · rw [am_cat_sum]
          have : nativeFrameWords "java/lang/System" "arraycopy" 5 = 7 := by decide +kernel
          have := Rm.2.1
          omega
        · rw [hcl, show (0 : Int32).toNatClampNeg = 0 from rfl, hset] at hP1 hD1
          exact go (n := 3) hn hh6 hokl (am_okt (am_okt (am_okt (am_okt (am_okt hoks))))) ⟨hK, hP1, hD1, hS1, hM, am_St_sr hg hSt⟩ hl
      | false =>
        rw [h999] at h ho1
        simp only [cond_false, Bool.and_eq_true] at ho1
        obtain ⟨⟨ho1, ho2⟩, ho3⟩ := ho1
        obtain ⟨qp, hqp⟩ := am_has4_e ho1
        obtain ⟨ha, hpos⟩ := am_mk_ok _ hqp
        dsimp only at ha hpos
        have hmi := am_beq ho2
        have hnp := am_beq ho3
        have h : am_call am_Sem am_Sem d y pc ls M Q a (am_pop b st []) true := h
        unfold am_call at h
        cases hp : am_pop b st [] with
        | none => rw [hp] at h; exact h.elim
        | some q =>
          obtain ⟨as, rest⟩ := q
          rw [hp] at h
          obtain ⟨hc, hd1, Q', hY, hk⟩ := am_b_e h
          simp only [Bool.and_eq_true, Bool.true_or] at hc
          obtain ⟨⟨hc1, hc2⟩, -⟩ := hc
          have hc1 := Nat.le_of_ble_eq_true hc1
          have hc2 := Nat.le_of_ble_eq_true hc2
          obtain ⟨hpo, hle⟩ := am_pop_of hp
          simp only [List.reverse_nil, List.nil_append] at hpo
          have hokas : ∀ v ∈ as, am_okV v := fun v hv => hoks v (by rw [hpo]; exact List.mem_append_left _ (List.mem_reverse.mpr hv))
          have hokr : ∀ v ∈ rest, am_okV v := fun v hv => hoks v (by rw [hpo]; exact List.mem_append_right _ hv)
          have hgood : GoodIn am_tb (am_wsM a) := by
            intro w hw
            rcases List.mem_cons.mp hw with rfl | hw
            · exact ⟨am_tb_in (am_mw_ok a ha) rfl, Or.inl (by rfl)⟩
            · exact ⟨hw, good_of_word (List.mem_filter.mp hw).2⟩
          have hpn := am_mw_pn a (by omega)
          have hml14 := am_ml_lt a (by omega)
          have hini : (Cond.initialized (am_mn a).cls).before args s = true := hts _ (am_tb_in (am_mw_it a ha) rfl)
          have hlk : (Cond.methodLink (am_on (am_mc y)) k (am_mn a)).before args s = true := hts _ (am_tb_in hpos rfl)
          have hmet := am_met (l := l) ha hY hokas hc2 ν dA D A
          have hRm : (⟨d - 1, 0, 0, 40 * (d - 1)⟩ : Room).frames + 1 ≤ R.frames ∧ 8 + (am_ml a + 11) + (⟨d - 1, 0, 0, 40 * (d - 1)⟩ : Room).locals ≤ R.locals := ⟨by show d - 1 + 1 ≤ _; have := Rm.1; omega, by show 8 + (am_ml a + 11) + 40 * (d - 1) ≤ _; have := Rm.2.1; omega⟩
          have hCB : CallB R s args (am_on (am_mc y)) k (am_mn a) (am_bt a) (am_ml a) (am_rtT a) (am_wsM a) ⟨d - 1, 0, 0, 40 * (d - 1)⟩ 0 0 (am_np a) := callB_of (am_np a) hts hgood rfl rfl rfl hini hlk ⟨hpn.2.1, hpn.2.2.1, hpn.2.2.2⟩ hRm
          have hW8 : 2 * (F0 m (am_pc y pc) lsc (st.map (am_rv ν))).monitorRoom + ((rest.map (am_rv ν)).map fun v => v.category).sum ≤ 8 := lv_room (by rw [am_cat_sum]; exact hc1)
          have hcs : cells + 0 ≤ R.cells ∧ slots + 0 ≤ R.slots := ⟨Rm.2.2.1, Rm.2.2.2⟩
          have fin : ∀ (r : Option am_V) (M' : am_M) (H' : Heap) (locs' : List Loc), Q' r M' → (∀ v, r = some v → am_okV v) → am_Wd ν dA D A s H' locs' M' → W p l e R s m args below meth c H' locs' cells slots Qm (F0 m (am_pc y pc + 3) lsc ((r.map (am_rv ν)).toList ++ rest.map (am_rv ν))) := by
            intro r M' H' locs' hq hokv hWd
            have hs := hk r M' hq
            have hst : (r.map (am_rv ν)).toList ++ rest.map (am_rv ν) = (r.toList ++ rest).map (am_rv ν) := by cases r <;> rfl
            rw [hst]
            refine go (n := 3) hn hs hokl (fun v hv => ?_) hWd hl
            rcases List.mem_append.mp hv with hv | hv
            · exact hokv v (by cases r with
                | none => simp at hv
                | some w => simp at hv; rw [hv])
            · exact hokr v hv
          have hw1 := am_mw_st a ha hmi
          refine am_run (va_runS (As := as.map (am_rv ν)) (rest := rest.map (am_rv ν)) ⟨hx, hb, hml, hown, hts⟩ hmet ⟨hCB, hts _ (am_tb_in hw1 rfl)⟩ ⟨am_W0_blind, fun U hU hW => ⟨rfl, am_W0_of Wd hU hW⟩⟩ rfl (by simp at hle ⊢; omega) hl.2.1 ?_ hW8 hd hcs) Wd fin
          show st.map (am_rv ν) = _
          rw [hpo]; simp
    | ireturn =>
      obtain ⟨hd, ho⟩ := am_row2 hy hen rfl
      obtain ⟨x, r, rfl, hh1⟩ := am_i_e h
      simp only [am_okI, Bool.and_eq_true, Bool.or_eq_true] at ho
      obtain ⟨ho1, ho2⟩ := ho
      have ha := am_beq ho1
      cases r with
      | cons v r => exact hh1.elim
      | nil =>
        refine hr pc lsc (some (.inl x)) M H locs (Or.inl ⟨x, rfl, hd, ?_⟩) (fun v hv => by cases hv; trivial) ?_ Wd
        · rcases ho2 with q | q
          · exact Or.inl (by rw [← ha]; exact am_beq q)
          · have q := am_beq q
            refine Or.inr ⟨by rw [← ha]; exact q, ?_⟩
            subst q
            exact hh1.1
        · rcases ho2 with q | q
          · have q := am_beq q
            subst q; exact hh1
          · have q := am_beq q
            subst q; exact hh1.2
    | lreturn =>
      obtain ⟨hd, ho⟩ := am_row2 hy hen rfl
      obtain ⟨x, r, rfl, hh1⟩ := am_l_e h
      cases r with
      | cons v r => exact hh1.elim
      | nil => exact hr pc lsc (some (.inr (.inr x))) M H locs (Or.inr (Or.inl ⟨x, rfl, hd, am_beq ho⟩)) (fun v hv => by cases hv; trivial) hh1 Wd
    | areturn =>
      obtain ⟨hd, ho⟩ := am_row2 hy hen rfl
      simp only [am_F] at h
      obtain ⟨f, i, r, rfl, hh1⟩ := am_r_e h
      cases r with
      | cons v r => exact hh1.elim
      | nil => exact hr pc lsc (some (.inr (.inl (f, i)))) M H locs (Or.inr (Or.inr (Or.inl ⟨(f, i), rfl, hd, am_beq ho⟩))) (fun v hv => by cases hv; exact hoks _ List.mem_cons_self) hh1 Wd
    | return_ =>
      obtain ⟨hd, ho⟩ := am_row2 hy hen rfl
      cases st with
      | cons v r => exact h.elim
      | nil => exact hr pc lsc none M H locs (Or.inr (Or.inr (Or.inr ⟨rfl, hd, am_beq ho⟩))) (fun v hv => by cases hv) h Wd
    | _ => exact h.elim
