/-! what the Statement gives at the law's entry, in the words above -/
theorem k_known {s : State} {args : Array Value} (hts : ∀ w ∈ am_tb, w.before args s = true) : ∃ D : va_G, ∀ c, c < 11 → u_Kn s (am_on c) (am_Tc c) (am_Nc c) (D.1 c) (D.2 c) := by
  have inst : ∀ c, c < 11 → (Cond.instantiable (am_on c) (am_Nc c)).before args s = true := fun c hc => match c, hc with
    | 0, _ => hts _ kw_15
    | 1, _ => hts _ kw_23
    | 2, _ => hts _ kw_124
    | 3, _ => hts _ kw_132
    | 4, _ => hts _ kw_138
    | 5, _ => hts _ kw_297
    | 6, _ => hts _ kw_30
    | 7, _ => hts _ kw_145
    | 8, _ => hts _ kw_215
    | 9, _ => hts _ kw_222
    | 10, _ => hts _ kw_683
    | n + 11, h => absurd h (by omega)
  have h : ∀ c, ∃ q : ClassId × (Nat → Nat), c < 11 → u_Kn s (am_on c) (am_Tc c) (am_Nc c) q.1 q.2 := by
    intro c
    by_cases hc : c < 11
    · obtain ⟨a, b, z⟩ := u_known hts (am_lay hc) (inst c hc)
      exact ⟨(a, b), fun _ => z⟩
    · exact ⟨((0 : Nat), id), fun z => absurd z hc⟩
  exact ⟨(fun c => (Classical.choose (h c)).1, fun c => (Classical.choose (h c)).2), fun c hc => Classical.choose_spec (h c) hc⟩
theorem k_prim {s : State} {args : Array Value} {ty : FieldType} (hty : ∀ C, ty ≠ .object C) (h : (Cond.arrayClass ty).before args s = true) : ∃ cA : ClassId, ArrOfT s cA ty ∧ va_RA s cA ty := by
  obtain ⟨c, k, comp, h1, h2, h3⟩ := Cond.arrayClass_spec h
  refine ⟨c, fun N z => ⟨(fun k h => by cases h), k, h2, comp, h3⟩, ?_⟩
  cases ty with
  | object C => exact absurd rfl (hty C)
  | _ => exact h1
theorem k_objs {s : State} {args : Array Value} {C : String} (h : (Cond.arrayOver (.object C)).before args s = true) : ∃ cA : ClassId, ArrOfT s cA (.object C) ∧ va_RA s cA (.object C) := by
  obtain ⟨comp, c, k, h1, -, h3, h4, h5⟩ := Cond.arrayOver_spec h
  exact ⟨c, fun N z => ⟨(fun k h => by cases h), k, h3, comp, h4⟩, k, comp, h3, h4, h1, h5⟩
theorem kl_in {i : Nat} {w : Cond} (h : lw_tbl[i]? = some w) : w ∈ lw_tbl := List.mem_of_getElem? h
theorem k_env {s : State} {args : Array Value} (htl : ∀ w ∈ lw_tbl, w.before args s = true) (hts : ∀ w ∈ am_tb, w.before args s = true) : ∃ (D : va_G) (dA : Nat → ClassId), kE D dA s := by
  obtain ⟨D, hD⟩ := k_known hts
  obtain ⟨c0, a0⟩ := k_prim (fun C h => by cases h) (hts _ kw_71)
  obtain ⟨c1, a1⟩ := k_prim (fun C h => by cases h) (hts _ kw_214)
  have o1 := htl (.arrayOver (.object "WhoIsWho$Scan")) (kl_in (i := 66) rfl)
  have o2 := htl (.arrayOver (.object "WhoIsWho$Join")) (kl_in (i := 181) rfl)
  have o3 := htl (.arrayOver (.object "WhoIsWho$World")) (kl_in (i := 167) rfl)
  have o4 := htl (.arrayOver (.object "WhoIsWho$Track")) (kl_in (i := 258) rfl)
  obtain ⟨c2, a2⟩ := k_objs o1
  obtain ⟨c3, a3⟩ := k_objs o2
  obtain ⟨c4, a4⟩ := k_objs o3
  obtain ⟨c5, a5⟩ := k_objs o4
  refine ⟨D, fun j => match j with
    | 0 => c0
    | 1 => c1
    | 2 => c2
    | 3 => c3
    | 4 => c4
    | _ => c5, ⟨fun c q hq => ?_, fun k q hk => ?_⟩, ⟨va_AO.of o1, va_AO.of o2, va_AO.of o3, va_AO.of o4⟩, ?_, ?_, ?_, ?_, ?_, ?_⟩
  · have hc : c < 11 := (List.getElem?_eq_some_iff.mp hq).1
    rw [am_cl_full c hc] at hq
    cases hq
    exact hD c hc
  · match k, hk with
    | 0, hk => cases hk; exact a0
    | 1, hk => cases hk; exact a1
    | 2, hk => cases hk; exact a2
    | 3, hk => cases hk; exact a3
    | 4, hk => cases hk; exact a4
    | 5, hk => cases hk; exact a5
    | k + 6, hk => simp [am_aT] at hk
  · exact va_Nw.of rfl (htl _ (kl_in (i := 68) rfl))
  · exact va_Nw.of rfl (htl _ (kl_in (i := 170) rfl))
  · exact va_Nw.of rfl (htl _ (kl_in (i := 183) rfl))
  · exact va_Nw.of rfl (htl _ (kl_in (i := 260) rfl))
  · exact va_Nw.of rfl (htl _ (kl_in (i := 335) rfl))
  · exact va_Nw.of rfl (htl _ (kl_in (i := 109) rfl))
theorem k_static {s : State} {args : Array Value} {nm : String} {f : Nat → Int32} (hl : (Cond.laysStatic "WhoIsWho" nm "[I").before args s = true) (hini : (Cond.initialized "WhoIsWho").before args s = true) (harr : (Cond.arrayOf (.static "WhoIsWho" nm "[I") .int).before args s = true) (hlen : (Cond.eq (.length (.static "WhoIsWho" nm "[I")) (.int 6)).before args s = true)
    (hel : ∀ j, j < 6 → (Cond.eq (.elem (.static "WhoIsWho" nm "[I") (.int (Int32.ofNat j))) (.int (f j))).before args s = true) : ∃ t : Nat, va_Z "WhoIsWho" nm "[I" (.ref t) (fun q => s.heap.size ≤ q) s s.heap ∧ va_T .int t 6 (fun j => .int (f j)) (fun q => s.heap.size ≤ q) s s.heap ∧ t < s.heap.size := by
  obtain ⟨t, h1, h2⟩ := va_Tof (A := fun q => s.heap.size ≤ q) (N := 6) (f := fun j => .int (f j)) (by decide) harr (va_eqv hlen rfl) (fun j hj => va_eqv (hel j hj) rfl) (fun a ha => by omega)
  obtain ⟨cell, z1, -⟩ := id h2
  exact ⟨t, va_Zref hl hini h1 (fun a ha => by omega), h2, (Array.getElem?_eq_some_iff.mp z1).1⟩
theorem k_wsD {N rl rm b : Nat} {dA : Nat → ClassId} {M : am_M} : va_D (fun q => N ≤ q) (am_ws (nu N rl rm b) dA M) := by
  have at1 : ∀ (k : Nat) (q : Nat × va_E), (am_ws (nu N rl rm b) dA M)[k]? = some q → ∃ f i, am_nms[k]? = some (f, i) ∧ f < 59 ∧ q.1 = N + nof f i := by
    intro k q hq
    unfold am_ws at hq
    rw [List.getElem?_map] at hq
    cases hk : am_nms[k]? with
    | none => rw [hk] at hq; cases hq
    | some z =>
      rw [hk] at hq
      cases hq
      have hz := am_nms_ok (List.mem_of_getElem? hk)
      exact ⟨z.1, z.2, rfl, hz.1, nu_of N rl rm b z.1 z.2 hz.1⟩
  refine ⟨fun i j x y hx hy hxy => ?_, fun k q hk => ?_⟩
  · obtain ⟨f, a, h1, -, h2⟩ := at1 i x hx
    obtain ⟨f', a', h1', -, h2'⟩ := at1 j y hy
    have e : nof f a = nof f' a' := by omega
    have hnd := List.pairwise_iff_getElem.mp nof_nd
    have gi : (am_nms.map fun q => nof q.1 q.2)[i]? = some (nof f a) := by rw [List.getElem?_map, h1]; rfl
    have gj : (am_nms.map fun q => nof q.1 q.2)[j]? = some (nof f' a') := by rw [List.getElem?_map, h1']; rfl
    obtain ⟨l1, e1⟩ := List.getElem?_eq_some_iff.mp gi
    obtain ⟨l2, e2⟩ := List.getElem?_eq_some_iff.mp gj
    rcases Nat.lt_trichotomy i j with g | g | g
    · exact absurd (e1.trans (e.trans e2.symm)) (hnd i j l1 l2 g)
    · exact g
    · exact absurd (e2.trans (e.symm.trans e1.symm)) (hnd j i l2 l1 g)
  · obtain ⟨f, i, -, -, h⟩ := at1 k q hk
    show N ≤ q.1
    omega
theorem k_wsP {D : va_G} {N rl rm b : Nat} {dA : Nat → ClassId} {M : am_M} {H : Heap} (h : ∀ f i, f < 59 → i < am_cnt f → va_at D am_cl (nu N rl rm b f i, am_cell (nu N rl rm b) dA M f i) H) : va_P D am_cl (am_ws (nu N rl rm b) dA M) H := by
  intro k q hq
  unfold am_ws at hq
  rw [List.getElem?_map] at hq
  cases hk : am_nms[k]? with
  | none => rw [hk] at hq; cases hq
  | some z =>
    rw [hk] at hq
    cases hq
    have hz := am_nms_ok (List.mem_of_getElem? hk)
    exact h z.1 z.2 hz.1 hz.2
theorem kd_law_0 : decode code 0 = .ok (.new 7, 3) := by decide +kernel
theorem kd_law_3 : decode code 3 = .ok (.dup, 1) := by decide +kernel
theorem kd_law_4 : decode code 4 = .ok (.invokespecial 9, 3) := by decide +kernel
theorem kd_law_7 : decode code 7 = .ok (.astore_n 1, 1) := by decide +kernel
theorem kd_law_8 : decode code 8 = .ok (.new 10, 3) := by decide +kernel
theorem kd_law_11 : decode code 11 = .ok (.dup, 1) := by decide +kernel
theorem kd_law_12 : decode code 12 = .ok (.invokespecial 12, 3) := by decide +kernel
theorem kd_law_15 : decode code 15 = .ok (.astore_n 2, 1) := by decide +kernel
theorem kd_law_16 : decode code 16 = .ok (.iconst 0, 1) := by decide +kernel
theorem kd_law_17 : decode code 17 = .ok (.istore_n 3, 1) := by decide +kernel
theorem kp_law : am_pc 137 10 = 18 := by decide +kernel
