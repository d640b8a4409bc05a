/-! CONSTRUCTORS. Cells by their addresses: what stands in the heap, how large it is; rows that keep both -/
def kU (L : Nat → Option va_E) (a : Nat) (x : va_E) : Nat → Option va_E := fun b => if b = a then some x else L b
theorem kU_at (L : Nat → Option va_E) (a : Nat) (x : va_E) : kU L a x a = some x := if_pos rfl
theorem kU_ne {L : Nat → Option va_E} {a b : Nat} {x : va_E} (h : b ≠ a) : kU L a x b = L b := if_neg h
def kA (h0 n0 : Nat) : Nat → Prop := fun q => q = h0 ∨ n0 ≤ q
def kS (D : va_G) (A : Nat → Prop) (L : Nat → Option va_E) (n : Nat) (H0 H : Heap) (locs : List Loc) : Prop := H.size = n ∧ (∀ a x, L a = some x → va_at D am_cl (a, x) H ∧ A a) ∧ va_S A H0 H locs ∧ ∀ q, H0.size ≤ q → A q
theorem kS_mono {D : va_G} {A : Nat → Prop} {L L' : Nat → Option va_E} {n : Nat} {H0 H : Heap} {locs : List Loc} (h : kS D A L n H0 H locs) (hL : ∀ a x, L' a = some x → L a = some x) : kS D A L' n H0 H locs := ⟨h.1, fun a x q => h.2.1 a x (hL a x q), h.2.2⟩
theorem kS_new {D : va_G} {A : Nat → Prop} {L : Nat → Option va_E} {n : Nat} {H0 H H1 : Heap} {locs : List Loc} {x : va_E} (h : kS D A L n H0 H locs) (z1 : H1.size = n + 1) (o1 : ∀ q, q < n → H1[q]? = H[q]?) (hx : va_at D am_cl (n, x) H1) : kS D A (kU L n x) (n + 1) H0 H1 locs := by
  obtain ⟨s1, s2, s3, s4⟩ := h
  refine ⟨z1, fun a y q => ?_, ⟨by have := s3.1; omega, fun q q1 q2 => (o1 q (by have := s3.1; omega)).trans (s3.2.1 q q1 q2), s3.2.2⟩, s4⟩
  by_cases c : a = n
  · subst c
    rw [kU_at] at q
    cases q
    exact ⟨hx, s4 _ (by have := s3.1; omega)⟩
  · rw [kU_ne c] at q
    obtain ⟨g1, g2⟩ := s2 a y q
    have hlt : a < H.size := va_at.lt g1
    exact ⟨va_at.kept g1 (o1 a (by omega)), g2⟩
theorem kS_put {D : va_G} {A : Nat → Prop} {L : Nat → Option va_E} {n a k : Nat} {H0 H H1 : Heap} {locs : List Loc} {x y : va_E} (h : kS D A L n H0 H locs) (hL : L a = some y) (z1 : H1.size = H.size) (o1 : ∀ q, q ≠ a → H1[q]? = H[q]?) (hx : va_at D am_cl (a, x) H1) : kS D A (kU L a x) n H0 H1 (locs ++ [⟨a, k⟩]) := by
  obtain ⟨s1, s2, s3, s4⟩ := h
  refine ⟨z1.trans s1, fun b w q => ?_, va_S.put s3 z1 o1 (s2 a y hL).2, s4⟩
  by_cases c : b = a
  · subst c
    rw [kU_at] at q
    cases q
    exact ⟨hx, (s2 _ y hL).2⟩
  · rw [kU_ne c] at q
    exact ⟨va_at.kept (s2 b w q).1 (o1 b c), (s2 b w q).2⟩
def am_df (ci : Nat) : List Value := (List.range (am_Nc ci)).map fun j => defaultValue (am_Yc ci j)
section KR
variable {p : Program} {l : Launch} {e : Env} {R : Room} {s : State} {m : MethodId} {args : Array Value} {below : List Frame} {meth : Method} {c : Code} {H : Heap} {locs : List Loc} {cells slots : Nat} {Q : State → Prop}
variable {cc : ByteArray} {pc : Nat} {ls : Array Slot} {rest : List Value} {a n : Nat} {D : va_G} {A : Nat → Prop} {L : Nat → Option va_E} {tys : List (ClassId × FieldType)} {own : String} {index : Nat}
theorem kr_new (hx : p.tables.exec = Jvm.exec) (hb : c.code = cc) (hown : s.vm.findClass own = some m.cls) (hts : ∀ w ∈ am_tb, w.before args s = true) (hK : va_K D am_cl tys s) (ci : Nat) (hc : ci < 11) (hcl : (Cond.classLink own index (am_on ci)).before args s = true) (hinst : (Cond.instantiable (am_on ci) (am_Nc ci)).before args s = true) (hini : (Cond.initialized (am_on ci)).before args s = true)
    (hS : kS D A L n s.heap H locs) (hcells : cells + 1 ≤ R.cells) (hslots : slots + am_Nc ci ≤ R.slots) (hd : decode cc pc = .ok (.new index, 3))
    (kk : ∀ H1 : Heap, kS D A (kU L n (.inr (ci, am_df ci))) (n + 1) s.heap H1 locs → W p l e R s m args below meth c H1 locs (cells + 1) (slots + am_Nc ci) Q (F0 m (pc + 3) ls (.ref n :: rest))) : W p l e R s m args below meth c H locs cells slots Q (F0 m pc ls rest) := by
  have hKn := hK.1 ci _ (am_cl_full ci hc)
  refine W.newcK hx hb hown hcl hinst hini rfl hd hcells hslots hKn.2.1 hS.1 fun H1 kC hkC e1 z1 o1 => ?_
  refine kk H1 (kS_new hS z1 o1 ⟨_, am_cl_full ci hc, t_OB.to (u_born (am_Yc ci) hts (am_lay hc) hKn hkC e1 (am_ty_ok ci hc)) (fun j hj => ?_)⟩)
  show _ = (am_df ci).getD j .null
  have hj : j < am_Nc ci := hj
  simp [am_df, hj]
theorem kr_newi (hx : p.tables.exec = Jvm.exec) (hb : c.code = cc) (harr : (Cond.arrayClass .int).before args s = true) (hK : va_K D am_cl tys s) {t0 : Nat} {cA : ClassId} (ht : tys[t0]? = some (cA, .int)) (hS : kS D A L n s.heap H locs) {k : Int32} (N' : Nat) (hk : k = nI N') (hN : N' ≤ 1000) (hcells : cells + 1 ≤ R.cells) (hslots : slots + N' ≤ R.slots) (hd : decode cc pc = .ok (.newarray .int, 2))
    (kk : ∀ H1 : Heap, kS D A (kU L n (.inl (cA, N', .inl fun _ => 0))) (n + 1) s.heap H1 locs → W p l e R s m args below meth c H1 locs (cells + 1) (slots + N') Q (F0 m (pc + 2) ls (.ref n :: rest))) : W p l e R s m args below meth c H locs cells slots Q (F0 m pc ls (.int k :: rest)) := by
  subst hk
  refine va_newaK (N := N') hx hb (atype := .int) harr rfl hd rfl (nI_pos (by omega)) (nI_clamp (by omega)) (by show N' * 4 ≤ _; omega) hcells hslots hS.1 fun H1 cA' e1 z1 o1 _ hNm => ?_
  have h2 : s.vm.findClass ("[" ++ FieldType.int.toString) = some cA := (hK.2 t0 _ ht).2
  have : cA' = cA := Option.some.inj (hNm.symm.trans h2)
  subst this
  exact kk H1 (kS_new hS z1 o1 e1)
theorem kr_newb (hx : p.tables.exec = Jvm.exec) (hb : c.code = cc) (harr : (Cond.arrayClass .boolean).before args s = true) (hK : va_K D am_cl tys s) {t0 : Nat} {cA : ClassId} (ht : tys[t0]? = some (cA, .boolean)) (hS : kS D A L n s.heap H locs) {k : Int32} (N' : Nat) (hk : k = nI N') (hN : N' ≤ 1000) (hcells : cells + 1 ≤ R.cells) (hslots : slots + N' ≤ R.slots) (hd : decode cc pc = .ok (.newarray .boolean, 2))
    (kk : ∀ H1 : Heap, kS D A (kU L n (.inl (cA, N', .inl fun _ => 0))) (n + 1) s.heap H1 locs → W p l e R s m args below meth c H1 locs (cells + 1) (slots + N') Q (F0 m (pc + 2) ls (.ref n :: rest))) : W p l e R s m args below meth c H locs cells slots Q (F0 m pc ls (.int k :: rest)) := by
  subst hk
  refine va_newaK (N := N') hx hb (atype := .boolean) harr rfl hd rfl (nI_pos (by omega)) (nI_clamp (by omega)) (by show N' * 1 ≤ _; omega) hcells hslots hS.1 fun H1 cA' e1 z1 o1 _ hNm => ?_
  have h2 : s.vm.findClass ("[" ++ FieldType.boolean.toString) = some cA := (hK.2 t0 _ ht).2
  have : cA' = cA := Option.some.inj (hNm.symm.trans h2)
  subst this
  exact kk H1 (kS_new hS z1 o1 e1)
theorem kr_newq (hx : p.tables.exec = Jvm.exec) (hb : c.code = cc) (hown : s.vm.findClass own = some m.cls) {C : String} (hcl : (Cond.classLink own index C).before args s = true) (hao : va_AO C s) (hK : va_K D am_cl tys s) {t0 : Nat} {cA : ClassId} (ht : tys[t0]? = some (cA, .object C)) (hS : kS D A L n s.heap H locs) {k : Int32} (N' : Nat) (hk : k = nI N') (hN : N' ≤ 1000) (hcells : cells + 1 ≤ R.cells) (hslots : slots + N' ≤ R.slots) (hd : decode cc pc = .ok (.anewarray index, 3))
    (kk : ∀ H1 : Heap, kS D A (kU L n (.inl (cA, N', .inr (.inr (.inr (.inr fun _ => none)))))) (n + 1) s.heap H1 locs → W p l e R s m args below meth c H1 locs (cells + 1) (slots + N') Q (F0 m (pc + 3) ls (.ref n :: rest))) : W p l e R s m args below meth c H locs cells slots Q (F0 m pc ls (.int k :: rest)) := by
  subst hk
  have hcl' : (nI N').toNatClampNeg = N' := nI_clamp (by omega)
  refine W.anew hx hb hown hcl (va_AO.use hao) rfl hd rfl (nI_pos (by omega)) (by rw [hcl']; omega) hcells (by rw [hcl']; exact hslots) fun cA' kA comp f1 _ _ _ => ?_
  rw [hcl']
  obtain ⟨_, _, _, _, _, h2⟩ := (hK.2 t0 _ ht).2
  have : cA' = cA := Option.some.inj (f1.symm.trans h2)
  subst this
  have hn := hS.1
  subst hn
  refine kk _ (kS_new hS (Array.size_push _) (fun q hq => ?_) ?_)
  · rw [Array.getElem?_push, if_neg (Nat.ne_of_lt hq)]
  · show (H.push _)[H.size]? = some (vp_cell _ _)
    rw [Array.getElem?_push_size, vp_cell_q, arrV_new]; rfl
/-- what is asked of a field's store -/
theorem kr_putF (hx : p.tables.exec = Jvm.exec) (hb : c.code = cc) (hown : s.vm.findClass own = some m.cls) (hts : ∀ w ∈ am_tb, w.before args s = true) (hK : va_K D am_cl tys s) (hin : meth.name = "<init>") (ci k : Nat) (hc : ci < 11) (hk : k < am_Nc ci) (ho : own = am_on ci) (hlink : (Cond.fieldLink own index (am_on ci) (am_Tc ci k).2.1 (am_Tc ci k).2.2.1).before args s = true) (hfin : (am_Tc ci k).2.2.2 = true)
    (hS : kS D A L n s.heap H locs) {fs : List Value} (hL : L a = some (.inr (ci, fs))) (hl : k < fs.length) {v : Value} (hn : narrow (am_Yc ci k) v = v) (hf : fits (am_Yc ci k) v = true) (hd : decode cc pc = .ok (.putfield index, 3))
    (kk : ∀ (H1 : Heap) (locs1 : List Loc), kS D A (kU L a (.inr (ci, fs.set k v))) n s.heap H1 locs1 → W p l e R s m args below meth c H1 locs1 cells slots Q (F0 m (pc + 3) ls rest)) : W p l e R s m args below meth c H locs cells slots Q (F0 m pc ls (v :: .ref a :: rest)) := by
  have hap := va_apart (own := own) hts (am_lay hc) (am_Yc ci) (am_ty_ok ci hc) (am_nm_ok ci hc) hK (am_cl_full ci hc)
  obtain ⟨r, h1, cell, q1, q2, q3, q4⟩ := (hS.2.1 a _ hL).1
  cases Option.some.inj (h1.symm.trans (am_cl_full ci hc))
  obtain ⟨hSl, hfc, kC, hkC, hkind⟩ := hK.1 ci _ (am_cl_full ci hc)
  obtain ⟨cf, kf, fi, f, hi, hsl⟩ := hSl k hk
  have hlays := u_lays hts (am_lay hc) hk
  have hlay : (Cond.laysFinal (am_on ci) (am_Tc ci k).1 (am_Tc ci k).2.1 (am_Tc ci k).2.2.1).before args s = true := by
    have := hts _ (am_lay hc _ (u_in_lay hk))
    unfold u_lay at this
    rw [if_pos hfin] at this; exact this
  have hdc := am_decl_ok ci hc k hk
  have hcf : m.cls = cf := by
    obtain ⟨_, _, c', _, _, _, -, -, hf', -, -, -, hown2, -⟩ := Cond.laysFinal_spec hlay
    have e2 := hi.symm.trans hf'
    simp only [Option.some.injEq, Prod.mk.injEq] at e2
    rw [e2.1]
    rw [ho] at hown
    rw [hdc] at hown2
    exact Option.some.inj (hown.symm.trans hown2)
  refine W.putFinK hx hb hown hlink (by rw [hdc] at hi; exact hi) (u_facts hfc hkC hlays hi).1 hcf hin (by rw [q2]; exact u_fits hfc hkC hkind hlays hi (am_ty_ok ci hc k hk) hn hf) q1 q3 (by rw [hsl]; exact k2_hasslot (q4 k hk)) rfl rfl hd fun H' e1 e2 e3 => ?_
  rw [hsl] at e1 ⊢
  exact kk H' _ (kS_put hS hL e2 e3 ⟨_, am_cl_full ci hc, t_OB.to (V := updV (vp_V fs) k v) ⟨_, e1, q2, q3, t_set q4 hap hk v⟩ (fun j _ => vp_updV_set hl v j)⟩)
theorem kr_put (hx : p.tables.exec = Jvm.exec) (hb : c.code = cc) (hown : s.vm.findClass own = some m.cls) (hts : ∀ w ∈ am_tb, w.before args s = true) (hK : va_K D am_cl tys s) (ci k : Nat) (hc : ci < 11) (hk : k < am_Nc ci) (hlink : (Cond.fieldLink own index (am_on ci) (am_Tc ci k).2.1 (am_Tc ci k).2.2.1).before args s = true) (hfin : (am_Tc ci k).2.2.2 = false)
    (hS : kS D A L n s.heap H locs) {fs : List Value} (hL : L a = some (.inr (ci, fs))) (hl : k < fs.length) {v : Value} (hn : narrow (am_Yc ci k) v = v) (hf : fits (am_Yc ci k) v = true) (hd : decode cc pc = .ok (.putfield index, 3))
    (kk : ∀ (H1 : Heap) (locs1 : List Loc), kS D A (kU L a (.inr (ci, fs.set k v))) n s.heap H1 locs1 → W p l e R s m args below meth c H1 locs1 cells slots Q (F0 m (pc + 3) ls rest)) : W p l e R s m args below meth c H locs cells slots Q (F0 m pc ls (v :: .ref a :: rest)) := by
  have hap := va_apart (own := own) hts (am_lay hc) (am_Yc ci) (am_ty_ok ci hc) (am_nm_ok ci hc) hK (am_cl_full ci hc)
  obtain ⟨r, h1, cell, q1, q2, q3, q4⟩ := (hS.2.1 a _ hL).1
  cases Option.some.inj (h1.symm.trans (am_cl_full ci hc))
  obtain ⟨hSl, hfc, kC, hkC, hkind⟩ := hK.1 ci _ (am_cl_full ci hc)
  obtain ⟨cf, kf, fi, f, hi, hsl⟩ := hSl k hk
  have hlays := u_lays hts (am_lay hc) hk
  have hlay : (Cond.lays (am_on ci) (am_Tc ci k).1 (am_Tc ci k).2.1 (am_Tc ci k).2.2.1).before args s = true := by
    have := hts _ (am_lay hc _ (u_in_lay hk))
    unfold u_lay at this
    rw [if_neg (by rw [hfin]; decide)] at this; exact this
  have hdc := am_decl_ok ci hc k hk
  have h6 := u_store hfc hkC hkind hlay hi (am_ty_ok ci hc k hk) hn hf
  refine W.putK hx hb (f := f) ⟨hown, hlink, ⟨_, _, _, by rw [hdc] at hi; exact hi⟩, (u_facts hfc hkC hlays hi).1⟩ (by rw [q2]; exact h6) q1 q3 (by rw [hsl]; exact k2_hasslot (q4 k hk)) rfl rfl hd fun H' e1 e2 e3 => ?_
  rw [hsl] at e1 ⊢
  exact kk H' _ (kS_put hS hL e2 e3 ⟨_, am_cl_full ci hc, t_OB.to (V := updV (vp_V fs) k v) ⟨_, e1, q2, q3, t_set q4 hap hk v⟩ (fun j _ => vp_updV_set hl v j)⟩)
theorem kr_get (hx : p.tables.exec = Jvm.exec) (hb : c.code = cc) (hown : s.vm.findClass own = some m.cls) (hts : ∀ w ∈ am_tb, w.before args s = true) (hK : va_K D am_cl tys s) (ci k : Nat) (hc : ci < 11) (hk : k < am_Nc ci) (hlink : (Cond.fieldLink own index (am_on ci) (am_Tc ci k).2.1 (am_Tc ci k).2.2.1).before args s = true)
    (hS : kS D A L n s.heap H locs) {fs : List Value} (hL : L a = some (.inr (ci, fs))) {v : Value} (hv : fs[k]? = some v) (hd : decode cc pc = .ok (.getfield index, 3))
    (kk : W p l e R s m args below meth c H locs cells slots Q (F0 m (pc + 3) ls (v :: rest))) : W p l e R s m args below meth c H locs cells slots Q (F0 m pc ls (.ref a :: rest)) := by
  have hP : va_P D am_cl [(a, .inr (ci, fs))] H := fun j q hq => by
    have hz : j < 1 := (List.getElem?_eq_some_iff.mp hq).1
    rw [show j = 0 by omega] at hq
    cases hq
    exact (hS.2.1 a _ hL).1
  exact va_get hx hb hts (am_lay hc) hown hK hP 0 rfl (am_cl_full ci hc) k hk hlink (fun x q => by rw [am_decl_ok ci hc k hk] at q; exact q) hv hd kk
theorem kr_iast (hx : p.tables.exec = Jvm.exec) (hb : c.code = cc) (hK : va_K D am_cl tys s) {t0 : Nat} {cA : ClassId} (ht : tys[t0]? = some (cA, .int)) {N' : Nat} {f : Nat → Int32} (hS : kS D A L n s.heap H locs) (hL : L a = some (.inl (cA, N', .inl f))) {i x : Int32} (j : Nat) (hi : i = nI j) (hj : j < N') (hN : N' ≤ 1000) (hd : decode cc pc = .ok (.iastore, 1))
    (kk : ∀ (H1 : Heap) (locs1 : List Loc), kS D A (kU L a (.inl (cA, N', .inl fun q => if q = j then x else f q))) n s.heap H1 locs1 → W p l e R s m args below meth c H1 locs1 cells slots Q (F0 m (pc + 1) ls rest)) : W p l e R s m args below meth c H locs cells slots Q (F0 m pc ls (.int x :: .int i :: .ref a :: rest)) := by
  subst hi
  have hcl' : (nI j).toNatClampNeg = j := nI_clamp (by omega)
  have hc0 : H[a]? = some (vp_cell cA (N', .inl f)) := (hS.2.1 a _ hL).1
  refine W.iast hx hb hc0 ((hK.2 t0 _ ht).1 N' (fun q => .int (f q))) (fun q => by cases q) (by show ¬ (nI j < 0 ∨ (arrV _ _ _).slots.size ≤ _); rw [arrV_size, hcl']; exact fun z => z.elim (nI_pos (by omega)) (by omega)) rfl rfl hd fun H1 e z oq => ?_
  rw [hcl'] at e ⊢
  refine kk H1 _ (kS_put hS hL z oq ?_)
  show H1[a]? = some (vp_cell _ _)
  rw [e, vp_cell_i, vp_cell_i, arrV_store]
  congr 2
  funext q
  by_cases hq : q = j
  · simp [updV, hq]
  · simp [updV, hq]
theorem kr_aast (hx : p.tables.exec = Jvm.exec) (hb : c.code = cc) (hK : va_K D am_cl tys s) {t0 ci : Nat} (hc : ci < 11) {cA : ClassId} (ht : tys[t0]? = some (cA, .object (am_on ci))) {N' v : Nat} {f : Nat → Option Nat} {fs : List Value} (hS : kS D A L n s.heap H locs) (hL : L a = some (.inl (cA, N', .inr (.inr (.inr (.inr f)))))) (hV : L v = some (.inr (ci, fs))) {i : Int32} (j : Nat) (hi : i = nI j) (hj : j < N') (hN : N' ≤ 1000) (hd : decode cc pc = .ok (.aastore, 1))
    (kk : ∀ (H1 : Heap) (locs1 : List Loc), kS D A (kU L a (.inl (cA, N', .inr (.inr (.inr (.inr fun q => if q = j then some v else f q)))))) n s.heap H1 locs1 → W p l e R s m args below meth c H1 locs1 cells slots Q (F0 m (pc + 1) ls rest)) : W p l e R s m args below meth c H locs cells slots Q (F0 m pc ls (.ref v :: .int i :: .ref a :: rest)) := by
  subst hi
  have hcl' : (nI j).toNatClampNeg = j := nI_clamp (by omega)
  have hc0 : H[a]? = some (vp_cell cA (N', .inr (.inr (.inr (.inr f))))) := (hS.2.1 a _ hL).1
  obtain ⟨r', hr', cellV, g1, g2, g3, -⟩ := (hS.2.1 v _ hV).1
  have hcls := (hK.1 ci _ (am_cl_full ci hc)).2
  obtain ⟨kA', comp, k1, k2, k3, -⟩ := (hK.2 t0 _ ht).2
  have hcomp : comp = D.1 ci := Option.some.inj (k3.symm.trans hcls.1)
  subst hcomp
  obtain ⟨kC, hkC, -⟩ := hcls.2
  refine W.aast hx hb hc0 (fun q h => by cases h) (fun h => by cases h) k1 k2 rfl hkC ⟨nI_pos (by omega), by show _ < (arrV _ _ _).slots.size; rw [arrV_size, hcl']; exact hj⟩ g1 (fun q h => by rw [g3] at h; cases h) (by rw [g2]; exact hkC) (by rw [g2]; exact va_assign hcls) rfl rfl hd fun H1 e z oq => ?_
  rw [hcl'] at e ⊢
  refine kk H1 _ (kS_put hS hL z oq ?_)
  show H1[a]? = some (vp_cell _ _)
  rw [e, vp_cell_q, vp_cell_q, arrV_store]
  congr 2
  funext q
  by_cases hq : q = j
  · simp [updV, hq, va_rf]
  · simp [updV, hq]
end KR
