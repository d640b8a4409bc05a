/-! what a constructor is given, what it leaves; a call of one -/
def kIn (C : String) : MethodName := ⟨C, "<init>", "()V"⟩
theorem kIn_np (C : String) : (parseMethodDescriptor (kIn C).desc).map (fun d => d.parameters.length) = some 0 := (by decide +kernel : (parseMethodDescriptor "()V").map (fun d => d.parameters.length) = some 0)
def kE (D : va_G) (dA : Nat → ClassId) (U : State) : Prop := va_K D am_cl (am_aT dA) U ∧ (va_AO "WhoIsWho$Scan" U ∧ va_AO "WhoIsWho$Join" U ∧ va_AO "WhoIsWho$World" U ∧ va_AO "WhoIsWho$Track" U) ∧
  va_Nw (.methodLinkNest "WhoIsWho$Told" 33 (kIn "WhoIsWho$Scan") "WhoIsWho") U ∧ va_Nw (.methodLinkNest "WhoIsWho$Keeper" 22 (kIn "WhoIsWho$Dealer") "WhoIsWho") U ∧ va_Nw (.methodLinkNest "WhoIsWho$Shortlist" 17 (kIn "WhoIsWho$Join") "WhoIsWho") U ∧ va_Nw (.methodLinkNest "WhoIsWho$World" 21 (kIn "WhoIsWho$Track") "WhoIsWho") U ∧ va_Nw (.methodLinkNest "WhoIsWho" 27 (kIn "WhoIsWho$Level") "WhoIsWho") U ∧
  va_Nw (.fieldLinkNest "WhoIsWho$Told" 34 "WhoIsWho" "RULE_FIRST" "[I" "WhoIsWho") U
theorem kE_warm {D : va_G} {dA : Nat → ClassId} {s U : State} (hW : s.WarmedH U.vm) (h : kE D dA s) : kE D dA U := by
  obtain ⟨h1, ⟨a1, a2, a3, a4⟩, b1, b2, b3, b4, b5, b6⟩ := h
  exact ⟨va_K.moved hW.alike h1, ⟨va_AO.moved hW.alike a1, va_AO.moved hW.alike a2, va_AO.moved hW.alike a3, va_AO.moved hW.alike a4⟩, va_Nw.warmM hW b1, va_Nw.warmM hW b2, va_Nw.warmM hW b3, va_Nw.warmM hW b4, va_Nw.warmM hW b5, va_Nw.warmF hW b6⟩
theorem kE_same {D : va_G} {dA : Nat → ClassId} {s U : State} (hvm : s.vm = U.vm) (h : kE D dA s) : kE D dA U := by
  obtain ⟨h1, ⟨a1, a2, a3, a4⟩, b1, b2, b3, b4, b5, b6⟩ := h
  have al : s.vm.Alike U.vm := by rw [← hvm]; exact Vm.Alike.refl s.vm
  exact ⟨va_K.moved al h1, ⟨va_AO.moved al a1, va_AO.moved al a2, va_AO.moved al a3, va_AO.moved al a4⟩, va_Nw.same rfl hvm b1, va_Nw.same rfl hvm b2, va_Nw.same rfl hvm b3, va_Nw.same rfl hvm b4, va_Nw.same rfl hvm b5, va_Nw.same rfl hvm b6⟩
def kRF : Nat → Int32 := fun k => am_nth [60, 900, 2500, 4000, 3, 3] k 0
def kF (N0 rf : Nat) (U : State) : Prop := va_Z "WhoIsWho" "RULE_FIRST" "[I" (.ref rf) (fun q => N0 ≤ q) U U.heap ∧ va_T .int rf 6 (fun j => .int (kRF j)) (fun q => N0 ≤ q) U U.heap ∧ rf < U.heap.size ∧ rf < N0
theorem kF_go {N0 rf : Nat} {s U : State} (hvm : s.vm.Alike U.vm) (hz : s.heap.size ≤ U.heap.size) (hk : ∀ q : Nat, q < s.heap.size → q < N0 → U.heap[q]? = s.heap[q]?) (h : kF N0 rf s) : kF N0 rf U := by
  obtain ⟨h1, h2, h3, h4⟩ := h
  exact ⟨va_Z.kept (va_Z.moved hvm h1) (fun a ha hn => hk a ha (by omega)), va_T.kept (va_T.moved hvm h2) (fun a ha hn => hk a ha (by omega)), by omega, h4⟩
def kPre (D : va_G) (dA : Nat → ClassId) (N0 rf h0 n ci : Nat) : State → Prop := fun U => U.heap.size = n ∧ N0 ≤ h0 ∧ h0 < n ∧ va_at D am_cl (h0, .inr (ci, am_df ci)) U.heap ∧ kE D dA U ∧ kF N0 rf U
def kQ (D : va_G) (L : Nat → Option va_E) (n' : Nat) : Unit → State → Prop := fun _ t => t.heap.size = n' ∧ ∀ a x, L a = some x → va_at D am_cl (a, x) t.heap
def kMet (l : Launch) (y : MethodName) (bytes : ByteArray) (maxL fr ci k kz : Nat) (Lf : (Nat → ClassId) → Nat → Nat → Nat → Option va_E) : Prop := ∀ (D : va_G) (dA : Nat → ClassId) (N0 rf h0 n : Nat), Met l y (Cond.code y bytes maxL none :: am_tb) { frames := fr, cells := k, slots := kz, locals := 40 * fr } (va_Pc [.ref h0] (kPre D dA N0 rf h0 n ci)) (va_Qv (fun _ => True) (kQ D (Lf dA h0 n) (n + k)) (kA h0 n)) k kz (kA h0 n)
/-- where a constructor's body stands -/
def kX (p : Program) (s : State) (m : MethodId) (args : Array Value) (meth : Method) (c : Code) (bytes : ByteArray) (maxL : Nat) (own : String) (fr k kz : Nat) (R : Room) (D : va_G) (dA : Nat → ClassId) (N0 rf h0 n : Nat) : Prop :=
  p.tables.exec = Jvm.exec ∧ c.code = bytes ∧ c.maxLocals = maxL ∧ s.vm.findClass own = some m.cls ∧ (∀ w ∈ am_tb, w.before args s = true) ∧ meth.name = "<init>" ∧ kE D dA s ∧ kF N0 rf s ∧ (s.heap.size = n ∧ N0 ≤ h0 ∧ h0 < n) ∧ R.frames = fr ∧ R.cells = k ∧ R.slots = kz ∧ R.locals = 40 * fr
theorem kMet_of {l : Launch} {C : String} {bytes : ByteArray} {maxL fr ci k kz : Nat} {Lf : (Nat → ClassId) → Nat → Nat → Nat → Option va_E} (hy : plainName C = true) (hm : 1 ≤ maxL)
    (body : ∀ (p : Program) (e : Env) (s : State) (m : MethodId) (args : Array Value) (below : List Frame) (meth : Method) (c : Code) (R : Room) (D : va_G) (dA : Nat → ClassId) (N0 rf h0 n : Nat) (Qm : State → Prop) (ls : Array Slot), kX p s m args meth c bytes maxL C fr k kz R D dA N0 rf h0 n → lv_has ls maxL [(0, .ref h0)] →
      kS D (kA h0 n) (kU (fun _ => none) h0 (.inr (ci, am_df ci))) n s.heap s.heap [] →
      (∀ (H : Heap) (locs : List Loc) (pc : Nat) (ls' : Array Slot) (L : Nat → Option va_E), kS D (kA h0 n) L (n + k) s.heap H locs → (∀ a x, Lf dA h0 n a = some x → L a = some x) → decode bytes pc = .ok (.return_, 1) → W p l e R s m args below meth c H locs k kz Qm (F0 m pc ls' [])) →
      W p l e R s m args below meth c s.heap [] 0 0 Qm (F0 m 0 ls [])) : kMet l (kIn C) bytes maxL fr ci k kz Lf := by
  intro D dA N0 rf h0 n
  refine Met.ofW (cc := bytes) (maxL := maxL) (ret := none) hy rfl ?_
  intro p e s m args below meth c s₁ B hml hv
  obtain ⟨rfl, hsz, hN, hh, hat, hE, hF⟩ := hv
  have hts := atoms_spec (ws := Cond.code (kIn C) bytes maxL none :: am_tb) B.pre
  have hown : s.vm.findClass C = some m.cls := findClass_of_methodNamed B.named
  have hin : meth.name = "<init>" := (name_of_methodNamed B.named B.method).1
  have hr := B.returns
  have hlocks := B.notSynchronized
  have hl := lv_entry ([.ref h0]) (n := maxL) hm
  rw [lg_entry_eq]
  generalize (lg_sl ([.ref h0]) ++ List.replicate (maxL - (lg_sl ([.ref h0])).length) Slot.unset).toArray = ls at hl ⊢
  refine body p e s m _ below meth c (headSpec (Cond.code (kIn C) bytes maxL none :: am_tb) { frames := fr, cells := k, slots := kz, locals := 40 * fr }).room D dA N0 rf h0 n _ ls ⟨B.exec, B.bytes, hml, hown, fun w hw => hts w (List.mem_cons_of_mem _ hw), hin, hE, hF, ⟨hsz, hN, hh⟩, rfl, rfl, rfl, rfl⟩ hl ⟨hsz, fun a x q => ?_, va_S.rf, fun q hq => Or.inr (by omega)⟩ (fun H locs pc ls' L hS hL hd => ?_)
  · by_cases ca : a = h0
    · subst ca; rw [kU_at] at q; cases q; exact ⟨hat, Or.inl rfl⟩
    · rw [kU_ne ca] at q; cases q
  · exact W.vret B.exec B.bytes hr (fun t ht hW => ⟨⟨(), rfl, trivial, by rw [ht]; exact hS.1, fun a x q => by rw [ht]; exact (hS.2.1 a x (hL a x q)).1⟩, va_S.F hS.2.2.1 ht⟩) hS.2.2.1.2.2 hd
def kL (L Lc : Nat → Option va_E) (h1 n : Nat) : Nat → Option va_E := fun a => if a = h1 ∨ n ≤ a then Lc a else L a
theorem kL_in {L Lc : Nat → Option va_E} {h1 n a : Nat} (h : a = h1 ∨ n ≤ a) : kL L Lc h1 n a = Lc a := if_pos h
theorem kL_out {L Lc : Nat → Option va_E} {h1 n a : Nat} (h : a ≠ h1) (h' : a < n) : kL L Lc h1 n a = L a := if_neg (by omega)
section KC
variable {p : Program} {l : Launch} {e : Env} {R : Room} {s : State} {m : MethodId} {args : Array Value} {below : List Frame} {meth : Method} {c : Code} {H : Heap} {locs : List Loc} {cells slots : Nat} {Q : State → Prop}
variable {cc : ByteArray} {pc : Nat} {ls : Array Slot} {rest : List Value} {n : Nat} {D : va_G} {A : Nat → Prop} {L : Nat → Option va_E} {own : String} {index : Nat} {dA : Nat → ClassId} {N0 rf : Nat}
theorem kc_good {C : String} {bytes : ByteArray} {maxL : Nat} (hcode : Cond.code (kIn C) bytes maxL none ∈ am_tb) : GoodIn am_tb (Cond.code (kIn C) bytes maxL none :: am_tb) := by
  intro w hw
  rcases List.mem_cons.mp hw with rfl | hw
  · exact ⟨hcode, Or.inl (by rfl)⟩
  · exact ⟨hw, good_of_word (List.mem_filter.mp hw).2⟩
theorem kc_pre (hE : kE D dA s) (hF : kF N0 rf s) (hN : ∀ q, A q → N0 ≤ q) (hS : kS D A L n s.heap H locs) {h1 ci : Nat} (hL : L h1 = some (.inr (ci, am_df ci))) : PreS s H (va_Pc [.ref h1] (kPre D dA N0 rf h1 n ci)) [.ref h1] := by
  have h1A := hS.2.1 h1 _ hL
  have hlt : h1 < H.size := va_at.lt h1A.1
  refine ⟨fun a U g mk q => ?_, fun U hU hW => ⟨rfl, by rw [hU]; exact hS.1, hN h1 h1A.2, by have := hS.1; omega, by rw [hU]; exact h1A.1, kE_warm hW hE, kF_go hW.alike (by rw [hU]; exact hS.2.2.1.1) (fun q q1 q2 => by rw [hU]; exact hS.2.2.1.2.1 q q1 (fun z => by have := hN q z; omega)) hF⟩⟩
  obtain ⟨q0, q1, q2, q3, q4, q5, q6⟩ := q
  exact ⟨q0, q1, q2, q3, q4, kE_same rfl q5, kF_go (Vm.Alike.refl U.vm) (Nat.le_refl _) (fun _ _ _ => rfl) q6⟩
theorem kc_post {H1 : Heap} {locs1 : List Loc} {h1 k : Nat} {y : va_E} {Lc : Nat → Option va_E} {t : State} (hS : kS D A L n s.heap H locs) (hL : L h1 = some y) (ht : t.heap = H1) (hB : kQ D Lc (n + k) () t) (hk1 : ∀ q : Nat, q < H.size → ¬ kA h1 n q → H1[q]? = H[q]?) (hS1 : va_S A s.heap H1 locs1) : kS D A (kL L Lc h1 n) (n + k) s.heap H1 locs1 := by
  obtain ⟨b1, b2⟩ := hB
  rw [ht] at b1 b2
  refine ⟨b1, fun a x q => ?_, hS1, hS.2.2.2⟩
  by_cases ca : a = h1 ∨ n ≤ a
  · rw [kL_in ca] at q
    refine ⟨b2 a x q, ?_⟩
    rcases ca with rfl | ca
    · exact (hS.2.1 _ _ hL).2
    · exact hS.2.2.2 a (by have := hS.2.2.1.1; have := hS.1; omega)
  · have hl : kL L Lc h1 n a = L a := if_neg ca
    rw [hl] at q
    have g := hS.2.1 a x q
    have hlt : a < H.size := va_at.lt g.1
    exact ⟨va_at.kept g.1 (hk1 a hlt ca), g.2⟩
theorem kr_call (hx : p.tables.exec = Jvm.exec) (hb : c.code = cc) (hml : c.maxLocals = ls.size) (hown : s.vm.findClass own = some m.cls) (hts : ∀ w ∈ am_tb, w.before args s = true) (hE : kE D dA s) (hF : kF N0 rf s) (hN : ∀ q, A q → N0 ≤ q) (hS : kS D A L n s.heap H locs)
    {C : String} {bytes : ByteArray} {maxL fr ci k kz : Nat} {Lf : (Nat → ClassId) → Nat → Nat → Nat → Option va_E} (hM : kMet l (kIn C) bytes maxL fr ci k kz Lf) (hcode : Cond.code (kIn C) bytes maxL none ∈ am_tb) (hini : (Cond.initialized C).before args s = true) (hlink : (Cond.methodLink own index (kIn C)).before args s = true) (hin : (Cond.instanceMethod (kIn C)).before args s = true) (hC : C ≠ "java/lang/invoke/MethodHandle" ∧ C ≠ "java/lang/invoke/VarHandle")
    {h1 : Nat} (hL : L h1 = some (.inr (ci, am_df ci))) (hroom : fr + 1 ≤ R.frames ∧ 8 + (maxL + 11) + 40 * fr ≤ R.locals) (hcl : cells + k ≤ R.cells ∧ slots + kz ≤ R.slots) (hrest : (rest.map fun v => v.category).sum ≤ 8) (hd : decode cc pc = .ok (.invokespecial index, 3))
    (kk : ∀ (H1 : Heap) (locs1 : List Loc), kS D A (kL L (Lf dA h1 n) h1 n) (n + k) s.heap H1 locs1 → W p l e R s m args below meth c H1 locs1 (cells + k) (slots + kz) Q (F0 m (pc + 3) ls rest)) : W p l e R s m args below meth c H locs cells slots Q (F0 m pc ls (.ref h1 :: rest)) := by
  have hA : ∀ q, kA h1 n q → A q := fun q z => by
    rcases z with rfl | z
    · exact (hS.2.1 _ _ hL).2
    · exact hS.2.2.2 q (by have := hS.2.2.1.1; have := hS.1; omega)
  refine va_callv (va_runI (As := []) (rest := rest) ⟨hx, hb, hml, hown, hts⟩ (hM D dA N0 rf h1 n) (cwI 0 hts (kc_good hcode) rfl rfl rfl hini hlink hin rfl ⟨hC.1, hC.2, kIn_np C⟩ hroom) (kc_pre hE hF hN hS hL) rfl rfl rfl rfl (lv_room hrest) hd hcl) hS.2.2.1 (fun q _ z => hA q z) hA (fun u t H1 locs1 ht _ _ hB _ hk1 hS1 => ?_)
  exact kk H1 locs1 (kc_post hS hL ht hB hk1 hS1)
theorem kr_callN (hx : p.tables.exec = Jvm.exec) (hb : c.code = cc) (hml : c.maxLocals = ls.size) (hown : s.vm.findClass own = some m.cls) (hts : ∀ w ∈ am_tb, w.before args s = true) (hE : kE D dA s) (hF : kF N0 rf s) (hN : ∀ q, A q → N0 ≤ q) (hS : kS D A L n s.heap H locs)
    {C host : String} {bytes : ByteArray} {maxL fr ci k kz : Nat} {Lf : (Nat → ClassId) → Nat → Nat → Nat → Option va_E} (hM : kMet l (kIn C) bytes maxL fr ci k kz Lf) (hcode : Cond.code (kIn C) bytes maxL none ∈ am_tb) (hini : (Cond.initialized C).before args s = true) (hlink : va_Nw (.methodLinkNest own index (kIn C) host) s) (hin : (Cond.instanceMethod (kIn C)).before args s = true) (hC : C ≠ "java/lang/invoke/MethodHandle" ∧ C ≠ "java/lang/invoke/VarHandle")
    {h1 : Nat} (hL : L h1 = some (.inr (ci, am_df ci))) (hroom : fr + 1 ≤ R.frames ∧ 8 + (maxL + 11) + 40 * fr ≤ R.locals) (hcl : cells + k ≤ R.cells ∧ slots + kz ≤ R.slots) (hrest : (rest.map fun v => v.category).sum ≤ 8) (hd : decode cc pc = .ok (.invokespecial index, 3))
    (kk : ∀ (H1 : Heap) (locs1 : List Loc), kS D A (kL L (Lf dA h1 n) h1 n) (n + k) s.heap H1 locs1 → W p l e R s m args below meth c H1 locs1 (cells + k) (slots + kz) Q (F0 m (pc + 3) ls rest)) : W p l e R s m args below meth c H locs cells slots Q (F0 m pc ls (.ref h1 :: rest)) := by
  have hA : ∀ q, kA h1 n q → A q := fun q z => by
    rcases z with rfl | z
    · exact (hS.2.1 _ _ hL).2
    · exact hS.2.2.2 q (by have := hS.2.2.1.1; have := hS.1; omega)
  refine va_callv (va_runIN (As := []) (rest := rest) ⟨hx, hb, hml, hown, hts⟩ (hM D dA N0 rf h1 n) ⟨va_cnB 0 hts (kc_good hcode) rfl rfl rfl hlink hini ⟨hC.1, hC.2, kIn_np C⟩ hroom, rfl, hin⟩ (kc_pre hE hF hN hS hL) rfl rfl rfl rfl (lv_room hrest) hd hcl) hS.2.2.1 (fun q _ z => hA q z) hA (fun u t H1 locs1 ht _ _ hB _ hk1 hS1 => ?_)
  exact kk H1 locs1 (kc_post hS hL ht hB hk1 hS1)
theorem kr_obj (hx : p.tables.exec = Jvm.exec) (hb : c.code = cc) (hml : c.maxLocals = ls.size) (hown : s.vm.findClass own = some m.cls) (hts : ∀ w ∈ am_tb, w.before args s = true) (hi : Cond.instanceMethod objectInit ∈ am_tb) (hc : Cond.code objectInit ⟨#[0xb1]⟩ 1 none ∈ am_tb) (hlink : (Cond.methodLink own index objectInit).before args s = true) {a : Nat} (hroom : 1 ≤ R.frames ∧ 12 ≤ R.locals) (hd : decode cc pc = .ok (.invokespecial index, 3))
    (kk : W p l e R s m args below meth c H locs cells slots Q (F0 m (pc + 3) ls [])) : W p l e R s m args below meth c H locs cells slots Q (F0 m pc ls [.ref a]) :=
  W.objInit hx hb hown hlink (hts _ hi) (hts _ hc) rfl hml.symm rfl hd hroom.1 hroom.2 kk
theorem kr_newN {tys : List (ClassId × FieldType)} (hx : p.tables.exec = Jvm.exec) (hb : c.code = cc) (hown : s.vm.findClass own = some m.cls) (hts : ∀ w ∈ am_tb, w.before args s = true) (hK : va_K D am_cl tys s) (ci : Nat) (hc : ci < 11) (kN : Nat) (hkN : am_Nc ci = kN) (hcl : (Cond.classLink own index (am_on ci)).before args s = true) (hinst : (Cond.instantiable (am_on ci) kN).before args s = true) (hini : (Cond.initialized (am_on ci)).before args s = true)
    (hS : kS D A L n s.heap H locs) (hcells : cells + 1 ≤ R.cells) (hslots : slots + kN ≤ R.slots) (hd : decode cc pc = .ok (.new index, 3))
    (kk : ∀ H1 : Heap, kS D A (kU L n (.inr (ci, am_df ci))) (n + 1) s.heap H1 locs → W p l e R s m args below meth c H1 locs (cells + 1) (slots + kN) Q (F0 m (pc + 3) ls (.ref n :: rest))) : W p l e R s m args below meth c H locs cells slots Q (F0 m pc ls rest) := by
  subst hkN
  exact kr_new hx hb hown hts hK ci hc hcl hinst hini hS hcells hslots hd kk
end KC
theorem kw_oi : Cond.instanceMethod objectInit ∈ am_tb := am_tb_in (i := 57) rfl rfl
theorem kw_oc : Cond.code objectInit ⟨#[0xb1]⟩ 1 none ∈ am_tb := am_tb_in (i := 58) rfl rfl
