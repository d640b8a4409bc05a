/-! what the abstract machine's steps mean on the machine -/
def am_tb : List Cond := lw_tbl.filter goodWord
theorem am_tb_in {i : Nat} {w : Cond} (h : lw_tbl[i]? = some w) (hg : goodWord w = true) : w ∈ am_tb := List.mem_filter.mpr ⟨List.mem_of_getElem? h, hg⟩
def am_Ctx (y : Nat) (p : Program) (s : State) (m : MethodId) (args : Array Value) (c : Code) : Prop :=
  p.tables.exec = Jvm.exec ∧ c.code = am_bt y ∧ c.maxLocals = am_ml y ∧ s.vm.findClass (am_on (am_mc y)) = some m.cls ∧ ∀ w ∈ am_tb, w.before args s = true
def am_Rm (d : Nat) (R : Room) (cells slots : Nat) : Prop := d ≤ R.frames ∧ 40 * d ≤ R.locals ∧ cells ≤ R.cells ∧ slots ≤ R.slots
def am_ret (y i : Nat) (r : Option am_V) : Prop :=
  (∃ x, r = some (.inl x) ∧ decode (am_bt y) (am_pc y i) = .ok (.ireturn, 1) ∧ (am_rt y = 0 ∨ (am_rt y = 1 ∧ (x = 0 ∨ x = 1)))) ∨
  (∃ x, r = some (.inr (.inr x)) ∧ decode (am_bt y) (am_pc y i) = .ok (.lreturn, 1) ∧ am_rt y = 3) ∨
  (∃ q, r = some (.inr (.inl q)) ∧ decode (am_bt y) (am_pc y i) = .ok (.areturn, 1) ∧ am_rt y = 4) ∨
  (r = none ∧ decode (am_bt y) (am_pc y i) = .ok (.return_, 1) ∧ am_rt y = 2)
def am_Sem : am_X := fun d y i ls st M Q => y < 138 → (∀ k v, am_nth ls k none = some v → am_okV v) → (∀ v ∈ st, am_okV v) →
  ∀ (p : Program) (l : Launch) (e : Env) (R : Room) (s : State) (m : MethodId) (args : Array Value) (below : List Frame) (meth : Method) (c : Code) (H : Heap) (locs : List Loc) (cells slots : Nat) (Qm : State → Prop)
    (ν : Nat → Nat → Nat) (dA : Nat → ClassId) (D : va_G) (A : Nat → Prop) (lsc : Array Slot),
    am_Ctx y p s m args c → am_Rm d R cells slots → am_Wd ν dA D A s H locs M → am_lv ν (am_ml y) ls lsc →
    (∀ (i' : Nat) (lsc' : Array Slot) (r : Option am_V) (M' : am_M) (H' : Heap) (locs' : List Loc), am_ret y i' r → (∀ v, r = some v → am_okV v) → Q r M' → am_Wd ν dA D A s H' locs' M' →
      W p l e R s m args below meth c H' locs' cells slots Qm (F0 m (am_pc y i') lsc' (r.map (am_rv ν)).toList)) →
    W p l e R s m args below meth c H locs cells slots Qm (F0 m (am_pc y i) lsc (st.map (am_rv ν)))
def am_W0 (ν : Nat → Nat → Nat) (dA : Nat → ClassId) (D : va_G) (A : Nat → Prop) (M : am_M) (U : State) : Prop :=
  va_K D am_cl (am_aT dA) U ∧ va_P D am_cl (am_ws ν dA M) U.heap ∧ va_D A (am_ws ν dA M) ∧ am_okM M ∧ am_St ν A M U U.heap
def am_Qc (ν : Nat → Nat → Nat) (dA : Nat → ClassId) (D : va_G) (A : Nat → Prop) (Q : am_P) : Array Value → State → Outcome → State → Prop := fun _ st o t =>
  (∃ (r : Option am_V) (M' : am_M), Q r M' ∧ o = .returned (r.map (am_rv ν)) ∧ (∀ v, r = some v → am_okV v) ∧ am_W0 ν dA D A M' t) ∧ va_F A st t
def am_wsM (y : Nat) : List Cond := Cond.code (am_mn y) (am_bt y) (am_ml y) (am_rtT y) :: am_tb
theorem am_St_moved {ν : Nat → Nat → Nat} {A : Nat → Prop} {M : am_M} {u U : State} {H H' : Heap} (hvm : u.vm.Alike U.vm) (hz : H.size ≤ H'.size) (hk : ∀ q : Nat, q < H.size → ¬ A q → H'[q]? = H[q]?) (h : am_St ν A M u H) : am_St ν A M U H' := by
  refine ⟨fun f hf => ?_, (h.2.1.moved hvm).kept (hk _ h.2.2.1 h.2.2.2), Nat.lt_of_lt_of_le h.2.2.1 hz, h.2.2.2⟩
  obtain ⟨h1, h2, h3, h4⟩ := h.1 f hf
  exact ⟨(h1.moved hvm).kept hk, (va_T.moved hvm h2).kept hk, Nat.lt_of_lt_of_le h3 hz, h4⟩
/-- back from a later heap of which the old part outside A is the same -/
theorem am_St_back {ν : Nat → Nat → Nat} {A : Nat → Prop} {M M0 : am_M} {u U : State} {H H' : Heap} (hvm : u.vm.Alike U.vm) (hk : ∀ q : Nat, q < H.size → ¬ A q → H'[q]? = H[q]?) (h0 : am_St ν A M0 U H) (h : am_St ν A M u H') : am_St ν A M U H := by
  refine ⟨h0.1, (h.2.1.moved hvm).kept (hk _ h0.2.2.1 h0.2.2.2).symm, h0.2.2.1, h0.2.2.2⟩
theorem Met.ofWF {l : Launch} {y : MethodName} {ws ws' : List Cond} {rm : Room} {Pc : Array Value → State → Prop} {Qc : Array Value → State → Outcome → State → Prop} {mc ms : Nat} {free : Addr → Prop} {cc : ByteArray} {maxL : Nat} {ret : Option FieldType}
    (hy : plainFor y = true) (hw : ws = Cond.code y cc maxL ret :: ws')
    (body : ∀ p e s m args below meth c s₁, BodyLoose p l y (headSpec ws rm) cc maxL ret e s m args below meth c s₁ → c.maxLocals = maxL → Pc args s →
      W p l e (headSpec ws rm).room s m args below meth c s.heap [] 0 0 (MQ below Qc args s mc ms free) (entryFrame m args maxL)) : Met l y ws rm Pc Qc mc ms free := by
  refine MetFree.of_bodySF (code := cc) (maxLocals := maxL) (ret := ret) hy ?_ ?_
  · intro args s m h hn
    obtain ⟨meth, c, h1, h2, h3, h4, h5, h6, -, -⟩ := Cond.code_spec hn (atoms_spec (ws := ws) h _ (by rw [hw]; exact List.mem_cons_self))
    exact ⟨meth, c, h1, h2, h3, h4, h5, h6⟩
  · intro p e s m args below meth c s₁ B hml hP _
    have hh0 : s₁.heap = s.heap := by rw [B.state]; rfl
    obtain ⟨t, a1, o, b1, b2, b3⟩ := body p e s m args below meth c s₁ B hml hP s₁ hh0 (Stand.of_body B)
    exact ⟨t, o, a1, b1, b2, ⟨b3.1, b3.2⟩⟩
theorem am_pc0 : ∀ y, y < 138 → am_pc y 0 = 0 := by decide +kernel
theorem am_rt_ok : ∀ y, y < 137 → (am_rt y = 0 → am_rtT y = some .int) ∧ (am_rt y = 1 → am_rtT y = some .boolean) ∧ (am_rt y = 2 → am_rtT y = none) ∧ (am_rt y = 3 → am_rtT y = some .long) ∧ (am_rt y = 4 → am_rtT y = some (.object "WhoIsWho$Scan")) := by decide +kernel
theorem am_met {l : Launch} {y d : Nat} (hy : y < 137) {as : List am_V} {M : am_M} {Q : am_P} (h : am_Sem d y 0 (am_ent (am_ml y) as) [] M Q) (hok : ∀ v ∈ as, am_okV v) (hcat : am_cat as ≤ am_ml y) (ν : Nat → Nat → Nat) (dA : Nat → ClassId) (D : va_G) (A : Nat → Prop) :
    Met l (am_mn y) (am_wsM y) { frames := d, cells := 0, slots := 0, locals := 40 * d } (va_Pc (as.map (am_rv ν)) (am_W0 ν dA D A M)) (am_Qc ν dA D A Q) 0 0 A := by
  refine Met.ofWF (cc := am_bt y) (maxL := am_ml y) (ret := am_rtT y) (am_mw_pn y (by omega)).1 rfl ?_
  intro p e s m args below meth c s₁ B hml hv
  obtain ⟨rfl, hK, hP, hD, hM, hSt⟩ := hv
  have hts := atoms_spec (ws := am_wsM y) B.pre
  have hown : s.vm.findClass (am_mn y).cls = some m.cls := findClass_of_methodNamed B.named
  have hlocks := B.notSynchronized
  have hr := B.returns
  have hl := lv_entry (as.map (am_rv ν)) (n := am_ml y) (by rw [am_cat_sl]; exact hcat)
  rw [lg_entry_eq]
  generalize (lg_sl (as.map (am_rv ν)) ++ List.replicate (am_ml y - (lg_sl (as.map (am_rv ν))).length) Slot.unset).toArray = lsc at hl ⊢
  have hlv : am_lv ν (am_ml y) (am_ent (am_ml y) as) lsc := by
    refine ⟨am_ent_len hcat, hl.1, hl.2.1, fun k v hk => ?_⟩
    have := am_ent_at (ν := ν) (j := 0) hk
    rw [Nat.zero_add] at this
    exact hl.2.2 _ this
  have hokL : ∀ k v, am_nth (am_ent (am_ml y) as) k none = some v → am_okV v := by
    have key : ∀ (as : List am_V) (n : Nat), (∀ v ∈ as, am_okV v) → ∀ k v, am_nth (am_ent n as) k none = some v → am_okV v := by
      intro as
      induction as with
      | nil =>
        intro n _ k v hk
        have := am_ent_at (ν := ν) (j := 0) hk
        simp [lv_args] at this
      | cons a as ih =>
        intro n hn k v hk
        have ha := hn a List.mem_cons_self
        have hr := fun v hv => hn v (List.mem_cons_of_mem _ hv)
        rcases a with x | x | x
        · cases k with
          | zero => simp only [am_ent, am_nth, Option.some.injEq] at hk; subst hk; exact ha
          | succ k => simp only [am_ent, am_nth] at hk; exact ih _ hr k v hk
        · cases k with
          | zero => simp only [am_ent, am_nth, Option.some.injEq] at hk; subst hk; exact ha
          | succ k => simp only [am_ent, am_nth] at hk; exact ih _ hr k v hk
        · match k, hk with
          | 0, hk => simp only [am_ent, am_nth, Option.some.injEq] at hk; subst hk; exact ha
          | 1, hk => simp [am_ent, am_nth] at hk
          | k + 2, hk => simp only [am_ent, am_nth] at hk; exact ih _ hr k v hk
    exact key as _ hok
  have h0 := am_pc0 y (by omega)
  rw [show F0 m 0 lsc [] = F0 m (am_pc y 0) lsc (([] : List am_V).map (am_rv ν)) by rw [h0]; rfl]
  refine h (by omega) hokL (fun v hv => by simp at hv) p l e (headSpec (am_wsM y) _).room s m _ below meth c s.heap [] 0 0 _ ν dA D A lsc ⟨B.exec, B.bytes, hml, by rw [← am_mw_cn y (by omega)]; exact hown, fun w hw => hts w (List.mem_cons_of_mem _ hw)⟩ ⟨Nat.le_refl d, Nat.le_refl (40 * d), Nat.zero_le _, Nat.zero_le _⟩ ⟨hK, hP, hD, va_S.rf, hM, hSt⟩ hlv ?_
  intro i' lsc' r M' H' locs' hret hokr hq hWd
  obtain ⟨hK', hP', hD', hS', hM', hSt'⟩ := hWd
  have hpost : ∀ t : State, t.heap = H' → s.WarmedH t.vm → am_Qc ν dA D A Q (as.map (am_rv ν)).toArray s (.returned (r.map (am_rv ν))) t := by
    intro t ht hvm
    refine ⟨⟨r, M', hq, rfl, hokr, va_K.moved hvm.alike hK', by rw [ht]; exact hP', hD', hM', ?_⟩, hS'.F ht⟩
    rw [ht]
    exact am_St_moved hvm.alike hS'.1 hS'.2.1 hSt'
  have hrt := am_rt_ok y hy
  rcases hret with ⟨x, rfl, hd, hb⟩ | ⟨x, rfl, hd, hb⟩ | ⟨q, rfl, hd, hb⟩ | ⟨rfl, hd, hb⟩
  · rcases hb with hb | ⟨hb, hx⟩
    · exact W.iret B.exec B.bytes (hr.trans (hrt.1 hb)) hpost hS'.2.2 hd
    · refine W.zret B.exec B.bytes (hr.trans (hrt.2.1 hb)) ?_ hpost hS'.2.2 hd
      rcases hx with rfl | rfl <;> rfl
  · exact W.lret B.exec B.bytes (hr.trans (hrt.2.2.2.1 hb)) hpost hS'.2.2 hd
  · exact W.aret B.exec B.bytes (hr.trans (hrt.2.2.2.2 hb)) (Or.inl ⟨_, rfl⟩) (Or.inr ⟨_, rfl⟩) hpost hS'.2.2 hd
  · exact W.vret B.exec B.bytes (hr.trans (hrt.2.2.1 hb)) hpost hS'.2.2 hd
