/-! THE CLAIM OUT OF ONE WALK OF THE LAW'S BODY. Your part is whole_start (and what it stands on); all else here is the same for every law, but numbers. -/
def R_law : String := "WhoIsWhoLaw"
def lw_P (b : Addr) (xs : List Int32) (args : Array Value) (s : State) : Prop := args = #[.ref b] ∧ s.IntsAt b xs ∧ xs.length ≤ 2560 ∧ (Jvm.Cond.and given_1 narrow_1).before args s = true
def lw_Q (_ : Array Value) (s : State) (o : Outcome) (t : State) : Prop := o = .returned (some (.int 1)) ∧ Framed s o t [] 600000 7302250
def lw_Z (below : List Frame) (a : Array Value) (s : State) : State → Prop := fun t => ∃ o, t.status = .running ∧ Ended t below o ∧ lw_Q a s o t
/-- the law's own end, with 1 on the stack, nothing written that was there before, its room as the claim has it -/
theorem lw_ret {p : Program} {l : Launch} {e : Env} {s : State} {m : MethodId} {below : List Frame} {meth : Method} {c : Code} {b : Nat} (hx : p.tables.exec = Jvm.exec) (hb : c.code = code) (hr : meth.sig.returnType = ret) (hlocks : meth.locks = false) {pc : Nat} {H : Heap} {ls : Array Slot} (hdg : decode code pc = .ok (.ireturn, 1)) : W p l e room_1 s m #[Value.ref b] below meth c H [] 600000 7302250 (lw_Z below #[Value.ref b] s) (F0 m pc ls [.int 1]) := by
  intro T hT X
  obtain ⟨fs, hret, hrun, hended, hW, hframe⟩ := X.leave (v := some (.int 1)) (hlocks := hlocks) (fun h => by rw [hr] at h; cases h)
  have hmeth' : T.vm.method? m = some meth := X.method'
  refine ⟨T.setFrames fs, ?_, .returned (some (.int 1)), hrun, hended, rfl, ⟨_, rfl⟩, hW, hframe⟩
  jvm_step X.here [X.here.top, hx, hb, hdg, hmeth', hr, ret, narrow_b1]
  (try refine ⟨rfl, ?_⟩); (try refine ⟨rfl, ?_⟩)
  first | (intro acts; rw [hret _ acts rfl rfl rfl]) | rw [hret _ _ rfl rfl rfl]
  exact Steps.refl _
/-- what holds at the law's entry: the machine, the code, the tables' words (any of lw_tbl by 'hts w (by decide +kernel)'), the script of L ints xs at the cell b, what the Statement gives of the start (any of its parts by flat_of_before) -/
def lw_At (p : Program) (s : State) (m : MethodId) (meth : Method) (c : Code) (b L : Nat) (xs : Nat → Int32) : Prop :=
  p.tables.exec = Jvm.exec ∧ c.code = code ∧ meth.sig.returnType = ret ∧ c.maxLocals = 4 ∧ s.vm.findClass R_law = some m.cls ∧ (∀ w ∈ lw_tbl, w.before #[Value.ref b] s = true) ∧ va_X b L xs s s.heap ∧ b < s.heap.size ∧ meth.locks = false ∧ (Jvm.Cond.and given_1 narrow_1).before #[Value.ref b] s = true
set_option maxHeartbeats 4000000 in
set_option maxRecDepth 100000 in
theorem whole_start {p : Program} {e : Env} {s : State} {m : MethodId} {below : List Frame} {meth : Method} {c : Code} (l : Launch) {b L : Nat} {xs : Nat → Int32} (hL : L ≤ 2560) (C0 : lw_At p s m meth c b L xs) : W p l e room_1 s m #[Value.ref b] below meth c s.heap [] 0 0 (lw_Z below #[Value.ref b] s) (entryFrame m ([Value.ref b] : List Value).toArray 4) := by
  obtain ⟨hx, hb, hr, hml, hown, htl, hX, hbl, hlocks, hgv⟩ := C0
  have hts : ∀ w ∈ am_tb, w.before #[Value.ref b] s = true := fun w hw => htl w (List.mem_filter.mp hw).1
  obtain ⟨D, dA, hE⟩ := k_env htl hts
  have hs := flat_of_before _ hgv
  obtain ⟨rf, f1, f2, f3⟩ := k_static (nm := "RULE_FIRST") (f := kRF) (htl _ (kl_in (i := 110) rfl)) (hts _ kw_1) (hs _ (by decide +kernel)) (hs _ (by decide +kernel)) (fun j hj => match j, hj with
    | 0, _ => hs _ (by decide +kernel)
    | 1, _ => hs _ (by decide +kernel)
    | 2, _ => hs _ (by decide +kernel)
    | 3, _ => hs _ (by decide +kernel)
    | 4, _ => hs _ (by decide +kernel)
    | 5, _ => hs _ (by decide +kernel)
    | n + 6, h => absurd h (by omega))
  obtain ⟨rl, l1, l2, l3⟩ := k_static (nm := "RULE_LEAST") (f := am_stT 59) (htl _ (kl_in (i := 417) rfl)) (hts _ kw_1) (hs _ (by decide +kernel)) (hs _ (by decide +kernel)) (fun j hj => match j, hj with
    | 0, _ => hs _ (by decide +kernel)
    | 1, _ => hs _ (by decide +kernel)
    | 2, _ => hs _ (by decide +kernel)
    | 3, _ => hs _ (by decide +kernel)
    | 4, _ => hs _ (by decide +kernel)
    | 5, _ => hs _ (by decide +kernel)
    | n + 6, h => absurd h (by omega))
  obtain ⟨rm, m1, m2, m3⟩ := k_static (nm := "RULE_MOST") (f := am_stT 60) (htl _ (kl_in (i := 419) rfl)) (hts _ kw_1) (hs _ (by decide +kernel)) (hs _ (by decide +kernel)) (fun j hj => match j, hj with
    | 0, _ => hs _ (by decide +kernel)
    | 1, _ => hs _ (by decide +kernel)
    | 2, _ => hs _ (by decide +kernel)
    | 3, _ => hs _ (by decide +kernel)
    | 4, _ => hs _ (by decide +kernel)
    | 5, _ => hs _ (by decide +kernel)
    | n + 6, h => absurd h (by omega))
  have hF : kF s.heap.size rf s := ⟨f1, f2, f3, f3⟩
  have hN : ∀ q, (fun q => s.heap.size ≤ q) q → s.heap.size ≤ q := fun q z => z
  have hSt : am_St (nu s.heap.size rl rm b) (fun q => s.heap.size ≤ q) (M00 L xs) s s.heap := by
    refine ⟨fun f hf => ?_, ?_, hbl, by show ¬ s.heap.size ≤ b; omega⟩
    · rcases hf with rfl | rfl
      · exact ⟨l1, l2, l3, by show ¬ s.heap.size ≤ rl; omega⟩
      · exact ⟨m1, m2, m3, by show ¬ s.heap.size ≤ rm; omega⟩
    · have e : am_len (M00 L xs) 61 = L := nI_clamp (by omega)
      rw [e]; exact hX
  have hl := lv_entry ([.ref b]) (n := 4) (Nat.le_of_ble_eq_true rfl)
  rw [lg_entry_eq]
  generalize (lg_sl ([.ref b]) ++ List.replicate (4 - (lg_sl ([.ref b])).length) Slot.unset).toArray = ls at hl ⊢
  have hl : lv_has ls 4 [(0, .ref b)] := hl
  have hS : kS D (fun q => s.heap.size ≤ q) (fun _ => none) s.heap.size s.heap s.heap [] := ⟨rfl, fun a x q => (by cases q), va_S.rf, fun q h => h⟩
  generalize hNe : s.heap.size = N at hS hF hN hSt
  refine kr_newN hx hb hown hts hE.1 0 (by omega) 3 rfl (hts _ kw_14) (hts _ kw_15) (hts _ kw_1) hS (by decide) (by decide) kd_law_0 ?_
  clear hS; intro H hS
  refine lv_dup hx hb kd_law_3 rfl ?_
  refine kr_call hx hb (hml.trans hl.1.symm) hown hts hE hF hN hS (kc_Who l) kw_18 (hts _ kw_1) (hts _ kw_16) (hts _ kw_17) ⟨by decide, by decide⟩ (kU_at _ _ _) ⟨by decide, by decide⟩ ⟨by decide, by decide⟩ (Nat.le_of_ble_eq_true rfl) kd_law_4 ?_
  clear hS; intro H locs hS
  refine lv_astore_n (lv' := [(1, .ref N), (0, .ref b)]) hx hb kd_law_7 rfl hl (by omega) rfl (fun ls hl => ?_)
  refine kr_newN hx hb hown hts hE.1 10 (by omega) 39 rfl (hts _ kw_682) (hts _ kw_683) (hts _ kw_12) hS (by decide) (by decide) kd_law_8 ?_
  clear hS; intro H hS
  refine lv_dup hx hb kd_law_11 rfl ?_
  refine kr_call hx hb (hml.trans hl.1.symm) hown hts hE hF hN hS (kc_Model l) kw_686 (hts _ kw_12) (hts _ kw_684) (hts _ kw_685) ⟨by decide, by decide⟩ (kU_at _ _ _) ⟨by decide, by decide⟩ ⟨by decide, by decide⟩ (Nat.le_of_ble_eq_true rfl) kd_law_12 ?_
  clear hS; intro H locs hS
  refine lv_astore_n (lv' := [(2, .ref (N + 151)), (1, .ref N), (0, .ref b)]) hx hb kd_law_15 rfl hl (by omega) rfl (fun ls hl => ?_)
  refine lv_iconst hx hb kd_law_16 rfl ?_
  refine lv_istore_n (lv' := [(3, .int (nI 0)), (2, .ref (N + 151)), (1, .ref N), (0, .ref b)]) hx hb kd_law_17 rfl hl (by omega) rfl (fun ls hl => ?_)
  have hw : ∀ a x, kF_Who dA N (N + 1) a = some x → va_at D am_cl (a, x) H := by
    intro a x q
    by_cases c1 : N + 151 ≤ a
    · exfalso
      unfold kF_Who at q
      rw [if_neg (by omega), if_neg (by omega), if_neg (by omega), if_neg (by omega)] at q
      cases q
    by_cases c2 : a < N
    · exfalso
      unfold kF_Who at q
      rw [if_neg (by omega), if_neg (by omega), if_neg (by omega), if_neg (by omega)] at q
      cases q
    exact (hS.2.1 a x (Eq.trans (kL_out (by omega) (by omega)) (Eq.trans (kU_ne (by omega)) (Eq.trans (kL_in (by omega)) q)))).1
  have hm : ∀ a x, kF_Model dA (N + 151) (N + 152) a = some x → va_at D am_cl (a, x) H := by
    intro a x q
    by_cases c1 : N + 151 ≤ a
    · exact (hS.2.1 a x (Eq.trans (kL_in (by omega)) q)).1
    · exfalso
      unfold kF_Model at q
      rw [if_neg (by omega), if_neg (by omega), if_neg (by omega), if_neg (by omega), if_neg (by omega), if_neg (by omega), if_neg (by omega), if_neg (by omega), if_neg (by omega), if_neg (by omega), if_neg (by omega), if_neg (by omega), if_neg (by omega), if_neg (by omega), if_neg (by omega), if_neg (by omega), if_neg (by omega), if_neg (by omega), if_neg (by omega), if_neg (by omega), if_neg (by omega), if_neg (by omega), if_neg (by omega), if_neg (by omega), if_neg (by omega), if_neg (by omega), if_neg (by omega), if_neg (by omega), if_neg (by omega), if_neg (by omega), if_neg (by omega)] at q
      cases q
  have key := lw_loop am_sound (d := 12) (Nat.le_refl 12) (S := xs) (N := L) hL (fun r _ => r = some (.inl 1)) (fun _ => rfl) L 0 (by omega) (by omega) (M00 L xs) g00 (M00_J L hL xs)
  have fin := key (by omega) (fun k v hk => ?_) (fun v hv => by cases hv) p l e room_1 s m #[Value.ref b] below meth c H locs _ _ (lw_Z below #[Value.ref b] s) (nu N rl rm b) dA D (fun q => N ≤ q) ls ⟨hx, hb, hml, hown, hts⟩ ⟨(by decide : 12 ≤ 2048), (by decide : 40 * 12 ≤ 84000), (by decide : 0 + 1 + 150 + 1 + 30 ≤ 600000), (by decide : 0 + 3 + 1287 + 39 + 1105 ≤ 7302250)⟩ ⟨hE.1, k_wsP (k_world hw hm), k_wsD, hS.2.2.1, M00_ok L xs, hSt⟩ ⟨rfl, hl.1, hl.2.1, fun k v hk => ?_⟩ (fun i' lsc' r M' H' locs' hret _ hq hWd => ?_)
  · rw [kp_law] at fin
    exact fin
  · match k, hk with
    | 0, hk => cases hk; exact (by decide : 0 < am_cnt 61)
    | 1, hk => cases hk; exact (by decide : 0 < am_cnt 0)
    | 2, hk => cases hk; exact (by decide : 0 < am_cnt 28)
    | 3, hk => cases hk; exact trivial
    | k + 4, hk => cases hk
  · match k, hk with
    | 0, hk => cases hk; exact lv_at hl 3 rfl
    | 1, hk => cases hk; exact lv_at hl 2 rfl
    | 2, hk => cases hk; exact lv_at hl 1 rfl
    | 3, hk => cases hk; exact lv_at hl 0 rfl
    | k + 4, hk => cases hk
  · subst hq
    rcases hret with ⟨x, hx1, hd, -⟩ | ⟨x, hx1, -⟩ | ⟨q, hx1, -⟩ | ⟨hx1, -⟩
    · cases hx1
      refine va_forget (fun q hq => by rw [hNe]; exact hWd.2.2.2.1.2.2 q hq) ?_
      refine W.widen (k := 600000) (n := 7302250) (by decide) (by decide) ?_
      exact lw_ret hx hb hr hlocks hd
    · cases hx1
    · cases hx1
    · cases hx1
-- ===== YOUR PART ENDS =====
set_option maxHeartbeats 4000000 in
theorem lw_walk (l : Launch) (b : Addr) (xs : List Int32) : MetFree l x (headSpec (Jvm.Cond.code x code maxLocals ret :: tables_1) room_1) (lw_P b xs) (fun _ _ _ _ _ => True) lw_Q := by
  refine MetFree.of_bodyS (code := code) (maxLocals := maxLocals) (ret := ret) (by decide) ?_ ?_
  · intro args s m h hn
    obtain ⟨meth, c, h1, h2, h3, h4, h5, h6, -, -⟩ := Cond.code_spec hn (atoms_spec (ws := Jvm.Cond.code x code maxLocals ret :: tables_1) h _ List.mem_cons_self)
    exact ⟨meth, c, h1, h2, h3, h4, h5, h6⟩
  · intro p e s m args below meth c s₁ B hml0 hP _
    obtain ⟨rfl, hx, hbd, hgv⟩ := hP
    obtain ⟨scr, harrAt, hlist, hof, hsmall⟩ := hx
    obtain ⟨hcb, hkn, -, -⟩ := State.arrayAt?_spec harrAt
    have hown : s.vm.findClass R_law = some m.cls := findClass_of_methodNamed B.named
    have hts0 : ∀ c ∈ (Jvm.Cond.code x code maxLocals ret :: tables_1), c.before #[Value.ref b] s = true := atoms_spec (ws := Jvm.Cond.code x code maxLocals ret :: tables_1) B.pre
    have hts : ∀ w ∈ lw_tbl, w.before #[Value.ref b] s = true := k2_hts_sels lw_privs (fun w hw => hts0 w (List.mem_cons_of_mem _ hw)) lw_privs_ok
    have hml : c.maxLocals = 4 := B.maxLocals_eq (hts0 _ List.mem_cons_self)
    have X₀ : Stand p l e room_1 s m #[Value.ref b] below meth c s₁ [] 0 0 := Stand.of_body B
    have hh0 : s₁.heap = s.heap := by rw [B.state]; rfl
    have hsz : scr.slots.size = xs.length := by rw [← Array.length_toList, hlist, List.length_map]
    have hval : ∀ j : Nat, j < xs.length → scr.slots[j]? = some (.int (xs.getD j 0)) := fun j hj => by
      rw [← Array.getElem?_toList, hlist]
      simp [hj]
    have hbl : b < s.heap.size := (Array.getElem?_eq_some_iff.mp hcb).1
    have hX : va_X b xs.length (fun j => xs.getD j 0) s s.heap := ⟨scr, hcb, hof, hkn, hsz, hval⟩
    have K : W p l e room_1 s m #[Value.ref b] below meth c s₁.heap [] 0 0 (lw_Z below #[Value.ref b] s) (entryFrame m ([Value.ref b] : List Value).toArray 4) := by
      rw [hh0]
      exact whole_start l hbd ⟨B.exec, B.bytes, B.returns, hml, hown, hts, hX, hbl, B.notSynchronized, hgv⟩
    obtain ⟨t, a1, o, b1, b2, b3⟩ := K s₁ rfl X₀
    exact ⟨t, o, a1, b1, b2, b3⟩
theorem lw_pre_spec {args : Array Value} {s : State} (h : (Jvm.Cond.and given_1 narrow_1).before args s = true) (hr : rest_1_c.before args s = true) : ∃ (b : Addr) (xs : List Int32), lw_P b xs args s := by
  have hs := flat_of_before _ h
  have hq := flat_of_before _ hr
  have hc : (Cond.count 1).before args s = true := hs _ (by decide +kernel)
  have harr : (Cond.arrayOf (.arg 0) .int).before args s = true := hs _ (by decide +kernel)
  have hle : (Cond.le (.length (.arg 0)) (.int 2560)).before args s = true := hs _ (by decide +kernel)
  have hlen : (Cond.isInt (.length (.arg 0))).before args s = true := hq _ (by decide +kernel)
  have hall : (Cond.all (.arg 0) (.isInt (.elem (.arg 0) (.index 0)))).before args s = true := hq _ (by decide +kernel)
  obtain ⟨b, xs, hb, hx⟩ := State.ints_of_pre rfl harr hlen hall
  have hsm : xs.length < 2 ^ 31 := hx.choose_spec.2.2.2
  have hev : (Term.length (.arg 0)).eval args s none [] s = some (.int xs.length.toInt32) := hx.length_eval hb
  have hv := Cond.le_ints hev (show (Term.int 2560).eval args s none [] s = some (.int 2560) from rfl)
  have hd : xs.length.toInt32 ≤ 2560 := by
    simpa [Cond.before, Cond.holds, hv] using hle
  have hN : xs.length ≤ 2560 := (Int32.ofNat_le_ofNat hsm (by decide)).mp (show Int32.ofNat xs.length ≤ Int32.ofNat 2560 from hd)
  exact ⟨b, xs, Cond.one_arg hc (show args[0]? = some (.ref b) from hb), hx, hN, h⟩
theorem lw_comes (l : Launch) : Comes l x (Jvm.Cond.code x code maxLocals ret :: tables_1) room_1 (fun tb e args s => Calls_1 tb e args s ∧ rest_1 tb e args s ∧ Pre_1 tb e args s)
    (fun _ _ args s o t => lw_Q args s o t) := by
  intro p e ha hc hk s m args below hf hfit hheap happ hpre
  obtain ⟨b, xs, hP⟩ := lw_pre_spec hpre.2.2 hpre.2.1
  obtain ⟨k, o, h1, h2, h3, hQ⟩ := lw_walk l b xs p e ha hc hk s m args below hf ((Spec.applies_iff_loose hf).mp happ).1 hP trivial
  exact ⟨k, o, h1, h2, h3, hQ⟩
theorem lw_frame {s t : State} {o : Outcome} {args : Array Value} (h : Framed s o t [] 600000 7302250) :
    Framed s o t (fieldLocs frame_1_writes args s ++ arrayLocs frame_1_arrays args s ++ staticLocs frame_1_statics s) 600000 7302250 := h
theorem lw_limb (L : Cond) (hL : ∀ (args : Array Value) (s t : State), L.after args s (.returned (some (.int 1))) t = true) :
    ArmFor flags0 classFile x code maxLocals ret World_1 tables_1 room_1 Calls_1 rest_1 Pre_1
      (fun tb e a s o t => postC L tb e a s o t ∧ Framed s o t (fieldLocs frame_1_writes a s ++ arrayLocs frame_1_arrays a s ++ staticLocs frame_1_statics s) 600000 7302250) := by
  intro l _ _ _ p e ha hc hk s m args below hf hfit hheap happ hpre
  obtain ⟨k, o, h1, h2, h3, rfl, hF⟩ := lw_comes l p e ha hc hk s m args below hf hfit hheap happ hpre
  exact ⟨k, _, h1, h2, h3, hL args s _, lw_frame hF⟩
theorem i_vc : Claimed_1_1 ∧ Claimed_1_2 := ⟨lw_limb limb_1_1 (fun args s t => by simp [limb_1_1, Cond.after, Cond.holds, Cond.value]), lw_limb limb_1_2 (fun args s t => Cond.after_iff.mpr (by
  first | (rw [show limb_1_2 = Cond.eq .result (.int 1) from rfl, Cond.eq_ints (x := 1) (y := 1) rfl rfl]; simp; done) | (simp [limb_1_2, Cond.value, Term.eval]; done)))⟩
