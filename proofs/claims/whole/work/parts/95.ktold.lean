/-! the constructor of what is told -/
section KZ
variable {p : Program} {l : Launch} {e : Env} {R : Room} {s : State} {m : MethodId} {args : Array Value} {below : List Frame} {meth : Method} {c : Code} {H : Heap} {locs : List Loc} {cells slots : Nat} {Q : State → Prop}
variable {cc : ByteArray} {pc : Nat} {ls : Array Slot} {rest : List Value} {a n : Nat} {D : va_G} {A : Nat → Prop} {L : Nat → Option va_E} {tys : List (ClassId × FieldType)} {own : String} {index : Nat}
theorem kr_alen (hx : p.tables.exec = Jvm.exec) (hb : c.code = cc) (hK : va_K D am_cl tys s) (t0 : Nat) {cA : ClassId} {y : vp_A} {ty : FieldType} (ht : tys[t0]? = some (cA, ty)) (hS : kS D A L n s.heap H locs) (hL : L a = some (.inl (cA, y))) {v : Int32} (hv : Int32.ofNat y.1 = v) (hd : decode cc pc = .ok (.arraylength, 1))
    (kk : W p l e R s m args below meth c H locs cells slots Q (F0 m (pc + 1) ls (.int v :: rest))) : W p l e R s m args below meth c H locs cells slots Q (F0 m pc ls (.ref a :: rest)) := by
  have hP : va_P D am_cl [(a, .inl (cA, y))] H := fun j q hq => by
    have hz : j < 1 := (List.getElem?_eq_some_iff.mp hq).1
    rw [show j = 0 by omega] at hq
    cases hq
    exact (hS.2.1 a _ hL).1
  exact va_alen hx hb hK hP 0 t0 rfl ht hv hd kk
/-- six ints copied from a row that stood before: the heap keeps its size -/
theorem kr_copy6 (hx : p.tables.exec = Jvm.exec) (hb : c.code = cc) (hml : c.maxLocals = ls.size) (hown : s.vm.findClass own = some m.cls) (hlink : (Cond.methodLink own index arraycopyName).before args s = true) (hnat : (Cond.native arraycopyName).before args s = true) (hstat : (Cond.static arraycopyName).before args s = true) (hini : (Cond.initialized "java/lang/System").before args s = true)
    (hK : va_K D am_cl tys s) (t0 : Nat) {cA : ClassId} (ht : tys[t0]? = some (cA, .int)) (hS : kS D A L n s.heap H locs) {b0 : Nat} {f g : Nat → Int32} (hX : va_T .int b0 6 (fun j => .int (f j)) A s s.heap) (hbl : b0 < s.heap.size) (hbA : ¬ A b0) (hL : L a = some (.inl (cA, 6, .inl g))) (hframes : 1 ≤ R.frames) (hlocals : nativeFrameWords "java/lang/System" "arraycopy" 5 + 11 ≤ R.locals) (hd : decode cc pc = .ok (.invokestatic index, 3))
    (kk : ∀ (H1 : Heap) (locs1 : List Loc), kS D A (kU L a (.inl (cA, 6, .inl (va_cpy f g 0 0 6)))) n s.heap H1 locs1 → W p l e R s m args below meth c H1 locs1 cells slots Q (F0 m (pc + 3) ls [])) : W p l e R s m args below meth c H locs cells slots Q (F0 m pc ls [.int (nI 6), .int (nI 0), .ref a, .int (nI 0), .ref b0]) := by
  intro T hT X
  have hlA := (hS.2.1 a _ hL).2
  have hat : H[a]? = some (vp_cell cA (6, .inl g)) := (hS.2.1 a _ hL).1
  have hlt : a < H.size := va_at.lt (hS.2.1 a _ hL).1
  obtain ⟨scr, x1, ⟨y1, k0, y2, m0, y3⟩, x3, x4, -, x5, -⟩ := hX
  have hsrc : H[b0]? = some scr := (hS.2.2.1.2.1 b0 hbl hbA).trans x1
  obtain ⟨-, k1, z2, m1, z3⟩ := (hK.2 t0 _ ht).1 6 (fun j => .int (g j))
  have n6 : (nI 6).toInt = 6 := by decide
  have n0 : (nI 0).toInt = 0 := by decide
  have c6 : (nI 6).toNatClampNeg = 6 := by decide
  have c0 : (nI 0).toNatClampNeg = 0 := by decide
  obtain ⟨vm', X', step⟩ := X.arraycopy hx hown hlink hnat hstat hini (src := b0) (dst := a) (cs := scr) (cd := vp_cell cA (6, .inl g)) (srcPos := nI 0) (destPos := nI 0) (n := nI 6) (by rw [hT]; exact hsrc) (by rw [hT]; exact hat)
    y1 (fun _ q => by cases q) x3 (fun q => by cases q) y2 z2 y3 z3 (by simp [refKind]) (by decide) (by decide) (by decide)
    (by rw [n6, n0]; omega) (by rw [n6, n0]; show ¬ _ > ((arrV cA 6 (fun j => .int (g j))).slots.size : Int); rw [arrV_size]; omega)
    (fun vm₁ _ i hi => by
      rw [c6] at hi
      have ev : scr.slots.getD ((nI 0).toNatClampNeg + i) .null = .int (f i) := by
        rw [c0, Nat.zero_add, Array.getD_eq_getD_getElem?, x5 i hi]; rfl
      rw [ev]
      exact ⟨rfl, trivial⟩)
    (g := F0 m pc ls [.int (nI 6), .int (nI 0), .ref a, .int (nI 0), .ref b0]) rfl (by rw [hml]) (rest := []) rfl (by rw [hb]; exact hd) hframes (by show 2 * 0 + 0 + _ ≤ _; omega)
  have ec : copied scr (vp_cell cA (6, .inl g)) (nI 0) (nI 0) (nI 6) = vp_cell cA (6, .inl (va_cpy f g 0 0 6)) := va_copiedX (fun z => .int z) scr cA f g x5 (by rw [c0, c6]; omega)
  rw [ec] at X' step
  generalize hv : vp_cell cA (6, .inl (va_cpy f g 0 0 6)) = cv at X' step ec
  have oq : ∀ q : Nat, q ≠ a → (H.setIfInBounds a cv)[q]? = H[q]? := fun q hq => by simp [Array.getElem?_setIfInBounds, Ne.symm hq]
  have hk : ∀ locs1 : List Loc, (∀ q ∈ locs1, A q.base) → kS D A (kU L a (.inl (cA, 6, .inl (va_cpy f g 0 0 6)))) n s.heap (H.setIfInBounds a cv) locs1 := by
    intro locs1 hl1
    have h0 := kS_put (k := 0) (x := .inl (cA, 6, .inl (va_cpy f g 0 0 6))) hS hL (by simp) oq (show (H.setIfInBounds a cv)[a]? = some (vp_cell cA (6, .inl (va_cpy f g 0 0 6))) by rw [hv]; simp [Array.getElem?_setIfInBounds, hlt])
    exact ⟨h0.1, h0.2.1, ⟨h0.2.2.1.1, h0.2.2.1.2.1, hl1⟩, h0.2.2.2⟩
  obtain ⟨t, a1, b1⟩ := kk _ _ (hk _ (fun q hq => by
      rcases List.mem_append.mp hq with z | z
      · exact hS.2.2.1.2.2 q z
      · obtain ⟨w, -, hw⟩ := List.mem_map.mp z
        rw [← hw]; exact hlA)) _ (by rw [← hT]; rfl) X'
  exact ⟨t, step t a1, b1⟩
end KZ
def kT (dA : Nat → ClassId) (h0 n i : Nat) (r : Nat → Int32) : Nat → Option va_E := fun a => if a = h0 then some (.inr (1, [.int 0, .int 0, .int 0, .ref n, .ref (n + 1), .ref (n + 2), .ref (n + 3), .ref (n + 4), .ref (n + 5)])) else if a = n then some (.inl (dA 0, 3, .inl fun _ => 0)) else if a = n + 1 then some (.inl (dA 0, 3, .inl fun _ => 0)) else if a = n + 2 then some (.inl (dA 2, 13, .inr (.inr (.inr (.inr fun k => if k < i then some (n + 6 + 4 * k) else none))))) else if a = n + 3 then some (.inl (dA 0, 12, .inl fun _ => 0)) else if a = n + 4 then some (.inl (dA 0, 6, .inl r)) else if a = n + 5 then some (.inl (dA 0, 10, .inl fun _ => 0)) else
  if n + 6 ≤ a ∧ a < n + 6 + 4 * i then (if (a - (n + 6)) % 4 = 0 then some (.inr (6, [.int 0, .int 0, .int 0, .ref (a + 1), .ref (a + 2), .ref (a + 3)])) else some (.inl (dA 0, 4, .inl fun _ => 0))) else none
theorem kT_h0 (dA : Nat → ClassId) (h0 n i : Nat) (r : Nat → Int32) : kT dA h0 n i r h0 = some (.inr (1, [.int 0, .int 0, .int 0, .ref n, .ref (n + 1), .ref (n + 2), .ref (n + 3), .ref (n + 4), .ref (n + 5)])) := if_pos rfl
theorem kT_2 (dA : Nat → ClassId) {h0 n : Nat} (i : Nat) (r : Nat → Int32) (h : h0 < n) : kT dA h0 n i r (n + 2) = some (.inl (dA 2, 13, .inr (.inr (.inr (.inr fun k => if k < i then some (n + 6 + 4 * k) else none))))) := by unfold kT; rw [if_neg (by omega), if_neg (by omega), if_neg (by omega), if_pos rfl]
theorem kT_4 (dA : Nat → ClassId) {h0 n : Nat} (i : Nat) (r : Nat → Int32) (h : h0 < n) : kT dA h0 n i r (n + 4) = some (.inl (dA 0, 6, .inl r)) := by unfold kT; rw [if_neg (by omega), if_neg (by omega), if_neg (by omega), if_neg (by omega), if_neg (by omega), if_pos rfl]
def kF_Told (dA : Nat → ClassId) (h0 n : Nat) : Nat → Option va_E := kT dA h0 n 13 (va_cpy kRF (fun _ => 0) 0 0 6)
theorem kT_r (dA : Nat → ClassId) (h0 n i : Nat) (r r' : Nat → Int32) {a : Nat} (h : a ≠ n + 4) : kT dA h0 n i r a = kT dA h0 n i r' a := by
  unfold kT
  rw [if_neg (c := a = n + 4) h, if_neg (c := a = n + 4) h]
set_option maxHeartbeats 4000000 in
set_option maxRecDepth 100000 in
theorem kc_Told (l : Launch) : kMet l (kIn "WhoIsWho$Told") prog_8_method_1_code 2 2 1 58 281 kF_Told := by
  refine kMet_of (by decide) (by omega) ?_
  intro p e s m args below meth c R D dA N0 rf h0 n Qm ls hX hl hS fin
  obtain ⟨hx, hb, hml, hown, hts, hin, hE, hF, ⟨hn, hN0, hh⟩, rF, rC, rS, rL⟩ := hX
  have hN : ∀ q, kA h0 n q → N0 ≤ q := fun q z => by rcases z with z | z <;> omega
  have loop : ∀ t i : Nat, i + t = 13 → ∀ (N cells slots : Nat) (H : Heap) (locs : List Loc) (ls : Array Slot), N = n + 6 + 4 * i → cells = 6 + 4 * i → slots = 47 + 18 * i → lv_has ls 2 [(1, .int (nI i)), (0, .ref h0)] → kS D (kA h0 n) (kT dA h0 n i (fun _ => 0)) N s.heap H locs → W p l e R s m args below meth c H locs cells slots Qm (F0 m 53 ls []) := by
    clear hS hl ls
    intro t
    induction t with
    | zero =>
      intro i hi N cells slots H locs ls eN ec es hl hS
      have hi6 : i = 13 := by omega
      subst hi6 ec es eN
      refine lv_iload_n hx hb kd_Told_53 rfl (lv_at hl 0 rfl) ?_
      refine lv_aload_n hx hb kd_Told_54 rfl (lv_at hl 1 rfl) ?_
      refine kr_get hx hb hown hts hE.1 1 5 (by omega) (Nat.le_of_ble_eq_true rfl) (hts _ kw_89) hS (kT_h0 _ _ _ _ _) rfl kd_Told_55 ?_
      refine kr_alen hx hb hE.1 2 rfl hS (kT_2 dA _ _ hh) rfl kd_Told_58 ?_
      refine lv_icmp_ge hx hb kd_Told_59 (tgt := 81) rfl (fun _ => ?_) (fun q => absurd (show Int32.ofNat 13 ≤ nI 13 by decide) q)
      refine va_getsN hx hb (va_Z.narrow hF.1 hN) hS.2.2.1 hown (va_Nw.use rfl hE.2.2.2.2.2.2.2) (fun _ q => q) kd_Told_81 ?_
      refine lv_iconst hx hb kd_Told_84 rfl ?_
      refine lv_aload_n hx hb kd_Told_85 rfl (lv_at hl 1 rfl) ?_
      refine kr_get hx hb hown hts hE.1 1 7 (by omega) (Nat.le_of_ble_eq_true rfl) (hts _ kw_97) hS (kT_h0 _ _ _ _ _) rfl kd_Told_86 ?_
      refine lv_iconst hx hb kd_Told_89 rfl ?_
      refine lv_bipush hx hb kd_Told_90 rfl ?_
      refine kr_copy6 hx hb (hml.trans hl.1.symm) hown (hts _ kw_74) (hts _ kw_76) (hts _ kw_75) (hts _ kw_4) hE.1 0 rfl hS (va_T.narrow hF.2.1 hN) (by have := hF.2.2.1; omega) (fun z => by have := hN _ z; have := hF.2.2.2; omega) (kT_4 dA _ _ hh) (by omega) (by rw [rL]; decide) kd_Told_92 ?_
      clear hS; intro H locs hS
      refine fin _ _ _ _ _ hS (fun a x q => ?_) kd_Told_95
      unfold kF_Told at q
      by_cases c4 : a = n + 4
      · rw [c4] at q ⊢
        rw [kT_4 dA _ _ hh] at q
        rw [kU_at]; exact q
      · rw [kU_ne c4, kT_r dA h0 n 13 _ (va_cpy kRF (fun _ => 0) 0 0 6) c4]; exact q
    | succ t ih =>
      intro i hi N cells slots H locs ls eN ec es hl hS
      refine lv_iload_n hx hb kd_Told_53 rfl (lv_at hl 0 rfl) ?_
      refine lv_aload_n hx hb kd_Told_54 rfl (lv_at hl 1 rfl) ?_
      refine kr_get hx hb hown hts hE.1 1 5 (by omega) (Nat.le_of_ble_eq_true rfl) (hts _ kw_89) hS (kT_h0 _ _ _ _ _) rfl kd_Told_55 ?_
      refine kr_alen hx hb hE.1 2 rfl hS (kT_2 dA _ _ hh) rfl kd_Told_58 ?_
      refine lv_icmp_ge hx hb kd_Told_59 (tgt := 81) rfl (fun q => absurd q (nI_ge (a := i) (b := 13) (by omega) (by omega))) (fun _ => ?_)
      refine lv_aload_n hx hb kd_Told_62 rfl (lv_at hl 1 rfl) ?_
      refine kr_get hx hb hown hts hE.1 1 5 (by omega) (Nat.le_of_ble_eq_true rfl) (hts _ kw_89) hS (kT_h0 _ _ _ _ _) rfl kd_Told_63 ?_
      refine lv_iload_n hx hb kd_Told_66 rfl (lv_at hl 0 rfl) ?_
      refine kr_newN hx hb hown hts hE.1 6 (by omega) 6 rfl (hts _ kw_28) (hts _ kw_30) (hts _ kw_3) hS (by omega) (by omega) kd_Told_67 ?_
      clear hS; intro H hS
      refine lv_dup hx hb kd_Told_70 rfl ?_
      refine kr_callN hx hb (hml.trans hl.1.symm) hown hts hE hF hN hS (kc_Scan l) kw_33 (hts _ kw_3) hE.2.2.1 (hts _ kw_32) ⟨by decide, by decide⟩ (kU_at _ _ _) ⟨by omega, by omega⟩ ⟨by omega, by omega⟩ (Nat.le_of_ble_eq_true rfl) kd_Told_71 ?_
      clear hS; intro H locs hS
      refine kr_aast hx hb hE.1 (t0 := 2) (ci := 6) (by omega) rfl hS (Eq.trans (kL_out (by omega) (by omega)) (Eq.trans (kU_ne (by omega)) (kT_2 dA i _ hh))) (Eq.trans (kL_in (Or.inl rfl)) (if_pos rfl)) i rfl (by omega) (by omega) kd_Told_74 ?_
      clear hS; intro H locs hS
      refine lv_iinc (k := 0) (v := nI (i + 1)) (lv' := [(1, .int (nI (i + 1))), (0, .ref h0)]) hx hb kd_Told_75 hl rfl (nI_add i 1) (by omega) rfl (fun ls hl => ?_)
      refine lv_goto hx hb kd_Told_78 (tgt := 53) rfl ?_
      refine ih (i + 1) (by omega) _ _ _ _ _ _ (by omega) (by omega) (by omega) hl (kS_mono hS (fun a x q => ?_))
      by_cases c2 : a = n + 2
      · rw [c2] at q ⊢
        rw [kT_2 dA _ _ hh] at q
        rw [← q, kU_at]
        have ef : (fun q => if q = i then some N else if q < i then some (n + 6 + 4 * q) else none) = (fun k => if k < i + 1 then some (n + 6 + 4 * k) else none) := by
          funext k
          by_cases d1 : k = i
          · rw [if_pos d1, if_pos (by omega), eN, d1]
          · rw [if_neg d1]
            by_cases d2 : k < i
            · rw [if_pos d2, if_pos (by omega)]
            · rw [if_neg d2, if_neg (by omega)]
        rw [ef]
      refine Eq.trans (kU_ne c2) ?_
      by_cases cN : N ≤ a
      · have cN0 : a = N ∨ N + 1 ≤ a := by omega
        refine Eq.trans (kL_in cN0) ?_
        unfold kT at q
        rw [if_neg (by omega), if_neg (by omega), if_neg (by omega), if_neg (by omega), if_neg (by omega), if_neg (by omega), if_neg (by omega)] at q
        by_cases cr : n + 6 ≤ a ∧ a < n + 6 + 4 * (i + 1)
        · rw [if_pos cr] at q
          unfold kF_Scan
          by_cases d0 : a = N
          · rw [if_pos (by omega)] at q; rw [if_pos d0, ← q, d0]
          · rw [if_neg (by omega)] at q
            rw [if_neg d0]
            by_cases d1 : a = N + 1
            · rw [if_pos d1]; exact q
            rw [if_neg d1]
            by_cases d2 : a = N + 1 + 1
            · rw [if_pos d2]; exact q
            rw [if_neg d2, if_pos (by omega)]; exact q
        · rw [if_neg cr] at q; cases q
      · refine Eq.trans (kL_out (by omega) (by omega)) (Eq.trans (kU_ne (by omega)) ?_)
        rw [← q]
        unfold kT
        rw [if_neg (c := a = n + 2) c2, if_neg (c := a = n + 2) c2]
        by_cases cr : n + 6 ≤ a ∧ a < n + 6 + 4 * i
        · rw [if_pos cr, if_pos (c := n + 6 ≤ a ∧ a < n + 6 + 4 * (i + 1)) (by omega)]
        · rw [if_neg cr, if_neg (c := n + 6 ≤ a ∧ a < n + 6 + 4 * (i + 1)) (by omega)]
  refine lv_aload_n hx hb kd_Told_0 rfl (lv_at hl 0 rfl) ?_
  refine kr_obj hx hb (hml.trans hl.1.symm) hown hts kw_oi kw_oc (hts _ kw_27) ⟨by omega, by omega⟩ kd_Told_1 ?_
  refine lv_aload_n hx hb kd_Told_4 rfl (lv_at hl 0 rfl) ?_
  refine lv_iconst hx hb kd_Told_5 rfl ?_
  refine kr_newi hx hb (hts _ kw_71) hE.1 (t0 := 0) rfl hS 3 rfl (by omega) (by omega) (by omega) kd_Told_6 ?_
  clear hS; intro H hS
  refine kr_putF hx hb hown hts hE.1 hin 1 3 (by omega) (Nat.le_of_ble_eq_true rfl) rfl (hts _ kw_85) rfl hS (Eq.trans (kU_ne (by omega)) (kU_at _ _ _)) (Nat.le_of_ble_eq_true rfl) rfl rfl kd_Told_8 ?_
  clear hS; intro H locs hS
  refine lv_aload_n hx hb kd_Told_11 rfl (lv_at hl 0 rfl) ?_
  refine lv_iconst hx hb kd_Told_12 rfl ?_
  refine kr_newi hx hb (hts _ kw_71) hE.1 (t0 := 0) rfl hS 3 rfl (by omega) (by omega) (by omega) kd_Told_13 ?_
  clear hS; intro H hS
  refine kr_putF hx hb hown hts hE.1 hin 1 4 (by omega) (Nat.le_of_ble_eq_true rfl) rfl (hts _ kw_87) rfl hS (Eq.trans (kU_ne (by omega)) (kU_at _ _ _)) (Nat.le_of_ble_eq_true rfl) rfl rfl kd_Told_15 ?_
  clear hS; intro H locs hS
  refine lv_aload_n hx hb kd_Told_18 rfl (lv_at hl 0 rfl) ?_
  refine lv_bipush hx hb kd_Told_19 rfl ?_
  refine kr_newq hx hb hown (hts _ kw_28) hE.2.1.1 hE.1 (t0 := 2) rfl hS 13 rfl (by omega) (by omega) (by omega) kd_Told_21 ?_
  clear hS; intro H hS
  refine kr_putF hx hb hown hts hE.1 hin 1 5 (by omega) (Nat.le_of_ble_eq_true rfl) rfl (hts _ kw_89) rfl hS (Eq.trans (kU_ne (by omega)) (kU_at _ _ _)) (Nat.le_of_ble_eq_true rfl) rfl rfl kd_Told_24 ?_
  clear hS; intro H locs hS
  refine lv_aload_n hx hb kd_Told_27 rfl (lv_at hl 0 rfl) ?_
  refine lv_bipush hx hb kd_Told_28 rfl ?_
  refine kr_newi hx hb (hts _ kw_71) hE.1 (t0 := 0) rfl hS 12 rfl (by omega) (by omega) (by omega) kd_Told_30 ?_
  clear hS; intro H hS
  refine kr_putF hx hb hown hts hE.1 hin 1 6 (by omega) (Nat.le_of_ble_eq_true rfl) rfl (hts _ kw_94) rfl hS (Eq.trans (kU_ne (by omega)) (kU_at _ _ _)) (Nat.le_of_ble_eq_true rfl) rfl rfl kd_Told_32 ?_
  clear hS; intro H locs hS
  refine lv_aload_n hx hb kd_Told_35 rfl (lv_at hl 0 rfl) ?_
  refine lv_bipush hx hb kd_Told_36 rfl ?_
  refine kr_newi hx hb (hts _ kw_71) hE.1 (t0 := 0) rfl hS 6 rfl (by omega) (by omega) (by omega) kd_Told_38 ?_
  clear hS; intro H hS
  refine kr_putF hx hb hown hts hE.1 hin 1 7 (by omega) (Nat.le_of_ble_eq_true rfl) rfl (hts _ kw_97) rfl hS (Eq.trans (kU_ne (by omega)) (kU_at _ _ _)) (Nat.le_of_ble_eq_true rfl) rfl rfl kd_Told_40 ?_
  clear hS; intro H locs hS
  refine lv_aload_n hx hb kd_Told_43 rfl (lv_at hl 0 rfl) ?_
  refine lv_bipush hx hb kd_Told_44 rfl ?_
  refine kr_newi hx hb (hts _ kw_71) hE.1 (t0 := 0) rfl hS 10 rfl (by omega) (by omega) (by omega) kd_Told_46 ?_
  clear hS; intro H hS
  refine kr_putF hx hb hown hts hE.1 hin 1 8 (by omega) (Nat.le_of_ble_eq_true rfl) rfl (hts _ kw_101) rfl hS (Eq.trans (kU_ne (by omega)) (kU_at _ _ _)) (Nat.le_of_ble_eq_true rfl) rfl rfl kd_Told_48 ?_
  clear hS; intro H locs hS
  refine lv_iconst hx hb kd_Told_51 rfl ?_
  refine lv_istore_n (lv' := [(1, .int (nI 0)), (0, .ref h0)]) hx hb kd_Told_52 rfl hl (by omega) rfl (fun ls hl => ?_)
  refine loop 13 0 (by omega) _ _ _ _ _ _ (by omega) (by omega) (by omega) hl (kS_mono hS (fun a x q => ?_))
  unfold kT at q
  by_cases c0 : a = h0
  · rw [if_pos c0] at q; rw [c0, ← q]; exact (kU_at _ _ _)
  rw [if_neg c0] at q
  by_cases c1 : a = n
  · rw [if_pos c1] at q; rw [c1, ← q]; exact (Eq.trans (kU_ne (by omega)) (Eq.trans (kU_ne (by omega)) (Eq.trans (kU_ne (by omega)) (Eq.trans (kU_ne (by omega)) (Eq.trans (kU_ne (by omega)) (Eq.trans (kU_ne (by omega)) (Eq.trans (kU_ne (by omega)) (Eq.trans (kU_ne (by omega)) (Eq.trans (kU_ne (by omega)) (Eq.trans (kU_ne (by omega)) (Eq.trans (kU_ne (by omega)) (kU_at _ _ _))))))))))))
  rw [if_neg c1] at q
  by_cases c2 : a = n + 1
  · rw [if_pos c2] at q; rw [c2, ← q]; exact (Eq.trans (kU_ne (by omega)) (Eq.trans (kU_ne (by omega)) (Eq.trans (kU_ne (by omega)) (Eq.trans (kU_ne (by omega)) (Eq.trans (kU_ne (by omega)) (Eq.trans (kU_ne (by omega)) (Eq.trans (kU_ne (by omega)) (Eq.trans (kU_ne (by omega)) (Eq.trans (kU_ne (by omega)) (kU_at _ _ _))))))))))
  rw [if_neg c2] at q
  by_cases c3 : a = n + 2
  · rw [if_pos c3] at q
    rw [c3, ← q]
    have ef : (fun k => if k < 0 then some (n + 6 + 4 * k) else none) = (fun _ => none) := by funext k; rw [if_neg (by omega)]
    rw [ef]
    exact (Eq.trans (kU_ne (by omega)) (Eq.trans (kU_ne (by omega)) (Eq.trans (kU_ne (by omega)) (Eq.trans (kU_ne (by omega)) (Eq.trans (kU_ne (by omega)) (Eq.trans (kU_ne (by omega)) (Eq.trans (kU_ne (by omega)) (kU_at _ _ _))))))))
  rw [if_neg c3] at q
  by_cases c4 : a = n + 3
  · rw [if_pos c4] at q; rw [c4, ← q]; exact (Eq.trans (kU_ne (by omega)) (Eq.trans (kU_ne (by omega)) (Eq.trans (kU_ne (by omega)) (Eq.trans (kU_ne (by omega)) (Eq.trans (kU_ne (by omega)) (kU_at _ _ _))))))
  rw [if_neg c4] at q
  by_cases c5 : a = n + 4
  · rw [if_pos c5] at q; rw [c5, ← q]; exact (Eq.trans (kU_ne (by omega)) (Eq.trans (kU_ne (by omega)) (Eq.trans (kU_ne (by omega)) (kU_at _ _ _))))
  rw [if_neg c5] at q
  by_cases c6 : a = n + 5
  · rw [if_pos c6] at q; rw [c6, ← q]; exact (Eq.trans (kU_ne (by omega)) (kU_at _ _ _))
  rw [if_neg c6] at q
  rw [if_neg (by omega)] at q
  cases q
