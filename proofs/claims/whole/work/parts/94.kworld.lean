/-! constructors of worlds, shortlist, dealer -/
def kW (dA : Nat → ClassId) (h0 n i : Nat) : Nat → Option va_E := fun a => if a = h0 then some (.inr (8, [.int 0, .int 0, .ref n, .ref (n + 1)])) else if a = n then some (.inl (dA 5, 6, .inr (.inr (.inr (.inr fun k => if k < i then some (n + 2 + k) else none))))) else if a = n + 1 then some (.inl (dA 0, 48, .inl fun _ => 0)) else if n + 2 ≤ a ∧ a < n + 2 + i then some (.inr (9, [.int 0, .int 0, .int 0, .int 0, .int 0, .int 0, .int 0, .int 0, .int 0])) else none
theorem kW_h0 (dA : Nat → ClassId) (h0 n i : Nat) : kW dA h0 n i h0 = some (.inr (8, [.int 0, .int 0, .ref n, .ref (n + 1)])) := if_pos rfl
theorem kW_n (dA : Nat → ClassId) {h0 n : Nat} (i : Nat) (h : h0 < n) : kW dA h0 n i n = some (.inl (dA 5, 6, .inr (.inr (.inr (.inr fun k => if k < i then some (n + 2 + k) else none))))) := by unfold kW; rw [if_neg (by omega), if_pos rfl]
def kF_World (dA : Nat → ClassId) (h0 n : Nat) : Nat → Option va_E := kW dA h0 n 6
set_option maxHeartbeats 4000000 in
set_option maxRecDepth 100000 in
theorem kc_World (l : Launch) : kMet l (kIn "WhoIsWho$World") prog_10_method_1_code 2 2 8 8 108 kF_World := by
  refine kMet_of (by decide) (by omega) ?_
  intro p e s m args below meth c R D dA N0 rf h0 n Qm ls hX hl hS fin
  obtain ⟨hx, hb, hml, hown, hts, hin, hE, hF, ⟨hn, hN0, hh⟩, rF, rC, rS, rL⟩ := hX
  have hN : ∀ q, kA h0 n q → N0 ≤ q := fun q z => by rcases z with z | z <;> omega
  have loop : ∀ t i : Nat, i + t = 6 → ∀ (N cells slots : Nat) (H : Heap) (locs : List Loc) (ls : Array Slot), N = n + 2 + i → cells = 2 + i → slots = 54 + 9 * i → lv_has ls 2 [(1, .int (nI i)), (0, .ref h0)] → kS D (kA h0 n) (kW dA h0 n i) N s.heap H locs → W p l e R s m args below meth c H locs cells slots Qm (F0 m 23 ls []) := by
    clear hS hl ls
    intro t
    induction t with
    | zero =>
      intro i hi N cells slots H locs ls eN ec es hl hS
      have hi6 : i = 6 := by omega
      subst hi6 ec es eN
      refine lv_iload_n hx hb kd_World_23 rfl (lv_at hl 0 rfl) ?_
      refine lv_bipush hx hb kd_World_24 rfl ?_
      refine lv_icmp_ge hx hb kd_World_26 (tgt := 48) rfl (fun _ => ?_) (fun q => absurd (by decide) q)
      exact fin _ _ _ _ _ hS (fun a x q => q) kd_World_48
    | succ t ih =>
      intro i hi N cells slots H locs ls eN ec es hl hS
      refine lv_iload_n hx hb kd_World_23 rfl (lv_at hl 0 rfl) ?_
      refine lv_bipush hx hb kd_World_24 rfl ?_
      refine lv_icmp_ge hx hb kd_World_26 (tgt := 48) rfl (fun q => absurd q (nI_ge (a := i) (b := 6) (by omega) (by omega))) (fun _ => ?_)
      refine lv_aload_n hx hb kd_World_29 rfl (lv_at hl 1 rfl) ?_
      refine kr_get hx hb hown hts hE.1 8 2 (by omega) (Nat.le_of_ble_eq_true rfl) (hts _ kw_268) hS (kW_h0 _ _ _ _) rfl kd_World_30 ?_
      refine lv_iload_n hx hb kd_World_33 rfl (lv_at hl 0 rfl) ?_
      refine kr_newN hx hb hown hts hE.1 9 (by omega) 9 rfl (hts _ kw_220) (hts _ kw_222) (hts _ kw_10) hS (by omega) (by omega) kd_World_34 ?_
      clear hS; intro H hS
      refine lv_dup hx hb kd_World_37 rfl ?_
      refine kr_callN hx hb (hml.trans hl.1.symm) hown hts hE hF hN hS (kc_Track l) kw_225 (hts _ kw_10) hE.2.2.2.2.2.1 (hts _ kw_224) ⟨by decide, by decide⟩ (kU_at _ _ _) ⟨by omega, by omega⟩ ⟨by omega, by omega⟩ (Nat.le_of_ble_eq_true rfl) kd_World_38 ?_
      clear hS; intro H locs hS
      refine kr_aast hx hb hE.1 (t0 := 5) (ci := 9) (by omega) rfl hS (Eq.trans (kL_out (by omega) (by omega)) (Eq.trans (kU_ne (by omega)) (kW_n dA i hh))) (Eq.trans (kL_in (Or.inl rfl)) (if_pos rfl)) i rfl (by omega) (by omega) kd_World_41 ?_
      clear hS; intro H locs hS
      refine lv_iinc (k := 0) (v := nI (i + 1)) (lv' := [(1, .int (nI (i + 1))), (0, .ref h0)]) hx hb kd_World_42 hl rfl (nI_add i 1) (by omega) rfl (fun ls hl => ?_)
      refine lv_goto hx hb kd_World_45 (tgt := 23) rfl ?_
      refine ih (i + 1) (by omega) _ _ _ _ _ _ (by omega) (by omega) (by omega) hl (kS_mono hS (fun a x q => ?_))
      unfold kW at q
      by_cases c0 : a = h0
      · rw [if_pos c0] at q; rw [c0, ← q]; exact Eq.trans (kU_ne (by omega)) (Eq.trans (kL_out (by omega) (by omega)) (Eq.trans (kU_ne (by omega)) (kW_h0 _ _ _ _)))
      rw [if_neg c0] at q
      by_cases c1 : a = n
      · rw [if_pos c1] at q
        rw [c1, ← q, kU_at]
        have ef : (fun q => if q = i then some N else if q < i then some (n + 2 + q) else none) = (fun k => if k < i + 1 then some (n + 2 + k) else none) := by
          funext k
          by_cases d1 : k = i
          · rw [if_pos d1, if_pos (by omega), eN, d1]
          · rw [if_neg d1]
            by_cases d2 : k < i
            · rw [if_pos d2, if_pos (by omega)]
            · rw [if_neg d2, if_neg (by omega)]
        rw [ef]
      rw [if_neg c1] at q
      by_cases c2 : a = n + 1
      · rw [if_pos c2] at q
        rw [c2, ← q]
        refine Eq.trans (kU_ne (by omega)) (Eq.trans (kL_out (by omega) (by omega)) (Eq.trans (kU_ne (by omega)) ?_))
        unfold kW; rw [if_neg (by omega), if_neg (by omega), if_pos rfl]
      rw [if_neg c2] at q
      by_cases c3 : n + 2 ≤ a ∧ a < n + 2 + (i + 1)
      · rw [if_pos c3] at q
        rw [← q]
        by_cases c4 : a = N
        · rw [c4]; exact Eq.trans (kU_ne (by omega)) (Eq.trans (kL_in (Or.inl rfl)) (if_pos rfl))
        · refine Eq.trans (kU_ne c1) (Eq.trans (kL_out c4 (by omega)) (Eq.trans (kU_ne c4) ?_))
          unfold kW; rw [if_neg c0, if_neg c1, if_neg c2, if_pos (by omega)]
      · rw [if_neg c3] at q; cases q
  refine lv_aload_n hx hb kd_World_0 rfl (lv_at hl 0 rfl) ?_
  refine kr_obj hx hb (hml.trans hl.1.symm) hown hts kw_oi kw_oc (hts _ kw_219) ⟨by omega, by omega⟩ kd_World_1 ?_
  refine lv_aload_n hx hb kd_World_4 rfl (lv_at hl 0 rfl) ?_
  refine lv_bipush hx hb kd_World_5 rfl ?_
  refine kr_newq hx hb hown (hts _ kw_220) hE.2.1.2.2.2 hE.1 (t0 := 5) rfl hS 6 rfl (by omega) (by omega) (by omega) kd_World_7 ?_
  clear hS; intro H hS
  refine kr_putF hx hb hown hts hE.1 hin 8 2 (by omega) (Nat.le_of_ble_eq_true rfl) rfl (hts _ kw_268) rfl hS (Eq.trans (kU_ne (by omega)) (kU_at _ _ _)) (Nat.le_of_ble_eq_true rfl) rfl rfl kd_World_10 ?_
  clear hS; intro H locs hS
  refine lv_aload_n hx hb kd_World_13 rfl (lv_at hl 0 rfl) ?_
  refine lv_bipush hx hb kd_World_14 rfl ?_
  refine kr_newi hx hb (hts _ kw_71) hE.1 (t0 := 0) rfl hS 48 rfl (by omega) (by omega) (by omega) kd_World_16 ?_
  clear hS; intro H hS
  refine kr_putF hx hb hown hts hE.1 hin 8 3 (by omega) (Nat.le_of_ble_eq_true rfl) rfl (hts _ kw_271) rfl hS (Eq.trans (kU_ne (by omega)) (kU_at _ _ _)) (Nat.le_of_ble_eq_true rfl) rfl rfl kd_World_18 ?_
  clear hS; intro H locs hS
  refine lv_iconst hx hb kd_World_21 rfl ?_
  refine lv_istore_n (lv' := [(1, .int (nI 0)), (0, .ref h0)]) hx hb kd_World_22 rfl hl (by omega) rfl (fun ls hl => ?_)
  refine loop 6 0 (by omega) _ _ _ _ _ _ (by omega) (by omega) (by omega) hl (kS_mono hS (fun a x q => ?_))
  unfold kW at q
  by_cases c0 : a = h0
  · rw [if_pos c0] at q; rw [c0, ← q]; exact (kU_at _ _ _)
  rw [if_neg c0] at q
  by_cases c1 : a = n
  · rw [if_pos c1] at q
    rw [c1, ← q]
    have ef : (fun k => if k < 0 then some (n + 2 + k) else none) = (fun _ => none) := by funext k; rw [if_neg (by omega)]
    rw [ef]
    exact (Eq.trans (kU_ne (by omega)) (Eq.trans (kU_ne (by omega)) (Eq.trans (kU_ne (by omega)) (kU_at _ _ _))))
  rw [if_neg c1] at q
  by_cases c2 : a = n + 1
  · rw [if_pos c2] at q; rw [c2, ← q]; exact (Eq.trans (kU_ne (by omega)) (kU_at _ _ _))
  rw [if_neg c2, if_neg (by omega)] at q
  cases q
def kJ (dA : Nat → ClassId) (h0 n i : Nat) : Nat → Option va_E := fun a => if a = h0 then some (.inr (4, [.int 0, .int 0, .ref n])) else if a = n then some (.inl (dA 3, 4, .inr (.inr (.inr (.inr fun k => if k < i then some (n + 1 + 2 * k) else none))))) else if n + 1 ≤ a ∧ a < n + 1 + 2 * i then (if (a - (n + 1)) % 2 = 0 then some (.inr (7, [.int 0, .int 0, .ref (a + 1)])) else some (.inl (dA 0, 4, .inl fun _ => 0))) else none
theorem kJ_h0 (dA : Nat → ClassId) (h0 n i : Nat) : kJ dA h0 n i h0 = some (.inr (4, [.int 0, .int 0, .ref n])) := if_pos rfl
theorem kJ_n (dA : Nat → ClassId) {h0 n : Nat} (i : Nat) (h : h0 < n) : kJ dA h0 n i n = some (.inl (dA 3, 4, .inr (.inr (.inr (.inr fun k => if k < i then some (n + 1 + 2 * k) else none))))) := by unfold kJ; rw [if_neg (by omega), if_pos rfl]
def kF_Shortlist (dA : Nat → ClassId) (h0 n : Nat) : Nat → Option va_E := kJ dA h0 n 4
set_option maxHeartbeats 4000000 in
set_option maxRecDepth 100000 in
theorem kc_Shortlist (l : Launch) : kMet l (kIn "WhoIsWho$Shortlist") prog_7_method_1_code 2 2 4 9 32 kF_Shortlist := by
  refine kMet_of (by decide) (by omega) ?_
  intro p e s m args below meth c R D dA N0 rf h0 n Qm ls hX hl hS fin
  obtain ⟨hx, hb, hml, hown, hts, hin, hE, hF, ⟨hn, hN0, hh⟩, rF, rC, rS, rL⟩ := hX
  have hN : ∀ q, kA h0 n q → N0 ≤ q := fun q z => by rcases z with z | z <;> omega
  have loop : ∀ t i : Nat, i + t = 4 → ∀ (N cells slots : Nat) (H : Heap) (locs : List Loc) (ls : Array Slot), N = n + 1 + 2 * i → cells = 1 + 2 * i → slots = 4 + 7 * i → lv_has ls 2 [(1, .int (nI i)), (0, .ref h0)] → kS D (kA h0 n) (kJ dA h0 n i) N s.heap H locs → W p l e R s m args below meth c H locs cells slots Qm (F0 m 14 ls []) := by
    clear hS hl ls
    intro t
    induction t with
    | zero =>
      intro i hi N cells slots H locs ls eN ec es hl hS
      have hi6 : i = 4 := by omega
      subst hi6 ec es eN
      refine lv_iload_n hx hb kd_Shortlist_14 rfl (lv_at hl 0 rfl) ?_
      refine lv_iconst hx hb kd_Shortlist_15 rfl ?_
      refine lv_icmp_ge hx hb kd_Shortlist_16 (tgt := 38) rfl (fun _ => ?_) (fun q => absurd (by decide) q)
      exact fin _ _ _ _ _ hS (fun a x q => q) kd_Shortlist_38
    | succ t ih =>
      intro i hi N cells slots H locs ls eN ec es hl hS
      refine lv_iload_n hx hb kd_Shortlist_14 rfl (lv_at hl 0 rfl) ?_
      refine lv_iconst hx hb kd_Shortlist_15 rfl ?_
      refine lv_icmp_ge hx hb kd_Shortlist_16 (tgt := 38) rfl (fun q => absurd q (nI_ge (a := i) (b := 4) (by omega) (by omega))) (fun _ => ?_)
      refine lv_aload_n hx hb kd_Shortlist_19 rfl (lv_at hl 1 rfl) ?_
      refine kr_get hx hb hown hts hE.1 4 2 (by omega) (Nat.le_of_ble_eq_true rfl) (hts _ kw_167) hS (kJ_h0 _ _ _ _) rfl kd_Shortlist_20 ?_
      refine lv_iload_n hx hb kd_Shortlist_23 rfl (lv_at hl 0 rfl) ?_
      refine kr_newN hx hb hown hts hE.1 7 (by omega) 3 rfl (hts _ kw_143) (hts _ kw_145) (hts _ kw_8) hS (by omega) (by omega) kd_Shortlist_24 ?_
      clear hS; intro H hS
      refine lv_dup hx hb kd_Shortlist_27 rfl ?_
      refine kr_callN hx hb (hml.trans hl.1.symm) hown hts hE hF hN hS (kc_Join l) kw_148 (hts _ kw_8) hE.2.2.2.2.1 (hts _ kw_147) ⟨by decide, by decide⟩ (kU_at _ _ _) ⟨by omega, by omega⟩ ⟨by omega, by omega⟩ (Nat.le_of_ble_eq_true rfl) kd_Shortlist_28 ?_
      clear hS; intro H locs hS
      refine kr_aast hx hb hE.1 (t0 := 3) (ci := 7) (by omega) rfl hS (Eq.trans (kL_out (by omega) (by omega)) (Eq.trans (kU_ne (by omega)) (kJ_n dA i hh))) (Eq.trans (kL_in (Or.inl rfl)) (if_pos rfl)) i rfl (by omega) (by omega) kd_Shortlist_31 ?_
      clear hS; intro H locs hS
      refine lv_iinc (k := 0) (v := nI (i + 1)) (lv' := [(1, .int (nI (i + 1))), (0, .ref h0)]) hx hb kd_Shortlist_32 hl rfl (nI_add i 1) (by omega) rfl (fun ls hl => ?_)
      refine lv_goto hx hb kd_Shortlist_35 (tgt := 14) rfl ?_
      refine ih (i + 1) (by omega) _ _ _ _ _ _ (by omega) (by omega) (by omega) hl (kS_mono hS (fun a x q => ?_))
      unfold kJ at q
      by_cases c0 : a = h0
      · rw [if_pos c0] at q; rw [c0, ← q]; exact Eq.trans (kU_ne (by omega)) (Eq.trans (kL_out (by omega) (by omega)) (Eq.trans (kU_ne (by omega)) (kJ_h0 _ _ _ _)))
      rw [if_neg c0] at q
      by_cases c1 : a = n
      · rw [if_pos c1] at q
        rw [c1, ← q, kU_at]
        have ef : (fun q => if q = i then some N else if q < i then some (n + 1 + 2 * q) else none) = (fun k => if k < i + 1 then some (n + 1 + 2 * k) else none) := by
          funext k
          by_cases d1 : k = i
          · rw [if_pos d1, if_pos (by omega), eN, d1]
          · rw [if_neg d1]
            by_cases d2 : k < i
            · rw [if_pos d2, if_pos (by omega)]
            · rw [if_neg d2, if_neg (by omega)]
        rw [ef]
      rw [if_neg c1] at q
      by_cases c3 : n + 1 ≤ a ∧ a < n + 1 + 2 * (i + 1)
      · rw [if_pos c3] at q
        by_cases c4 : a = N
        · rw [if_pos (by omega)] at q
          rw [← q, c4]; exact Eq.trans (kU_ne (by omega)) (Eq.trans (kL_in (Or.inl rfl)) (if_pos rfl))
        by_cases c5 : a = N + 1
        · rw [if_neg (by omega)] at q
          rw [← q, c5]
          refine Eq.trans (kU_ne (by omega)) (Eq.trans (kL_in (Or.inr (by omega))) ?_)
          unfold kF_Join; rw [if_neg (by omega), if_pos rfl]
        · refine Eq.trans (kU_ne c1) (Eq.trans (kL_out c4 (by omega)) (Eq.trans (kU_ne c4) ?_))
          unfold kJ; rw [if_neg c0, if_neg c1, if_pos (by omega)]; exact q
      · rw [if_neg c3] at q; cases q
  refine lv_aload_n hx hb kd_Shortlist_0 rfl (lv_at hl 0 rfl) ?_
  refine kr_obj hx hb (hml.trans hl.1.symm) hown hts kw_oi kw_oc (hts _ kw_142) ⟨by omega, by omega⟩ kd_Shortlist_1 ?_
  refine lv_aload_n hx hb kd_Shortlist_4 rfl (lv_at hl 0 rfl) ?_
  refine lv_iconst hx hb kd_Shortlist_5 rfl ?_
  refine kr_newq hx hb hown (hts _ kw_143) hE.2.1.2.1 hE.1 (t0 := 3) rfl hS 4 rfl (by omega) (by omega) (by omega) kd_Shortlist_6 ?_
  clear hS; intro H hS
  refine kr_putF hx hb hown hts hE.1 hin 4 2 (by omega) (Nat.le_of_ble_eq_true rfl) rfl (hts _ kw_167) rfl hS (Eq.trans (kU_ne (by omega)) (kU_at _ _ _)) (Nat.le_of_ble_eq_true rfl) rfl rfl kd_Shortlist_9 ?_
  clear hS; intro H locs hS
  refine lv_iconst hx hb kd_Shortlist_12 rfl ?_
  refine lv_istore_n (lv' := [(1, .int (nI 0)), (0, .ref h0)]) hx hb kd_Shortlist_13 rfl hl (by omega) rfl (fun ls hl => ?_)
  refine loop 4 0 (by omega) _ _ _ _ _ _ (by omega) (by omega) (by omega) hl (kS_mono hS (fun a x q => ?_))
  unfold kJ at q
  by_cases c0 : a = h0
  · rw [if_pos c0] at q; rw [c0, ← q]; exact (kU_at _ _ _)
  rw [if_neg c0] at q
  by_cases c1 : a = n
  · rw [if_pos c1] at q
    rw [c1, ← q]
    have ef : (fun k => if k < 0 then some (n + 1 + 2 * k) else none) = (fun _ => none) := by funext k; rw [if_neg (by omega)]
    rw [ef]
    exact (Eq.trans (kU_ne (by omega)) (kU_at _ _ _))
  rw [if_neg c1, if_neg (by omega)] at q
  cases q
def kF_Dealer (dA : Nat → ClassId) (h0 n : Nat) : Nat → Option va_E := fun a => if a = h0 then some (.inr (3, [.ref n, .int 0, .int 0, .int 0, .long 0, .int 0, .int 0, .int 0, .ref (n + 10), .ref (n + 11), .ref (n + 12), .ref (n + 13)])) else if a = n + 10 then some (.inl (dA 0, 24, .inl fun _ => 0)) else if a = n + 11 then some (.inl (dA 0, 5, .inl fun _ => 0)) else if a = n + 12 then some (.inl (dA 0, 4, .inl fun _ => 0)) else if a = n + 13 then some (.inl (dA 1, 6, .inl fun _ => 0)) else if n ≤ a ∧ a < n + 10 then kF_Shortlist dA n (n + 1) a else none
set_option maxHeartbeats 4000000 in
set_option maxRecDepth 100000 in
theorem kc_Dealer (l : Launch) : kMet l (kIn "WhoIsWho$Dealer") prog_2_method_1_code 1 3 3 14 74 kF_Dealer := by
  refine kMet_of (by decide) (by omega) ?_
  intro p e s m args below meth c R D dA N0 rf h0 n Qm ls hX hl hS fin
  obtain ⟨hx, hb, hml, hown, hts, hin, hE, hF, ⟨hn, hN0, hh⟩, rF, rC, rS, rL⟩ := hX
  have hN : ∀ q, kA h0 n q → N0 ≤ q := fun q z => by rcases z with z | z <;> omega
  refine lv_aload_n hx hb kd_Dealer_0 rfl (lv_at hl 0 rfl) ?_
  refine kr_obj hx hb (hml.trans hl.1.symm) hown hts kw_oi kw_oc (hts _ kw_136) ⟨by omega, by omega⟩ kd_Dealer_1 ?_
  refine lv_aload_n hx hb kd_Dealer_4 rfl (lv_at hl 0 rfl) ?_
  refine kr_newN hx hb hown hts hE.1 4 (by omega) 3 rfl (hts _ kw_137) (hts _ kw_138) (hts _ kw_7) hS (by omega) (by omega) kd_Dealer_5 ?_
  clear hS; intro H hS
  refine lv_dup hx hb kd_Dealer_8 rfl ?_
  refine kr_call hx hb (hml.trans hl.1.symm) hown hts hE hF hN hS (kc_Shortlist l) kw_141 (hts _ kw_7) (hts _ kw_139) (hts _ kw_140) ⟨by decide, by decide⟩ (kU_at _ _ _) ⟨by omega, by omega⟩ ⟨by omega, by omega⟩ (Nat.le_of_ble_eq_true rfl) kd_Dealer_9 ?_
  clear hS; intro H locs hS
  refine kr_putF hx hb hown hts hE.1 hin 3 0 (by omega) (Nat.le_of_ble_eq_true rfl) rfl (hts _ kw_176) rfl hS (Eq.trans (kL_out (by omega) (by omega)) (Eq.trans (kU_ne (by omega)) (kU_at _ _ _))) (Nat.le_of_ble_eq_true rfl) rfl rfl kd_Dealer_12 ?_
  clear hS; intro H locs hS
  refine lv_aload_n hx hb kd_Dealer_15 rfl (lv_at hl 0 rfl) ?_
  refine lv_bipush hx hb kd_Dealer_16 rfl ?_
  refine kr_newi hx hb (hts _ kw_71) hE.1 (t0 := 0) rfl hS 24 rfl (by omega) (by omega) (by omega) kd_Dealer_18 ?_
  clear hS; intro H hS
  refine kr_putF hx hb hown hts hE.1 hin 3 8 (by omega) (Nat.le_of_ble_eq_true rfl) rfl (hts _ kw_185) rfl hS (Eq.trans (kU_ne (by omega)) (kU_at _ _ _)) (Nat.le_of_ble_eq_true rfl) rfl rfl kd_Dealer_20 ?_
  clear hS; intro H locs hS
  refine lv_aload_n hx hb kd_Dealer_23 rfl (lv_at hl 0 rfl) ?_
  refine lv_iconst hx hb kd_Dealer_24 rfl ?_
  refine kr_newi hx hb (hts _ kw_71) hE.1 (t0 := 0) rfl hS 5 rfl (by omega) (by omega) (by omega) kd_Dealer_25 ?_
  clear hS; intro H hS
  refine kr_putF hx hb hown hts hE.1 hin 3 9 (by omega) (Nat.le_of_ble_eq_true rfl) rfl (hts _ kw_186) rfl hS (Eq.trans (kU_ne (by omega)) (kU_at _ _ _)) (Nat.le_of_ble_eq_true rfl) rfl rfl kd_Dealer_27 ?_
  clear hS; intro H locs hS
  refine lv_aload_n hx hb kd_Dealer_30 rfl (lv_at hl 0 rfl) ?_
  refine lv_iconst hx hb kd_Dealer_31 rfl ?_
  refine kr_newi hx hb (hts _ kw_71) hE.1 (t0 := 0) rfl hS 4 rfl (by omega) (by omega) (by omega) kd_Dealer_32 ?_
  clear hS; intro H hS
  refine kr_putF hx hb hown hts hE.1 hin 3 10 (by omega) (Nat.le_of_ble_eq_true rfl) rfl (hts _ kw_187) rfl hS (Eq.trans (kU_ne (by omega)) (kU_at _ _ _)) (Nat.le_of_ble_eq_true rfl) rfl rfl kd_Dealer_34 ?_
  clear hS; intro H locs hS
  refine lv_aload_n hx hb kd_Dealer_37 rfl (lv_at hl 0 rfl) ?_
  refine lv_bipush hx hb kd_Dealer_38 rfl ?_
  refine kr_newb hx hb (hts _ kw_214) hE.1 (t0 := 1) rfl hS 6 rfl (by omega) (by omega) (by omega) kd_Dealer_40 ?_
  clear hS; intro H hS
  refine kr_putF hx hb hown hts hE.1 hin 3 11 (by omega) (Nat.le_of_ble_eq_true rfl) rfl (hts _ kw_188) rfl hS (Eq.trans (kU_ne (by omega)) (kU_at _ _ _)) (Nat.le_of_ble_eq_true rfl) rfl rfl kd_Dealer_42 ?_
  clear hS; intro H locs hS
  refine fin _ _ _ _ _ hS (fun a x q => ?_) kd_Dealer_45
  unfold kF_Dealer at q
  by_cases c0 : a = h0
  · rw [if_pos c0] at q; rw [c0, ← q]; exact (kU_at _ _ _)
  rw [if_neg c0] at q
  by_cases c1 : a = n + 10
  · rw [if_pos c1] at q; rw [c1, ← q]; exact (Eq.trans (kU_ne (by omega)) (Eq.trans (kU_ne (by omega)) (Eq.trans (kU_ne (by omega)) (Eq.trans (kU_ne (by omega)) (Eq.trans (kU_ne (by omega)) (Eq.trans (kU_ne (by omega)) (Eq.trans (kU_ne (by omega)) (kU_at _ _ _))))))))
  rw [if_neg c1] at q
  by_cases c2 : a = n + 11
  · rw [if_pos c2] at q; rw [c2, ← q]; exact (Eq.trans (kU_ne (by omega)) (Eq.trans (kU_ne (by omega)) (Eq.trans (kU_ne (by omega)) (Eq.trans (kU_ne (by omega)) (Eq.trans (kU_ne (by omega)) (kU_at _ _ _))))))
  rw [if_neg c2] at q
  by_cases c3 : a = n + 12
  · rw [if_pos c3] at q; rw [c3, ← q]; exact (Eq.trans (kU_ne (by omega)) (Eq.trans (kU_ne (by omega)) (Eq.trans (kU_ne (by omega)) (kU_at _ _ _))))
  rw [if_neg c3] at q
  by_cases c4 : a = n + 13
  · rw [if_pos c4] at q; rw [c4, ← q]; exact (Eq.trans (kU_ne (by omega)) (kU_at _ _ _))
  rw [if_neg c4] at q
  by_cases c6 : n ≤ a ∧ a < n + 10
  · rw [if_pos c6] at q; exact (Eq.trans (kU_ne (by omega)) (Eq.trans (kU_ne (by omega)) (Eq.trans (kU_ne (by omega)) (Eq.trans (kU_ne (by omega)) (Eq.trans (kU_ne (by omega)) (Eq.trans (kU_ne (by omega)) (Eq.trans (kU_ne (by omega)) (Eq.trans (kU_ne (by omega)) (Eq.trans (kU_ne (by omega)) (Eq.trans (kL_in (by omega)) q))))))))))
  · rw [if_neg c6] at q; cases q
