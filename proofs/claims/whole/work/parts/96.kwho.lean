/-! constructors of the keeper and of the class itself -/
def kV (dA : Nat → ClassId) (b : Nat) : Nat → Option va_E := fun a => if (a - b) % 18 < 9 then kF_World dA (b + 18 * ((a - b) / 18)) (b + 18 * ((a - b) / 18) + 1) a else kF_World dA (b + 18 * ((a - b) / 18) + 9) (b + 18 * ((a - b) / 18) + 10) a
def kK (dA : Nat → ClassId) (h0 n i : Nat) (v : Int32) : Nat → Option va_E := fun a => if a = h0 then some (.inr (2, [.ref n, .int v, .ref (n + 1), .ref (n + 2)])) else if a = n then some (.inl (dA 4, 4, .inr (.inr (.inr (.inr fun k => if k < i then some (n + 17 + 18 * k) else none))))) else if a = n + 1 then some (.inl (dA 4, 4, .inr (.inr (.inr (.inr fun k => if k < i then some (n + 26 + 18 * k) else none))))) else if n + 2 ≤ a ∧ a < n + 17 then kF_Dealer dA (n + 2) (n + 3) a else if n + 17 ≤ a ∧ a < n + 17 + 18 * i then kV dA (n + 17) a else none
theorem kK_h0 (dA : Nat → ClassId) (h0 n i : Nat) (v : Int32) : kK dA h0 n i v h0 = some (.inr (2, [.ref n, .int v, .ref (n + 1), .ref (n + 2)])) := if_pos rfl
theorem kK_n (dA : Nat → ClassId) {h0 n : Nat} (i : Nat) (v : Int32) (h : h0 < n) : kK dA h0 n i v n = some (.inl (dA 4, 4, .inr (.inr (.inr (.inr fun k => if k < i then some (n + 17 + 18 * k) else none))))) := by unfold kK; rw [if_neg (by omega), if_pos rfl]
theorem kK_1 (dA : Nat → ClassId) {h0 n : Nat} (i : Nat) (v : Int32) (h : h0 < n) : kK dA h0 n i v (n + 1) = some (.inl (dA 4, 4, .inr (.inr (.inr (.inr fun k => if k < i then some (n + 26 + 18 * k) else none))))) := by unfold kK; rw [if_neg (by omega), if_neg (by omega), if_pos rfl]
def kF_Keeper (dA : Nat → ClassId) (h0 n : Nat) : Nat → Option va_E := kK dA h0 n 4 1
set_option maxHeartbeats 4000000 in
set_option maxRecDepth 100000 in
theorem kc_Keeper (l : Launch) : kMet l (kIn "WhoIsWho$Keeper") prog_4_method_1_code 2 4 2 89 990 kF_Keeper := by
  refine kMet_of (by decide) (by omega) ?_
  intro p e s m args below meth c R D dA N0 rf h0 n Qm ls hX hl hS fin
  obtain ⟨hx, hb, hml, hown, hts, hin, hE, hF, ⟨hn, hN0, hh⟩, rF, rC, rS, rL⟩ := hX
  have hN : ∀ q, kA h0 n q → N0 ≤ q := fun q z => by rcases z with z | z <;> omega
  have loop : ∀ t i : Nat, i + t = 4 → ∀ (N cells slots : Nat) (H : Heap) (locs : List Loc) (ls : Array Slot), N = n + 17 + 18 * i → cells = 17 + 18 * i → slots = 94 + 224 * i → lv_has ls 2 [(1, .int (nI i)), (0, .ref h0)] → kS D (kA h0 n) (kK dA h0 n i 0) N s.heap H locs → W p l e R s m args below meth c H locs cells slots Qm (F0 m 33 ls []) := by
    clear hS hl ls
    intro t
    induction t with
    | zero =>
      intro i hi N cells slots H locs ls eN ec es hl hS
      have hi6 : i = 4 := by omega
      subst hi6 ec es eN
      refine lv_iload_n hx hb kd_Keeper_33 rfl (lv_at hl 0 rfl) ?_
      refine lv_iconst hx hb kd_Keeper_34 rfl ?_
      refine lv_icmp_ge hx hb kd_Keeper_35 (tgt := 70) rfl (fun _ => ?_) (fun q => absurd (by decide) q)
      refine lv_aload_n hx hb kd_Keeper_70 rfl (lv_at hl 1 rfl) ?_
      refine lv_iconst hx hb kd_Keeper_71 rfl ?_
      refine kr_put hx hb hown hts hE.1 2 1 (by omega) (Nat.le_of_ble_eq_true rfl) (hts _ kw_283) rfl hS (kK_h0 _ _ _ _ _) (Nat.le_of_ble_eq_true rfl) rfl rfl kd_Keeper_72 ?_
      clear hS; intro H locs hS
      refine fin _ _ _ _ _ hS (fun a x q => ?_) kd_Keeper_75
      unfold kF_Keeper kK at q
      by_cases c0 : a = h0
      · rw [if_pos c0] at q; rw [c0, ← q]; exact kU_at _ _ _
      · rw [if_neg c0] at q; rw [kU_ne c0]; unfold kK; rw [if_neg c0]; exact q
    | succ t ih =>
      intro i hi N cells slots H locs ls eN ec es hl hS
      refine lv_iload_n hx hb kd_Keeper_33 rfl (lv_at hl 0 rfl) ?_
      refine lv_iconst hx hb kd_Keeper_34 rfl ?_
      refine lv_icmp_ge hx hb kd_Keeper_35 (tgt := 70) rfl (fun q => absurd q (nI_ge (a := i) (b := 4) (by omega) (by omega))) (fun _ => ?_)
      refine lv_aload_n hx hb kd_Keeper_38 rfl (lv_at hl 1 rfl) ?_
      refine kr_get hx hb hown hts hE.1 2 0 (by omega) (Nat.le_of_ble_eq_true rfl) (hts _ kw_281) hS (kK_h0 _ _ _ _ _) rfl kd_Keeper_39 ?_
      refine lv_iload_n hx hb kd_Keeper_42 rfl (lv_at hl 0 rfl) ?_
      refine kr_newN hx hb hown hts hE.1 8 (by omega) 4 rfl (hts _ kw_129) (hts _ kw_215) (hts _ kw_9) hS (by omega) (by omega) kd_Keeper_43 ?_
      clear hS; intro H hS
      refine lv_dup hx hb kd_Keeper_46 rfl ?_
      refine kr_call hx hb (hml.trans hl.1.symm) hown hts hE hF hN hS (kc_World l) kw_218 (hts _ kw_9) (hts _ kw_216) (hts _ kw_217) ⟨by decide, by decide⟩ (kU_at _ _ _) ⟨by omega, by omega⟩ ⟨by omega, by omega⟩ (Nat.le_of_ble_eq_true rfl) kd_Keeper_47 ?_
      clear hS; intro H locs hS
      refine kr_aast hx hb hE.1 (t0 := 4) (ci := 8) (by omega) rfl hS (Eq.trans (kL_out (by omega) (by omega)) (Eq.trans (kU_ne (by omega)) (kK_n dA i _ hh))) (Eq.trans (kL_in (Or.inl rfl)) (kW_h0 _ _ _ _)) i rfl (by omega) (by omega) kd_Keeper_50 ?_
      clear hS; intro H locs hS
      refine lv_aload_n hx hb kd_Keeper_51 rfl (lv_at hl 1 rfl) ?_
      refine kr_get hx hb hown hts hE.1 2 2 (by omega) (Nat.le_of_ble_eq_true rfl) (hts _ kw_285) hS (Eq.trans (kU_ne (by omega)) (Eq.trans (kL_out (by omega) (by omega)) (Eq.trans (kU_ne (by omega)) (kK_h0 _ _ _ _ _)))) rfl kd_Keeper_52 ?_
      refine lv_iload_n hx hb kd_Keeper_55 rfl (lv_at hl 0 rfl) ?_
      refine kr_newN hx hb hown hts hE.1 8 (by omega) 4 rfl (hts _ kw_129) (hts _ kw_215) (hts _ kw_9) hS (by omega) (by omega) kd_Keeper_56 ?_
      clear hS; intro H hS
      refine lv_dup hx hb kd_Keeper_59 rfl ?_
      refine kr_call hx hb (hml.trans hl.1.symm) hown hts hE hF hN hS (kc_World l) kw_218 (hts _ kw_9) (hts _ kw_216) (hts _ kw_217) ⟨by decide, by decide⟩ (kU_at _ _ _) ⟨by omega, by omega⟩ ⟨by omega, by omega⟩ (Nat.le_of_ble_eq_true rfl) kd_Keeper_60 ?_
      clear hS; intro H locs hS
      refine kr_aast hx hb hE.1 (t0 := 4) (ci := 8) (by omega) rfl hS (Eq.trans (kL_out (by omega) (by omega)) (Eq.trans (kU_ne (by omega)) (Eq.trans (kU_ne (by omega)) (Eq.trans (kL_out (by omega) (by omega)) (Eq.trans (kU_ne (by omega)) (kK_1 dA i _ hh)))))) (Eq.trans (kL_in (Or.inl rfl)) (kW_h0 _ _ _ _)) i rfl (by omega) (by omega) kd_Keeper_63 ?_
      clear hS; intro H locs hS
      refine lv_iinc (k := 0) (v := nI (i + 1)) (lv' := [(1, .int (nI (i + 1))), (0, .ref h0)]) hx hb kd_Keeper_64 hl rfl (nI_add i 1) (by omega) rfl (fun ls hl => ?_)
      refine lv_goto hx hb kd_Keeper_67 (tgt := 33) rfl ?_
      refine ih (i + 1) (by omega) _ _ _ _ _ _ (by omega) (by omega) (by omega) hl (kS_mono hS (fun a x q => ?_))
      by_cases c1 : a = n + 1
      · rw [c1] at q ⊢
        rw [kK_1 dA _ _ hh] at q
        rw [← q, kU_at]
        have ef : (fun q => if q = i then some (N + 1 + 8) else if q < i then some (n + 26 + 18 * q) else none) = (fun k => if k < i + 1 then some (n + 26 + 18 * k) else none) := by
          funext k
          by_cases d1 : k = i
          · rw [if_pos d1, if_pos (by omega), eN, d1]; congr 1; omega
          · rw [if_neg d1]
            by_cases d2 : k < i
            · rw [if_pos d2, if_pos (by omega)]
            · rw [if_neg d2, if_neg (by omega)]
        rw [ef]
      refine Eq.trans (kU_ne c1) ?_
      by_cases c0 : a = n
      · rw [c0] at q ⊢
        rw [kK_n dA _ _ hh] at q
        refine Eq.trans (kL_out (by omega) (by omega)) (Eq.trans (kU_ne (by omega)) (Eq.trans (kU_at _ _ _) ?_))
        rw [← q]
        have ef : (fun q => if q = i then some N else if q < i then some (n + 17 + 18 * q) else none) = (fun k => if k < i + 1 then some (n + 17 + 18 * k) else none) := by
          funext k
          by_cases d1 : k = i
          · rw [if_pos d1, if_pos (by omega), eN, d1]
          · rw [if_neg d1]
            by_cases d2 : k < i
            · rw [if_pos d2, if_pos (by omega)]
            · rw [if_neg d2, if_neg (by omega)]
        rw [ef]
      by_cases cB : N + 9 ≤ a
      · refine Eq.trans (kL_in (by omega)) ?_
        unfold kK at q
        rw [if_neg (by omega), if_neg c0, if_neg c1, if_neg (by omega)] at q
        by_cases cr : n + 17 ≤ a ∧ a < n + 17 + 18 * (i + 1)
        · rw [if_pos cr] at q
          unfold kV at q
          rw [if_neg (by omega), show n + 17 + 18 * ((a - (n + 17)) / 18) + 9 = N + 1 + 8 by omega, show n + 17 + 18 * ((a - (n + 17)) / 18) + 10 = N + 1 + 8 + 1 by omega] at q
          exact q
        · rw [if_neg cr] at q; cases q
      refine Eq.trans (kL_out (by omega) (by omega)) (Eq.trans (kU_ne (by omega)) (Eq.trans (kU_ne c0) ?_))
      by_cases cA : N ≤ a
      · refine Eq.trans (kL_in (by omega)) ?_
        unfold kK at q
        rw [if_neg (by omega), if_neg c0, if_neg c1, if_neg (by omega), if_pos (by omega)] at q
        unfold kV at q
        rw [if_pos (by omega), show n + 17 + 18 * ((a - (n + 17)) / 18) = N by omega] at q
        exact q
      · refine Eq.trans (kL_out (by omega) (by omega)) (Eq.trans (kU_ne (by omega)) ?_)
        rw [← q]
        unfold kK
        by_cases ch : a = h0
        · rw [if_pos ch, if_pos ch]
        rw [if_neg ch, if_neg ch, if_neg c0, if_neg c0, if_neg c1, if_neg c1]
        by_cases cd : n + 2 ≤ a ∧ a < n + 17
        · rw [if_pos cd, if_pos cd]
        rw [if_neg cd, if_neg cd]
        by_cases cr : n + 17 ≤ a ∧ a < n + 17 + 18 * i
        · rw [if_pos cr, if_pos (by omega)]
        · rw [if_neg cr, if_neg (by omega)]
  refine lv_aload_n hx hb kd_Keeper_0 rfl (lv_at hl 0 rfl) ?_
  refine kr_obj hx hb (hml.trans hl.1.symm) hown hts kw_oi kw_oc (hts _ kw_128) ⟨by omega, by omega⟩ kd_Keeper_1 ?_
  refine lv_aload_n hx hb kd_Keeper_4 rfl (lv_at hl 0 rfl) ?_
  refine lv_iconst hx hb kd_Keeper_5 rfl ?_
  refine kr_newq hx hb hown (hts _ kw_129) hE.2.1.2.2.1 hE.1 (t0 := 4) rfl hS 4 rfl (by omega) (by omega) (by omega) kd_Keeper_6 ?_
  clear hS; intro H hS
  refine kr_put hx hb hown hts hE.1 2 0 (by omega) (Nat.le_of_ble_eq_true rfl) (hts _ kw_281) rfl hS (Eq.trans (kU_ne (by omega)) (kU_at _ _ _)) (Nat.le_of_ble_eq_true rfl) rfl rfl kd_Keeper_9 ?_
  clear hS; intro H locs hS
  refine lv_aload_n hx hb kd_Keeper_12 rfl (lv_at hl 0 rfl) ?_
  refine lv_iconst hx hb kd_Keeper_13 rfl ?_
  refine kr_newq hx hb hown (hts _ kw_129) hE.2.1.2.2.1 hE.1 (t0 := 4) rfl hS 4 rfl (by omega) (by omega) (by omega) kd_Keeper_14 ?_
  clear hS; intro H hS
  refine kr_put hx hb hown hts hE.1 2 2 (by omega) (Nat.le_of_ble_eq_true rfl) (hts _ kw_285) rfl hS (Eq.trans (kU_ne (by omega)) (kU_at _ _ _)) (Nat.le_of_ble_eq_true rfl) rfl rfl kd_Keeper_17 ?_
  clear hS; intro H locs hS
  refine lv_aload_n hx hb kd_Keeper_20 rfl (lv_at hl 0 rfl) ?_
  refine kr_newN hx hb hown hts hE.1 3 (by omega) 12 rfl (hts _ kw_131) (hts _ kw_132) (hts _ kw_6) hS (by omega) (by omega) kd_Keeper_21 ?_
  clear hS; intro H hS
  refine lv_dup hx hb kd_Keeper_24 rfl ?_
  refine kr_callN hx hb (hml.trans hl.1.symm) hown hts hE hF hN hS (kc_Dealer l) kw_135 (hts _ kw_6) hE.2.2.2.1 (hts _ kw_134) ⟨by decide, by decide⟩ (kU_at _ _ _) ⟨by omega, by omega⟩ ⟨by omega, by omega⟩ (Nat.le_of_ble_eq_true rfl) kd_Keeper_25 ?_
  clear hS; intro H locs hS
  refine kr_putF hx hb hown hts hE.1 hin 2 3 (by omega) (Nat.le_of_ble_eq_true rfl) rfl (hts _ kw_286) rfl hS (Eq.trans (kL_out (by omega) (by omega)) (Eq.trans (kU_ne (by omega)) (kU_at _ _ _))) (Nat.le_of_ble_eq_true rfl) rfl rfl kd_Keeper_28 ?_
  clear hS; intro H locs hS
  refine lv_iconst hx hb kd_Keeper_31 rfl ?_
  refine lv_istore_n (lv' := [(1, .int (nI 0)), (0, .ref h0)]) hx hb kd_Keeper_32 rfl hl (by omega) rfl (fun ls hl => ?_)
  refine loop 4 0 (by omega) _ _ _ _ _ _ (by omega) (by omega) (by omega) hl (kS_mono hS (fun a x q => ?_))
  unfold kK at q
  by_cases c0 : a = h0
  · rw [if_pos c0] at q; rw [c0, ← q]; exact (kU_at _ _ _)
  rw [if_neg c0] at q
  by_cases c1 : a = n
  · rw [if_pos c1] at q
    rw [c1, ← q]
    have ef : (fun k => if k < 0 then some (n + 17 + 18 * k) else none) = (fun _ => none) := by funext k; rw [if_neg (by omega)]
    rw [ef]
    exact (Eq.trans (kU_ne (by omega)) (Eq.trans (kL_out (by omega) (by omega)) (Eq.trans (kU_ne (by omega)) (Eq.trans (kU_ne (by omega)) (Eq.trans (kU_ne (by omega)) (Eq.trans (kU_ne (by omega)) (kU_at _ _ _)))))))
  rw [if_neg c1] at q
  by_cases c2 : a = n + 1
  · rw [if_pos c2] at q
    rw [c2, ← q]
    have ef : (fun k => if k < 0 then some (n + 26 + 18 * k) else none) = (fun _ => none) := by funext k; rw [if_neg (by omega)]
    rw [ef]
    exact (Eq.trans (kU_ne (by omega)) (Eq.trans (kL_out (by omega) (by omega)) (Eq.trans (kU_ne (by omega)) (Eq.trans (kU_ne (by omega)) (kU_at _ _ _)))))
  rw [if_neg c2] at q
  by_cases c3 : n + 2 ≤ a ∧ a < n + 17
  · rw [if_pos c3] at q; exact (Eq.trans (kU_ne (by omega)) (Eq.trans (kL_in (by omega)) q))
  rw [if_neg c3, if_neg (by omega)] at q
  cases q
def kF_Who (dA : Nat → ClassId) (h0 n : Nat) : Nat → Option va_E := fun a => if a = h0 then some (.inr (0, [.ref n, .ref (n + 59), .ref (n + 149)])) else if n ≤ a ∧ a < n + 59 then kF_Told dA n (n + 1) a else if n + 59 ≤ a ∧ a < n + 149 then kF_Keeper dA (n + 59) (n + 60) a else if a = n + 149 then some (.inr (5, [.int 0, .int 0, .int 0])) else none
set_option maxHeartbeats 4000000 in
set_option maxRecDepth 100000 in
theorem kc_Who (l : Launch) : kMet l (kIn "WhoIsWho") prog_1_method_1_code 1 5 0 150 1287 kF_Who := by
  refine kMet_of (by decide) (by omega) ?_
  intro p e s m args below meth c R D dA N0 rf h0 n Qm ls hX hl hS fin
  obtain ⟨hx, hb, hml, hown, hts, hin, hE, hF, ⟨hn, hN0, hh⟩, rF, rC, rS, rL⟩ := hX
  have hN : ∀ q, kA h0 n q → N0 ≤ q := fun q z => by rcases z with z | z <;> omega
  refine lv_aload_n hx hb kd_Who_0 rfl (lv_at hl 0 rfl) ?_
  refine kr_obj hx hb (hml.trans hl.1.symm) hown hts kw_oi kw_oc (hts _ kw_19) ⟨by omega, by omega⟩ kd_Who_1 ?_
  refine lv_aload_n hx hb kd_Who_4 rfl (lv_at hl 0 rfl) ?_
  refine kr_newN hx hb hown hts hE.1 1 (by omega) 9 rfl (hts _ kw_22) (hts _ kw_23) (hts _ kw_2) hS (by omega) (by omega) kd_Who_5 ?_
  clear hS; intro H hS
  refine lv_dup hx hb kd_Who_8 rfl ?_
  refine kr_call hx hb (hml.trans hl.1.symm) hown hts hE hF hN hS (kc_Told l) kw_26 (hts _ kw_2) (hts _ kw_24) (hts _ kw_25) ⟨by decide, by decide⟩ (kU_at _ _ _) ⟨by omega, by omega⟩ ⟨by omega, by omega⟩ (Nat.le_of_ble_eq_true rfl) kd_Who_9 ?_
  clear hS; intro H locs hS
  refine kr_putF hx hb hown hts hE.1 hin 0 0 (by omega) (Nat.le_of_ble_eq_true rfl) rfl (hts _ kw_313) rfl hS (Eq.trans (kL_out (by omega) (by omega)) (Eq.trans (kU_ne (by omega)) (kU_at _ _ _))) (Nat.le_of_ble_eq_true rfl) rfl rfl kd_Who_12 ?_
  clear hS; intro H locs hS
  refine lv_aload_n hx hb kd_Who_15 rfl (lv_at hl 0 rfl) ?_
  refine kr_newN hx hb hown hts hE.1 2 (by omega) 4 rfl (hts _ kw_123) (hts _ kw_124) (hts _ kw_5) hS (by omega) (by omega) kd_Who_16 ?_
  clear hS; intro H hS
  refine lv_dup hx hb kd_Who_19 rfl ?_
  refine kr_call hx hb (hml.trans hl.1.symm) hown hts hE hF hN hS (kc_Keeper l) kw_127 (hts _ kw_5) (hts _ kw_125) (hts _ kw_126) ⟨by decide, by decide⟩ (kU_at _ _ _) ⟨by omega, by omega⟩ ⟨by omega, by omega⟩ (Nat.le_of_ble_eq_true rfl) kd_Who_20 ?_
  clear hS; intro H locs hS
  refine kr_putF hx hb hown hts hE.1 hin 0 1 (by omega) (Nat.le_of_ble_eq_true rfl) rfl (hts _ kw_314) rfl hS (Eq.trans (kL_out (by omega) (by omega)) (Eq.trans (kU_ne (by omega)) (kU_at _ _ _))) (Nat.le_of_ble_eq_true rfl) rfl rfl kd_Who_23 ?_
  clear hS; intro H locs hS
  refine lv_aload_n hx hb kd_Who_26 rfl (lv_at hl 0 rfl) ?_
  refine kr_newN hx hb hown hts hE.1 5 (by omega) 3 rfl (hts _ kw_296) (hts _ kw_297) (hts _ kw_11) hS (by omega) (by omega) kd_Who_27 ?_
  clear hS; intro H hS
  refine lv_dup hx hb kd_Who_30 rfl ?_
  refine kr_callN hx hb (hml.trans hl.1.symm) hown hts hE hF hN hS (kc_Level l) kw_300 (hts _ kw_11) hE.2.2.2.2.2.2.1 (hts _ kw_299) ⟨by decide, by decide⟩ (kU_at _ _ _) ⟨by omega, by omega⟩ ⟨by omega, by omega⟩ (Nat.le_of_ble_eq_true rfl) kd_Who_31 ?_
  clear hS; intro H locs hS
  refine kr_putF hx hb hown hts hE.1 hin 0 2 (by omega) (Nat.le_of_ble_eq_true rfl) rfl (hts _ kw_315) rfl hS (Eq.trans (kL_out (by omega) (by omega)) (Eq.trans (kU_ne (by omega)) (kU_at _ _ _))) (Nat.le_of_ble_eq_true rfl) rfl rfl kd_Who_34 ?_
  clear hS; intro H locs hS
  refine fin _ _ _ _ _ hS (fun a x q => ?_) kd_Who_37
  unfold kF_Who at q
  by_cases c0 : a = h0
  · rw [if_pos c0] at q; rw [c0, ← q]; exact (kU_at _ _ _)
  rw [if_neg c0] at q
  by_cases c1 : n ≤ a ∧ a < n + 59
  · rw [if_pos c1] at q; exact (Eq.trans (kU_ne (by omega)) (Eq.trans (kL_out (by omega) (by omega)) (Eq.trans (kU_ne (by omega)) (Eq.trans (kU_ne (by omega)) (Eq.trans (kL_out (by omega) (by omega)) (Eq.trans (kU_ne (by omega)) (Eq.trans (kU_ne (by omega)) (Eq.trans (kL_in (by omega)) q))))))))
  rw [if_neg c1] at q
  by_cases c2 : n + 59 ≤ a ∧ a < n + 149
  · rw [if_pos c2] at q; exact (Eq.trans (kU_ne (by omega)) (Eq.trans (kL_out (by omega) (by omega)) (Eq.trans (kU_ne (by omega)) (Eq.trans (kU_ne (by omega)) (Eq.trans (kL_in (by omega)) q)))))
  rw [if_neg c2] at q
  by_cases c3 : a = n + 149
  · rw [if_pos c3] at q; rw [c3, ← q]; exact (Eq.trans (kU_ne (by omega)) (Eq.trans (kL_in (by omega)) (if_pos rfl)))
  · rw [if_neg c3] at q; cases q
