/-! constructors without loops or calls -/
theorem kS_sh1 {D : va_G} {A : Nat → Prop} {L : Nat → Option va_E} {n a : Nat} {x y : va_E} {H0 H : Heap} {locs : List Loc} (h : kS D A (kU (kU L a x) a y) n H0 H locs) : kS D A (kU L a y) n H0 H locs := kS_mono h (fun b z q => by
  by_cases c : b = a
  · rw [c, kU_at] at q; rw [c, kU_at]; exact q
  · rw [kU_ne c] at q; rw [kU_ne c, kU_ne c]; exact q)
theorem kS_sh2 {D : va_G} {A : Nat → Prop} {L : Nat → Option va_E} {n a b : Nat} {x y z : va_E} {H0 H : Heap} {locs : List Loc} (h : kS D A (kU (kU (kU L a x) b y) a z) n H0 H locs) : kS D A (kU (kU L b y) a z) n H0 H locs := kS_mono h (fun d w q => by
  by_cases c : d = a
  · rw [c, kU_at] at q; rw [c, kU_at]; exact q
  · rw [kU_ne c] at q
    rw [kU_ne c]
    by_cases c2 : d = b
    · rw [c2, kU_at] at q; rw [c2, kU_at]; exact q
    · rw [kU_ne c2] at q; rw [kU_ne c2, kU_ne c]; exact q)
theorem kS_re {D : va_G} {A : Nat → Prop} {L : Nat → Option va_E} {n a ci : Nat} {fs fs' : List Value} {H0 H : Heap} {locs : List Loc} (h : kS D A (kU L a (.inr (ci, fs))) n H0 H locs) (e : fs = fs') : kS D A (kU L a (.inr (ci, fs'))) n H0 H locs := e ▸ h
def kF_Track (dA : Nat → ClassId) (h0 n : Nat) : Nat → Option va_E := fun a => if a = h0 then some (.inr (9, [.int 0, .int 0, .int 0, .int 0, .int 0, .int 0, .int 0, .int 0, .int 0])) else none
set_option maxHeartbeats 4000000 in
set_option maxRecDepth 100000 in
theorem kc_Track (l : Launch) : kMet l (kIn "WhoIsWho$Track") prog_9_method_1_code 1 1 9 0 0 kF_Track := by
  refine kMet_of (by decide) (by omega) ?_
  intro p e s m args below meth c R D dA N0 rf h0 n Qm ls hX hl hS fin
  obtain ⟨hx, hb, hml, hown, hts, hin, hE, hF, ⟨hn, hN0, hh⟩, rF, rC, rS, rL⟩ := hX
  have hN : ∀ q, kA h0 n q → N0 ≤ q := fun q z => by rcases z with z | z <;> omega
  refine lv_aload_n hx hb kd_Track_0 rfl (lv_at hl 0 rfl) ?_
  refine kr_obj hx hb (hml.trans hl.1.symm) hown hts kw_oi kw_oc (hts _ kw_226) ⟨by omega, by omega⟩ kd_Track_1 ?_
  refine fin _ _ _ _ _ hS (fun a x q => ?_) kd_Track_4
  unfold kF_Track at q
  by_cases c0 : a = h0
  · rw [if_pos c0] at q; rw [c0, ← q]; exact (kU_at _ _ _)
  rw [if_neg c0] at q
  cases q
def kF_Level (dA : Nat → ClassId) (h0 n : Nat) : Nat → Option va_E := fun a => if a = h0 then some (.inr (5, [.int 0, .int 0, .int 0])) else none
set_option maxHeartbeats 4000000 in
set_option maxRecDepth 100000 in
theorem kc_Level (l : Launch) : kMet l (kIn "WhoIsWho$Level") prog_5_method_1_code 1 1 5 0 0 kF_Level := by
  refine kMet_of (by decide) (by omega) ?_
  intro p e s m args below meth c R D dA N0 rf h0 n Qm ls hX hl hS fin
  obtain ⟨hx, hb, hml, hown, hts, hin, hE, hF, ⟨hn, hN0, hh⟩, rF, rC, rS, rL⟩ := hX
  have hN : ∀ q, kA h0 n q → N0 ≤ q := fun q z => by rcases z with z | z <;> omega
  refine lv_aload_n hx hb kd_Level_0 rfl (lv_at hl 0 rfl) ?_
  refine kr_obj hx hb (hml.trans hl.1.symm) hown hts kw_oi kw_oc (hts _ kw_301) ⟨by omega, by omega⟩ kd_Level_1 ?_
  refine fin _ _ _ _ _ hS (fun a x q => ?_) kd_Level_4
  unfold kF_Level at q
  by_cases c0 : a = h0
  · rw [if_pos c0] at q; rw [c0, ← q]; exact (kU_at _ _ _)
  rw [if_neg c0] at q
  cases q
def kF_Scan (dA : Nat → ClassId) (h0 n : Nat) : Nat → Option va_E := fun a => if a = h0 then some (.inr (6, [.int 0, .int 0, .int 0, .ref (n), .ref (n + 1), .ref (n + 2)])) else if a = n then some (.inl (dA 0, 4, .inl fun _ => 0)) else if a = n + 1 then some (.inl (dA 0, 4, .inl fun _ => 0)) else if a = n + 2 then some (.inl (dA 0, 4, .inl fun _ => 0)) else none
set_option maxHeartbeats 4000000 in
set_option maxRecDepth 100000 in
theorem kc_Scan (l : Launch) : kMet l (kIn "WhoIsWho$Scan") prog_6_method_1_code 1 1 6 3 12 kF_Scan := by
  refine kMet_of (by decide) (by omega) ?_
  intro p e s m args below meth c R D dA N0 rf h0 n Qm ls hX hl hS fin
  obtain ⟨hx, hb, hml, hown, hts, hin, hE, hF, ⟨hn, hN0, hh⟩, rF, rC, rS, rL⟩ := hX
  have hN : ∀ q, kA h0 n q → N0 ≤ q := fun q z => by rcases z with z | z <;> omega
  refine lv_aload_n hx hb kd_Scan_0 rfl (lv_at hl 0 rfl) ?_
  refine kr_obj hx hb (hml.trans hl.1.symm) hown hts kw_oi kw_oc (hts _ kw_34) ⟨by omega, by omega⟩ kd_Scan_1 ?_
  refine lv_aload_n hx hb kd_Scan_4 rfl (lv_at hl 0 rfl) ?_
  refine lv_iconst hx hb kd_Scan_5 rfl ?_
  refine kr_newi hx hb (hts _ kw_71) hE.1 (t0 := 0) rfl hS 4 rfl (by omega) (by omega) (by omega) kd_Scan_6 ?_
  clear hS; intro H hS
  refine kr_putF hx hb hown hts hE.1 hin 6 3 (by omega) (Nat.le_of_ble_eq_true rfl) rfl (hts _ kw_48) rfl hS (Eq.trans (kU_ne (by omega)) (kU_at _ _ _)) (Nat.le_of_ble_eq_true rfl) rfl rfl kd_Scan_8 ?_
  clear hS; intro H locs hS
  refine lv_aload_n hx hb kd_Scan_11 rfl (lv_at hl 0 rfl) ?_
  refine lv_iconst hx hb kd_Scan_12 rfl ?_
  refine kr_newi hx hb (hts _ kw_71) hE.1 (t0 := 0) rfl hS 4 rfl (by omega) (by omega) (by omega) kd_Scan_13 ?_
  clear hS; intro H hS
  refine kr_putF hx hb hown hts hE.1 hin 6 4 (by omega) (Nat.le_of_ble_eq_true rfl) rfl (hts _ kw_51) rfl hS (Eq.trans (kU_ne (by omega)) (kU_at _ _ _)) (Nat.le_of_ble_eq_true rfl) rfl rfl kd_Scan_15 ?_
  clear hS; intro H locs hS
  refine lv_aload_n hx hb kd_Scan_18 rfl (lv_at hl 0 rfl) ?_
  refine lv_iconst hx hb kd_Scan_19 rfl ?_
  refine kr_newi hx hb (hts _ kw_71) hE.1 (t0 := 0) rfl hS 4 rfl (by omega) (by omega) (by omega) kd_Scan_20 ?_
  clear hS; intro H hS
  refine kr_putF hx hb hown hts hE.1 hin 6 5 (by omega) (Nat.le_of_ble_eq_true rfl) rfl (hts _ kw_54) rfl hS (Eq.trans (kU_ne (by omega)) (kU_at _ _ _)) (Nat.le_of_ble_eq_true rfl) rfl rfl kd_Scan_22 ?_
  clear hS; intro H locs hS
  refine fin _ _ _ _ _ hS (fun a x q => ?_) kd_Scan_25
  unfold kF_Scan at q
  by_cases c0 : a = h0
  · rw [if_pos c0] at q; rw [c0, ← q]; exact (kU_at _ _ _)
  rw [if_neg c0] at q
  by_cases c1 : a = n
  · rw [if_pos c1] at q; rw [c1, ← q]; exact (Eq.trans (kU_ne (by omega)) (Eq.trans (kU_ne (by omega)) (Eq.trans (kU_ne (by omega)) (Eq.trans (kU_ne (by omega)) (Eq.trans (kU_ne (by omega)) (kU_at _ _ _))))))
  rw [if_neg c1] at q
  by_cases c2 : a = n + 1
  · rw [if_pos c2] at q; rw [c2, ← q]; exact (Eq.trans (kU_ne (by omega)) (Eq.trans (kU_ne (by omega)) (Eq.trans (kU_ne (by omega)) (kU_at _ _ _))))
  rw [if_neg c2] at q
  by_cases c3 : a = n + 2
  · rw [if_pos c3] at q; rw [c3, ← q]; exact (Eq.trans (kU_ne (by omega)) (kU_at _ _ _))
  rw [if_neg c3] at q
  cases q
def kF_Join (dA : Nat → ClassId) (h0 n : Nat) : Nat → Option va_E := fun a => if a = h0 then some (.inr (7, [.int 0, .int 0, .ref (n)])) else if a = n then some (.inl (dA 0, 4, .inl fun _ => 0)) else none
set_option maxHeartbeats 4000000 in
set_option maxRecDepth 100000 in
theorem kc_Join (l : Launch) : kMet l (kIn "WhoIsWho$Join") prog_3_method_1_code 1 1 7 1 4 kF_Join := by
  refine kMet_of (by decide) (by omega) ?_
  intro p e s m args below meth c R D dA N0 rf h0 n Qm ls hX hl hS fin
  obtain ⟨hx, hb, hml, hown, hts, hin, hE, hF, ⟨hn, hN0, hh⟩, rF, rC, rS, rL⟩ := hX
  have hN : ∀ q, kA h0 n q → N0 ≤ q := fun q z => by rcases z with z | z <;> omega
  refine lv_aload_n hx hb kd_Join_0 rfl (lv_at hl 0 rfl) ?_
  refine kr_obj hx hb (hml.trans hl.1.symm) hown hts kw_oi kw_oc (hts _ kw_149) ⟨by omega, by omega⟩ kd_Join_1 ?_
  refine lv_aload_n hx hb kd_Join_4 rfl (lv_at hl 0 rfl) ?_
  refine lv_iconst hx hb kd_Join_5 rfl ?_
  refine kr_newi hx hb (hts _ kw_71) hE.1 (t0 := 0) rfl hS 4 rfl (by omega) (by omega) (by omega) kd_Join_6 ?_
  clear hS; intro H hS
  refine kr_putF hx hb hown hts hE.1 hin 7 2 (by omega) (Nat.le_of_ble_eq_true rfl) rfl (hts _ kw_154) rfl hS (Eq.trans (kU_ne (by omega)) (kU_at _ _ _)) (Nat.le_of_ble_eq_true rfl) rfl rfl kd_Join_8 ?_
  clear hS; intro H locs hS
  refine fin _ _ _ _ _ hS (fun a x q => ?_) kd_Join_11
  unfold kF_Join at q
  by_cases c0 : a = h0
  · rw [if_pos c0] at q; rw [c0, ← q]; exact (kU_at _ _ _)
  rw [if_neg c0] at q
  by_cases c1 : a = n
  · rw [if_pos c1] at q; rw [c1, ← q]; exact (Eq.trans (kU_ne (by omega)) (kU_at _ _ _))
  rw [if_neg c1] at q
  cases q
