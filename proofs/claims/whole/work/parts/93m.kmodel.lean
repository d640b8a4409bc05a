/-! the reference's constructor -/
def kF_Model (dA : Nat → ClassId) (h0 n : Nat) : Nat → Option va_E := fun a => if a = h0 then some (.inr (10, [.int 0, .int 0, .int 0, .ref (n), .ref (n + 1), .ref (n + 2), .ref (n + 3), .ref (n + 4), .ref (n + 5), .ref (n + 6), .ref (n + 7), .ref (n + 8), .ref (n + 9), .ref (n + 10), .ref (n + 11), .ref (n + 12), .int 1, .ref (n + 13), .int 1, .int 0, .ref (n + 14), .ref (n + 15), .ref (n + 16), .ref (n + 17), .ref (n + 18), .ref (n + 19), .ref (n + 20), .ref (n + 21), .ref (n + 22), .ref (n + 23), .ref (n + 24), .ref (n + 25), .ref (n + 26), .int 0, .ref (n + 27), .ref (n + 28), .ref (n + 29), .int 0, .int 0])) else if a = n then some (.inl (dA 0, 3, .inl fun _ => 0)) else if a = n + 1 then some (.inl (dA 0, 3, .inl fun _ => 0)) else if a = n + 2 then some (.inl (dA 0, 12, .inl fun _ => 0)) else if a = n + 3 then some (.inl (dA 0, 12, .inl fun _ => 0)) else if a = n + 4 then some (.inl (dA 0, 12, .inl fun _ => 0)) else if a = n + 5 then some (.inl (dA 0, 48, .inl fun _ => 0)) else if a = n + 6 then some (.inl (dA 0, 48, .inl fun _ => 0)) else if a = n + 7 then some (.inl (dA 0, 48, .inl fun _ => 0)) else if a = n + 8 then some (.inl (dA 0, 4, .inl fun _ => 0)) else if a = n + 9 then some (.inl (dA 0, 4, .inl fun _ => 0)) else if a = n + 10 then some (.inl (dA 0, 4, .inl fun _ => 0)) else if a = n + 11 then some (.inl (dA 0, 10, .inl fun _ => 0)) else if a = n + 12 then some (.inl (dA 0, 6, .inl (fun q => if q = 5 then 3 else if q = 4 then 3 else if q = 3 then 4000 else if q = 2 then 2500 else if q = 1 then 900 else if q = 0 then 60 else 0))) else if a = n + 13 then some (.inl (dA 0, 12, .inl fun _ => 0)) else if a = n + 14 then some (.inl (dA 0, 8, .inl fun _ => 0)) else if a = n + 15 then some (.inl (dA 0, 8, .inl fun _ => 0)) else if a = n + 16 then some (.inl (dA 0, 384, .inl fun _ => 0)) else if a = n + 17 then some (.inl (dA 0, 48, .inl fun _ => 0)) else if a = n + 18 then some (.inl (dA 0, 48, .inl fun _ => 0)) else if a = n + 19 then some (.inl (dA 0, 48, .inl fun _ => 0)) else if a = n + 20 then some (.inl (dA 0, 48, .inl fun _ => 0)) else if a = n + 21 then some (.inl (dA 0, 48, .inl fun _ => 0)) else if a = n + 22 then some (.inl (dA 0, 48, .inl fun _ => 0)) else if a = n + 23 then some (.inl (dA 0, 48, .inl fun _ => 0)) else if a = n + 24 then some (.inl (dA 0, 48, .inl fun _ => 0)) else if a = n + 25 then some (.inl (dA 1, 48, .inl fun _ => 0)) else if a = n + 26 then some (.inl (dA 0, 32, .inl fun _ => 0)) else if a = n + 27 then some (.inl (dA 0, 5, .inl fun _ => 0)) else if a = n + 28 then some (.inl (dA 0, 5, .inl fun _ => 0)) else if a = n + 29 then some (.inl (dA 0, 5, .inl fun _ => 0)) else none
set_option maxHeartbeats 4000000 in
set_option maxRecDepth 100000 in
theorem kc_Model (l : Launch) : kMet l (kIn "WhoIsWhoModel") prog_12_method_1_code 1 1 10 30 1105 kF_Model := by
  refine kMet_of (by decide) (by omega) ?_
  intro p e s m args below meth c R D dA N0 rf h0 n Qm ls hX hl hS fin
  obtain ⟨hx, hb, hml, hown, hts, hin, hE, hF, ⟨hn, hN0, hh⟩, rF, rC, rS, rL⟩ := hX
  have hN : ∀ q, kA h0 n q → N0 ≤ q := fun q z => by rcases z with z | z <;> omega
  refine lv_aload_n hx hb kd_Model_0 rfl (lv_at hl 0 rfl) ?_
  refine kr_obj hx hb (hml.trans hl.1.symm) hown hts kw_oi kw_oc (hts _ kw_687) ⟨by omega, by omega⟩ kd_Model_1 ?_
  replace hS := kS_re hS (fs' := [.int 0, .int 0, .int 0, .null, .null, .null, .null, .null, .null, .null, .null, .null, .null, .null, .null, .null, .int 0, .null, .int 0, .int 0, .null, .null, .null, .null, .null, .null, .null, .null, .null, .null, .null, .null, .null, .int 0, .null, .null, .null, .int 0, .int 0]) rfl
  refine lv_aload_n hx hb kd_Model_4 rfl (lv_at hl 0 rfl) ?_
  refine lv_iconst hx hb kd_Model_5 rfl ?_
  refine kr_put hx hb hown hts hE.1 10 0 (by omega) (Nat.le_of_ble_eq_true rfl) (hts _ kw_688) rfl hS (kU_at _ _ _) (Nat.le_of_ble_eq_true rfl) rfl rfl kd_Model_6 ?_
  clear hS; intro H locs hS
  replace hS := kS_re (kS_sh1 hS) (fs' := [.int 0, .int 0, .int 0, .null, .null, .null, .null, .null, .null, .null, .null, .null, .null, .null, .null, .null, .int 0, .null, .int 0, .int 0, .null, .null, .null, .null, .null, .null, .null, .null, .null, .null, .null, .null, .null, .int 0, .null, .null, .null, .int 0, .int 0]) rfl
  refine lv_aload_n hx hb kd_Model_9 rfl (lv_at hl 0 rfl) ?_
  refine lv_iconst hx hb kd_Model_10 rfl ?_
  refine kr_put hx hb hown hts hE.1 10 1 (by omega) (Nat.le_of_ble_eq_true rfl) (hts _ kw_689) rfl hS (kU_at _ _ _) (Nat.le_of_ble_eq_true rfl) rfl rfl kd_Model_11 ?_
  clear hS; intro H locs hS
  replace hS := kS_re (kS_sh1 hS) (fs' := [.int 0, .int 0, .int 0, .null, .null, .null, .null, .null, .null, .null, .null, .null, .null, .null, .null, .null, .int 0, .null, .int 0, .int 0, .null, .null, .null, .null, .null, .null, .null, .null, .null, .null, .null, .null, .null, .int 0, .null, .null, .null, .int 0, .int 0]) rfl
  refine lv_aload_n hx hb kd_Model_14 rfl (lv_at hl 0 rfl) ?_
  refine lv_iconst hx hb kd_Model_15 rfl ?_
  refine kr_put hx hb hown hts hE.1 10 2 (by omega) (Nat.le_of_ble_eq_true rfl) (hts _ kw_690) rfl hS (kU_at _ _ _) (Nat.le_of_ble_eq_true rfl) rfl rfl kd_Model_16 ?_
  clear hS; intro H locs hS
  replace hS := kS_re (kS_sh1 hS) (fs' := [.int 0, .int 0, .int 0, .null, .null, .null, .null, .null, .null, .null, .null, .null, .null, .null, .null, .null, .int 0, .null, .int 0, .int 0, .null, .null, .null, .null, .null, .null, .null, .null, .null, .null, .null, .null, .null, .int 0, .null, .null, .null, .int 0, .int 0]) rfl
  refine lv_aload_n hx hb kd_Model_19 rfl (lv_at hl 0 rfl) ?_
  refine lv_iconst hx hb kd_Model_20 rfl ?_
  refine kr_newi hx hb (hts _ kw_71) hE.1 (t0 := 0) rfl hS 3 rfl (by omega) (by omega) (by omega) kd_Model_21 ?_
  clear hS; intro H hS
  refine kr_putF hx hb hown hts hE.1 hin 10 3 (by omega) (Nat.le_of_ble_eq_true rfl) rfl (hts _ kw_691) rfl hS (Eq.trans (kU_ne (by omega)) (kU_at _ _ _)) (Nat.le_of_ble_eq_true rfl) rfl rfl kd_Model_23 ?_
  clear hS; intro H locs hS
  replace hS := kS_re (kS_sh2 hS) (fs' := [.int 0, .int 0, .int 0, .ref (n), .null, .null, .null, .null, .null, .null, .null, .null, .null, .null, .null, .null, .int 0, .null, .int 0, .int 0, .null, .null, .null, .null, .null, .null, .null, .null, .null, .null, .null, .null, .null, .int 0, .null, .null, .null, .int 0, .int 0]) rfl
  refine lv_aload_n hx hb kd_Model_26 rfl (lv_at hl 0 rfl) ?_
  refine lv_iconst hx hb kd_Model_27 rfl ?_
  refine kr_newi hx hb (hts _ kw_71) hE.1 (t0 := 0) rfl hS 3 rfl (by omega) (by omega) (by omega) kd_Model_28 ?_
  clear hS; intro H hS
  refine kr_putF hx hb hown hts hE.1 hin 10 4 (by omega) (Nat.le_of_ble_eq_true rfl) rfl (hts _ kw_692) rfl hS (Eq.trans (kU_ne (by omega)) (kU_at _ _ _)) (Nat.le_of_ble_eq_true rfl) rfl rfl kd_Model_30 ?_
  clear hS; intro H locs hS
  replace hS := kS_re (kS_sh2 hS) (fs' := [.int 0, .int 0, .int 0, .ref (n), .ref (n + 1), .null, .null, .null, .null, .null, .null, .null, .null, .null, .null, .null, .int 0, .null, .int 0, .int 0, .null, .null, .null, .null, .null, .null, .null, .null, .null, .null, .null, .null, .null, .int 0, .null, .null, .null, .int 0, .int 0]) rfl
  refine lv_aload_n hx hb kd_Model_33 rfl (lv_at hl 0 rfl) ?_
  refine lv_bipush hx hb kd_Model_34 rfl ?_
  refine kr_newi hx hb (hts _ kw_71) hE.1 (t0 := 0) rfl hS 12 rfl (by omega) (by omega) (by omega) kd_Model_36 ?_
  clear hS; intro H hS
  refine kr_putF hx hb hown hts hE.1 hin 10 5 (by omega) (Nat.le_of_ble_eq_true rfl) rfl (hts _ kw_693) rfl hS (Eq.trans (kU_ne (by omega)) (kU_at _ _ _)) (Nat.le_of_ble_eq_true rfl) rfl rfl kd_Model_38 ?_
  clear hS; intro H locs hS
  replace hS := kS_re (kS_sh2 hS) (fs' := [.int 0, .int 0, .int 0, .ref (n), .ref (n + 1), .ref (n + 2), .null, .null, .null, .null, .null, .null, .null, .null, .null, .null, .int 0, .null, .int 0, .int 0, .null, .null, .null, .null, .null, .null, .null, .null, .null, .null, .null, .null, .null, .int 0, .null, .null, .null, .int 0, .int 0]) rfl
  refine lv_aload_n hx hb kd_Model_41 rfl (lv_at hl 0 rfl) ?_
  refine lv_bipush hx hb kd_Model_42 rfl ?_
  refine kr_newi hx hb (hts _ kw_71) hE.1 (t0 := 0) rfl hS 12 rfl (by omega) (by omega) (by omega) kd_Model_44 ?_
  clear hS; intro H hS
  refine kr_putF hx hb hown hts hE.1 hin 10 6 (by omega) (Nat.le_of_ble_eq_true rfl) rfl (hts _ kw_694) rfl hS (Eq.trans (kU_ne (by omega)) (kU_at _ _ _)) (Nat.le_of_ble_eq_true rfl) rfl rfl kd_Model_46 ?_
  clear hS; intro H locs hS
  replace hS := kS_re (kS_sh2 hS) (fs' := [.int 0, .int 0, .int 0, .ref (n), .ref (n + 1), .ref (n + 2), .ref (n + 3), .null, .null, .null, .null, .null, .null, .null, .null, .null, .int 0, .null, .int 0, .int 0, .null, .null, .null, .null, .null, .null, .null, .null, .null, .null, .null, .null, .null, .int 0, .null, .null, .null, .int 0, .int 0]) rfl
  refine lv_aload_n hx hb kd_Model_49 rfl (lv_at hl 0 rfl) ?_
  refine lv_bipush hx hb kd_Model_50 rfl ?_
  refine kr_newi hx hb (hts _ kw_71) hE.1 (t0 := 0) rfl hS 12 rfl (by omega) (by omega) (by omega) kd_Model_52 ?_
  clear hS; intro H hS
  refine kr_putF hx hb hown hts hE.1 hin 10 7 (by omega) (Nat.le_of_ble_eq_true rfl) rfl (hts _ kw_695) rfl hS (Eq.trans (kU_ne (by omega)) (kU_at _ _ _)) (Nat.le_of_ble_eq_true rfl) rfl rfl kd_Model_54 ?_
  clear hS; intro H locs hS
  replace hS := kS_re (kS_sh2 hS) (fs' := [.int 0, .int 0, .int 0, .ref (n), .ref (n + 1), .ref (n + 2), .ref (n + 3), .ref (n + 4), .null, .null, .null, .null, .null, .null, .null, .null, .int 0, .null, .int 0, .int 0, .null, .null, .null, .null, .null, .null, .null, .null, .null, .null, .null, .null, .null, .int 0, .null, .null, .null, .int 0, .int 0]) rfl
  refine lv_aload_n hx hb kd_Model_57 rfl (lv_at hl 0 rfl) ?_
  refine lv_bipush hx hb kd_Model_58 rfl ?_
  refine kr_newi hx hb (hts _ kw_71) hE.1 (t0 := 0) rfl hS 48 rfl (by omega) (by omega) (by omega) kd_Model_60 ?_
  clear hS; intro H hS
  refine kr_putF hx hb hown hts hE.1 hin 10 8 (by omega) (Nat.le_of_ble_eq_true rfl) rfl (hts _ kw_696) rfl hS (Eq.trans (kU_ne (by omega)) (kU_at _ _ _)) (Nat.le_of_ble_eq_true rfl) rfl rfl kd_Model_62 ?_
  clear hS; intro H locs hS
  replace hS := kS_re (kS_sh2 hS) (fs' := [.int 0, .int 0, .int 0, .ref (n), .ref (n + 1), .ref (n + 2), .ref (n + 3), .ref (n + 4), .ref (n + 5), .null, .null, .null, .null, .null, .null, .null, .int 0, .null, .int 0, .int 0, .null, .null, .null, .null, .null, .null, .null, .null, .null, .null, .null, .null, .null, .int 0, .null, .null, .null, .int 0, .int 0]) rfl
  refine lv_aload_n hx hb kd_Model_65 rfl (lv_at hl 0 rfl) ?_
  refine lv_bipush hx hb kd_Model_66 rfl ?_
  refine kr_newi hx hb (hts _ kw_71) hE.1 (t0 := 0) rfl hS 48 rfl (by omega) (by omega) (by omega) kd_Model_68 ?_
  clear hS; intro H hS
  refine kr_putF hx hb hown hts hE.1 hin 10 9 (by omega) (Nat.le_of_ble_eq_true rfl) rfl (hts _ kw_697) rfl hS (Eq.trans (kU_ne (by omega)) (kU_at _ _ _)) (Nat.le_of_ble_eq_true rfl) rfl rfl kd_Model_70 ?_
  clear hS; intro H locs hS
  replace hS := kS_re (kS_sh2 hS) (fs' := [.int 0, .int 0, .int 0, .ref (n), .ref (n + 1), .ref (n + 2), .ref (n + 3), .ref (n + 4), .ref (n + 5), .ref (n + 6), .null, .null, .null, .null, .null, .null, .int 0, .null, .int 0, .int 0, .null, .null, .null, .null, .null, .null, .null, .null, .null, .null, .null, .null, .null, .int 0, .null, .null, .null, .int 0, .int 0]) rfl
  refine lv_aload_n hx hb kd_Model_73 rfl (lv_at hl 0 rfl) ?_
  refine lv_bipush hx hb kd_Model_74 rfl ?_
  refine kr_newi hx hb (hts _ kw_71) hE.1 (t0 := 0) rfl hS 48 rfl (by omega) (by omega) (by omega) kd_Model_76 ?_
  clear hS; intro H hS
  refine kr_putF hx hb hown hts hE.1 hin 10 10 (by omega) (Nat.le_of_ble_eq_true rfl) rfl (hts _ kw_698) rfl hS (Eq.trans (kU_ne (by omega)) (kU_at _ _ _)) (Nat.le_of_ble_eq_true rfl) rfl rfl kd_Model_78 ?_
  clear hS; intro H locs hS
  replace hS := kS_re (kS_sh2 hS) (fs' := [.int 0, .int 0, .int 0, .ref (n), .ref (n + 1), .ref (n + 2), .ref (n + 3), .ref (n + 4), .ref (n + 5), .ref (n + 6), .ref (n + 7), .null, .null, .null, .null, .null, .int 0, .null, .int 0, .int 0, .null, .null, .null, .null, .null, .null, .null, .null, .null, .null, .null, .null, .null, .int 0, .null, .null, .null, .int 0, .int 0]) rfl
  refine lv_aload_n hx hb kd_Model_81 rfl (lv_at hl 0 rfl) ?_
  refine lv_iconst hx hb kd_Model_82 rfl ?_
  refine kr_newi hx hb (hts _ kw_71) hE.1 (t0 := 0) rfl hS 4 rfl (by omega) (by omega) (by omega) kd_Model_83 ?_
  clear hS; intro H hS
  refine kr_putF hx hb hown hts hE.1 hin 10 11 (by omega) (Nat.le_of_ble_eq_true rfl) rfl (hts _ kw_699) rfl hS (Eq.trans (kU_ne (by omega)) (kU_at _ _ _)) (Nat.le_of_ble_eq_true rfl) rfl rfl kd_Model_85 ?_
  clear hS; intro H locs hS
  replace hS := kS_re (kS_sh2 hS) (fs' := [.int 0, .int 0, .int 0, .ref (n), .ref (n + 1), .ref (n + 2), .ref (n + 3), .ref (n + 4), .ref (n + 5), .ref (n + 6), .ref (n + 7), .ref (n + 8), .null, .null, .null, .null, .int 0, .null, .int 0, .int 0, .null, .null, .null, .null, .null, .null, .null, .null, .null, .null, .null, .null, .null, .int 0, .null, .null, .null, .int 0, .int 0]) rfl
  refine lv_aload_n hx hb kd_Model_88 rfl (lv_at hl 0 rfl) ?_
  refine lv_iconst hx hb kd_Model_89 rfl ?_
  refine kr_newi hx hb (hts _ kw_71) hE.1 (t0 := 0) rfl hS 4 rfl (by omega) (by omega) (by omega) kd_Model_90 ?_
  clear hS; intro H hS
  refine kr_putF hx hb hown hts hE.1 hin 10 12 (by omega) (Nat.le_of_ble_eq_true rfl) rfl (hts _ kw_700) rfl hS (Eq.trans (kU_ne (by omega)) (kU_at _ _ _)) (Nat.le_of_ble_eq_true rfl) rfl rfl kd_Model_92 ?_
  clear hS; intro H locs hS
  replace hS := kS_re (kS_sh2 hS) (fs' := [.int 0, .int 0, .int 0, .ref (n), .ref (n + 1), .ref (n + 2), .ref (n + 3), .ref (n + 4), .ref (n + 5), .ref (n + 6), .ref (n + 7), .ref (n + 8), .ref (n + 9), .null, .null, .null, .int 0, .null, .int 0, .int 0, .null, .null, .null, .null, .null, .null, .null, .null, .null, .null, .null, .null, .null, .int 0, .null, .null, .null, .int 0, .int 0]) rfl
  refine lv_aload_n hx hb kd_Model_95 rfl (lv_at hl 0 rfl) ?_
  refine lv_iconst hx hb kd_Model_96 rfl ?_
  refine kr_newi hx hb (hts _ kw_71) hE.1 (t0 := 0) rfl hS 4 rfl (by omega) (by omega) (by omega) kd_Model_97 ?_
  clear hS; intro H hS
  refine kr_putF hx hb hown hts hE.1 hin 10 13 (by omega) (Nat.le_of_ble_eq_true rfl) rfl (hts _ kw_701) rfl hS (Eq.trans (kU_ne (by omega)) (kU_at _ _ _)) (Nat.le_of_ble_eq_true rfl) rfl rfl kd_Model_99 ?_
  clear hS; intro H locs hS
  replace hS := kS_re (kS_sh2 hS) (fs' := [.int 0, .int 0, .int 0, .ref (n), .ref (n + 1), .ref (n + 2), .ref (n + 3), .ref (n + 4), .ref (n + 5), .ref (n + 6), .ref (n + 7), .ref (n + 8), .ref (n + 9), .ref (n + 10), .null, .null, .int 0, .null, .int 0, .int 0, .null, .null, .null, .null, .null, .null, .null, .null, .null, .null, .null, .null, .null, .int 0, .null, .null, .null, .int 0, .int 0]) rfl
  refine lv_aload_n hx hb kd_Model_102 rfl (lv_at hl 0 rfl) ?_
  refine lv_bipush hx hb kd_Model_103 rfl ?_
  refine kr_newi hx hb (hts _ kw_71) hE.1 (t0 := 0) rfl hS 10 rfl (by omega) (by omega) (by omega) kd_Model_105 ?_
  clear hS; intro H hS
  refine kr_putF hx hb hown hts hE.1 hin 10 14 (by omega) (Nat.le_of_ble_eq_true rfl) rfl (hts _ kw_702) rfl hS (Eq.trans (kU_ne (by omega)) (kU_at _ _ _)) (Nat.le_of_ble_eq_true rfl) rfl rfl kd_Model_107 ?_
  clear hS; intro H locs hS
  replace hS := kS_re (kS_sh2 hS) (fs' := [.int 0, .int 0, .int 0, .ref (n), .ref (n + 1), .ref (n + 2), .ref (n + 3), .ref (n + 4), .ref (n + 5), .ref (n + 6), .ref (n + 7), .ref (n + 8), .ref (n + 9), .ref (n + 10), .ref (n + 11), .null, .int 0, .null, .int 0, .int 0, .null, .null, .null, .null, .null, .null, .null, .null, .null, .null, .null, .null, .null, .int 0, .null, .null, .null, .int 0, .int 0]) rfl
  refine lv_aload_n hx hb kd_Model_110 rfl (lv_at hl 0 rfl) ?_
  refine lv_bipush hx hb kd_Model_111 rfl ?_
  refine kr_newi hx hb (hts _ kw_71) hE.1 (t0 := 0) rfl hS 6 rfl (by omega) (by omega) (by omega) kd_Model_113 ?_
  clear hS; intro H hS
  refine lv_dup hx hb kd_Model_115 rfl ?_
  refine lv_iconst hx hb kd_Model_116 rfl ?_
  refine lv_bipush hx hb kd_Model_117 rfl ?_
  refine kr_iast hx hb hE.1 (t0 := 0) rfl hS (kU_at _ _ _) 0 rfl (by omega) (by omega) kd_Model_119 ?_
  clear hS; intro H locs hS
  replace hS := kS_sh1 hS
  refine lv_dup hx hb kd_Model_120 rfl ?_
  refine lv_iconst hx hb kd_Model_121 rfl ?_
  refine lv_sipush hx hb kd_Model_122 rfl ?_
  refine kr_iast hx hb hE.1 (t0 := 0) rfl hS (kU_at _ _ _) 1 rfl (by omega) (by omega) kd_Model_125 ?_
  clear hS; intro H locs hS
  replace hS := kS_sh1 hS
  refine lv_dup hx hb kd_Model_126 rfl ?_
  refine lv_iconst hx hb kd_Model_127 rfl ?_
  refine lv_sipush hx hb kd_Model_128 rfl ?_
  refine kr_iast hx hb hE.1 (t0 := 0) rfl hS (kU_at _ _ _) 2 rfl (by omega) (by omega) kd_Model_131 ?_
  clear hS; intro H locs hS
  replace hS := kS_sh1 hS
  refine lv_dup hx hb kd_Model_132 rfl ?_
  refine lv_iconst hx hb kd_Model_133 rfl ?_
  refine lv_sipush hx hb kd_Model_134 rfl ?_
  refine kr_iast hx hb hE.1 (t0 := 0) rfl hS (kU_at _ _ _) 3 rfl (by omega) (by omega) kd_Model_137 ?_
  clear hS; intro H locs hS
  replace hS := kS_sh1 hS
  refine lv_dup hx hb kd_Model_138 rfl ?_
  refine lv_iconst hx hb kd_Model_139 rfl ?_
  refine lv_iconst hx hb kd_Model_140 rfl ?_
  refine kr_iast hx hb hE.1 (t0 := 0) rfl hS (kU_at _ _ _) 4 rfl (by omega) (by omega) kd_Model_141 ?_
  clear hS; intro H locs hS
  replace hS := kS_sh1 hS
  refine lv_dup hx hb kd_Model_142 rfl ?_
  refine lv_iconst hx hb kd_Model_143 rfl ?_
  refine lv_iconst hx hb kd_Model_144 rfl ?_
  refine kr_iast hx hb hE.1 (t0 := 0) rfl hS (kU_at _ _ _) 5 rfl (by omega) (by omega) kd_Model_145 ?_
  clear hS; intro H locs hS
  replace hS := kS_sh1 hS
  refine kr_putF hx hb hown hts hE.1 hin 10 15 (by omega) (Nat.le_of_ble_eq_true rfl) rfl (hts _ kw_703) rfl hS (Eq.trans (kU_ne (by omega)) (kU_at _ _ _)) (Nat.le_of_ble_eq_true rfl) rfl rfl kd_Model_146 ?_
  clear hS; intro H locs hS
  replace hS := kS_re (kS_sh2 hS) (fs' := [.int 0, .int 0, .int 0, .ref (n), .ref (n + 1), .ref (n + 2), .ref (n + 3), .ref (n + 4), .ref (n + 5), .ref (n + 6), .ref (n + 7), .ref (n + 8), .ref (n + 9), .ref (n + 10), .ref (n + 11), .ref (n + 12), .int 0, .null, .int 0, .int 0, .null, .null, .null, .null, .null, .null, .null, .null, .null, .null, .null, .null, .null, .int 0, .null, .null, .null, .int 0, .int 0]) rfl
  refine lv_aload_n hx hb kd_Model_149 rfl (lv_at hl 0 rfl) ?_
  refine lv_iconst hx hb kd_Model_150 rfl ?_
  refine kr_put hx hb hown hts hE.1 10 16 (by omega) (Nat.le_of_ble_eq_true rfl) (hts _ kw_704) rfl hS (kU_at _ _ _) (Nat.le_of_ble_eq_true rfl) rfl rfl kd_Model_151 ?_
  clear hS; intro H locs hS
  replace hS := kS_re (kS_sh1 hS) (fs' := [.int 0, .int 0, .int 0, .ref (n), .ref (n + 1), .ref (n + 2), .ref (n + 3), .ref (n + 4), .ref (n + 5), .ref (n + 6), .ref (n + 7), .ref (n + 8), .ref (n + 9), .ref (n + 10), .ref (n + 11), .ref (n + 12), .int 1, .null, .int 0, .int 0, .null, .null, .null, .null, .null, .null, .null, .null, .null, .null, .null, .null, .null, .int 0, .null, .null, .null, .int 0, .int 0]) rfl
  refine lv_aload_n hx hb kd_Model_154 rfl (lv_at hl 0 rfl) ?_
  refine lv_bipush hx hb kd_Model_155 rfl ?_
  refine kr_newi hx hb (hts _ kw_71) hE.1 (t0 := 0) rfl hS 12 rfl (by omega) (by omega) (by omega) kd_Model_157 ?_
  clear hS; intro H hS
  refine kr_putF hx hb hown hts hE.1 hin 10 17 (by omega) (Nat.le_of_ble_eq_true rfl) rfl (hts _ kw_705) rfl hS (Eq.trans (kU_ne (by omega)) (kU_at _ _ _)) (Nat.le_of_ble_eq_true rfl) rfl rfl kd_Model_159 ?_
  clear hS; intro H locs hS
  replace hS := kS_re (kS_sh2 hS) (fs' := [.int 0, .int 0, .int 0, .ref (n), .ref (n + 1), .ref (n + 2), .ref (n + 3), .ref (n + 4), .ref (n + 5), .ref (n + 6), .ref (n + 7), .ref (n + 8), .ref (n + 9), .ref (n + 10), .ref (n + 11), .ref (n + 12), .int 1, .ref (n + 13), .int 0, .int 0, .null, .null, .null, .null, .null, .null, .null, .null, .null, .null, .null, .null, .null, .int 0, .null, .null, .null, .int 0, .int 0]) rfl
  refine lv_aload_n hx hb kd_Model_162 rfl (lv_at hl 0 rfl) ?_
  refine lv_iconst hx hb kd_Model_163 rfl ?_
  refine kr_put hx hb hown hts hE.1 10 18 (by omega) (Nat.le_of_ble_eq_true rfl) (hts _ kw_706) rfl hS (kU_at _ _ _) (Nat.le_of_ble_eq_true rfl) rfl rfl kd_Model_164 ?_
  clear hS; intro H locs hS
  replace hS := kS_re (kS_sh1 hS) (fs' := [.int 0, .int 0, .int 0, .ref (n), .ref (n + 1), .ref (n + 2), .ref (n + 3), .ref (n + 4), .ref (n + 5), .ref (n + 6), .ref (n + 7), .ref (n + 8), .ref (n + 9), .ref (n + 10), .ref (n + 11), .ref (n + 12), .int 1, .ref (n + 13), .int 1, .int 0, .null, .null, .null, .null, .null, .null, .null, .null, .null, .null, .null, .null, .null, .int 0, .null, .null, .null, .int 0, .int 0]) rfl
  refine lv_aload_n hx hb kd_Model_167 rfl (lv_at hl 0 rfl) ?_
  refine lv_iconst hx hb kd_Model_168 rfl ?_
  refine kr_put hx hb hown hts hE.1 10 19 (by omega) (Nat.le_of_ble_eq_true rfl) (hts _ kw_707) rfl hS (kU_at _ _ _) (Nat.le_of_ble_eq_true rfl) rfl rfl kd_Model_169 ?_
  clear hS; intro H locs hS
  replace hS := kS_re (kS_sh1 hS) (fs' := [.int 0, .int 0, .int 0, .ref (n), .ref (n + 1), .ref (n + 2), .ref (n + 3), .ref (n + 4), .ref (n + 5), .ref (n + 6), .ref (n + 7), .ref (n + 8), .ref (n + 9), .ref (n + 10), .ref (n + 11), .ref (n + 12), .int 1, .ref (n + 13), .int 1, .int 0, .null, .null, .null, .null, .null, .null, .null, .null, .null, .null, .null, .null, .null, .int 0, .null, .null, .null, .int 0, .int 0]) rfl
  refine lv_aload_n hx hb kd_Model_172 rfl (lv_at hl 0 rfl) ?_
  refine lv_bipush hx hb kd_Model_173 rfl ?_
  refine kr_newi hx hb (hts _ kw_71) hE.1 (t0 := 0) rfl hS 8 rfl (by omega) (by omega) (by omega) kd_Model_175 ?_
  clear hS; intro H hS
  refine kr_putF hx hb hown hts hE.1 hin 10 20 (by omega) (Nat.le_of_ble_eq_true rfl) rfl (hts _ kw_708) rfl hS (Eq.trans (kU_ne (by omega)) (kU_at _ _ _)) (Nat.le_of_ble_eq_true rfl) rfl rfl kd_Model_177 ?_
  clear hS; intro H locs hS
  replace hS := kS_re (kS_sh2 hS) (fs' := [.int 0, .int 0, .int 0, .ref (n), .ref (n + 1), .ref (n + 2), .ref (n + 3), .ref (n + 4), .ref (n + 5), .ref (n + 6), .ref (n + 7), .ref (n + 8), .ref (n + 9), .ref (n + 10), .ref (n + 11), .ref (n + 12), .int 1, .ref (n + 13), .int 1, .int 0, .ref (n + 14), .null, .null, .null, .null, .null, .null, .null, .null, .null, .null, .null, .null, .int 0, .null, .null, .null, .int 0, .int 0]) rfl
  refine lv_aload_n hx hb kd_Model_180 rfl (lv_at hl 0 rfl) ?_
  refine lv_bipush hx hb kd_Model_181 rfl ?_
  refine kr_newi hx hb (hts _ kw_71) hE.1 (t0 := 0) rfl hS 8 rfl (by omega) (by omega) (by omega) kd_Model_183 ?_
  clear hS; intro H hS
  refine kr_putF hx hb hown hts hE.1 hin 10 21 (by omega) (Nat.le_of_ble_eq_true rfl) rfl (hts _ kw_709) rfl hS (Eq.trans (kU_ne (by omega)) (kU_at _ _ _)) (Nat.le_of_ble_eq_true rfl) rfl rfl kd_Model_185 ?_
  clear hS; intro H locs hS
  replace hS := kS_re (kS_sh2 hS) (fs' := [.int 0, .int 0, .int 0, .ref (n), .ref (n + 1), .ref (n + 2), .ref (n + 3), .ref (n + 4), .ref (n + 5), .ref (n + 6), .ref (n + 7), .ref (n + 8), .ref (n + 9), .ref (n + 10), .ref (n + 11), .ref (n + 12), .int 1, .ref (n + 13), .int 1, .int 0, .ref (n + 14), .ref (n + 15), .null, .null, .null, .null, .null, .null, .null, .null, .null, .null, .null, .int 0, .null, .null, .null, .int 0, .int 0]) rfl
  refine lv_aload_n hx hb kd_Model_188 rfl (lv_at hl 0 rfl) ?_
  refine lv_sipush hx hb kd_Model_189 rfl ?_
  refine kr_newi hx hb (hts _ kw_71) hE.1 (t0 := 0) rfl hS 384 rfl (by omega) (by omega) (by omega) kd_Model_192 ?_
  clear hS; intro H hS
  refine kr_putF hx hb hown hts hE.1 hin 10 22 (by omega) (Nat.le_of_ble_eq_true rfl) rfl (hts _ kw_710) rfl hS (Eq.trans (kU_ne (by omega)) (kU_at _ _ _)) (Nat.le_of_ble_eq_true rfl) rfl rfl kd_Model_194 ?_
  clear hS; intro H locs hS
  replace hS := kS_re (kS_sh2 hS) (fs' := [.int 0, .int 0, .int 0, .ref (n), .ref (n + 1), .ref (n + 2), .ref (n + 3), .ref (n + 4), .ref (n + 5), .ref (n + 6), .ref (n + 7), .ref (n + 8), .ref (n + 9), .ref (n + 10), .ref (n + 11), .ref (n + 12), .int 1, .ref (n + 13), .int 1, .int 0, .ref (n + 14), .ref (n + 15), .ref (n + 16), .null, .null, .null, .null, .null, .null, .null, .null, .null, .null, .int 0, .null, .null, .null, .int 0, .int 0]) rfl
  refine lv_aload_n hx hb kd_Model_197 rfl (lv_at hl 0 rfl) ?_
  refine lv_bipush hx hb kd_Model_198 rfl ?_
  refine kr_newi hx hb (hts _ kw_71) hE.1 (t0 := 0) rfl hS 48 rfl (by omega) (by omega) (by omega) kd_Model_200 ?_
  clear hS; intro H hS
  refine kr_putF hx hb hown hts hE.1 hin 10 23 (by omega) (Nat.le_of_ble_eq_true rfl) rfl (hts _ kw_711) rfl hS (Eq.trans (kU_ne (by omega)) (kU_at _ _ _)) (Nat.le_of_ble_eq_true rfl) rfl rfl kd_Model_202 ?_
  clear hS; intro H locs hS
  replace hS := kS_re (kS_sh2 hS) (fs' := [.int 0, .int 0, .int 0, .ref (n), .ref (n + 1), .ref (n + 2), .ref (n + 3), .ref (n + 4), .ref (n + 5), .ref (n + 6), .ref (n + 7), .ref (n + 8), .ref (n + 9), .ref (n + 10), .ref (n + 11), .ref (n + 12), .int 1, .ref (n + 13), .int 1, .int 0, .ref (n + 14), .ref (n + 15), .ref (n + 16), .ref (n + 17), .null, .null, .null, .null, .null, .null, .null, .null, .null, .int 0, .null, .null, .null, .int 0, .int 0]) rfl
  refine lv_aload_n hx hb kd_Model_205 rfl (lv_at hl 0 rfl) ?_
  refine lv_bipush hx hb kd_Model_206 rfl ?_
  refine kr_newi hx hb (hts _ kw_71) hE.1 (t0 := 0) rfl hS 48 rfl (by omega) (by omega) (by omega) kd_Model_208 ?_
  clear hS; intro H hS
  refine kr_putF hx hb hown hts hE.1 hin 10 24 (by omega) (Nat.le_of_ble_eq_true rfl) rfl (hts _ kw_712) rfl hS (Eq.trans (kU_ne (by omega)) (kU_at _ _ _)) (Nat.le_of_ble_eq_true rfl) rfl rfl kd_Model_210 ?_
  clear hS; intro H locs hS
  replace hS := kS_re (kS_sh2 hS) (fs' := [.int 0, .int 0, .int 0, .ref (n), .ref (n + 1), .ref (n + 2), .ref (n + 3), .ref (n + 4), .ref (n + 5), .ref (n + 6), .ref (n + 7), .ref (n + 8), .ref (n + 9), .ref (n + 10), .ref (n + 11), .ref (n + 12), .int 1, .ref (n + 13), .int 1, .int 0, .ref (n + 14), .ref (n + 15), .ref (n + 16), .ref (n + 17), .ref (n + 18), .null, .null, .null, .null, .null, .null, .null, .null, .int 0, .null, .null, .null, .int 0, .int 0]) rfl
  refine lv_aload_n hx hb kd_Model_213 rfl (lv_at hl 0 rfl) ?_
  refine lv_bipush hx hb kd_Model_214 rfl ?_
  refine kr_newi hx hb (hts _ kw_71) hE.1 (t0 := 0) rfl hS 48 rfl (by omega) (by omega) (by omega) kd_Model_216 ?_
  clear hS; intro H hS
  refine kr_putF hx hb hown hts hE.1 hin 10 25 (by omega) (Nat.le_of_ble_eq_true rfl) rfl (hts _ kw_713) rfl hS (Eq.trans (kU_ne (by omega)) (kU_at _ _ _)) (Nat.le_of_ble_eq_true rfl) rfl rfl kd_Model_218 ?_
  clear hS; intro H locs hS
  replace hS := kS_re (kS_sh2 hS) (fs' := [.int 0, .int 0, .int 0, .ref (n), .ref (n + 1), .ref (n + 2), .ref (n + 3), .ref (n + 4), .ref (n + 5), .ref (n + 6), .ref (n + 7), .ref (n + 8), .ref (n + 9), .ref (n + 10), .ref (n + 11), .ref (n + 12), .int 1, .ref (n + 13), .int 1, .int 0, .ref (n + 14), .ref (n + 15), .ref (n + 16), .ref (n + 17), .ref (n + 18), .ref (n + 19), .null, .null, .null, .null, .null, .null, .null, .int 0, .null, .null, .null, .int 0, .int 0]) rfl
  refine lv_aload_n hx hb kd_Model_221 rfl (lv_at hl 0 rfl) ?_
  refine lv_bipush hx hb kd_Model_222 rfl ?_
  refine kr_newi hx hb (hts _ kw_71) hE.1 (t0 := 0) rfl hS 48 rfl (by omega) (by omega) (by omega) kd_Model_224 ?_
  clear hS; intro H hS
  refine kr_putF hx hb hown hts hE.1 hin 10 26 (by omega) (Nat.le_of_ble_eq_true rfl) rfl (hts _ kw_714) rfl hS (Eq.trans (kU_ne (by omega)) (kU_at _ _ _)) (Nat.le_of_ble_eq_true rfl) rfl rfl kd_Model_226 ?_
  clear hS; intro H locs hS
  replace hS := kS_re (kS_sh2 hS) (fs' := [.int 0, .int 0, .int 0, .ref (n), .ref (n + 1), .ref (n + 2), .ref (n + 3), .ref (n + 4), .ref (n + 5), .ref (n + 6), .ref (n + 7), .ref (n + 8), .ref (n + 9), .ref (n + 10), .ref (n + 11), .ref (n + 12), .int 1, .ref (n + 13), .int 1, .int 0, .ref (n + 14), .ref (n + 15), .ref (n + 16), .ref (n + 17), .ref (n + 18), .ref (n + 19), .ref (n + 20), .null, .null, .null, .null, .null, .null, .int 0, .null, .null, .null, .int 0, .int 0]) rfl
  refine lv_aload_n hx hb kd_Model_229 rfl (lv_at hl 0 rfl) ?_
  refine lv_bipush hx hb kd_Model_230 rfl ?_
  refine kr_newi hx hb (hts _ kw_71) hE.1 (t0 := 0) rfl hS 48 rfl (by omega) (by omega) (by omega) kd_Model_232 ?_
  clear hS; intro H hS
  refine kr_putF hx hb hown hts hE.1 hin 10 27 (by omega) (Nat.le_of_ble_eq_true rfl) rfl (hts _ kw_715) rfl hS (Eq.trans (kU_ne (by omega)) (kU_at _ _ _)) (Nat.le_of_ble_eq_true rfl) rfl rfl kd_Model_234 ?_
  clear hS; intro H locs hS
  replace hS := kS_re (kS_sh2 hS) (fs' := [.int 0, .int 0, .int 0, .ref (n), .ref (n + 1), .ref (n + 2), .ref (n + 3), .ref (n + 4), .ref (n + 5), .ref (n + 6), .ref (n + 7), .ref (n + 8), .ref (n + 9), .ref (n + 10), .ref (n + 11), .ref (n + 12), .int 1, .ref (n + 13), .int 1, .int 0, .ref (n + 14), .ref (n + 15), .ref (n + 16), .ref (n + 17), .ref (n + 18), .ref (n + 19), .ref (n + 20), .ref (n + 21), .null, .null, .null, .null, .null, .int 0, .null, .null, .null, .int 0, .int 0]) rfl
  refine lv_aload_n hx hb kd_Model_237 rfl (lv_at hl 0 rfl) ?_
  refine lv_bipush hx hb kd_Model_238 rfl ?_
  refine kr_newi hx hb (hts _ kw_71) hE.1 (t0 := 0) rfl hS 48 rfl (by omega) (by omega) (by omega) kd_Model_240 ?_
  clear hS; intro H hS
  refine kr_putF hx hb hown hts hE.1 hin 10 28 (by omega) (Nat.le_of_ble_eq_true rfl) rfl (hts _ kw_716) rfl hS (Eq.trans (kU_ne (by omega)) (kU_at _ _ _)) (Nat.le_of_ble_eq_true rfl) rfl rfl kd_Model_242 ?_
  clear hS; intro H locs hS
  replace hS := kS_re (kS_sh2 hS) (fs' := [.int 0, .int 0, .int 0, .ref (n), .ref (n + 1), .ref (n + 2), .ref (n + 3), .ref (n + 4), .ref (n + 5), .ref (n + 6), .ref (n + 7), .ref (n + 8), .ref (n + 9), .ref (n + 10), .ref (n + 11), .ref (n + 12), .int 1, .ref (n + 13), .int 1, .int 0, .ref (n + 14), .ref (n + 15), .ref (n + 16), .ref (n + 17), .ref (n + 18), .ref (n + 19), .ref (n + 20), .ref (n + 21), .ref (n + 22), .null, .null, .null, .null, .int 0, .null, .null, .null, .int 0, .int 0]) rfl
  refine lv_aload_n hx hb kd_Model_245 rfl (lv_at hl 0 rfl) ?_
  refine lv_bipush hx hb kd_Model_246 rfl ?_
  refine kr_newi hx hb (hts _ kw_71) hE.1 (t0 := 0) rfl hS 48 rfl (by omega) (by omega) (by omega) kd_Model_248 ?_
  clear hS; intro H hS
  refine kr_putF hx hb hown hts hE.1 hin 10 29 (by omega) (Nat.le_of_ble_eq_true rfl) rfl (hts _ kw_717) rfl hS (Eq.trans (kU_ne (by omega)) (kU_at _ _ _)) (Nat.le_of_ble_eq_true rfl) rfl rfl kd_Model_250 ?_
  clear hS; intro H locs hS
  replace hS := kS_re (kS_sh2 hS) (fs' := [.int 0, .int 0, .int 0, .ref (n), .ref (n + 1), .ref (n + 2), .ref (n + 3), .ref (n + 4), .ref (n + 5), .ref (n + 6), .ref (n + 7), .ref (n + 8), .ref (n + 9), .ref (n + 10), .ref (n + 11), .ref (n + 12), .int 1, .ref (n + 13), .int 1, .int 0, .ref (n + 14), .ref (n + 15), .ref (n + 16), .ref (n + 17), .ref (n + 18), .ref (n + 19), .ref (n + 20), .ref (n + 21), .ref (n + 22), .ref (n + 23), .null, .null, .null, .int 0, .null, .null, .null, .int 0, .int 0]) rfl
  refine lv_aload_n hx hb kd_Model_253 rfl (lv_at hl 0 rfl) ?_
  refine lv_bipush hx hb kd_Model_254 rfl ?_
  refine kr_newi hx hb (hts _ kw_71) hE.1 (t0 := 0) rfl hS 48 rfl (by omega) (by omega) (by omega) kd_Model_256 ?_
  clear hS; intro H hS
  refine kr_putF hx hb hown hts hE.1 hin 10 30 (by omega) (Nat.le_of_ble_eq_true rfl) rfl (hts _ kw_718) rfl hS (Eq.trans (kU_ne (by omega)) (kU_at _ _ _)) (Nat.le_of_ble_eq_true rfl) rfl rfl kd_Model_258 ?_
  clear hS; intro H locs hS
  replace hS := kS_re (kS_sh2 hS) (fs' := [.int 0, .int 0, .int 0, .ref (n), .ref (n + 1), .ref (n + 2), .ref (n + 3), .ref (n + 4), .ref (n + 5), .ref (n + 6), .ref (n + 7), .ref (n + 8), .ref (n + 9), .ref (n + 10), .ref (n + 11), .ref (n + 12), .int 1, .ref (n + 13), .int 1, .int 0, .ref (n + 14), .ref (n + 15), .ref (n + 16), .ref (n + 17), .ref (n + 18), .ref (n + 19), .ref (n + 20), .ref (n + 21), .ref (n + 22), .ref (n + 23), .ref (n + 24), .null, .null, .int 0, .null, .null, .null, .int 0, .int 0]) rfl
  refine lv_aload_n hx hb kd_Model_261 rfl (lv_at hl 0 rfl) ?_
  refine lv_bipush hx hb kd_Model_262 rfl ?_
  refine kr_newb hx hb (hts _ kw_214) hE.1 (t0 := 1) rfl hS 48 rfl (by omega) (by omega) (by omega) kd_Model_264 ?_
  clear hS; intro H hS
  refine kr_putF hx hb hown hts hE.1 hin 10 31 (by omega) (Nat.le_of_ble_eq_true rfl) rfl (hts _ kw_719) rfl hS (Eq.trans (kU_ne (by omega)) (kU_at _ _ _)) (Nat.le_of_ble_eq_true rfl) rfl rfl kd_Model_266 ?_
  clear hS; intro H locs hS
  replace hS := kS_re (kS_sh2 hS) (fs' := [.int 0, .int 0, .int 0, .ref (n), .ref (n + 1), .ref (n + 2), .ref (n + 3), .ref (n + 4), .ref (n + 5), .ref (n + 6), .ref (n + 7), .ref (n + 8), .ref (n + 9), .ref (n + 10), .ref (n + 11), .ref (n + 12), .int 1, .ref (n + 13), .int 1, .int 0, .ref (n + 14), .ref (n + 15), .ref (n + 16), .ref (n + 17), .ref (n + 18), .ref (n + 19), .ref (n + 20), .ref (n + 21), .ref (n + 22), .ref (n + 23), .ref (n + 24), .ref (n + 25), .null, .int 0, .null, .null, .null, .int 0, .int 0]) rfl
  refine lv_aload_n hx hb kd_Model_269 rfl (lv_at hl 0 rfl) ?_
  refine lv_bipush hx hb kd_Model_270 rfl ?_
  refine kr_newi hx hb (hts _ kw_71) hE.1 (t0 := 0) rfl hS 32 rfl (by omega) (by omega) (by omega) kd_Model_272 ?_
  clear hS; intro H hS
  refine kr_putF hx hb hown hts hE.1 hin 10 32 (by omega) (Nat.le_of_ble_eq_true rfl) rfl (hts _ kw_720) rfl hS (Eq.trans (kU_ne (by omega)) (kU_at _ _ _)) (Nat.le_of_ble_eq_true rfl) rfl rfl kd_Model_274 ?_
  clear hS; intro H locs hS
  replace hS := kS_re (kS_sh2 hS) (fs' := [.int 0, .int 0, .int 0, .ref (n), .ref (n + 1), .ref (n + 2), .ref (n + 3), .ref (n + 4), .ref (n + 5), .ref (n + 6), .ref (n + 7), .ref (n + 8), .ref (n + 9), .ref (n + 10), .ref (n + 11), .ref (n + 12), .int 1, .ref (n + 13), .int 1, .int 0, .ref (n + 14), .ref (n + 15), .ref (n + 16), .ref (n + 17), .ref (n + 18), .ref (n + 19), .ref (n + 20), .ref (n + 21), .ref (n + 22), .ref (n + 23), .ref (n + 24), .ref (n + 25), .ref (n + 26), .int 0, .null, .null, .null, .int 0, .int 0]) rfl
  refine lv_aload_n hx hb kd_Model_277 rfl (lv_at hl 0 rfl) ?_
  refine lv_iconst hx hb kd_Model_278 rfl ?_
  refine kr_put hx hb hown hts hE.1 10 33 (by omega) (Nat.le_of_ble_eq_true rfl) (hts _ kw_721) rfl hS (kU_at _ _ _) (Nat.le_of_ble_eq_true rfl) rfl rfl kd_Model_279 ?_
  clear hS; intro H locs hS
  replace hS := kS_re (kS_sh1 hS) (fs' := [.int 0, .int 0, .int 0, .ref (n), .ref (n + 1), .ref (n + 2), .ref (n + 3), .ref (n + 4), .ref (n + 5), .ref (n + 6), .ref (n + 7), .ref (n + 8), .ref (n + 9), .ref (n + 10), .ref (n + 11), .ref (n + 12), .int 1, .ref (n + 13), .int 1, .int 0, .ref (n + 14), .ref (n + 15), .ref (n + 16), .ref (n + 17), .ref (n + 18), .ref (n + 19), .ref (n + 20), .ref (n + 21), .ref (n + 22), .ref (n + 23), .ref (n + 24), .ref (n + 25), .ref (n + 26), .int 0, .null, .null, .null, .int 0, .int 0]) rfl
  refine lv_aload_n hx hb kd_Model_282 rfl (lv_at hl 0 rfl) ?_
  refine lv_iconst hx hb kd_Model_283 rfl ?_
  refine kr_newi hx hb (hts _ kw_71) hE.1 (t0 := 0) rfl hS 5 rfl (by omega) (by omega) (by omega) kd_Model_284 ?_
  clear hS; intro H hS
  refine kr_putF hx hb hown hts hE.1 hin 10 34 (by omega) (Nat.le_of_ble_eq_true rfl) rfl (hts _ kw_722) rfl hS (Eq.trans (kU_ne (by omega)) (kU_at _ _ _)) (Nat.le_of_ble_eq_true rfl) rfl rfl kd_Model_286 ?_
  clear hS; intro H locs hS
  replace hS := kS_re (kS_sh2 hS) (fs' := [.int 0, .int 0, .int 0, .ref (n), .ref (n + 1), .ref (n + 2), .ref (n + 3), .ref (n + 4), .ref (n + 5), .ref (n + 6), .ref (n + 7), .ref (n + 8), .ref (n + 9), .ref (n + 10), .ref (n + 11), .ref (n + 12), .int 1, .ref (n + 13), .int 1, .int 0, .ref (n + 14), .ref (n + 15), .ref (n + 16), .ref (n + 17), .ref (n + 18), .ref (n + 19), .ref (n + 20), .ref (n + 21), .ref (n + 22), .ref (n + 23), .ref (n + 24), .ref (n + 25), .ref (n + 26), .int 0, .ref (n + 27), .null, .null, .int 0, .int 0]) rfl
  refine lv_aload_n hx hb kd_Model_289 rfl (lv_at hl 0 rfl) ?_
  refine lv_iconst hx hb kd_Model_290 rfl ?_
  refine kr_newi hx hb (hts _ kw_71) hE.1 (t0 := 0) rfl hS 5 rfl (by omega) (by omega) (by omega) kd_Model_291 ?_
  clear hS; intro H hS
  refine kr_putF hx hb hown hts hE.1 hin 10 35 (by omega) (Nat.le_of_ble_eq_true rfl) rfl (hts _ kw_723) rfl hS (Eq.trans (kU_ne (by omega)) (kU_at _ _ _)) (Nat.le_of_ble_eq_true rfl) rfl rfl kd_Model_293 ?_
  clear hS; intro H locs hS
  replace hS := kS_re (kS_sh2 hS) (fs' := [.int 0, .int 0, .int 0, .ref (n), .ref (n + 1), .ref (n + 2), .ref (n + 3), .ref (n + 4), .ref (n + 5), .ref (n + 6), .ref (n + 7), .ref (n + 8), .ref (n + 9), .ref (n + 10), .ref (n + 11), .ref (n + 12), .int 1, .ref (n + 13), .int 1, .int 0, .ref (n + 14), .ref (n + 15), .ref (n + 16), .ref (n + 17), .ref (n + 18), .ref (n + 19), .ref (n + 20), .ref (n + 21), .ref (n + 22), .ref (n + 23), .ref (n + 24), .ref (n + 25), .ref (n + 26), .int 0, .ref (n + 27), .ref (n + 28), .null, .int 0, .int 0]) rfl
  refine lv_aload_n hx hb kd_Model_296 rfl (lv_at hl 0 rfl) ?_
  refine lv_iconst hx hb kd_Model_297 rfl ?_
  refine kr_newi hx hb (hts _ kw_71) hE.1 (t0 := 0) rfl hS 5 rfl (by omega) (by omega) (by omega) kd_Model_298 ?_
  clear hS; intro H hS
  refine kr_putF hx hb hown hts hE.1 hin 10 36 (by omega) (Nat.le_of_ble_eq_true rfl) rfl (hts _ kw_724) rfl hS (Eq.trans (kU_ne (by omega)) (kU_at _ _ _)) (Nat.le_of_ble_eq_true rfl) rfl rfl kd_Model_300 ?_
  clear hS; intro H locs hS
  replace hS := kS_re (kS_sh2 hS) (fs' := [.int 0, .int 0, .int 0, .ref (n), .ref (n + 1), .ref (n + 2), .ref (n + 3), .ref (n + 4), .ref (n + 5), .ref (n + 6), .ref (n + 7), .ref (n + 8), .ref (n + 9), .ref (n + 10), .ref (n + 11), .ref (n + 12), .int 1, .ref (n + 13), .int 1, .int 0, .ref (n + 14), .ref (n + 15), .ref (n + 16), .ref (n + 17), .ref (n + 18), .ref (n + 19), .ref (n + 20), .ref (n + 21), .ref (n + 22), .ref (n + 23), .ref (n + 24), .ref (n + 25), .ref (n + 26), .int 0, .ref (n + 27), .ref (n + 28), .ref (n + 29), .int 0, .int 0]) rfl
  refine lv_aload_n hx hb kd_Model_303 rfl (lv_at hl 0 rfl) ?_
  refine lv_iconst hx hb kd_Model_304 rfl ?_
  refine kr_put hx hb hown hts hE.1 10 37 (by omega) (Nat.le_of_ble_eq_true rfl) (hts _ kw_725) rfl hS (kU_at _ _ _) (Nat.le_of_ble_eq_true rfl) rfl rfl kd_Model_305 ?_
  clear hS; intro H locs hS
  replace hS := kS_re (kS_sh1 hS) (fs' := [.int 0, .int 0, .int 0, .ref (n), .ref (n + 1), .ref (n + 2), .ref (n + 3), .ref (n + 4), .ref (n + 5), .ref (n + 6), .ref (n + 7), .ref (n + 8), .ref (n + 9), .ref (n + 10), .ref (n + 11), .ref (n + 12), .int 1, .ref (n + 13), .int 1, .int 0, .ref (n + 14), .ref (n + 15), .ref (n + 16), .ref (n + 17), .ref (n + 18), .ref (n + 19), .ref (n + 20), .ref (n + 21), .ref (n + 22), .ref (n + 23), .ref (n + 24), .ref (n + 25), .ref (n + 26), .int 0, .ref (n + 27), .ref (n + 28), .ref (n + 29), .int 0, .int 0]) rfl
  refine lv_aload_n hx hb kd_Model_308 rfl (lv_at hl 0 rfl) ?_
  refine lv_iconst hx hb kd_Model_309 rfl ?_
  refine kr_put hx hb hown hts hE.1 10 38 (by omega) (Nat.le_of_ble_eq_true rfl) (hts _ kw_726) rfl hS (kU_at _ _ _) (Nat.le_of_ble_eq_true rfl) rfl rfl kd_Model_310 ?_
  clear hS; intro H locs hS
  replace hS := kS_re (kS_sh1 hS) (fs' := [.int 0, .int 0, .int 0, .ref (n), .ref (n + 1), .ref (n + 2), .ref (n + 3), .ref (n + 4), .ref (n + 5), .ref (n + 6), .ref (n + 7), .ref (n + 8), .ref (n + 9), .ref (n + 10), .ref (n + 11), .ref (n + 12), .int 1, .ref (n + 13), .int 1, .int 0, .ref (n + 14), .ref (n + 15), .ref (n + 16), .ref (n + 17), .ref (n + 18), .ref (n + 19), .ref (n + 20), .ref (n + 21), .ref (n + 22), .ref (n + 23), .ref (n + 24), .ref (n + 25), .ref (n + 26), .int 0, .ref (n + 27), .ref (n + 28), .ref (n + 29), .int 0, .int 0]) rfl
  refine fin _ _ _ _ _ hS (fun a x q => ?_) kd_Model_313
  unfold kF_Model at q
  by_cases c0 : a = h0
  · rw [if_pos c0] at q; rw [c0, ← q]; exact (kU_at _ _ _)
  rw [if_neg c0] at q
  by_cases c1 : a = n
  · rw [if_pos c1] at q; rw [c1, ← q]; exact (Eq.trans (kU_ne (by omega)) (Eq.trans (kU_ne (by omega)) (Eq.trans (kU_ne (by omega)) (Eq.trans (kU_ne (by omega)) (Eq.trans (kU_ne (by omega)) (Eq.trans (kU_ne (by omega)) (Eq.trans (kU_ne (by omega)) (Eq.trans (kU_ne (by omega)) (Eq.trans (kU_ne (by omega)) (Eq.trans (kU_ne (by omega)) (Eq.trans (kU_ne (by omega)) (Eq.trans (kU_ne (by omega)) (Eq.trans (kU_ne (by omega)) (Eq.trans (kU_ne (by omega)) (Eq.trans (kU_ne (by omega)) (Eq.trans (kU_ne (by omega)) (Eq.trans (kU_ne (by omega)) (Eq.trans (kU_ne (by omega)) (Eq.trans (kU_ne (by omega)) (Eq.trans (kU_ne (by omega)) (Eq.trans (kU_ne (by omega)) (Eq.trans (kU_ne (by omega)) (Eq.trans (kU_ne (by omega)) (Eq.trans (kU_ne (by omega)) (Eq.trans (kU_ne (by omega)) (Eq.trans (kU_ne (by omega)) (Eq.trans (kU_ne (by omega)) (Eq.trans (kU_ne (by omega)) (Eq.trans (kU_ne (by omega)) (Eq.trans (kU_ne (by omega)) (kU_at _ _ _)))))))))))))))))))))))))))))))
  rw [if_neg c1] at q
  by_cases c2 : a = n + 1
  · rw [if_pos c2] at q; rw [c2, ← q]; exact (Eq.trans (kU_ne (by omega)) (Eq.trans (kU_ne (by omega)) (Eq.trans (kU_ne (by omega)) (Eq.trans (kU_ne (by omega)) (Eq.trans (kU_ne (by omega)) (Eq.trans (kU_ne (by omega)) (Eq.trans (kU_ne (by omega)) (Eq.trans (kU_ne (by omega)) (Eq.trans (kU_ne (by omega)) (Eq.trans (kU_ne (by omega)) (Eq.trans (kU_ne (by omega)) (Eq.trans (kU_ne (by omega)) (Eq.trans (kU_ne (by omega)) (Eq.trans (kU_ne (by omega)) (Eq.trans (kU_ne (by omega)) (Eq.trans (kU_ne (by omega)) (Eq.trans (kU_ne (by omega)) (Eq.trans (kU_ne (by omega)) (Eq.trans (kU_ne (by omega)) (Eq.trans (kU_ne (by omega)) (Eq.trans (kU_ne (by omega)) (Eq.trans (kU_ne (by omega)) (Eq.trans (kU_ne (by omega)) (Eq.trans (kU_ne (by omega)) (Eq.trans (kU_ne (by omega)) (Eq.trans (kU_ne (by omega)) (Eq.trans (kU_ne (by omega)) (Eq.trans (kU_ne (by omega)) (Eq.trans (kU_ne (by omega)) (kU_at _ _ _))))))))))))))))))))))))))))))
  rw [if_neg c2] at q
  by_cases c3 : a = n + 2
  · rw [if_pos c3] at q; rw [c3, ← q]; exact (Eq.trans (kU_ne (by omega)) (Eq.trans (kU_ne (by omega)) (Eq.trans (kU_ne (by omega)) (Eq.trans (kU_ne (by omega)) (Eq.trans (kU_ne (by omega)) (Eq.trans (kU_ne (by omega)) (Eq.trans (kU_ne (by omega)) (Eq.trans (kU_ne (by omega)) (Eq.trans (kU_ne (by omega)) (Eq.trans (kU_ne (by omega)) (Eq.trans (kU_ne (by omega)) (Eq.trans (kU_ne (by omega)) (Eq.trans (kU_ne (by omega)) (Eq.trans (kU_ne (by omega)) (Eq.trans (kU_ne (by omega)) (Eq.trans (kU_ne (by omega)) (Eq.trans (kU_ne (by omega)) (Eq.trans (kU_ne (by omega)) (Eq.trans (kU_ne (by omega)) (Eq.trans (kU_ne (by omega)) (Eq.trans (kU_ne (by omega)) (Eq.trans (kU_ne (by omega)) (Eq.trans (kU_ne (by omega)) (Eq.trans (kU_ne (by omega)) (Eq.trans (kU_ne (by omega)) (Eq.trans (kU_ne (by omega)) (Eq.trans (kU_ne (by omega)) (Eq.trans (kU_ne (by omega)) (kU_at _ _ _)))))))))))))))))))))))))))))
  rw [if_neg c3] at q
  by_cases c4 : a = n + 3
  · rw [if_pos c4] at q; rw [c4, ← q]; exact (Eq.trans (kU_ne (by omega)) (Eq.trans (kU_ne (by omega)) (Eq.trans (kU_ne (by omega)) (Eq.trans (kU_ne (by omega)) (Eq.trans (kU_ne (by omega)) (Eq.trans (kU_ne (by omega)) (Eq.trans (kU_ne (by omega)) (Eq.trans (kU_ne (by omega)) (Eq.trans (kU_ne (by omega)) (Eq.trans (kU_ne (by omega)) (Eq.trans (kU_ne (by omega)) (Eq.trans (kU_ne (by omega)) (Eq.trans (kU_ne (by omega)) (Eq.trans (kU_ne (by omega)) (Eq.trans (kU_ne (by omega)) (Eq.trans (kU_ne (by omega)) (Eq.trans (kU_ne (by omega)) (Eq.trans (kU_ne (by omega)) (Eq.trans (kU_ne (by omega)) (Eq.trans (kU_ne (by omega)) (Eq.trans (kU_ne (by omega)) (Eq.trans (kU_ne (by omega)) (Eq.trans (kU_ne (by omega)) (Eq.trans (kU_ne (by omega)) (Eq.trans (kU_ne (by omega)) (Eq.trans (kU_ne (by omega)) (Eq.trans (kU_ne (by omega)) (kU_at _ _ _))))))))))))))))))))))))))))
  rw [if_neg c4] at q
  by_cases c5 : a = n + 4
  · rw [if_pos c5] at q; rw [c5, ← q]; exact (Eq.trans (kU_ne (by omega)) (Eq.trans (kU_ne (by omega)) (Eq.trans (kU_ne (by omega)) (Eq.trans (kU_ne (by omega)) (Eq.trans (kU_ne (by omega)) (Eq.trans (kU_ne (by omega)) (Eq.trans (kU_ne (by omega)) (Eq.trans (kU_ne (by omega)) (Eq.trans (kU_ne (by omega)) (Eq.trans (kU_ne (by omega)) (Eq.trans (kU_ne (by omega)) (Eq.trans (kU_ne (by omega)) (Eq.trans (kU_ne (by omega)) (Eq.trans (kU_ne (by omega)) (Eq.trans (kU_ne (by omega)) (Eq.trans (kU_ne (by omega)) (Eq.trans (kU_ne (by omega)) (Eq.trans (kU_ne (by omega)) (Eq.trans (kU_ne (by omega)) (Eq.trans (kU_ne (by omega)) (Eq.trans (kU_ne (by omega)) (Eq.trans (kU_ne (by omega)) (Eq.trans (kU_ne (by omega)) (Eq.trans (kU_ne (by omega)) (Eq.trans (kU_ne (by omega)) (Eq.trans (kU_ne (by omega)) (kU_at _ _ _)))))))))))))))))))))))))))
  rw [if_neg c5] at q
  by_cases c6 : a = n + 5
  · rw [if_pos c6] at q; rw [c6, ← q]; exact (Eq.trans (kU_ne (by omega)) (Eq.trans (kU_ne (by omega)) (Eq.trans (kU_ne (by omega)) (Eq.trans (kU_ne (by omega)) (Eq.trans (kU_ne (by omega)) (Eq.trans (kU_ne (by omega)) (Eq.trans (kU_ne (by omega)) (Eq.trans (kU_ne (by omega)) (Eq.trans (kU_ne (by omega)) (Eq.trans (kU_ne (by omega)) (Eq.trans (kU_ne (by omega)) (Eq.trans (kU_ne (by omega)) (Eq.trans (kU_ne (by omega)) (Eq.trans (kU_ne (by omega)) (Eq.trans (kU_ne (by omega)) (Eq.trans (kU_ne (by omega)) (Eq.trans (kU_ne (by omega)) (Eq.trans (kU_ne (by omega)) (Eq.trans (kU_ne (by omega)) (Eq.trans (kU_ne (by omega)) (Eq.trans (kU_ne (by omega)) (Eq.trans (kU_ne (by omega)) (Eq.trans (kU_ne (by omega)) (Eq.trans (kU_ne (by omega)) (Eq.trans (kU_ne (by omega)) (kU_at _ _ _))))))))))))))))))))))))))
  rw [if_neg c6] at q
  by_cases c7 : a = n + 6
  · rw [if_pos c7] at q; rw [c7, ← q]; exact (Eq.trans (kU_ne (by omega)) (Eq.trans (kU_ne (by omega)) (Eq.trans (kU_ne (by omega)) (Eq.trans (kU_ne (by omega)) (Eq.trans (kU_ne (by omega)) (Eq.trans (kU_ne (by omega)) (Eq.trans (kU_ne (by omega)) (Eq.trans (kU_ne (by omega)) (Eq.trans (kU_ne (by omega)) (Eq.trans (kU_ne (by omega)) (Eq.trans (kU_ne (by omega)) (Eq.trans (kU_ne (by omega)) (Eq.trans (kU_ne (by omega)) (Eq.trans (kU_ne (by omega)) (Eq.trans (kU_ne (by omega)) (Eq.trans (kU_ne (by omega)) (Eq.trans (kU_ne (by omega)) (Eq.trans (kU_ne (by omega)) (Eq.trans (kU_ne (by omega)) (Eq.trans (kU_ne (by omega)) (Eq.trans (kU_ne (by omega)) (Eq.trans (kU_ne (by omega)) (Eq.trans (kU_ne (by omega)) (Eq.trans (kU_ne (by omega)) (kU_at _ _ _)))))))))))))))))))))))))
  rw [if_neg c7] at q
  by_cases c8 : a = n + 7
  · rw [if_pos c8] at q; rw [c8, ← q]; exact (Eq.trans (kU_ne (by omega)) (Eq.trans (kU_ne (by omega)) (Eq.trans (kU_ne (by omega)) (Eq.trans (kU_ne (by omega)) (Eq.trans (kU_ne (by omega)) (Eq.trans (kU_ne (by omega)) (Eq.trans (kU_ne (by omega)) (Eq.trans (kU_ne (by omega)) (Eq.trans (kU_ne (by omega)) (Eq.trans (kU_ne (by omega)) (Eq.trans (kU_ne (by omega)) (Eq.trans (kU_ne (by omega)) (Eq.trans (kU_ne (by omega)) (Eq.trans (kU_ne (by omega)) (Eq.trans (kU_ne (by omega)) (Eq.trans (kU_ne (by omega)) (Eq.trans (kU_ne (by omega)) (Eq.trans (kU_ne (by omega)) (Eq.trans (kU_ne (by omega)) (Eq.trans (kU_ne (by omega)) (Eq.trans (kU_ne (by omega)) (Eq.trans (kU_ne (by omega)) (Eq.trans (kU_ne (by omega)) (kU_at _ _ _))))))))))))))))))))))))
  rw [if_neg c8] at q
  by_cases c9 : a = n + 8
  · rw [if_pos c9] at q; rw [c9, ← q]; exact (Eq.trans (kU_ne (by omega)) (Eq.trans (kU_ne (by omega)) (Eq.trans (kU_ne (by omega)) (Eq.trans (kU_ne (by omega)) (Eq.trans (kU_ne (by omega)) (Eq.trans (kU_ne (by omega)) (Eq.trans (kU_ne (by omega)) (Eq.trans (kU_ne (by omega)) (Eq.trans (kU_ne (by omega)) (Eq.trans (kU_ne (by omega)) (Eq.trans (kU_ne (by omega)) (Eq.trans (kU_ne (by omega)) (Eq.trans (kU_ne (by omega)) (Eq.trans (kU_ne (by omega)) (Eq.trans (kU_ne (by omega)) (Eq.trans (kU_ne (by omega)) (Eq.trans (kU_ne (by omega)) (Eq.trans (kU_ne (by omega)) (Eq.trans (kU_ne (by omega)) (Eq.trans (kU_ne (by omega)) (Eq.trans (kU_ne (by omega)) (Eq.trans (kU_ne (by omega)) (kU_at _ _ _)))))))))))))))))))))))
  rw [if_neg c9] at q
  by_cases c10 : a = n + 9
  · rw [if_pos c10] at q; rw [c10, ← q]; exact (Eq.trans (kU_ne (by omega)) (Eq.trans (kU_ne (by omega)) (Eq.trans (kU_ne (by omega)) (Eq.trans (kU_ne (by omega)) (Eq.trans (kU_ne (by omega)) (Eq.trans (kU_ne (by omega)) (Eq.trans (kU_ne (by omega)) (Eq.trans (kU_ne (by omega)) (Eq.trans (kU_ne (by omega)) (Eq.trans (kU_ne (by omega)) (Eq.trans (kU_ne (by omega)) (Eq.trans (kU_ne (by omega)) (Eq.trans (kU_ne (by omega)) (Eq.trans (kU_ne (by omega)) (Eq.trans (kU_ne (by omega)) (Eq.trans (kU_ne (by omega)) (Eq.trans (kU_ne (by omega)) (Eq.trans (kU_ne (by omega)) (Eq.trans (kU_ne (by omega)) (Eq.trans (kU_ne (by omega)) (Eq.trans (kU_ne (by omega)) (kU_at _ _ _))))))))))))))))))))))
  rw [if_neg c10] at q
  by_cases c11 : a = n + 10
  · rw [if_pos c11] at q; rw [c11, ← q]; exact (Eq.trans (kU_ne (by omega)) (Eq.trans (kU_ne (by omega)) (Eq.trans (kU_ne (by omega)) (Eq.trans (kU_ne (by omega)) (Eq.trans (kU_ne (by omega)) (Eq.trans (kU_ne (by omega)) (Eq.trans (kU_ne (by omega)) (Eq.trans (kU_ne (by omega)) (Eq.trans (kU_ne (by omega)) (Eq.trans (kU_ne (by omega)) (Eq.trans (kU_ne (by omega)) (Eq.trans (kU_ne (by omega)) (Eq.trans (kU_ne (by omega)) (Eq.trans (kU_ne (by omega)) (Eq.trans (kU_ne (by omega)) (Eq.trans (kU_ne (by omega)) (Eq.trans (kU_ne (by omega)) (Eq.trans (kU_ne (by omega)) (Eq.trans (kU_ne (by omega)) (Eq.trans (kU_ne (by omega)) (kU_at _ _ _)))))))))))))))))))))
  rw [if_neg c11] at q
  by_cases c12 : a = n + 11
  · rw [if_pos c12] at q; rw [c12, ← q]; exact (Eq.trans (kU_ne (by omega)) (Eq.trans (kU_ne (by omega)) (Eq.trans (kU_ne (by omega)) (Eq.trans (kU_ne (by omega)) (Eq.trans (kU_ne (by omega)) (Eq.trans (kU_ne (by omega)) (Eq.trans (kU_ne (by omega)) (Eq.trans (kU_ne (by omega)) (Eq.trans (kU_ne (by omega)) (Eq.trans (kU_ne (by omega)) (Eq.trans (kU_ne (by omega)) (Eq.trans (kU_ne (by omega)) (Eq.trans (kU_ne (by omega)) (Eq.trans (kU_ne (by omega)) (Eq.trans (kU_ne (by omega)) (Eq.trans (kU_ne (by omega)) (Eq.trans (kU_ne (by omega)) (Eq.trans (kU_ne (by omega)) (Eq.trans (kU_ne (by omega)) (kU_at _ _ _))))))))))))))))))))
  rw [if_neg c12] at q
  by_cases c13 : a = n + 12
  · rw [if_pos c13] at q; rw [c13, ← q]; exact (Eq.trans (kU_ne (by omega)) (Eq.trans (kU_ne (by omega)) (Eq.trans (kU_ne (by omega)) (Eq.trans (kU_ne (by omega)) (Eq.trans (kU_ne (by omega)) (Eq.trans (kU_ne (by omega)) (Eq.trans (kU_ne (by omega)) (Eq.trans (kU_ne (by omega)) (Eq.trans (kU_ne (by omega)) (Eq.trans (kU_ne (by omega)) (Eq.trans (kU_ne (by omega)) (Eq.trans (kU_ne (by omega)) (Eq.trans (kU_ne (by omega)) (Eq.trans (kU_ne (by omega)) (Eq.trans (kU_ne (by omega)) (Eq.trans (kU_ne (by omega)) (Eq.trans (kU_ne (by omega)) (Eq.trans (kU_ne (by omega)) (kU_at _ _ _)))))))))))))))))))
  rw [if_neg c13] at q
  by_cases c14 : a = n + 13
  · rw [if_pos c14] at q; rw [c14, ← q]; exact (Eq.trans (kU_ne (by omega)) (Eq.trans (kU_ne (by omega)) (Eq.trans (kU_ne (by omega)) (Eq.trans (kU_ne (by omega)) (Eq.trans (kU_ne (by omega)) (Eq.trans (kU_ne (by omega)) (Eq.trans (kU_ne (by omega)) (Eq.trans (kU_ne (by omega)) (Eq.trans (kU_ne (by omega)) (Eq.trans (kU_ne (by omega)) (Eq.trans (kU_ne (by omega)) (Eq.trans (kU_ne (by omega)) (Eq.trans (kU_ne (by omega)) (Eq.trans (kU_ne (by omega)) (Eq.trans (kU_ne (by omega)) (Eq.trans (kU_ne (by omega)) (Eq.trans (kU_ne (by omega)) (kU_at _ _ _))))))))))))))))))
  rw [if_neg c14] at q
  by_cases c15 : a = n + 14
  · rw [if_pos c15] at q; rw [c15, ← q]; exact (Eq.trans (kU_ne (by omega)) (Eq.trans (kU_ne (by omega)) (Eq.trans (kU_ne (by omega)) (Eq.trans (kU_ne (by omega)) (Eq.trans (kU_ne (by omega)) (Eq.trans (kU_ne (by omega)) (Eq.trans (kU_ne (by omega)) (Eq.trans (kU_ne (by omega)) (Eq.trans (kU_ne (by omega)) (Eq.trans (kU_ne (by omega)) (Eq.trans (kU_ne (by omega)) (Eq.trans (kU_ne (by omega)) (Eq.trans (kU_ne (by omega)) (Eq.trans (kU_ne (by omega)) (Eq.trans (kU_ne (by omega)) (Eq.trans (kU_ne (by omega)) (kU_at _ _ _)))))))))))))))))
  rw [if_neg c15] at q
  by_cases c16 : a = n + 15
  · rw [if_pos c16] at q; rw [c16, ← q]; exact (Eq.trans (kU_ne (by omega)) (Eq.trans (kU_ne (by omega)) (Eq.trans (kU_ne (by omega)) (Eq.trans (kU_ne (by omega)) (Eq.trans (kU_ne (by omega)) (Eq.trans (kU_ne (by omega)) (Eq.trans (kU_ne (by omega)) (Eq.trans (kU_ne (by omega)) (Eq.trans (kU_ne (by omega)) (Eq.trans (kU_ne (by omega)) (Eq.trans (kU_ne (by omega)) (Eq.trans (kU_ne (by omega)) (Eq.trans (kU_ne (by omega)) (Eq.trans (kU_ne (by omega)) (Eq.trans (kU_ne (by omega)) (kU_at _ _ _))))))))))))))))
  rw [if_neg c16] at q
  by_cases c17 : a = n + 16
  · rw [if_pos c17] at q; rw [c17, ← q]; exact (Eq.trans (kU_ne (by omega)) (Eq.trans (kU_ne (by omega)) (Eq.trans (kU_ne (by omega)) (Eq.trans (kU_ne (by omega)) (Eq.trans (kU_ne (by omega)) (Eq.trans (kU_ne (by omega)) (Eq.trans (kU_ne (by omega)) (Eq.trans (kU_ne (by omega)) (Eq.trans (kU_ne (by omega)) (Eq.trans (kU_ne (by omega)) (Eq.trans (kU_ne (by omega)) (Eq.trans (kU_ne (by omega)) (Eq.trans (kU_ne (by omega)) (Eq.trans (kU_ne (by omega)) (kU_at _ _ _)))))))))))))))
  rw [if_neg c17] at q
  by_cases c18 : a = n + 17
  · rw [if_pos c18] at q; rw [c18, ← q]; exact (Eq.trans (kU_ne (by omega)) (Eq.trans (kU_ne (by omega)) (Eq.trans (kU_ne (by omega)) (Eq.trans (kU_ne (by omega)) (Eq.trans (kU_ne (by omega)) (Eq.trans (kU_ne (by omega)) (Eq.trans (kU_ne (by omega)) (Eq.trans (kU_ne (by omega)) (Eq.trans (kU_ne (by omega)) (Eq.trans (kU_ne (by omega)) (Eq.trans (kU_ne (by omega)) (Eq.trans (kU_ne (by omega)) (Eq.trans (kU_ne (by omega)) (kU_at _ _ _))))))))))))))
  rw [if_neg c18] at q
  by_cases c19 : a = n + 18
  · rw [if_pos c19] at q; rw [c19, ← q]; exact (Eq.trans (kU_ne (by omega)) (Eq.trans (kU_ne (by omega)) (Eq.trans (kU_ne (by omega)) (Eq.trans (kU_ne (by omega)) (Eq.trans (kU_ne (by omega)) (Eq.trans (kU_ne (by omega)) (Eq.trans (kU_ne (by omega)) (Eq.trans (kU_ne (by omega)) (Eq.trans (kU_ne (by omega)) (Eq.trans (kU_ne (by omega)) (Eq.trans (kU_ne (by omega)) (Eq.trans (kU_ne (by omega)) (kU_at _ _ _)))))))))))))
  rw [if_neg c19] at q
  by_cases c20 : a = n + 19
  · rw [if_pos c20] at q; rw [c20, ← q]; exact (Eq.trans (kU_ne (by omega)) (Eq.trans (kU_ne (by omega)) (Eq.trans (kU_ne (by omega)) (Eq.trans (kU_ne (by omega)) (Eq.trans (kU_ne (by omega)) (Eq.trans (kU_ne (by omega)) (Eq.trans (kU_ne (by omega)) (Eq.trans (kU_ne (by omega)) (Eq.trans (kU_ne (by omega)) (Eq.trans (kU_ne (by omega)) (Eq.trans (kU_ne (by omega)) (kU_at _ _ _))))))))))))
  rw [if_neg c20] at q
  by_cases c21 : a = n + 20
  · rw [if_pos c21] at q; rw [c21, ← q]; exact (Eq.trans (kU_ne (by omega)) (Eq.trans (kU_ne (by omega)) (Eq.trans (kU_ne (by omega)) (Eq.trans (kU_ne (by omega)) (Eq.trans (kU_ne (by omega)) (Eq.trans (kU_ne (by omega)) (Eq.trans (kU_ne (by omega)) (Eq.trans (kU_ne (by omega)) (Eq.trans (kU_ne (by omega)) (Eq.trans (kU_ne (by omega)) (kU_at _ _ _)))))))))))
  rw [if_neg c21] at q
  by_cases c22 : a = n + 21
  · rw [if_pos c22] at q; rw [c22, ← q]; exact (Eq.trans (kU_ne (by omega)) (Eq.trans (kU_ne (by omega)) (Eq.trans (kU_ne (by omega)) (Eq.trans (kU_ne (by omega)) (Eq.trans (kU_ne (by omega)) (Eq.trans (kU_ne (by omega)) (Eq.trans (kU_ne (by omega)) (Eq.trans (kU_ne (by omega)) (Eq.trans (kU_ne (by omega)) (kU_at _ _ _))))))))))
  rw [if_neg c22] at q
  by_cases c23 : a = n + 22
  · rw [if_pos c23] at q; rw [c23, ← q]; exact (Eq.trans (kU_ne (by omega)) (Eq.trans (kU_ne (by omega)) (Eq.trans (kU_ne (by omega)) (Eq.trans (kU_ne (by omega)) (Eq.trans (kU_ne (by omega)) (Eq.trans (kU_ne (by omega)) (Eq.trans (kU_ne (by omega)) (Eq.trans (kU_ne (by omega)) (kU_at _ _ _)))))))))
  rw [if_neg c23] at q
  by_cases c24 : a = n + 23
  · rw [if_pos c24] at q; rw [c24, ← q]; exact (Eq.trans (kU_ne (by omega)) (Eq.trans (kU_ne (by omega)) (Eq.trans (kU_ne (by omega)) (Eq.trans (kU_ne (by omega)) (Eq.trans (kU_ne (by omega)) (Eq.trans (kU_ne (by omega)) (Eq.trans (kU_ne (by omega)) (kU_at _ _ _))))))))
  rw [if_neg c24] at q
  by_cases c25 : a = n + 24
  · rw [if_pos c25] at q; rw [c25, ← q]; exact (Eq.trans (kU_ne (by omega)) (Eq.trans (kU_ne (by omega)) (Eq.trans (kU_ne (by omega)) (Eq.trans (kU_ne (by omega)) (Eq.trans (kU_ne (by omega)) (Eq.trans (kU_ne (by omega)) (kU_at _ _ _)))))))
  rw [if_neg c25] at q
  by_cases c26 : a = n + 25
  · rw [if_pos c26] at q; rw [c26, ← q]; exact (Eq.trans (kU_ne (by omega)) (Eq.trans (kU_ne (by omega)) (Eq.trans (kU_ne (by omega)) (Eq.trans (kU_ne (by omega)) (Eq.trans (kU_ne (by omega)) (kU_at _ _ _))))))
  rw [if_neg c26] at q
  by_cases c27 : a = n + 26
  · rw [if_pos c27] at q; rw [c27, ← q]; exact (Eq.trans (kU_ne (by omega)) (Eq.trans (kU_ne (by omega)) (Eq.trans (kU_ne (by omega)) (Eq.trans (kU_ne (by omega)) (kU_at _ _ _)))))
  rw [if_neg c27] at q
  by_cases c28 : a = n + 27
  · rw [if_pos c28] at q; rw [c28, ← q]; exact (Eq.trans (kU_ne (by omega)) (Eq.trans (kU_ne (by omega)) (Eq.trans (kU_ne (by omega)) (kU_at _ _ _))))
  rw [if_neg c28] at q
  by_cases c29 : a = n + 28
  · rw [if_pos c29] at q; rw [c29, ← q]; exact (Eq.trans (kU_ne (by omega)) (Eq.trans (kU_ne (by omega)) (kU_at _ _ _)))
  rw [if_neg c29] at q
  by_cases c30 : a = n + 29
  · rw [if_pos c30] at q; rw [c30, ← q]; exact (Eq.trans (kU_ne (by omega)) (kU_at _ _ _))
  rw [if_neg c30] at q
  cases q
