/-! what a program decides of the tables -/
set_option maxRecDepth 100000
theorem am_lp_ok : ∀ c, c < 11 → u_ws (am_on c) (am_Tc c) (am_Nc c) = (am_nth am_lp c []).filterMap (fun i => lw_tbl[i]?) := by decide +kernel
theorem am_cl_ok : ∀ c, c < 11 → (am_cl[c]?).map (fun q => (q.1, q.2.2)) = some (am_on c, am_Nc c) := by decide +kernel
theorem am_nm_ok : ∀ c, c < 11 → ∀ a, a < am_Nc c → ∀ b, b < am_Nc c → a ≠ b → (am_Tc c a).2.1 ≠ (am_Tc c b).2.1 := by decide +kernel
theorem am_ty_ok : ∀ c, c < 11 → ∀ k, k < am_Nc c → parseFieldDescriptor (am_Tc c k).2.2.1 = some (am_Yc c k) := by decide +kernel
theorem am_decl_ok : ∀ c, c < 11 → ∀ k, k < am_Nc c → (am_Tc c k).1 = am_on c := by decide +kernel
theorem am_mw_ok : ∀ y, y < 137 → lw_tbl[(am_mp y).1]? = some (.code (am_mn y) (am_bt y) (am_ml y) (am_rtT y)) := fun y h => match y, h with
  | 0, _ => rfl
  | 1, _ => rfl
  | 2, _ => rfl
  | 3, _ => rfl
  | 4, _ => rfl
  | 5, _ => rfl
  | 6, _ => rfl
  | 7, _ => rfl
  | 8, _ => rfl
  | 9, _ => rfl
  | 10, _ => rfl
  | 11, _ => rfl
  | 12, _ => rfl
  | 13, _ => rfl
  | 14, _ => rfl
  | 15, _ => rfl
  | 16, _ => rfl
  | 17, _ => rfl
  | 18, _ => rfl
  | 19, _ => rfl
  | 20, _ => rfl
  | 21, _ => rfl
  | 22, _ => rfl
  | 23, _ => rfl
  | 24, _ => rfl
  | 25, _ => rfl
  | 26, _ => rfl
  | 27, _ => rfl
  | 28, _ => rfl
  | 29, _ => rfl
  | 30, _ => rfl
  | 31, _ => rfl
  | 32, _ => rfl
  | 33, _ => rfl
  | 34, _ => rfl
  | 35, _ => rfl
  | 36, _ => rfl
  | 37, _ => rfl
  | 38, _ => rfl
  | 39, _ => rfl
  | 40, _ => rfl
  | 41, _ => rfl
  | 42, _ => rfl
  | 43, _ => rfl
  | 44, _ => rfl
  | 45, _ => rfl
  | 46, _ => rfl
  | 47, _ => rfl
  | 48, _ => rfl
  | 49, _ => rfl
  | 50, _ => rfl
  | 51, _ => rfl
  | 52, _ => rfl
  | 53, _ => rfl
  | 54, _ => rfl
  | 55, _ => rfl
  | 56, _ => rfl
  | 57, _ => rfl
  | 58, _ => rfl
  | 59, _ => rfl
  | 60, _ => rfl
  | 61, _ => rfl
  | 62, _ => rfl
  | 63, _ => rfl
  | 64, _ => rfl
  | 65, _ => rfl
  | 66, _ => rfl
  | 67, _ => rfl
  | 68, _ => rfl
  | 69, _ => rfl
  | 70, _ => rfl
  | 71, _ => rfl
  | 72, _ => rfl
  | 73, _ => rfl
  | 74, _ => rfl
  | 75, _ => rfl
  | 76, _ => rfl
  | 77, _ => rfl
  | 78, _ => rfl
  | 79, _ => rfl
  | 80, _ => rfl
  | 81, _ => rfl
  | 82, _ => rfl
  | 83, _ => rfl
  | 84, _ => rfl
  | 85, _ => rfl
  | 86, _ => rfl
  | 87, _ => rfl
  | 88, _ => rfl
  | 89, _ => rfl
  | 90, _ => rfl
  | 91, _ => rfl
  | 92, _ => rfl
  | 93, _ => rfl
  | 94, _ => rfl
  | 95, _ => rfl
  | 96, _ => rfl
  | 97, _ => rfl
  | 98, _ => rfl
  | 99, _ => rfl
  | 100, _ => rfl
  | 101, _ => rfl
  | 102, _ => rfl
  | 103, _ => rfl
  | 104, _ => rfl
  | 105, _ => rfl
  | 106, _ => rfl
  | 107, _ => rfl
  | 108, _ => rfl
  | 109, _ => rfl
  | 110, _ => rfl
  | 111, _ => rfl
  | 112, _ => rfl
  | 113, _ => rfl
  | 114, _ => rfl
  | 115, _ => rfl
  | 116, _ => rfl
  | 117, _ => rfl
  | 118, _ => rfl
  | 119, _ => rfl
  | 120, _ => rfl
  | 121, _ => rfl
  | 122, _ => rfl
  | 123, _ => rfl
  | 124, _ => rfl
  | 125, _ => rfl
  | 126, _ => rfl
  | 127, _ => rfl
  | 128, _ => rfl
  | 129, _ => rfl
  | 130, _ => rfl
  | 131, _ => rfl
  | 132, _ => rfl
  | 133, _ => rfl
  | 134, _ => rfl
  | 135, _ => rfl
  | 136, _ => rfl
  | n + 137, h => absurd h (by omega)
theorem am_mw_st : ∀ y, y < 137 → am_mi y = 0 → lw_tbl[(am_mp y).2.1]? = some (.static (am_mn y)) := by decide +kernel
theorem am_mw_in : ∀ y, y < 137 → am_mi y = 1 → lw_tbl[(am_mp y).2.1]? = some (.instanceMethod (am_mn y)) ∧ lw_tbl[(am_mp y).2.2.1]? = some (.selects (am_on (am_mc y)) (am_mn y) (am_mn y)) := by decide +kernel
theorem am_mw_it : ∀ y, y < 137 → lw_tbl[(am_mp y).2.2.2]? = some (.initialized (am_mn y).cls) := by decide +kernel
theorem am_mw_cn : ∀ y, y < 138 → (am_mn y).cls = am_on (am_mc y) := by decide +kernel
theorem am_mw_pn : ∀ y, y < 138 → plainFor (am_mn y) = true ∧ (am_mn y).cls ≠ "java/lang/invoke/MethodHandle" ∧ (am_mn y).cls ≠ "java/lang/invoke/VarHandle" ∧ (parseMethodDescriptor (am_mn y).desc).map (fun d => d.parameters.length) = some (am_np y) := by decide +kernel
theorem am_fl_ok : ∀ q ∈ am_fl, q.2.2.1 < 11 ∧ q.2.2.2.1 < am_Nc q.2.2.1 ∧ lw_tbl[q.2.2.2.2]? = some (.fieldLink (am_on q.1) q.2.1 (am_on q.2.2.1) (am_Tc q.2.2.1 q.2.2.2.1).2.1 (am_Tc q.2.2.1 q.2.2.2.1).2.2.1) := by decide +kernel
theorem am_mk_ok : ∀ q ∈ am_mk, q.2.2.1 < 137 ∧ lw_tbl[q.2.2.2]? = some (.methodLink (am_on q.1) q.2.1 (am_mn q.2.2.1)) := by decide +kernel
theorem am_ak_ok : ∀ q ∈ am_ak, lw_tbl[q.2.2]? = some (.methodLink (am_on q.1) q.2.1 arraycopyName) := by decide +kernel
theorem am_sk_ok : ∀ q ∈ am_sk, lw_tbl[q.2.2.2]? = some (.fieldLink (am_on q.1) q.2.1 "WhoIsWho" (am_rnm q.2.2.1) "[I") := by decide +kernel
theorem am_kk_ok : ∀ q ∈ am_kk, lw_tbl[q.2.2.2]? = some (.constant (am_on q.1) q.2.1 q.2.2.1) := by decide +kernel
theorem am_nw_ok : lw_tbl[am_nw.1]? = some (.native arraycopyName) ∧ lw_tbl[am_nw.2.1]? = some (.static arraycopyName) ∧ lw_tbl[am_nw.2.2]? = some (.initialized "java/lang/System") := by decide +kernel
