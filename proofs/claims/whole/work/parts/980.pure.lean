/-! the law's loop -/
theorem law_go {L : Nat} {xs : Nat → Int32} (hL : L ≤ 2560) : ∀ (m k : Nat) (μ ν : zM), k + m = 513 → ZZ k ν μ → F_La L xs (m + 1) (nI (5 * k)) μ ν := by
  have e5 : (5 : Int32).toInt = 5 := by decide
  have eL : (Int32.ofNat L - 5).toInt = (L : Int) - 5 := by
    have : (nI L).toInt = L := ti_n (by omega)
    show (nI L - 5).toInt = _
    rw [ti_sub (by rw [this, e5]; omega), this, e5]
  intro m
  induction m with
  | zero =>
    intro k μ ν h hZ
    refine br_t ?_ trivial
    rw [ti_lt, eL, ti_n (by omega)]
    omega
  | succ m ih =>
    intro k μ ν h hZ
    refine bl (fun _ => trivial) (fun q => ?_)
    rw [eL, ti_n (by omega)] at q
    have v0 : vp_in (nI (5 * k)) L := vp_in_nI (by omega) (by omega)
    have v1 : vp_in (nI (5 * k) + (1 : Int32)) L := by rw [show (1 : Int32) = nI 1 from rfl, nI_add]; exact vp_in_nI (by omega) (by omega)
    have v2 : vp_in (nI (5 * k) + (2 : Int32)) L := by rw [show (2 : Int32) = nI 2 from rfl, nI_add]; exact vp_in_nI (by omega) (by omega)
    have v3 : vp_in (nI (5 * k) + (3 : Int32)) L := by rw [show (3 : Int32) = nI 3 from rfl, nI_add]; exact vp_in_nI (by omega) (by omega)
    have v4 : vp_in (nI (5 * k) + (4 : Int32)) L := by rw [show (4 : Int32) = nI 4 from rfl, nI_add]; exact vp_in_nI (by omega) (by omega)
    have hk : k < 512 := by omega
    have nx : ∀ μ' ν' : zM, ZZ (k + 1) ν' μ' → ∀ x : Int32, x = nI (5 * k) + 5 → F_La L xs (m + 1) x μ' ν' := fun μ' ν' hZ' x e => by
      rw [show (5 : Int32) = nI 5 from rfl, nI_add, show 5 * k + 5 = 5 * (k + 1) by omega] at e
      subst e
      exact ih (k + 1) μ' ν' (by omega) hZ'
    have g0 : G_La_0 L xs (F_La L xs (m + 1)) (nI (5 * k)) μ ν := ⟨v1, v2, v3, v4, p_begin hZ _ _ _ _ _ (fun r μ' hM => ⟨v1, v2, v3, v4, hM _ (fun ν' hZ' => br_t rfl (nx μ' ν' hZ'))⟩)⟩
    have g1 : G_La_1 L xs (F_La L xs (m + 1)) (nI (5 * k)) μ ν := ⟨v1, v2, v3, p_make hZ hk _ _ _ _ (fun r μ' hM => ⟨v1, v2, v3, hM _ (fun ν' hZ' => br_t rfl (nx μ' ν' hZ'))⟩)⟩
    have g2 : G_La_2 L xs (F_La L xs (m + 1)) (nI (5 * k)) μ ν := ⟨v1, v2, p_array hZ hk _ _ _ (fun r μ' hM => ⟨v1, v2, hM _ (fun ν' hZ' => br_t rfl (nx μ' ν' hZ'))⟩)⟩
    have g3 : G_La_3 L xs (F_La L xs (m + 1)) (nI (5 * k)) μ ν := ⟨v1, v2, v3, p_put hZ hk _ _ _ _ (fun r μ' hM => ⟨v1, v2, v3, hM _ (fun ν' hZ' => br_t rfl (nx μ' ν' hZ'))⟩)⟩
    have g4 : G_La_4 L xs (F_La L xs (m + 1)) (nI (5 * k)) μ ν := ⟨v1, v2, p_get hZ hk _ _ _ (fun r μ' hM => ⟨v1, v2, hM _ (fun ν' hZ' => br_t rfl (nx μ' ν' hZ'))⟩)⟩
    have g5 : G_La_5 L xs (F_La L xs (m + 1)) (nI (5 * k)) μ ν := ⟨v1, v2, v3, p_link hZ hk _ _ _ _ (fun r μ' hM => ⟨v1, v2, v3, hM _ (fun ν' hZ' => br_t rfl (nx μ' ν' hZ'))⟩)⟩
    have g6 : G_La_6 L xs (F_La L xs (m + 1)) (nI (5 * k)) μ ν := ⟨v1, v2, v3, p_follow hZ hk _ _ _ _ (fun r μ' hM => ⟨v1, v2, v3, hM _ (fun ν' hZ' => br_t rfl (nx μ' ν' hZ'))⟩)⟩
    have g7 : G_La_7 L xs (F_La L xs (m + 1)) (nI (5 * k)) μ ν := ⟨v1, v2, p_move hZ hk _ _ _ (fun r μ' hM => ⟨v1, v2, hM _ (fun ν' hZ' => br_t rfl (nx μ' ν' hZ'))⟩)⟩
    have g8 : G_La_8 L xs (F_La L xs (m + 1)) (nI (5 * k)) μ ν := ⟨v1, p_drop hZ hk _ _ (fun r μ' hM => ⟨v1, hM _ (fun ν' hZ' => br_t rfl (nx μ' ν' hZ'))⟩)⟩
    have g9 : G_La_9 L xs (F_La L xs (m + 1)) (nI (5 * k)) μ ν := ⟨v1, p_idle hZ hk _ _ (fun r μ' hM => ⟨v1, hM _ (fun ν' hZ' => br_t rfl (nx μ' ν' hZ'))⟩)⟩
    have g10 : G_La_10 L xs (F_La L xs (m + 1)) (nI (5 * k)) μ ν := p_start hZ _ (fun r μ' hM => hM _ (fun ν' hZ' => br_t rfl (nx μ' ν' hZ')))
    have g11 : G_La_11 L xs (F_La L xs (m + 1)) (nI (5 * k)) μ ν := ⟨v1, v2, p_root hZ _ _ _ (fun r μ' hM => ⟨v1, v2, hM _ (fun ν' hZ' => br_t rfl (nx μ' ν' hZ'))⟩)⟩
    have g12 : G_La_12 L xs (F_La L xs (m + 1)) (nI (5 * k)) μ ν := ⟨v1, p_word hZ _ _ (fun r μ' hM => ⟨v1, hM _ (fun ν' hZ' => br_t rfl (nx μ' ν' hZ'))⟩)⟩
    have g13 : G_La_13 L xs (F_La L xs (m + 1)) (nI (5 * k)) μ ν := ⟨v1, v2, p_page hZ _ _ _ (fun r μ' hM => ⟨v1, v2, hM _ (fun ν' hZ' => br_t rfl (nx μ' ν' hZ'))⟩)⟩
    have g14 : G_La_14 L xs (F_La L xs (m + 1)) (nI (5 * k)) μ ν := ⟨v1, p_count hZ _ _ (fun r μ' hM => ⟨v1, hM _ (fun ν' hZ' => br_t rfl (nx μ' ν' hZ'))⟩)⟩
    have g15 : G_La_15 L xs (F_La L xs (m + 1)) (nI (5 * k)) μ ν := ⟨v1, p_share hZ _ _ (fun r μ' hM => ⟨v1, hM _ (fun ν' hZ' => br_t rfl (nx μ' ν' hZ'))⟩)⟩
    have g16 : G_La_16 L xs (F_La L xs (m + 1)) (nI (5 * k)) μ ν := p_reachable hZ _ (fun r μ' hM => hM _ (fun ν' hZ' => br_t rfl (nx μ' ν' hZ')))
    have g17 : G_La_17 L xs (F_La L xs (m + 1)) (nI (5 * k)) μ ν := p_whole hZ _ (fun r μ' hM => hM _ (fun ν' hZ' => br_t rfl (nx μ' ν' hZ')))
    refine ⟨v0, fun _ => g0, fun _ => g1, fun _ => g2, fun _ => g3, fun _ => g4, fun _ => g5, fun _ => g6, fun _ => g7, fun _ => g8, fun _ => g9, fun _ => g10, fun _ => g11, fun _ => g12, fun _ => g13, fun _ => g14, fun _ => g15, fun _ => g16, fun _ => g17, fun _ _ _ _ _ _ _ _ _ _ _ _ _ _ _ _ _ _ => nx μ ν hZ.up⟩
theorem zpure : zPure := by
  refine ⟨fun μ => KB (fun _ _ => 0) μ 16 20 10 4, fun ν => MB (fun _ _ => 0) ν 16 20 10 4, k_setAll (pg := 16) (q := 20) (cq := 10) (tr := 4) (by omega) (fun μ' h => h), m_beg (pg := 16) (q := 20) (cq := 10) (tr := 4) (by omega) (by omega) (by omega) (by omega) (fun ν' h => h), fun L xs hL μ ν hK hM => ⟨514, ?_⟩⟩
  have hZ : ZZ 0 ν μ := ZZ_new hK hM (fun i _ => rfl) (fun i _ => Or.inl rfl) (by omega) (by omega) (by omega) (by omega)
  exact law_go hL 513 0 μ ν (by omega) hZ
