/-! ===== the law's case of a seller ===== -/
theorem fr_seller {x y : Int32} {τ : Mm} {b : Int32 × Mm} (h : zfX12_seller x y τ = some b) : ∀ c, c ≠ 703 → b.2 c = τ c := by
  unfold zfX12_seller at h
  obtain ⟨J, hJ, h⟩ := lt_x h
  obtain ⟨J2, hJ2, h⟩ := lt_x h
  have go : ∀ v, J v τ = some b → b.2 = zst τ 703 0 v := fun v h => by
    simp only [hJ] at h
    obtain ⟨φ, hφ, h⟩ := lt_x h
    rw [← hφ]
    have s0 : ∀ u : Int32, some (u, φ) = some b → b.2 = φ := fun u h => by rw [← Option.some.inj h]
    have ck0 : ∀ (c : Prop) (i : Decidable c) (u : Int32), ck c (some (u, φ)) = some b → b.2 = φ := fun c i u h => by
      obtain ⟨_, h⟩ := ck_x h
      exact s0 u h
    repeat' split at h
    all_goals first
      | exact ck0 _ _ _ h
      | exact s0 _ h
  intro c hc
  by_cases c0 : zfX12_isSeller x τ = 0
  · rw [if_pos c0] at h
    simp only [hJ2] at h
    rw [go 1 h, zst_n hc]
  · rw [if_neg c0] at h
    by_cases c1 : zfX12_isIn (Int32.toInt64 y) 0 9 = 0
    · rw [if_pos c1] at h
      simp only [hJ2] at h
      rw [go 1 h, zst_n hc]
    · rw [if_neg c1] at h
      rw [go 0 h, zst_n hc]
theorem no_seller {x y : Int32} {σ : Mm} (h : zfX11_isSeller x σ = 0 ∨ (¬ zfX11_isSeller x σ = 0 ∧ ¬ zfX11_noWhat y 9 = 0)) : zfX11_seller x y σ = none := by
  unfold zfX11_seller
  simp only [lt_p]
  rcases h with h | ⟨h1, h2⟩
  · rw [if_pos h]
  · rw [if_neg h1, if_neg h2]
theorem zG_s : GoodIn zTB (va_wsS RL 38 yL_seller zwsL) := by
  intro w hw
  have hz : w ∈ zTB := by
    unfold va_wsS at hw
    rcases List.mem_append.mp hw with hw | hw
    · simp only [List.mem_cons, List.not_mem_nil, or_false] at hw
      rcases hw with rfl | rfl | rfl
      · exact zq1173
      · exact zq1174
      · exact zq76
    · rcases List.mem_cons.mp hw with rfl | hw
      · exact zq1175
      · exact hw
  exact ⟨hz, good_of_word (List.mem_filter.mp hz).2⟩
set_option maxHeartbeats 4000000 in
set_option maxRecDepth 100000 in
theorem zl_4 {p : Program} {l : Launch} {e : Env} {s : State} {m : MethodId} {below : List Frame} {meth : Method} {c : Code} {b L A0 : Nat} {xs : Nat → Int32} {D : va_G} (hst : l.stackTraces = false) (F : zx p s m c cL_law 7 #[Value.ref b] RL D A0) (hX : va_X b L xs s s.heap) (hbl : b < s.heap.size) (hbA : ¬ zA A0 b) (hL : L ≤ 3072) {t : Nat} (ht : 6 * t + 6 ≤ L) {ce sl : Nat} (hce : ce + 1 ≤ 601024) (hsl : sl + 6 ≤ 7293034) {σ : Mm} {H : Heap} {locs : List Loc} (Z : zh D A0 σ GF 740 s.heap H locs) (hI : Iv (31 * t) σ) {ls : Array Slot} (hl : lv_has ls 7 [(0, .ref b), (1, .ref (A0 + 0)), (2, .ref (A0 + 703)), (3, .ref (A0 + 739)), (4, .int (nI (6 * t)))]) {Q : State → Prop}
    (kk : ∀ (H1 : Heap) (locs1 : List Loc) (σ1 : Mm), zh D A0 σ1 GF 740 s.heap H1 locs1 → Iv (31 * (t + 1)) σ1 → ∀ ls, lv_has ls 7 [(0, .ref b), (1, .ref (A0 + 0)), (2, .ref (A0 + 703)), (3, .ref (A0 + 739)), (4, .int (nI (6 * t)))] → W p l e room_1 s m #[Value.ref b] below meth c H1 locs1 (ce + 1) (sl + 6) Q (F0 m 1498 ls [])) : W p l e room_1 s m #[Value.ref b] below meth c H locs ce sl Q (F0 m 344 ls []) := by
  have hx := F.1.1
  have hb := F.1.2.1
  have hown := F.1.2.2.2.1
  have hts := F.1.2.2.2.2
  generalize e1 : xs (nI (6 * t) + 1).toNatClampNeg = X1
  generalize e2 : xs (nI (6 * t) + 2).toNatClampNeg = X2
  have hz0 : ce + 1 + 0 ≤ room_1.cells ∧ sl + 6 + 0 ≤ room_1.slots := ⟨by show ce + 1 + 0 ≤ 601024; omega, by show sl + 6 + 0 ≤ 7293034; omega⟩
  have fin : ∀ (r : Int32) (τ : Mm) (b2 : Int32 × Mm), zfX12_seller X1 X2 τ = some b2 → b2.2 703 0 = r → (r = 0 → zj (τ 739 0) (τ 739 200) = Int32.toInt64 b2.1) → Iv (31 * t + 31) b2.2 → ∀ (H : Heap) (locs : List Loc), zh D A0 τ GF 740 s.heap H locs → W p l e room_1 s m #[Value.ref b] below meth c H locs (ce + 1) (sl + 6) Q (F0 m 361 ls [.int r]) := fun r τ b2 hb2 h0 hj hI2 H locs Z => by
    have hI3 : Iv (31 * (t + 1)) b2.2 := by rw [Nat.mul_succ]; exact hI2
    have f739 : b2.2 739 = τ 739 := fr_seller hb2 739 (by omega)
    refine lv_istore (lv' := [(5, .int r), (0, .ref b), (1, .ref (A0 + 0)), (2, .ref (A0 + 703)), (3, .ref (A0 + 739)), (4, .int (nI (6 * t)))]) hx hb dL_law_361 hl (by decide) rfl (fun ls hl => ?_)
    refine lv_aload_n hx hb dL_law_363 rfl (lv_at hl 3 rfl) ?_
    refine lv_aload_n hx hb dL_law_364 rfl (lv_at hl 1 rfl) ?_
    refine lv_iload hx hb dL_law_365 (lv_at hl 5 rfl) ?_
    refine lv_iconst (v := 1) hx hb dL_law_367 (by decide) ?_
    refine lv_iadd hx hb dL_law_368 ?_
    refine va_sld hx hb hX hbl hbA Z.2 (zl_in (k := 1) rfl (by decide) ht hL) dL_law_369 ?_
    refine lv_aload_n hx hb dL_law_370 rfl (lv_at hl 1 rfl) ?_
    refine lv_iload hx hb dL_law_371 (lv_at hl 5 rfl) ?_
    refine lv_iconst (v := 2) hx hb dL_law_373 (by decide) ?_
    refine lv_iadd hx hb dL_law_374 ?_
    refine va_sld hx hb hX hbl hbA Z.2 (zl_in (k := 2) rfl (by decide) ht hL) dL_law_375 ?_
    rw [e1, e2]
    refine zc_i Z (zr_V F Z (a := 703) (As := [.int X1, .int X2]) (zcX12_seller l D A0 X1 X2 τ b2.1 b2.2 hb2) zBX12_seller zq1610 (by decide) zs_703 zC12.1 rfl ⟨⟨rfl, rfl⟩, Nat.le_of_ble_eq_true rfl, Nat.le_of_ble_eq_true rfl⟩ hl.1 rfl (Nat.le_of_ble_eq_true rfl) dL_law_376 hz0) (fun _ _ Z => ?_)
    refine lv_istore (lv' := [(6, .int b2.1), (5, .int r), (0, .ref b), (1, .ref (A0 + 0)), (2, .ref (A0 + 703)), (3, .ref (A0 + 739)), (4, .int (nI (6 * t)))]) hx hb dL_law_379 hl (by decide) rfl (fun ls hl => ?_)
    refine lv_aload_n hx hb dL_law_381 rfl (lv_at hl 4 rfl) ?_
    refine zc_i Z (zr_V F Z (a := 703) (As := []) (zcX12_thrown l D A0 b2.2 r h0) zBX12_thrown zq1473 (by decide) zs_703 zC12.1 rfl ⟨⟨rfl, rfl⟩, Nat.le_of_ble_eq_true rfl, Nat.le_of_ble_eq_true rfl⟩ hl.1 rfl (Nat.le_of_ble_eq_true rfl) dL_law_382 hz0) (fun _ _ Z => ?_)
    refine lv_iload hx hb dL_law_385 (lv_at hl 1 rfl) ?_
    refine lv_icmp_eq (tgt := 392) hx hb dL_law_387 (by decide) (fun _ => ?_) (fun h => absurd rfl h)
    refine lv_iload hx hb dL_law_392 (lv_at hl 1 rfl) ?_
    refine lv_if_ne (tgt := 409) hx hb dL_law_394 (by decide) (fun _ => ?_) (fun hr => ?_)
    · refine lv_goto (tgt := 1498) hx hb dL_law_409 (by decide) ?_
      exact kk _ _ _ Z hI3 _ (lv_sub hl [2, 3, 4, 5, 6] rfl)
    · refine lv_aload_n hx hb dL_law_397 rfl (lv_at hl 5 rfl) ?_
      refine lv_iconst (v := 0) hx hb dL_law_398 (by decide) ?_
      refine va_lald hx hb F.2.1 Z.1 739 3 (f := fun j => zj (b2.2 739 j) (b2.2 739 (j + 200))) (n := 1) (cA := D.1 53) (by rw [zwl_get (by decide), zent_l zs_739]) rfl (inb_vp (by decide)) dL_law_399 ?_
      refine lv_iload hx hb dL_law_400 (lv_at hl 0 rfl) ?_
      refine lv_i2l hx hb dL_law_402 rfl ?_
      refine W.lcmp hx hb dL_law_403 ?_
      have e0 : lg_cmp (zj (b2.2 739 (0 : Int32).toNatClampNeg) (b2.2 739 ((0 : Int32).toNatClampNeg + 200))) (Int32.toInt64 b2.1) = 0 := by
        rw [f739, show (0 : Int32).toNatClampNeg = 0 by decide, hj hr]
        unfold lg_cmp
        rw [if_neg (by rw [gt_iff_lt, Int64.lt_iff_toInt_lt]; omega), if_pos rfl]
      refine lv_if_eq (tgt := 409) hx hb dL_law_404 (by decide) (fun _ => ?_) (fun h => absurd e0 h)
      refine lv_goto (tgt := 1498) hx hb dL_law_409 (by decide) ?_
      exact kk _ _ _ Z hI3 _ (lv_sub hl [2, 3, 4, 5, 6] rfl)
  have cw := vx_cwSW (R := room_1) (s := s) (args := #[Value.ref b]) (own := RL) (index := 38) (y := yL_seller) (bytes := cL_seller) (maxL := 5) (ret := some .int) (hh := [(0, 10, 13, 13)]) (ws' := zTB) (rm := ({ frames := 30, cells := 1, slots := 6, locals := 600 } : Room)) 4 hts zG_s rfl rfl rfl ⟨by decide, by decide, by decide +kernel⟩ ⟨Nat.le_of_ble_eq_true rfl, Nat.le_of_ble_eq_true rfl⟩
  refine lv_aload_n hx hb dL_law_344 rfl (lv_at hl 1 rfl) ?_
  refine lv_aload_n hx hb dL_law_345 rfl (lv_at hl 0 rfl) ?_
  refine lv_iload hx hb dL_law_346 (lv_at hl 4 rfl) ?_
  refine lv_iconst (v := 1) hx hb dL_law_348 (by decide) ?_
  refine lv_iadd hx hb dL_law_349 ?_
  refine va_sld hx hb hX hbl hbA Z.2 (zl_in (k := 1) rfl (by decide) ht hL) dL_law_350 ?_
  refine lv_aload_n hx hb dL_law_351 rfl (lv_at hl 0 rfl) ?_
  refine lv_iload hx hb dL_law_352 (lv_at hl 4 rfl) ?_
  refine lv_iconst (v := 2) hx hb dL_law_354 (by decide) ?_
  refine lv_iadd hx hb dL_law_355 ?_
  refine va_sld hx hb hX hbl hbA Z.2 (zl_in (k := 2) rfl (by decide) ht hL) dL_law_356 ?_
  rw [e1, e2]
  refine lv_aload_n hx hb dL_law_357 rfl (lv_at hl 3 rfl) ?_
  rcases q_seller X1 X2 hI (fun _ _ => rfl) with ⟨v, hv, _⟩ | ⟨hbad, b2, hb2, g1, g2, g3⟩
  · have fz : ∀ c, c ≠ 739 → zstL σ 739 0 (Int32.toInt64 v) c = σ c := fun c hc => by unfold zstL; rw [zst_n hc, zst_n hc]
    refine zc_im Z (vx_runSW (n := 4) (As := [.ref (A0 + 0), .int X1, .int X2, .ref (A0 + 739)]) (rest := []) F.1 (zcl_seller0 l D A0 X1 X2 σ v hv) cw ⟨zPc_blind, zpre F Z⟩ rfl rfl hl.1 rfl (lv_room (Nat.le_of_ble_eq_true rfl)) dL_law_358 (zr1 hce hsl)) (fun _ _ Z => ?_)
    rcases q_seller X1 X2 hI fz with ⟨v2, hv2, b2, hb2, g1, g2, g3⟩ | ⟨hbad, _⟩
    · have ev : v = v2 := by rw [hv] at hv2; exact Option.some.inj hv2
      subst ev
      refine fin 0 _ b2 hb2 g2 (fun _ => ?_) g3 _ _ Z
      unfold zstL
      rw [zst_k (by omega), zst_v, zst_v, zj_eq, g1]
    · rw [no_seller hbad] at hv; cases hv
  · refine zc_im Z (vx_runSW (n := 4) (As := [.ref (A0 + 0), .int X1, .int X2, .ref (A0 + 739)]) (rest := []) F.1 (zcl_seller1 l hst D A0 X1 X2 σ hbad) cw ⟨zPc_blind, zpre F Z⟩ rfl rfl hl.1 rfl (lv_room (Nat.le_of_ble_eq_true rfl)) dL_law_358 (zr1 hce hsl)) (fun _ _ Z => ?_)
    exact fin 1 σ b2 hb2 g2 (fun h => absurd h (by decide)) g3 _ _ Z
