set_option maxHeartbeats 4000000 in
set_option maxRecDepth 100000 in
theorem zcX11_bytesIn (l : Launch) (D : va_G) (A0 : Nat) (x0 : Int32) (σ : Mm) (r0 : Int32) (h : zfX11_bytesIn x0 = some r0) : Met l yX11_bytesIn (zws yX11_bytesIn cX11_bytesIn 3 (some .int)) (zR 0 0) (zPc D A0 σ GF 740 [.int x0]) (zQi D A0 r0 σ GF 740) 0 0 (zA A0) := by
  unfold zfX11_bytesIn at h
  refine zmet (own := RX11) (by decide) rfl (Nat.le_of_ble_eq_true rfl) ?_
  intro p e s m below meth c F hr hlocks _ Z ls hl
  have hl : lv_has ls 3 [(0, .int x0)] := hl
  have hx := F.1.1
  have hb := F.1.2.1
  have hown := F.1.2.2.2.1
  have hts := F.1.2.2.2.2
  refine lv_iconst (v := 0) hx hb dX11_bytesIn_0 (by decide) ?_
  refine lv_istore_n (lv' := [(1, .int 0), (0, .int x0)]) hx hb dX11_bytesIn_1 rfl hl (by decide) rfl (fun ls hl => ?_)
  refine lv_bipush (v := 24) hx hb dX11_bytesIn_2 (by decide) ?_
  refine lv_istore_n (lv' := [(2, .int 24), (1, .int 0), (0, .int x0)]) hx hb dX11_bytesIn_4 rfl hl (by decide) rfl (fun ls hl => ?_)
  obtain ⟨k28, ek28, h⟩ := lt_x h
  have hk28 : ∀ (x1_28 : Int32) (H : Heap) (locs : List Loc) (ls : Array Slot), zh D A0 σ GF 740 s.heap H locs → lv_has ls 3 [(1, .int x1_28)] → k28 x1_28 = some r0 → W p l e (zR 0 0) s m [.int x0].toArray below meth c H locs 0 0 (MQ below (zQi D A0 r0 σ GF 740) [.int x0].toArray s 0 0 (zA A0)) (F0 m 28 ls []) := by
    intro x1_28 H locs ls Z hl h
    rw [ek28] at h
    try dsimp only at h
    refine lv_iload_n hx hb dX11_bytesIn_28 rfl (lv_at hl 0 rfl) ?_
    have hq := Option.some.inj h
    exact ze_i F Z hr hlocks hq rfl dX11_bytesIn_29
  have hL5 : ∀ (fu5 : Nat) (x1_5 : Int32) (x2_5 : Int32) (H : Heap) (locs : List Loc) (ls : Array Slot), zh D A0 σ GF 740 s.heap H locs → lv_has ls 3 [(0, .int x0), (1, .int x1_5), (2, .int x2_5)] → zfX11_bytesIn_L5 k28 x0 fu5 x1_5 x2_5 = some r0 → W p l e (zR 0 0) s m [.int x0].toArray below meth c H locs 0 0 (MQ below (zQi D A0 r0 σ GF 740) [.int x0].toArray s 0 0 (zA A0)) (F0 m 5 ls []) := by
    intro fu5
    induction fu5 with
    | zero => intro x1_5 x2_5 H locs ls Z hl h; rw [zfX11_bytesIn_L5] at h; cases h
    | succ fu5 ih5 =>
      intro x1_5 x2_5 H locs ls Z hl h
      rw [zfX11_bytesIn_L5] at h
      refine lv_iload_n hx hb dX11_bytesIn_5 rfl (lv_at hl 2 rfl) ?_
      refine zb_iflt (tgt := 28) hx hb dX11_bytesIn_6 (by decide) h (fun h => ?_) (fun h => ?_)
      · exact hk28 x1_5 _ _ _ Z (lv_sub hl [1] rfl) h
      · refine lv_iload_n hx hb dX11_bytesIn_9 rfl (lv_at hl 0 rfl) ?_
        refine lv_iload_n hx hb dX11_bytesIn_10 rfl (lv_at hl 2 rfl) ?_
        refine lv_ishr hx hb dX11_bytesIn_11 ?_
        refine lv_sipush (v := 255) hx hb dX11_bytesIn_12 (by decide) ?_
        refine lv_iand hx hb dX11_bytesIn_15 ?_
        obtain ⟨j22, ej22, h⟩ := lt_x h
        have hj22 : ∀ (x1_22 : Int32) (H : Heap) (locs : List Loc) (ls : Array Slot), zh D A0 σ GF 740 s.heap H locs → lv_has ls 3 [(0, .int x0), (1, .int x1_22), (2, .int x2_5)] → j22 x1_22 = some r0 → W p l e (zR 0 0) s m [.int x0].toArray below meth c H locs 0 0 (MQ below (zQi D A0 r0 σ GF 740) [.int x0].toArray s 0 0 (zA A0)) (F0 m 22 ls []) := by
          intro x1_22 H locs ls Z hl h
          rw [ej22] at h
          try dsimp only at h
          obtain ⟨x2_22, ex2_22⟩ : ∃ y : Int32, y = x2_5 + (-8) := ⟨_, rfl⟩
          replace h := lt_w h ex2_22
          refine lv_iinc (v := x2_22) (lv' := [(2, .int x2_22), (0, .int x0), (1, .int x1_22)]) hx hb dX11_bytesIn_22 hl (k := 2) rfl (by rw [ex2_22]; rfl) (by decide) rfl (fun ls hl => ?_)
          refine lv_goto (tgt := 5) hx hb dX11_bytesIn_25 (by decide) ?_
          exact ih5 x1_22 x2_22 _ _ _ Z (lv_sub hl [1, 2, 0] rfl) h
        refine zb_ifeq (tgt := 22) hx hb dX11_bytesIn_16 (by decide) h (fun h => ?_) (fun h => ?_)
        · exact hj22 x1_5 _ _ _ Z (lv_sub hl [0, 1, 2] rfl) h
        · obtain ⟨x1_19, ex1_19⟩ : ∃ y : Int32, y = x1_5 + 1 := ⟨_, rfl⟩
          replace h := lt_w h ex1_19
          refine lv_iinc (v := x1_19) (lv' := [(1, .int x1_19), (0, .int x0), (2, .int x2_5)]) hx hb dX11_bytesIn_19 hl (k := 1) rfl (by rw [ex1_19]; rfl) (by decide) rfl (fun ls hl => ?_)
          exact hj22 x1_19 _ _ _ Z (lv_sub hl [1, 0, 2] rfl) h
  exact hL5 NF 0 24 _ _ _ Z (lv_sub hl [2, 1, 0] rfl) h
set_option maxHeartbeats 4000000 in
set_option maxRecDepth 100000 in
theorem zcX9_add (l : Launch) (D : va_G) (A0 : Nat) (x1 : Int32) (σ : Mm) (σr : Mm) (h : zfX9_add x1 σ = some σr) : Met l yX9_add (zws yX9_add cX9_add 4 none) (zR 0 0) (zPc D A0 σ GF 740 [.ref (A0 + 1), .int x1]) (zQv D A0 σr GF 740) 0 0 (zA A0) := by
  unfold zfX9_add at h
  refine zmet (own := RX9) (by decide) rfl (Nat.le_of_ble_eq_true rfl) ?_
  intro p e s m below meth c F hr hlocks _ Z ls hl
  have hl : lv_has ls 4 [(0, .ref (A0 + 1)), (1, .int x1)] := hl
  have hx := F.1.1
  have hb := F.1.2.1
  have hown := F.1.2.2.2.1
  have hts := F.1.2.2.2.2
  refine lv_bipush (v := 24) hx hb dX9_add_0 (by decide) ?_
  refine lv_istore_n (lv' := [(2, .int 24), (0, .ref (A0 + 1)), (1, .int x1)]) hx hb dX9_add_2 rfl hl (by decide) rfl (fun ls hl => ?_)
  obtain ⟨k57, ek57, h⟩ := lt_x h
  have hk57 : ∀ (σ57 : Mm) (H : Heap) (locs : List Loc) (ls : Array Slot), zh D A0 σ57 GF 740 s.heap H locs → lv_has ls 4 [] → k57 σ57 = some σr → W p l e (zR 0 0) s m [.ref (A0 + 1), .int x1].toArray below meth c H locs 0 0 (MQ below (zQv D A0 σr GF 740) [.ref (A0 + 1), .int x1].toArray s 0 0 (zA A0)) (F0 m 57 ls []) := by
    intro  σ57 H locs ls Z hl h
    rw [ek57] at h
    try dsimp only at h
    have hq := Option.some.inj h
    exact ze_v F Z hr hlocks hq dX9_add_57
  have hL3 : ∀ (fu3 : Nat) (x2_3 : Int32) (σ3 : Mm) (H : Heap) (locs : List Loc) (ls : Array Slot), zh D A0 σ3 GF 740 s.heap H locs → lv_has ls 4 [(0, .ref (A0 + 1)), (1, .int x1), (2, .int x2_3)] → zfX9_add_L3 k57 x1 fu3 x2_3 σ3 = some σr → W p l e (zR 0 0) s m [.ref (A0 + 1), .int x1].toArray below meth c H locs 0 0 (MQ below (zQv D A0 σr GF 740) [.ref (A0 + 1), .int x1].toArray s 0 0 (zA A0)) (F0 m 3 ls []) := by
    intro fu3
    induction fu3 with
    | zero => intro x2_3 σ3 H locs ls Z hl h; rw [zfX9_add_L3] at h; cases h
    | succ fu3 ih3 =>
      intro x2_3 σ3 H locs ls Z hl h
      rw [zfX9_add_L3] at h
      refine lv_iload_n hx hb dX9_add_3 rfl (lv_at hl 2 rfl) ?_
      refine zb_iflt (tgt := 57) hx hb dX9_add_4 (by decide) h (fun h => ?_) (fun h => ?_)
      · exact hk57 σ3 _ _ _ Z (lv_sub hl [] rfl) h
      · refine lv_iload_n hx hb dX9_add_7 rfl (lv_at hl 1 rfl) ?_
        refine lv_iload_n hx hb dX9_add_8 rfl (lv_at hl 2 rfl) ?_
        refine lv_ishr hx hb dX9_add_9 ?_
        refine lv_sipush (v := 255) hx hb dX9_add_10 (by decide) ?_
        refine lv_iand hx hb dX9_add_13 ?_
        refine lv_topi (fun x3_14 ex3_14 => ?_)
        replace h := lt_w h ex3_14
        refine lv_istore_n (lv' := [(3, .int x3_14), (0, .ref (A0 + 1)), (1, .int x1), (2, .int x2_3)]) hx hb dX9_add_14 rfl hl (by decide) rfl (fun ls hl => ?_)
        refine lv_iload_n hx hb dX9_add_15 rfl (lv_at hl 0 rfl) ?_
        obtain ⟨j51, ej51, h⟩ := lt_x h
        have hj51 : ∀ (σ51 : Mm) (H : Heap) (locs : List Loc) (ls : Array Slot), zh D A0 σ51 GF 740 s.heap H locs → lv_has ls 4 [(0, .ref (A0 + 1)), (1, .int x1), (2, .int x2_3)] → j51 σ51 = some σr → W p l e (zR 0 0) s m [.ref (A0 + 1), .int x1].toArray below meth c H locs 0 0 (MQ below (zQv D A0 σr GF 740) [.ref (A0 + 1), .int x1].toArray s 0 0 (zA A0)) (F0 m 51 ls []) := by
          intro  σ51 H locs ls Z hl h
          rw [ej51] at h
          try dsimp only at h
          obtain ⟨x2_51, ex2_51⟩ : ∃ y : Int32, y = x2_3 + (-8) := ⟨_, rfl⟩
          replace h := lt_w h ex2_51
          refine lv_iinc (v := x2_51) (lv' := [(2, .int x2_51), (0, .ref (A0 + 1)), (1, .int x1)]) hx hb dX9_add_51 hl (k := 2) rfl (by rw [ex2_51]; rfl) (by decide) rfl (fun ls hl => ?_)
          refine lv_goto (tgt := 3) hx hb dX9_add_54 (by decide) ?_
          exact ih3 x2_51 σ51 _ _ _ Z (lv_sub hl [1, 2, 0] rfl) h
        refine zb_ifeq (tgt := 51) hx hb dX9_add_16 (by decide) h (fun h => ?_) (fun h => ?_)
        · exact hj51 σ3 _ _ _ Z (lv_sub hl [1, 2, 3] rfl) h
        · refine lv_aload_n hx hb dX9_add_19 rfl (lv_at hl 1 rfl) ?_
          refine zw_getI F Z zC9 (a := 1) (k := 1) (by decide) zs_1 (by decide) rfl zq116 (Or.inl rfl) dX9_add_20 ?_
          refine lv_aload_n hx hb dX9_add_23 rfl (lv_at hl 1 rfl) ?_
          refine zw_getR F Z zC9 (a := 1) (k := 0) (by decide) zs_1 (by decide) rfl zg_1_0 zq115 (Or.inl rfl) dX9_add_24 ?_
          refine zw_alen F Z (ty := 0) (v := 160) (by decide) zs_2 rfl rfl dX9_add_27 ?_
          refine zb_icge (tgt := 51) hx hb dX9_add_28 (by decide) h (fun h => ?_) (fun h => ?_)
          · exact hj51 σ3 _ _ _ Z (lv_sub hl [1, 2, 3] rfl) h
          · refine lv_aload_n hx hb dX9_add_31 rfl (lv_at hl 1 rfl) ?_
            refine zw_getR F Z zC9 (a := 1) (k := 0) (by decide) zs_1 (by decide) rfl zg_1_0 zq115 (Or.inl rfl) dX9_add_32 ?_
            refine lv_aload_n hx hb dX9_add_35 rfl (lv_at hl 1 rfl) ?_
            refine zw_getI F Z zC9 (a := 1) (k := 1) (by decide) zs_1 (by decide) rfl zq116 (Or.inl rfl) dX9_add_36 ?_
            refine lv_iload_n hx hb dX9_add_39 rfl (lv_at hl 0 rfl) ?_
            obtain ⟨hk40, h⟩ := ck_x h
            refine zw_iast F Z (by decide) zs_2 hk40 dX9_add_40 (fun σ40 _ _ eσ40 Z => ?_)
            replace h := lt_w h eσ40
            refine lv_aload_n hx hb dX9_add_41 rfl (lv_at hl 1 rfl) ?_
            refine lv_dup hx hb dX9_add_42 rfl ?_
            refine zw_getI F Z zC9 (a := 1) (k := 1) (by decide) zs_1 (by decide) rfl zq116 (Or.inl rfl) dX9_add_43 ?_
            refine lv_iconst (v := 1) hx hb dX9_add_46 (by decide) ?_
            refine lv_iadd hx hb dX9_add_47 ?_
            refine zw_putI F Z zC9 (a := 1) (k := 1) (by decide) zs_1 (by decide) rfl (by decide) zq116 (Or.inl rfl) rfl ⟨rfl, rfl⟩ dX9_add_48 (fun σ48 _ _ eσ48 Z => ?_)
            replace h := lt_w h eσ48
            exact hj51 σ48 _ _ _ Z (lv_sub hl [1, 2, 3] rfl) h
  exact hL3 NF 24 σ _ _ _ Z (lv_sub hl [1, 2, 0] rfl) h
set_option maxHeartbeats 4000000 in
set_option maxRecDepth 100000 in
theorem zcX11_feed (l : Launch) (D : va_G) (A0 : Nat) (x1 : Int32) (x2 : Int32) (x3 : Int32) (x4 : Int32) (x5 : Int32) (σ : Mm) (r0 : Int32) (σr : Mm) (h : zfX11_feed x1 x2 x3 x4 x5 σ = some (r0, σr)) : Met l yX11_feed (zws yX11_feed cX11_feed 7 (some .int)) (zR 1 23) (zPc D A0 σ GF 740 [.ref (A0 + 0), .int x1, .int x2, .int x3, .int x4, .int x5]) (zQi D A0 r0 σr GF 740) 0 0 (zA A0) := by
  unfold zfX11_feed at h
  refine zmet (own := RX11) (by decide) rfl (Nat.le_of_ble_eq_true rfl) ?_
  intro p e s m below meth c F hr hlocks _ Z ls hl
  have hl : lv_has ls 7 [(0, .ref (A0 + 0)), (1, .int x1), (2, .int x2), (3, .int x3), (4, .int x4), (5, .int x5)] := hl
  have hx := F.1.1
  have hb := F.1.2.1
  have hown := F.1.2.2.2.1
  have hts := F.1.2.2.2.2
  refine lv_iload_n hx hb dX11_feed_0 rfl (lv_at hl 1 rfl) ?_
  obtain ⟨r1, hc1, h⟩ := bd_x h
  refine zc_i Z (zr_S F Z (As := [.int x1]) (zcX11_bytesIn l D A0 x1 σ r1 hc1) zBX11_bytesIn zq590 rfl ⟨⟨rfl, rfl⟩, Nat.le_of_ble_eq_true rfl, Nat.le_of_ble_eq_true rfl⟩ hl.1 rfl (Nat.le_of_ble_eq_true rfl) dX11_feed_1 ⟨Nat.le_of_ble_eq_true rfl, Nat.le_of_ble_eq_true rfl⟩) (fun _ _ Z => ?_)
  refine lv_iload_n hx hb dX11_feed_4 rfl (lv_at hl 2 rfl) ?_
  obtain ⟨r5, hc5, h⟩ := bd_x h
  refine zc_i Z (zr_S F Z (As := [.int x2]) (zcX11_bytesIn l D A0 x2 σ r5 hc5) zBX11_bytesIn zq590 rfl ⟨⟨rfl, rfl⟩, Nat.le_of_ble_eq_true rfl, Nat.le_of_ble_eq_true rfl⟩ hl.1 rfl (Nat.le_of_ble_eq_true rfl) dX11_feed_5 ⟨Nat.le_of_ble_eq_true rfl, Nat.le_of_ble_eq_true rfl⟩) (fun _ _ Z => ?_)
  refine lv_iadd hx hb dX11_feed_8 ?_
  refine lv_iload_n hx hb dX11_feed_9 rfl (lv_at hl 3 rfl) ?_
  obtain ⟨r10, hc10, h⟩ := bd_x h
  refine zc_i Z (zr_S F Z (As := [.int x3]) (zcX11_bytesIn l D A0 x3 σ r10 hc10) zBX11_bytesIn zq590 rfl ⟨⟨rfl, rfl⟩, Nat.le_of_ble_eq_true rfl, Nat.le_of_ble_eq_true rfl⟩ hl.1 rfl (Nat.le_of_ble_eq_true rfl) dX11_feed_10 ⟨Nat.le_of_ble_eq_true rfl, Nat.le_of_ble_eq_true rfl⟩) (fun _ _ Z => ?_)
  refine lv_iadd hx hb dX11_feed_13 ?_
  refine lv_iload hx hb dX11_feed_14 (lv_at hl 4 rfl) ?_
  obtain ⟨r16, hc16, h⟩ := bd_x h
  refine zc_i Z (zr_S F Z (As := [.int x4]) (zcX11_bytesIn l D A0 x4 σ r16 hc16) zBX11_bytesIn zq590 rfl ⟨⟨rfl, rfl⟩, Nat.le_of_ble_eq_true rfl, Nat.le_of_ble_eq_true rfl⟩ hl.1 rfl (Nat.le_of_ble_eq_true rfl) dX11_feed_16 ⟨Nat.le_of_ble_eq_true rfl, Nat.le_of_ble_eq_true rfl⟩) (fun _ _ Z => ?_)
  refine lv_iadd hx hb dX11_feed_19 ?_
  refine lv_iload hx hb dX11_feed_20 (lv_at hl 5 rfl) ?_
  obtain ⟨r22, hc22, h⟩ := bd_x h
  refine zc_i Z (zr_S F Z (As := [.int x5]) (zcX11_bytesIn l D A0 x5 σ r22 hc22) zBX11_bytesIn zq590 rfl ⟨⟨rfl, rfl⟩, Nat.le_of_ble_eq_true rfl, Nat.le_of_ble_eq_true rfl⟩ hl.1 rfl (Nat.le_of_ble_eq_true rfl) dX11_feed_22 ⟨Nat.le_of_ble_eq_true rfl, Nat.le_of_ble_eq_true rfl⟩) (fun _ _ Z => ?_)
  refine lv_iadd hx hb dX11_feed_25 ?_
  refine lv_topi (fun x6_26 ex6_26 => ?_)
  replace h := lt_w h ex6_26
  refine lv_istore (lv' := [(6, .int x6_26), (0, .ref (A0 + 0)), (1, .int x1), (2, .int x2), (3, .int x3), (4, .int x4), (5, .int x5)]) hx hb dX11_feed_26 hl (by decide) rfl (fun ls hl => ?_)
  refine lv_aload_n hx hb dX11_feed_28 rfl (lv_at hl 1 rfl) ?_
  refine zw_getR F Z zC11 (a := 0) (k := 0) (by decide) zs_0 (by decide) rfl zg_0_0 zq534 (Or.inl rfl) dX11_feed_29 ?_
  refine zw_getI F Z zC9 (a := 1) (k := 1) (by decide) zs_1 (by decide) rfl zq117 (Or.inl rfl) dX11_feed_32 ?_
  refine lv_iload hx hb dX11_feed_35 (lv_at hl 0 rfl) ?_
  refine lv_iadd hx hb dX11_feed_37 ?_
  refine lv_sipush (v := 160) hx hb dX11_feed_38 (by decide) ?_
  refine zb_icle (tgt := 46) hx hb dX11_feed_41 (by decide) h (fun h => ?_) (fun h => ?_)
  · refine lv_aload_n hx hb dX11_feed_46 rfl (lv_at hl 1 rfl) ?_
    refine zw_getR F Z zC11 (a := 0) (k := 0) (by decide) zs_0 (by decide) rfl zg_0_0 zq534 (Or.inl rfl) dX11_feed_47 ?_
    refine lv_iload_n hx hb dX11_feed_50 rfl (lv_at hl 2 rfl) ?_
    obtain ⟨σ51, hc51, h⟩ := bd_x h
    refine zc_v Z (zr_V F Z (a := 1) (As := [.int x1]) (zcX9_add l D A0 x1 σ σ51 hc51) zBX9_add zq593 (by decide) zs_1 zC9.1 rfl ⟨⟨rfl, rfl⟩, Nat.le_of_ble_eq_true rfl, Nat.le_of_ble_eq_true rfl⟩ hl.1 rfl (Nat.le_of_ble_eq_true rfl) dX11_feed_51 ⟨Nat.le_of_ble_eq_true rfl, Nat.le_of_ble_eq_true rfl⟩) (fun _ _ Z => ?_)
    refine lv_aload_n hx hb dX11_feed_54 rfl (lv_at hl 1 rfl) ?_
    refine zw_getR F Z zC11 (a := 0) (k := 0) (by decide) zs_0 (by decide) rfl zg_0_0 zq534 (Or.inl rfl) dX11_feed_55 ?_
    refine lv_iload_n hx hb dX11_feed_58 rfl (lv_at hl 3 rfl) ?_
    obtain ⟨σ59, hc59, h⟩ := bd_x h
    refine zc_v Z (zr_V F Z (a := 1) (As := [.int x2]) (zcX9_add l D A0 x2 σ51 σ59 hc59) zBX9_add zq593 (by decide) zs_1 zC9.1 rfl ⟨⟨rfl, rfl⟩, Nat.le_of_ble_eq_true rfl, Nat.le_of_ble_eq_true rfl⟩ hl.1 rfl (Nat.le_of_ble_eq_true rfl) dX11_feed_59 ⟨Nat.le_of_ble_eq_true rfl, Nat.le_of_ble_eq_true rfl⟩) (fun _ _ Z => ?_)
    refine lv_aload_n hx hb dX11_feed_62 rfl (lv_at hl 1 rfl) ?_
    refine zw_getR F Z zC11 (a := 0) (k := 0) (by decide) zs_0 (by decide) rfl zg_0_0 zq534 (Or.inl rfl) dX11_feed_63 ?_
    refine lv_iload_n hx hb dX11_feed_66 rfl (lv_at hl 4 rfl) ?_
    obtain ⟨σ67, hc67, h⟩ := bd_x h
    refine zc_v Z (zr_V F Z (a := 1) (As := [.int x3]) (zcX9_add l D A0 x3 σ59 σ67 hc67) zBX9_add zq593 (by decide) zs_1 zC9.1 rfl ⟨⟨rfl, rfl⟩, Nat.le_of_ble_eq_true rfl, Nat.le_of_ble_eq_true rfl⟩ hl.1 rfl (Nat.le_of_ble_eq_true rfl) dX11_feed_67 ⟨Nat.le_of_ble_eq_true rfl, Nat.le_of_ble_eq_true rfl⟩) (fun _ _ Z => ?_)
    refine lv_aload_n hx hb dX11_feed_70 rfl (lv_at hl 1 rfl) ?_
    refine zw_getR F Z zC11 (a := 0) (k := 0) (by decide) zs_0 (by decide) rfl zg_0_0 zq534 (Or.inl rfl) dX11_feed_71 ?_
    refine lv_iload hx hb dX11_feed_74 (lv_at hl 5 rfl) ?_
    obtain ⟨σ76, hc76, h⟩ := bd_x h
    refine zc_v Z (zr_V F Z (a := 1) (As := [.int x4]) (zcX9_add l D A0 x4 σ67 σ76 hc76) zBX9_add zq593 (by decide) zs_1 zC9.1 rfl ⟨⟨rfl, rfl⟩, Nat.le_of_ble_eq_true rfl, Nat.le_of_ble_eq_true rfl⟩ hl.1 rfl (Nat.le_of_ble_eq_true rfl) dX11_feed_76 ⟨Nat.le_of_ble_eq_true rfl, Nat.le_of_ble_eq_true rfl⟩) (fun _ _ Z => ?_)
    refine lv_aload_n hx hb dX11_feed_79 rfl (lv_at hl 1 rfl) ?_
    refine zw_getR F Z zC11 (a := 0) (k := 0) (by decide) zs_0 (by decide) rfl zg_0_0 zq534 (Or.inl rfl) dX11_feed_80 ?_
    refine lv_iload hx hb dX11_feed_83 (lv_at hl 6 rfl) ?_
    obtain ⟨σ85, hc85, h⟩ := bd_x h
    refine zc_v Z (zr_V F Z (a := 1) (As := [.int x5]) (zcX9_add l D A0 x5 σ76 σ85 hc85) zBX9_add zq593 (by decide) zs_1 zC9.1 rfl ⟨⟨rfl, rfl⟩, Nat.le_of_ble_eq_true rfl, Nat.le_of_ble_eq_true rfl⟩ hl.1 rfl (Nat.le_of_ble_eq_true rfl) dX11_feed_85 ⟨Nat.le_of_ble_eq_true rfl, Nat.le_of_ble_eq_true rfl⟩) (fun _ _ Z => ?_)
    refine lv_aload_n hx hb dX11_feed_88 rfl (lv_at hl 1 rfl) ?_
    refine zw_getR F Z zC11 (a := 0) (k := 0) (by decide) zs_0 (by decide) rfl zg_0_0 zq534 (Or.inl rfl) dX11_feed_89 ?_
    refine zw_getI F Z zC9 (a := 1) (k := 1) (by decide) zs_1 (by decide) rfl zq117 (Or.inl rfl) dX11_feed_92 ?_
    obtain ⟨hq1, hq2⟩ := zpq h
    exact ze_i F Z hr hlocks hq1 hq2 dX11_feed_95
  · refine lv_iconst (v := (-1)) hx hb dX11_feed_44 (by decide) ?_
    obtain ⟨hq1, hq2⟩ := zpq h
    exact ze_i F Z hr hlocks hq1 hq2 dX11_feed_45
set_option maxHeartbeats 4000000 in
set_option maxRecDepth 100000 in
theorem zcX11_end (l : Launch) (D : va_G) (A0 : Nat) (x1 : Int32) (σ : Mm) (r0 : Int32) (σr : Mm) (h : zfX11_end x1 σ = some (r0, σr)) : Met l yX11_end (zws yX11_end cX11_end 2 (some .boolean)) (zR 0 0) (zPc D A0 σ GF 740 [.ref (A0 + 0), .int x1]) (zQi D A0 r0 σr GF 740) 0 0 (zA A0) := by
  unfold zfX11_end at h
  refine zmet (own := RX11) (by decide) rfl (Nat.le_of_ble_eq_true rfl) ?_
  intro p e s m below meth c F hr hlocks _ Z ls hl
  have hl : lv_has ls 2 [(0, .ref (A0 + 0)), (1, .int x1)] := hl
  have hx := F.1.1
  have hb := F.1.2.1
  have hown := F.1.2.2.2.1
  have hts := F.1.2.2.2.2
  refine lv_iload_n hx hb dX11_end_0 rfl (lv_at hl 1 rfl) ?_
  obtain ⟨j15, ej15, h⟩ := lt_x h
  have hj15 : ∀ (σ15 : Mm) (H : Heap) (locs : List Loc) (ls : Array Slot), zh D A0 σ15 GF 740 s.heap H locs → lv_has ls 2 [] → j15 σ15 = some (r0, σr) → W p l e (zR 0 0) s m [.ref (A0 + 0), .int x1].toArray below meth c H locs 0 0 (MQ below (zQi D A0 r0 σr GF 740) [.ref (A0 + 0), .int x1].toArray s 0 0 (zA A0)) (F0 m 15 ls []) := by
    intro  σ15 H locs ls Z hl h
    rw [ej15] at h
    try dsimp only at h
    refine lv_iconst (v := 0) hx hb dX11_end_15 (by decide) ?_
    obtain ⟨hq1, hq2⟩ := zpq h
    exact ze_z F Z hr hlocks (by decide) hq1 hq2 dX11_end_16
  refine zb_iflt (tgt := 15) hx hb dX11_end_1 (by decide) h (fun h => ?_) (fun h => ?_)
  · exact hj15 σ _ _ _ Z (lv_sub hl [] rfl) h
  · refine lv_iload_n hx hb dX11_end_4 rfl (lv_at hl 1 rfl) ?_
    refine lv_aload_n hx hb dX11_end_5 rfl (lv_at hl 0 rfl) ?_
    refine zw_getR F Z zC11 (a := 0) (k := 0) (by decide) zs_0 (by decide) rfl zg_0_0 zq534 (Or.inl rfl) dX11_end_6 ?_
    refine zw_getI F Z zC9 (a := 1) (k := 1) (by decide) zs_1 (by decide) rfl zq117 (Or.inl rfl) dX11_end_9 ?_
    refine zb_icle (tgt := 17) hx hb dX11_end_12 (by decide) h (fun h => ?_) (fun h => ?_)
    · refine lv_aload_n hx hb dX11_end_17 rfl (lv_at hl 0 rfl) ?_
      refine zw_getR F Z zC11 (a := 0) (k := 0) (by decide) zs_0 (by decide) rfl zg_0_0 zq534 (Or.inl rfl) dX11_end_18 ?_
      refine lv_iload_n hx hb dX11_end_21 rfl (lv_at hl 1 rfl) ?_
      refine zw_putI F Z zC9 (a := 1) (k := 1) (by decide) zs_1 (by decide) rfl (by decide) zq117 (Or.inl rfl) rfl ⟨rfl, rfl⟩ dX11_end_22 (fun σ22 _ _ eσ22 Z => ?_)
      replace h := lt_w h eσ22
      refine lv_iconst (v := 1) hx hb dX11_end_25 (by decide) ?_
      obtain ⟨hq1, hq2⟩ := zpq h
      exact ze_z F Z hr hlocks (by decide) hq1 hq2 dX11_end_26
    · exact hj15 σ _ _ _ Z (lv_sub hl [] rfl) h
set_option maxHeartbeats 4000000 in
set_option maxRecDepth 100000 in
theorem zcX3_beginReading_43 (l : Launch) (D : va_G) (A0 : Nat) (σ : Mm) (σr : Mm) (h : zfX3_beginReading_43 σ = some σr) : Met l yX3_beginReading (zws yX3_beginReading cX3_beginReading 1 none) (zR 0 0) (zPc D A0 σ GF 740 [.ref (A0 + 43)]) (zQv D A0 σr GF 740) 0 0 (zA A0) := by
  unfold zfX3_beginReading_43 at h
  refine zmet (own := RX3) (by decide) rfl (Nat.le_of_ble_eq_true rfl) ?_
  intro p e s m below meth c F hr hlocks _ Z ls hl
  have hl : lv_has ls 1 [(0, .ref (A0 + 43))] := hl
  have hx := F.1.1
  have hb := F.1.2.1
  have hown := F.1.2.2.2.1
  have hts := F.1.2.2.2.2
  refine lv_aload_n hx hb dX3_beginReading_0 rfl (lv_at hl 0 rfl) ?_
  refine lv_iconst (v := 0) hx hb dX3_beginReading_1 (by decide) ?_
  refine zw_putI F Z zC1 (a := 43) (k := 1) (by decide) zs_43 (by decide) rfl (by decide) zq354 (Or.inl rfl) rfl ⟨rfl, rfl⟩ dX3_beginReading_2 (fun σ2 _ _ eσ2 Z => ?_)
  replace h := lt_w h eσ2
  refine lv_aload_n hx hb dX3_beginReading_5 rfl (lv_at hl 0 rfl) ?_
  refine lv_iconst (v := (-1)) hx hb dX3_beginReading_6 (by decide) ?_
  refine zw_putI F Z zC1 (a := 43) (k := 2) (by decide) zs_43 (by decide) rfl (by decide) zq359 (Or.inl rfl) rfl ⟨rfl, rfl⟩ dX3_beginReading_7 (fun σ7 _ _ eσ7 Z => ?_)
  replace h := lt_w h eσ7
  have hq := Option.some.inj h
  exact ze_v F Z hr hlocks hq dX3_beginReading_10
set_option maxHeartbeats 4000000 in
set_option maxRecDepth 100000 in
theorem zcX3_beginReading_46 (l : Launch) (D : va_G) (A0 : Nat) (σ : Mm) (σr : Mm) (h : zfX3_beginReading_46 σ = some σr) : Met l yX3_beginReading (zws yX3_beginReading cX3_beginReading 1 none) (zR 0 0) (zPc D A0 σ GF 740 [.ref (A0 + 46)]) (zQv D A0 σr GF 740) 0 0 (zA A0) := by
  unfold zfX3_beginReading_46 at h
  refine zmet (own := RX3) (by decide) rfl (Nat.le_of_ble_eq_true rfl) ?_
  intro p e s m below meth c F hr hlocks _ Z ls hl
  have hl : lv_has ls 1 [(0, .ref (A0 + 46))] := hl
  have hx := F.1.1
  have hb := F.1.2.1
  have hown := F.1.2.2.2.1
  have hts := F.1.2.2.2.2
  refine lv_aload_n hx hb dX3_beginReading_0 rfl (lv_at hl 0 rfl) ?_
  refine lv_iconst (v := 0) hx hb dX3_beginReading_1 (by decide) ?_
  refine zw_putI F Z zC5 (a := 46) (k := 1) (by decide) zs_46 (by decide) rfl (by decide) zq354 (Or.inl rfl) rfl ⟨rfl, rfl⟩ dX3_beginReading_2 (fun σ2 _ _ eσ2 Z => ?_)
  replace h := lt_w h eσ2
  refine lv_aload_n hx hb dX3_beginReading_5 rfl (lv_at hl 0 rfl) ?_
  refine lv_iconst (v := (-1)) hx hb dX3_beginReading_6 (by decide) ?_
  refine zw_putI F Z zC5 (a := 46) (k := 2) (by decide) zs_46 (by decide) rfl (by decide) zq359 (Or.inl rfl) rfl ⟨rfl, rfl⟩ dX3_beginReading_7 (fun σ7 _ _ eσ7 Z => ?_)
  replace h := lt_w h eσ7
  have hq := Option.some.inj h
  exact ze_v F Z hr hlocks hq dX3_beginReading_10
set_option maxHeartbeats 4000000 in
set_option maxRecDepth 100000 in
theorem zcX0_clear (l : Launch) (D : va_G) (A0 : Nat) (q0 : Nat) (hq0 : zIsM q0) (σ : Mm) (σr : Mm) (h : zfX0_clear q0 σ = some σr) : Met l yX0_clear (zws yX0_clear cX0_clear 2 none) (zR 0 0) (zPc D A0 σ GF 740 [.ref (A0 + q0)]) (zQv D A0 σr GF 740) 0 0 (zA A0) := by
  unfold zfX0_clear at h
  refine zmet (own := RX0) (by decide) rfl (Nat.le_of_ble_eq_true rfl) ?_
  intro p e s m below meth c F hr hlocks _ Z ls hl
  have hl : lv_has ls 2 [(0, .ref (A0 + q0))] := hl
  have hx := F.1.1
  have hb := F.1.2.1
  have hown := F.1.2.2.2.1
  have hts := F.1.2.2.2.2
  refine lv_aload_n hx hb dX0_clear_0 rfl (lv_at hl 0 rfl) ?_
  refine lv_iconst (v := 0) hx hb dX0_clear_1 (by decide) ?_
  refine zw_putI F Z zC0 (a := q0) (k := 0) (zltM_0 hq0) (zsM_0 hq0) (by decide) rfl (by decide) zq130 (Or.inl rfl) rfl ⟨rfl, rfl⟩ dX0_clear_2 (fun σ2 _ _ eσ2 Z => ?_)
  replace h := lt_w h eσ2
  refine lv_aload_n hx hb dX0_clear_5 rfl (lv_at hl 0 rfl) ?_
  refine lv_iconst (v := 0) hx hb dX0_clear_6 (by decide) ?_
  refine zw_putI F Z zC0 (a := q0) (k := 1) (zltM_0 hq0) (zsM_0 hq0) (by decide) rfl (by decide) zq136 (Or.inl rfl) rfl ⟨rfl, rfl⟩ dX0_clear_7 (fun σ7 _ _ eσ7 Z => ?_)
  replace h := lt_w h eσ7
  refine lv_aload_n hx hb dX0_clear_10 rfl (lv_at hl 0 rfl) ?_
  refine lv_iconst (v := 0) hx hb dX0_clear_11 (by decide) ?_
  refine zw_putI F Z zC0 (a := q0) (k := 2) (zltM_0 hq0) (zsM_0 hq0) (by decide) rfl (by decide) zq140 (Or.inl rfl) rfl (z_nb (by decide)) dX0_clear_12 (fun σ12 _ _ eσ12 Z => ?_)
  replace h := lt_w h eσ12
  refine lv_aload_n hx hb dX0_clear_15 rfl (lv_at hl 0 rfl) ?_
  refine zw_gets F Z (i := 3) (by decide) rfl (by decide) dX0_clear_16 ?_
  refine lv_bipush (v := 6) hx hb dX0_clear_19 (by decide) ?_
  refine zw_tald F Z (i := 3) (by decide) (by decide) dX0_clear_21 ?_
  refine zw_putI F Z zC0 (a := q0) (k := 3) (zltM_0 hq0) (zsM_0 hq0) (by decide) rfl (by decide) zq143 (Or.inl rfl) rfl ⟨rfl, rfl⟩ dX0_clear_22 (fun σ22 _ _ eσ22 Z => ?_)
  replace h := lt_w h eσ22
  refine lv_aload_n hx hb dX0_clear_25 rfl (lv_at hl 0 rfl) ?_
  refine zw_gets F Z (i := 3) (by decide) rfl (by decide) dX0_clear_26 ?_
  refine lv_bipush (v := 7) hx hb dX0_clear_29 (by decide) ?_
  refine zw_tald F Z (i := 3) (by decide) (by decide) dX0_clear_31 ?_
  refine zw_putI F Z zC0 (a := q0) (k := 4) (zltM_0 hq0) (zsM_0 hq0) (by decide) rfl (by decide) zq145 (Or.inl rfl) rfl ⟨rfl, rfl⟩ dX0_clear_32 (fun σ32 _ _ eσ32 Z => ?_)
  replace h := lt_w h eσ32
  refine lv_iconst (v := 0) hx hb dX0_clear_35 (by decide) ?_
  refine lv_istore_n (lv' := [(1, .int 0), (0, .ref (A0 + q0))]) hx hb dX0_clear_36 rfl hl (by decide) rfl (fun ls hl => ?_)
  obtain ⟨k70, ek70, h⟩ := lt_x h
  have hk70 : ∀ (σ70 : Mm) (H : Heap) (locs : List Loc) (ls : Array Slot), zh D A0 σ70 GF 740 s.heap H locs → lv_has ls 2 [] → k70 σ70 = some σr → W p l e (zR 0 0) s m [.ref (A0 + q0)].toArray below meth c H locs 0 0 (MQ below (zQv D A0 σr GF 740) [.ref (A0 + q0)].toArray s 0 0 (zA A0)) (F0 m 70 ls []) := by
    intro  σ70 H locs ls Z hl h
    rw [ek70] at h
    try dsimp only at h
    have hq := Option.some.inj h
    exact ze_v F Z hr hlocks hq dX0_clear_70
  have hL37 : ∀ (fu37 : Nat) (x1_37 : Int32) (σ37 : Mm) (H : Heap) (locs : List Loc) (ls : Array Slot), zh D A0 σ37 GF 740 s.heap H locs → lv_has ls 2 [(0, .ref (A0 + q0)), (1, .int x1_37)] → zfX0_clear_L37 k70 q0 fu37 x1_37 σ37 = some σr → W p l e (zR 0 0) s m [.ref (A0 + q0)].toArray below meth c H locs 0 0 (MQ below (zQv D A0 σr GF 740) [.ref (A0 + q0)].toArray s 0 0 (zA A0)) (F0 m 37 ls []) := by
    intro fu37
    induction fu37 with
    | zero => intro x1_37 σ37 H locs ls Z hl h; rw [zfX0_clear_L37] at h; cases h
    | succ fu37 ih37 =>
      intro x1_37 σ37 H locs ls Z hl h
      rw [zfX0_clear_L37] at h
      refine lv_iload_n hx hb dX0_clear_37 rfl (lv_at hl 1 rfl) ?_
      refine lv_bipush (v := 6) hx hb dX0_clear_38 (by decide) ?_
      refine zb_icge (tgt := 70) hx hb dX0_clear_40 (by decide) h (fun h => ?_) (fun h => ?_)
      · exact hk70 σ37 _ _ _ Z (lv_sub hl [] rfl) h
      · refine lv_aload_n hx hb dX0_clear_43 rfl (lv_at hl 0 rfl) ?_
        refine zw_getR F Z zC0 (a := q0) (k := 5) (zltM_0 hq0) (zsM_0 hq0) (by decide) rfl (zgM_5 hq0) zq148 (Or.inl rfl) dX0_clear_44 ?_
        refine lv_iload_n hx hb dX0_clear_47 rfl (lv_at hl 1 rfl) ?_
        refine lv_iconst (v := 0) hx hb dX0_clear_48 (by decide) ?_
        obtain ⟨hk49, h⟩ := ck_x h
        refine zw_iast F Z (zltM_1 hq0) (zsM_1 hq0) hk49 dX0_clear_49 (fun σ49 _ _ eσ49 Z => ?_)
        replace h := lt_w h eσ49
        refine lv_aload_n hx hb dX0_clear_50 rfl (lv_at hl 0 rfl) ?_
        refine zw_getR F Z zC0 (a := q0) (k := 6) (zltM_0 hq0) (zsM_0 hq0) (by decide) rfl (zgM_6 hq0) zq152 (Or.inl rfl) dX0_clear_51 ?_
        refine lv_iload_n hx hb dX0_clear_54 rfl (lv_at hl 1 rfl) ?_
        refine lv_iconst (v := 0) hx hb dX0_clear_55 (by decide) ?_
        obtain ⟨hk56, h⟩ := ck_x h
        refine zw_iast F Z (zltM_2 hq0) (zsM_2 hq0) hk56 dX0_clear_56 (fun σ56 _ _ eσ56 Z => ?_)
        replace h := lt_w h eσ56
        refine lv_aload_n hx hb dX0_clear_57 rfl (lv_at hl 0 rfl) ?_
        refine zw_getR F Z zC0 (a := q0) (k := 7) (zltM_0 hq0) (zsM_0 hq0) (by decide) rfl (zgM_7 hq0) zq155 (Or.inl rfl) dX0_clear_58 ?_
        refine lv_iload_n hx hb dX0_clear_61 rfl (lv_at hl 1 rfl) ?_
        refine lv_iconst (v := 0) hx hb dX0_clear_62 (by decide) ?_
        obtain ⟨hk63, h⟩ := ck_x h
        refine zw_iast F Z (zltM_3 hq0) (zsM_3 hq0) hk63 dX0_clear_63 (fun σ63 _ _ eσ63 Z => ?_)
        replace h := lt_w h eσ63
        obtain ⟨x1_64, ex1_64⟩ : ∃ y : Int32, y = x1_37 + 1 := ⟨_, rfl⟩
        replace h := lt_w h ex1_64
        refine lv_iinc (v := x1_64) (lv' := [(1, .int x1_64), (0, .ref (A0 + q0))]) hx hb dX0_clear_64 hl (k := 1) rfl (by rw [ex1_64]; rfl) (by decide) rfl (fun ls hl => ?_)
        refine lv_goto (tgt := 37) hx hb dX0_clear_67 (by decide) ?_
        exact ih37 x1_64 σ63 _ _ _ Z (lv_sub hl [1, 0] rfl) h
  exact hL37 NF 0 σ32 _ _ _ Z (lv_sub hl [1, 0] rfl) h
set_option maxHeartbeats 4000000 in
set_option maxRecDepth 100000 in
theorem zcX9_byteAt (l : Launch) (D : va_G) (A0 : Nat) (x1 : Int32) (σ : Mm) (r0 : Int32) (h : zfX9_byteAt x1 σ = some r0) : Met l yX9_byteAt (zws yX9_byteAt cX9_byteAt 2 (some .int)) (zR 0 0) (zPc D A0 σ GF 740 [.ref (A0 + 1), .int x1]) (zQi D A0 r0 σ GF 740) 0 0 (zA A0) := by
  unfold zfX9_byteAt at h
  refine zmet (own := RX9) (by decide) rfl (Nat.le_of_ble_eq_true rfl) ?_
  intro p e s m below meth c F hr hlocks _ Z ls hl
  have hl : lv_has ls 2 [(0, .ref (A0 + 1)), (1, .int x1)] := hl
  have hx := F.1.1
  have hb := F.1.2.1
  have hown := F.1.2.2.2.1
  have hts := F.1.2.2.2.2
  refine lv_iload_n hx hb dX9_byteAt_0 rfl (lv_at hl 1 rfl) ?_
  obtain ⟨j30, ej30, h⟩ := lt_x h
  have hj30 : ∀  (H : Heap) (locs : List Loc) (ls : Array Slot), zh D A0 σ GF 740 s.heap H locs → lv_has ls 2 [] → j30 () = some r0 → W p l e (zR 0 0) s m [.ref (A0 + 1), .int x1].toArray below meth c H locs 0 0 (MQ below (zQi D A0 r0 σ GF 740) [.ref (A0 + 1), .int x1].toArray s 0 0 (zA A0)) (F0 m 30 ls []) := by
    intro  H locs ls Z hl h
    rw [ej30] at h
    try dsimp only at h
    refine lv_iconst (v := (-1)) hx hb dX9_byteAt_30 (by decide) ?_
    have hq := Option.some.inj h
    exact ze_i F Z hr hlocks hq rfl dX9_byteAt_31
  refine zb_iflt (tgt := 30) hx hb dX9_byteAt_1 (by decide) h (fun h => ?_) (fun h => ?_)
  · exact hj30  _ _ _ Z (lv_sub hl [] rfl) h
  · refine lv_iload_n hx hb dX9_byteAt_4 rfl (lv_at hl 1 rfl) ?_
    refine lv_aload_n hx hb dX9_byteAt_5 rfl (lv_at hl 0 rfl) ?_
    refine zw_getI F Z zC9 (a := 1) (k := 1) (by decide) zs_1 (by decide) rfl zq116 (Or.inl rfl) dX9_byteAt_6 ?_
    refine zb_icge (tgt := 30) hx hb dX9_byteAt_9 (by decide) h (fun h => ?_) (fun h => ?_)
    · exact hj30  _ _ _ Z (lv_sub hl [] rfl) h
    · refine lv_iload_n hx hb dX9_byteAt_12 rfl (lv_at hl 1 rfl) ?_
      refine lv_aload_n hx hb dX9_byteAt_13 rfl (lv_at hl 0 rfl) ?_
      refine zw_getR F Z zC9 (a := 1) (k := 0) (by decide) zs_1 (by decide) rfl zg_1_0 zq115 (Or.inl rfl) dX9_byteAt_14 ?_
      refine zw_alen F Z (ty := 0) (v := 160) (by decide) zs_2 rfl rfl dX9_byteAt_17 ?_
      refine zb_icge (tgt := 30) hx hb dX9_byteAt_18 (by decide) h (fun h => ?_) (fun h => ?_)
      · exact hj30  _ _ _ Z (lv_sub hl [] rfl) h
      · refine lv_aload_n hx hb dX9_byteAt_21 rfl (lv_at hl 0 rfl) ?_
        refine zw_getR F Z zC9 (a := 1) (k := 0) (by decide) zs_1 (by decide) rfl zg_1_0 zq115 (Or.inl rfl) dX9_byteAt_22 ?_
        refine lv_iload_n hx hb dX9_byteAt_25 rfl (lv_at hl 1 rfl) ?_
        obtain ⟨hk26, h⟩ := ck_x h
        refine zw_iald F Z (by decide) zs_2 hk26 dX9_byteAt_26 ?_
        refine lv_goto (tgt := 31) hx hb dX9_byteAt_27 (by decide) ?_
        have hq := Option.some.inj h
        exact ze_i F Z hr hlocks hq rfl dX9_byteAt_31
set_option maxHeartbeats 4000000 in
set_option maxRecDepth 100000 in
theorem zcX3_sign_43 (l : Launch) (D : va_G) (A0 : Nat) (σ : Mm) (r0 : Int32) (σr : Mm) (h : zfX3_sign_43 σ = some (r0, σr)) : Met l yX3_sign (zws yX3_sign cX3_sign 2 (some .int)) (zR 1 21) (zPc D A0 σ GF 740 [.ref (A0 + 43)]) (zQi D A0 r0 σr GF 740) 0 0 (zA A0) := by
  unfold zfX3_sign_43 at h
  refine zmet (own := RX3) (by decide) rfl (Nat.le_of_ble_eq_true rfl) ?_
  intro p e s m below meth c F hr hlocks _ Z ls hl
  have hl : lv_has ls 2 [(0, .ref (A0 + 43))] := hl
  have hx := F.1.1
  have hb := F.1.2.1
  have hown := F.1.2.2.2.1
  have hts := F.1.2.2.2.2
  refine lv_iconst (v := 0) hx hb dX3_sign_0 (by decide) ?_
  refine lv_istore_n (lv' := [(1, .int 0), (0, .ref (A0 + 43))]) hx hb dX3_sign_1 rfl hl (by decide) rfl (fun ls hl => ?_)
  obtain ⟨k41, ek41, h⟩ := lt_x h
  have hk41 : ∀ (σ41 : Mm) (H : Heap) (locs : List Loc) (ls : Array Slot), zh D A0 σ41 GF 740 s.heap H locs → lv_has ls 2 [(0, .ref (A0 + 43))] → k41 σ41 = some (r0, σr) → W p l e (zR 1 21) s m [.ref (A0 + 43)].toArray below meth c H locs 0 0 (MQ below (zQi D A0 r0 σr GF 740) [.ref (A0 + 43)].toArray s 0 0 (zA A0)) (F0 m 41 ls []) := by
    intro  σ41 H locs ls Z hl h
    rw [ek41] at h
    try dsimp only at h
    refine lv_aload_n hx hb dX3_sign_41 rfl (lv_at hl 0 rfl) ?_
    refine zw_getR F Z zC1 (a := 43) (k := 0) (by decide) zs_43 (by decide) rfl zg_43_0 zq353 (Or.inl rfl) dX3_sign_42 ?_
    refine lv_aload_n hx hb dX3_sign_45 rfl (lv_at hl 0 rfl) ?_
    refine zw_getI F Z zC1 (a := 43) (k := 1) (by decide) zs_43 (by decide) rfl zq354 (Or.inl rfl) dX3_sign_46 ?_
    obtain ⟨r49, hc49, h⟩ := bd_x h
    refine zc_i Z (zr_V F Z (a := 1) (As := [.int (σ41 43 1)]) (zcX9_byteAt l D A0 (σ41 43 1) σ41 r49 hc49) zBX9_byteAt zq631 (by decide) zs_1 zC9.1 rfl ⟨⟨rfl, rfl⟩, Nat.le_of_ble_eq_true rfl, Nat.le_of_ble_eq_true rfl⟩ hl.1 rfl (Nat.le_of_ble_eq_true rfl) dX3_sign_49 ⟨Nat.le_of_ble_eq_true rfl, Nat.le_of_ble_eq_true rfl⟩) (fun _ _ Z => ?_)
    obtain ⟨hq1, hq2⟩ := zpq h
    exact ze_i F Z hr hlocks hq1 hq2 dX3_sign_52
  have hL2 : ∀ (fu2 : Nat) (x1_2 : Int32) (σ2 : Mm) (H : Heap) (locs : List Loc) (ls : Array Slot), zh D A0 σ2 GF 740 s.heap H locs → lv_has ls 2 [(0, .ref (A0 + 43)), (1, .int x1_2)] → zfX3_sign_43_L2 k41 fu2 x1_2 σ2 = some (r0, σr) → W p l e (zR 1 21) s m [.ref (A0 + 43)].toArray below meth c H locs 0 0 (MQ below (zQi D A0 r0 σr GF 740) [.ref (A0 + 43)].toArray s 0 0 (zA A0)) (F0 m 2 ls []) := by
    intro fu2
    induction fu2 with
    | zero => intro x1_2 σ2 H locs ls Z hl h; rw [zfX3_sign_43_L2] at h; cases h
    | succ fu2 ih2 =>
      intro x1_2 σ2 H locs ls Z hl h
      rw [zfX3_sign_43_L2] at h
      refine lv_iload_n hx hb dX3_sign_2 rfl (lv_at hl 1 rfl) ?_
      refine lv_sipush (v := 160) hx hb dX3_sign_3 (by decide) ?_
      refine zb_icge (tgt := 41) hx hb dX3_sign_6 (by decide) h (fun h => ?_) (fun h => ?_)
      · exact hk41 σ2 _ _ _ Z (lv_sub hl [0] rfl) h
      · refine lv_aload_n hx hb dX3_sign_9 rfl (lv_at hl 0 rfl) ?_
        refine zw_getR F Z zC1 (a := 43) (k := 0) (by decide) zs_43 (by decide) rfl zg_43_0 zq353 (Or.inl rfl) dX3_sign_10 ?_
        refine lv_aload_n hx hb dX3_sign_13 rfl (lv_at hl 0 rfl) ?_
        refine zw_getI F Z zC1 (a := 43) (k := 1) (by decide) zs_43 (by decide) rfl zq354 (Or.inl rfl) dX3_sign_14 ?_
        obtain ⟨r17, hc17, h⟩ := bd_x h
        refine zc_i Z (zr_V F Z (a := 1) (As := [.int (σ2 43 1)]) (zcX9_byteAt l D A0 (σ2 43 1) σ2 r17 hc17) zBX9_byteAt zq631 (by decide) zs_1 zC9.1 rfl ⟨⟨rfl, rfl⟩, Nat.le_of_ble_eq_true rfl, Nat.le_of_ble_eq_true rfl⟩ hl.1 rfl (Nat.le_of_ble_eq_true rfl) dX3_sign_17 ⟨Nat.le_of_ble_eq_true rfl, Nat.le_of_ble_eq_true rfl⟩) (fun _ _ Z => ?_)
        refine lv_bipush (v := 32) hx hb dX3_sign_20 (by decide) ?_
        refine zb_icne (tgt := 41) hx hb dX3_sign_22 (by decide) h (fun h => ?_) (fun h => ?_)
        · exact hk41 σ2 _ _ _ Z (lv_sub hl [0] rfl) h
        · refine lv_aload_n hx hb dX3_sign_25 rfl (lv_at hl 0 rfl) ?_
          refine lv_dup hx hb dX3_sign_26 rfl ?_
          refine zw_getI F Z zC1 (a := 43) (k := 1) (by decide) zs_43 (by decide) rfl zq354 (Or.inl rfl) dX3_sign_27 ?_
          refine lv_iconst (v := 1) hx hb dX3_sign_30 (by decide) ?_
          refine lv_iadd hx hb dX3_sign_31 ?_
          refine zw_putI F Z zC1 (a := 43) (k := 1) (by decide) zs_43 (by decide) rfl (by decide) zq354 (Or.inl rfl) rfl ⟨rfl, rfl⟩ dX3_sign_32 (fun σ32 _ _ eσ32 Z => ?_)
          replace h := lt_w h eσ32
          obtain ⟨x1_35, ex1_35⟩ : ∃ y : Int32, y = x1_2 + 1 := ⟨_, rfl⟩
          replace h := lt_w h ex1_35
          refine lv_iinc (v := x1_35) (lv' := [(1, .int x1_35), (0, .ref (A0 + 43))]) hx hb dX3_sign_35 hl (k := 1) rfl (by rw [ex1_35]; rfl) (by decide) rfl (fun ls hl => ?_)
          refine lv_goto (tgt := 2) hx hb dX3_sign_38 (by decide) ?_
          exact ih2 x1_35 σ32 _ _ _ Z (lv_sub hl [1, 0] rfl) h
  exact hL2 NF 0 σ _ _ _ Z (lv_sub hl [1, 0] rfl) h
set_option maxHeartbeats 4000000 in
set_option maxRecDepth 100000 in
theorem zcX3_sign_46 (l : Launch) (D : va_G) (A0 : Nat) (σ : Mm) (r0 : Int32) (σr : Mm) (h : zfX3_sign_46 σ = some (r0, σr)) : Met l yX3_sign (zws yX3_sign cX3_sign 2 (some .int)) (zR 1 21) (zPc D A0 σ GF 740 [.ref (A0 + 46)]) (zQi D A0 r0 σr GF 740) 0 0 (zA A0) := by
  unfold zfX3_sign_46 at h
  refine zmet (own := RX3) (by decide) rfl (Nat.le_of_ble_eq_true rfl) ?_
  intro p e s m below meth c F hr hlocks _ Z ls hl
  have hl : lv_has ls 2 [(0, .ref (A0 + 46))] := hl
  have hx := F.1.1
  have hb := F.1.2.1
  have hown := F.1.2.2.2.1
  have hts := F.1.2.2.2.2
  refine lv_iconst (v := 0) hx hb dX3_sign_0 (by decide) ?_
  refine lv_istore_n (lv' := [(1, .int 0), (0, .ref (A0 + 46))]) hx hb dX3_sign_1 rfl hl (by decide) rfl (fun ls hl => ?_)
  obtain ⟨k41, ek41, h⟩ := lt_x h
  have hk41 : ∀ (σ41 : Mm) (H : Heap) (locs : List Loc) (ls : Array Slot), zh D A0 σ41 GF 740 s.heap H locs → lv_has ls 2 [(0, .ref (A0 + 46))] → k41 σ41 = some (r0, σr) → W p l e (zR 1 21) s m [.ref (A0 + 46)].toArray below meth c H locs 0 0 (MQ below (zQi D A0 r0 σr GF 740) [.ref (A0 + 46)].toArray s 0 0 (zA A0)) (F0 m 41 ls []) := by
    intro  σ41 H locs ls Z hl h
    rw [ek41] at h
    try dsimp only at h
    refine lv_aload_n hx hb dX3_sign_41 rfl (lv_at hl 0 rfl) ?_
    refine zw_getR F Z zC5 (a := 46) (k := 0) (by decide) zs_46 (by decide) rfl zg_46_0 zq353 (Or.inl rfl) dX3_sign_42 ?_
    refine lv_aload_n hx hb dX3_sign_45 rfl (lv_at hl 0 rfl) ?_
    refine zw_getI F Z zC5 (a := 46) (k := 1) (by decide) zs_46 (by decide) rfl zq354 (Or.inl rfl) dX3_sign_46 ?_
    obtain ⟨r49, hc49, h⟩ := bd_x h
    refine zc_i Z (zr_V F Z (a := 1) (As := [.int (σ41 46 1)]) (zcX9_byteAt l D A0 (σ41 46 1) σ41 r49 hc49) zBX9_byteAt zq631 (by decide) zs_1 zC9.1 rfl ⟨⟨rfl, rfl⟩, Nat.le_of_ble_eq_true rfl, Nat.le_of_ble_eq_true rfl⟩ hl.1 rfl (Nat.le_of_ble_eq_true rfl) dX3_sign_49 ⟨Nat.le_of_ble_eq_true rfl, Nat.le_of_ble_eq_true rfl⟩) (fun _ _ Z => ?_)
    obtain ⟨hq1, hq2⟩ := zpq h
    exact ze_i F Z hr hlocks hq1 hq2 dX3_sign_52
  have hL2 : ∀ (fu2 : Nat) (x1_2 : Int32) (σ2 : Mm) (H : Heap) (locs : List Loc) (ls : Array Slot), zh D A0 σ2 GF 740 s.heap H locs → lv_has ls 2 [(0, .ref (A0 + 46)), (1, .int x1_2)] → zfX3_sign_46_L2 k41 fu2 x1_2 σ2 = some (r0, σr) → W p l e (zR 1 21) s m [.ref (A0 + 46)].toArray below meth c H locs 0 0 (MQ below (zQi D A0 r0 σr GF 740) [.ref (A0 + 46)].toArray s 0 0 (zA A0)) (F0 m 2 ls []) := by
    intro fu2
    induction fu2 with
    | zero => intro x1_2 σ2 H locs ls Z hl h; rw [zfX3_sign_46_L2] at h; cases h
    | succ fu2 ih2 =>
      intro x1_2 σ2 H locs ls Z hl h
      rw [zfX3_sign_46_L2] at h
      refine lv_iload_n hx hb dX3_sign_2 rfl (lv_at hl 1 rfl) ?_
      refine lv_sipush (v := 160) hx hb dX3_sign_3 (by decide) ?_
      refine zb_icge (tgt := 41) hx hb dX3_sign_6 (by decide) h (fun h => ?_) (fun h => ?_)
      · exact hk41 σ2 _ _ _ Z (lv_sub hl [0] rfl) h
      · refine lv_aload_n hx hb dX3_sign_9 rfl (lv_at hl 0 rfl) ?_
        refine zw_getR F Z zC5 (a := 46) (k := 0) (by decide) zs_46 (by decide) rfl zg_46_0 zq353 (Or.inl rfl) dX3_sign_10 ?_
        refine lv_aload_n hx hb dX3_sign_13 rfl (lv_at hl 0 rfl) ?_
        refine zw_getI F Z zC5 (a := 46) (k := 1) (by decide) zs_46 (by decide) rfl zq354 (Or.inl rfl) dX3_sign_14 ?_
        obtain ⟨r17, hc17, h⟩ := bd_x h
        refine zc_i Z (zr_V F Z (a := 1) (As := [.int (σ2 46 1)]) (zcX9_byteAt l D A0 (σ2 46 1) σ2 r17 hc17) zBX9_byteAt zq631 (by decide) zs_1 zC9.1 rfl ⟨⟨rfl, rfl⟩, Nat.le_of_ble_eq_true rfl, Nat.le_of_ble_eq_true rfl⟩ hl.1 rfl (Nat.le_of_ble_eq_true rfl) dX3_sign_17 ⟨Nat.le_of_ble_eq_true rfl, Nat.le_of_ble_eq_true rfl⟩) (fun _ _ Z => ?_)
        refine lv_bipush (v := 32) hx hb dX3_sign_20 (by decide) ?_
        refine zb_icne (tgt := 41) hx hb dX3_sign_22 (by decide) h (fun h => ?_) (fun h => ?_)
        · exact hk41 σ2 _ _ _ Z (lv_sub hl [0] rfl) h
        · refine lv_aload_n hx hb dX3_sign_25 rfl (lv_at hl 0 rfl) ?_
          refine lv_dup hx hb dX3_sign_26 rfl ?_
          refine zw_getI F Z zC5 (a := 46) (k := 1) (by decide) zs_46 (by decide) rfl zq354 (Or.inl rfl) dX3_sign_27 ?_
          refine lv_iconst (v := 1) hx hb dX3_sign_30 (by decide) ?_
          refine lv_iadd hx hb dX3_sign_31 ?_
          refine zw_putI F Z zC5 (a := 46) (k := 1) (by decide) zs_46 (by decide) rfl (by decide) zq354 (Or.inl rfl) rfl ⟨rfl, rfl⟩ dX3_sign_32 (fun σ32 _ _ eσ32 Z => ?_)
          replace h := lt_w h eσ32
          obtain ⟨x1_35, ex1_35⟩ : ∃ y : Int32, y = x1_2 + 1 := ⟨_, rfl⟩
          replace h := lt_w h ex1_35
          refine lv_iinc (v := x1_35) (lv' := [(1, .int x1_35), (0, .ref (A0 + 46))]) hx hb dX3_sign_35 hl (k := 1) rfl (by rw [ex1_35]; rfl) (by decide) rfl (fun ls hl => ?_)
          refine lv_goto (tgt := 2) hx hb dX3_sign_38 (by decide) ?_
          exact ih2 x1_35 σ32 _ _ _ Z (lv_sub hl [1, 0] rfl) h
  exact hL2 NF 0 σ _ _ _ Z (lv_sub hl [1, 0] rfl) h
set_option maxHeartbeats 4000000 in
set_option maxRecDepth 100000 in
theorem zcX1_kindOf (l : Launch) (D : va_G) (A0 : Nat) (x0 : Int32) (q1 : Nat) (hq1 : zIsM q1) (σ : Mm) (r0 : Int32) (h : zfX1_kindOf x0 q1 σ = r0) : Met l yX1_kindOf (zws yX1_kindOf cX1_kindOf 2 (some .int)) (zR 0 0) (zPc D A0 σ GF 740 [.int x0, .ref (A0 + q1)]) (zQi D A0 r0 σ GF 740) 0 0 (zA A0) := by
  unfold zfX1_kindOf at h
  refine zmet (own := RX1) (by decide) rfl (Nat.le_of_ble_eq_true rfl) ?_
  intro p e s m below meth c F hr hlocks _ Z ls hl
  have hl : lv_has ls 2 [(0, .int x0), (1, .ref (A0 + q1))] := hl
  have hx := F.1.1
  have hb := F.1.2.1
  have hown := F.1.2.2.2.1
  have hts := F.1.2.2.2.2
  refine lv_iload_n hx hb dX1_kindOf_0 rfl (lv_at hl 0 rfl) ?_
  refine zsp h (fun hs1_0 h => ?_) (fun hs1_0 h => ?_)
  · refine lv_lookup (tgt := 50) (off := 49) hx hb dX1_kindOf_1 (by decide) (by first | (rw [hs1_0]; done) | (rw [hs1_0]; decide)) (by decide) ?_
    refine lv_aload_n hx hb dX1_kindOf_50 rfl (lv_at hl 1 rfl) ?_
    refine zw_getI F Z zC0 (a := q1) (k := 1) (zltM_0 hq1) (zsM_0 hq1) (by decide) rfl zq137 (Or.inl rfl) dX1_kindOf_51 ?_
    refine lv_bipush (v := 6) hx hb dX1_kindOf_54 (by decide) ?_
    refine zb_icge (tgt := 63) hx hb dX1_kindOf_56 (by decide) h (fun h => ?_) (fun h => ?_)
    · refine lv_iconst (v := (-1)) hx hb dX1_kindOf_63 (by decide) ?_
      exact ze_i F Z hr hlocks h rfl dX1_kindOf_64
    · refine lv_iconst (v := 1) hx hb dX1_kindOf_59 (by decide) ?_
      refine lv_goto (tgt := 64) hx hb dX1_kindOf_60 (by decide) ?_
      exact ze_i F Z hr hlocks h rfl dX1_kindOf_64
  · refine zsp h (fun hs1_1 h => ?_) (fun hs1_1 h => ?_)
    · refine lv_lookup (tgt := 65) (off := 64) hx hb dX1_kindOf_1 (by decide) (by first | (rw [hs1_1]; done) | (rw [hs1_1]; decide)) (by decide) ?_
      refine lv_aload_n hx hb dX1_kindOf_65 rfl (lv_at hl 1 rfl) ?_
      refine zw_getI F Z zC0 (a := q1) (k := 2) (zltM_0 hq1) (zsM_0 hq1) (by decide) rfl zq141 (Or.inl rfl) dX1_kindOf_66 ?_
      refine zb_ifeq (tgt := 76) hx hb dX1_kindOf_69 (by decide) h (fun h => ?_) (fun h => ?_)
      · refine lv_iconst (v := 2) hx hb dX1_kindOf_76 (by decide) ?_
        exact ze_i F Z hr hlocks h rfl dX1_kindOf_77
      · refine lv_iconst (v := (-1)) hx hb dX1_kindOf_72 (by decide) ?_
        refine lv_goto (tgt := 77) hx hb dX1_kindOf_73 (by decide) ?_
        exact ze_i F Z hr hlocks h rfl dX1_kindOf_77
    · refine zsp h (fun hs1_2 h => ?_) (fun hs1_2 h => ?_)
      · refine lv_lookup (tgt := 36) (off := 35) hx hb dX1_kindOf_1 (by decide) (by first | (rw [hs1_2]; done) | (rw [hs1_2]; decide)) (by decide) ?_
        refine lv_aload_n hx hb dX1_kindOf_36 rfl (lv_at hl 1 rfl) ?_
        refine zw_getI F Z zC0 (a := q1) (k := 0) (zltM_0 hq1) (zsM_0 hq1) (by decide) rfl zq132 (Or.inl rfl) dX1_kindOf_37 ?_
        refine lv_iconst (v := 5) hx hb dX1_kindOf_40 (by decide) ?_
        refine zb_icge (tgt := 48) hx hb dX1_kindOf_41 (by decide) h (fun h => ?_) (fun h => ?_)
        · refine lv_iconst (v := (-1)) hx hb dX1_kindOf_48 (by decide) ?_
          exact ze_i F Z hr hlocks h rfl dX1_kindOf_49
        · refine lv_iconst (v := 0) hx hb dX1_kindOf_44 (by decide) ?_
          refine lv_goto (tgt := 49) hx hb dX1_kindOf_45 (by decide) ?_
          exact ze_i F Z hr hlocks h rfl dX1_kindOf_49
      · refine lv_lookup (tgt := 78) (off := 77) hx hb dX1_kindOf_1 (by decide) ((lv_osw hs1_0 (a := 98) (by decide)).trans ((lv_osw hs1_1 (a := 108) (by decide)).trans ((lv_osw hs1_2 (a := 115) (by decide)).trans (rfl)))) (by decide) ?_
        refine lv_iconst (v := (-1)) hx hb dX1_kindOf_78 (by decide) ?_
        exact ze_i F Z hr hlocks h rfl dX1_kindOf_79
set_option maxHeartbeats 4000000 in
set_option maxRecDepth 100000 in
theorem zcX3_wrong_43 (l : Launch) (D : va_G) (A0 : Nat) (σ : Mm) (r0 : Int32) (σr : Mm) (h : zfX3_wrong_43 σ = some (r0, σr)) : Met l yX3_wrong (zws yX3_wrong cX3_wrong 1 (some .boolean)) (zR 0 0) (zPc D A0 σ GF 740 [.ref (A0 + 43)]) (zQi D A0 r0 σr GF 740) 0 0 (zA A0) := by
  unfold zfX3_wrong_43 at h
  refine zmet (own := RX3) (by decide) rfl (Nat.le_of_ble_eq_true rfl) ?_
  intro p e s m below meth c F hr hlocks _ Z ls hl
  have hl : lv_has ls 1 [(0, .ref (A0 + 43))] := hl
  have hx := F.1.1
  have hb := F.1.2.1
  have hown := F.1.2.2.2.1
  have hts := F.1.2.2.2.2
  refine lv_aload_n hx hb dX3_wrong_0 rfl (lv_at hl 0 rfl) ?_
  refine lv_aload_n hx hb dX3_wrong_1 rfl (lv_at hl 0 rfl) ?_
  refine zw_getI F Z zC1 (a := 43) (k := 1) (by decide) zs_43 (by decide) rfl zq354 (Or.inl rfl) dX3_wrong_2 ?_
  refine zw_putI F Z zC1 (a := 43) (k := 2) (by decide) zs_43 (by decide) rfl (by decide) zq359 (Or.inl rfl) rfl ⟨rfl, rfl⟩ dX3_wrong_5 (fun σ5 _ _ eσ5 Z => ?_)
  replace h := lt_w h eσ5
  refine lv_iconst (v := 0) hx hb dX3_wrong_8 (by decide) ?_
  obtain ⟨hq1, hq2⟩ := zpq h
  exact ze_z F Z hr hlocks (by decide) hq1 hq2 dX3_wrong_9
set_option maxHeartbeats 4000000 in
set_option maxRecDepth 100000 in
theorem zcX3_wrong_46 (l : Launch) (D : va_G) (A0 : Nat) (σ : Mm) (r0 : Int32) (σr : Mm) (h : zfX3_wrong_46 σ = some (r0, σr)) : Met l yX3_wrong (zws yX3_wrong cX3_wrong 1 (some .boolean)) (zR 0 0) (zPc D A0 σ GF 740 [.ref (A0 + 46)]) (zQi D A0 r0 σr GF 740) 0 0 (zA A0) := by
  unfold zfX3_wrong_46 at h
  refine zmet (own := RX3) (by decide) rfl (Nat.le_of_ble_eq_true rfl) ?_
  intro p e s m below meth c F hr hlocks _ Z ls hl
  have hl : lv_has ls 1 [(0, .ref (A0 + 46))] := hl
  have hx := F.1.1
  have hb := F.1.2.1
  have hown := F.1.2.2.2.1
  have hts := F.1.2.2.2.2
  refine lv_aload_n hx hb dX3_wrong_0 rfl (lv_at hl 0 rfl) ?_
  refine lv_aload_n hx hb dX3_wrong_1 rfl (lv_at hl 0 rfl) ?_
  refine zw_getI F Z zC5 (a := 46) (k := 1) (by decide) zs_46 (by decide) rfl zq354 (Or.inl rfl) dX3_wrong_2 ?_
  refine zw_putI F Z zC5 (a := 46) (k := 2) (by decide) zs_46 (by decide) rfl (by decide) zq359 (Or.inl rfl) rfl ⟨rfl, rfl⟩ dX3_wrong_5 (fun σ5 _ _ eσ5 Z => ?_)
  replace h := lt_w h eσ5
  refine lv_iconst (v := 0) hx hb dX3_wrong_8 (by decide) ?_
  obtain ⟨hq1, hq2⟩ := zpq h
  exact ze_z F Z hr hlocks (by decide) hq1 hq2 dX3_wrong_9
set_option maxHeartbeats 4000000 in
set_option maxRecDepth 100000 in
theorem zcX1_itemOf (l : Launch) (D : va_G) (A0 : Nat) (x0 : Int32) (x1 : Int32) (σ : Mm) (r0 : Int32) (h : zfX1_itemOf x0 x1 σ = some r0) : Met l yX1_itemOf (zws yX1_itemOf cX1_itemOf 4 (some .int)) (zR 6 200) (zPc D A0 σ GF 740 [.int x0, .int x1]) (zQi D A0 r0 σ GF 740) 0 0 (zA A0) := by
  unfold zfX1_itemOf at h
  refine zmet (own := RX1) (by decide) rfl (Nat.le_of_ble_eq_true rfl) ?_
  intro p e s m below meth c F hr hlocks _ Z ls hl
  have hl : lv_has ls 4 [(0, .int x0), (1, .int x1)] := hl
  have hx := F.1.1
  have hb := F.1.2.1
  have hown := F.1.2.2.2.1
  have hts := F.1.2.2.2.2
  refine lv_iload_n hx hb dX1_itemOf_0 rfl (lv_at hl 0 rfl) ?_
  obtain ⟨j14, ej14, h⟩ := lt_x h
  have hj14 : ∀  (H : Heap) (locs : List Loc) (ls : Array Slot), zh D A0 σ GF 740 s.heap H locs → lv_has ls 4 [] → j14 () = some r0 → W p l e (zR 6 200) s m [.int x0, .int x1].toArray below meth c H locs 0 0 (MQ below (zQi D A0 r0 σ GF 740) [.int x0, .int x1].toArray s 0 0 (zA A0)) (F0 m 14 ls []) := by
    intro  H locs ls Z hl h
    rw [ej14] at h
    try dsimp only at h
    refine lv_iconst (v := (-1)) hx hb dX1_itemOf_14 (by decide) ?_
    have hq := Option.some.inj h
    exact ze_i F Z hr hlocks hq rfl dX1_itemOf_15
  refine zb_iflt (tgt := 14) hx hb dX1_itemOf_1 (by decide) h (fun h => ?_) (fun h => ?_)
  · exact hj14  _ _ _ Z (lv_sub hl [] rfl) h
  · refine lv_iload_n hx hb dX1_itemOf_4 rfl (lv_at hl 0 rfl) ?_
    refine lv_iconst (v := 1) hx hb dX1_itemOf_5 (by decide) ?_
    refine lv_iadd hx hb dX1_itemOf_6 ?_
    refine zw_gets F Z (i := 0) (by decide) rfl (by decide) dX1_itemOf_7 ?_
    refine zw_tlen F Z (i := 0) (v := 4) (by decide) rfl dX1_itemOf_10 ?_
    refine zb_iclt (tgt := 16) hx hb dX1_itemOf_11 (by decide) h (fun h => ?_) (fun h => ?_)
    · refine zw_gets F Z (i := 0) (by decide) rfl (by decide) dX1_itemOf_16 ?_
      refine lv_iload_n hx hb dX1_itemOf_19 rfl (lv_at hl 0 rfl) ?_
      refine lv_iconst (v := 1) hx hb dX1_itemOf_20 (by decide) ?_
      refine lv_iadd hx hb dX1_itemOf_21 ?_
      obtain ⟨hk22, h⟩ := ck_x h
      refine zw_tald F Z (i := 0) (by decide) hk22 dX1_itemOf_22 ?_
      refine zw_ldcS F (i := 0) (tx := "ncrvmwqf") (by decide) dX1_itemOf_23 ?_
      refine zw_slen l F Z hl.1 (by decide) zq650 ⟨Nat.le_of_ble_eq_true rfl, Nat.le_of_ble_eq_true rfl⟩ ⟨Nat.le_of_ble_eq_true rfl, Nat.le_of_ble_eq_true rfl⟩ (Nat.le_of_ble_eq_true rfl) dX1_itemOf_25 (fun _ _ Z => ?_)
      refine zw_zmin F hl.1 zq665 (Nat.le_of_ble_eq_true rfl) (Nat.le_of_ble_eq_true rfl) (Nat.le_of_ble_eq_true rfl) (Nat.le_of_ble_eq_true rfl) dX1_itemOf_28 ?_
      refine lv_topi (fun x2_31 ex2_31 => ?_)
      replace h := lt_w h ex2_31
      refine lv_istore_n (lv' := [(2, .int x2_31), (0, .int x0), (1, .int x1)]) hx hb dX1_itemOf_31 rfl hl (by decide) rfl (fun ls hl => ?_)
      refine zw_gets F Z (i := 0) (by decide) rfl (by decide) dX1_itemOf_32 ?_
      refine lv_iload_n hx hb dX1_itemOf_35 rfl (lv_at hl 1 rfl) ?_
      obtain ⟨hk36, h⟩ := ck_x h
      refine zw_tald F Z (i := 0) (by decide) hk36 dX1_itemOf_36 ?_
      refine lv_topi (fun x3_37 ex3_37 => ?_)
      replace h := lt_w h ex3_37
      refine lv_istore_n (lv' := [(3, .int x3_37), (2, .int x2_31), (0, .int x0), (1, .int x1)]) hx hb dX1_itemOf_37 rfl hl (by decide) rfl (fun ls hl => ?_)
      obtain ⟨k53, ek53, h⟩ := lt_x h
      have hk53 : ∀ (x3_53 : Int32) (H : Heap) (locs : List Loc) (ls : Array Slot), zh D A0 σ GF 740 s.heap H locs → lv_has ls 4 [(3, .int x3_53)] → k53 x3_53 = some r0 → W p l e (zR 6 200) s m [.int x0, .int x1].toArray below meth c H locs 0 0 (MQ below (zQi D A0 r0 σ GF 740) [.int x0, .int x1].toArray s 0 0 (zA A0)) (F0 m 53 ls []) := by
        intro x3_53 H locs ls Z hl h
        rw [ek53] at h
        try dsimp only at h
        refine lv_iload_n hx hb dX1_itemOf_53 rfl (lv_at hl 0 rfl) ?_
        have hq := Option.some.inj h
        exact ze_i F Z hr hlocks hq rfl dX1_itemOf_54
      obtain ⟨k61, ek61, h⟩ := lt_x h
      have hk61 : ∀  (H : Heap) (locs : List Loc) (ls : Array Slot), zh D A0 σ GF 740 s.heap H locs → lv_has ls 4 [] → k61 () = some r0 → W p l e (zR 6 200) s m [.int x0, .int x1].toArray below meth c H locs 0 0 (MQ below (zQi D A0 r0 σ GF 740) [.int x0, .int x1].toArray s 0 0 (zA A0)) (F0 m 61 ls []) := by
        intro  H locs ls Z hl h
        rw [ek61] at h
        try dsimp only at h
        refine lv_iconst (v := (-1)) hx hb dX1_itemOf_61 (by decide) ?_
        have hq := Option.some.inj h
        exact ze_i F Z hr hlocks hq rfl dX1_itemOf_62
      have hL38 : ∀ (fu38 : Nat) (x3_38 : Int32) (H : Heap) (locs : List Loc) (ls : Array Slot), zh D A0 σ GF 740 s.heap H locs → lv_has ls 4 [(1, .int x1), (2, .int x2_31), (3, .int x3_38)] → zfX1_itemOf_L38 x2_31 k61 x1 k53 fu38 x3_38 = some r0 → W p l e (zR 6 200) s m [.int x0, .int x1].toArray below meth c H locs 0 0 (MQ below (zQi D A0 r0 σ GF 740) [.int x0, .int x1].toArray s 0 0 (zA A0)) (F0 m 38 ls []) := by
        intro fu38
        induction fu38 with
        | zero => intro x3_38 H locs ls Z hl h; rw [zfX1_itemOf_L38] at h; cases h
        | succ fu38 ih38 =>
          intro x3_38 H locs ls Z hl h
          rw [zfX1_itemOf_L38] at h
          refine lv_iload_n hx hb dX1_itemOf_38 rfl (lv_at hl 2 rfl) ?_
          refine lv_iload_n hx hb dX1_itemOf_39 rfl (lv_at hl 1 rfl) ?_
          refine zb_icge (tgt := 61) hx hb dX1_itemOf_40 (by decide) h (fun h => ?_) (fun h => ?_)
          · exact hk61  _ _ _ Z (lv_sub hl [] rfl) h
          · refine zw_ldcS F (i := 0) (tx := "ncrvmwqf") (by decide) dX1_itemOf_43 ?_
            refine lv_iload_n hx hb dX1_itemOf_45 rfl (lv_at hl 2 rfl) ?_
            obtain ⟨hk46, h⟩ := ck_x h
            refine zw_schr l F Z hl.1 (by decide) hk46 zq668 ⟨Nat.le_of_ble_eq_true rfl, Nat.le_of_ble_eq_true rfl⟩ ⟨Nat.le_of_ble_eq_true rfl, Nat.le_of_ble_eq_true rfl⟩ (Nat.le_of_ble_eq_true rfl) dX1_itemOf_46 (fun _ _ Z => ?_)
            refine lv_iload_n hx hb dX1_itemOf_49 rfl (lv_at hl 0 rfl) ?_
            refine zb_icne (tgt := 55) hx hb dX1_itemOf_50 (by decide) h (fun h => ?_) (fun h => ?_)
            · obtain ⟨x3_55, ex3_55⟩ : ∃ y : Int32, y = x3_38 + 1 := ⟨_, rfl⟩
              replace h := lt_w h ex3_55
              refine lv_iinc (v := x3_55) (lv' := [(3, .int x3_55), (1, .int x1), (2, .int x2_31)]) hx hb dX1_itemOf_55 hl (k := 2) rfl (by rw [ex3_55]; rfl) (by decide) rfl (fun ls hl => ?_)
              refine lv_goto (tgt := 38) hx hb dX1_itemOf_58 (by decide) ?_
              exact ih38 x3_55 _ _ _ Z (lv_sub hl [1, 2, 0] rfl) h
            · exact hk53 x3_38 _ _ _ Z (lv_sub hl [2] rfl) h
      exact hL38 NF x3_37 _ _ _ Z (lv_sub hl [3, 1, 0] rfl) h
    · exact hj14  _ _ _ Z (lv_sub hl [] rfl) h
set_option maxHeartbeats 4000000 in
set_option maxRecDepth 100000 in
theorem zcX3_number_43 (l : Launch) (D : va_G) (A0 : Nat) (x1 : Int32) (σ : Mm) (r0 : Int32) (σr : Mm) (h : zfX3_number_43 x1 σ = some (r0, σr)) : Met l yX3_number (zws yX3_number cX3_number 6 (some .int)) (zR 1 21) (zPc D A0 σ GF 740 [.ref (A0 + 43), .int x1]) (zQi D A0 r0 σr GF 740) 0 0 (zA A0) := by
  unfold zfX3_number_43 at h
  refine zmet (own := RX3) (by decide) rfl (Nat.le_of_ble_eq_true rfl) ?_
  intro p e s m below meth c F hr hlocks _ Z ls hl
  have hl : lv_has ls 6 [(0, .ref (A0 + 43)), (1, .int x1)] := hl
  have hx := F.1.1
  have hb := F.1.2.1
  have hown := F.1.2.2.2.1
  have hts := F.1.2.2.2.2
  refine lv_aload_n hx hb dX3_number_0 rfl (lv_at hl 0 rfl) ?_
  refine zw_getI F Z zC1 (a := 43) (k := 1) (by decide) zs_43 (by decide) rfl zq354 (Or.inl rfl) dX3_number_1 ?_
  refine lv_topi (fun x2_4 ex2_4 => ?_)
  replace h := lt_w h ex2_4
  refine lv_istore_n (lv' := [(2, .int x2_4), (0, .ref (A0 + 43)), (1, .int x1)]) hx hb dX3_number_4 rfl hl (by decide) rfl (fun ls hl => ?_)
  refine lv_iconst (v := 0) hx hb dX3_number_5 (by decide) ?_
  refine lv_istore_n (lv' := [(3, .int 0), (2, .int x2_4), (0, .ref (A0 + 43)), (1, .int x1)]) hx hb dX3_number_6 rfl hl (by decide) rfl (fun ls hl => ?_)
  refine lv_iconst (v := 0) hx hb dX3_number_7 (by decide) ?_
  refine lv_istore (lv' := [(4, .int 0), (3, .int 0), (2, .int x2_4), (0, .ref (A0 + 43)), (1, .int x1)]) hx hb dX3_number_8 hl (by decide) rfl (fun ls hl => ?_)
  obtain ⟨k44, ek44, h⟩ := lt_x h
  have hk44 : ∀ (x3_44 : Int32) (σ44 : Mm) (H : Heap) (locs : List Loc) (ls : Array Slot), zh D A0 σ44 GF 740 s.heap H locs → lv_has ls 6 [(0, .ref (A0 + 43)), (2, .int x2_4), (3, .int x3_44)] → k44 x3_44 σ44 = some (r0, σr) → W p l e (zR 1 21) s m [.ref (A0 + 43), .int x1].toArray below meth c H locs 0 0 (MQ below (zQi D A0 r0 σr GF 740) [.ref (A0 + 43), .int x1].toArray s 0 0 (zA A0)) (F0 m 44 ls []) := by
    intro x3_44 σ44 H locs ls Z hl h
    rw [ek44] at h
    try dsimp only at h
    refine lv_goto (tgt := 87) hx hb dX3_number_44 (by decide) ?_
    refine lv_aload_n hx hb dX3_number_87 rfl (lv_at hl 0 rfl) ?_
    refine zw_getI F Z zC1 (a := 43) (k := 1) (by decide) zs_43 (by decide) rfl zq354 (Or.inl rfl) dX3_number_88 ?_
    refine lv_iload_n hx hb dX3_number_91 rfl (lv_at hl 1 rfl) ?_
    refine zb_icne (tgt := 105) hx hb dX3_number_92 (by decide) h (fun h => ?_) (fun h => ?_)
    · refine lv_iload_n hx hb dX3_number_105 rfl (lv_at hl 2 rfl) ?_
      obtain ⟨hq1, hq2⟩ := zpq h
      exact ze_i F Z hr hlocks hq1 hq2 dX3_number_106
    · refine lv_aload_n hx hb dX3_number_95 rfl (lv_at hl 0 rfl) ?_
      refine lv_aload_n hx hb dX3_number_96 rfl (lv_at hl 0 rfl) ?_
      refine zw_getI F Z zC1 (a := 43) (k := 1) (by decide) zs_43 (by decide) rfl zq354 (Or.inl rfl) dX3_number_97 ?_
      refine zw_putI F Z zC1 (a := 43) (k := 2) (by decide) zs_43 (by decide) rfl (by decide) zq359 (Or.inl rfl) rfl ⟨rfl, rfl⟩ dX3_number_100 (fun σ100 _ _ eσ100 Z => ?_)
      replace h := lt_w h eσ100
      refine lv_iconst (v := (-1)) hx hb dX3_number_103 (by decide) ?_
      obtain ⟨hq1, hq2⟩ := zpq h
      exact ze_i F Z hr hlocks hq1 hq2 dX3_number_104
  obtain ⟨k53, ek53, h⟩ := lt_x h
  have hk53 : ∀ (σ53 : Mm) (H : Heap) (locs : List Loc) (ls : Array Slot), zh D A0 σ53 GF 740 s.heap H locs → lv_has ls 6 [(0, .ref (A0 + 43))] → k53 σ53 = some (r0, σr) → W p l e (zR 1 21) s m [.ref (A0 + 43), .int x1].toArray below meth c H locs 0 0 (MQ below (zQi D A0 r0 σr GF 740) [.ref (A0 + 43), .int x1].toArray s 0 0 (zA A0)) (F0 m 53 ls []) := by
    intro  σ53 H locs ls Z hl h
    rw [ek53] at h
    try dsimp only at h
    refine lv_aload_n hx hb dX3_number_53 rfl (lv_at hl 0 rfl) ?_
    refine lv_aload_n hx hb dX3_number_54 rfl (lv_at hl 0 rfl) ?_
    refine zw_getI F Z zC1 (a := 43) (k := 1) (by decide) zs_43 (by decide) rfl zq354 (Or.inl rfl) dX3_number_55 ?_
    refine zw_putI F Z zC1 (a := 43) (k := 2) (by decide) zs_43 (by decide) rfl (by decide) zq359 (Or.inl rfl) rfl ⟨rfl, rfl⟩ dX3_number_58 (fun σ58 _ _ eσ58 Z => ?_)
    replace h := lt_w h eσ58
    refine lv_iconst (v := (-1)) hx hb dX3_number_61 (by decide) ?_
    obtain ⟨hq1, hq2⟩ := zpq h
    exact ze_i F Z hr hlocks hq1 hq2 dX3_number_62
  obtain ⟨k87, ek87, h⟩ := lt_x h
  have hk87 : ∀ (x3_87 : Int32) (σ87 : Mm) (H : Heap) (locs : List Loc) (ls : Array Slot), zh D A0 σ87 GF 740 s.heap H locs → lv_has ls 6 [(0, .ref (A0 + 43)), (2, .int x2_4), (3, .int x3_87)] → k87 x3_87 σ87 = some (r0, σr) → W p l e (zR 1 21) s m [.ref (A0 + 43), .int x1].toArray below meth c H locs 0 0 (MQ below (zQi D A0 r0 σr GF 740) [.ref (A0 + 43), .int x1].toArray s 0 0 (zA A0)) (F0 m 87 ls []) := by
    intro x3_87 σ87 H locs ls Z hl h
    rw [ek87] at h
    try dsimp only at h
    refine lv_aload_n hx hb dX3_number_87 rfl (lv_at hl 0 rfl) ?_
    refine zw_getI F Z zC1 (a := 43) (k := 1) (by decide) zs_43 (by decide) rfl zq354 (Or.inl rfl) dX3_number_88 ?_
    refine lv_iload_n hx hb dX3_number_91 rfl (lv_at hl 1 rfl) ?_
    refine zb_icne (tgt := 105) hx hb dX3_number_92 (by decide) h (fun h => ?_) (fun h => ?_)
    · refine lv_iload_n hx hb dX3_number_105 rfl (lv_at hl 2 rfl) ?_
      obtain ⟨hq1, hq2⟩ := zpq h
      exact ze_i F Z hr hlocks hq1 hq2 dX3_number_106
    · refine lv_aload_n hx hb dX3_number_95 rfl (lv_at hl 0 rfl) ?_
      refine lv_aload_n hx hb dX3_number_96 rfl (lv_at hl 0 rfl) ?_
      refine zw_getI F Z zC1 (a := 43) (k := 1) (by decide) zs_43 (by decide) rfl zq354 (Or.inl rfl) dX3_number_97 ?_
      refine zw_putI F Z zC1 (a := 43) (k := 2) (by decide) zs_43 (by decide) rfl (by decide) zq359 (Or.inl rfl) rfl ⟨rfl, rfl⟩ dX3_number_100 (fun σ100_1 _ _ eσ100_1 Z => ?_)
      replace h := lt_w h eσ100_1
      refine lv_iconst (v := (-1)) hx hb dX3_number_103 (by decide) ?_
      obtain ⟨hq1, hq2⟩ := zpq h
      exact ze_i F Z hr hlocks hq1 hq2 dX3_number_104
  have hL10 : ∀ (fu10 : Nat) (x3_10 : Int32) (x4_10 : Int32) (σ10 : Mm) (H : Heap) (locs : List Loc) (ls : Array Slot), zh D A0 σ10 GF 740 s.heap H locs → lv_has ls 6 [(0, .ref (A0 + 43)), (1, .int x1), (2, .int x2_4), (3, .int x3_10), (4, .int x4_10)] → zfX3_number_43_L10 x1 k87 k53 k44 fu10 x3_10 x4_10 σ10 = some (r0, σr) → W p l e (zR 1 21) s m [.ref (A0 + 43), .int x1].toArray below meth c H locs 0 0 (MQ below (zQi D A0 r0 σr GF 740) [.ref (A0 + 43), .int x1].toArray s 0 0 (zA A0)) (F0 m 10 ls []) := by
    intro fu10
    induction fu10 with
    | zero => intro x3_10 x4_10 σ10 H locs ls Z hl h; rw [zfX3_number_43_L10] at h; cases h
    | succ fu10 ih10 =>
      intro x3_10 x4_10 σ10 H locs ls Z hl h
      rw [zfX3_number_43_L10] at h
      refine lv_iload hx hb dX3_number_10 (lv_at hl 4 rfl) ?_
      refine lv_iload_n hx hb dX3_number_12 rfl (lv_at hl 1 rfl) ?_
      refine zb_icgt (tgt := 87) hx hb dX3_number_13 (by decide) h (fun h => ?_) (fun h => ?_)
      · exact hk87 x3_10 σ10 _ _ _ Z (lv_sub hl [0, 2, 3] rfl) h
      · refine lv_aload_n hx hb dX3_number_16 rfl (lv_at hl 0 rfl) ?_
        refine zw_getR F Z zC1 (a := 43) (k := 0) (by decide) zs_43 (by decide) rfl zg_43_0 zq353 (Or.inl rfl) dX3_number_17 ?_
        refine lv_aload_n hx hb dX3_number_20 rfl (lv_at hl 0 rfl) ?_
        refine zw_getI F Z zC1 (a := 43) (k := 1) (by decide) zs_43 (by decide) rfl zq354 (Or.inl rfl) dX3_number_21 ?_
        obtain ⟨r24, hc24, h⟩ := bd_x h
        refine zc_i Z (zr_V F Z (a := 1) (As := [.int (σ10 43 1)]) (zcX9_byteAt l D A0 (σ10 43 1) σ10 r24 hc24) zBX9_byteAt zq631 (by decide) zs_1 zC9.1 rfl ⟨⟨rfl, rfl⟩, Nat.le_of_ble_eq_true rfl, Nat.le_of_ble_eq_true rfl⟩ hl.1 rfl (Nat.le_of_ble_eq_true rfl) dX3_number_24 ⟨Nat.le_of_ble_eq_true rfl, Nat.le_of_ble_eq_true rfl⟩) (fun _ _ Z => ?_)
        refine lv_bipush (v := 48) hx hb dX3_number_27 (by decide) ?_
        refine lv_isub hx hb dX3_number_29 ?_
        refine lv_topi (fun x5_30 ex5_30 => ?_)
        replace h := lt_w h ex5_30
        refine lv_istore (lv' := [(5, .int x5_30), (0, .ref (A0 + 43)), (1, .int x1), (2, .int x2_4), (3, .int x3_10), (4, .int x4_10)]) hx hb dX3_number_30 hl (by decide) rfl (fun ls hl => ?_)
        refine lv_iload hx hb dX3_number_32 (lv_at hl 0 rfl) ?_
        refine zb_iflt (tgt := 87) hx hb dX3_number_34 (by decide) h (fun h => ?_) (fun h => ?_)
        · exact hk87 x3_10 σ10 _ _ _ Z (lv_sub hl [1, 3, 4] rfl) h
        · refine lv_iload hx hb dX3_number_37 (lv_at hl 0 rfl) ?_
          refine lv_bipush (v := 9) hx hb dX3_number_39 (by decide) ?_
          refine zb_icle (tgt := 47) hx hb dX3_number_41 (by decide) h (fun h => ?_) (fun h => ?_)
          · refine lv_iload hx hb dX3_number_47 (lv_at hl 5 rfl) ?_
            refine lv_iload_n hx hb dX3_number_49 rfl (lv_at hl 2 rfl) ?_
            refine zb_icne (tgt := 63) hx hb dX3_number_50 (by decide) h (fun h => ?_) (fun h => ?_)
            · refine lv_iload_n hx hb dX3_number_63 rfl (lv_at hl 4 rfl) ?_
              refine lv_bipush (v := 10) hx hb dX3_number_64 (by decide) ?_
              refine lv_imul hx hb dX3_number_66 ?_
              refine lv_iload hx hb dX3_number_67 (lv_at hl 0 rfl) ?_
              refine lv_iadd hx hb dX3_number_69 ?_
              refine lv_topi (fun x3_70 ex3_70 => ?_)
              replace h := lt_w h ex3_70
              refine lv_istore_n (lv' := [(3, .int x3_70), (5, .int x5_30), (0, .ref (A0 + 43)), (1, .int x1), (2, .int x2_4), (4, .int x4_10)]) hx hb dX3_number_70 rfl hl (by decide) rfl (fun ls hl => ?_)
              refine lv_aload_n hx hb dX3_number_71 rfl (lv_at hl 2 rfl) ?_
              refine lv_dup hx hb dX3_number_72 rfl ?_
              refine zw_getI F Z zC1 (a := 43) (k := 1) (by decide) zs_43 (by decide) rfl zq354 (Or.inl rfl) dX3_number_73 ?_
              refine lv_iconst (v := 1) hx hb dX3_number_76 (by decide) ?_
              refine lv_iadd hx hb dX3_number_77 ?_
              refine zw_putI F Z zC1 (a := 43) (k := 1) (by decide) zs_43 (by decide) rfl (by decide) zq354 (Or.inl rfl) rfl ⟨rfl, rfl⟩ dX3_number_78 (fun σ78 _ _ eσ78 Z => ?_)
              replace h := lt_w h eσ78
              obtain ⟨x4_81, ex4_81⟩ : ∃ y : Int32, y = x4_10 + 1 := ⟨_, rfl⟩
              replace h := lt_w h ex4_81
              refine lv_iinc (v := x4_81) (lv' := [(4, .int x4_81), (3, .int x3_70), (5, .int x5_30), (0, .ref (A0 + 43)), (1, .int x1), (2, .int x2_4)]) hx hb dX3_number_81 hl (k := 5) rfl (by rw [ex4_81]; rfl) (by decide) rfl (fun ls hl => ?_)
              refine lv_goto (tgt := 10) hx hb dX3_number_84 (by decide) ?_
              exact ih10 x3_70 x4_81 σ78 _ _ _ Z (lv_sub hl [3, 4, 5, 1, 0] rfl) h
            · exact hk53 σ10 _ _ _ Z (lv_sub hl [1] rfl) h
          · exact hk44 x3_10 σ10 _ _ _ Z (lv_sub hl [1, 3, 4] rfl) h
  exact hL10 NF 0 0 σ _ _ _ Z (lv_sub hl [3, 4, 2, 1, 0] rfl) h
set_option maxHeartbeats 4000000 in
set_option maxRecDepth 100000 in
theorem zcX3_number_46 (l : Launch) (D : va_G) (A0 : Nat) (x1 : Int32) (σ : Mm) (r0 : Int32) (σr : Mm) (h : zfX3_number_46 x1 σ = some (r0, σr)) : Met l yX3_number (zws yX3_number cX3_number 6 (some .int)) (zR 1 21) (zPc D A0 σ GF 740 [.ref (A0 + 46), .int x1]) (zQi D A0 r0 σr GF 740) 0 0 (zA A0) := by
  unfold zfX3_number_46 at h
  refine zmet (own := RX3) (by decide) rfl (Nat.le_of_ble_eq_true rfl) ?_
  intro p e s m below meth c F hr hlocks _ Z ls hl
  have hl : lv_has ls 6 [(0, .ref (A0 + 46)), (1, .int x1)] := hl
  have hx := F.1.1
  have hb := F.1.2.1
  have hown := F.1.2.2.2.1
  have hts := F.1.2.2.2.2
  refine lv_aload_n hx hb dX3_number_0 rfl (lv_at hl 0 rfl) ?_
  refine zw_getI F Z zC5 (a := 46) (k := 1) (by decide) zs_46 (by decide) rfl zq354 (Or.inl rfl) dX3_number_1 ?_
  refine lv_topi (fun x2_4 ex2_4 => ?_)
  replace h := lt_w h ex2_4
  refine lv_istore_n (lv' := [(2, .int x2_4), (0, .ref (A0 + 46)), (1, .int x1)]) hx hb dX3_number_4 rfl hl (by decide) rfl (fun ls hl => ?_)
  refine lv_iconst (v := 0) hx hb dX3_number_5 (by decide) ?_
  refine lv_istore_n (lv' := [(3, .int 0), (2, .int x2_4), (0, .ref (A0 + 46)), (1, .int x1)]) hx hb dX3_number_6 rfl hl (by decide) rfl (fun ls hl => ?_)
  refine lv_iconst (v := 0) hx hb dX3_number_7 (by decide) ?_
  refine lv_istore (lv' := [(4, .int 0), (3, .int 0), (2, .int x2_4), (0, .ref (A0 + 46)), (1, .int x1)]) hx hb dX3_number_8 hl (by decide) rfl (fun ls hl => ?_)
  obtain ⟨k44, ek44, h⟩ := lt_x h
  have hk44 : ∀ (x3_44 : Int32) (σ44 : Mm) (H : Heap) (locs : List Loc) (ls : Array Slot), zh D A0 σ44 GF 740 s.heap H locs → lv_has ls 6 [(0, .ref (A0 + 46)), (2, .int x2_4), (3, .int x3_44)] → k44 x3_44 σ44 = some (r0, σr) → W p l e (zR 1 21) s m [.ref (A0 + 46), .int x1].toArray below meth c H locs 0 0 (MQ below (zQi D A0 r0 σr GF 740) [.ref (A0 + 46), .int x1].toArray s 0 0 (zA A0)) (F0 m 44 ls []) := by
    intro x3_44 σ44 H locs ls Z hl h
    rw [ek44] at h
    try dsimp only at h
    refine lv_goto (tgt := 87) hx hb dX3_number_44 (by decide) ?_
    refine lv_aload_n hx hb dX3_number_87 rfl (lv_at hl 0 rfl) ?_
    refine zw_getI F Z zC5 (a := 46) (k := 1) (by decide) zs_46 (by decide) rfl zq354 (Or.inl rfl) dX3_number_88 ?_
    refine lv_iload_n hx hb dX3_number_91 rfl (lv_at hl 1 rfl) ?_
    refine zb_icne (tgt := 105) hx hb dX3_number_92 (by decide) h (fun h => ?_) (fun h => ?_)
    · refine lv_iload_n hx hb dX3_number_105 rfl (lv_at hl 2 rfl) ?_
      obtain ⟨hq1, hq2⟩ := zpq h
      exact ze_i F Z hr hlocks hq1 hq2 dX3_number_106
    · refine lv_aload_n hx hb dX3_number_95 rfl (lv_at hl 0 rfl) ?_
      refine lv_aload_n hx hb dX3_number_96 rfl (lv_at hl 0 rfl) ?_
      refine zw_getI F Z zC5 (a := 46) (k := 1) (by decide) zs_46 (by decide) rfl zq354 (Or.inl rfl) dX3_number_97 ?_
      refine zw_putI F Z zC5 (a := 46) (k := 2) (by decide) zs_46 (by decide) rfl (by decide) zq359 (Or.inl rfl) rfl ⟨rfl, rfl⟩ dX3_number_100 (fun σ100 _ _ eσ100 Z => ?_)
      replace h := lt_w h eσ100
      refine lv_iconst (v := (-1)) hx hb dX3_number_103 (by decide) ?_
      obtain ⟨hq1, hq2⟩ := zpq h
      exact ze_i F Z hr hlocks hq1 hq2 dX3_number_104
  obtain ⟨k53, ek53, h⟩ := lt_x h
  have hk53 : ∀ (σ53 : Mm) (H : Heap) (locs : List Loc) (ls : Array Slot), zh D A0 σ53 GF 740 s.heap H locs → lv_has ls 6 [(0, .ref (A0 + 46))] → k53 σ53 = some (r0, σr) → W p l e (zR 1 21) s m [.ref (A0 + 46), .int x1].toArray below meth c H locs 0 0 (MQ below (zQi D A0 r0 σr GF 740) [.ref (A0 + 46), .int x1].toArray s 0 0 (zA A0)) (F0 m 53 ls []) := by
    intro  σ53 H locs ls Z hl h
    rw [ek53] at h
    try dsimp only at h
    refine lv_aload_n hx hb dX3_number_53 rfl (lv_at hl 0 rfl) ?_
    refine lv_aload_n hx hb dX3_number_54 rfl (lv_at hl 0 rfl) ?_
    refine zw_getI F Z zC5 (a := 46) (k := 1) (by decide) zs_46 (by decide) rfl zq354 (Or.inl rfl) dX3_number_55 ?_
    refine zw_putI F Z zC5 (a := 46) (k := 2) (by decide) zs_46 (by decide) rfl (by decide) zq359 (Or.inl rfl) rfl ⟨rfl, rfl⟩ dX3_number_58 (fun σ58 _ _ eσ58 Z => ?_)
    replace h := lt_w h eσ58
    refine lv_iconst (v := (-1)) hx hb dX3_number_61 (by decide) ?_
    obtain ⟨hq1, hq2⟩ := zpq h
    exact ze_i F Z hr hlocks hq1 hq2 dX3_number_62
  obtain ⟨k87, ek87, h⟩ := lt_x h
  have hk87 : ∀ (x3_87 : Int32) (σ87 : Mm) (H : Heap) (locs : List Loc) (ls : Array Slot), zh D A0 σ87 GF 740 s.heap H locs → lv_has ls 6 [(0, .ref (A0 + 46)), (2, .int x2_4), (3, .int x3_87)] → k87 x3_87 σ87 = some (r0, σr) → W p l e (zR 1 21) s m [.ref (A0 + 46), .int x1].toArray below meth c H locs 0 0 (MQ below (zQi D A0 r0 σr GF 740) [.ref (A0 + 46), .int x1].toArray s 0 0 (zA A0)) (F0 m 87 ls []) := by
    intro x3_87 σ87 H locs ls Z hl h
    rw [ek87] at h
    try dsimp only at h
    refine lv_aload_n hx hb dX3_number_87 rfl (lv_at hl 0 rfl) ?_
    refine zw_getI F Z zC5 (a := 46) (k := 1) (by decide) zs_46 (by decide) rfl zq354 (Or.inl rfl) dX3_number_88 ?_
    refine lv_iload_n hx hb dX3_number_91 rfl (lv_at hl 1 rfl) ?_
    refine zb_icne (tgt := 105) hx hb dX3_number_92 (by decide) h (fun h => ?_) (fun h => ?_)
    · refine lv_iload_n hx hb dX3_number_105 rfl (lv_at hl 2 rfl) ?_
      obtain ⟨hq1, hq2⟩ := zpq h
      exact ze_i F Z hr hlocks hq1 hq2 dX3_number_106
    · refine lv_aload_n hx hb dX3_number_95 rfl (lv_at hl 0 rfl) ?_
      refine lv_aload_n hx hb dX3_number_96 rfl (lv_at hl 0 rfl) ?_
      refine zw_getI F Z zC5 (a := 46) (k := 1) (by decide) zs_46 (by decide) rfl zq354 (Or.inl rfl) dX3_number_97 ?_
      refine zw_putI F Z zC5 (a := 46) (k := 2) (by decide) zs_46 (by decide) rfl (by decide) zq359 (Or.inl rfl) rfl ⟨rfl, rfl⟩ dX3_number_100 (fun σ100_1 _ _ eσ100_1 Z => ?_)
      replace h := lt_w h eσ100_1
      refine lv_iconst (v := (-1)) hx hb dX3_number_103 (by decide) ?_
      obtain ⟨hq1, hq2⟩ := zpq h
      exact ze_i F Z hr hlocks hq1 hq2 dX3_number_104
  have hL10 : ∀ (fu10 : Nat) (x3_10 : Int32) (x4_10 : Int32) (σ10 : Mm) (H : Heap) (locs : List Loc) (ls : Array Slot), zh D A0 σ10 GF 740 s.heap H locs → lv_has ls 6 [(0, .ref (A0 + 46)), (1, .int x1), (2, .int x2_4), (3, .int x3_10), (4, .int x4_10)] → zfX3_number_46_L10 x1 k87 k53 k44 fu10 x3_10 x4_10 σ10 = some (r0, σr) → W p l e (zR 1 21) s m [.ref (A0 + 46), .int x1].toArray below meth c H locs 0 0 (MQ below (zQi D A0 r0 σr GF 740) [.ref (A0 + 46), .int x1].toArray s 0 0 (zA A0)) (F0 m 10 ls []) := by
    intro fu10
    induction fu10 with
    | zero => intro x3_10 x4_10 σ10 H locs ls Z hl h; rw [zfX3_number_46_L10] at h; cases h
    | succ fu10 ih10 =>
      intro x3_10 x4_10 σ10 H locs ls Z hl h
      rw [zfX3_number_46_L10] at h
      refine lv_iload hx hb dX3_number_10 (lv_at hl 4 rfl) ?_
      refine lv_iload_n hx hb dX3_number_12 rfl (lv_at hl 1 rfl) ?_
      refine zb_icgt (tgt := 87) hx hb dX3_number_13 (by decide) h (fun h => ?_) (fun h => ?_)
      · exact hk87 x3_10 σ10 _ _ _ Z (lv_sub hl [0, 2, 3] rfl) h
      · refine lv_aload_n hx hb dX3_number_16 rfl (lv_at hl 0 rfl) ?_
        refine zw_getR F Z zC5 (a := 46) (k := 0) (by decide) zs_46 (by decide) rfl zg_46_0 zq353 (Or.inl rfl) dX3_number_17 ?_
        refine lv_aload_n hx hb dX3_number_20 rfl (lv_at hl 0 rfl) ?_
        refine zw_getI F Z zC5 (a := 46) (k := 1) (by decide) zs_46 (by decide) rfl zq354 (Or.inl rfl) dX3_number_21 ?_
        obtain ⟨r24, hc24, h⟩ := bd_x h
        refine zc_i Z (zr_V F Z (a := 1) (As := [.int (σ10 46 1)]) (zcX9_byteAt l D A0 (σ10 46 1) σ10 r24 hc24) zBX9_byteAt zq631 (by decide) zs_1 zC9.1 rfl ⟨⟨rfl, rfl⟩, Nat.le_of_ble_eq_true rfl, Nat.le_of_ble_eq_true rfl⟩ hl.1 rfl (Nat.le_of_ble_eq_true rfl) dX3_number_24 ⟨Nat.le_of_ble_eq_true rfl, Nat.le_of_ble_eq_true rfl⟩) (fun _ _ Z => ?_)
        refine lv_bipush (v := 48) hx hb dX3_number_27 (by decide) ?_
        refine lv_isub hx hb dX3_number_29 ?_
        refine lv_topi (fun x5_30 ex5_30 => ?_)
        replace h := lt_w h ex5_30
        refine lv_istore (lv' := [(5, .int x5_30), (0, .ref (A0 + 46)), (1, .int x1), (2, .int x2_4), (3, .int x3_10), (4, .int x4_10)]) hx hb dX3_number_30 hl (by decide) rfl (fun ls hl => ?_)
        refine lv_iload hx hb dX3_number_32 (lv_at hl 0 rfl) ?_
        refine zb_iflt (tgt := 87) hx hb dX3_number_34 (by decide) h (fun h => ?_) (fun h => ?_)
        · exact hk87 x3_10 σ10 _ _ _ Z (lv_sub hl [1, 3, 4] rfl) h
        · refine lv_iload hx hb dX3_number_37 (lv_at hl 0 rfl) ?_
          refine lv_bipush (v := 9) hx hb dX3_number_39 (by decide) ?_
          refine zb_icle (tgt := 47) hx hb dX3_number_41 (by decide) h (fun h => ?_) (fun h => ?_)
          · refine lv_iload hx hb dX3_number_47 (lv_at hl 5 rfl) ?_
            refine lv_iload_n hx hb dX3_number_49 rfl (lv_at hl 2 rfl) ?_
            refine zb_icne (tgt := 63) hx hb dX3_number_50 (by decide) h (fun h => ?_) (fun h => ?_)
            · refine lv_iload_n hx hb dX3_number_63 rfl (lv_at hl 4 rfl) ?_
              refine lv_bipush (v := 10) hx hb dX3_number_64 (by decide) ?_
              refine lv_imul hx hb dX3_number_66 ?_
              refine lv_iload hx hb dX3_number_67 (lv_at hl 0 rfl) ?_
              refine lv_iadd hx hb dX3_number_69 ?_
              refine lv_topi (fun x3_70 ex3_70 => ?_)
              replace h := lt_w h ex3_70
              refine lv_istore_n (lv' := [(3, .int x3_70), (5, .int x5_30), (0, .ref (A0 + 46)), (1, .int x1), (2, .int x2_4), (4, .int x4_10)]) hx hb dX3_number_70 rfl hl (by decide) rfl (fun ls hl => ?_)
              refine lv_aload_n hx hb dX3_number_71 rfl (lv_at hl 2 rfl) ?_
              refine lv_dup hx hb dX3_number_72 rfl ?_
              refine zw_getI F Z zC5 (a := 46) (k := 1) (by decide) zs_46 (by decide) rfl zq354 (Or.inl rfl) dX3_number_73 ?_
              refine lv_iconst (v := 1) hx hb dX3_number_76 (by decide) ?_
              refine lv_iadd hx hb dX3_number_77 ?_
              refine zw_putI F Z zC5 (a := 46) (k := 1) (by decide) zs_46 (by decide) rfl (by decide) zq354 (Or.inl rfl) rfl ⟨rfl, rfl⟩ dX3_number_78 (fun σ78 _ _ eσ78 Z => ?_)
              replace h := lt_w h eσ78
              obtain ⟨x4_81, ex4_81⟩ : ∃ y : Int32, y = x4_10 + 1 := ⟨_, rfl⟩
              replace h := lt_w h ex4_81
              refine lv_iinc (v := x4_81) (lv' := [(4, .int x4_81), (3, .int x3_70), (5, .int x5_30), (0, .ref (A0 + 46)), (1, .int x1), (2, .int x2_4)]) hx hb dX3_number_81 hl (k := 5) rfl (by rw [ex4_81]; rfl) (by decide) rfl (fun ls hl => ?_)
              refine lv_goto (tgt := 10) hx hb dX3_number_84 (by decide) ?_
              exact ih10 x3_70 x4_81 σ78 _ _ _ Z (lv_sub hl [3, 4, 5, 1, 0] rfl) h
            · exact hk53 σ10 _ _ _ Z (lv_sub hl [1] rfl) h
          · exact hk44 x3_10 σ10 _ _ _ Z (lv_sub hl [1, 3, 4] rfl) h
  exact hL10 NF 0 0 σ _ _ _ Z (lv_sub hl [3, 4, 2, 1, 0] rfl) h
set_option maxHeartbeats 4000000 in
set_option maxRecDepth 100000 in
theorem zcX1_items (l : Launch) (D : va_G) (A0 : Nat) (x1 : Int32) (σ : Mm) (r0 : Int32) (σr : Mm) (h : zfX1_items x1 σ = some (r0, σr)) : Met l yX1_items (zws yX1_items cX1_items 5 (some .boolean)) (zR 7 223) (zPc D A0 σ GF 740 [.ref (A0 + 43), .int x1]) (zQi D A0 r0 σr GF 740) 0 0 (zA A0) := by
  unfold zfX1_items at h
  refine zmet (own := RX1) (by decide) rfl (Nat.le_of_ble_eq_true rfl) ?_
  intro p e s m below meth c F hr hlocks _ Z ls hl
  have hl : lv_has ls 5 [(0, .ref (A0 + 43)), (1, .int x1)] := hl
  have hx := F.1.1
  have hb := F.1.2.1
  have hown := F.1.2.2.2.1
  have hts := F.1.2.2.2.2
  refine lv_iconst (v := 0) hx hb dX1_items_0 (by decide) ?_
  refine lv_istore_n (lv' := [(2, .int 0), (0, .ref (A0 + 43)), (1, .int x1)]) hx hb dX1_items_1 rfl hl (by decide) rfl (fun ls hl => ?_)
  obtain ⟨k43, ek43, h⟩ := lt_x h
  have hk43 : ∀ (σ43 : Mm) (H : Heap) (locs : List Loc) (ls : Array Slot), zh D A0 σ43 GF 740 s.heap H locs → lv_has ls 5 [(0, .ref (A0 + 43)), (1, .int x1)] → k43 σ43 = some (r0, σr) → W p l e (zR 7 223) s m [.ref (A0 + 43), .int x1].toArray below meth c H locs 0 0 (MQ below (zQi D A0 r0 σr GF 740) [.ref (A0 + 43), .int x1].toArray s 0 0 (zA A0)) (F0 m 43 ls []) := by
    intro  σ43 H locs ls Z hl h
    rw [ek43] at h
    try dsimp only at h
    refine lv_iconst (v := 0) hx hb dX1_items_43 (by decide) ?_
    refine lv_istore_n (lv' := [(2, .int 0), (0, .ref (A0 + 43)), (1, .int x1)]) hx hb dX1_items_44 rfl hl (by decide) rfl (fun ls hl => ?_)
    obtain ⟨k68, ek68, h⟩ := lt_x h
    have hk68 : ∀ (σ68 : Mm) (H : Heap) (locs : List Loc) (ls : Array Slot), zh D A0 σ68 GF 740 s.heap H locs → lv_has ls 5 [] → k68 σ68 = some (r0, σr) → W p l e (zR 7 223) s m [.ref (A0 + 43), .int x1].toArray below meth c H locs 0 0 (MQ below (zQi D A0 r0 σr GF 740) [.ref (A0 + 43), .int x1].toArray s 0 0 (zA A0)) (F0 m 68 ls []) := by
      intro  σ68 H locs ls Z hl h
      rw [ek68] at h
      try dsimp only at h
      refine lv_iconst (v := 1) hx hb dX1_items_68 (by decide) ?_
      obtain ⟨hq1, hq2⟩ := zpq h
      exact ze_z F Z hr hlocks (by decide) hq1 hq2 dX1_items_69
    obtain ⟨k79, ek79, h⟩ := lt_x h
    have hk79 : ∀ (σ79 : Mm) (H : Heap) (locs : List Loc) (ls : Array Slot), zh D A0 σ79 GF 740 s.heap H locs → lv_has ls 5 [(0, .ref (A0 + 43))] → k79 σ79 = some (r0, σr) → W p l e (zR 7 223) s m [.ref (A0 + 43), .int x1].toArray below meth c H locs 0 0 (MQ below (zQi D A0 r0 σr GF 740) [.ref (A0 + 43), .int x1].toArray s 0 0 (zA A0)) (F0 m 79 ls []) := by
      intro  σ79 H locs ls Z hl h
      rw [ek79] at h
      try dsimp only at h
      refine lv_aload_n hx hb dX1_items_79 rfl (lv_at hl 0 rfl) ?_
      obtain ⟨r80, σ80, hc80, h⟩ := bd2_x h
      refine zc_i Z (zr_U (x := ({ cls := "UnsoldPrice$MarketReader", name := "wrong", desc := "()Z" } : Jvm.MethodName)) (owner := "UnsoldPrice$Reader") (C := "UnsoldPrice$MarketReader") F Z (a := 43) (As := []) (zcX3_wrong_43 l D A0 σ79 r80 σ80 hc80) zBX3_wrong zq638 zq639 zq641 zq642 rfl (by decide) zs_43 zC1.1 rfl ⟨⟨rfl, rfl⟩, Nat.le_of_ble_eq_true rfl, Nat.le_of_ble_eq_true rfl⟩ hl.1 rfl (Nat.le_of_ble_eq_true rfl) dX1_items_80 ⟨Nat.le_of_ble_eq_true rfl, Nat.le_of_ble_eq_true rfl⟩) (fun _ _ Z => ?_)
      obtain ⟨hz83, h⟩ := ck_x h
      obtain ⟨hq1, hq2⟩ := zpq h
      exact ze_z F Z hr hlocks hz83 hq1 hq2 dX1_items_83
    obtain ⟨k112, ek112, h⟩ := lt_x h
    have hk112 : ∀ (σ112 : Mm) (H : Heap) (locs : List Loc) (ls : Array Slot), zh D A0 σ112 GF 740 s.heap H locs → lv_has ls 5 [] → k112 σ112 = some (r0, σr) → W p l e (zR 7 223) s m [.ref (A0 + 43), .int x1].toArray below meth c H locs 0 0 (MQ below (zQi D A0 r0 σr GF 740) [.ref (A0 + 43), .int x1].toArray s 0 0 (zA A0)) (F0 m 112 ls []) := by
      intro  σ112 H locs ls Z hl h
      rw [ek112] at h
      try dsimp only at h
      refine lv_iconst (v := 0) hx hb dX1_items_112 (by decide) ?_
      obtain ⟨hq1, hq2⟩ := zpq h
      exact ze_z F Z hr hlocks (by decide) hq1 hq2 dX1_items_113
    obtain ⟨k134, ek134, h⟩ := lt_x h
    have hk134 : ∀ (σ134 : Mm) (H : Heap) (locs : List Loc) (ls : Array Slot), zh D A0 σ134 GF 740 s.heap H locs → lv_has ls 5 [(0, .ref (A0 + 43))] → k134 σ134 = some (r0, σr) → W p l e (zR 7 223) s m [.ref (A0 + 43), .int x1].toArray below meth c H locs 0 0 (MQ below (zQi D A0 r0 σr GF 740) [.ref (A0 + 43), .int x1].toArray s 0 0 (zA A0)) (F0 m 134 ls []) := by
      intro  σ134 H locs ls Z hl h
      rw [ek134] at h
      try dsimp only at h
      refine lv_aload_n hx hb dX1_items_134 rfl (lv_at hl 0 rfl) ?_
      refine lv_aload_n hx hb dX1_items_135 rfl (lv_at hl 0 rfl) ?_
      refine zw_getI F Z zC1 (a := 43) (k := 1) (by decide) zs_43 (by decide) rfl zq355 (Or.inr zq356) dX1_items_136 ?_
      refine lv_iconst (v := 1) hx hb dX1_items_139 (by decide) ?_
      refine lv_isub hx hb dX1_items_140 ?_
      refine zw_putI F Z zC1 (a := 43) (k := 2) (by decide) zs_43 (by decide) rfl (by decide) zq360 (Or.inr zq361) rfl ⟨rfl, rfl⟩ dX1_items_141 (fun σ141 _ _ eσ141 Z => ?_)
      replace h := lt_w h eσ141
      refine lv_iconst (v := 0) hx hb dX1_items_144 (by decide) ?_
      obtain ⟨hq1, hq2⟩ := zpq h
      exact ze_z F Z hr hlocks (by decide) hq1 hq2 dX1_items_145
    obtain ⟨k167, ek167, h⟩ := lt_x h
    have hk167 : ∀ (σ167 : Mm) (H : Heap) (locs : List Loc) (ls : Array Slot), zh D A0 σ167 GF 740 s.heap H locs → lv_has ls 5 [] → k167 σ167 = some (r0, σr) → W p l e (zR 7 223) s m [.ref (A0 + 43), .int x1].toArray below meth c H locs 0 0 (MQ below (zQi D A0 r0 σr GF 740) [.ref (A0 + 43), .int x1].toArray s 0 0 (zA A0)) (F0 m 167 ls []) := by
      intro  σ167 H locs ls Z hl h
      rw [ek167] at h
      try dsimp only at h
      refine lv_iconst (v := 1) hx hb dX1_items_167 (by decide) ?_
      obtain ⟨hq1, hq2⟩ := zpq h
      exact ze_z F Z hr hlocks (by decide) hq1 hq2 dX1_items_168
    have hL45 : ∀ (fu45 : Nat) (x2_45 : Int32) (σ45 : Mm) (H : Heap) (locs : List Loc) (ls : Array Slot), zh D A0 σ45 GF 740 s.heap H locs → lv_has ls 5 [(0, .ref (A0 + 43)), (1, .int x1), (2, .int x2_45)] → zfX1_items_L45 k167 x1 k68 k112 k134 k79 fu45 x2_45 σ45 = some (r0, σr) → W p l e (zR 7 223) s m [.ref (A0 + 43), .int x1].toArray below meth c H locs 0 0 (MQ below (zQi D A0 r0 σr GF 740) [.ref (A0 + 43), .int x1].toArray s 0 0 (zA A0)) (F0 m 45 ls []) := by
      intro fu45
      induction fu45 with
      | zero => intro x2_45 σ45 H locs ls Z hl h; rw [zfX1_items_L45] at h; cases h
      | succ fu45 ih45 =>
        intro x2_45 σ45 H locs ls Z hl h
        rw [zfX1_items_L45] at h
        refine lv_iload_n hx hb dX1_items_45 rfl (lv_at hl 2 rfl) ?_
        refine zw_ldcS F (i := 0) (tx := "ncrvmwqf") (by decide) dX1_items_46 ?_
        refine zw_slen l F Z hl.1 (by decide) zq650 ⟨Nat.le_of_ble_eq_true rfl, Nat.le_of_ble_eq_true rfl⟩ ⟨Nat.le_of_ble_eq_true rfl, Nat.le_of_ble_eq_true rfl⟩ (Nat.le_of_ble_eq_true rfl) dX1_items_48 (fun _ _ Z => ?_)
        refine zb_icge (tgt := 167) hx hb dX1_items_51 (by decide) h (fun h => ?_) (fun h => ?_)
        · exact hk167 σ45 _ _ _ Z (lv_sub hl [] rfl) h
        · refine lv_iload_n hx hb dX1_items_54 rfl (lv_at hl 1 rfl) ?_
          refine lv_aload_n hx hb dX1_items_55 rfl (lv_at hl 0 rfl) ?_
          obtain ⟨r56, σ56, hc56, h⟩ := bd2_x h
          refine zc_i Z (zr_U (x := ({ cls := "UnsoldPrice$MarketReader", name := "sign", desc := "()I" } : Jvm.MethodName)) (owner := "UnsoldPrice$Reader") (C := "UnsoldPrice$MarketReader") F Z (a := 43) (As := []) (zcX3_sign_43 l D A0 σ45 r56 σ56 hc56) zBX3_sign zq625 zq626 zq628 zq629 rfl (by decide) zs_43 zC1.1 rfl ⟨⟨rfl, rfl⟩, Nat.le_of_ble_eq_true rfl, Nat.le_of_ble_eq_true rfl⟩ hl.1 rfl (Nat.le_of_ble_eq_true rfl) dX1_items_56 ⟨Nat.le_of_ble_eq_true rfl, Nat.le_of_ble_eq_true rfl⟩) (fun _ _ Z => ?_)
          obtain ⟨r59, hc59, h⟩ := bd_x h
          refine zc_i Z (zr_S F Z (As := [.int x1, .int r56]) (zcX1_itemOf l D A0 x1 r56 σ56 r59 hc59) zBX1_itemOf zq660 rfl ⟨⟨rfl, rfl⟩, Nat.le_of_ble_eq_true rfl, Nat.le_of_ble_eq_true rfl⟩ hl.1 rfl (Nat.le_of_ble_eq_true rfl) dX1_items_59 ⟨Nat.le_of_ble_eq_true rfl, Nat.le_of_ble_eq_true rfl⟩) (fun _ _ Z => ?_)
          refine lv_istore_n (lv' := [(3, .int r59), (0, .ref (A0 + 43)), (1, .int x1), (2, .int x2_45)]) hx hb dX1_items_62 rfl hl (by decide) rfl (fun ls hl => ?_)
          refine lv_iload_n hx hb dX1_items_63 rfl (lv_at hl 0 rfl) ?_
          refine lv_iconst (v := (-1)) hx hb dX1_items_64 (by decide) ?_
          refine zb_icne (tgt := 70) hx hb dX1_items_65 (by decide) h (fun h => ?_) (fun h => ?_)
          · refine lv_aload_n hx hb dX1_items_70 rfl (lv_at hl 1 rfl) ?_
            refine zw_getR F Z zC1 (a := 43) (k := 4) (by decide) zs_43 (by decide) rfl zg_43_4 zq352 (Or.inl rfl) dX1_items_71 ?_
            refine lv_iload_n hx hb dX1_items_74 rfl (lv_at hl 0 rfl) ?_
            obtain ⟨hk75, h⟩ := ck_x h
            refine zw_zald F Z (by decide) zs_45 hk75 dX1_items_75 ?_
            refine zb_ifeq (tgt := 84) hx hb dX1_items_76 (by decide) h (fun h => ?_) (fun h => ?_)
            · refine lv_aload_n hx hb dX1_items_84 rfl (lv_at hl 1 rfl) ?_
              refine lv_dup hx hb dX1_items_85 rfl ?_
              refine zw_getI F Z zC1 (a := 43) (k := 1) (by decide) zs_43 (by decide) rfl zq355 (Or.inr zq356) dX1_items_86 ?_
              refine lv_iconst (v := 1) hx hb dX1_items_89 (by decide) ?_
              refine lv_iadd hx hb dX1_items_90 ?_
              refine zw_putI F Z zC1 (a := 43) (k := 1) (by decide) zs_43 (by decide) rfl (by decide) zq355 (Or.inr zq356) rfl ⟨rfl, rfl⟩ dX1_items_91 (fun σ91 _ _ eσ91 Z => ?_)
              replace h := lt_w h eσ91
              refine lv_aload_n hx hb dX1_items_94 rfl (lv_at hl 1 rfl) ?_
              obtain ⟨r95, σ95, hc95, h⟩ := bd2_x h
              refine zc_i Z (zr_U (x := ({ cls := "UnsoldPrice$MarketReader", name := "sign", desc := "()I" } : Jvm.MethodName)) (owner := "UnsoldPrice$Reader") (C := "UnsoldPrice$MarketReader") F Z (a := 43) (As := []) (zcX3_sign_43 l D A0 σ91 r95 σ95 hc95) zBX3_sign zq625 zq626 zq628 zq629 rfl (by decide) zs_43 zC1.1 rfl ⟨⟨rfl, rfl⟩, Nat.le_of_ble_eq_true rfl, Nat.le_of_ble_eq_true rfl⟩ hl.1 rfl (Nat.le_of_ble_eq_true rfl) dX1_items_95 ⟨Nat.le_of_ble_eq_true rfl, Nat.le_of_ble_eq_true rfl⟩) (fun _ _ Z => ?_)
              refine lv_pop hx hb dX1_items_98 rfl ?_
              refine lv_aload_n hx hb dX1_items_99 rfl (lv_at hl 1 rfl) ?_
              refine lv_iconst (v := 2) hx hb dX1_items_100 (by decide) ?_
              obtain ⟨r101, σ101, hc101, h⟩ := bd2_x h
              refine zc_i Z (zr_U (x := ({ cls := "UnsoldPrice$MarketReader", name := "number", desc := "(I)I" } : Jvm.MethodName)) (owner := "UnsoldPrice$Reader") (C := "UnsoldPrice$MarketReader") F Z (a := 43) (As := [.int 2]) (zcX3_number_43 l D A0 2 σ95 r101 σ101 hc101) zBX3_number zq706 zq707 zq709 zq710 rfl (by decide) zs_43 zC1.1 rfl ⟨⟨rfl, rfl⟩, Nat.le_of_ble_eq_true rfl, Nat.le_of_ble_eq_true rfl⟩ hl.1 rfl (Nat.le_of_ble_eq_true rfl) dX1_items_101 ⟨Nat.le_of_ble_eq_true rfl, Nat.le_of_ble_eq_true rfl⟩) (fun _ _ Z => ?_)
              refine lv_istore (lv' := [(4, .int r101), (3, .int r59), (0, .ref (A0 + 43)), (1, .int x1), (2, .int x2_45)]) hx hb dX1_items_104 hl (by decide) rfl (fun ls hl => ?_)
              refine lv_iload hx hb dX1_items_106 (lv_at hl 0 rfl) ?_
              refine lv_iconst (v := (-1)) hx hb dX1_items_108 (by decide) ?_
              refine zb_icne (tgt := 114) hx hb dX1_items_109 (by decide) h (fun h => ?_) (fun h => ?_)
              · refine lv_iload hx hb dX1_items_114 (lv_at hl 0 rfl) ?_
                refine zw_gets F Z (i := 1) (by decide) rfl (by decide) dX1_items_116 ?_
                refine lv_iload_n hx hb dX1_items_119 rfl (lv_at hl 1 rfl) ?_
                obtain ⟨hk120, h⟩ := ck_x h
                refine zw_tald F Z (i := 1) (by decide) hk120 dX1_items_120 ?_
                refine zb_iclt (tgt := 134) hx hb dX1_items_121 (by decide) h (fun h => ?_) (fun h => ?_)
                · exact hk134 σ101 _ _ _ Z (lv_sub hl [2] rfl) h
                · refine lv_iload hx hb dX1_items_124 (lv_at hl 0 rfl) ?_
                  refine zw_gets F Z (i := 2) (by decide) rfl (by decide) dX1_items_126 ?_
                  refine lv_iload_n hx hb dX1_items_129 rfl (lv_at hl 1 rfl) ?_
                  obtain ⟨hk130, h⟩ := ck_x h
                  refine zw_tald F Z (i := 2) (by decide) hk130 dX1_items_130 ?_
                  refine zb_icle (tgt := 146) hx hb dX1_items_131 (by decide) h (fun h => ?_) (fun h => ?_)
                  · refine lv_aload_n hx hb dX1_items_146 rfl (lv_at hl 2 rfl) ?_
                    refine zw_getR F Z zC1 (a := 43) (k := 3) (by decide) zs_43 (by decide) rfl zg_43_3 zq351 (Or.inl rfl) dX1_items_147 ?_
                    refine lv_iload_n hx hb dX1_items_150 rfl (lv_at hl 1 rfl) ?_
                    refine lv_iload hx hb dX1_items_151 (lv_at hl 0 rfl) ?_
                    obtain ⟨hk153, h⟩ := ck_x h
                    refine zw_iast F Z (by decide) zs_44 hk153 dX1_items_153 (fun σ153 _ _ eσ153 Z => ?_)
                    replace h := lt_w h eσ153
                    refine lv_aload_n hx hb dX1_items_154 rfl (lv_at hl 2 rfl) ?_
                    refine zw_getR F Z zC1 (a := 43) (k := 4) (by decide) zs_43 (by decide) rfl zg_43_4 zq352 (Or.inl rfl) dX1_items_155 ?_
                    refine lv_iload_n hx hb dX1_items_158 rfl (lv_at hl 1 rfl) ?_
                    refine lv_iconst (v := 1) hx hb dX1_items_159 (by decide) ?_
                    obtain ⟨hk160, h⟩ := ck_x h
                    refine zw_zast F Z (by decide) zs_45 hk160 dX1_items_160 (fun σ160 _ _ eσ160 Z => ?_)
                    replace h := lt_w h eσ160
                    obtain ⟨x2_161, ex2_161⟩ : ∃ y : Int32, y = x2_45 + 1 := ⟨_, rfl⟩
                    replace h := lt_w h ex2_161
                    refine lv_iinc (v := x2_161) (lv' := [(2, .int x2_161), (4, .int r101), (3, .int r59), (0, .ref (A0 + 43)), (1, .int x1)]) hx hb dX1_items_161 hl (k := 4) rfl (by rw [ex2_161]; rfl) (by decide) rfl (fun ls hl => ?_)
                    refine lv_goto (tgt := 45) hx hb dX1_items_164 (by decide) ?_
                    exact ih45 x2_161 σ160 _ _ _ Z (lv_sub hl [3, 4, 0] rfl) h
                  · exact hk134 σ101 _ _ _ Z (lv_sub hl [2] rfl) h
              · exact hk112 σ101 _ _ _ Z (lv_sub hl [] rfl) h
            · exact hk79 σ56 _ _ _ Z (lv_sub hl [1] rfl) h
          · exact hk68 σ56 _ _ _ Z (lv_sub hl [] rfl) h
    exact hL45 NF 0 σ43 _ _ _ Z (lv_sub hl [1, 2, 0] rfl) h
  have hL2 : ∀ (fu2 : Nat) (x2_2 : Int32) (σ2 : Mm) (H : Heap) (locs : List Loc) (ls : Array Slot), zh D A0 σ2 GF 740 s.heap H locs → lv_has ls 5 [(0, .ref (A0 + 43)), (1, .int x1), (2, .int x2_2)] → zfX1_items_L2 k43 fu2 x2_2 σ2 = some (r0, σr) → W p l e (zR 7 223) s m [.ref (A0 + 43), .int x1].toArray below meth c H locs 0 0 (MQ below (zQi D A0 r0 σr GF 740) [.ref (A0 + 43), .int x1].toArray s 0 0 (zA A0)) (F0 m 2 ls []) := by
    intro fu2
    induction fu2 with
    | zero => intro x2_2 σ2 H locs ls Z hl h; rw [zfX1_items_L2] at h; cases h
    | succ fu2 ih2 =>
      intro x2_2 σ2 H locs ls Z hl h
      rw [zfX1_items_L2] at h
      refine lv_iload_n hx hb dX1_items_2 rfl (lv_at hl 2 rfl) ?_
      refine zw_gets F Z (i := 3) (by decide) rfl (by decide) dX1_items_3 ?_
      refine zw_tlen F Z (i := 3) (v := 8) (by decide) rfl dX1_items_6 ?_
      refine zb_icge (tgt := 43) hx hb dX1_items_7 (by decide) h (fun h => ?_) (fun h => ?_)
      · exact hk43 σ2 _ _ _ Z (lv_sub hl [0, 1] rfl) h
      · refine lv_iload_n hx hb dX1_items_10 rfl (lv_at hl 2 rfl) ?_
        refine lv_aload_n hx hb dX1_items_11 rfl (lv_at hl 0 rfl) ?_
        refine zw_getR F Z zC1 (a := 43) (k := 3) (by decide) zs_43 (by decide) rfl zg_43_3 zq351 (Or.inl rfl) dX1_items_12 ?_
        refine zw_alen F Z (ty := 0) (v := 8) (by decide) zs_44 rfl rfl dX1_items_15 ?_
        refine zb_icge (tgt := 43) hx hb dX1_items_16 (by decide) h (fun h => ?_) (fun h => ?_)
        · exact hk43 σ2 _ _ _ Z (lv_sub hl [0, 1] rfl) h
        · refine lv_aload_n hx hb dX1_items_19 rfl (lv_at hl 0 rfl) ?_
          refine zw_getR F Z zC1 (a := 43) (k := 3) (by decide) zs_43 (by decide) rfl zg_43_3 zq351 (Or.inl rfl) dX1_items_20 ?_
          refine lv_iload_n hx hb dX1_items_23 rfl (lv_at hl 2 rfl) ?_
          refine zw_gets F Z (i := 3) (by decide) rfl (by decide) dX1_items_24 ?_
          refine lv_iload_n hx hb dX1_items_27 rfl (lv_at hl 2 rfl) ?_
          obtain ⟨hk28, h⟩ := ck_x h
          refine zw_tald F Z (i := 3) (by decide) hk28 dX1_items_28 ?_
          obtain ⟨hk29, h⟩ := ck_x h
          refine zw_iast F Z (by decide) zs_44 hk29 dX1_items_29 (fun σ29 _ _ eσ29 Z => ?_)
          replace h := lt_w h eσ29
          refine lv_aload_n hx hb dX1_items_30 rfl (lv_at hl 0 rfl) ?_
          refine zw_getR F Z zC1 (a := 43) (k := 4) (by decide) zs_43 (by decide) rfl zg_43_4 zq352 (Or.inl rfl) dX1_items_31 ?_
          refine lv_iload_n hx hb dX1_items_34 rfl (lv_at hl 2 rfl) ?_
          refine lv_iconst (v := 0) hx hb dX1_items_35 (by decide) ?_
          obtain ⟨hk36, h⟩ := ck_x h
          refine zw_zast F Z (by decide) zs_45 hk36 dX1_items_36 (fun σ36 _ _ eσ36 Z => ?_)
          replace h := lt_w h eσ36
          obtain ⟨x2_37, ex2_37⟩ : ∃ y : Int32, y = x2_2 + 1 := ⟨_, rfl⟩
          replace h := lt_w h ex2_37
          refine lv_iinc (v := x2_37) (lv' := [(2, .int x2_37), (0, .ref (A0 + 43)), (1, .int x1)]) hx hb dX1_items_37 hl (k := 2) rfl (by rw [ex2_37]; rfl) (by decide) rfl (fun ls hl => ?_)
          refine lv_goto (tgt := 2) hx hb dX1_items_40 (by decide) ?_
          exact ih2 x2_37 σ36 _ _ _ Z (lv_sub hl [1, 2, 0] rfl) h
  exact hL2 NF 0 σ _ _ _ Z (lv_sub hl [1, 2, 0] rfl) h
set_option maxHeartbeats 4000000 in
set_option maxRecDepth 100000 in
theorem zcX0_addSeller (l : Launch) (D : va_G) (A0 : Nat) (q0 : Nat) (x1 : Int32) (x2 : Int32) (x3 : Int32) (hq0 : zIsM q0) (σ : Mm) (r0 : Int32) (σr : Mm) (h : zfX0_addSeller q0 x1 x2 x3 σ = some (r0, σr)) : Met l yX0_addSeller (zws yX0_addSeller cX0_addSeller 4 (some .boolean)) (zR 0 0) (zPc D A0 σ GF 740 [.ref (A0 + q0), .int x1, .int x2, .int x3]) (zQi D A0 r0 σr GF 740) 0 0 (zA A0) := by
  unfold zfX0_addSeller at h
  refine zmet (own := RX0) (by decide) rfl (Nat.le_of_ble_eq_true rfl) ?_
  intro p e s m below meth c F hr hlocks _ Z ls hl
  have hl : lv_has ls 4 [(0, .ref (A0 + q0)), (1, .int x1), (2, .int x2), (3, .int x3)] := hl
  have hx := F.1.1
  have hb := F.1.2.1
  have hown := F.1.2.2.2.1
  have hts := F.1.2.2.2.2
  refine lv_aload_n hx hb dX0_addSeller_0 rfl (lv_at hl 0 rfl) ?_
  refine zw_getI F Z zC0 (a := q0) (k := 0) (zltM_0 hq0) (zsM_0 hq0) (by decide) rfl zq130 (Or.inl rfl) dX0_addSeller_1 ?_
  refine lv_iconst (v := 5) hx hb dX0_addSeller_4 (by decide) ?_
  refine zb_iclt (tgt := 10) hx hb dX0_addSeller_5 (by decide) h (fun h => ?_) (fun h => ?_)
  · refine lv_aload_n hx hb dX0_addSeller_10 rfl (lv_at hl 0 rfl) ?_
    refine zw_getR F Z zC0 (a := q0) (k := 5) (zltM_0 hq0) (zsM_0 hq0) (by decide) rfl (zgM_5 hq0) zq148 (Or.inl rfl) dX0_addSeller_11 ?_
    refine lv_aload_n hx hb dX0_addSeller_14 rfl (lv_at hl 0 rfl) ?_
    refine zw_getI F Z zC0 (a := q0) (k := 0) (zltM_0 hq0) (zsM_0 hq0) (by decide) rfl zq130 (Or.inl rfl) dX0_addSeller_15 ?_
    refine lv_iload_n hx hb dX0_addSeller_18 rfl (lv_at hl 1 rfl) ?_
    obtain ⟨hk19, h⟩ := ck_x h
    refine zw_iast F Z (zltM_1 hq0) (zsM_1 hq0) hk19 dX0_addSeller_19 (fun σ19 _ _ eσ19 Z => ?_)
    replace h := lt_w h eσ19
    refine lv_aload_n hx hb dX0_addSeller_20 rfl (lv_at hl 0 rfl) ?_
    refine zw_getR F Z zC0 (a := q0) (k := 6) (zltM_0 hq0) (zsM_0 hq0) (by decide) rfl (zgM_6 hq0) zq152 (Or.inl rfl) dX0_addSeller_21 ?_
    refine lv_aload_n hx hb dX0_addSeller_24 rfl (lv_at hl 0 rfl) ?_
    refine zw_getI F Z zC0 (a := q0) (k := 0) (zltM_0 hq0) (zsM_0 hq0) (by decide) rfl zq130 (Or.inl rfl) dX0_addSeller_25 ?_
    refine lv_iload_n hx hb dX0_addSeller_28 rfl (lv_at hl 2 rfl) ?_
    obtain ⟨hk29, h⟩ := ck_x h
    refine zw_iast F Z (zltM_2 hq0) (zsM_2 hq0) hk29 dX0_addSeller_29 (fun σ29 _ _ eσ29 Z => ?_)
    replace h := lt_w h eσ29
    refine lv_aload_n hx hb dX0_addSeller_30 rfl (lv_at hl 0 rfl) ?_
    refine zw_getR F Z zC0 (a := q0) (k := 7) (zltM_0 hq0) (zsM_0 hq0) (by decide) rfl (zgM_7 hq0) zq155 (Or.inl rfl) dX0_addSeller_31 ?_
    refine lv_aload_n hx hb dX0_addSeller_34 rfl (lv_at hl 0 rfl) ?_
    refine zw_getI F Z zC0 (a := q0) (k := 0) (zltM_0 hq0) (zsM_0 hq0) (by decide) rfl zq130 (Or.inl rfl) dX0_addSeller_35 ?_
    refine lv_iload_n hx hb dX0_addSeller_38 rfl (lv_at hl 3 rfl) ?_
    obtain ⟨hk39, h⟩ := ck_x h
    refine zw_iast F Z (zltM_3 hq0) (zsM_3 hq0) hk39 dX0_addSeller_39 (fun σ39 _ _ eσ39 Z => ?_)
    replace h := lt_w h eσ39
    refine lv_aload_n hx hb dX0_addSeller_40 rfl (lv_at hl 0 rfl) ?_
    refine lv_dup hx hb dX0_addSeller_41 rfl ?_
    refine zw_getI F Z zC0 (a := q0) (k := 0) (zltM_0 hq0) (zsM_0 hq0) (by decide) rfl zq130 (Or.inl rfl) dX0_addSeller_42 ?_
    refine lv_iconst (v := 1) hx hb dX0_addSeller_45 (by decide) ?_
    refine lv_iadd hx hb dX0_addSeller_46 ?_
    refine zw_putI F Z zC0 (a := q0) (k := 0) (zltM_0 hq0) (zsM_0 hq0) (by decide) rfl (by decide) zq130 (Or.inl rfl) rfl ⟨rfl, rfl⟩ dX0_addSeller_47 (fun σ47 _ _ eσ47 Z => ?_)
    replace h := lt_w h eσ47
    refine lv_iconst (v := 1) hx hb dX0_addSeller_50 (by decide) ?_
    obtain ⟨hq1, hq2⟩ := zpq h
    exact ze_z F Z hr hlocks (by decide) hq1 hq2 dX0_addSeller_51
  · refine lv_iconst (v := 0) hx hb dX0_addSeller_8 (by decide) ?_
    obtain ⟨hq1, hq2⟩ := zpq h
    exact ze_z F Z hr hlocks (by decide) hq1 hq2 dX0_addSeller_9
set_option maxHeartbeats 4000000 in
set_option maxRecDepth 100000 in
theorem zcX0_addSort (l : Launch) (D : va_G) (A0 : Nat) (q0 : Nat) (x1 : Int32) (x2 : Int32) (x3 : Int32) (hq0 : zIsM q0) (σ : Mm) (r0 : Int32) (σr : Mm) (h : zfX0_addSort q0 x1 x2 x3 σ = some (r0, σr)) : Met l yX0_addSort (zws yX0_addSort cX0_addSort 5 (some .boolean)) (zR 0 0) (zPc D A0 σ GF 740 [.ref (A0 + q0), .int x1, .int x2, .int x3]) (zQi D A0 r0 σr GF 740) 0 0 (zA A0) := by
  unfold zfX0_addSort at h
  refine zmet (own := RX0) (by decide) rfl (Nat.le_of_ble_eq_true rfl) ?_
  intro p e s m below meth c F hr hlocks _ Z ls hl
  have hl : lv_has ls 5 [(0, .ref (A0 + q0)), (1, .int x1), (2, .int x2), (3, .int x3)] := hl
  have hx := F.1.1
  have hb := F.1.2.1
  have hown := F.1.2.2.2.1
  have hts := F.1.2.2.2.2
  refine lv_aload_n hx hb dX0_addSort_0 rfl (lv_at hl 0 rfl) ?_
  refine zw_getI F Z zC0 (a := q0) (k := 1) (zltM_0 hq0) (zsM_0 hq0) (by decide) rfl zq136 (Or.inl rfl) dX0_addSort_1 ?_
  refine lv_bipush (v := 6) hx hb dX0_addSort_4 (by decide) ?_
  refine zb_iclt (tgt := 11) hx hb dX0_addSort_6 (by decide) h (fun h => ?_) (fun h => ?_)
  · refine lv_aload_n hx hb dX0_addSort_11 rfl (lv_at hl 0 rfl) ?_
    refine zw_getR F Z zC0 (a := q0) (k := 8) (zltM_0 hq0) (zsM_0 hq0) (by decide) rfl (zgM_8 hq0) zq158 (Or.inl rfl) dX0_addSort_12 ?_
    refine lv_aload_n hx hb dX0_addSort_15 rfl (lv_at hl 0 rfl) ?_
    refine zw_getI F Z zC0 (a := q0) (k := 1) (zltM_0 hq0) (zsM_0 hq0) (by decide) rfl zq136 (Or.inl rfl) dX0_addSort_16 ?_
    refine lv_iload_n hx hb dX0_addSort_19 rfl (lv_at hl 1 rfl) ?_
    obtain ⟨hk20, h⟩ := ck_x h
    refine zw_iast F Z (zltM_4 hq0) (zsM_4 hq0) hk20 dX0_addSort_20 (fun σ20 _ _ eσ20 Z => ?_)
    replace h := lt_w h eσ20
    refine lv_aload_n hx hb dX0_addSort_21 rfl (lv_at hl 0 rfl) ?_
    refine zw_getR F Z zC0 (a := q0) (k := 9) (zltM_0 hq0) (zsM_0 hq0) (by decide) rfl (zgM_9 hq0) zq161 (Or.inl rfl) dX0_addSort_22 ?_
    refine lv_aload_n hx hb dX0_addSort_25 rfl (lv_at hl 0 rfl) ?_
    refine zw_getI F Z zC0 (a := q0) (k := 1) (zltM_0 hq0) (zsM_0 hq0) (by decide) rfl zq136 (Or.inl rfl) dX0_addSort_26 ?_
    refine lv_iload_n hx hb dX0_addSort_29 rfl (lv_at hl 2 rfl) ?_
    obtain ⟨hk30, h⟩ := ck_x h
    refine zw_iast F Z (zltM_5 hq0) (zsM_5 hq0) hk30 dX0_addSort_30 (fun σ30 _ _ eσ30 Z => ?_)
    replace h := lt_w h eσ30
    refine lv_aload_n hx hb dX0_addSort_31 rfl (lv_at hl 0 rfl) ?_
    refine zw_getR F Z zC0 (a := q0) (k := 10) (zltM_0 hq0) (zsM_0 hq0) (by decide) rfl (zgM_10 hq0) zq164 (Or.inl rfl) dX0_addSort_32 ?_
    refine lv_aload_n hx hb dX0_addSort_35 rfl (lv_at hl 0 rfl) ?_
    refine zw_getI F Z zC0 (a := q0) (k := 1) (zltM_0 hq0) (zsM_0 hq0) (by decide) rfl zq136 (Or.inl rfl) dX0_addSort_36 ?_
    refine lv_iload_n hx hb dX0_addSort_39 rfl (lv_at hl 3 rfl) ?_
    obtain ⟨hk40, h⟩ := ck_x h
    refine zw_iast F Z (zltM_6 hq0) (zsM_6 hq0) hk40 dX0_addSort_40 (fun σ40 _ _ eσ40 Z => ?_)
    replace h := lt_w h eσ40
    refine lv_aload_n hx hb dX0_addSort_41 rfl (lv_at hl 0 rfl) ?_
    refine zw_getI F Z zC0 (a := q0) (k := 1) (zltM_0 hq0) (zsM_0 hq0) (by decide) rfl zq136 (Or.inl rfl) dX0_addSort_42 ?_
    refine lv_topi (fun x4_45 ex4_45 => ?_)
    replace h := lt_w h ex4_45
    refine lv_istore (lv' := [(4, .int x4_45), (0, .ref (A0 + q0)), (1, .int x1), (2, .int x2), (3, .int x3)]) hx hb dX0_addSort_45 hl (by decide) rfl (fun ls hl => ?_)
    obtain ⟨k92, ek92, h⟩ := lt_x h
    have hk92 : ∀ (x4_92 : Int32) (σ92 : Mm) (H : Heap) (locs : List Loc) (ls : Array Slot), zh D A0 σ92 GF 740 s.heap H locs → lv_has ls 5 [(0, .ref (A0 + q0)), (4, .int x4_92)] → k92 x4_92 σ92 = some (r0, σr) → W p l e (zR 0 0) s m [.ref (A0 + q0), .int x1, .int x2, .int x3].toArray below meth c H locs 0 0 (MQ below (zQi D A0 r0 σr GF 740) [.ref (A0 + q0), .int x1, .int x2, .int x3].toArray s 0 0 (zA A0)) (F0 m 92 ls []) := by
      intro x4_92 σ92 H locs ls Z hl h
      rw [ek92] at h
      try dsimp only at h
      refine lv_aload_n hx hb dX0_addSort_92 rfl (lv_at hl 0 rfl) ?_
      refine zw_getR F Z zC0 (a := q0) (k := 11) (zltM_0 hq0) (zsM_0 hq0) (by decide) rfl (zgM_11 hq0) zq167 (Or.inl rfl) dX0_addSort_93 ?_
      refine lv_iload hx hb dX0_addSort_96 (lv_at hl 1 rfl) ?_
      refine lv_aload_n hx hb dX0_addSort_98 rfl (lv_at hl 0 rfl) ?_
      refine zw_getI F Z zC0 (a := q0) (k := 1) (zltM_0 hq0) (zsM_0 hq0) (by decide) rfl zq136 (Or.inl rfl) dX0_addSort_99 ?_
      obtain ⟨hk102, h⟩ := ck_x h
      refine zw_iast F Z (zltM_7 hq0) (zsM_7 hq0) hk102 dX0_addSort_102 (fun σ102 _ _ eσ102 Z => ?_)
      replace h := lt_w h eσ102
      refine lv_aload_n hx hb dX0_addSort_103 rfl (lv_at hl 0 rfl) ?_
      refine lv_dup hx hb dX0_addSort_104 rfl ?_
      refine zw_getI F Z zC0 (a := q0) (k := 1) (zltM_0 hq0) (zsM_0 hq0) (by decide) rfl zq136 (Or.inl rfl) dX0_addSort_105 ?_
      refine lv_iconst (v := 1) hx hb dX0_addSort_108 (by decide) ?_
      refine lv_iadd hx hb dX0_addSort_109 ?_
      refine zw_putI F Z zC0 (a := q0) (k := 1) (zltM_0 hq0) (zsM_0 hq0) (by decide) rfl (by decide) zq136 (Or.inl rfl) rfl ⟨rfl, rfl⟩ dX0_addSort_110 (fun σ110 _ _ eσ110 Z => ?_)
      replace h := lt_w h eσ110
      refine lv_iconst (v := 1) hx hb dX0_addSort_113 (by decide) ?_
      obtain ⟨hq1, hq2⟩ := zpq h
      exact ze_z F Z hr hlocks (by decide) hq1 hq2 dX0_addSort_114
    have hL47 : ∀ (fu47 : Nat) (x4_47 : Int32) (σ47 : Mm) (H : Heap) (locs : List Loc) (ls : Array Slot), zh D A0 σ47 GF 740 s.heap H locs → lv_has ls 5 [(0, .ref (A0 + q0)), (1, .int x1), (4, .int x4_47)] → zfX0_addSort_L47 k92 q0 x1 fu47 x4_47 σ47 = some (r0, σr) → W p l e (zR 0 0) s m [.ref (A0 + q0), .int x1, .int x2, .int x3].toArray below meth c H locs 0 0 (MQ below (zQi D A0 r0 σr GF 740) [.ref (A0 + q0), .int x1, .int x2, .int x3].toArray s 0 0 (zA A0)) (F0 m 47 ls []) := by
      intro fu47
      induction fu47 with
      | zero => intro x4_47 σ47 H locs ls Z hl h; rw [zfX0_addSort_L47] at h; cases h
      | succ fu47 ih47 =>
        intro x4_47 σ47 H locs ls Z hl h
        rw [zfX0_addSort_L47] at h
        refine lv_iload hx hb dX0_addSort_47 (lv_at hl 2 rfl) ?_
        refine zb_ifle (tgt := 92) hx hb dX0_addSort_49 (by decide) h (fun h => ?_) (fun h => ?_)
        · exact hk92 x4_47 σ47 _ _ _ Z (lv_sub hl [0, 2] rfl) h
        · refine lv_aload_n hx hb dX0_addSort_52 rfl (lv_at hl 0 rfl) ?_
          refine zw_getR F Z zC0 (a := q0) (k := 8) (zltM_0 hq0) (zsM_0 hq0) (by decide) rfl (zgM_8 hq0) zq158 (Or.inl rfl) dX0_addSort_53 ?_
          refine lv_aload_n hx hb dX0_addSort_56 rfl (lv_at hl 0 rfl) ?_
          refine zw_getR F Z zC0 (a := q0) (k := 11) (zltM_0 hq0) (zsM_0 hq0) (by decide) rfl (zgM_11 hq0) zq167 (Or.inl rfl) dX0_addSort_57 ?_
          refine lv_iload hx hb dX0_addSort_60 (lv_at hl 2 rfl) ?_
          refine lv_iconst (v := 1) hx hb dX0_addSort_62 (by decide) ?_
          refine lv_isub hx hb dX0_addSort_63 ?_
          obtain ⟨hk64, h⟩ := ck_x h
          refine zw_iald F Z (zltM_7 hq0) (zsM_7 hq0) hk64 dX0_addSort_64 ?_
          obtain ⟨hk65, h⟩ := ck_x h
          refine zw_iald F Z (zltM_4 hq0) (zsM_4 hq0) hk65 dX0_addSort_65 ?_
          refine lv_iload_n hx hb dX0_addSort_66 rfl (lv_at hl 1 rfl) ?_
          refine zb_icge (tgt := 92) hx hb dX0_addSort_67 (by decide) h (fun h => ?_) (fun h => ?_)
          · exact hk92 x4_47 σ47 _ _ _ Z (lv_sub hl [0, 2] rfl) h
          · refine lv_aload_n hx hb dX0_addSort_70 rfl (lv_at hl 0 rfl) ?_
            refine zw_getR F Z zC0 (a := q0) (k := 11) (zltM_0 hq0) (zsM_0 hq0) (by decide) rfl (zgM_11 hq0) zq167 (Or.inl rfl) dX0_addSort_71 ?_
            refine lv_iload hx hb dX0_addSort_74 (lv_at hl 2 rfl) ?_
            refine lv_aload_n hx hb dX0_addSort_76 rfl (lv_at hl 0 rfl) ?_
            refine zw_getR F Z zC0 (a := q0) (k := 11) (zltM_0 hq0) (zsM_0 hq0) (by decide) rfl (zgM_11 hq0) zq167 (Or.inl rfl) dX0_addSort_77 ?_
            refine lv_iload hx hb dX0_addSort_80 (lv_at hl 2 rfl) ?_
            refine lv_iconst (v := 1) hx hb dX0_addSort_82 (by decide) ?_
            refine lv_isub hx hb dX0_addSort_83 ?_
            obtain ⟨hk84, h⟩ := ck_x h
            refine zw_iald F Z (zltM_7 hq0) (zsM_7 hq0) hk84 dX0_addSort_84 ?_
            obtain ⟨hk85, h⟩ := ck_x h
            refine zw_iast F Z (zltM_7 hq0) (zsM_7 hq0) hk85 dX0_addSort_85 (fun σ85 _ _ eσ85 Z => ?_)
            replace h := lt_w h eσ85
            obtain ⟨x4_86, ex4_86⟩ : ∃ y : Int32, y = x4_47 + (-1) := ⟨_, rfl⟩
            replace h := lt_w h ex4_86
            refine lv_iinc (v := x4_86) (lv' := [(4, .int x4_86), (0, .ref (A0 + q0)), (1, .int x1)]) hx hb dX0_addSort_86 hl (k := 2) rfl (by rw [ex4_86]; rfl) (by decide) rfl (fun ls hl => ?_)
            refine lv_goto (tgt := 47) hx hb dX0_addSort_89 (by decide) ?_
            exact ih47 x4_86 σ85 _ _ _ Z (lv_sub hl [1, 2, 0] rfl) h
    exact hL47 NF x4_45 σ40 _ _ _ Z (lv_sub hl [1, 2, 0] rfl) h
  · refine lv_iconst (v := 0) hx hb dX0_addSort_9 (by decide) ?_
    obtain ⟨hq1, hq2⟩ := zpq h
    exact ze_z F Z hr hlocks (by decide) hq1 hq2 dX0_addSort_10
set_option maxHeartbeats 4000000 in
set_option maxRecDepth 100000 in
theorem zcX0_setLaw (l : Launch) (D : va_G) (A0 : Nat) (q0 : Nat) (x1 : Int32) (x2 : Int32) (hq0 : zIsM q0) (σ : Mm) (r0 : Int32) (σr : Mm) (h : zfX0_setLaw q0 x1 x2 σ = some (r0, σr)) : Met l yX0_setLaw (zws yX0_setLaw cX0_setLaw 3 (some .boolean)) (zR 0 0) (zPc D A0 σ GF 740 [.ref (A0 + q0), .int x1, .int x2]) (zQi D A0 r0 σr GF 740) 0 0 (zA A0) := by
  unfold zfX0_setLaw at h
  refine zmet (own := RX0) (by decide) rfl (Nat.le_of_ble_eq_true rfl) ?_
  intro p e s m below meth c F hr hlocks _ Z ls hl
  have hl : lv_has ls 3 [(0, .ref (A0 + q0)), (1, .int x1), (2, .int x2)] := hl
  have hx := F.1.1
  have hb := F.1.2.1
  have hown := F.1.2.2.2.1
  have hts := F.1.2.2.2.2
  refine lv_aload_n hx hb dX0_setLaw_0 rfl (lv_at hl 0 rfl) ?_
  refine lv_iconst (v := 1) hx hb dX0_setLaw_1 (by decide) ?_
  refine zw_putI F Z zC0 (a := q0) (k := 2) (zltM_0 hq0) (zsM_0 hq0) (by decide) rfl (by decide) zq140 (Or.inl rfl) rfl (z_nb (by decide)) dX0_setLaw_2 (fun σ2 _ _ eσ2 Z => ?_)
  replace h := lt_w h eσ2
  refine lv_aload_n hx hb dX0_setLaw_5 rfl (lv_at hl 0 rfl) ?_
  refine lv_iload_n hx hb dX0_setLaw_6 rfl (lv_at hl 1 rfl) ?_
  refine zw_putI F Z zC0 (a := q0) (k := 3) (zltM_0 hq0) (zsM_0 hq0) (by decide) rfl (by decide) zq143 (Or.inl rfl) rfl ⟨rfl, rfl⟩ dX0_setLaw_7 (fun σ7 _ _ eσ7 Z => ?_)
  replace h := lt_w h eσ7
  refine lv_aload_n hx hb dX0_setLaw_10 rfl (lv_at hl 0 rfl) ?_
  refine lv_iload_n hx hb dX0_setLaw_11 rfl (lv_at hl 2 rfl) ?_
  refine zw_putI F Z zC0 (a := q0) (k := 4) (zltM_0 hq0) (zsM_0 hq0) (by decide) rfl (by decide) zq145 (Or.inl rfl) rfl ⟨rfl, rfl⟩ dX0_setLaw_12 (fun σ12 _ _ eσ12 Z => ?_)
  replace h := lt_w h eσ12
  refine lv_iconst (v := 1) hx hb dX0_setLaw_15 (by decide) ?_
  obtain ⟨hq1, hq2⟩ := zpq h
  exact ze_z F Z hr hlocks (by decide) hq1 hq2 dX0_setLaw_16
set_option maxHeartbeats 4000000 in
set_option maxRecDepth 100000 in
theorem zcX1_clause (l : Launch) (D : va_G) (A0 : Nat) (q1 : Nat) (hq1 : zIsM q1) (σ : Mm) (r0 : Int32) (σr : Mm) (h : zfX1_clause q1 σ = some (r0, σr)) : Met l yX1_clause (zws yX1_clause cX1_clause 3 (some .boolean)) (zR 8 247) (zPc D A0 σ GF 740 [.ref (A0 + 43), .ref (A0 + q1)]) (zQi D A0 r0 σr GF 740) 0 0 (zA A0) := by
  unfold zfX1_clause at h
  refine zmet (own := RX1) (by decide) rfl (Nat.le_of_ble_eq_true rfl) ?_
  intro p e s m below meth c F hr hlocks _ Z ls hl
  have hl : lv_has ls 3 [(0, .ref (A0 + 43)), (1, .ref (A0 + q1))] := hl
  have hx := F.1.1
  have hb := F.1.2.1
  have hown := F.1.2.2.2.1
  have hts := F.1.2.2.2.2
  refine lv_aload_n hx hb dX1_clause_0 rfl (lv_at hl 0 rfl) ?_
  obtain ⟨r1, σ1, hc1, h⟩ := bd2_x h
  refine zc_i Z (zr_U (x := ({ cls := "UnsoldPrice$MarketReader", name := "sign", desc := "()I" } : Jvm.MethodName)) (owner := "UnsoldPrice$Reader") (C := "UnsoldPrice$MarketReader") F Z (a := 43) (As := []) (zcX3_sign_43 l D A0 σ r1 σ1 hc1) zBX3_sign zq625 zq626 zq628 zq629 rfl (by decide) zs_43 zC1.1 rfl ⟨⟨rfl, rfl⟩, Nat.le_of_ble_eq_true rfl, Nat.le_of_ble_eq_true rfl⟩ hl.1 rfl (Nat.le_of_ble_eq_true rfl) dX1_clause_1 ⟨Nat.le_of_ble_eq_true rfl, Nat.le_of_ble_eq_true rfl⟩) (fun _ _ Z => ?_)
  refine lv_aload_n hx hb dX1_clause_4 rfl (lv_at hl 1 rfl) ?_
  refine zc_i Z (zr_S F Z (As := [.int r1, .ref (A0 + q1)]) (zcX1_kindOf l D A0 r1 q1 hq1 σ1 (zfX1_kindOf r1 q1 σ1) rfl) zBX1_kindOf zq635 rfl ⟨⟨rfl, rfl⟩, Nat.le_of_ble_eq_true rfl, Nat.le_of_ble_eq_true rfl⟩ hl.1 rfl (Nat.le_of_ble_eq_true rfl) dX1_clause_5 ⟨Nat.le_of_ble_eq_true rfl, Nat.le_of_ble_eq_true rfl⟩) (fun _ _ Z => ?_)
  refine lv_topi (fun x2_8 ex2_8 => ?_)
  replace h := lt_w h ex2_8
  refine lv_istore_n (lv' := [(2, .int x2_8), (0, .ref (A0 + 43)), (1, .ref (A0 + q1))]) hx hb dX1_clause_8 rfl hl (by decide) rfl (fun ls hl => ?_)
  refine lv_iload_n hx hb dX1_clause_9 rfl (lv_at hl 0 rfl) ?_
  refine lv_iconst (v := (-1)) hx hb dX1_clause_10 (by decide) ?_
  refine zb_icne (tgt := 19) hx hb dX1_clause_11 (by decide) h (fun h => ?_) (fun h => ?_)
  · refine lv_aload_n hx hb dX1_clause_19 rfl (lv_at hl 1 rfl) ?_
    refine lv_dup hx hb dX1_clause_20 rfl ?_
    refine zw_getI F Z zC1 (a := 43) (k := 1) (by decide) zs_43 (by decide) rfl zq355 (Or.inr zq356) dX1_clause_21 ?_
    refine lv_iconst (v := 1) hx hb dX1_clause_24 (by decide) ?_
    refine lv_iadd hx hb dX1_clause_25 ?_
    refine zw_putI F Z zC1 (a := 43) (k := 1) (by decide) zs_43 (by decide) rfl (by decide) zq355 (Or.inr zq356) rfl ⟨rfl, rfl⟩ dX1_clause_26 (fun σ26 _ _ eσ26 Z => ?_)
    replace h := lt_w h eσ26
    refine lv_aload_n hx hb dX1_clause_29 rfl (lv_at hl 1 rfl) ?_
    refine lv_iload_n hx hb dX1_clause_30 rfl (lv_at hl 0 rfl) ?_
    obtain ⟨r31, σ31, hc31, h⟩ := bd2_x h
    refine zc_i Z (zr_V F Z (a := 43) (As := [.int x2_8]) (zcX1_items l D A0 x2_8 σ26 r31 σ31 hc31) zBX1_items zq644 (by decide) zs_43 zC1.1 rfl ⟨⟨rfl, rfl⟩, Nat.le_of_ble_eq_true rfl, Nat.le_of_ble_eq_true rfl⟩ hl.1 rfl (Nat.le_of_ble_eq_true rfl) dX1_clause_31 ⟨Nat.le_of_ble_eq_true rfl, Nat.le_of_ble_eq_true rfl⟩) (fun _ _ Z => ?_)
    refine zb_ifne (tgt := 39) hx hb dX1_clause_34 (by decide) h (fun h => ?_) (fun h => ?_)
    · refine lv_iload_n hx hb dX1_clause_39 rfl (lv_at hl 0 rfl) ?_
      refine zsp h (fun hs40_0 h => ?_) (fun hs40_0 h => ?_)
      · refine lv_lookup (tgt := 68) (off := 28) hx hb dX1_clause_40 (by decide) (by first | (rw [hs40_0]; done) | (rw [hs40_0]; decide)) (by decide) ?_
        refine lv_aload_n hx hb dX1_clause_68 rfl (lv_at hl 2 rfl) ?_
        refine lv_aload_n hx hb dX1_clause_69 rfl (lv_at hl 1 rfl) ?_
        refine zw_getR F Z zC1 (a := 43) (k := 3) (by decide) zs_43 (by decide) rfl zg_43_3 zq351 (Or.inl rfl) dX1_clause_70 ?_
        refine lv_iconst (v := 0) hx hb dX1_clause_73 (by decide) ?_
        refine zw_iald F Z (by decide) zs_44 (by decide) dX1_clause_74 ?_
        refine lv_aload_n hx hb dX1_clause_75 rfl (lv_at hl 1 rfl) ?_
        refine zw_getR F Z zC1 (a := 43) (k := 3) (by decide) zs_43 (by decide) rfl zg_43_3 zq351 (Or.inl rfl) dX1_clause_76 ?_
        refine lv_iconst (v := 1) hx hb dX1_clause_79 (by decide) ?_
        refine zw_iald F Z (by decide) zs_44 (by decide) dX1_clause_80 ?_
        refine lv_aload_n hx hb dX1_clause_81 rfl (lv_at hl 1 rfl) ?_
        refine zw_getR F Z zC1 (a := 43) (k := 3) (by decide) zs_43 (by decide) rfl zg_43_3 zq351 (Or.inl rfl) dX1_clause_82 ?_
        refine lv_iconst (v := 2) hx hb dX1_clause_85 (by decide) ?_
        refine zw_iald F Z (by decide) zs_44 (by decide) dX1_clause_86 ?_
        obtain ⟨r87, σ87, hc87, h⟩ := bd2_x h
        refine zc_i Z (zr_V F Z (a := q1) (As := [.int (σ31 44 (ix 0)), .int (σ31 44 (ix 1)), .int (σ31 44 (ix 2))]) (zcX0_addSeller l D A0 q1 (σ31 44 (ix 0)) (σ31 44 (ix 1)) (σ31 44 (ix 2)) hq1 σ31 r87 σ87 hc87) zBX0_addSeller zq716 (zltM_0 hq1) (zsM_0 hq1) zC0.1 rfl ⟨⟨rfl, rfl⟩, Nat.le_of_ble_eq_true rfl, Nat.le_of_ble_eq_true rfl⟩ hl.1 rfl (Nat.le_of_ble_eq_true rfl) dX1_clause_87 ⟨Nat.le_of_ble_eq_true rfl, Nat.le_of_ble_eq_true rfl⟩) (fun _ _ Z => ?_)
        obtain ⟨hz90, h⟩ := ck_x h
        obtain ⟨hq1, hq2⟩ := zpq h
        exact ze_z F Z hr hlocks hz90 hq1 hq2 dX1_clause_90
      · refine zsp h (fun hs40_1 h => ?_) (fun hs40_1 h => ?_)
        · refine lv_lookup (tgt := 91) (off := 51) hx hb dX1_clause_40 (by decide) (by first | (rw [hs40_1]; done) | (rw [hs40_1]; decide)) (by decide) ?_
          refine lv_aload_n hx hb dX1_clause_91 rfl (lv_at hl 2 rfl) ?_
          refine lv_aload_n hx hb dX1_clause_92 rfl (lv_at hl 1 rfl) ?_
          refine zw_getR F Z zC1 (a := 43) (k := 3) (by decide) zs_43 (by decide) rfl zg_43_3 zq351 (Or.inl rfl) dX1_clause_93 ?_
          refine lv_iconst (v := 3) hx hb dX1_clause_96 (by decide) ?_
          refine zw_iald F Z (by decide) zs_44 (by decide) dX1_clause_97 ?_
          refine lv_aload_n hx hb dX1_clause_98 rfl (lv_at hl 1 rfl) ?_
          refine zw_getR F Z zC1 (a := 43) (k := 3) (by decide) zs_43 (by decide) rfl zg_43_3 zq351 (Or.inl rfl) dX1_clause_99 ?_
          refine lv_iconst (v := 4) hx hb dX1_clause_102 (by decide) ?_
          refine zw_iald F Z (by decide) zs_44 (by decide) dX1_clause_103 ?_
          refine lv_aload_n hx hb dX1_clause_104 rfl (lv_at hl 1 rfl) ?_
          refine zw_getR F Z zC1 (a := 43) (k := 3) (by decide) zs_43 (by decide) rfl zg_43_3 zq351 (Or.inl rfl) dX1_clause_105 ?_
          refine lv_iconst (v := 5) hx hb dX1_clause_108 (by decide) ?_
          refine zw_iald F Z (by decide) zs_44 (by decide) dX1_clause_109 ?_
          obtain ⟨r110, σ110, hc110, h⟩ := bd2_x h
          refine zc_i Z (zr_V F Z (a := q1) (As := [.int (σ31 44 (ix 3)), .int (σ31 44 (ix 4)), .int (σ31 44 (ix 5))]) (zcX0_addSort l D A0 q1 (σ31 44 (ix 3)) (σ31 44 (ix 4)) (σ31 44 (ix 5)) hq1 σ31 r110 σ110 hc110) zBX0_addSort zq720 (zltM_0 hq1) (zsM_0 hq1) zC0.1 rfl ⟨⟨rfl, rfl⟩, Nat.le_of_ble_eq_true rfl, Nat.le_of_ble_eq_true rfl⟩ hl.1 rfl (Nat.le_of_ble_eq_true rfl) dX1_clause_110 ⟨Nat.le_of_ble_eq_true rfl, Nat.le_of_ble_eq_true rfl⟩) (fun _ _ Z => ?_)
          obtain ⟨hz113, h⟩ := ck_x h
          obtain ⟨hq1, hq2⟩ := zpq h
          exact ze_z F Z hr hlocks hz113 hq1 hq2 dX1_clause_113
        · refine lv_lookup (tgt := 114) (off := 74) hx hb dX1_clause_40 (by decide) ((lv_osw hs40_0 (a := 0) (by decide)).trans ((lv_osw hs40_1 (a := 1) (by decide)).trans (rfl))) (by decide) ?_
          refine lv_aload_n hx hb dX1_clause_114 rfl (lv_at hl 2 rfl) ?_
          refine lv_aload_n hx hb dX1_clause_115 rfl (lv_at hl 1 rfl) ?_
          refine zw_getR F Z zC1 (a := 43) (k := 3) (by decide) zs_43 (by decide) rfl zg_43_3 zq351 (Or.inl rfl) dX1_clause_116 ?_
          refine lv_bipush (v := 6) hx hb dX1_clause_119 (by decide) ?_
          refine zw_iald F Z (by decide) zs_44 (by decide) dX1_clause_121 ?_
          refine lv_aload_n hx hb dX1_clause_122 rfl (lv_at hl 1 rfl) ?_
          refine zw_getR F Z zC1 (a := 43) (k := 3) (by decide) zs_43 (by decide) rfl zg_43_3 zq351 (Or.inl rfl) dX1_clause_123 ?_
          refine lv_bipush (v := 7) hx hb dX1_clause_126 (by decide) ?_
          refine zw_iald F Z (by decide) zs_44 (by decide) dX1_clause_128 ?_
          obtain ⟨r129, σ129, hc129, h⟩ := bd2_x h
          refine zc_i Z (zr_V F Z (a := q1) (As := [.int (σ31 44 (ix 6)), .int (σ31 44 (ix 7))]) (zcX0_setLaw l D A0 q1 (σ31 44 (ix 6)) (σ31 44 (ix 7)) hq1 σ31 r129 σ129 hc129) zBX0_setLaw zq724 (zltM_0 hq1) (zsM_0 hq1) zC0.1 rfl ⟨⟨rfl, rfl⟩, Nat.le_of_ble_eq_true rfl, Nat.le_of_ble_eq_true rfl⟩ hl.1 rfl (Nat.le_of_ble_eq_true rfl) dX1_clause_129 ⟨Nat.le_of_ble_eq_true rfl, Nat.le_of_ble_eq_true rfl⟩) (fun _ _ Z => ?_)
          obtain ⟨hz132, h⟩ := ck_x h
          obtain ⟨hq1, hq2⟩ := zpq h
          exact ze_z F Z hr hlocks hz132 hq1 hq2 dX1_clause_132
    · refine lv_iconst (v := 0) hx hb dX1_clause_37 (by decide) ?_
      obtain ⟨hq1, hq2⟩ := zpq h
      exact ze_z F Z hr hlocks (by decide) hq1 hq2 dX1_clause_38
  · refine lv_aload_n hx hb dX1_clause_14 rfl (lv_at hl 1 rfl) ?_
    obtain ⟨r15, σ15, hc15, h⟩ := bd2_x h
    refine zc_i Z (zr_U (x := ({ cls := "UnsoldPrice$MarketReader", name := "wrong", desc := "()Z" } : Jvm.MethodName)) (owner := "UnsoldPrice$Reader") (C := "UnsoldPrice$MarketReader") F Z (a := 43) (As := []) (zcX3_wrong_43 l D A0 σ1 r15 σ15 hc15) zBX3_wrong zq638 zq639 zq641 zq642 rfl (by decide) zs_43 zC1.1 rfl ⟨⟨rfl, rfl⟩, Nat.le_of_ble_eq_true rfl, Nat.le_of_ble_eq_true rfl⟩ hl.1 rfl (Nat.le_of_ble_eq_true rfl) dX1_clause_15 ⟨Nat.le_of_ble_eq_true rfl, Nat.le_of_ble_eq_true rfl⟩) (fun _ _ Z => ?_)
    obtain ⟨hz18, h⟩ := ck_x h
    obtain ⟨hq1, hq2⟩ := zpq h
    exact ze_z F Z hr hlocks hz18 hq1 hq2 dX1_clause_18
set_option maxHeartbeats 4000000 in
set_option maxRecDepth 100000 in
theorem zcX3_take_43 (l : Launch) (D : va_G) (A0 : Nat) (x1 : Int32) (σ : Mm) (r0 : Int32) (σr : Mm) (h : zfX3_take_43 x1 σ = some (r0, σr)) : Met l yX3_take (zws yX3_take cX3_take 2 (some .boolean)) (zR 2 42) (zPc D A0 σ GF 740 [.ref (A0 + 43), .int x1]) (zQi D A0 r0 σr GF 740) 0 0 (zA A0) := by
  unfold zfX3_take_43 at h
  refine zmet (own := RX3) (by decide) rfl (Nat.le_of_ble_eq_true rfl) ?_
  intro p e s m below meth c F hr hlocks _ Z ls hl
  have hl : lv_has ls 2 [(0, .ref (A0 + 43)), (1, .int x1)] := hl
  have hx := F.1.1
  have hb := F.1.2.1
  have hown := F.1.2.2.2.1
  have hts := F.1.2.2.2.2
  refine lv_aload_n hx hb dX3_take_0 rfl (lv_at hl 0 rfl) ?_
  obtain ⟨r1, σ1, hc1, h⟩ := bd2_x h
  refine zc_i Z (zr_U (x := ({ cls := "UnsoldPrice$Reader", name := "sign", desc := "()I" } : Jvm.MethodName)) (owner := "UnsoldPrice$Reader") (C := "UnsoldPrice$MarketReader") F Z (a := 43) (As := []) (zcX3_sign_43 l D A0 σ r1 σ1 hc1) zBX3_sign zq734 zq1855 zq1856 zq629 rfl (by decide) zs_43 zC1.1 rfl ⟨⟨rfl, rfl⟩, Nat.le_of_ble_eq_true rfl, Nat.le_of_ble_eq_true rfl⟩ hl.1 rfl (Nat.le_of_ble_eq_true rfl) dX3_take_1 ⟨Nat.le_of_ble_eq_true rfl, Nat.le_of_ble_eq_true rfl⟩) (fun _ _ Z => ?_)
  refine lv_iload_n hx hb dX3_take_4 rfl (lv_at hl 1 rfl) ?_
  refine zb_iceq (tgt := 13) hx hb dX3_take_5 (by decide) h (fun h => ?_) (fun h => ?_)
  · refine lv_aload_n hx hb dX3_take_13 rfl (lv_at hl 0 rfl) ?_
    refine lv_dup hx hb dX3_take_14 rfl ?_
    refine zw_getI F Z zC1 (a := 43) (k := 1) (by decide) zs_43 (by decide) rfl zq354 (Or.inl rfl) dX3_take_15 ?_
    refine lv_iconst (v := 1) hx hb dX3_take_18 (by decide) ?_
    refine lv_iadd hx hb dX3_take_19 ?_
    refine zw_putI F Z zC1 (a := 43) (k := 1) (by decide) zs_43 (by decide) rfl (by decide) zq354 (Or.inl rfl) rfl ⟨rfl, rfl⟩ dX3_take_20 (fun σ20 _ _ eσ20 Z => ?_)
    replace h := lt_w h eσ20
    refine lv_iconst (v := 1) hx hb dX3_take_23 (by decide) ?_
    obtain ⟨hq1, hq2⟩ := zpq h
    exact ze_z F Z hr hlocks (by decide) hq1 hq2 dX3_take_24
  · refine lv_aload_n hx hb dX3_take_8 rfl (lv_at hl 0 rfl) ?_
    obtain ⟨r9, σ9, hc9, h⟩ := bd2_x h
    refine zc_i Z (zr_U (x := ({ cls := "UnsoldPrice$Reader", name := "wrong", desc := "()Z" } : Jvm.MethodName)) (owner := "UnsoldPrice$Reader") (C := "UnsoldPrice$MarketReader") F Z (a := 43) (As := []) (zcX3_wrong_43 l D A0 σ1 r9 σ9 hc9) zBX3_wrong zq735 zq1858 zq1859 zq642 rfl (by decide) zs_43 zC1.1 rfl ⟨⟨rfl, rfl⟩, Nat.le_of_ble_eq_true rfl, Nat.le_of_ble_eq_true rfl⟩ hl.1 rfl (Nat.le_of_ble_eq_true rfl) dX3_take_9 ⟨Nat.le_of_ble_eq_true rfl, Nat.le_of_ble_eq_true rfl⟩) (fun _ _ Z => ?_)
    obtain ⟨hz12, h⟩ := ck_x h
    obtain ⟨hq1, hq2⟩ := zpq h
    exact ze_z F Z hr hlocks hz12 hq1 hq2 dX3_take_12
set_option maxHeartbeats 4000000 in
set_option maxRecDepth 100000 in
theorem zcX3_take_46 (l : Launch) (D : va_G) (A0 : Nat) (x1 : Int32) (σ : Mm) (r0 : Int32) (σr : Mm) (h : zfX3_take_46 x1 σ = some (r0, σr)) : Met l yX3_take (zws yX3_take cX3_take 2 (some .boolean)) (zR 2 42) (zPc D A0 σ GF 740 [.ref (A0 + 46), .int x1]) (zQi D A0 r0 σr GF 740) 0 0 (zA A0) := by
  unfold zfX3_take_46 at h
  refine zmet (own := RX3) (by decide) rfl (Nat.le_of_ble_eq_true rfl) ?_
  intro p e s m below meth c F hr hlocks _ Z ls hl
  have hl : lv_has ls 2 [(0, .ref (A0 + 46)), (1, .int x1)] := hl
  have hx := F.1.1
  have hb := F.1.2.1
  have hown := F.1.2.2.2.1
  have hts := F.1.2.2.2.2
  refine lv_aload_n hx hb dX3_take_0 rfl (lv_at hl 0 rfl) ?_
  obtain ⟨r1, σ1, hc1, h⟩ := bd2_x h
  refine zc_i Z (zr_U (x := ({ cls := "UnsoldPrice$Reader", name := "sign", desc := "()I" } : Jvm.MethodName)) (owner := "UnsoldPrice$Reader") (C := "UnsoldPrice$RuleReader") F Z (a := 46) (As := []) (zcX3_sign_46 l D A0 σ r1 σ1 hc1) zBX3_sign zq734 zq1855 zq1857 zq629 rfl (by decide) zs_46 zC5.1 rfl ⟨⟨rfl, rfl⟩, Nat.le_of_ble_eq_true rfl, Nat.le_of_ble_eq_true rfl⟩ hl.1 rfl (Nat.le_of_ble_eq_true rfl) dX3_take_1 ⟨Nat.le_of_ble_eq_true rfl, Nat.le_of_ble_eq_true rfl⟩) (fun _ _ Z => ?_)
  refine lv_iload_n hx hb dX3_take_4 rfl (lv_at hl 1 rfl) ?_
  refine zb_iceq (tgt := 13) hx hb dX3_take_5 (by decide) h (fun h => ?_) (fun h => ?_)
  · refine lv_aload_n hx hb dX3_take_13 rfl (lv_at hl 0 rfl) ?_
    refine lv_dup hx hb dX3_take_14 rfl ?_
    refine zw_getI F Z zC5 (a := 46) (k := 1) (by decide) zs_46 (by decide) rfl zq354 (Or.inl rfl) dX3_take_15 ?_
    refine lv_iconst (v := 1) hx hb dX3_take_18 (by decide) ?_
    refine lv_iadd hx hb dX3_take_19 ?_
    refine zw_putI F Z zC5 (a := 46) (k := 1) (by decide) zs_46 (by decide) rfl (by decide) zq354 (Or.inl rfl) rfl ⟨rfl, rfl⟩ dX3_take_20 (fun σ20 _ _ eσ20 Z => ?_)
    replace h := lt_w h eσ20
    refine lv_iconst (v := 1) hx hb dX3_take_23 (by decide) ?_
    obtain ⟨hq1, hq2⟩ := zpq h
    exact ze_z F Z hr hlocks (by decide) hq1 hq2 dX3_take_24
  · refine lv_aload_n hx hb dX3_take_8 rfl (lv_at hl 0 rfl) ?_
    obtain ⟨r9, σ9, hc9, h⟩ := bd2_x h
    refine zc_i Z (zr_U (x := ({ cls := "UnsoldPrice$Reader", name := "wrong", desc := "()Z" } : Jvm.MethodName)) (owner := "UnsoldPrice$Reader") (C := "UnsoldPrice$RuleReader") F Z (a := 46) (As := []) (zcX3_wrong_46 l D A0 σ1 r9 σ9 hc9) zBX3_wrong zq735 zq1858 zq1860 zq642 rfl (by decide) zs_46 zC5.1 rfl ⟨⟨rfl, rfl⟩, Nat.le_of_ble_eq_true rfl, Nat.le_of_ble_eq_true rfl⟩ hl.1 rfl (Nat.le_of_ble_eq_true rfl) dX3_take_9 ⟨Nat.le_of_ble_eq_true rfl, Nat.le_of_ble_eq_true rfl⟩) (fun _ _ Z => ?_)
    obtain ⟨hz12, h⟩ := ck_x h
    obtain ⟨hq1, hq2⟩ := zpq h
    exact ze_z F Z hr hlocks hz12 hq1 hq2 dX3_take_12
set_option maxHeartbeats 4000000 in
set_option maxRecDepth 100000 in
theorem zcX1_read (l : Launch) (D : va_G) (A0 : Nat) (q1 : Nat) (hq1 : zIsM q1) (σ : Mm) (r0 : Int32) (σr : Mm) (h : zfX1_read q1 σ = some (r0, σr)) : Met l yX1_read (zws yX1_read cX1_read 3 (some .int)) (zR 9 269) (zPc D A0 σ GF 740 [.ref (A0 + 43), .ref (A0 + q1)]) (zQi D A0 r0 σr GF 740) 0 0 (zA A0) := by
  unfold zfX1_read at h
  refine zmet (own := RX1) (by decide) rfl (Nat.le_of_ble_eq_true rfl) ?_
  intro p e s m below meth c F hr hlocks _ Z ls hl
  have hl : lv_has ls 3 [(0, .ref (A0 + 43)), (1, .ref (A0 + q1))] := hl
  have hx := F.1.1
  have hb := F.1.2.1
  have hown := F.1.2.2.2.1
  have hts := F.1.2.2.2.2
  refine lv_aload_n hx hb dX1_read_0 rfl (lv_at hl 0 rfl) ?_
  obtain ⟨σ1, hc1, h⟩ := bd_x h
  refine zc_v Z (zr_U (x := ({ cls := "UnsoldPrice$MarketReader", name := "beginReading", desc := "()V" } : Jvm.MethodName)) (owner := "UnsoldPrice$Reader") (C := "UnsoldPrice$MarketReader") F Z (a := 43) (As := []) (zcX3_beginReading_43 l D A0 σ σ1 hc1) zBX3_beginReading zq609 zq610 zq612 zq613 rfl (by decide) zs_43 zC1.1 rfl ⟨⟨rfl, rfl⟩, Nat.le_of_ble_eq_true rfl, Nat.le_of_ble_eq_true rfl⟩ hl.1 rfl (Nat.le_of_ble_eq_true rfl) dX1_read_1 ⟨Nat.le_of_ble_eq_true rfl, Nat.le_of_ble_eq_true rfl⟩) (fun _ _ Z => ?_)
  refine lv_aload_n hx hb dX1_read_4 rfl (lv_at hl 1 rfl) ?_
  obtain ⟨σ5, hc5, h⟩ := bd_x h
  refine zc_v Z (zr_V F Z (a := q1) (As := []) (zcX0_clear l D A0 q1 hq1 σ1 σ5 hc5) zBX0_clear zq615 (zltM_0 hq1) (zsM_0 hq1) zC0.1 rfl ⟨⟨rfl, rfl⟩, Nat.le_of_ble_eq_true rfl, Nat.le_of_ble_eq_true rfl⟩ hl.1 rfl (Nat.le_of_ble_eq_true rfl) dX1_read_5 ⟨Nat.le_of_ble_eq_true rfl, Nat.le_of_ble_eq_true rfl⟩) (fun _ _ Z => ?_)
  refine lv_iconst (v := 0) hx hb dX1_read_8 (by decide) ?_
  refine lv_istore_n (lv' := [(2, .int 0), (0, .ref (A0 + 43)), (1, .ref (A0 + q1))]) hx hb dX1_read_9 rfl hl (by decide) rfl (fun ls hl => ?_)
  obtain ⟨k25, ek25, h⟩ := lt_x h
  have hk25 : ∀ (σ25 : Mm) (H : Heap) (locs : List Loc) (ls : Array Slot), zh D A0 σ25 GF 740 s.heap H locs → lv_has ls 3 [(0, .ref (A0 + 43))] → k25 σ25 = some (r0, σr) → W p l e (zR 9 269) s m [.ref (A0 + 43), .ref (A0 + q1)].toArray below meth c H locs 0 0 (MQ below (zQi D A0 r0 σr GF 740) [.ref (A0 + 43), .ref (A0 + q1)].toArray s 0 0 (zA A0)) (F0 m 25 ls []) := by
    intro  σ25 H locs ls Z hl h
    rw [ek25] at h
    try dsimp only at h
    refine lv_aload_n hx hb dX1_read_25 rfl (lv_at hl 0 rfl) ?_
    refine zw_getI F Z zC1 (a := 43) (k := 2) (by decide) zs_43 (by decide) rfl zq360 (Or.inr zq361) dX1_read_26 ?_
    obtain ⟨hq1, hq2⟩ := zpq h
    exact ze_i F Z hr hlocks hq1 hq2 dX1_read_29
  obtain ⟨k38, ek38, h⟩ := lt_x h
  have hk38 : ∀ (σ38 : Mm) (H : Heap) (locs : List Loc) (ls : Array Slot), zh D A0 σ38 GF 740 s.heap H locs → lv_has ls 3 [(0, .ref (A0 + 43)), (1, .ref (A0 + q1))] → k38 σ38 = some (r0, σr) → W p l e (zR 9 269) s m [.ref (A0 + 43), .ref (A0 + q1)].toArray below meth c H locs 0 0 (MQ below (zQi D A0 r0 σr GF 740) [.ref (A0 + 43), .ref (A0 + q1)].toArray s 0 0 (zA A0)) (F0 m 38 ls []) := by
    intro  σ38 H locs ls Z hl h
    rw [ek38] at h
    try dsimp only at h
    refine lv_aload_n hx hb dX1_read_38 rfl (lv_at hl 1 rfl) ?_
    refine zw_getI F Z zC0 (a := q1) (k := 0) (zltM_0 hq1) (zsM_0 hq1) (by decide) rfl zq132 (Or.inl rfl) dX1_read_39 ?_
    obtain ⟨j56, ej56, h⟩ := lt_x h
    have hj56 : ∀ (σ56 : Mm) (H : Heap) (locs : List Loc) (ls : Array Slot), zh D A0 σ56 GF 740 s.heap H locs → lv_has ls 3 [(0, .ref (A0 + 43))] → j56 σ56 = some (r0, σr) → W p l e (zR 9 269) s m [.ref (A0 + 43), .ref (A0 + q1)].toArray below meth c H locs 0 0 (MQ below (zQi D A0 r0 σr GF 740) [.ref (A0 + 43), .ref (A0 + q1)].toArray s 0 0 (zA A0)) (F0 m 56 ls []) := by
      intro  σ56 H locs ls Z hl h
      rw [ej56] at h
      try dsimp only at h
      refine lv_aload_n hx hb dX1_read_56 rfl (lv_at hl 0 rfl) ?_
      refine zw_getI F Z zC1 (a := 43) (k := 1) (by decide) zs_43 (by decide) rfl zq355 (Or.inr zq356) dX1_read_57 ?_
      obtain ⟨hq1, hq2⟩ := zpq h
      exact ze_i F Z hr hlocks hq1 hq2 dX1_read_60
    refine zb_ifle (tgt := 56) hx hb dX1_read_42 (by decide) h (fun h => ?_) (fun h => ?_)
    · exact hj56 σ38 _ _ _ Z (lv_sub hl [0] rfl) h
    · refine lv_aload_n hx hb dX1_read_45 rfl (lv_at hl 1 rfl) ?_
      refine zw_getI F Z zC0 (a := q1) (k := 1) (zltM_0 hq1) (zsM_0 hq1) (by decide) rfl zq137 (Or.inl rfl) dX1_read_46 ?_
      refine zb_ifle (tgt := 56) hx hb dX1_read_49 (by decide) h (fun h => ?_) (fun h => ?_)
      · exact hj56 σ38 _ _ _ Z (lv_sub hl [0] rfl) h
      · refine lv_iconst (v := (-1)) hx hb dX1_read_52 (by decide) ?_
        refine lv_goto (tgt := 60) hx hb dX1_read_53 (by decide) ?_
        obtain ⟨hq1, hq2⟩ := zpq h
        exact ze_i F Z hr hlocks hq1 hq2 dX1_read_60
  obtain ⟨k70, ek70, h⟩ := lt_x h
  have hk70 : ∀ (σ70 : Mm) (H : Heap) (locs : List Loc) (ls : Array Slot), zh D A0 σ70 GF 740 s.heap H locs → lv_has ls 3 [(0, .ref (A0 + 43))] → k70 σ70 = some (r0, σr) → W p l e (zR 9 269) s m [.ref (A0 + 43), .ref (A0 + q1)].toArray below meth c H locs 0 0 (MQ below (zQi D A0 r0 σr GF 740) [.ref (A0 + 43), .ref (A0 + q1)].toArray s 0 0 (zA A0)) (F0 m 70 ls []) := by
    intro  σ70 H locs ls Z hl h
    rw [ek70] at h
    try dsimp only at h
    refine lv_aload_n hx hb dX1_read_70 rfl (lv_at hl 0 rfl) ?_
    refine zw_getI F Z zC1 (a := 43) (k := 2) (by decide) zs_43 (by decide) rfl zq360 (Or.inr zq361) dX1_read_71 ?_
    obtain ⟨hq1, hq2⟩ := zpq h
    exact ze_i F Z hr hlocks hq1 hq2 dX1_read_74
  obtain ⟨k81, ek81, h⟩ := lt_x h
  have hk81 : ∀ (σ81 : Mm) (H : Heap) (locs : List Loc) (ls : Array Slot), zh D A0 σ81 GF 740 s.heap H locs → lv_has ls 3 [(0, .ref (A0 + 43))] → k81 σ81 = some (r0, σr) → W p l e (zR 9 269) s m [.ref (A0 + 43), .ref (A0 + q1)].toArray below meth c H locs 0 0 (MQ below (zQi D A0 r0 σr GF 740) [.ref (A0 + 43), .ref (A0 + q1)].toArray s 0 0 (zA A0)) (F0 m 81 ls []) := by
    intro  σ81 H locs ls Z hl h
    rw [ek81] at h
    try dsimp only at h
    refine lv_aload_n hx hb dX1_read_81 rfl (lv_at hl 0 rfl) ?_
    refine zw_getI F Z zC1 (a := 43) (k := 1) (by decide) zs_43 (by decide) rfl zq355 (Or.inr zq356) dX1_read_82 ?_
    obtain ⟨hq1, hq2⟩ := zpq h
    exact ze_i F Z hr hlocks hq1 hq2 dX1_read_85
  have hL10 : ∀ (fu10 : Nat) (x2_10 : Int32) (σ10 : Mm) (H : Heap) (locs : List Loc) (ls : Array Slot), zh D A0 σ10 GF 740 s.heap H locs → lv_has ls 3 [(0, .ref (A0 + 43)), (1, .ref (A0 + q1)), (2, .int x2_10)] → zfX1_read_L10 k81 q1 k25 k38 k70 fu10 x2_10 σ10 = some (r0, σr) → W p l e (zR 9 269) s m [.ref (A0 + 43), .ref (A0 + q1)].toArray below meth c H locs 0 0 (MQ below (zQi D A0 r0 σr GF 740) [.ref (A0 + 43), .ref (A0 + q1)].toArray s 0 0 (zA A0)) (F0 m 10 ls []) := by
    intro fu10
    induction fu10 with
    | zero => intro x2_10 σ10 H locs ls Z hl h; rw [zfX1_read_L10] at h; cases h
    | succ fu10 ih10 =>
      intro x2_10 σ10 H locs ls Z hl h
      rw [zfX1_read_L10] at h
      refine lv_iload_n hx hb dX1_read_10 rfl (lv_at hl 2 rfl) ?_
      refine lv_sipush (v := 160) hx hb dX1_read_11 (by decide) ?_
      refine zb_icgt (tgt := 81) hx hb dX1_read_14 (by decide) h (fun h => ?_) (fun h => ?_)
      · exact hk81 σ10 _ _ _ Z (lv_sub hl [0] rfl) h
      · refine lv_aload_n hx hb dX1_read_17 rfl (lv_at hl 0 rfl) ?_
        refine lv_aload_n hx hb dX1_read_18 rfl (lv_at hl 1 rfl) ?_
        obtain ⟨r19, σ19, hc19, h⟩ := bd2_x h
        refine zc_i Z (zr_V F Z (a := 43) (As := [.ref (A0 + q1)]) (zcX1_clause l D A0 q1 hq1 σ10 r19 σ19 hc19) zBX1_clause zq621 (by decide) zs_43 zC1.1 rfl ⟨⟨rfl, rfl⟩, Nat.le_of_ble_eq_true rfl, Nat.le_of_ble_eq_true rfl⟩ hl.1 rfl (Nat.le_of_ble_eq_true rfl) dX1_read_19 ⟨Nat.le_of_ble_eq_true rfl, Nat.le_of_ble_eq_true rfl⟩) (fun _ _ Z => ?_)
        refine zb_ifne (tgt := 30) hx hb dX1_read_22 (by decide) h (fun h => ?_) (fun h => ?_)
        · refine lv_aload_n hx hb dX1_read_30 rfl (lv_at hl 0 rfl) ?_
          obtain ⟨r31, σ31, hc31, h⟩ := bd2_x h
          refine zc_i Z (zr_U (x := ({ cls := "UnsoldPrice$MarketReader", name := "sign", desc := "()I" } : Jvm.MethodName)) (owner := "UnsoldPrice$Reader") (C := "UnsoldPrice$MarketReader") F Z (a := 43) (As := []) (zcX3_sign_43 l D A0 σ19 r31 σ31 hc31) zBX3_sign zq625 zq626 zq628 zq629 rfl (by decide) zs_43 zC1.1 rfl ⟨⟨rfl, rfl⟩, Nat.le_of_ble_eq_true rfl, Nat.le_of_ble_eq_true rfl⟩ hl.1 rfl (Nat.le_of_ble_eq_true rfl) dX1_read_31 ⟨Nat.le_of_ble_eq_true rfl, Nat.le_of_ble_eq_true rfl⟩) (fun _ _ Z => ?_)
          refine lv_iconst (v := (-1)) hx hb dX1_read_34 (by decide) ?_
          refine zb_icne (tgt := 61) hx hb dX1_read_35 (by decide) h (fun h => ?_) (fun h => ?_)
          · refine lv_aload_n hx hb dX1_read_61 rfl (lv_at hl 0 rfl) ?_
            refine lv_bipush (v := 59) hx hb dX1_read_62 (by decide) ?_
            obtain ⟨r64, σ64, hc64, h⟩ := bd2_x h
            refine zc_i Z (zr_U (x := ({ cls := "UnsoldPrice$MarketReader", name := "take", desc := "(I)Z" } : Jvm.MethodName)) (owner := "UnsoldPrice$Reader") (C := "UnsoldPrice$MarketReader") F Z (a := 43) (As := [.int 59]) (zcX3_take_43 l D A0 59 σ31 r64 σ64 hc64) zBX3_take zq728 zq729 zq731 zq732 rfl (by decide) zs_43 zC1.1 rfl ⟨⟨rfl, rfl⟩, Nat.le_of_ble_eq_true rfl, Nat.le_of_ble_eq_true rfl⟩ hl.1 rfl (Nat.le_of_ble_eq_true rfl) dX1_read_64 ⟨Nat.le_of_ble_eq_true rfl, Nat.le_of_ble_eq_true rfl⟩) (fun _ _ Z => ?_)
            refine zb_ifne (tgt := 75) hx hb dX1_read_67 (by decide) h (fun h => ?_) (fun h => ?_)
            · obtain ⟨x2_75, ex2_75⟩ : ∃ y : Int32, y = x2_10 + 1 := ⟨_, rfl⟩
              replace h := lt_w h ex2_75
              refine lv_iinc (v := x2_75) (lv' := [(2, .int x2_75), (0, .ref (A0 + 43)), (1, .ref (A0 + q1))]) hx hb dX1_read_75 hl (k := 2) rfl (by rw [ex2_75]; rfl) (by decide) rfl (fun ls hl => ?_)
              refine lv_goto (tgt := 10) hx hb dX1_read_78 (by decide) ?_
              exact ih10 x2_75 σ64 _ _ _ Z (lv_sub hl [1, 2, 0] rfl) h
            · exact hk70 σ64 _ _ _ Z (lv_sub hl [0] rfl) h
          · exact hk38 σ31 _ _ _ Z (lv_sub hl [0, 1] rfl) h
        · exact hk25 σ19 _ _ _ Z (lv_sub hl [0] rfl) h
  exact hL10 NF 0 σ5 _ _ _ Z (lv_sub hl [1, 2, 0] rfl) h
set_option maxHeartbeats 4000000 in
set_option maxRecDepth 100000 in
theorem zcX4_put (l : Launch) (D : va_G) (A0 : Nat) (q0 : Nat) (x1 : Int32) (hq0 : zIsR q0) (σ : Mm) (r0 : Int32) (σr : Mm) (h : zfX4_put q0 x1 σ = some (r0, σr)) : Met l yX4_put (zws yX4_put cX4_put 2 (some .boolean)) (zR 0 0) (zPc D A0 σ GF 740 [.ref (A0 + q0), .int x1]) (zQi D A0 r0 σr GF 740) 0 0 (zA A0) := by
  unfold zfX4_put at h
  refine zmet (own := RX4) (by decide) rfl (Nat.le_of_ble_eq_true rfl) ?_
  intro p e s m below meth c F hr hlocks _ Z ls hl
  have hl : lv_has ls 2 [(0, .ref (A0 + q0)), (1, .int x1)] := hl
  have hx := F.1.1
  have hb := F.1.2.1
  have hown := F.1.2.2.2.1
  have hts := F.1.2.2.2.2
  refine lv_aload_n hx hb dX4_put_0 rfl (lv_at hl 0 rfl) ?_
  refine zw_getI F Z zC4 (a := q0) (k := 2) (zltR_0 hq0) (zsR_0 hq0) (by decide) rfl zq203 (Or.inl rfl) dX4_put_1 ?_
  refine lv_aload_n hx hb dX4_put_4 rfl (lv_at hl 0 rfl) ?_
  refine zw_getR F Z zC4 (a := q0) (k := 0) (zltR_0 hq0) (zsR_0 hq0) (by decide) rfl (zgR_0 hq0) zq201 (Or.inl rfl) dX4_put_5 ?_
  refine zw_alen F Z (ty := 0) (v := 320) (zltR_1 hq0) (zsR_1 hq0) rfl rfl dX4_put_8 ?_
  refine zb_iclt (tgt := 14) hx hb dX4_put_9 (by decide) h (fun h => ?_) (fun h => ?_)
  · refine lv_aload_n hx hb dX4_put_14 rfl (lv_at hl 0 rfl) ?_
    refine zw_getR F Z zC4 (a := q0) (k := 0) (zltR_0 hq0) (zsR_0 hq0) (by decide) rfl (zgR_0 hq0) zq201 (Or.inl rfl) dX4_put_15 ?_
    refine lv_aload_n hx hb dX4_put_18 rfl (lv_at hl 0 rfl) ?_
    refine zw_getI F Z zC4 (a := q0) (k := 2) (zltR_0 hq0) (zsR_0 hq0) (by decide) rfl zq203 (Or.inl rfl) dX4_put_19 ?_
    refine lv_iload_n hx hb dX4_put_22 rfl (lv_at hl 1 rfl) ?_
    obtain ⟨hk23, h⟩ := ck_x h
    refine zw_iast F Z (zltR_1 hq0) (zsR_1 hq0) hk23 dX4_put_23 (fun σ23 _ _ eσ23 Z => ?_)
    replace h := lt_w h eσ23
    refine lv_aload_n hx hb dX4_put_24 rfl (lv_at hl 0 rfl) ?_
    refine lv_dup hx hb dX4_put_25 rfl ?_
    refine zw_getI F Z zC4 (a := q0) (k := 2) (zltR_0 hq0) (zsR_0 hq0) (by decide) rfl zq203 (Or.inl rfl) dX4_put_26 ?_
    refine lv_iconst (v := 1) hx hb dX4_put_29 (by decide) ?_
    refine lv_iadd hx hb dX4_put_30 ?_
    refine zw_putI F Z zC4 (a := q0) (k := 2) (zltR_0 hq0) (zsR_0 hq0) (by decide) rfl (by decide) zq203 (Or.inl rfl) rfl ⟨rfl, rfl⟩ dX4_put_31 (fun σ31 _ _ eσ31 Z => ?_)
    replace h := lt_w h eσ31
    refine lv_iconst (v := 1) hx hb dX4_put_34 (by decide) ?_
    obtain ⟨hq1, hq2⟩ := zpq h
    exact ze_z F Z hr hlocks (by decide) hq1 hq2 dX4_put_35
  · refine lv_iconst (v := 0) hx hb dX4_put_12 (by decide) ?_
    obtain ⟨hq1, hq2⟩ := zpq h
    exact ze_z F Z hr hlocks (by decide) hq1 hq2 dX4_put_13
set_option maxHeartbeats 4000000 in
set_option maxRecDepth 100000 in
theorem zcX5_put (l : Launch) (D : va_G) (A0 : Nat) (x1 : Int32) (σ : Mm) (r0 : Int32) (σr : Mm) (h : zfX5_put x1 σ = some (r0, σr)) : Met l yX5_put (zws yX5_put cX5_put 2 (some .boolean)) (zR 1 21) (zPc D A0 σ GF 740 [.ref (A0 + 46), .int x1]) (zQi D A0 r0 σr GF 740) 0 0 (zA A0) := by
  unfold zfX5_put at h
  refine zmet (own := RX5) (by decide) rfl (Nat.le_of_ble_eq_true rfl) ?_
  intro p e s m below meth c F hr hlocks _ Z ls hl
  have hl : lv_has ls 2 [(0, .ref (A0 + 46)), (1, .int x1)] := hl
  have hx := F.1.1
  have hb := F.1.2.1
  have hown := F.1.2.2.2.1
  have hts := F.1.2.2.2.2
  refine lv_aload_n hx hb dX5_put_0 rfl (lv_at hl 0 rfl) ?_
  obtain ⟨hk1, h⟩ := ck_x h
  refine zw_getM F Z zC5 (a := 46) (k := 3) (by decide) zs_46 (by decide) rfl (zR_nz hk1) zq382 (Or.inl rfl) dX5_put_1 ?_
  refine lv_ifnull hx hb dX5_put_4 ?_
  refine lv_aload_n hx hb dX5_put_7 rfl (lv_at hl 0 rfl) ?_
  obtain ⟨hk8, h⟩ := ck_x h
  refine zw_getM F Z zC5 (a := 46) (k := 3) (by decide) zs_46 (by decide) rfl (zR_nz hk8) zq382 (Or.inl rfl) dX5_put_8 ?_
  refine lv_iload_n hx hb dX5_put_11 rfl (lv_at hl 1 rfl) ?_
  obtain ⟨r12, σ12, hc12, h⟩ := bd2_x h
  refine zc_i Z (zr_V F Z (a := (ix (σ 46 3))) (As := [.int x1]) (zcX4_put l D A0 (ix (σ 46 3)) x1 hk8 σ r12 σ12 hc12) zBX4_put zq768 (zltR_0 hk8) (zsR_0 hk8) zC4.1 rfl ⟨⟨rfl, rfl⟩, Nat.le_of_ble_eq_true rfl, Nat.le_of_ble_eq_true rfl⟩ hl.1 rfl (Nat.le_of_ble_eq_true rfl) dX5_put_12 ⟨Nat.le_of_ble_eq_true rfl, Nat.le_of_ble_eq_true rfl⟩) (fun _ _ Z => ?_)
  refine zb_ifeq (tgt := 22) hx hb dX5_put_15 (by decide) h (fun h => ?_) (fun h => ?_)
  · refine lv_iconst (v := 0) hx hb dX5_put_22 (by decide) ?_
    obtain ⟨hq1, hq2⟩ := zpq h
    exact ze_z F Z hr hlocks (by decide) hq1 hq2 dX5_put_23
  · refine lv_iconst (v := 1) hx hb dX5_put_18 (by decide) ?_
    refine lv_goto (tgt := 23) hx hb dX5_put_19 (by decide) ?_
    obtain ⟨hq1, hq2⟩ := zpq h
    exact ze_z F Z hr hlocks (by decide) hq1 hq2 dX5_put_23
set_option maxHeartbeats 4000000 in
set_option maxRecDepth 100000 in
theorem zcX5_atom (l : Launch) (D : va_G) (A0 : Nat) (zrec : Int32 → Mm → Option (Int32 × Mm)) (dd : Nat) (hrec : ∀ (x1 : Int32) (σ : Mm) (r0 : Int32) (σr : Mm) (h : zrec x1 σ = some (r0, σr)), Met l yX5_sum (zws yX5_sum cX5_sum 6 (some .boolean)) (zR (10 * dd + 40) (400 * dd + 1500)) (zPc D A0 σ GF 740 [.ref (A0 + 46), .int x1]) (zQi D A0 r0 σr GF 740) 0 0 (zA A0)) (x1 : Int32) (σ : Mm) (r0 : Int32) (σr : Mm) (h : zfX5_atom zrec x1 σ = some (r0, σr)) : Met l yX5_atom (zws yX5_atom cX5_atom 4 (some .boolean)) (zR (10 * dd + 42) (400 * dd + 1600)) (zPc D A0 σ GF 740 [.ref (A0 + 46), .int x1]) (zQi D A0 r0 σr GF 740) 0 0 (zA A0) := by
  unfold zfX5_atom at h
  refine zmet (own := RX5) (by decide) rfl (Nat.le_of_ble_eq_true rfl) ?_
  intro p e s m below meth c F hr hlocks _ Z ls hl
  have hl : lv_has ls 4 [(0, .ref (A0 + 46)), (1, .int x1)] := hl
  have hx := F.1.1
  have hb := F.1.2.1
  have hown := F.1.2.2.2.1
  have hts := F.1.2.2.2.2
  refine lv_aload_n hx hb dX5_atom_0 rfl (lv_at hl 0 rfl) ?_
  obtain ⟨r1, σ1, hc1, h⟩ := bd2_x h
  refine zc_i Z (zr_U (x := ({ cls := "UnsoldPrice$RuleReader", name := "sign", desc := "()I" } : Jvm.MethodName)) (owner := "UnsoldPrice$Reader") (C := "UnsoldPrice$RuleReader") F Z (a := 46) (As := []) (zcX3_sign_46 l D A0 σ r1 σ1 hc1) zBX3_sign zq750 zq751 zq752 zq629 rfl (by decide) zs_46 zC5.1 rfl ⟨⟨rfl, rfl⟩, by dsimp only [zR, RD]; omega, by dsimp only [zR, RD]; omega⟩ hl.1 rfl (Nat.le_of_ble_eq_true rfl) dX5_atom_1 ⟨Nat.le_of_ble_eq_true rfl, Nat.le_of_ble_eq_true rfl⟩) (fun _ _ Z => ?_)
  refine lv_istore_n (lv' := [(2, .int r1), (0, .ref (A0 + 46)), (1, .int x1)]) hx hb dX5_atom_4 rfl hl (by decide) rfl (fun ls hl => ?_)
  refine lv_iload_n hx hb dX5_atom_5 rfl (lv_at hl 0 rfl) ?_
  refine lv_bipush (v := 48) hx hb dX5_atom_6 (by decide) ?_
  obtain ⟨j42, ej42, h⟩ := lt_x h
  have hj42 : ∀ (σ42 : Mm) (H : Heap) (locs : List Loc) (ls : Array Slot), zh D A0 σ42 GF 740 s.heap H locs → lv_has ls 4 [(0, .ref (A0 + 46)), (1, .int x1), (2, .int r1)] → j42 σ42 = some (r0, σr) → W p l e (zR (10 * dd + 42) (400 * dd + 1600)) s m [.ref (A0 + 46), .int x1].toArray below meth c H locs 0 0 (MQ below (zQi D A0 r0 σr GF 740) [.ref (A0 + 46), .int x1].toArray s 0 0 (zA A0)) (F0 m 42 ls []) := by
    intro  σ42 H locs ls Z hl h
    rw [ej42] at h
    try dsimp only at h
    refine lv_iload_n hx hb dX5_atom_42 rfl (lv_at hl 2 rfl) ?_
    refine lv_bipush (v := 91) hx hb dX5_atom_43 (by decide) ?_
    refine zb_icne (tgt := 94) hx hb dX5_atom_45 (by decide) h (fun h => ?_) (fun h => ?_)
    · refine lv_iconst (v := 0) hx hb dX5_atom_94 (by decide) ?_
      refine lv_istore_n (lv' := [(3, .int 0), (0, .ref (A0 + 46)), (1, .int x1), (2, .int r1)]) hx hb dX5_atom_95 rfl hl (by decide) rfl (fun ls hl => ?_)
      obtain ⟨k115, ek115, h⟩ := lt_x h
      have hk115 : ∀ (x3_115 : Int32) (σ115 : Mm) (H : Heap) (locs : List Loc) (ls : Array Slot), zh D A0 σ115 GF 740 s.heap H locs → lv_has ls 4 [(0, .ref (A0 + 46)), (3, .int x3_115)] → k115 x3_115 σ115 = some (r0, σr) → W p l e (zR (10 * dd + 42) (400 * dd + 1600)) s m [.ref (A0 + 46), .int x1].toArray below meth c H locs 0 0 (MQ below (zQi D A0 r0 σr GF 740) [.ref (A0 + 46), .int x1].toArray s 0 0 (zA A0)) (F0 m 115 ls []) := by
        intro x3_115 σ115 H locs ls Z hl h
        rw [ek115] at h
        try dsimp only at h
        refine lv_aload_n hx hb dX5_atom_115 rfl (lv_at hl 0 rfl) ?_
        refine lv_dup hx hb dX5_atom_116 rfl ?_
        refine zw_getI F Z zC5 (a := 46) (k := 1) (by decide) zs_46 (by decide) rfl zq357 (Or.inr zq358) dX5_atom_117 ?_
        refine lv_iconst (v := 1) hx hb dX5_atom_120 (by decide) ?_
        refine lv_iadd hx hb dX5_atom_121 ?_
        refine zw_putI F Z zC5 (a := 46) (k := 1) (by decide) zs_46 (by decide) rfl (by decide) zq357 (Or.inr zq358) rfl ⟨rfl, rfl⟩ dX5_atom_122 (fun σ122 _ _ eσ122 Z => ?_)
        replace h := lt_w h eσ122
        refine lv_aload_n hx hb dX5_atom_125 rfl (lv_at hl 0 rfl) ?_
        refine lv_sipush (v := 10000) hx hb dX5_atom_126 (by decide) ?_
        refine lv_iload_n hx hb dX5_atom_129 rfl (lv_at hl 1 rfl) ?_
        refine lv_iadd hx hb dX5_atom_130 ?_
        obtain ⟨r131, σ131, hc131, h⟩ := bd2_x h
        refine zc_i Z (zr_V F Z (a := 46) (As := [.int (10000 + x3_115)]) (zcX5_put l D A0 (10000 + x3_115) σ122 r131 σ131 hc131) zBX5_put zq764 (by decide) zs_46 zC5.1 rfl ⟨⟨rfl, rfl⟩, by dsimp only [zR, RD]; omega, by dsimp only [zR, RD]; omega⟩ hl.1 rfl (Nat.le_of_ble_eq_true rfl) dX5_atom_131 ⟨Nat.le_of_ble_eq_true rfl, Nat.le_of_ble_eq_true rfl⟩) (fun _ _ Z => ?_)
        obtain ⟨hz134, h⟩ := ck_x h
        obtain ⟨hq1, hq2⟩ := zpq h
        exact ze_z F Z hr hlocks hz134 hq1 hq2 dX5_atom_134
      obtain ⟨k141, ek141, h⟩ := lt_x h
      have hk141 : ∀ (σ141 : Mm) (H : Heap) (locs : List Loc) (ls : Array Slot), zh D A0 σ141 GF 740 s.heap H locs → lv_has ls 4 [(0, .ref (A0 + 46))] → k141 σ141 = some (r0, σr) → W p l e (zR (10 * dd + 42) (400 * dd + 1600)) s m [.ref (A0 + 46), .int x1].toArray below meth c H locs 0 0 (MQ below (zQi D A0 r0 σr GF 740) [.ref (A0 + 46), .int x1].toArray s 0 0 (zA A0)) (F0 m 141 ls []) := by
        intro  σ141 H locs ls Z hl h
        rw [ek141] at h
        try dsimp only at h
        refine lv_aload_n hx hb dX5_atom_141 rfl (lv_at hl 0 rfl) ?_
        obtain ⟨r142, σ142, hc142, h⟩ := bd2_x h
        refine zc_i Z (zr_U (x := ({ cls := "UnsoldPrice$RuleReader", name := "wrong", desc := "()Z" } : Jvm.MethodName)) (owner := "UnsoldPrice$Reader") (C := "UnsoldPrice$RuleReader") F Z (a := 46) (As := []) (zcX3_wrong_46 l D A0 σ141 r142 σ142 hc142) zBX3_wrong zq772 zq773 zq774 zq642 rfl (by decide) zs_46 zC5.1 rfl ⟨⟨rfl, rfl⟩, by dsimp only [zR, RD]; omega, by dsimp only [zR, RD]; omega⟩ hl.1 rfl (Nat.le_of_ble_eq_true rfl) dX5_atom_142 ⟨Nat.le_of_ble_eq_true rfl, Nat.le_of_ble_eq_true rfl⟩) (fun _ _ Z => ?_)
        obtain ⟨hz145, h⟩ := ck_x h
        obtain ⟨hq1, hq2⟩ := zpq h
        exact ze_z F Z hr hlocks hz145 hq1 hq2 dX5_atom_145
      have hL96 : ∀ (fu96 : Nat) (x3_96 : Int32) (σ96 : Mm) (H : Heap) (locs : List Loc) (ls : Array Slot), zh D A0 σ96 GF 740 s.heap H locs → lv_has ls 4 [(0, .ref (A0 + 46)), (2, .int r1), (3, .int x3_96)] → zfX5_atom_L96 k141 r1 k115 fu96 x3_96 σ96 = some (r0, σr) → W p l e (zR (10 * dd + 42) (400 * dd + 1600)) s m [.ref (A0 + 46), .int x1].toArray below meth c H locs 0 0 (MQ below (zQi D A0 r0 σr GF 740) [.ref (A0 + 46), .int x1].toArray s 0 0 (zA A0)) (F0 m 96 ls []) := by
        intro fu96
        induction fu96 with
        | zero => intro x3_96 σ96 H locs ls Z hl h; rw [zfX5_atom_L96] at h; cases h
        | succ fu96 ih96 =>
          intro x3_96 σ96 H locs ls Z hl h
          rw [zfX5_atom_L96] at h
          refine lv_iload_n hx hb dX5_atom_96 rfl (lv_at hl 2 rfl) ?_
          refine zw_ldcS F (i := 1) (tx := "pgcduw") (by decide) dX5_atom_97 ?_
          refine zw_slen l F Z hl.1 (by decide) zq776 ⟨by dsimp only [zR, RD]; omega, by dsimp only [zR, RD]; omega⟩ ⟨Nat.le_of_ble_eq_true rfl, Nat.le_of_ble_eq_true rfl⟩ (Nat.le_of_ble_eq_true rfl) dX5_atom_99 (fun _ _ Z => ?_)
          refine zb_icge (tgt := 141) hx hb dX5_atom_102 (by decide) h (fun h => ?_) (fun h => ?_)
          · exact hk141 σ96 _ _ _ Z (lv_sub hl [0] rfl) h
          · refine zw_ldcS F (i := 1) (tx := "pgcduw") (by decide) dX5_atom_105 ?_
            refine lv_iload_n hx hb dX5_atom_107 rfl (lv_at hl 2 rfl) ?_
            obtain ⟨hk108, h⟩ := ck_x h
            refine zw_schr l F Z hl.1 (by decide) hk108 zq777 ⟨by dsimp only [zR, RD]; omega, by dsimp only [zR, RD]; omega⟩ ⟨Nat.le_of_ble_eq_true rfl, Nat.le_of_ble_eq_true rfl⟩ (Nat.le_of_ble_eq_true rfl) dX5_atom_108 (fun _ _ Z => ?_)
            refine lv_iload_n hx hb dX5_atom_111 rfl (lv_at hl 1 rfl) ?_
            refine zb_icne (tgt := 135) hx hb dX5_atom_112 (by decide) h (fun h => ?_) (fun h => ?_)
            · obtain ⟨x3_135, ex3_135⟩ : ∃ y : Int32, y = x3_96 + 1 := ⟨_, rfl⟩
              replace h := lt_w h ex3_135
              refine lv_iinc (v := x3_135) (lv' := [(3, .int x3_135), (0, .ref (A0 + 46)), (2, .int r1)]) hx hb dX5_atom_135 hl (k := 2) rfl (by rw [ex3_135]; rfl) (by decide) rfl (fun ls hl => ?_)
              refine lv_goto (tgt := 96) hx hb dX5_atom_138 (by decide) ?_
              exact ih96 x3_135 σ96 _ _ _ Z (lv_sub hl [1, 2, 0] rfl) h
            · exact hk115 x3_96 σ96 _ _ _ Z (lv_sub hl [0, 2] rfl) h
      exact hL96 NF 0 σ42 _ _ _ Z (lv_sub hl [1, 3, 0] rfl) h
    · refine lv_iload_n hx hb dX5_atom_48 rfl (lv_at hl 1 rfl) ?_
      refine lv_bipush (v := 6) hx hb dX5_atom_49 (by decide) ?_
      refine zb_iclt (tgt := 59) hx hb dX5_atom_51 (by decide) h (fun h => ?_) (fun h => ?_)
      · refine lv_aload_n hx hb dX5_atom_59 rfl (lv_at hl 0 rfl) ?_
        refine lv_dup hx hb dX5_atom_60 rfl ?_
        refine zw_getI F Z zC5 (a := 46) (k := 1) (by decide) zs_46 (by decide) rfl zq357 (Or.inr zq358) dX5_atom_61 ?_
        refine lv_iconst (v := 1) hx hb dX5_atom_64 (by decide) ?_
        refine lv_iadd hx hb dX5_atom_65 ?_
        refine zw_putI F Z zC5 (a := 46) (k := 1) (by decide) zs_46 (by decide) rfl (by decide) zq357 (Or.inr zq358) rfl ⟨rfl, rfl⟩ dX5_atom_66 (fun σ66 _ _ eσ66 Z => ?_)
        replace h := lt_w h eσ66
        refine lv_aload_n hx hb dX5_atom_69 rfl (lv_at hl 0 rfl) ?_
        refine lv_iload_n hx hb dX5_atom_70 rfl (lv_at hl 1 rfl) ?_
        refine lv_iconst (v := 1) hx hb dX5_atom_71 (by decide) ?_
        refine lv_iadd hx hb dX5_atom_72 ?_
        obtain ⟨r73, σ73, hc73, h⟩ := bd2_x h
        refine zc_i Z (zr_V F Z (a := 46) (As := [.int (x1 + 1)]) (hrec (x1 + 1) σ66 r73 σ73 hc73) zBX5_sum zq753 (by decide) zs_46 zC5.1 rfl ⟨⟨rfl, rfl⟩, by dsimp only [zR, RD]; omega, by dsimp only [zR, RD]; omega⟩ hl.1 rfl (Nat.le_of_ble_eq_true rfl) dX5_atom_73 ⟨Nat.le_of_ble_eq_true rfl, Nat.le_of_ble_eq_true rfl⟩) (fun _ _ Z => ?_)
        obtain ⟨j92, ej92, h⟩ := lt_x h
        have hj92 : ∀ (σ92 : Mm) (H : Heap) (locs : List Loc) (ls : Array Slot), zh D A0 σ92 GF 740 s.heap H locs → lv_has ls 4 [] → j92 σ92 = some (r0, σr) → W p l e (zR (10 * dd + 42) (400 * dd + 1600)) s m [.ref (A0 + 46), .int x1].toArray below meth c H locs 0 0 (MQ below (zQi D A0 r0 σr GF 740) [.ref (A0 + 46), .int x1].toArray s 0 0 (zA A0)) (F0 m 92 ls []) := by
          intro  σ92 H locs ls Z hl h
          rw [ej92] at h
          try dsimp only at h
          refine lv_iconst (v := 0) hx hb dX5_atom_92 (by decide) ?_
          obtain ⟨hq1, hq2⟩ := zpq h
          exact ze_z F Z hr hlocks (by decide) hq1 hq2 dX5_atom_93
        refine zb_ifeq (tgt := 92) hx hb dX5_atom_76 (by decide) h (fun h => ?_) (fun h => ?_)
        · exact hj92 σ73 _ _ _ Z (lv_sub hl [] rfl) h
        · refine lv_aload_n hx hb dX5_atom_79 rfl (lv_at hl 0 rfl) ?_
          refine lv_bipush (v := 93) hx hb dX5_atom_80 (by decide) ?_
          obtain ⟨r82, σ82, hc82, h⟩ := bd2_x h
          refine zc_i Z (zr_U (x := ({ cls := "UnsoldPrice$RuleReader", name := "take", desc := "(I)Z" } : Jvm.MethodName)) (owner := "UnsoldPrice$Reader") (C := "UnsoldPrice$RuleReader") F Z (a := 46) (As := [.int 93]) (zcX3_take_46 l D A0 93 σ73 r82 σ82 hc82) zBX3_take zq747 zq748 zq749 zq732 rfl (by decide) zs_46 zC5.1 rfl ⟨⟨rfl, rfl⟩, by dsimp only [zR, RD]; omega, by dsimp only [zR, RD]; omega⟩ hl.1 rfl (Nat.le_of_ble_eq_true rfl) dX5_atom_82 ⟨Nat.le_of_ble_eq_true rfl, Nat.le_of_ble_eq_true rfl⟩) (fun _ _ Z => ?_)
          refine zb_ifeq (tgt := 92) hx hb dX5_atom_85 (by decide) h (fun h => ?_) (fun h => ?_)
          · exact hj92 σ82 _ _ _ Z (lv_sub hl [] rfl) h
          · refine lv_iconst (v := 1) hx hb dX5_atom_88 (by decide) ?_
            refine lv_goto (tgt := 93) hx hb dX5_atom_89 (by decide) ?_
            obtain ⟨hq1, hq2⟩ := zpq h
            exact ze_z F Z hr hlocks (by decide) hq1 hq2 dX5_atom_93
      · refine lv_aload_n hx hb dX5_atom_54 rfl (lv_at hl 0 rfl) ?_
        obtain ⟨r55, σ55, hc55, h⟩ := bd2_x h
        refine zc_i Z (zr_U (x := ({ cls := "UnsoldPrice$RuleReader", name := "wrong", desc := "()Z" } : Jvm.MethodName)) (owner := "UnsoldPrice$Reader") (C := "UnsoldPrice$RuleReader") F Z (a := 46) (As := []) (zcX3_wrong_46 l D A0 σ42 r55 σ55 hc55) zBX3_wrong zq772 zq773 zq774 zq642 rfl (by decide) zs_46 zC5.1 rfl ⟨⟨rfl, rfl⟩, by dsimp only [zR, RD]; omega, by dsimp only [zR, RD]; omega⟩ hl.1 rfl (Nat.le_of_ble_eq_true rfl) dX5_atom_55 ⟨Nat.le_of_ble_eq_true rfl, Nat.le_of_ble_eq_true rfl⟩) (fun _ _ Z => ?_)
        obtain ⟨hz58, h⟩ := ck_x h
        obtain ⟨hq1, hq2⟩ := zpq h
        exact ze_z F Z hr hlocks hz58 hq1 hq2 dX5_atom_58
  refine zb_iclt (tgt := 42) hx hb dX5_atom_8 (by decide) h (fun h => ?_) (fun h => ?_)
  · exact hj42 σ1 _ _ _ Z (lv_sub hl [1, 2, 0] rfl) h
  · refine lv_iload_n hx hb dX5_atom_11 rfl (lv_at hl 0 rfl) ?_
    refine lv_bipush (v := 57) hx hb dX5_atom_12 (by decide) ?_
    refine zb_icgt (tgt := 42) hx hb dX5_atom_14 (by decide) h (fun h => ?_) (fun h => ?_)
    · exact hj42 σ1 _ _ _ Z (lv_sub hl [1, 2, 0] rfl) h
    · refine lv_aload_n hx hb dX5_atom_17 rfl (lv_at hl 1 rfl) ?_
      refine lv_iconst (v := 4) hx hb dX5_atom_18 (by decide) ?_
      obtain ⟨r19, σ19, hc19, h⟩ := bd2_x h
      refine zc_i Z (zr_U (x := ({ cls := "UnsoldPrice$RuleReader", name := "number", desc := "(I)I" } : Jvm.MethodName)) (owner := "UnsoldPrice$Reader") (C := "UnsoldPrice$RuleReader") F Z (a := 46) (As := [.int 4]) (zcX3_number_46 l D A0 4 σ1 r19 σ19 hc19) zBX3_number zq761 zq762 zq763 zq710 rfl (by decide) zs_46 zC5.1 rfl ⟨⟨rfl, rfl⟩, by dsimp only [zR, RD]; omega, by dsimp only [zR, RD]; omega⟩ hl.1 rfl (Nat.le_of_ble_eq_true rfl) dX5_atom_19 ⟨Nat.le_of_ble_eq_true rfl, Nat.le_of_ble_eq_true rfl⟩) (fun _ _ Z => ?_)
      refine lv_istore_n (lv' := [(3, .int r19), (2, .int r1), (0, .ref (A0 + 46)), (1, .int x1)]) hx hb dX5_atom_22 rfl hl (by decide) rfl (fun ls hl => ?_)
      refine lv_iload_n hx hb dX5_atom_23 rfl (lv_at hl 0 rfl) ?_
      refine lv_iconst (v := (-1)) hx hb dX5_atom_24 (by decide) ?_
      obtain ⟨j40, ej40, h⟩ := lt_x h
      have hj40 : ∀ (σ40 : Mm) (H : Heap) (locs : List Loc) (ls : Array Slot), zh D A0 σ40 GF 740 s.heap H locs → lv_has ls 4 [] → j40 σ40 = some (r0, σr) → W p l e (zR (10 * dd + 42) (400 * dd + 1600)) s m [.ref (A0 + 46), .int x1].toArray below meth c H locs 0 0 (MQ below (zQi D A0 r0 σr GF 740) [.ref (A0 + 46), .int x1].toArray s 0 0 (zA A0)) (F0 m 40 ls []) := by
        intro  σ40 H locs ls Z hl h
        rw [ej40] at h
        try dsimp only at h
        refine lv_iconst (v := 0) hx hb dX5_atom_40 (by decide) ?_
        obtain ⟨hq1, hq2⟩ := zpq h
        exact ze_z F Z hr hlocks (by decide) hq1 hq2 dX5_atom_41
      refine zb_iceq (tgt := 40) hx hb dX5_atom_25 (by decide) h (fun h => ?_) (fun h => ?_)
      · exact hj40 σ19 _ _ _ Z (lv_sub hl [] rfl) h
      · refine lv_aload_n hx hb dX5_atom_28 rfl (lv_at hl 2 rfl) ?_
        refine lv_iload_n hx hb dX5_atom_29 rfl (lv_at hl 0 rfl) ?_
        obtain ⟨r30, σ30, hc30, h⟩ := bd2_x h
        refine zc_i Z (zr_V F Z (a := 46) (As := [.int r19]) (zcX5_put l D A0 r19 σ19 r30 σ30 hc30) zBX5_put zq764 (by decide) zs_46 zC5.1 rfl ⟨⟨rfl, rfl⟩, by dsimp only [zR, RD]; omega, by dsimp only [zR, RD]; omega⟩ hl.1 rfl (Nat.le_of_ble_eq_true rfl) dX5_atom_30 ⟨Nat.le_of_ble_eq_true rfl, Nat.le_of_ble_eq_true rfl⟩) (fun _ _ Z => ?_)
        refine zb_ifeq (tgt := 40) hx hb dX5_atom_33 (by decide) h (fun h => ?_) (fun h => ?_)
        · exact hj40 σ30 _ _ _ Z (lv_sub hl [] rfl) h
        · refine lv_iconst (v := 1) hx hb dX5_atom_36 (by decide) ?_
          refine lv_goto (tgt := 41) hx hb dX5_atom_37 (by decide) ?_
          obtain ⟨hq1, hq2⟩ := zpq h
          exact ze_z F Z hr hlocks (by decide) hq1 hq2 dX5_atom_41
set_option maxHeartbeats 4000000 in
set_option maxRecDepth 100000 in
theorem zcX5_sum (l : Launch) (D : va_G) (A0 : Nat) : ∀ (dd : Nat) (x1 : Int32) (σ : Mm) (r0 : Int32) (σr : Mm) (h : zfX5_sum dd x1 σ = some (r0, σr)), Met l yX5_sum (zws yX5_sum cX5_sum 6 (some .boolean)) (zR (10 * dd + 40) (400 * dd + 1500)) (zPc D A0 σ GF 740 [.ref (A0 + 46), .int x1]) (zQi D A0 r0 σr GF 740) 0 0 (zA A0) := by
  intro dd
  induction dd with
  | zero => intro x1 σ r0 σr h; rw [zfX5_sum] at h; cases h
  | succ dd hrec =>
  intro x1 σ r0 σr h
  rw [zfX5_sum] at h
  refine zmet (own := RX5) (by decide) rfl (Nat.le_of_ble_eq_true rfl) ?_
  intro p e s m below meth c F hr hlocks _ Z ls hl
  have hl : lv_has ls 6 [(0, .ref (A0 + 46)), (1, .int x1)] := hl
  have hx := F.1.1
  have hb := F.1.2.1
  have hown := F.1.2.2.2.1
  have hts := F.1.2.2.2.2
  refine lv_iconst (v := (-1)) hx hb dX5_sum_0 (by decide) ?_
  refine lv_istore_n (lv' := [(2, .int (-1)), (0, .ref (A0 + 46)), (1, .int x1)]) hx hb dX5_sum_1 rfl hl (by decide) rfl (fun ls hl => ?_)
  refine lv_iconst (v := (-1)) hx hb dX5_sum_2 (by decide) ?_
  refine lv_istore_n (lv' := [(3, .int (-1)), (2, .int (-1)), (0, .ref (A0 + 46)), (1, .int x1)]) hx hb dX5_sum_3 rfl hl (by decide) rfl (fun ls hl => ?_)
  refine lv_iconst (v := 0) hx hb dX5_sum_4 (by decide) ?_
  refine lv_istore (lv' := [(4, .int 0), (3, .int (-1)), (2, .int (-1)), (0, .ref (A0 + 46)), (1, .int x1)]) hx hb dX5_sum_5 hl (by decide) rfl (fun ls hl => ?_)
  obtain ⟨k23, ek23, h⟩ := lt_x h
  have hk23 : ∀ (σ23 : Mm) (H : Heap) (locs : List Loc) (ls : Array Slot), zh D A0 σ23 GF 740 s.heap H locs → lv_has ls 6 [] → k23 σ23 = some (r0, σr) → W p l e (zR (10 * (dd + 1) + 40) (400 * (dd + 1) + 1500)) s m [.ref (A0 + 46), .int x1].toArray below meth c H locs 0 0 (MQ below (zQi D A0 r0 σr GF 740) [.ref (A0 + 46), .int x1].toArray s 0 0 (zA A0)) (F0 m 23 ls []) := by
    intro  σ23 H locs ls Z hl h
    rw [ek23] at h
    try dsimp only at h
    refine lv_iconst (v := 0) hx hb dX5_sum_23 (by decide) ?_
    obtain ⟨hq1, hq2⟩ := zpq h
    exact ze_z F Z hr hlocks (by decide) hq1 hq2 dX5_sum_24
  obtain ⟨k101, ek101, h⟩ := lt_x h
  have hk101 : ∀ (σ101 : Mm) (H : Heap) (locs : List Loc) (ls : Array Slot), zh D A0 σ101 GF 740 s.heap H locs → lv_has ls 6 [] → k101 σ101 = some (r0, σr) → W p l e (zR (10 * (dd + 1) + 40) (400 * (dd + 1) + 1500)) s m [.ref (A0 + 46), .int x1].toArray below meth c H locs 0 0 (MQ below (zQi D A0 r0 σr GF 740) [.ref (A0 + 46), .int x1].toArray s 0 0 (zA A0)) (F0 m 101 ls []) := by
    intro  σ101 H locs ls Z hl h
    rw [ek101] at h
    try dsimp only at h
    refine lv_iconst (v := 1) hx hb dX5_sum_101 (by decide) ?_
    obtain ⟨hq1, hq2⟩ := zpq h
    exact ze_z F Z hr hlocks (by decide) hq1 hq2 dX5_sum_102
  obtain ⟨k122, ek122, h⟩ := lt_x h
  have hk122 : ∀ (σ122 : Mm) (H : Heap) (locs : List Loc) (ls : Array Slot), zh D A0 σ122 GF 740 s.heap H locs → lv_has ls 6 [(0, .ref (A0 + 46))] → k122 σ122 = some (r0, σr) → W p l e (zR (10 * (dd + 1) + 40) (400 * (dd + 1) + 1500)) s m [.ref (A0 + 46), .int x1].toArray below meth c H locs 0 0 (MQ below (zQi D A0 r0 σr GF 740) [.ref (A0 + 46), .int x1].toArray s 0 0 (zA A0)) (F0 m 122 ls []) := by
    intro  σ122 H locs ls Z hl h
    rw [ek122] at h
    try dsimp only at h
    refine lv_aload_n hx hb dX5_sum_122 rfl (lv_at hl 0 rfl) ?_
    obtain ⟨r123, σ123, hc123, h⟩ := bd2_x h
    refine zc_i Z (zr_U (x := ({ cls := "UnsoldPrice$RuleReader", name := "wrong", desc := "()Z" } : Jvm.MethodName)) (owner := "UnsoldPrice$Reader") (C := "UnsoldPrice$RuleReader") F Z (a := 46) (As := []) (zcX3_wrong_46 l D A0 σ122 r123 σ123 hc123) zBX3_wrong zq772 zq773 zq774 zq642 rfl (by decide) zs_46 zC5.1 rfl ⟨⟨rfl, rfl⟩, by dsimp only [zR, RD]; omega, by dsimp only [zR, RD]; omega⟩ hl.1 rfl (Nat.le_of_ble_eq_true rfl) dX5_sum_123 ⟨Nat.le_of_ble_eq_true rfl, Nat.le_of_ble_eq_true rfl⟩) (fun _ _ Z => ?_)
    obtain ⟨hz126, h⟩ := ck_x h
    obtain ⟨hq1, hq2⟩ := zpq h
    exact ze_z F Z hr hlocks hz126 hq1 hq2 dX5_sum_126
  have hL7 : ∀ (fu7 : Nat) (x2_7 : Int32) (x3_7 : Int32) (x4_7 : Int32) (σ7 : Mm) (H : Heap) (locs : List Loc) (ls : Array Slot), zh D A0 σ7 GF 740 s.heap H locs → lv_has ls 6 [(0, .ref (A0 + 46)), (1, .int x1), (2, .int x2_7), (3, .int x3_7), (4, .int x4_7)] → zfX5_sum_L7 k122 (zfX5_sum dd) x1 k23 k101 fu7 x2_7 x3_7 x4_7 σ7 = some (r0, σr) → W p l e (zR (10 * (dd + 1) + 40) (400 * (dd + 1) + 1500)) s m [.ref (A0 + 46), .int x1].toArray below meth c H locs 0 0 (MQ below (zQi D A0 r0 σr GF 740) [.ref (A0 + 46), .int x1].toArray s 0 0 (zA A0)) (F0 m 7 ls []) := by
    intro fu7
    induction fu7 with
    | zero => intro x2_7 x3_7 x4_7 σ7 H locs ls Z hl h; rw [zfX5_sum_L7] at h; cases h
    | succ fu7 ih7 =>
      intro x2_7 x3_7 x4_7 σ7 H locs ls Z hl h
      rw [zfX5_sum_L7] at h
      refine lv_iload hx hb dX5_sum_7 (lv_at hl 4 rfl) ?_
      refine lv_sipush (v := 160) hx hb dX5_sum_9 (by decide) ?_
      refine zb_icge (tgt := 122) hx hb dX5_sum_12 (by decide) h (fun h => ?_) (fun h => ?_)
      · exact hk122 σ7 _ _ _ Z (lv_sub hl [0] rfl) h
      · refine lv_aload_n hx hb dX5_sum_15 rfl (lv_at hl 0 rfl) ?_
        refine lv_iload_n hx hb dX5_sum_16 rfl (lv_at hl 1 rfl) ?_
        obtain ⟨r17, σ17, hc17, h⟩ := bd2_x h
        refine zc_i Z (zr_V F Z (a := 46) (As := [.int x1]) (zcX5_atom l D A0 (zfX5_sum dd) dd hrec x1 σ7 r17 σ17 hc17) zBX5_atom zq757 (by decide) zs_46 zC5.1 rfl ⟨⟨rfl, rfl⟩, by dsimp only [zR, RD]; omega, by dsimp only [zR, RD]; omega⟩ hl.1 rfl (Nat.le_of_ble_eq_true rfl) dX5_sum_17 ⟨Nat.le_of_ble_eq_true rfl, Nat.le_of_ble_eq_true rfl⟩) (fun _ _ Z => ?_)
        refine zb_ifne (tgt := 25) hx hb dX5_sum_20 (by decide) h (fun h => ?_) (fun h => ?_)
        · refine lv_iload_n hx hb dX5_sum_25 rfl (lv_at hl 2 rfl) ?_
          refine lv_iconst (v := (-1)) hx hb dX5_sum_26 (by decide) ?_
          obtain ⟨j40, ej40, h⟩ := lt_x h
          have hj40 : ∀ (σ40 : Mm) (H : Heap) (locs : List Loc) (ls : Array Slot), zh D A0 σ40 GF 740 s.heap H locs → lv_has ls 6 [(0, .ref (A0 + 46)), (1, .int x1), (3, .int x3_7), (4, .int x4_7)] → j40 σ40 = some (r0, σr) → W p l e (zR (10 * (dd + 1) + 40) (400 * (dd + 1) + 1500)) s m [.ref (A0 + 46), .int x1].toArray below meth c H locs 0 0 (MQ below (zQi D A0 r0 σr GF 740) [.ref (A0 + 46), .int x1].toArray s 0 0 (zA A0)) (F0 m 40 ls []) := by
            intro  σ40 H locs ls Z hl h
            rw [ej40] at h
            try dsimp only at h
            refine lv_aload_n hx hb dX5_sum_40 rfl (lv_at hl 0 rfl) ?_
            obtain ⟨r41, σ41, hc41, h⟩ := bd2_x h
            refine zc_i Z (zr_U (x := ({ cls := "UnsoldPrice$RuleReader", name := "sign", desc := "()I" } : Jvm.MethodName)) (owner := "UnsoldPrice$Reader") (C := "UnsoldPrice$RuleReader") F Z (a := 46) (As := []) (zcX3_sign_46 l D A0 σ40 r41 σ41 hc41) zBX3_sign zq750 zq751 zq752 zq629 rfl (by decide) zs_46 zC5.1 rfl ⟨⟨rfl, rfl⟩, by dsimp only [zR, RD]; omega, by dsimp only [zR, RD]; omega⟩ hl.1 rfl (Nat.le_of_ble_eq_true rfl) dX5_sum_41 ⟨Nat.le_of_ble_eq_true rfl, Nat.le_of_ble_eq_true rfl⟩) (fun _ _ Z => ?_)
            refine lv_istore (lv' := [(5, .int r41), (0, .ref (A0 + 46)), (1, .int x1), (3, .int x3_7), (4, .int x4_7)]) hx hb dX5_sum_44 hl (by decide) rfl (fun ls hl => ?_)
            refine lv_iload hx hb dX5_sum_46 (lv_at hl 0 rfl) ?_
            refine lv_bipush (v := 42) hx hb dX5_sum_48 (by decide) ?_
            obtain ⟨j66, ej66, h⟩ := lt_x h
            have hj66 : ∀ (y0_66 : Int32) (σ66 : Mm) (H : Heap) (locs : List Loc) (ls : Array Slot), zh D A0 σ66 GF 740 s.heap H locs → lv_has ls 6 [(0, .ref (A0 + 46)), (1, .int x1), (3, .int x3_7), (4, .int x4_7), (5, .int r41)] → j66 y0_66 σ66 = some (r0, σr) → W p l e (zR (10 * (dd + 1) + 40) (400 * (dd + 1) + 1500)) s m [.ref (A0 + 46), .int x1].toArray below meth c H locs 0 0 (MQ below (zQi D A0 r0 σr GF 740) [.ref (A0 + 46), .int x1].toArray s 0 0 (zA A0)) (F0 m 66 ls [.int y0_66]) := by
              intro y0_66 σ66 H locs ls Z hl h
              rw [ej66] at h
              try dsimp only at h
              refine lv_istore_n (lv' := [(2, .int y0_66), (0, .ref (A0 + 46)), (1, .int x1), (3, .int x3_7), (4, .int x4_7), (5, .int r41)]) hx hb dX5_sum_66 rfl hl (by decide) rfl (fun ls hl => ?_)
              refine lv_iload_n hx hb dX5_sum_67 rfl (lv_at hl 0 rfl) ?_
              refine lv_iconst (v := (-1)) hx hb dX5_sum_68 (by decide) ?_
              obtain ⟨j106, ej106, h⟩ := lt_x h
              have hj106 : ∀ (x3_106 : Int32) (σ106 : Mm) (H : Heap) (locs : List Loc) (ls : Array Slot), zh D A0 σ106 GF 740 s.heap H locs → lv_has ls 6 [(0, .ref (A0 + 46)), (1, .int x1), (2, .int y0_66), (3, .int x3_106), (4, .int x4_7)] → j106 x3_106 σ106 = some (r0, σr) → W p l e (zR (10 * (dd + 1) + 40) (400 * (dd + 1) + 1500)) s m [.ref (A0 + 46), .int x1].toArray below meth c H locs 0 0 (MQ below (zQi D A0 r0 σr GF 740) [.ref (A0 + 46), .int x1].toArray s 0 0 (zA A0)) (F0 m 106 ls []) := by
                intro x3_106 σ106 H locs ls Z hl h
                rw [ej106] at h
                try dsimp only at h
                refine lv_aload_n hx hb dX5_sum_106 rfl (lv_at hl 0 rfl) ?_
                refine lv_dup hx hb dX5_sum_107 rfl ?_
                refine zw_getI F Z zC5 (a := 46) (k := 1) (by decide) zs_46 (by decide) rfl zq357 (Or.inr zq358) dX5_sum_108 ?_
                refine lv_iconst (v := 1) hx hb dX5_sum_111 (by decide) ?_
                refine lv_iadd hx hb dX5_sum_112 ?_
                refine zw_putI F Z zC5 (a := 46) (k := 1) (by decide) zs_46 (by decide) rfl (by decide) zq357 (Or.inr zq358) rfl ⟨rfl, rfl⟩ dX5_sum_113 (fun σ113 _ _ eσ113 Z => ?_)
                replace h := lt_w h eσ113
                obtain ⟨x4_116, ex4_116⟩ : ∃ y : Int32, y = x4_7 + 1 := ⟨_, rfl⟩
                replace h := lt_w h ex4_116
                refine lv_iinc (v := x4_116) (lv' := [(4, .int x4_116), (0, .ref (A0 + 46)), (1, .int x1), (2, .int y0_66), (3, .int x3_106)]) hx hb dX5_sum_116 hl (k := 4) rfl (by rw [ex4_116]; rfl) (by decide) rfl (fun ls hl => ?_)
                refine lv_goto (tgt := 7) hx hb dX5_sum_119 (by decide) ?_
                exact ih7 y0_66 x3_106 x4_116 σ113 _ _ _ Z (lv_sub hl [1, 2, 3, 4, 0] rfl) h
              refine zb_icne (tgt := 106) hx hb dX5_sum_69 (by decide) h (fun h => ?_) (fun h => ?_)
              · exact hj106 x3_7 σ66 _ _ _ Z (lv_sub hl [1, 2, 0, 3, 4] rfl) h
              · refine lv_iload_n hx hb dX5_sum_72 rfl (lv_at hl 3 rfl) ?_
                refine lv_iconst (v := (-1)) hx hb dX5_sum_73 (by decide) ?_
                obtain ⟨j87, ej87, h⟩ := lt_x h
                have hj87 : ∀ (σ87 : Mm) (H : Heap) (locs : List Loc) (ls : Array Slot), zh D A0 σ87 GF 740 s.heap H locs → lv_has ls 6 [(0, .ref (A0 + 46)), (1, .int x1), (2, .int y0_66), (4, .int x4_7), (5, .int r41)] → j87 σ87 = some (r0, σr) → W p l e (zR (10 * (dd + 1) + 40) (400 * (dd + 1) + 1500)) s m [.ref (A0 + 46), .int x1].toArray below meth c H locs 0 0 (MQ below (zQi D A0 r0 σr GF 740) [.ref (A0 + 46), .int x1].toArray s 0 0 (zA A0)) (F0 m 87 ls []) := by
                  intro  σ87 H locs ls Z hl h
                  rw [ej87] at h
                  try dsimp only at h
                  refine lv_iload hx hb dX5_sum_87 (lv_at hl 4 rfl) ?_
                  refine lv_bipush (v := 43) hx hb dX5_sum_89 (by decide) ?_
                  obtain ⟨j103, ej103, h⟩ := lt_x h
                  have hj103 : ∀ (σ103 : Mm) (H : Heap) (locs : List Loc) (ls : Array Slot), zh D A0 σ103 GF 740 s.heap H locs → lv_has ls 6 [(0, .ref (A0 + 46)), (1, .int x1), (2, .int y0_66), (4, .int x4_7), (5, .int r41)] → j103 σ103 = some (r0, σr) → W p l e (zR (10 * (dd + 1) + 40) (400 * (dd + 1) + 1500)) s m [.ref (A0 + 46), .int x1].toArray below meth c H locs 0 0 (MQ below (zQi D A0 r0 σr GF 740) [.ref (A0 + 46), .int x1].toArray s 0 0 (zA A0)) (F0 m 103 ls []) := by
                    intro  σ103 H locs ls Z hl h
                    rw [ej103] at h
                    try dsimp only at h
                    refine lv_iload hx hb dX5_sum_103 (lv_at hl 4 rfl) ?_
                    refine lv_istore_n (lv' := [(3, .int r41), (0, .ref (A0 + 46)), (1, .int x1), (2, .int y0_66), (4, .int x4_7), (5, .int r41)]) hx hb dX5_sum_105 rfl hl (by decide) rfl (fun ls hl => ?_)
                    exact hj106 r41 σ103 _ _ _ Z (lv_sub hl [1, 2, 3, 0, 4] rfl) h
                  refine zb_iceq (tgt := 103) hx hb dX5_sum_91 (by decide) h (fun h => ?_) (fun h => ?_)
                  · exact hj103 σ87 _ _ _ Z (lv_sub hl [0, 1, 2, 3, 4] rfl) h
                  · refine lv_iload hx hb dX5_sum_94 (lv_at hl 4 rfl) ?_
                    refine lv_bipush (v := 45) hx hb dX5_sum_96 (by decide) ?_
                    refine zb_iceq (tgt := 103) hx hb dX5_sum_98 (by decide) h (fun h => ?_) (fun h => ?_)
                    · exact hj103 σ87 _ _ _ Z (lv_sub hl [0, 1, 2, 3, 4] rfl) h
                    · exact hk101 σ87 _ _ _ Z (lv_sub hl [] rfl) h
                refine zb_iceq (tgt := 87) hx hb dX5_sum_74 (by decide) h (fun h => ?_) (fun h => ?_)
                · exact hj87 σ66 _ _ _ Z (lv_sub hl [1, 2, 0, 4, 5] rfl) h
                · refine lv_aload_n hx hb dX5_sum_77 rfl (lv_at hl 1 rfl) ?_
                  refine lv_sipush (v := 20000) hx hb dX5_sum_78 (by decide) ?_
                  refine lv_iload_n hx hb dX5_sum_81 rfl (lv_at hl 3 rfl) ?_
                  refine lv_iadd hx hb dX5_sum_82 ?_
                  obtain ⟨r83, σ83, hc83, h⟩ := bd2_x h
                  refine zc_i Z (zr_V F Z (a := 46) (As := [.int (20000 + x3_7)]) (zcX5_put l D A0 (20000 + x3_7) σ66 r83 σ83 hc83) zBX5_put zq764 (by decide) zs_46 zC5.1 rfl ⟨⟨rfl, rfl⟩, by dsimp only [zR, RD]; omega, by dsimp only [zR, RD]; omega⟩ hl.1 rfl (Nat.le_of_ble_eq_true rfl) dX5_sum_83 ⟨Nat.le_of_ble_eq_true rfl, Nat.le_of_ble_eq_true rfl⟩) (fun _ _ Z => ?_)
                  refine lv_pop hx hb dX5_sum_86 rfl ?_
                  exact hj87 σ83 _ _ _ Z (lv_sub hl [1, 2, 0, 4, 5] rfl) h
            obtain ⟨j60, ej60, h⟩ := lt_x h
            have hj60 : ∀ (σ60 : Mm) (H : Heap) (locs : List Loc) (ls : Array Slot), zh D A0 σ60 GF 740 s.heap H locs → lv_has ls 6 [(0, .ref (A0 + 46)), (1, .int x1), (3, .int x3_7), (4, .int x4_7), (5, .int r41)] → j60 σ60 = some (r0, σr) → W p l e (zR (10 * (dd + 1) + 40) (400 * (dd + 1) + 1500)) s m [.ref (A0 + 46), .int x1].toArray below meth c H locs 0 0 (MQ below (zQi D A0 r0 σr GF 740) [.ref (A0 + 46), .int x1].toArray s 0 0 (zA A0)) (F0 m 60 ls []) := by
              intro  σ60 H locs ls Z hl h
              rw [ej60] at h
              try dsimp only at h
              refine lv_iload hx hb dX5_sum_60 (lv_at hl 4 rfl) ?_
              refine lv_goto (tgt := 66) hx hb dX5_sum_62 (by decide) ?_
              exact hj66 r41 σ60 _ _ _ Z (lv_sub hl [0, 1, 2, 3, 4] rfl) h
            refine zb_iceq (tgt := 60) hx hb dX5_sum_50 (by decide) h (fun h => ?_) (fun h => ?_)
            · exact hj60 σ41 _ _ _ Z (lv_sub hl [1, 2, 3, 4, 0] rfl) h
            · refine lv_iload hx hb dX5_sum_53 (lv_at hl 0 rfl) ?_
              refine lv_bipush (v := 47) hx hb dX5_sum_55 (by decide) ?_
              refine zb_icne (tgt := 65) hx hb dX5_sum_57 (by decide) h (fun h => ?_) (fun h => ?_)
              · refine lv_iconst (v := (-1)) hx hb dX5_sum_65 (by decide) ?_
                exact hj66 (-1) σ41 _ _ _ Z (lv_sub hl [1, 2, 3, 4, 0] rfl) h
              · exact hj60 σ41 _ _ _ Z (lv_sub hl [1, 2, 3, 4, 0] rfl) h
          refine zb_iceq (tgt := 40) hx hb dX5_sum_27 (by decide) h (fun h => ?_) (fun h => ?_)
          · exact hj40 σ17 _ _ _ Z (lv_sub hl [0, 1, 3, 4] rfl) h
          · refine lv_aload_n hx hb dX5_sum_30 rfl (lv_at hl 0 rfl) ?_
            refine lv_sipush (v := 20000) hx hb dX5_sum_31 (by decide) ?_
            refine lv_iload_n hx hb dX5_sum_34 rfl (lv_at hl 2 rfl) ?_
            refine lv_iadd hx hb dX5_sum_35 ?_
            obtain ⟨r36, σ36, hc36, h⟩ := bd2_x h
            refine zc_i Z (zr_V F Z (a := 46) (As := [.int (20000 + x2_7)]) (zcX5_put l D A0 (20000 + x2_7) σ17 r36 σ36 hc36) zBX5_put zq764 (by decide) zs_46 zC5.1 rfl ⟨⟨rfl, rfl⟩, by dsimp only [zR, RD]; omega, by dsimp only [zR, RD]; omega⟩ hl.1 rfl (Nat.le_of_ble_eq_true rfl) dX5_sum_36 ⟨Nat.le_of_ble_eq_true rfl, Nat.le_of_ble_eq_true rfl⟩) (fun _ _ Z => ?_)
            refine lv_pop hx hb dX5_sum_39 rfl ?_
            exact hj40 σ36 _ _ _ Z (lv_sub hl [0, 1, 3, 4] rfl) h
        · exact hk23 σ17 _ _ _ Z (lv_sub hl [] rfl) h
  exact hL7 NF (-1) (-1) 0 σ _ _ _ Z (lv_sub hl [3, 4, 2, 1, 0] rfl) h
set_option maxHeartbeats 4000000 in
set_option maxRecDepth 100000 in
theorem zcX5_isComparison (l : Launch) (D : va_G) (A0 : Nat) (x0 : Int32) (σ : Mm) (r0 : Int32) (h : zfX5_isComparison x0 = r0) : Met l yX5_isComparison (zws yX5_isComparison cX5_isComparison 1 (some .boolean)) (zR 0 0) (zPc D A0 σ GF 740 [.int x0]) (zQi D A0 r0 σ GF 740) 0 0 (zA A0) := by
  unfold zfX5_isComparison at h
  refine zmet (own := RX5) (by decide) rfl (Nat.le_of_ble_eq_true rfl) ?_
  intro p e s m below meth c F hr hlocks _ Z ls hl
  have hl : lv_has ls 1 [(0, .int x0)] := hl
  have hx := F.1.1
  have hb := F.1.2.1
  have hown := F.1.2.2.2.1
  have hts := F.1.2.2.2.2
  refine lv_iload_n hx hb dX5_isComparison_0 rfl (lv_at hl 0 rfl) ?_
  refine lv_bipush (v := 61) hx hb dX5_isComparison_1 (by decide) ?_
  obtain ⟨j18, ej18, h⟩ := lt_x h
  have hj18 : ∀  (H : Heap) (locs : List Loc) (ls : Array Slot), zh D A0 σ GF 740 s.heap H locs → lv_has ls 1 [] → j18 () = r0 → W p l e (zR 0 0) s m [.int x0].toArray below meth c H locs 0 0 (MQ below (zQi D A0 r0 σ GF 740) [.int x0].toArray s 0 0 (zA A0)) (F0 m 18 ls []) := by
    intro  H locs ls Z hl h
    rw [ej18] at h
    try dsimp only at h
    refine lv_iconst (v := 1) hx hb dX5_isComparison_18 (by decide) ?_
    refine lv_goto (tgt := 23) hx hb dX5_isComparison_19 (by decide) ?_
    exact ze_z F Z hr hlocks (by decide) h rfl dX5_isComparison_23
  refine zb_iceq (tgt := 18) hx hb dX5_isComparison_3 (by decide) h (fun h => ?_) (fun h => ?_)
  · exact hj18  _ _ _ Z (lv_sub hl [] rfl) h
  · refine lv_iload_n hx hb dX5_isComparison_6 rfl (lv_at hl 0 rfl) ?_
    refine lv_bipush (v := 60) hx hb dX5_isComparison_7 (by decide) ?_
    refine zb_iceq (tgt := 18) hx hb dX5_isComparison_9 (by decide) h (fun h => ?_) (fun h => ?_)
    · exact hj18  _ _ _ Z (lv_sub hl [] rfl) h
    · refine lv_iload_n hx hb dX5_isComparison_12 rfl (lv_at hl 0 rfl) ?_
      refine lv_bipush (v := 62) hx hb dX5_isComparison_13 (by decide) ?_
      refine zb_icne (tgt := 22) hx hb dX5_isComparison_15 (by decide) h (fun h => ?_) (fun h => ?_)
      · refine lv_iconst (v := 0) hx hb dX5_isComparison_22 (by decide) ?_
        exact ze_z F Z hr hlocks (by decide) h rfl dX5_isComparison_23
      · exact hj18  _ _ _ Z (lv_sub hl [] rfl) h
set_option maxHeartbeats 4000000 in
set_option maxRecDepth 100000 in
theorem zcX5_condition (l : Launch) (D : va_G) (A0 : Nat) (zrec : Int32 → Int32 → Mm → Option (Int32 × Mm)) (dd : Nat) (hrec : ∀ (x1 : Int32) (x2 : Int32) (σ : Mm) (r0 : Int32) (σr : Mm) (h : zrec x1 x2 σ = some (r0, σr)), Met l yX5_unit (zws yX5_unit cX5_unit 5 (some .boolean)) (zR (10 * dd + 250) (400 * dd + 9000)) (zPc D A0 σ GF 740 [.ref (A0 + 46), .int x1, .int x2]) (zQi D A0 r0 σr GF 740) 0 0 (zA A0)) (x1 : Int32) (x2 : Int32) (σ : Mm) (r0 : Int32) (σr : Mm) (h : zfX5_condition zrec x1 x2 σ = some (r0, σr)) : Met l yX5_condition (zws yX5_condition cX5_condition 7 (some .boolean)) (zR (10 * dd + 254) (400 * dd + 9200)) (zPc D A0 σ GF 740 [.ref (A0 + 46), .int x1, .int x2]) (zQi D A0 r0 σr GF 740) 0 0 (zA A0) := by
  unfold zfX5_condition at h
  refine zmet (own := RX5) (by decide) rfl (Nat.le_of_ble_eq_true rfl) ?_
  intro p e s m below meth c F hr hlocks _ Z ls hl
  have hl : lv_has ls 7 [(0, .ref (A0 + 46)), (1, .int x1), (2, .int x2)] := hl
  have hx := F.1.1
  have hb := F.1.2.1
  have hown := F.1.2.2.2.1
  have hts := F.1.2.2.2.2
  refine lv_iconst (v := 0) hx hb dX5_condition_0 (by decide) ?_
  refine lv_istore_n (lv' := [(3, .int 0), (0, .ref (A0 + 46)), (1, .int x1), (2, .int x2)]) hx hb dX5_condition_1 rfl hl (by decide) rfl (fun ls hl => ?_)
  refine lv_iconst (v := 0) hx hb dX5_condition_2 (by decide) ?_
  refine lv_istore (lv' := [(4, .int 0), (3, .int 0), (0, .ref (A0 + 46)), (1, .int x1), (2, .int x2)]) hx hb dX5_condition_3 hl (by decide) rfl (fun ls hl => ?_)
  refine lv_iconst (v := 0) hx hb dX5_condition_5 (by decide) ?_
  refine lv_istore (lv' := [(5, .int 0), (4, .int 0), (3, .int 0), (0, .ref (A0 + 46)), (1, .int x1), (2, .int x2)]) hx hb dX5_condition_6 hl (by decide) rfl (fun ls hl => ?_)
  obtain ⟨k38, ek38, h⟩ := lt_x h
  have hk38 : ∀ (σ38 : Mm) (H : Heap) (locs : List Loc) (ls : Array Slot), zh D A0 σ38 GF 740 s.heap H locs → lv_has ls 7 [] → k38 σ38 = some (r0, σr) → W p l e (zR (10 * dd + 254) (400 * dd + 9200)) s m [.ref (A0 + 46), .int x1, .int x2].toArray below meth c H locs 0 0 (MQ below (zQi D A0 r0 σr GF 740) [.ref (A0 + 46), .int x1, .int x2].toArray s 0 0 (zA A0)) (F0 m 38 ls []) := by
    intro  σ38 H locs ls Z hl h
    rw [ek38] at h
    try dsimp only at h
    refine lv_iconst (v := 0) hx hb dX5_condition_38 (by decide) ?_
    obtain ⟨hq1, hq2⟩ := zpq h
    exact ze_z F Z hr hlocks (by decide) hq1 hq2 dX5_condition_39
  obtain ⟨k95, ek95, h⟩ := lt_x h
  have hk95 : ∀ (σ95 : Mm) (H : Heap) (locs : List Loc) (ls : Array Slot), zh D A0 σ95 GF 740 s.heap H locs → lv_has ls 7 [] → k95 σ95 = some (r0, σr) → W p l e (zR (10 * dd + 254) (400 * dd + 9200)) s m [.ref (A0 + 46), .int x1, .int x2].toArray below meth c H locs 0 0 (MQ below (zQi D A0 r0 σr GF 740) [.ref (A0 + 46), .int x1, .int x2].toArray s 0 0 (zA A0)) (F0 m 95 ls []) := by
    intro  σ95 H locs ls Z hl h
    rw [ek95] at h
    try dsimp only at h
    refine lv_iconst (v := 1) hx hb dX5_condition_95 (by decide) ?_
    obtain ⟨hq1, hq2⟩ := zpq h
    exact ze_z F Z hr hlocks (by decide) hq1 hq2 dX5_condition_96
  obtain ⟨k116, ek116, h⟩ := lt_x h
  have hk116 : ∀ (σ116 : Mm) (H : Heap) (locs : List Loc) (ls : Array Slot), zh D A0 σ116 GF 740 s.heap H locs → lv_has ls 7 [(0, .ref (A0 + 46))] → k116 σ116 = some (r0, σr) → W p l e (zR (10 * dd + 254) (400 * dd + 9200)) s m [.ref (A0 + 46), .int x1, .int x2].toArray below meth c H locs 0 0 (MQ below (zQi D A0 r0 σr GF 740) [.ref (A0 + 46), .int x1, .int x2].toArray s 0 0 (zA A0)) (F0 m 116 ls []) := by
    intro  σ116 H locs ls Z hl h
    rw [ek116] at h
    try dsimp only at h
    refine lv_aload_n hx hb dX5_condition_116 rfl (lv_at hl 0 rfl) ?_
    obtain ⟨r117, σ117, hc117, h⟩ := bd2_x h
    refine zc_i Z (zr_U (x := ({ cls := "UnsoldPrice$RuleReader", name := "wrong", desc := "()Z" } : Jvm.MethodName)) (owner := "UnsoldPrice$Reader") (C := "UnsoldPrice$RuleReader") F Z (a := 46) (As := []) (zcX3_wrong_46 l D A0 σ116 r117 σ117 hc117) zBX3_wrong zq772 zq773 zq774 zq642 rfl (by decide) zs_46 zC5.1 rfl ⟨⟨rfl, rfl⟩, by dsimp only [zR, RD]; omega, by dsimp only [zR, RD]; omega⟩ hl.1 rfl (Nat.le_of_ble_eq_true rfl) dX5_condition_117 ⟨Nat.le_of_ble_eq_true rfl, Nat.le_of_ble_eq_true rfl⟩) (fun _ _ Z => ?_)
    obtain ⟨hz120, h⟩ := ck_x h
    obtain ⟨hq1, hq2⟩ := zpq h
    exact ze_z F Z hr hlocks hz120 hq1 hq2 dX5_condition_120
  have hL8 : ∀ (fu8 : Nat) (x3_8 : Int32) (x4_8 : Int32) (x5_8 : Int32) (σ8 : Mm) (H : Heap) (locs : List Loc) (ls : Array Slot), zh D A0 σ8 GF 740 s.heap H locs → lv_has ls 7 [(0, .ref (A0 + 46)), (1, .int x1), (2, .int x2), (3, .int x3_8), (4, .int x4_8), (5, .int x5_8)] → zfX5_condition_L8 k116 zrec x1 k38 k95 x2 fu8 x3_8 x4_8 x5_8 σ8 = some (r0, σr) → W p l e (zR (10 * dd + 254) (400 * dd + 9200)) s m [.ref (A0 + 46), .int x1, .int x2].toArray below meth c H locs 0 0 (MQ below (zQi D A0 r0 σr GF 740) [.ref (A0 + 46), .int x1, .int x2].toArray s 0 0 (zA A0)) (F0 m 8 ls []) := by
    intro fu8
    induction fu8 with
    | zero => intro x3_8 x4_8 x5_8 σ8 H locs ls Z hl h; rw [zfX5_condition_L8] at h; cases h
    | succ fu8 ih8 =>
      intro x3_8 x4_8 x5_8 σ8 H locs ls Z hl h
      rw [zfX5_condition_L8] at h
      refine lv_iload hx hb dX5_condition_8 (lv_at hl 5 rfl) ?_
      refine lv_sipush (v := 160) hx hb dX5_condition_10 (by decide) ?_
      refine zb_icge (tgt := 116) hx hb dX5_condition_13 (by decide) h (fun h => ?_) (fun h => ?_)
      · exact hk116 σ8 _ _ _ Z (lv_sub hl [0] rfl) h
      · refine lv_aload_n hx hb dX5_condition_16 rfl (lv_at hl 0 rfl) ?_
        refine lv_iload_n hx hb dX5_condition_17 rfl (lv_at hl 1 rfl) ?_
        refine lv_iload_n hx hb dX5_condition_18 rfl (lv_at hl 2 rfl) ?_
        obtain ⟨j32, ej32, h⟩ := lt_x h
        have hj32 : ∀ (y0_32 : Int32) (σ32 : Mm) (H : Heap) (locs : List Loc) (ls : Array Slot), zh D A0 σ32 GF 740 s.heap H locs → lv_has ls 7 [(0, .ref (A0 + 46)), (1, .int x1), (2, .int x2), (3, .int x3_8), (4, .int x4_8), (5, .int x5_8)] → j32 y0_32 σ32 = some (r0, σr) → W p l e (zR (10 * dd + 254) (400 * dd + 9200)) s m [.ref (A0 + 46), .int x1, .int x2].toArray below meth c H locs 0 0 (MQ below (zQi D A0 r0 σr GF 740) [.ref (A0 + 46), .int x1, .int x2].toArray s 0 0 (zA A0)) (F0 m 32 ls [.int y0_32, .int x1, .ref (A0 + 46)]) := by
          intro y0_32 σ32 H locs ls Z hl h
          rw [ej32] at h
          try dsimp only at h
          obtain ⟨r32, σ32_1, hc32, h⟩ := bd2_x h
          refine zc_i Z (zr_V F Z (a := 46) (As := [.int x1, .int y0_32]) (hrec x1 y0_32 σ32 r32 σ32_1 hc32) zBX5_unit zq785 (by decide) zs_46 zC5.1 rfl ⟨⟨rfl, rfl⟩, by dsimp only [zR, RD]; omega, by dsimp only [zR, RD]; omega⟩ hl.1 rfl (Nat.le_of_ble_eq_true rfl) dX5_condition_32 ⟨Nat.le_of_ble_eq_true rfl, Nat.le_of_ble_eq_true rfl⟩) (fun _ _ Z => ?_)
          refine zb_ifne (tgt := 40) hx hb dX5_condition_35 (by decide) h (fun h => ?_) (fun h => ?_)
          · refine lv_iload_n hx hb dX5_condition_40 rfl (lv_at hl 3 rfl) ?_
            obtain ⟨j52, ej52, h⟩ := lt_x h
            have hj52 : ∀ (σ52 : Mm) (H : Heap) (locs : List Loc) (ls : Array Slot), zh D A0 σ52 GF 740 s.heap H locs → lv_has ls 7 [(0, .ref (A0 + 46)), (1, .int x1), (2, .int x2), (4, .int x4_8), (5, .int x5_8)] → j52 σ52 = some (r0, σr) → W p l e (zR (10 * dd + 254) (400 * dd + 9200)) s m [.ref (A0 + 46), .int x1, .int x2].toArray below meth c H locs 0 0 (MQ below (zQi D A0 r0 σr GF 740) [.ref (A0 + 46), .int x1, .int x2].toArray s 0 0 (zA A0)) (F0 m 52 ls []) := by
              intro  σ52 H locs ls Z hl h
              rw [ej52] at h
              try dsimp only at h
              refine lv_aload_n hx hb dX5_condition_52 rfl (lv_at hl 0 rfl) ?_
              obtain ⟨r53, σ53, hc53, h⟩ := bd2_x h
              refine zc_i Z (zr_U (x := ({ cls := "UnsoldPrice$RuleReader", name := "sign", desc := "()I" } : Jvm.MethodName)) (owner := "UnsoldPrice$Reader") (C := "UnsoldPrice$RuleReader") F Z (a := 46) (As := []) (zcX3_sign_46 l D A0 σ52 r53 σ53 hc53) zBX3_sign zq750 zq751 zq752 zq629 rfl (by decide) zs_46 zC5.1 rfl ⟨⟨rfl, rfl⟩, by dsimp only [zR, RD]; omega, by dsimp only [zR, RD]; omega⟩ hl.1 rfl (Nat.le_of_ble_eq_true rfl) dX5_condition_53 ⟨Nat.le_of_ble_eq_true rfl, Nat.le_of_ble_eq_true rfl⟩) (fun _ _ Z => ?_)
              refine lv_istore (lv' := [(6, .int r53), (0, .ref (A0 + 46)), (1, .int x1), (2, .int x2), (4, .int x4_8), (5, .int x5_8)]) hx hb dX5_condition_56 hl (by decide) rfl (fun ls hl => ?_)
              refine lv_iload hx hb dX5_condition_58 (lv_at hl 0 rfl) ?_
              refine lv_bipush (v := 38) hx hb dX5_condition_60 (by decide) ?_
              obtain ⟨j70, ej70, h⟩ := lt_x h
              have hj70 : ∀ (y0_70 : Int32) (σ70 : Mm) (H : Heap) (locs : List Loc) (ls : Array Slot), zh D A0 σ70 GF 740 s.heap H locs → lv_has ls 7 [(0, .ref (A0 + 46)), (1, .int x1), (2, .int x2), (4, .int x4_8), (5, .int x5_8), (6, .int r53)] → j70 y0_70 σ70 = some (r0, σr) → W p l e (zR (10 * dd + 254) (400 * dd + 9200)) s m [.ref (A0 + 46), .int x1, .int x2].toArray below meth c H locs 0 0 (MQ below (zQi D A0 r0 σr GF 740) [.ref (A0 + 46), .int x1, .int x2].toArray s 0 0 (zA A0)) (F0 m 70 ls [.int y0_70]) := by
                intro y0_70 σ70 H locs ls Z hl h
                rw [ej70] at h
                try dsimp only at h
                refine lv_istore_n (lv' := [(3, .int y0_70), (0, .ref (A0 + 46)), (1, .int x1), (2, .int x2), (4, .int x4_8), (5, .int x5_8), (6, .int r53)]) hx hb dX5_condition_70 rfl hl (by decide) rfl (fun ls hl => ?_)
                refine lv_iload_n hx hb dX5_condition_71 rfl (lv_at hl 0 rfl) ?_
                obtain ⟨j100, ej100, h⟩ := lt_x h
                have hj100 : ∀ (x4_100 : Int32) (σ100 : Mm) (H : Heap) (locs : List Loc) (ls : Array Slot), zh D A0 σ100 GF 740 s.heap H locs → lv_has ls 7 [(0, .ref (A0 + 46)), (1, .int x1), (2, .int x2), (3, .int y0_70), (4, .int x4_100), (5, .int x5_8)] → j100 x4_100 σ100 = some (r0, σr) → W p l e (zR (10 * dd + 254) (400 * dd + 9200)) s m [.ref (A0 + 46), .int x1, .int x2].toArray below meth c H locs 0 0 (MQ below (zQi D A0 r0 σr GF 740) [.ref (A0 + 46), .int x1, .int x2].toArray s 0 0 (zA A0)) (F0 m 100 ls []) := by
                  intro x4_100 σ100 H locs ls Z hl h
                  rw [ej100] at h
                  try dsimp only at h
                  refine lv_aload_n hx hb dX5_condition_100 rfl (lv_at hl 0 rfl) ?_
                  refine lv_dup hx hb dX5_condition_101 rfl ?_
                  refine zw_getI F Z zC5 (a := 46) (k := 1) (by decide) zs_46 (by decide) rfl zq357 (Or.inr zq358) dX5_condition_102 ?_
                  refine lv_iconst (v := 1) hx hb dX5_condition_105 (by decide) ?_
                  refine lv_iadd hx hb dX5_condition_106 ?_
                  refine zw_putI F Z zC5 (a := 46) (k := 1) (by decide) zs_46 (by decide) rfl (by decide) zq357 (Or.inr zq358) rfl ⟨rfl, rfl⟩ dX5_condition_107 (fun σ107 _ _ eσ107 Z => ?_)
                  replace h := lt_w h eσ107
                  obtain ⟨x5_110, ex5_110⟩ : ∃ y : Int32, y = x5_8 + 1 := ⟨_, rfl⟩
                  replace h := lt_w h ex5_110
                  refine lv_iinc (v := x5_110) (lv' := [(5, .int x5_110), (0, .ref (A0 + 46)), (1, .int x1), (2, .int x2), (3, .int y0_70), (4, .int x4_100)]) hx hb dX5_condition_110 hl (k := 5) rfl (by rw [ex5_110]; rfl) (by decide) rfl (fun ls hl => ?_)
                  refine lv_goto (tgt := 8) hx hb dX5_condition_113 (by decide) ?_
                  exact ih8 y0_70 x4_100 x5_110 σ107 _ _ _ Z (lv_sub hl [1, 2, 3, 4, 5, 0] rfl) h
                refine zb_ifne (tgt := 100) hx hb dX5_condition_72 (by decide) h (fun h => ?_) (fun h => ?_)
                · exact hj100 x4_8 σ70 _ _ _ Z (lv_sub hl [1, 2, 3, 0, 4, 5] rfl) h
                · refine lv_iload hx hb dX5_condition_75 (lv_at hl 4 rfl) ?_
                  obtain ⟨j88, ej88, h⟩ := lt_x h
                  have hj88 : ∀ (σ88 : Mm) (H : Heap) (locs : List Loc) (ls : Array Slot), zh D A0 σ88 GF 740 s.heap H locs → lv_has ls 7 [(0, .ref (A0 + 46)), (1, .int x1), (2, .int x2), (3, .int y0_70), (5, .int x5_8), (6, .int r53)] → j88 σ88 = some (r0, σr) → W p l e (zR (10 * dd + 254) (400 * dd + 9200)) s m [.ref (A0 + 46), .int x1, .int x2].toArray below meth c H locs 0 0 (MQ below (zQi D A0 r0 σr GF 740) [.ref (A0 + 46), .int x1, .int x2].toArray s 0 0 (zA A0)) (F0 m 88 ls []) := by
                    intro  σ88 H locs ls Z hl h
                    rw [ej88] at h
                    try dsimp only at h
                    refine lv_iload hx hb dX5_condition_88 (lv_at hl 5 rfl) ?_
                    refine lv_bipush (v := 124) hx hb dX5_condition_90 (by decide) ?_
                    refine zb_iceq (tgt := 97) hx hb dX5_condition_92 (by decide) h (fun h => ?_) (fun h => ?_)
                    · refine lv_iconst (v := 1) hx hb dX5_condition_97 (by decide) ?_
                      refine lv_istore (lv' := [(4, .int 1), (0, .ref (A0 + 46)), (1, .int x1), (2, .int x2), (3, .int y0_70), (5, .int x5_8), (6, .int r53)]) hx hb dX5_condition_98 hl (by decide) rfl (fun ls hl => ?_)
                      exact hj100 1 σ88 _ _ _ Z (lv_sub hl [1, 2, 3, 4, 0, 5] rfl) h
                    · exact hk95 σ88 _ _ _ Z (lv_sub hl [] rfl) h
                  refine zb_ifeq (tgt := 88) hx hb dX5_condition_77 (by decide) h (fun h => ?_) (fun h => ?_)
                  · exact hj88 σ70 _ _ _ Z (lv_sub hl [1, 2, 3, 0, 5, 6] rfl) h
                  · refine lv_aload_n hx hb dX5_condition_80 rfl (lv_at hl 1 rfl) ?_
                    refine lv_sipush (v := 20124) hx hb dX5_condition_81 (by decide) ?_
                    obtain ⟨r84, σ84, hc84, h⟩ := bd2_x h
                    refine zc_i Z (zr_V F Z (a := 46) (As := [.int 20124]) (zcX5_put l D A0 20124 σ70 r84 σ84 hc84) zBX5_put zq764 (by decide) zs_46 zC5.1 rfl ⟨⟨rfl, rfl⟩, by dsimp only [zR, RD]; omega, by dsimp only [zR, RD]; omega⟩ hl.1 rfl (Nat.le_of_ble_eq_true rfl) dX5_condition_84 ⟨Nat.le_of_ble_eq_true rfl, Nat.le_of_ble_eq_true rfl⟩) (fun _ _ Z => ?_)
                    refine lv_pop hx hb dX5_condition_87 rfl ?_
                    exact hj88 σ84 _ _ _ Z (lv_sub hl [1, 2, 3, 0, 5, 6] rfl) h
              refine zb_icne (tgt := 69) hx hb dX5_condition_62 (by decide) h (fun h => ?_) (fun h => ?_)
              · refine lv_iconst (v := 0) hx hb dX5_condition_69 (by decide) ?_
                exact hj70 0 σ53 _ _ _ Z (lv_sub hl [1, 2, 3, 4, 5, 0] rfl) h
              · refine lv_iconst (v := 1) hx hb dX5_condition_65 (by decide) ?_
                refine lv_goto (tgt := 70) hx hb dX5_condition_66 (by decide) ?_
                exact hj70 1 σ53 _ _ _ Z (lv_sub hl [1, 2, 3, 4, 5, 0] rfl) h
            refine zb_ifeq (tgt := 52) hx hb dX5_condition_41 (by decide) h (fun h => ?_) (fun h => ?_)
            · exact hj52 σ32_1 _ _ _ Z (lv_sub hl [0, 1, 2, 4, 5] rfl) h
            · refine lv_aload_n hx hb dX5_condition_44 rfl (lv_at hl 0 rfl) ?_
              refine lv_sipush (v := 20038) hx hb dX5_condition_45 (by decide) ?_
              obtain ⟨r48, σ48, hc48, h⟩ := bd2_x h
              refine zc_i Z (zr_V F Z (a := 46) (As := [.int 20038]) (zcX5_put l D A0 20038 σ32_1 r48 σ48 hc48) zBX5_put zq764 (by decide) zs_46 zC5.1 rfl ⟨⟨rfl, rfl⟩, by dsimp only [zR, RD]; omega, by dsimp only [zR, RD]; omega⟩ hl.1 rfl (Nat.le_of_ble_eq_true rfl) dX5_condition_48 ⟨Nat.le_of_ble_eq_true rfl, Nat.le_of_ble_eq_true rfl⟩) (fun _ _ Z => ?_)
              refine lv_pop hx hb dX5_condition_51 rfl ?_
              exact hj52 σ48 _ _ _ Z (lv_sub hl [0, 1, 2, 4, 5] rfl) h
          · exact hk38 σ32_1 _ _ _ Z (lv_sub hl [] rfl) h
        obtain ⟨j31, ej31, h⟩ := lt_x h
        have hj31 : ∀ (σ31 : Mm) (H : Heap) (locs : List Loc) (ls : Array Slot), zh D A0 σ31 GF 740 s.heap H locs → lv_has ls 7 [(0, .ref (A0 + 46)), (1, .int x1), (2, .int x2), (3, .int x3_8), (4, .int x4_8), (5, .int x5_8)] → j31 σ31 = some (r0, σr) → W p l e (zR (10 * dd + 254) (400 * dd + 9200)) s m [.ref (A0 + 46), .int x1, .int x2].toArray below meth c H locs 0 0 (MQ below (zQi D A0 r0 σr GF 740) [.ref (A0 + 46), .int x1, .int x2].toArray s 0 0 (zA A0)) (F0 m 31 ls [.int x1, .ref (A0 + 46)]) := by
          intro  σ31 H locs ls Z hl h
          rw [ej31] at h
          try dsimp only at h
          refine lv_iconst (v := 0) hx hb dX5_condition_31 (by decide) ?_
          exact hj32 0 σ31 _ _ _ Z (lv_sub hl [0, 1, 2, 3, 4, 5] rfl) h
        refine zb_ifeq (tgt := 31) hx hb dX5_condition_19 (by decide) h (fun h => ?_) (fun h => ?_)
        · exact hj31 σ8 _ _ _ Z (lv_sub hl [0, 1, 2, 3, 4, 5] rfl) h
        · refine lv_iload hx hb dX5_condition_22 (lv_at hl 5 rfl) ?_
          refine zb_ifne (tgt := 31) hx hb dX5_condition_24 (by decide) h (fun h => ?_) (fun h => ?_)
          · exact hj31 σ8 _ _ _ Z (lv_sub hl [0, 1, 2, 3, 4, 5] rfl) h
          · refine lv_iconst (v := 1) hx hb dX5_condition_27 (by decide) ?_
            refine lv_goto (tgt := 32) hx hb dX5_condition_28 (by decide) ?_
            exact hj32 1 σ8 _ _ _ Z (lv_sub hl [0, 1, 2, 3, 4, 5] rfl) h
  exact hL8 NF 0 0 0 σ _ _ _ Z (lv_sub hl [3, 4, 5, 2, 1, 0] rfl) h
set_option maxHeartbeats 4000000 in
set_option maxRecDepth 100000 in
theorem zcX5_unit (l : Launch) (D : va_G) (A0 : Nat) : ∀ (dd : Nat) (x1 : Int32) (x2 : Int32) (σ : Mm) (r0 : Int32) (σr : Mm) (h : zfX5_unit dd x1 x2 σ = some (r0, σr)), Met l yX5_unit (zws yX5_unit cX5_unit 5 (some .boolean)) (zR (10 * dd + 250) (400 * dd + 9000)) (zPc D A0 σ GF 740 [.ref (A0 + 46), .int x1, .int x2]) (zQi D A0 r0 σr GF 740) 0 0 (zA A0) := by
  intro dd
  induction dd with
  | zero => intro x1 x2 σ r0 σr h; rw [zfX5_unit] at h; cases h
  | succ dd hrec =>
  intro x1 x2 σ r0 σr h
  rw [zfX5_unit] at h
  refine zmet (own := RX5) (by decide) rfl (Nat.le_of_ble_eq_true rfl) ?_
  intro p e s m below meth c F hr hlocks _ Z ls hl
  have hl : lv_has ls 5 [(0, .ref (A0 + 46)), (1, .int x1), (2, .int x2)] := hl
  have hx := F.1.1
  have hb := F.1.2.1
  have hown := F.1.2.2.2.1
  have hts := F.1.2.2.2.2
  refine lv_aload_n hx hb dX5_unit_0 rfl (lv_at hl 0 rfl) ?_
  obtain ⟨r1, σ1, hc1, h⟩ := bd2_x h
  refine zc_i Z (zr_U (x := ({ cls := "UnsoldPrice$RuleReader", name := "sign", desc := "()I" } : Jvm.MethodName)) (owner := "UnsoldPrice$Reader") (C := "UnsoldPrice$RuleReader") F Z (a := 46) (As := []) (zcX3_sign_46 l D A0 σ r1 σ1 hc1) zBX3_sign zq750 zq751 zq752 zq629 rfl (by decide) zs_46 zC5.1 rfl ⟨⟨rfl, rfl⟩, by dsimp only [zR, RD]; omega, by dsimp only [zR, RD]; omega⟩ hl.1 rfl (Nat.le_of_ble_eq_true rfl) dX5_unit_1 ⟨Nat.le_of_ble_eq_true rfl, Nat.le_of_ble_eq_true rfl⟩) (fun _ _ Z => ?_)
  refine lv_istore_n (lv' := [(3, .int r1), (0, .ref (A0 + 46)), (1, .int x1), (2, .int x2)]) hx hb dX5_unit_4 rfl hl (by decide) rfl (fun ls hl => ?_)
  refine lv_iload_n hx hb dX5_unit_5 rfl (lv_at hl 3 rfl) ?_
  obtain ⟨j101, ej101, h⟩ := lt_x h
  have hj101 : ∀ (σ101 : Mm) (H : Heap) (locs : List Loc) (ls : Array Slot), zh D A0 σ101 GF 740 s.heap H locs → lv_has ls 5 [(0, .ref (A0 + 46)), (1, .int x1), (2, .int x2)] → j101 σ101 = some (r0, σr) → W p l e (zR (10 * (dd + 1) + 250) (400 * (dd + 1) + 9000)) s m [.ref (A0 + 46), .int x1, .int x2].toArray below meth c H locs 0 0 (MQ below (zQi D A0 r0 σr GF 740) [.ref (A0 + 46), .int x1, .int x2].toArray s 0 0 (zA A0)) (F0 m 101 ls []) := by
    intro  σ101 H locs ls Z hl h
    rw [ej101] at h
    try dsimp only at h
    refine lv_iload_n hx hb dX5_unit_101 rfl (lv_at hl 2 rfl) ?_
    obtain ⟨j115, ej115, h⟩ := lt_x h
    have hj115 : ∀ (σ115 : Mm) (H : Heap) (locs : List Loc) (ls : Array Slot), zh D A0 σ115 GF 740 s.heap H locs → lv_has ls 5 [(0, .ref (A0 + 46)), (1, .int x1)] → j115 σ115 = some (r0, σr) → W p l e (zR (10 * (dd + 1) + 250) (400 * (dd + 1) + 9000)) s m [.ref (A0 + 46), .int x1, .int x2].toArray below meth c H locs 0 0 (MQ below (zQi D A0 r0 σr GF 740) [.ref (A0 + 46), .int x1, .int x2].toArray s 0 0 (zA A0)) (F0 m 115 ls []) := by
      intro  σ115 H locs ls Z hl h
      rw [ej115] at h
      try dsimp only at h
      refine lv_aload_n hx hb dX5_unit_115 rfl (lv_at hl 0 rfl) ?_
      obtain ⟨r116, σ116, hc116, h⟩ := bd2_x h
      refine zc_i Z (zr_U (x := ({ cls := "UnsoldPrice$RuleReader", name := "sign", desc := "()I" } : Jvm.MethodName)) (owner := "UnsoldPrice$Reader") (C := "UnsoldPrice$RuleReader") F Z (a := 46) (As := []) (zcX3_sign_46 l D A0 σ115 r116 σ116 hc116) zBX3_sign zq750 zq751 zq752 zq629 rfl (by decide) zs_46 zC5.1 rfl ⟨⟨rfl, rfl⟩, by dsimp only [zR, RD]; omega, by dsimp only [zR, RD]; omega⟩ hl.1 rfl (Nat.le_of_ble_eq_true rfl) dX5_unit_116 ⟨Nat.le_of_ble_eq_true rfl, Nat.le_of_ble_eq_true rfl⟩) (fun _ _ Z => ?_)
      refine lv_istore (lv' := [(4, .int r116), (0, .ref (A0 + 46)), (1, .int x1)]) hx hb dX5_unit_119 hl (by decide) rfl (fun ls hl => ?_)
      refine lv_iload hx hb dX5_unit_121 (lv_at hl 0 rfl) ?_
      refine zc_i Z (zr_S F Z (As := [.int r116]) (zcX5_isComparison l D A0 r116 σ116 (zfX5_isComparison r116) rfl) zBX5_isComparison zq778 rfl ⟨⟨rfl, rfl⟩, by dsimp only [zR, RD]; omega, by dsimp only [zR, RD]; omega⟩ hl.1 rfl (Nat.le_of_ble_eq_true rfl) dX5_unit_123 ⟨Nat.le_of_ble_eq_true rfl, Nat.le_of_ble_eq_true rfl⟩) (fun _ _ Z => ?_)
      refine zb_ifne (tgt := 134) hx hb dX5_unit_126 (by decide) h (fun h => ?_) (fun h => ?_)
      · refine lv_aload_n hx hb dX5_unit_134 rfl (lv_at hl 1 rfl) ?_
        refine lv_dup hx hb dX5_unit_135 rfl ?_
        refine zw_getI F Z zC5 (a := 46) (k := 1) (by decide) zs_46 (by decide) rfl zq357 (Or.inr zq358) dX5_unit_136 ?_
        refine lv_iconst (v := 1) hx hb dX5_unit_139 (by decide) ?_
        refine lv_iadd hx hb dX5_unit_140 ?_
        refine zw_putI F Z zC5 (a := 46) (k := 1) (by decide) zs_46 (by decide) rfl (by decide) zq357 (Or.inr zq358) rfl ⟨rfl, rfl⟩ dX5_unit_141 (fun σ141 _ _ eσ141 Z => ?_)
        replace h := lt_w h eσ141
        refine lv_aload_n hx hb dX5_unit_144 rfl (lv_at hl 1 rfl) ?_
        refine lv_iload_n hx hb dX5_unit_145 rfl (lv_at hl 2 rfl) ?_
        obtain ⟨r146, σ146, hc146, h⟩ := bd2_x h
        refine zc_i Z (zr_V F Z (a := 46) (As := [.int x1]) (zcX5_sum l D A0 RD x1 σ141 r146 σ146 hc146) zBX5_sum zq753 (by decide) zs_46 zC5.1 rfl ⟨⟨rfl, rfl⟩, by dsimp only [zR, RD]; omega, by dsimp only [zR, RD]; omega⟩ hl.1 rfl (Nat.le_of_ble_eq_true rfl) dX5_unit_146 ⟨Nat.le_of_ble_eq_true rfl, Nat.le_of_ble_eq_true rfl⟩) (fun _ _ Z => ?_)
        obtain ⟨j169, ej169, h⟩ := lt_x h
        have hj169 : ∀ (σ169 : Mm) (H : Heap) (locs : List Loc) (ls : Array Slot), zh D A0 σ169 GF 740 s.heap H locs → lv_has ls 5 [] → j169 σ169 = some (r0, σr) → W p l e (zR (10 * (dd + 1) + 250) (400 * (dd + 1) + 9000)) s m [.ref (A0 + 46), .int x1, .int x2].toArray below meth c H locs 0 0 (MQ below (zQi D A0 r0 σr GF 740) [.ref (A0 + 46), .int x1, .int x2].toArray s 0 0 (zA A0)) (F0 m 169 ls []) := by
          intro  σ169 H locs ls Z hl h
          rw [ej169] at h
          try dsimp only at h
          refine lv_iconst (v := 0) hx hb dX5_unit_169 (by decide) ?_
          obtain ⟨hq1, hq2⟩ := zpq h
          exact ze_z F Z hr hlocks (by decide) hq1 hq2 dX5_unit_170
        refine zb_ifeq (tgt := 169) hx hb dX5_unit_149 (by decide) h (fun h => ?_) (fun h => ?_)
        · exact hj169 σ146 _ _ _ Z (lv_sub hl [] rfl) h
        · refine lv_aload_n hx hb dX5_unit_152 rfl (lv_at hl 1 rfl) ?_
          refine lv_sipush (v := 20000) hx hb dX5_unit_153 (by decide) ?_
          refine lv_iload hx hb dX5_unit_156 (lv_at hl 0 rfl) ?_
          refine lv_iadd hx hb dX5_unit_158 ?_
          obtain ⟨r159, σ159, hc159, h⟩ := bd2_x h
          refine zc_i Z (zr_V F Z (a := 46) (As := [.int (20000 + r116)]) (zcX5_put l D A0 (20000 + r116) σ146 r159 σ159 hc159) zBX5_put zq764 (by decide) zs_46 zC5.1 rfl ⟨⟨rfl, rfl⟩, by dsimp only [zR, RD]; omega, by dsimp only [zR, RD]; omega⟩ hl.1 rfl (Nat.le_of_ble_eq_true rfl) dX5_unit_159 ⟨Nat.le_of_ble_eq_true rfl, Nat.le_of_ble_eq_true rfl⟩) (fun _ _ Z => ?_)
          refine zb_ifeq (tgt := 169) hx hb dX5_unit_162 (by decide) h (fun h => ?_) (fun h => ?_)
          · exact hj169 σ159 _ _ _ Z (lv_sub hl [] rfl) h
          · refine lv_iconst (v := 1) hx hb dX5_unit_165 (by decide) ?_
            refine lv_goto (tgt := 170) hx hb dX5_unit_166 (by decide) ?_
            obtain ⟨hq1, hq2⟩ := zpq h
            exact ze_z F Z hr hlocks (by decide) hq1 hq2 dX5_unit_170
      · refine lv_aload_n hx hb dX5_unit_129 rfl (lv_at hl 1 rfl) ?_
        obtain ⟨r130, σ130, hc130, h⟩ := bd2_x h
        refine zc_i Z (zr_U (x := ({ cls := "UnsoldPrice$RuleReader", name := "wrong", desc := "()Z" } : Jvm.MethodName)) (owner := "UnsoldPrice$Reader") (C := "UnsoldPrice$RuleReader") F Z (a := 46) (As := []) (zcX3_wrong_46 l D A0 σ116 r130 σ130 hc130) zBX3_wrong zq772 zq773 zq774 zq642 rfl (by decide) zs_46 zC5.1 rfl ⟨⟨rfl, rfl⟩, by dsimp only [zR, RD]; omega, by dsimp only [zR, RD]; omega⟩ hl.1 rfl (Nat.le_of_ble_eq_true rfl) dX5_unit_130 ⟨Nat.le_of_ble_eq_true rfl, Nat.le_of_ble_eq_true rfl⟩) (fun _ _ Z => ?_)
        obtain ⟨hz133, h⟩ := ck_x h
        obtain ⟨hq1, hq2⟩ := zpq h
        exact ze_z F Z hr hlocks hz133 hq1 hq2 dX5_unit_133
    refine zb_ifne (tgt := 115) hx hb dX5_unit_102 (by decide) h (fun h => ?_) (fun h => ?_)
    · exact hj115 σ101 _ _ _ Z (lv_sub hl [0, 1] rfl) h
    · refine lv_aload_n hx hb dX5_unit_105 rfl (lv_at hl 0 rfl) ?_
      refine lv_iload_n hx hb dX5_unit_106 rfl (lv_at hl 1 rfl) ?_
      obtain ⟨r107, σ107, hc107, h⟩ := bd2_x h
      refine zc_i Z (zr_V F Z (a := 46) (As := [.int x1]) (zcX5_sum l D A0 RD x1 σ101 r107 σ107 hc107) zBX5_sum zq753 (by decide) zs_46 zC5.1 rfl ⟨⟨rfl, rfl⟩, by dsimp only [zR, RD]; omega, by dsimp only [zR, RD]; omega⟩ hl.1 rfl (Nat.le_of_ble_eq_true rfl) dX5_unit_107 ⟨Nat.le_of_ble_eq_true rfl, Nat.le_of_ble_eq_true rfl⟩) (fun _ _ Z => ?_)
      refine zb_ifne (tgt := 115) hx hb dX5_unit_110 (by decide) h (fun h => ?_) (fun h => ?_)
      · exact hj115 σ107 _ _ _ Z (lv_sub hl [0, 1] rfl) h
      · refine lv_iconst (v := 0) hx hb dX5_unit_113 (by decide) ?_
        obtain ⟨hq1, hq2⟩ := zpq h
        exact ze_z F Z hr hlocks (by decide) hq1 hq2 dX5_unit_114
  refine zb_ifne (tgt := 101) hx hb dX5_unit_6 (by decide) h (fun h => ?_) (fun h => ?_)
  · exact hj101 σ1 _ _ _ Z (lv_sub hl [1, 2, 3] rfl) h
  · refine lv_iload_n hx hb dX5_unit_9 rfl (lv_at hl 0 rfl) ?_
    refine lv_bipush (v := 33) hx hb dX5_unit_10 (by decide) ?_
    obtain ⟨j21, ej21, h⟩ := lt_x h
    have hj21 : ∀ (σ21 : Mm) (H : Heap) (locs : List Loc) (ls : Array Slot), zh D A0 σ21 GF 740 s.heap H locs → lv_has ls 5 [(0, .ref (A0 + 46)), (1, .int x1), (3, .int r1)] → j21 σ21 = some (r0, σr) → W p l e (zR (10 * (dd + 1) + 250) (400 * (dd + 1) + 9000)) s m [.ref (A0 + 46), .int x1, .int x2].toArray below meth c H locs 0 0 (MQ below (zQi D A0 r0 σr GF 740) [.ref (A0 + 46), .int x1, .int x2].toArray s 0 0 (zA A0)) (F0 m 21 ls []) := by
      intro  σ21 H locs ls Z hl h
      rw [ej21] at h
      try dsimp only at h
      refine lv_iload_n hx hb dX5_unit_21 rfl (lv_at hl 1 rfl) ?_
      refine lv_bipush (v := 6) hx hb dX5_unit_22 (by decide) ?_
      refine zb_iclt (tgt := 32) hx hb dX5_unit_24 (by decide) h (fun h => ?_) (fun h => ?_)
      · refine lv_aload_n hx hb dX5_unit_32 rfl (lv_at hl 0 rfl) ?_
        refine lv_dup hx hb dX5_unit_33 rfl ?_
        refine zw_getI F Z zC5 (a := 46) (k := 1) (by decide) zs_46 (by decide) rfl zq357 (Or.inr zq358) dX5_unit_34 ?_
        refine lv_iconst (v := 1) hx hb dX5_unit_37 (by decide) ?_
        refine lv_iadd hx hb dX5_unit_38 ?_
        refine zw_putI F Z zC5 (a := 46) (k := 1) (by decide) zs_46 (by decide) rfl (by decide) zq357 (Or.inr zq358) rfl ⟨rfl, rfl⟩ dX5_unit_39 (fun σ39 _ _ eσ39 Z => ?_)
        replace h := lt_w h eσ39
        refine lv_iload_n hx hb dX5_unit_42 rfl (lv_at hl 2 rfl) ?_
        refine lv_bipush (v := 40) hx hb dX5_unit_43 (by decide) ?_
        refine zb_icne (tgt := 74) hx hb dX5_unit_45 (by decide) h (fun h => ?_) (fun h => ?_)
        · refine lv_aload_n hx hb dX5_unit_74 rfl (lv_at hl 0 rfl) ?_
          refine lv_iload_n hx hb dX5_unit_75 rfl (lv_at hl 1 rfl) ?_
          refine lv_iconst (v := 1) hx hb dX5_unit_76 (by decide) ?_
          refine lv_iadd hx hb dX5_unit_77 ?_
          refine lv_iconst (v := 0) hx hb dX5_unit_78 (by decide) ?_
          obtain ⟨r79, σ79, hc79, h⟩ := bd2_x h
          refine zc_i Z (zr_V F Z (a := 46) (As := [.int (x1 + 1), .int 0]) (hrec (x1 + 1) 0 σ39 r79 σ79 hc79) zBX5_unit zq785 (by decide) zs_46 zC5.1 rfl ⟨⟨rfl, rfl⟩, by dsimp only [zR, RD]; omega, by dsimp only [zR, RD]; omega⟩ hl.1 rfl (Nat.le_of_ble_eq_true rfl) dX5_unit_79 ⟨Nat.le_of_ble_eq_true rfl, Nat.le_of_ble_eq_true rfl⟩) (fun _ _ Z => ?_)
          obtain ⟨j99, ej99, h⟩ := lt_x h
          have hj99 : ∀ (σ99 : Mm) (H : Heap) (locs : List Loc) (ls : Array Slot), zh D A0 σ99 GF 740 s.heap H locs → lv_has ls 5 [] → j99 σ99 = some (r0, σr) → W p l e (zR (10 * (dd + 1) + 250) (400 * (dd + 1) + 9000)) s m [.ref (A0 + 46), .int x1, .int x2].toArray below meth c H locs 0 0 (MQ below (zQi D A0 r0 σr GF 740) [.ref (A0 + 46), .int x1, .int x2].toArray s 0 0 (zA A0)) (F0 m 99 ls []) := by
            intro  σ99 H locs ls Z hl h
            rw [ej99] at h
            try dsimp only at h
            refine lv_iconst (v := 0) hx hb dX5_unit_99 (by decide) ?_
            obtain ⟨hq1, hq2⟩ := zpq h
            exact ze_z F Z hr hlocks (by decide) hq1 hq2 dX5_unit_100
          refine zb_ifeq (tgt := 99) hx hb dX5_unit_82 (by decide) h (fun h => ?_) (fun h => ?_)
          · exact hj99 σ79 _ _ _ Z (lv_sub hl [] rfl) h
          · refine lv_aload_n hx hb dX5_unit_85 rfl (lv_at hl 0 rfl) ?_
            refine lv_sipush (v := 20033) hx hb dX5_unit_86 (by decide) ?_
            obtain ⟨r89, σ89, hc89, h⟩ := bd2_x h
            refine zc_i Z (zr_V F Z (a := 46) (As := [.int 20033]) (zcX5_put l D A0 20033 σ79 r89 σ89 hc89) zBX5_put zq764 (by decide) zs_46 zC5.1 rfl ⟨⟨rfl, rfl⟩, by dsimp only [zR, RD]; omega, by dsimp only [zR, RD]; omega⟩ hl.1 rfl (Nat.le_of_ble_eq_true rfl) dX5_unit_89 ⟨Nat.le_of_ble_eq_true rfl, Nat.le_of_ble_eq_true rfl⟩) (fun _ _ Z => ?_)
            refine zb_ifeq (tgt := 99) hx hb dX5_unit_92 (by decide) h (fun h => ?_) (fun h => ?_)
            · exact hj99 σ89 _ _ _ Z (lv_sub hl [] rfl) h
            · refine lv_iconst (v := 1) hx hb dX5_unit_95 (by decide) ?_
              refine lv_goto (tgt := 100) hx hb dX5_unit_96 (by decide) ?_
              obtain ⟨hq1, hq2⟩ := zpq h
              exact ze_z F Z hr hlocks (by decide) hq1 hq2 dX5_unit_100
        · refine lv_aload_n hx hb dX5_unit_48 rfl (lv_at hl 0 rfl) ?_
          refine lv_iload_n hx hb dX5_unit_49 rfl (lv_at hl 1 rfl) ?_
          refine lv_iconst (v := 1) hx hb dX5_unit_50 (by decide) ?_
          refine lv_iadd hx hb dX5_unit_51 ?_
          refine lv_iconst (v := 0) hx hb dX5_unit_52 (by decide) ?_
          obtain ⟨r53, σ53, hc53, h⟩ := bd2_x h
          refine zc_i Z (zr_V F Z (a := 46) (As := [.int (x1 + 1), .int 0]) (zcX5_condition l D A0 (zfX5_unit dd) dd hrec (x1 + 1) 0 σ39 r53 σ53 hc53) zBX5_condition zq781 (by decide) zs_46 zC5.1 rfl ⟨⟨rfl, rfl⟩, by dsimp only [zR, RD]; omega, by dsimp only [zR, RD]; omega⟩ hl.1 rfl (Nat.le_of_ble_eq_true rfl) dX5_unit_53 ⟨Nat.le_of_ble_eq_true rfl, Nat.le_of_ble_eq_true rfl⟩) (fun _ _ Z => ?_)
          obtain ⟨j72, ej72, h⟩ := lt_x h
          have hj72 : ∀ (σ72 : Mm) (H : Heap) (locs : List Loc) (ls : Array Slot), zh D A0 σ72 GF 740 s.heap H locs → lv_has ls 5 [] → j72 σ72 = some (r0, σr) → W p l e (zR (10 * (dd + 1) + 250) (400 * (dd + 1) + 9000)) s m [.ref (A0 + 46), .int x1, .int x2].toArray below meth c H locs 0 0 (MQ below (zQi D A0 r0 σr GF 740) [.ref (A0 + 46), .int x1, .int x2].toArray s 0 0 (zA A0)) (F0 m 72 ls []) := by
            intro  σ72 H locs ls Z hl h
            rw [ej72] at h
            try dsimp only at h
            refine lv_iconst (v := 0) hx hb dX5_unit_72 (by decide) ?_
            obtain ⟨hq1, hq2⟩ := zpq h
            exact ze_z F Z hr hlocks (by decide) hq1 hq2 dX5_unit_73
          refine zb_ifeq (tgt := 72) hx hb dX5_unit_56 (by decide) h (fun h => ?_) (fun h => ?_)
          · exact hj72 σ53 _ _ _ Z (lv_sub hl [] rfl) h
          · refine lv_aload_n hx hb dX5_unit_59 rfl (lv_at hl 0 rfl) ?_
            refine lv_bipush (v := 41) hx hb dX5_unit_60 (by decide) ?_
            obtain ⟨r62, σ62, hc62, h⟩ := bd2_x h
            refine zc_i Z (zr_U (x := ({ cls := "UnsoldPrice$RuleReader", name := "take", desc := "(I)Z" } : Jvm.MethodName)) (owner := "UnsoldPrice$Reader") (C := "UnsoldPrice$RuleReader") F Z (a := 46) (As := [.int 41]) (zcX3_take_46 l D A0 41 σ53 r62 σ62 hc62) zBX3_take zq747 zq748 zq749 zq732 rfl (by decide) zs_46 zC5.1 rfl ⟨⟨rfl, rfl⟩, by dsimp only [zR, RD]; omega, by dsimp only [zR, RD]; omega⟩ hl.1 rfl (Nat.le_of_ble_eq_true rfl) dX5_unit_62 ⟨Nat.le_of_ble_eq_true rfl, Nat.le_of_ble_eq_true rfl⟩) (fun _ _ Z => ?_)
            refine zb_ifeq (tgt := 72) hx hb dX5_unit_65 (by decide) h (fun h => ?_) (fun h => ?_)
            · exact hj72 σ62 _ _ _ Z (lv_sub hl [] rfl) h
            · refine lv_iconst (v := 1) hx hb dX5_unit_68 (by decide) ?_
              refine lv_goto (tgt := 73) hx hb dX5_unit_69 (by decide) ?_
              obtain ⟨hq1, hq2⟩ := zpq h
              exact ze_z F Z hr hlocks (by decide) hq1 hq2 dX5_unit_73
      · refine lv_aload_n hx hb dX5_unit_27 rfl (lv_at hl 0 rfl) ?_
        obtain ⟨r28, σ28, hc28, h⟩ := bd2_x h
        refine zc_i Z (zr_U (x := ({ cls := "UnsoldPrice$RuleReader", name := "wrong", desc := "()Z" } : Jvm.MethodName)) (owner := "UnsoldPrice$Reader") (C := "UnsoldPrice$RuleReader") F Z (a := 46) (As := []) (zcX3_wrong_46 l D A0 σ21 r28 σ28 hc28) zBX3_wrong zq772 zq773 zq774 zq642 rfl (by decide) zs_46 zC5.1 rfl ⟨⟨rfl, rfl⟩, by dsimp only [zR, RD]; omega, by dsimp only [zR, RD]; omega⟩ hl.1 rfl (Nat.le_of_ble_eq_true rfl) dX5_unit_28 ⟨Nat.le_of_ble_eq_true rfl, Nat.le_of_ble_eq_true rfl⟩) (fun _ _ Z => ?_)
        obtain ⟨hz31, h⟩ := ck_x h
        obtain ⟨hq1, hq2⟩ := zpq h
        exact ze_z F Z hr hlocks hz31 hq1 hq2 dX5_unit_31
    refine zb_iceq (tgt := 21) hx hb dX5_unit_12 (by decide) h (fun h => ?_) (fun h => ?_)
    · exact hj21 σ1 _ _ _ Z (lv_sub hl [1, 2, 0] rfl) h
    · refine lv_iload_n hx hb dX5_unit_15 rfl (lv_at hl 0 rfl) ?_
      refine lv_bipush (v := 40) hx hb dX5_unit_16 (by decide) ?_
      refine zb_icne (tgt := 101) hx hb dX5_unit_18 (by decide) h (fun h => ?_) (fun h => ?_)
      · exact hj101 σ1 _ _ _ Z (lv_sub hl [1, 2, 3] rfl) h
      · exact hj21 σ1 _ _ _ Z (lv_sub hl [1, 2, 0] rfl) h
set_option maxHeartbeats 4000000 in
set_option maxRecDepth 100000 in
theorem zcX4_setHole (l : Launch) (D : va_G) (A0 : Nat) (q0 : Nat) (x1 : Int32) (hq0 : zIsR q0) (σ : Mm) (r0 : Int32) (σr : Mm) (h : zfX4_setHole q0 x1 σ = some (r0, σr)) : Met l yX4_setHole (zws yX4_setHole cX4_setHole 2 (some .boolean)) (zR 0 0) (zPc D A0 σ GF 740 [.ref (A0 + q0), .int x1]) (zQi D A0 r0 σr GF 740) 0 0 (zA A0) := by
  unfold zfX4_setHole at h
  refine zmet (own := RX4) (by decide) rfl (Nat.le_of_ble_eq_true rfl) ?_
  intro p e s m below meth c F hr hlocks _ Z ls hl
  have hl : lv_has ls 2 [(0, .ref (A0 + q0)), (1, .int x1)] := hl
  have hx := F.1.1
  have hb := F.1.2.1
  have hown := F.1.2.2.2.1
  have hts := F.1.2.2.2.2
  refine lv_iload_n hx hb dX4_setHole_0 rfl (lv_at hl 1 rfl) ?_
  obtain ⟨j13, ej13, h⟩ := lt_x h
  have hj13 : ∀ (σ13 : Mm) (H : Heap) (locs : List Loc) (ls : Array Slot), zh D A0 σ13 GF 740 s.heap H locs → lv_has ls 2 [] → j13 σ13 = some (r0, σr) → W p l e (zR 0 0) s m [.ref (A0 + q0), .int x1].toArray below meth c H locs 0 0 (MQ below (zQi D A0 r0 σr GF 740) [.ref (A0 + q0), .int x1].toArray s 0 0 (zA A0)) (F0 m 13 ls []) := by
    intro  σ13 H locs ls Z hl h
    rw [ej13] at h
    try dsimp only at h
    refine lv_iconst (v := 0) hx hb dX4_setHole_13 (by decide) ?_
    obtain ⟨hq1, hq2⟩ := zpq h
    exact ze_z F Z hr hlocks (by decide) hq1 hq2 dX4_setHole_14
  refine zb_iflt (tgt := 13) hx hb dX4_setHole_1 (by decide) h (fun h => ?_) (fun h => ?_)
  · exact hj13 σ _ _ _ Z (lv_sub hl [] rfl) h
  · refine lv_iload_n hx hb dX4_setHole_4 rfl (lv_at hl 1 rfl) ?_
    refine lv_aload_n hx hb dX4_setHole_5 rfl (lv_at hl 0 rfl) ?_
    refine zw_getR F Z zC4 (a := q0) (k := 0) (zltR_0 hq0) (zsR_0 hq0) (by decide) rfl (zgR_0 hq0) zq201 (Or.inl rfl) dX4_setHole_6 ?_
    refine zw_alen F Z (ty := 0) (v := 320) (zltR_1 hq0) (zsR_1 hq0) rfl rfl dX4_setHole_9 ?_
    refine zb_iclt (tgt := 15) hx hb dX4_setHole_10 (by decide) h (fun h => ?_) (fun h => ?_)
    · refine lv_aload_n hx hb dX4_setHole_15 rfl (lv_at hl 0 rfl) ?_
      refine zw_getR F Z zC4 (a := q0) (k := 0) (zltR_0 hq0) (zsR_0 hq0) (by decide) rfl (zgR_0 hq0) zq201 (Or.inl rfl) dX4_setHole_16 ?_
      refine lv_iload_n hx hb dX4_setHole_19 rfl (lv_at hl 1 rfl) ?_
      refine lv_aload_n hx hb dX4_setHole_20 rfl (lv_at hl 0 rfl) ?_
      refine zw_getI F Z zC4 (a := q0) (k := 2) (zltR_0 hq0) (zsR_0 hq0) (by decide) rfl zq203 (Or.inl rfl) dX4_setHole_21 ?_
      obtain ⟨hk24, h⟩ := ck_x h
      refine zw_iast F Z (zltR_1 hq0) (zsR_1 hq0) hk24 dX4_setHole_24 (fun σ24 _ _ eσ24 Z => ?_)
      replace h := lt_w h eσ24
      refine lv_iconst (v := 1) hx hb dX4_setHole_25 (by decide) ?_
      obtain ⟨hq1, hq2⟩ := zpq h
      exact ze_z F Z hr hlocks (by decide) hq1 hq2 dX4_setHole_26
    · exact hj13 σ _ _ _ Z (lv_sub hl [] rfl) h
set_option maxHeartbeats 4000000 in
set_option maxRecDepth 100000 in
theorem zcX5_clause (l : Launch) (D : va_G) (A0 : Nat) (σ : Mm) (r0 : Int32) (σr : Mm) (h : zfX5_clause σ = some (r0, σr)) : Met l yX5_clause (zws yX5_clause cX5_clause 4 (some .boolean)) (zR 395 14826) (zPc D A0 σ GF 740 [.ref (A0 + 46)]) (zQi D A0 r0 σr GF 740) 0 0 (zA A0) := by
  unfold zfX5_clause at h
  refine zmet (own := RX5) (by decide) rfl (Nat.le_of_ble_eq_true rfl) ?_
  intro p e s m below meth c F hr hlocks _ Z ls hl
  have hl : lv_has ls 4 [(0, .ref (A0 + 46))] := hl
  have hx := F.1.1
  have hb := F.1.2.1
  have hown := F.1.2.2.2.1
  have hts := F.1.2.2.2.2
  refine lv_aload_n hx hb dX5_clause_0 rfl (lv_at hl 0 rfl) ?_
  refine lv_bipush (v := 121) hx hb dX5_clause_1 (by decide) ?_
  obtain ⟨r3, σ3, hc3, h⟩ := bd2_x h
  refine zc_i Z (zr_U (x := ({ cls := "UnsoldPrice$RuleReader", name := "take", desc := "(I)Z" } : Jvm.MethodName)) (owner := "UnsoldPrice$Reader") (C := "UnsoldPrice$RuleReader") F Z (a := 46) (As := [.int 121]) (zcX3_take_46 l D A0 121 σ r3 σ3 hc3) zBX3_take zq747 zq748 zq749 zq732 rfl (by decide) zs_46 zC5.1 rfl ⟨⟨rfl, rfl⟩, Nat.le_of_ble_eq_true rfl, Nat.le_of_ble_eq_true rfl⟩ hl.1 rfl (Nat.le_of_ble_eq_true rfl) dX5_clause_3 ⟨Nat.le_of_ble_eq_true rfl, Nat.le_of_ble_eq_true rfl⟩) (fun _ _ Z => ?_)
  obtain ⟨j18, ej18, h⟩ := lt_x h
  have hj18 : ∀ (σ18 : Mm) (H : Heap) (locs : List Loc) (ls : Array Slot), zh D A0 σ18 GF 740 s.heap H locs → lv_has ls 4 [] → j18 σ18 = some (r0, σr) → W p l e (zR 395 14826) s m [.ref (A0 + 46)].toArray below meth c H locs 0 0 (MQ below (zQi D A0 r0 σr GF 740) [.ref (A0 + 46)].toArray s 0 0 (zA A0)) (F0 m 18 ls []) := by
    intro  σ18 H locs ls Z hl h
    rw [ej18] at h
    try dsimp only at h
    refine lv_iconst (v := 0) hx hb dX5_clause_18 (by decide) ?_
    obtain ⟨hq1, hq2⟩ := zpq h
    exact ze_z F Z hr hlocks (by decide) hq1 hq2 dX5_clause_19
  refine zb_ifeq (tgt := 18) hx hb dX5_clause_6 (by decide) h (fun h => ?_) (fun h => ?_)
  · exact hj18 σ3 _ _ _ Z (lv_sub hl [] rfl) h
  · refine lv_aload_n hx hb dX5_clause_9 rfl (lv_at hl 0 rfl) ?_
    refine lv_bipush (v := 58) hx hb dX5_clause_10 (by decide) ?_
    obtain ⟨r12, σ12, hc12, h⟩ := bd2_x h
    refine zc_i Z (zr_U (x := ({ cls := "UnsoldPrice$RuleReader", name := "take", desc := "(I)Z" } : Jvm.MethodName)) (owner := "UnsoldPrice$Reader") (C := "UnsoldPrice$RuleReader") F Z (a := 46) (As := [.int 58]) (zcX3_take_46 l D A0 58 σ3 r12 σ12 hc12) zBX3_take zq747 zq748 zq749 zq732 rfl (by decide) zs_46 zC5.1 rfl ⟨⟨rfl, rfl⟩, Nat.le_of_ble_eq_true rfl, Nat.le_of_ble_eq_true rfl⟩ hl.1 rfl (Nat.le_of_ble_eq_true rfl) dX5_clause_12 ⟨Nat.le_of_ble_eq_true rfl, Nat.le_of_ble_eq_true rfl⟩) (fun _ _ Z => ?_)
    refine zb_ifne (tgt := 20) hx hb dX5_clause_15 (by decide) h (fun h => ?_) (fun h => ?_)
    · refine lv_aload_n hx hb dX5_clause_20 rfl (lv_at hl 0 rfl) ?_
      obtain ⟨r21, σ21, hc21, h⟩ := bd2_x h
      refine zc_i Z (zr_U (x := ({ cls := "UnsoldPrice$RuleReader", name := "sign", desc := "()I" } : Jvm.MethodName)) (owner := "UnsoldPrice$Reader") (C := "UnsoldPrice$RuleReader") F Z (a := 46) (As := []) (zcX3_sign_46 l D A0 σ12 r21 σ21 hc21) zBX3_sign zq750 zq751 zq752 zq629 rfl (by decide) zs_46 zC5.1 rfl ⟨⟨rfl, rfl⟩, Nat.le_of_ble_eq_true rfl, Nat.le_of_ble_eq_true rfl⟩ hl.1 rfl (Nat.le_of_ble_eq_true rfl) dX5_clause_21 ⟨Nat.le_of_ble_eq_true rfl, Nat.le_of_ble_eq_true rfl⟩) (fun _ _ Z => ?_)
      refine lv_istore_n (lv' := [(1, .int r21), (0, .ref (A0 + 46))]) hx hb dX5_clause_24 rfl hl (by decide) rfl (fun ls hl => ?_)
      refine lv_iload_n hx hb dX5_clause_25 rfl (lv_at hl 0 rfl) ?_
      refine lv_bipush (v := 33) hx hb dX5_clause_26 (by decide) ?_
      obtain ⟨j42, ej42, h⟩ := lt_x h
      have hj42 : ∀ (y0_42 : Int32) (σ42 : Mm) (H : Heap) (locs : List Loc) (ls : Array Slot), zh D A0 σ42 GF 740 s.heap H locs → lv_has ls 4 [(0, .ref (A0 + 46))] → j42 y0_42 σ42 = some (r0, σr) → W p l e (zR 395 14826) s m [.ref (A0 + 46)].toArray below meth c H locs 0 0 (MQ below (zQi D A0 r0 σr GF 740) [.ref (A0 + 46)].toArray s 0 0 (zA A0)) (F0 m 42 ls [.int y0_42]) := by
        intro y0_42 σ42 H locs ls Z hl h
        rw [ej42] at h
        try dsimp only at h
        refine lv_istore_n (lv' := [(2, .int y0_42), (0, .ref (A0 + 46))]) hx hb dX5_clause_42 rfl hl (by decide) rfl (fun ls hl => ?_)
        refine lv_iload_n hx hb dX5_clause_43 rfl (lv_at hl 0 rfl) ?_
        obtain ⟨j57, ej57, h⟩ := lt_x h
        have hj57 : ∀ (σ57 : Mm) (H : Heap) (locs : List Loc) (ls : Array Slot), zh D A0 σ57 GF 740 s.heap H locs → lv_has ls 4 [(0, .ref (A0 + 46)), (2, .int y0_42)] → j57 σ57 = some (r0, σr) → W p l e (zR 395 14826) s m [.ref (A0 + 46)].toArray below meth c H locs 0 0 (MQ below (zQi D A0 r0 σr GF 740) [.ref (A0 + 46)].toArray s 0 0 (zA A0)) (F0 m 57 ls []) := by
          intro  σ57 H locs ls Z hl h
          rw [ej57] at h
          try dsimp only at h
          refine lv_iload_n hx hb dX5_clause_57 rfl (lv_at hl 1 rfl) ?_
          obtain ⟨j79, ej79, h⟩ := lt_x h
          have hj79 : ∀ (σ79 : Mm) (H : Heap) (locs : List Loc) (ls : Array Slot), zh D A0 σ79 GF 740 s.heap H locs → lv_has ls 4 [(0, .ref (A0 + 46)), (2, .int y0_42)] → j79 σ79 = some (r0, σr) → W p l e (zR 395 14826) s m [.ref (A0 + 46)].toArray below meth c H locs 0 0 (MQ below (zQi D A0 r0 σr GF 740) [.ref (A0 + 46)].toArray s 0 0 (zA A0)) (F0 m 79 ls []) := by
            intro  σ79 H locs ls Z hl h
            rw [ej79] at h
            try dsimp only at h
            refine lv_aload_n hx hb dX5_clause_79 rfl (lv_at hl 0 rfl) ?_
            refine lv_iconst (v := 0) hx hb dX5_clause_80 (by decide) ?_
            refine lv_iload_n hx hb dX5_clause_81 rfl (lv_at hl 1 rfl) ?_
            obtain ⟨r82, σ82, hc82, h⟩ := bd2_x h
            refine zc_i Z (zr_V F Z (a := 46) (As := [.int 0, .int y0_42]) (zcX5_condition l D A0 (zfX5_unit RD) RD (zcX5_unit l D A0 RD) 0 y0_42 σ79 r82 σ82 hc82) zBX5_condition zq781 (by decide) zs_46 zC5.1 rfl ⟨⟨rfl, rfl⟩, Nat.le_of_ble_eq_true rfl, Nat.le_of_ble_eq_true rfl⟩ hl.1 rfl (Nat.le_of_ble_eq_true rfl) dX5_clause_82 ⟨Nat.le_of_ble_eq_true rfl, Nat.le_of_ble_eq_true rfl⟩) (fun _ _ Z => ?_)
            obtain ⟨j97, ej97, h⟩ := lt_x h
            have hj97 : ∀ (σ97 : Mm) (H : Heap) (locs : List Loc) (ls : Array Slot), zh D A0 σ97 GF 740 s.heap H locs → lv_has ls 4 [] → j97 σ97 = some (r0, σr) → W p l e (zR 395 14826) s m [.ref (A0 + 46)].toArray below meth c H locs 0 0 (MQ below (zQi D A0 r0 σr GF 740) [.ref (A0 + 46)].toArray s 0 0 (zA A0)) (F0 m 97 ls []) := by
              intro  σ97 H locs ls Z hl h
              rw [ej97] at h
              try dsimp only at h
              refine lv_iconst (v := 0) hx hb dX5_clause_97 (by decide) ?_
              obtain ⟨hq1, hq2⟩ := zpq h
              exact ze_z F Z hr hlocks (by decide) hq1 hq2 dX5_clause_98
            refine zb_ifeq (tgt := 97) hx hb dX5_clause_85 (by decide) h (fun h => ?_) (fun h => ?_)
            · exact hj97 σ82 _ _ _ Z (lv_sub hl [] rfl) h
            · refine lv_aload_n hx hb dX5_clause_88 rfl (lv_at hl 0 rfl) ?_
              refine lv_bipush (v := 63) hx hb dX5_clause_89 (by decide) ?_
              obtain ⟨r91, σ91, hc91, h⟩ := bd2_x h
              refine zc_i Z (zr_U (x := ({ cls := "UnsoldPrice$RuleReader", name := "take", desc := "(I)Z" } : Jvm.MethodName)) (owner := "UnsoldPrice$Reader") (C := "UnsoldPrice$RuleReader") F Z (a := 46) (As := [.int 63]) (zcX3_take_46 l D A0 63 σ82 r91 σ91 hc91) zBX3_take zq747 zq748 zq749 zq732 rfl (by decide) zs_46 zC5.1 rfl ⟨⟨rfl, rfl⟩, Nat.le_of_ble_eq_true rfl, Nat.le_of_ble_eq_true rfl⟩ hl.1 rfl (Nat.le_of_ble_eq_true rfl) dX5_clause_91 ⟨Nat.le_of_ble_eq_true rfl, Nat.le_of_ble_eq_true rfl⟩) (fun _ _ Z => ?_)
              refine zb_ifne (tgt := 99) hx hb dX5_clause_94 (by decide) h (fun h => ?_) (fun h => ?_)
              · refine lv_aload_n hx hb dX5_clause_99 rfl (lv_at hl 0 rfl) ?_
                refine lv_sipush (v := 20063) hx hb dX5_clause_100 (by decide) ?_
                obtain ⟨r103, σ103, hc103, h⟩ := bd2_x h
                refine zc_i Z (zr_V F Z (a := 46) (As := [.int 20063]) (zcX5_put l D A0 20063 σ91 r103 σ103 hc103) zBX5_put zq764 (by decide) zs_46 zC5.1 rfl ⟨⟨rfl, rfl⟩, Nat.le_of_ble_eq_true rfl, Nat.le_of_ble_eq_true rfl⟩ hl.1 rfl (Nat.le_of_ble_eq_true rfl) dX5_clause_103 ⟨Nat.le_of_ble_eq_true rfl, Nat.le_of_ble_eq_true rfl⟩) (fun _ _ Z => ?_)
                refine lv_pop hx hb dX5_clause_106 rfl ?_
                refine lv_aload_n hx hb dX5_clause_107 rfl (lv_at hl 0 rfl) ?_
                obtain ⟨hk108, h⟩ := ck_x h
                refine zw_getM F Z zC5 (a := 46) (k := 3) (by decide) zs_46 (by decide) rfl (zR_nz hk108) zq382 (Or.inl rfl) dX5_clause_108 ?_
                refine lv_ifnonnull (tgt := 118) hx hb dX5_clause_111 (by decide) ?_
                refine lv_aload_n hx hb dX5_clause_118 rfl (lv_at hl 0 rfl) ?_
                obtain ⟨hk119, h⟩ := ck_x h
                refine zw_getM F Z zC5 (a := 46) (k := 3) (by decide) zs_46 (by decide) rfl (zR_nz hk119) zq382 (Or.inl rfl) dX5_clause_119 ?_
                refine zw_getI F Z zC4 (a := (ix (σ103 46 3))) (k := 2) (zltR_0 hk119) (zsR_0 hk119) (by decide) rfl zq204 (Or.inl rfl) dX5_clause_122 ?_
                refine lv_topi (fun x3_125 ex3_125 => ?_)
                replace h := lt_w h ex3_125
                refine lv_istore_n (lv' := [(3, .int x3_125), (0, .ref (A0 + 46)), (2, .int y0_42)]) hx hb dX5_clause_125 rfl hl (by decide) rfl (fun ls hl => ?_)
                refine lv_aload_n hx hb dX5_clause_126 rfl (lv_at hl 1 rfl) ?_
                refine lv_iconst (v := 0) hx hb dX5_clause_127 (by decide) ?_
                obtain ⟨r128, σ128, hc128, h⟩ := bd2_x h
                refine zc_i Z (zr_V F Z (a := 46) (As := [.int 0]) (zcX5_put l D A0 0 σ103 r128 σ128 hc128) zBX5_put zq764 (by decide) zs_46 zC5.1 rfl ⟨⟨rfl, rfl⟩, Nat.le_of_ble_eq_true rfl, Nat.le_of_ble_eq_true rfl⟩ hl.1 rfl (Nat.le_of_ble_eq_true rfl) dX5_clause_128 ⟨Nat.le_of_ble_eq_true rfl, Nat.le_of_ble_eq_true rfl⟩) (fun _ _ Z => ?_)
                refine lv_pop hx hb dX5_clause_131 rfl ?_
                refine lv_aload_n hx hb dX5_clause_132 rfl (lv_at hl 1 rfl) ?_
                refine lv_iconst (v := 0) hx hb dX5_clause_133 (by decide) ?_
                obtain ⟨r134, σ134, hc134, h⟩ := bd2_x h
                refine zc_i Z (zr_V F Z (a := 46) (As := [.int 0]) (zcX5_sum l D A0 RD 0 σ128 r134 σ134 hc134) zBX5_sum zq753 (by decide) zs_46 zC5.1 rfl ⟨⟨rfl, rfl⟩, Nat.le_of_ble_eq_true rfl, Nat.le_of_ble_eq_true rfl⟩ hl.1 rfl (Nat.le_of_ble_eq_true rfl) dX5_clause_134 ⟨Nat.le_of_ble_eq_true rfl, Nat.le_of_ble_eq_true rfl⟩) (fun _ _ Z => ?_)
                refine zb_ifne (tgt := 142) hx hb dX5_clause_137 (by decide) h (fun h => ?_) (fun h => ?_)
                · refine lv_aload_n hx hb dX5_clause_142 rfl (lv_at hl 1 rfl) ?_
                  refine lv_sipush (v := 20059) hx hb dX5_clause_143 (by decide) ?_
                  obtain ⟨r146, σ146, hc146, h⟩ := bd2_x h
                  refine zc_i Z (zr_V F Z (a := 46) (As := [.int 20059]) (zcX5_put l D A0 20059 σ134 r146 σ146 hc146) zBX5_put zq764 (by decide) zs_46 zC5.1 rfl ⟨⟨rfl, rfl⟩, Nat.le_of_ble_eq_true rfl, Nat.le_of_ble_eq_true rfl⟩ hl.1 rfl (Nat.le_of_ble_eq_true rfl) dX5_clause_146 ⟨Nat.le_of_ble_eq_true rfl, Nat.le_of_ble_eq_true rfl⟩) (fun _ _ Z => ?_)
                  refine lv_pop hx hb dX5_clause_149 rfl ?_
                  refine lv_aload_n hx hb dX5_clause_150 rfl (lv_at hl 1 rfl) ?_
                  obtain ⟨hk151, h⟩ := ck_x h
                  refine zw_getM F Z zC5 (a := 46) (k := 3) (by decide) zs_46 (by decide) rfl (zR_nz hk151) zq382 (Or.inl rfl) dX5_clause_151 ?_
                  refine lv_ifnull hx hb dX5_clause_154 ?_
                  refine lv_aload_n hx hb dX5_clause_157 rfl (lv_at hl 1 rfl) ?_
                  obtain ⟨hk158, h⟩ := ck_x h
                  refine zw_getM F Z zC5 (a := 46) (k := 3) (by decide) zs_46 (by decide) rfl (zR_nz hk158) zq382 (Or.inl rfl) dX5_clause_158 ?_
                  refine lv_iload_n hx hb dX5_clause_161 rfl (lv_at hl 0 rfl) ?_
                  obtain ⟨r162, σ162, hc162, h⟩ := bd2_x h
                  refine zc_i Z (zr_V F Z (a := (ix (σ146 46 3))) (As := [.int x3_125]) (zcX4_setHole l D A0 (ix (σ146 46 3)) x3_125 hk158 σ146 r162 σ162 hc162) zBX4_setHole zq789 (zltR_0 hk158) (zsR_0 hk158) zC4.1 rfl ⟨⟨rfl, rfl⟩, Nat.le_of_ble_eq_true rfl, Nat.le_of_ble_eq_true rfl⟩ hl.1 rfl (Nat.le_of_ble_eq_true rfl) dX5_clause_162 ⟨Nat.le_of_ble_eq_true rfl, Nat.le_of_ble_eq_true rfl⟩) (fun _ _ Z => ?_)
                  refine zb_ifeq (tgt := 172) hx hb dX5_clause_165 (by decide) h (fun h => ?_) (fun h => ?_)
                  · refine lv_iconst (v := 0) hx hb dX5_clause_172 (by decide) ?_
                    obtain ⟨hq1, hq2⟩ := zpq h
                    exact ze_z F Z hr hlocks (by decide) hq1 hq2 dX5_clause_173
                  · refine lv_iconst (v := 1) hx hb dX5_clause_168 (by decide) ?_
                    refine lv_goto (tgt := 173) hx hb dX5_clause_169 (by decide) ?_
                    obtain ⟨hq1, hq2⟩ := zpq h
                    exact ze_z F Z hr hlocks (by decide) hq1 hq2 dX5_clause_173
                · refine lv_iconst (v := 0) hx hb dX5_clause_140 (by decide) ?_
                  obtain ⟨hq1, hq2⟩ := zpq h
                  exact ze_z F Z hr hlocks (by decide) hq1 hq2 dX5_clause_141
              · exact hj97 σ91 _ _ _ Z (lv_sub hl [] rfl) h
          refine zb_ifeq (tgt := 79) hx hb dX5_clause_58 (by decide) h (fun h => ?_) (fun h => ?_)
          · exact hj79 σ57 _ _ _ Z (lv_sub hl [0, 1] rfl) h
          · refine lv_aload_n hx hb dX5_clause_61 rfl (lv_at hl 0 rfl) ?_
            obtain ⟨r62, σ62, hc62, h⟩ := bd2_x h
            refine zc_i Z (zr_U (x := ({ cls := "UnsoldPrice$RuleReader", name := "sign", desc := "()I" } : Jvm.MethodName)) (owner := "UnsoldPrice$Reader") (C := "UnsoldPrice$RuleReader") F Z (a := 46) (As := []) (zcX3_sign_46 l D A0 σ57 r62 σ62 hc62) zBX3_sign zq750 zq751 zq752 zq629 rfl (by decide) zs_46 zC5.1 rfl ⟨⟨rfl, rfl⟩, Nat.le_of_ble_eq_true rfl, Nat.le_of_ble_eq_true rfl⟩ hl.1 rfl (Nat.le_of_ble_eq_true rfl) dX5_clause_62 ⟨Nat.le_of_ble_eq_true rfl, Nat.le_of_ble_eq_true rfl⟩) (fun _ _ Z => ?_)
            refine zc_i Z (zr_S F Z (As := [.int r62]) (zcX5_isComparison l D A0 r62 σ62 (zfX5_isComparison r62) rfl) zBX5_isComparison zq778 rfl ⟨⟨rfl, rfl⟩, Nat.le_of_ble_eq_true rfl, Nat.le_of_ble_eq_true rfl⟩ hl.1 rfl (Nat.le_of_ble_eq_true rfl) dX5_clause_65 ⟨Nat.le_of_ble_eq_true rfl, Nat.le_of_ble_eq_true rfl⟩) (fun _ _ Z => ?_)
            refine zb_ifne (tgt := 79) hx hb dX5_clause_68 (by decide) h (fun h => ?_) (fun h => ?_)
            · exact hj79 σ62 _ _ _ Z (lv_sub hl [0, 1] rfl) h
            · refine lv_aload_n hx hb dX5_clause_71 rfl (lv_at hl 0 rfl) ?_
              refine lv_sipush (v := 20059) hx hb dX5_clause_72 (by decide) ?_
              obtain ⟨r75, σ75, hc75, h⟩ := bd2_x h
              refine zc_i Z (zr_V F Z (a := 46) (As := [.int 20059]) (zcX5_put l D A0 20059 σ62 r75 σ75 hc75) zBX5_put zq764 (by decide) zs_46 zC5.1 rfl ⟨⟨rfl, rfl⟩, Nat.le_of_ble_eq_true rfl, Nat.le_of_ble_eq_true rfl⟩ hl.1 rfl (Nat.le_of_ble_eq_true rfl) dX5_clause_75 ⟨Nat.le_of_ble_eq_true rfl, Nat.le_of_ble_eq_true rfl⟩) (fun _ _ Z => ?_)
              obtain ⟨hz78, h⟩ := ck_x h
              obtain ⟨hq1, hq2⟩ := zpq h
              exact ze_z F Z hr hlocks hz78 hq1 hq2 dX5_clause_78
        refine zb_ifeq (tgt := 57) hx hb dX5_clause_44 (by decide) h (fun h => ?_) (fun h => ?_)
        · exact hj57 σ42 _ _ _ Z (lv_sub hl [1, 0] rfl) h
        · refine lv_aload_n hx hb dX5_clause_47 rfl (lv_at hl 1 rfl) ?_
          refine lv_iconst (v := 0) hx hb dX5_clause_48 (by decide) ?_
          obtain ⟨r49, σ49, hc49, h⟩ := bd2_x h
          refine zc_i Z (zr_V F Z (a := 46) (As := [.int 0]) (zcX5_sum l D A0 RD 0 σ42 r49 σ49 hc49) zBX5_sum zq753 (by decide) zs_46 zC5.1 rfl ⟨⟨rfl, rfl⟩, Nat.le_of_ble_eq_true rfl, Nat.le_of_ble_eq_true rfl⟩ hl.1 rfl (Nat.le_of_ble_eq_true rfl) dX5_clause_49 ⟨Nat.le_of_ble_eq_true rfl, Nat.le_of_ble_eq_true rfl⟩) (fun _ _ Z => ?_)
          refine zb_ifne (tgt := 57) hx hb dX5_clause_52 (by decide) h (fun h => ?_) (fun h => ?_)
          · exact hj57 σ49 _ _ _ Z (lv_sub hl [1, 0] rfl) h
          · refine lv_iconst (v := 0) hx hb dX5_clause_55 (by decide) ?_
            obtain ⟨hq1, hq2⟩ := zpq h
            exact ze_z F Z hr hlocks (by decide) hq1 hq2 dX5_clause_56
      obtain ⟨j41, ej41, h⟩ := lt_x h
      have hj41 : ∀ (σ41 : Mm) (H : Heap) (locs : List Loc) (ls : Array Slot), zh D A0 σ41 GF 740 s.heap H locs → lv_has ls 4 [(0, .ref (A0 + 46))] → j41 σ41 = some (r0, σr) → W p l e (zR 395 14826) s m [.ref (A0 + 46)].toArray below meth c H locs 0 0 (MQ below (zQi D A0 r0 σr GF 740) [.ref (A0 + 46)].toArray s 0 0 (zA A0)) (F0 m 41 ls []) := by
        intro  σ41 H locs ls Z hl h
        rw [ej41] at h
        try dsimp only at h
        refine lv_iconst (v := 0) hx hb dX5_clause_41 (by decide) ?_
        exact hj42 0 σ41 _ _ _ Z (lv_sub hl [0] rfl) h
      refine zb_iceq (tgt := 41) hx hb dX5_clause_28 (by decide) h (fun h => ?_) (fun h => ?_)
      · exact hj41 σ21 _ _ _ Z (lv_sub hl [1] rfl) h
      · refine lv_iload_n hx hb dX5_clause_31 rfl (lv_at hl 0 rfl) ?_
        refine lv_bipush (v := 40) hx hb dX5_clause_32 (by decide) ?_
        refine zb_iceq (tgt := 41) hx hb dX5_clause_34 (by decide) h (fun h => ?_) (fun h => ?_)
        · exact hj41 σ21 _ _ _ Z (lv_sub hl [1] rfl) h
        · refine lv_iconst (v := 1) hx hb dX5_clause_37 (by decide) ?_
          refine lv_goto (tgt := 42) hx hb dX5_clause_38 (by decide) ?_
          exact hj42 1 σ21 _ _ _ Z (lv_sub hl [1] rfl) h
    · exact hj18 σ12 _ _ _ Z (lv_sub hl [] rfl) h
set_option maxHeartbeats 4000000 in
set_option maxRecDepth 100000 in
theorem zcX5_read (l : Launch) (D : va_G) (A0 : Nat) (q1 : Nat) (hq1 : zIsR q1) (σ : Mm) (r0 : Int32) (σr : Mm) (h : zfX5_read q1 σ = some (r0, σr)) : Met l yX5_read (zws yX5_read cX5_read 3 (some .int)) (zR 396 14849) (zPc D A0 σ GF 740 [.ref (A0 + 46), .ref (A0 + q1)]) (zQi D A0 r0 σr GF 740) 0 0 (zA A0) := by
  unfold zfX5_read at h
  refine zmet (own := RX5) (by decide) rfl (Nat.le_of_ble_eq_true rfl) ?_
  intro p e s m below meth c F hr hlocks _ Z ls hl
  have hl : lv_has ls 3 [(0, .ref (A0 + 46)), (1, .ref (A0 + q1))] := hl
  have hx := F.1.1
  have hb := F.1.2.1
  have hown := F.1.2.2.2.1
  have hts := F.1.2.2.2.2
  refine lv_aload_n hx hb dX5_read_0 rfl (lv_at hl 0 rfl) ?_
  obtain ⟨σ1, hc1, h⟩ := bd_x h
  refine zc_v Z (zr_U (x := ({ cls := "UnsoldPrice$RuleReader", name := "beginReading", desc := "()V" } : Jvm.MethodName)) (owner := "UnsoldPrice$Reader") (C := "UnsoldPrice$RuleReader") F Z (a := 46) (As := []) (zcX3_beginReading_46 l D A0 σ σ1 hc1) zBX3_beginReading zq740 zq741 zq742 zq613 rfl (by decide) zs_46 zC5.1 rfl ⟨⟨rfl, rfl⟩, Nat.le_of_ble_eq_true rfl, Nat.le_of_ble_eq_true rfl⟩ hl.1 rfl (Nat.le_of_ble_eq_true rfl) dX5_read_1 ⟨Nat.le_of_ble_eq_true rfl, Nat.le_of_ble_eq_true rfl⟩) (fun _ _ Z => ?_)
  refine lv_aload_n hx hb dX5_read_4 rfl (lv_at hl 0 rfl) ?_
  refine lv_aload_n hx hb dX5_read_5 rfl (lv_at hl 1 rfl) ?_
  refine zw_putM F Z zC5 (a := 46) (k := 3) (by decide) zs_46 (by decide) rfl (by decide) (zR_pos hq1).1 (zR_pos hq1).2 zq382 (Or.inl rfl) rfl (fun _ => ⟨rfl, rfl⟩) dX5_read_6 (fun σ6 _ _ eσ6 Z => ?_)
  replace h := lt_w h eσ6
  refine lv_aload_n hx hb dX5_read_9 rfl (lv_at hl 1 rfl) ?_
  refine lv_iconst (v := 0) hx hb dX5_read_10 (by decide) ?_
  refine zw_putI F Z zC4 (a := q1) (k := 2) (zltR_0 hq1) (zsR_0 hq1) (by decide) rfl (by decide) zq204 (Or.inl rfl) rfl ⟨rfl, rfl⟩ dX5_read_11 (fun σ11 _ _ eσ11 Z => ?_)
  replace h := lt_w h eσ11
  refine lv_iconst (v := 0) hx hb dX5_read_14 (by decide) ?_
  refine lv_istore_n (lv' := [(2, .int 0), (0, .ref (A0 + 46)), (1, .ref (A0 + q1))]) hx hb dX5_read_15 rfl hl (by decide) rfl (fun ls hl => ?_)
  obtain ⟨k30, ek30, h⟩ := lt_x h
  have hk30 : ∀ (σ30 : Mm) (H : Heap) (locs : List Loc) (ls : Array Slot), zh D A0 σ30 GF 740 s.heap H locs → lv_has ls 3 [(0, .ref (A0 + 46))] → k30 σ30 = some (r0, σr) → W p l e (zR 396 14849) s m [.ref (A0 + 46), .ref (A0 + q1)].toArray below meth c H locs 0 0 (MQ below (zQi D A0 r0 σr GF 740) [.ref (A0 + 46), .ref (A0 + q1)].toArray s 0 0 (zA A0)) (F0 m 30 ls []) := by
    intro  σ30 H locs ls Z hl h
    rw [ek30] at h
    try dsimp only at h
    refine lv_aload_n hx hb dX5_read_30 rfl (lv_at hl 0 rfl) ?_
    refine zw_getI F Z zC5 (a := 46) (k := 2) (by decide) zs_46 (by decide) rfl zq362 (Or.inr zq363) dX5_read_31 ?_
    obtain ⟨hq1, hq2⟩ := zpq h
    exact ze_i F Z hr hlocks hq1 hq2 dX5_read_34
  obtain ⟨k43, ek43, h⟩ := lt_x h
  have hk43 : ∀ (σ43 : Mm) (H : Heap) (locs : List Loc) (ls : Array Slot), zh D A0 σ43 GF 740 s.heap H locs → lv_has ls 3 [] → k43 σ43 = some (r0, σr) → W p l e (zR 396 14849) s m [.ref (A0 + 46), .ref (A0 + q1)].toArray below meth c H locs 0 0 (MQ below (zQi D A0 r0 σr GF 740) [.ref (A0 + 46), .ref (A0 + q1)].toArray s 0 0 (zA A0)) (F0 m 43 ls []) := by
    intro  σ43 H locs ls Z hl h
    rw [ek43] at h
    try dsimp only at h
    refine lv_iconst (v := (-1)) hx hb dX5_read_43 (by decide) ?_
    obtain ⟨hq1, hq2⟩ := zpq h
    exact ze_i F Z hr hlocks hq1 hq2 dX5_read_44
  obtain ⟨k54, ek54, h⟩ := lt_x h
  have hk54 : ∀ (σ54 : Mm) (H : Heap) (locs : List Loc) (ls : Array Slot), zh D A0 σ54 GF 740 s.heap H locs → lv_has ls 3 [(0, .ref (A0 + 46))] → k54 σ54 = some (r0, σr) → W p l e (zR 396 14849) s m [.ref (A0 + 46), .ref (A0 + q1)].toArray below meth c H locs 0 0 (MQ below (zQi D A0 r0 σr GF 740) [.ref (A0 + 46), .ref (A0 + q1)].toArray s 0 0 (zA A0)) (F0 m 54 ls []) := by
    intro  σ54 H locs ls Z hl h
    rw [ek54] at h
    try dsimp only at h
    refine lv_aload_n hx hb dX5_read_54 rfl (lv_at hl 0 rfl) ?_
    refine zw_getI F Z zC5 (a := 46) (k := 2) (by decide) zs_46 (by decide) rfl zq362 (Or.inr zq363) dX5_read_55 ?_
    obtain ⟨hq1, hq2⟩ := zpq h
    exact ze_i F Z hr hlocks hq1 hq2 dX5_read_58
  obtain ⟨k65, ek65, h⟩ := lt_x h
  have hk65 : ∀ (σ65 : Mm) (H : Heap) (locs : List Loc) (ls : Array Slot), zh D A0 σ65 GF 740 s.heap H locs → lv_has ls 3 [(0, .ref (A0 + 46))] → k65 σ65 = some (r0, σr) → W p l e (zR 396 14849) s m [.ref (A0 + 46), .ref (A0 + q1)].toArray below meth c H locs 0 0 (MQ below (zQi D A0 r0 σr GF 740) [.ref (A0 + 46), .ref (A0 + q1)].toArray s 0 0 (zA A0)) (F0 m 65 ls []) := by
    intro  σ65 H locs ls Z hl h
    rw [ek65] at h
    try dsimp only at h
    refine lv_aload_n hx hb dX5_read_65 rfl (lv_at hl 0 rfl) ?_
    refine zw_getI F Z zC5 (a := 46) (k := 1) (by decide) zs_46 (by decide) rfl zq357 (Or.inr zq358) dX5_read_66 ?_
    obtain ⟨hq1, hq2⟩ := zpq h
    exact ze_i F Z hr hlocks hq1 hq2 dX5_read_69
  have hL16 : ∀ (fu16 : Nat) (x2_16 : Int32) (σ16 : Mm) (H : Heap) (locs : List Loc) (ls : Array Slot), zh D A0 σ16 GF 740 s.heap H locs → lv_has ls 3 [(0, .ref (A0 + 46)), (2, .int x2_16)] → zfX5_read_L16 k65 k30 k43 k54 fu16 x2_16 σ16 = some (r0, σr) → W p l e (zR 396 14849) s m [.ref (A0 + 46), .ref (A0 + q1)].toArray below meth c H locs 0 0 (MQ below (zQi D A0 r0 σr GF 740) [.ref (A0 + 46), .ref (A0 + q1)].toArray s 0 0 (zA A0)) (F0 m 16 ls []) := by
    intro fu16
    induction fu16 with
    | zero => intro x2_16 σ16 H locs ls Z hl h; rw [zfX5_read_L16] at h; cases h
    | succ fu16 ih16 =>
      intro x2_16 σ16 H locs ls Z hl h
      rw [zfX5_read_L16] at h
      refine lv_iload_n hx hb dX5_read_16 rfl (lv_at hl 1 rfl) ?_
      refine lv_sipush (v := 160) hx hb dX5_read_17 (by decide) ?_
      refine zb_icgt (tgt := 65) hx hb dX5_read_20 (by decide) h (fun h => ?_) (fun h => ?_)
      · exact hk65 σ16 _ _ _ Z (lv_sub hl [0] rfl) h
      · refine lv_aload_n hx hb dX5_read_23 rfl (lv_at hl 0 rfl) ?_
        obtain ⟨r24, σ24, hc24, h⟩ := bd2_x h
        refine zc_i Z (zr_V F Z (a := 46) (As := []) (zcX5_clause l D A0 σ16 r24 σ24 hc24) zBX5_clause zq743 (by decide) zs_46 zC5.1 rfl ⟨⟨rfl, rfl⟩, Nat.le_of_ble_eq_true rfl, Nat.le_of_ble_eq_true rfl⟩ hl.1 rfl (Nat.le_of_ble_eq_true rfl) dX5_read_24 ⟨Nat.le_of_ble_eq_true rfl, Nat.le_of_ble_eq_true rfl⟩) (fun _ _ Z => ?_)
        refine zb_ifne (tgt := 35) hx hb dX5_read_27 (by decide) h (fun h => ?_) (fun h => ?_)
        · refine lv_aload_n hx hb dX5_read_35 rfl (lv_at hl 0 rfl) ?_
          obtain ⟨r36, σ36, hc36, h⟩ := bd2_x h
          refine zc_i Z (zr_U (x := ({ cls := "UnsoldPrice$RuleReader", name := "sign", desc := "()I" } : Jvm.MethodName)) (owner := "UnsoldPrice$Reader") (C := "UnsoldPrice$RuleReader") F Z (a := 46) (As := []) (zcX3_sign_46 l D A0 σ24 r36 σ36 hc36) zBX3_sign zq750 zq751 zq752 zq629 rfl (by decide) zs_46 zC5.1 rfl ⟨⟨rfl, rfl⟩, Nat.le_of_ble_eq_true rfl, Nat.le_of_ble_eq_true rfl⟩ hl.1 rfl (Nat.le_of_ble_eq_true rfl) dX5_read_36 ⟨Nat.le_of_ble_eq_true rfl, Nat.le_of_ble_eq_true rfl⟩) (fun _ _ Z => ?_)
          refine lv_iconst (v := (-1)) hx hb dX5_read_39 (by decide) ?_
          refine zb_icne (tgt := 45) hx hb dX5_read_40 (by decide) h (fun h => ?_) (fun h => ?_)
          · refine lv_aload_n hx hb dX5_read_45 rfl (lv_at hl 0 rfl) ?_
            refine lv_bipush (v := 59) hx hb dX5_read_46 (by decide) ?_
            obtain ⟨r48, σ48, hc48, h⟩ := bd2_x h
            refine zc_i Z (zr_U (x := ({ cls := "UnsoldPrice$RuleReader", name := "take", desc := "(I)Z" } : Jvm.MethodName)) (owner := "UnsoldPrice$Reader") (C := "UnsoldPrice$RuleReader") F Z (a := 46) (As := [.int 59]) (zcX3_take_46 l D A0 59 σ36 r48 σ48 hc48) zBX3_take zq747 zq748 zq749 zq732 rfl (by decide) zs_46 zC5.1 rfl ⟨⟨rfl, rfl⟩, Nat.le_of_ble_eq_true rfl, Nat.le_of_ble_eq_true rfl⟩ hl.1 rfl (Nat.le_of_ble_eq_true rfl) dX5_read_48 ⟨Nat.le_of_ble_eq_true rfl, Nat.le_of_ble_eq_true rfl⟩) (fun _ _ Z => ?_)
            refine zb_ifne (tgt := 59) hx hb dX5_read_51 (by decide) h (fun h => ?_) (fun h => ?_)
            · obtain ⟨x2_59, ex2_59⟩ : ∃ y : Int32, y = x2_16 + 1 := ⟨_, rfl⟩
              replace h := lt_w h ex2_59
              refine lv_iinc (v := x2_59) (lv' := [(2, .int x2_59), (0, .ref (A0 + 46))]) hx hb dX5_read_59 hl (k := 1) rfl (by rw [ex2_59]; rfl) (by decide) rfl (fun ls hl => ?_)
              refine lv_goto (tgt := 16) hx hb dX5_read_62 (by decide) ?_
              exact ih16 x2_59 σ48 _ _ _ Z (lv_sub hl [1, 0] rfl) h
            · exact hk54 σ48 _ _ _ Z (lv_sub hl [0] rfl) h
          · exact hk43 σ36 _ _ _ Z (lv_sub hl [] rfl) h
        · exact hk30 σ24 _ _ _ Z (lv_sub hl [0] rfl) h
  exact hL16 NF 0 σ11 _ _ _ Z (lv_sub hl [1, 0] rfl) h
set_option maxHeartbeats 4000000 in
set_option maxRecDepth 100000 in
theorem zcX11_fault (l : Launch) (D : va_G) (A0 : Nat) (x1 : Int32) (σ : Mm) (r0 : Int32) (σr : Mm) (h : zfX11_fault x1 σ = some (r0, σr)) : Met l yX11_fault (zws yX11_fault cX11_fault 2 (some .int)) (zR 397 14871) (zPc D A0 σ GF 740 [.ref (A0 + 0), .int x1]) (zQi D A0 r0 σr GF 740) 0 0 (zA A0) := by
  unfold zfX11_fault at h
  refine zmet (own := RX11) (by decide) rfl (Nat.le_of_ble_eq_true rfl) ?_
  intro p e s m below meth c F hr hlocks _ Z ls hl
  have hl : lv_has ls 2 [(0, .ref (A0 + 0)), (1, .int x1)] := hl
  have hx := F.1.1
  have hb := F.1.2.1
  have hown := F.1.2.2.2.1
  have hts := F.1.2.2.2.2
  refine lv_iload_n hx hb dX11_fault_0 rfl (lv_at hl 1 rfl) ?_
  refine zsp h (fun hs1_0 h => ?_) (fun hs1_0 h => ?_)
  · refine lv_lookup (tgt := 28) (off := 27) hx hb dX11_fault_1 (by decide) (by first | (rw [hs1_0]; done) | (rw [hs1_0]; decide)) (by decide) ?_
    refine lv_aload_n hx hb dX11_fault_28 rfl (lv_at hl 0 rfl) ?_
    refine zw_getR F Z zC11 (a := 0) (k := 1) (by decide) zs_0 (by decide) rfl zg_0_1 zq535 (Or.inl rfl) dX11_fault_29 ?_
    refine lv_aload_n hx hb dX11_fault_32 rfl (lv_at hl 0 rfl) ?_
    refine zw_getR F Z zC11 (a := 0) (k := 4) (by decide) zs_0 (by decide) rfl zg_0_4 zq538 (Or.inl rfl) dX11_fault_33 ?_
    obtain ⟨r36, σ36, hc36, h⟩ := bd2_x h
    refine zc_i Z (zr_V F Z (a := 43) (As := [.ref (A0 + 47)]) (zcX1_read l D A0 47 (Or.inr rfl) σ r36 σ36 hc36) zBX1_read zq605 (by decide) zs_43 zC1.1 rfl ⟨⟨rfl, rfl⟩, Nat.le_of_ble_eq_true rfl, Nat.le_of_ble_eq_true rfl⟩ hl.1 rfl (Nat.le_of_ble_eq_true rfl) dX11_fault_36 ⟨Nat.le_of_ble_eq_true rfl, Nat.le_of_ble_eq_true rfl⟩) (fun _ _ Z => ?_)
    obtain ⟨hq1, hq2⟩ := zpq h
    exact ze_i F Z hr hlocks hq1 hq2 dX11_fault_39
  · refine zsp h (fun hs1_1 h => ?_) (fun hs1_1 h => ?_)
    · refine lv_lookup (tgt := 40) (off := 39) hx hb dX11_fault_1 (by decide) (by first | (rw [hs1_1]; done) | (rw [hs1_1]; decide)) (by decide) ?_
      refine lv_aload_n hx hb dX11_fault_40 rfl (lv_at hl 0 rfl) ?_
      refine zw_getR F Z zC11 (a := 0) (k := 2) (by decide) zs_0 (by decide) rfl zg_0_2 zq536 (Or.inl rfl) dX11_fault_41 ?_
      refine lv_aload_n hx hb dX11_fault_44 rfl (lv_at hl 0 rfl) ?_
      refine zw_getR F Z zC11 (a := 0) (k := 6) (by decide) zs_0 (by decide) rfl zg_0_6 zq540 (Or.inl rfl) dX11_fault_45 ?_
      obtain ⟨r48, σ48, hc48, h⟩ := bd2_x h
      refine zc_i Z (zr_V F Z (a := 46) (As := [.ref (A0 + 55)]) (zcX5_read l D A0 55 (by decide) σ r48 σ48 hc48) zBX5_read zq736 (by decide) zs_46 zC5.1 rfl ⟨⟨rfl, rfl⟩, Nat.le_of_ble_eq_true rfl, Nat.le_of_ble_eq_true rfl⟩ hl.1 rfl (Nat.le_of_ble_eq_true rfl) dX11_fault_48 ⟨Nat.le_of_ble_eq_true rfl, Nat.le_of_ble_eq_true rfl⟩) (fun _ _ Z => ?_)
      obtain ⟨hq1, hq2⟩ := zpq h
      exact ze_i F Z hr hlocks hq1 hq2 dX11_fault_51
    · refine lv_lookup (tgt := 52) (off := 51) hx hb dX11_fault_1 (by decide) ((lv_osw hs1_0 (a := 0) (by decide)).trans ((lv_osw hs1_1 (a := 1) (by decide)).trans (rfl))) (by decide) ?_
      refine lv_bipush (v := (-2)) hx hb dX11_fault_52 (by decide) ?_
      obtain ⟨hq1, hq2⟩ := zpq h
      exact ze_i F Z hr hlocks hq1 hq2 dX11_fault_54
set_option maxHeartbeats 4000000 in
set_option maxRecDepth 100000 in
theorem zcX8_clear (l : Launch) (D : va_G) (A0 : Nat) (q0 : Nat) (x1 : Int32) (hq0 : zIsS q0) (σ : Mm) (σr : Mm) (h : zfX8_clear q0 x1 σ = some σr) : Met l yX8_clear (zws yX8_clear cX8_clear 3 none) (zR 0 0) (zPc D A0 σ GF 740 [.ref (A0 + q0), .int x1]) (zQv D A0 σr GF 740) 0 0 (zA A0) := by
  unfold zfX8_clear at h
  refine zmet (own := RX8) (by decide) rfl (Nat.le_of_ble_eq_true rfl) ?_
  intro p e s m below meth c F hr hlocks _ Z ls hl
  have hl : lv_has ls 3 [(0, .ref (A0 + q0)), (1, .int x1)] := hl
  have hx := F.1.1
  have hb := F.1.2.1
  have hown := F.1.2.2.2.1
  have hts := F.1.2.2.2.2
  refine lv_aload_n hx hb dX8_clear_0 rfl (lv_at hl 0 rfl) ?_
  refine lv_iload_n hx hb dX8_clear_1 rfl (lv_at hl 1 rfl) ?_
  refine zw_putI F Z zC8 (a := q0) (k := 0) (zltS_0 hq0) (zsS_0 hq0) (by decide) rfl (by decide) zq218 (Or.inl rfl) rfl ⟨rfl, rfl⟩ dX8_clear_2 (fun σ2 _ _ eσ2 Z => ?_)
  replace h := lt_w h eσ2
  refine lv_aload_n hx hb dX8_clear_5 rfl (lv_at hl 0 rfl) ?_
  refine lv_iconst (v := 0) hx hb dX8_clear_6 (by decide) ?_
  refine zw_putI F Z zC8 (a := q0) (k := 1) (zltS_0 hq0) (zsS_0 hq0) (by decide) rfl (by decide) zq223 (Or.inl rfl) rfl ⟨rfl, rfl⟩ dX8_clear_7 (fun σ7 _ _ eσ7 Z => ?_)
  replace h := lt_w h eσ7
  refine lv_aload_n hx hb dX8_clear_10 rfl (lv_at hl 0 rfl) ?_
  refine lv_iconst (v := 0) hx hb dX8_clear_11 (by decide) ?_
  refine zw_putI F Z zC8 (a := q0) (k := 2) (zltS_0 hq0) (zsS_0 hq0) (by decide) rfl (by decide) zq226 (Or.inl rfl) rfl ⟨rfl, rfl⟩ dX8_clear_12 (fun σ12 _ _ eσ12 Z => ?_)
  replace h := lt_w h eσ12
  refine lv_aload_n hx hb dX8_clear_15 rfl (lv_at hl 0 rfl) ?_
  refine lv_iconst (v := 0) hx hb dX8_clear_16 (by decide) ?_
  refine zw_putI F Z zC8 (a := q0) (k := 3) (zltS_0 hq0) (zsS_0 hq0) (by decide) rfl (by decide) zq229 (Or.inl rfl) rfl ⟨rfl, rfl⟩ dX8_clear_17 (fun σ17 _ _ eσ17 Z => ?_)
  replace h := lt_w h eσ17
  refine lv_iconst (v := 0) hx hb dX8_clear_20 (by decide) ?_
  refine lv_istore_n (lv' := [(2, .int 0), (0, .ref (A0 + q0)), (1, .int x1)]) hx hb dX8_clear_21 rfl hl (by decide) rfl (fun ls hl => ?_)
  obtain ⟨k76, ek76, h⟩ := lt_x h
  have hk76 : ∀ (σ76 : Mm) (H : Heap) (locs : List Loc) (ls : Array Slot), zh D A0 σ76 GF 740 s.heap H locs → lv_has ls 3 [(0, .ref (A0 + q0))] → k76 σ76 = some σr → W p l e (zR 0 0) s m [.ref (A0 + q0), .int x1].toArray below meth c H locs 0 0 (MQ below (zQv D A0 σr GF 740) [.ref (A0 + q0), .int x1].toArray s 0 0 (zA A0)) (F0 m 76 ls []) := by
    intro  σ76 H locs ls Z hl h
    rw [ek76] at h
    try dsimp only at h
    refine lv_iconst (v := 0) hx hb dX8_clear_76 (by decide) ?_
    refine lv_istore_n (lv' := [(2, .int 0), (0, .ref (A0 + q0))]) hx hb dX8_clear_77 rfl hl (by decide) rfl (fun ls hl => ?_)
    obtain ⟨k100, ek100, h⟩ := lt_x h
    have hk100 : ∀ (σ100 : Mm) (H : Heap) (locs : List Loc) (ls : Array Slot), zh D A0 σ100 GF 740 s.heap H locs → lv_has ls 3 [(0, .ref (A0 + q0))] → k100 σ100 = some σr → W p l e (zR 0 0) s m [.ref (A0 + q0), .int x1].toArray below meth c H locs 0 0 (MQ below (zQv D A0 σr GF 740) [.ref (A0 + q0), .int x1].toArray s 0 0 (zA A0)) (F0 m 100 ls []) := by
      intro  σ100 H locs ls Z hl h
      rw [ek100] at h
      try dsimp only at h
      refine lv_iconst (v := 0) hx hb dX8_clear_100 (by decide) ?_
      refine lv_istore_n (lv' := [(2, .int 0), (0, .ref (A0 + q0))]) hx hb dX8_clear_101 rfl hl (by decide) rfl (fun ls hl => ?_)
      obtain ⟨k128, ek128, h⟩ := lt_x h
      have hk128 : ∀ (σ128 : Mm) (H : Heap) (locs : List Loc) (ls : Array Slot), zh D A0 σ128 GF 740 s.heap H locs → lv_has ls 3 [] → k128 σ128 = some σr → W p l e (zR 0 0) s m [.ref (A0 + q0), .int x1].toArray below meth c H locs 0 0 (MQ below (zQv D A0 σr GF 740) [.ref (A0 + q0), .int x1].toArray s 0 0 (zA A0)) (F0 m 128 ls []) := by
        intro  σ128 H locs ls Z hl h
        rw [ek128] at h
        try dsimp only at h
        have hq := Option.some.inj h
        exact ze_v F Z hr hlocks hq dX8_clear_128
      have hL102 : ∀ (fu102 : Nat) (x2_102 : Int32) (σ102 : Mm) (H : Heap) (locs : List Loc) (ls : Array Slot), zh D A0 σ102 GF 740 s.heap H locs → lv_has ls 3 [(0, .ref (A0 + q0)), (2, .int x2_102)] → zfX8_clear_L102 k128 q0 fu102 x2_102 σ102 = some σr → W p l e (zR 0 0) s m [.ref (A0 + q0), .int x1].toArray below meth c H locs 0 0 (MQ below (zQv D A0 σr GF 740) [.ref (A0 + q0), .int x1].toArray s 0 0 (zA A0)) (F0 m 102 ls []) := by
        intro fu102
        induction fu102 with
        | zero => intro x2_102 σ102 H locs ls Z hl h; rw [zfX8_clear_L102] at h; cases h
        | succ fu102 ih102 =>
          intro x2_102 σ102 H locs ls Z hl h
          rw [zfX8_clear_L102] at h
          refine lv_iload_n hx hb dX8_clear_102 rfl (lv_at hl 1 rfl) ?_
          refine lv_bipush (v := 6) hx hb dX8_clear_103 (by decide) ?_
          refine zb_icge (tgt := 128) hx hb dX8_clear_105 (by decide) h (fun h => ?_) (fun h => ?_)
          · exact hk128 σ102 _ _ _ Z (lv_sub hl [] rfl) h
          · refine lv_aload_n hx hb dX8_clear_108 rfl (lv_at hl 0 rfl) ?_
            refine zw_getR F Z zC8 (a := q0) (k := 12) (zltS_0 hq0) (zsS_0 hq0) (by decide) rfl (zgS_12 hq0) zq260 (Or.inl rfl) dX8_clear_109 ?_
            refine lv_iload_n hx hb dX8_clear_112 rfl (lv_at hl 1 rfl) ?_
            refine lv_iconst (v := 0) hx hb dX8_clear_113 (by decide) ?_
            obtain ⟨hk114, h⟩ := ck_x h
            refine zw_iast F Z (zltS_8 hq0) (zsS_8 hq0) hk114 dX8_clear_114 (fun σ114 _ _ eσ114 Z => ?_)
            replace h := lt_w h eσ114
            refine lv_aload_n hx hb dX8_clear_115 rfl (lv_at hl 0 rfl) ?_
            refine zw_getR F Z zC8 (a := q0) (k := 13) (zltS_0 hq0) (zsS_0 hq0) (by decide) rfl (zgS_13 hq0) zq263 (Or.inl rfl) dX8_clear_116 ?_
            refine lv_iload_n hx hb dX8_clear_119 rfl (lv_at hl 1 rfl) ?_
            refine lv_iconst (v := 0) hx hb dX8_clear_120 (by decide) ?_
            obtain ⟨hk121, h⟩ := ck_x h
            refine zw_iast F Z (zltS_9 hq0) (zsS_9 hq0) hk121 dX8_clear_121 (fun σ121 _ _ eσ121 Z => ?_)
            replace h := lt_w h eσ121
            obtain ⟨x2_122, ex2_122⟩ : ∃ y : Int32, y = x2_102 + 1 := ⟨_, rfl⟩
            replace h := lt_w h ex2_122
            refine lv_iinc (v := x2_122) (lv' := [(2, .int x2_122), (0, .ref (A0 + q0))]) hx hb dX8_clear_122 hl (k := 1) rfl (by rw [ex2_122]; rfl) (by decide) rfl (fun ls hl => ?_)
            refine lv_goto (tgt := 102) hx hb dX8_clear_125 (by decide) ?_
            exact ih102 x2_122 σ121 _ _ _ Z (lv_sub hl [1, 0] rfl) h
      exact hL102 NF 0 σ100 _ _ _ Z (lv_sub hl [1, 0] rfl) h
    have hL78 : ∀ (fu78 : Nat) (x2_78 : Int32) (σ78 : Mm) (H : Heap) (locs : List Loc) (ls : Array Slot), zh D A0 σ78 GF 740 s.heap H locs → lv_has ls 3 [(0, .ref (A0 + q0)), (2, .int x2_78)] → zfX8_clear_L78 k100 q0 fu78 x2_78 σ78 = some σr → W p l e (zR 0 0) s m [.ref (A0 + q0), .int x1].toArray below meth c H locs 0 0 (MQ below (zQv D A0 σr GF 740) [.ref (A0 + q0), .int x1].toArray s 0 0 (zA A0)) (F0 m 78 ls []) := by
      intro fu78
      induction fu78 with
      | zero => intro x2_78 σ78 H locs ls Z hl h; rw [zfX8_clear_L78] at h; cases h
      | succ fu78 ih78 =>
        intro x2_78 σ78 H locs ls Z hl h
        rw [zfX8_clear_L78] at h
        refine lv_iload_n hx hb dX8_clear_78 rfl (lv_at hl 1 rfl) ?_
        refine lv_aload_n hx hb dX8_clear_79 rfl (lv_at hl 0 rfl) ?_
        refine zw_getR F Z zC8 (a := q0) (k := 11) (zltS_0 hq0) (zsS_0 hq0) (by decide) rfl (zgS_11 hq0) zq258 (Or.inl rfl) dX8_clear_80 ?_
        refine zw_alen F Z (ty := 0) (v := 24) (zltS_7 hq0) (zsS_7 hq0) rfl rfl dX8_clear_83 ?_
        refine zb_icge (tgt := 100) hx hb dX8_clear_84 (by decide) h (fun h => ?_) (fun h => ?_)
        · exact hk100 σ78 _ _ _ Z (lv_sub hl [0] rfl) h
        · refine lv_aload_n hx hb dX8_clear_87 rfl (lv_at hl 0 rfl) ?_
          refine zw_getR F Z zC8 (a := q0) (k := 11) (zltS_0 hq0) (zsS_0 hq0) (by decide) rfl (zgS_11 hq0) zq258 (Or.inl rfl) dX8_clear_88 ?_
          refine lv_iload_n hx hb dX8_clear_91 rfl (lv_at hl 1 rfl) ?_
          refine lv_iconst (v := 0) hx hb dX8_clear_92 (by decide) ?_
          obtain ⟨hk93, h⟩ := ck_x h
          refine zw_iast F Z (zltS_7 hq0) (zsS_7 hq0) hk93 dX8_clear_93 (fun σ93 _ _ eσ93 Z => ?_)
          replace h := lt_w h eσ93
          obtain ⟨x2_94, ex2_94⟩ : ∃ y : Int32, y = x2_78 + 1 := ⟨_, rfl⟩
          replace h := lt_w h ex2_94
          refine lv_iinc (v := x2_94) (lv' := [(2, .int x2_94), (0, .ref (A0 + q0))]) hx hb dX8_clear_94 hl (k := 1) rfl (by rw [ex2_94]; rfl) (by decide) rfl (fun ls hl => ?_)
          refine lv_goto (tgt := 78) hx hb dX8_clear_97 (by decide) ?_
          exact ih78 x2_94 σ93 _ _ _ Z (lv_sub hl [1, 0] rfl) h
    exact hL78 NF 0 σ76 _ _ _ Z (lv_sub hl [1, 0] rfl) h
  have hL22 : ∀ (fu22 : Nat) (x2_22 : Int32) (σ22 : Mm) (H : Heap) (locs : List Loc) (ls : Array Slot), zh D A0 σ22 GF 740 s.heap H locs → lv_has ls 3 [(0, .ref (A0 + q0)), (2, .int x2_22)] → zfX8_clear_L22 k76 q0 fu22 x2_22 σ22 = some σr → W p l e (zR 0 0) s m [.ref (A0 + q0), .int x1].toArray below meth c H locs 0 0 (MQ below (zQv D A0 σr GF 740) [.ref (A0 + q0), .int x1].toArray s 0 0 (zA A0)) (F0 m 22 ls []) := by
    intro fu22
    induction fu22 with
    | zero => intro x2_22 σ22 H locs ls Z hl h; rw [zfX8_clear_L22] at h; cases h
    | succ fu22 ih22 =>
      intro x2_22 σ22 H locs ls Z hl h
      rw [zfX8_clear_L22] at h
      refine lv_iload_n hx hb dX8_clear_22 rfl (lv_at hl 1 rfl) ?_
      refine lv_bipush (v := 6) hx hb dX8_clear_23 (by decide) ?_
      refine zb_icge (tgt := 76) hx hb dX8_clear_25 (by decide) h (fun h => ?_) (fun h => ?_)
      · exact hk76 σ22 _ _ _ Z (lv_sub hl [0] rfl) h
      · refine lv_aload_n hx hb dX8_clear_28 rfl (lv_at hl 0 rfl) ?_
        refine zw_getR F Z zC8 (a := q0) (k := 5) (zltS_0 hq0) (zsS_0 hq0) (by decide) rfl (zgS_5 hq0) zq233 (Or.inl rfl) dX8_clear_29 ?_
        refine lv_iload_n hx hb dX8_clear_32 rfl (lv_at hl 1 rfl) ?_
        refine lv_iconst (v := 0) hx hb dX8_clear_33 (by decide) ?_
        obtain ⟨hk34, h⟩ := ck_x h
        refine zw_iast F Z (zltS_1 hq0) (zsS_1 hq0) hk34 dX8_clear_34 (fun σ34 _ _ eσ34 Z => ?_)
        replace h := lt_w h eσ34
        refine lv_aload_n hx hb dX8_clear_35 rfl (lv_at hl 0 rfl) ?_
        refine zw_getR F Z zC8 (a := q0) (k := 6) (zltS_0 hq0) (zsS_0 hq0) (by decide) rfl (zgS_6 hq0) zq237 (Or.inl rfl) dX8_clear_36 ?_
        refine lv_iload_n hx hb dX8_clear_39 rfl (lv_at hl 1 rfl) ?_
        refine lv_iconst (v := 0) hx hb dX8_clear_40 (by decide) ?_
        obtain ⟨hk41, h⟩ := ck_x h
        refine zw_iast F Z (zltS_2 hq0) (zsS_2 hq0) hk41 dX8_clear_41 (fun σ41 _ _ eσ41 Z => ?_)
        replace h := lt_w h eσ41
        refine lv_aload_n hx hb dX8_clear_42 rfl (lv_at hl 0 rfl) ?_
        refine zw_getR F Z zC8 (a := q0) (k := 7) (zltS_0 hq0) (zsS_0 hq0) (by decide) rfl (zgS_7 hq0) zq241 (Or.inl rfl) dX8_clear_43 ?_
        refine lv_iload_n hx hb dX8_clear_46 rfl (lv_at hl 1 rfl) ?_
        refine lv_iconst (v := 0) hx hb dX8_clear_47 (by decide) ?_
        obtain ⟨hk48, h⟩ := ck_x h
        refine zw_iast F Z (zltS_3 hq0) (zsS_3 hq0) hk48 dX8_clear_48 (fun σ48 _ _ eσ48 Z => ?_)
        replace h := lt_w h eσ48
        refine lv_aload_n hx hb dX8_clear_49 rfl (lv_at hl 0 rfl) ?_
        refine zw_getR F Z zC8 (a := q0) (k := 8) (zltS_0 hq0) (zsS_0 hq0) (by decide) rfl (zgS_8 hq0) zq246 (Or.inl rfl) dX8_clear_50 ?_
        refine lv_iload_n hx hb dX8_clear_53 rfl (lv_at hl 1 rfl) ?_
        refine lv_iconst (v := (-1)) hx hb dX8_clear_54 (by decide) ?_
        obtain ⟨hk55, h⟩ := ck_x h
        refine zw_iast F Z (zltS_4 hq0) (zsS_4 hq0) hk55 dX8_clear_55 (fun σ55 _ _ eσ55 Z => ?_)
        replace h := lt_w h eσ55
        refine lv_aload_n hx hb dX8_clear_56 rfl (lv_at hl 0 rfl) ?_
        refine zw_getR F Z zC8 (a := q0) (k := 9) (zltS_0 hq0) (zsS_0 hq0) (by decide) rfl (zgS_9 hq0) zq251 (Or.inl rfl) dX8_clear_57 ?_
        refine lv_iload_n hx hb dX8_clear_60 rfl (lv_at hl 1 rfl) ?_
        refine lv_iconst (v := 0) hx hb dX8_clear_61 (by decide) ?_
        obtain ⟨hk62, h⟩ := ck_x h
        refine zw_iast F Z (zltS_5 hq0) (zsS_5 hq0) hk62 dX8_clear_62 (fun σ62 _ _ eσ62 Z => ?_)
        replace h := lt_w h eσ62
        refine lv_aload_n hx hb dX8_clear_63 rfl (lv_at hl 0 rfl) ?_
        refine zw_getR F Z zC8 (a := q0) (k := 10) (zltS_0 hq0) (zsS_0 hq0) (by decide) rfl (zgS_10 hq0) zq255 (Or.inl rfl) dX8_clear_64 ?_
        refine lv_iload_n hx hb dX8_clear_67 rfl (lv_at hl 1 rfl) ?_
        refine lv_iconst (v := (-1)) hx hb dX8_clear_68 (by decide) ?_
        obtain ⟨hk69, h⟩ := ck_x h
        refine zw_iast F Z (zltS_6 hq0) (zsS_6 hq0) hk69 dX8_clear_69 (fun σ69 _ _ eσ69 Z => ?_)
        replace h := lt_w h eσ69
        obtain ⟨x2_70, ex2_70⟩ : ∃ y : Int32, y = x2_22 + 1 := ⟨_, rfl⟩
        replace h := lt_w h ex2_70
        refine lv_iinc (v := x2_70) (lv' := [(2, .int x2_70), (0, .ref (A0 + q0))]) hx hb dX8_clear_70 hl (k := 1) rfl (by rw [ex2_70]; rfl) (by decide) rfl (fun ls hl => ?_)
        refine lv_goto (tgt := 22) hx hb dX8_clear_73 (by decide) ?_
        exact ih22 x2_70 σ69 _ _ _ Z (lv_sub hl [1, 0] rfl) h
  exact hL22 NF 0 σ17 _ _ _ Z (lv_sub hl [1, 0] rfl) h
set_option maxHeartbeats 4000000 in
set_option maxRecDepth 100000 in
theorem zcX11_openMarket (l : Launch) (D : va_G) (A0 : Nat) (σ : Mm) (r0 : Int32) (σr : Mm) (h : zfX11_openMarket σ = some (r0, σr)) : Met l yX11_openMarket (zws yX11_openMarket cX11_openMarket 1 (some .int)) (zR 10 291) (zPc D A0 σ GF 740 [.ref (A0 + 0)]) (zQi D A0 r0 σr GF 740) 0 0 (zA A0) := by
  unfold zfX11_openMarket at h
  refine zmet (own := RX11) (by decide) rfl (Nat.le_of_ble_eq_true rfl) ?_
  intro p e s m below meth c F hr hlocks _ Z ls hl
  have hl : lv_has ls 1 [(0, .ref (A0 + 0))] := hl
  have hx := F.1.1
  have hb := F.1.2.1
  have hown := F.1.2.2.2.1
  have hts := F.1.2.2.2.2
  refine lv_aload_n hx hb dX11_openMarket_0 rfl (lv_at hl 0 rfl) ?_
  refine zw_getR F Z zC11 (a := 0) (k := 1) (by decide) zs_0 (by decide) rfl zg_0_1 zq535 (Or.inl rfl) dX11_openMarket_1 ?_
  refine lv_aload_n hx hb dX11_openMarket_4 rfl (lv_at hl 0 rfl) ?_
  refine zw_getR F Z zC11 (a := 0) (k := 3) (by decide) zs_0 (by decide) rfl zg_0_3 zq537 (Or.inl rfl) dX11_openMarket_5 ?_
  obtain ⟨r8, σ8, hc8, h⟩ := bd2_x h
  refine zc_i Z (zr_V F Z (a := 43) (As := [.ref (A0 + 3)]) (zcX1_read l D A0 3 (Or.inl rfl) σ r8 σ8 hc8) zBX1_read zq605 (by decide) zs_43 zC1.1 rfl ⟨⟨rfl, rfl⟩, Nat.le_of_ble_eq_true rfl, Nat.le_of_ble_eq_true rfl⟩ hl.1 rfl (Nat.le_of_ble_eq_true rfl) dX11_openMarket_8 ⟨Nat.le_of_ble_eq_true rfl, Nat.le_of_ble_eq_true rfl⟩) (fun _ _ Z => ?_)
  refine lv_pop hx hb dX11_openMarket_11 rfl ?_
  refine lv_aload_n hx hb dX11_openMarket_12 rfl (lv_at hl 0 rfl) ?_
  refine zw_getR F Z zC11 (a := 0) (k := 7) (by decide) zs_0 (by decide) rfl zg_0_7 zq541 (Or.inl rfl) dX11_openMarket_13 ?_
  refine lv_aload_n hx hb dX11_openMarket_16 rfl (lv_at hl 0 rfl) ?_
  refine zw_getR F Z zC11 (a := 0) (k := 3) (by decide) zs_0 (by decide) rfl zg_0_3 zq537 (Or.inl rfl) dX11_openMarket_17 ?_
  refine zw_getI F Z zC0 (a := 3) (k := 4) (by decide) zs_3 (by decide) rfl zq147 (Or.inl rfl) dX11_openMarket_20 ?_
  obtain ⟨σ23, hc23, h⟩ := bd_x h
  refine zc_v Z (zr_V F Z (a := 27) (As := [.int (σ8 3 4)]) (zcX8_clear l D A0 27 (σ8 3 4) (Or.inl rfl) σ8 σ23 hc23) zBX8_clear zq802 (by decide) zs_27 zC8.1 rfl ⟨⟨rfl, rfl⟩, Nat.le_of_ble_eq_true rfl, Nat.le_of_ble_eq_true rfl⟩ hl.1 rfl (Nat.le_of_ble_eq_true rfl) dX11_openMarket_23 ⟨Nat.le_of_ble_eq_true rfl, Nat.le_of_ble_eq_true rfl⟩) (fun _ _ Z => ?_)
  refine lv_aload_n hx hb dX11_openMarket_26 rfl (lv_at hl 0 rfl) ?_
  refine zw_getR F Z zC11 (a := 0) (k := 12) (by decide) zs_0 (by decide) rfl zg_0_12 zq546 (Or.inl rfl) dX11_openMarket_27 ?_
  refine lv_iconst (v := 0) hx hb dX11_openMarket_30 (by decide) ?_
  refine zw_putI F Z zC2 (a := 695) (k := 3) (by decide) zs_695 (by decide) rfl (by decide) zq524 (Or.inl rfl) rfl ⟨rfl, rfl⟩ dX11_openMarket_31 (fun σ31 _ _ eσ31 Z => ?_)
  replace h := lt_w h eσ31
  refine lv_aload_n hx hb dX11_openMarket_34 rfl (lv_at hl 0 rfl) ?_
  refine zw_getR F Z zC11 (a := 0) (k := 13) (by decide) zs_0 (by decide) rfl zg_0_13 zq547 (Or.inl rfl) dX11_openMarket_35 ?_
  refine lv_iconst (v := 0) hx hb dX11_openMarket_38 (by decide) ?_
  refine zw_putI F Z zC2 (a := 699) (k := 3) (by decide) zs_699 (by decide) rfl (by decide) zq524 (Or.inl rfl) rfl ⟨rfl, rfl⟩ dX11_openMarket_39 (fun σ39 _ _ eσ39 Z => ?_)
  replace h := lt_w h eσ39
  refine lv_aload_n hx hb dX11_openMarket_42 rfl (lv_at hl 0 rfl) ?_
  refine lv_iconst (v := 0) hx hb dX11_openMarket_43 (by decide) ?_
  refine zw_putI F Z zC11 (a := 0) (k := 16) (by decide) zs_0 (by decide) rfl (by decide) zq550 (Or.inl rfl) rfl (z_nb (by decide)) dX11_openMarket_44 (fun σ44 _ _ eσ44 Z => ?_)
  replace h := lt_w h eσ44
  refine lv_aload_n hx hb dX11_openMarket_47 rfl (lv_at hl 0 rfl) ?_
  refine zw_getR F Z zC11 (a := 0) (k := 0) (by decide) zs_0 (by decide) rfl zg_0_0 zq534 (Or.inl rfl) dX11_openMarket_48 ?_
  refine lv_iconst (v := 0) hx hb dX11_openMarket_51 (by decide) ?_
  refine zw_putI F Z zC9 (a := 1) (k := 1) (by decide) zs_1 (by decide) rfl (by decide) zq117 (Or.inl rfl) rfl ⟨rfl, rfl⟩ dX11_openMarket_52 (fun σ52 _ _ eσ52 Z => ?_)
  replace h := lt_w h eσ52
  refine lv_aload_n hx hb dX11_openMarket_55 rfl (lv_at hl 0 rfl) ?_
  refine zw_getR F Z zC11 (a := 0) (k := 3) (by decide) zs_0 (by decide) rfl zg_0_3 zq537 (Or.inl rfl) dX11_openMarket_56 ?_
  refine zw_getI F Z zC0 (a := 3) (k := 0) (by decide) zs_3 (by decide) rfl zq135 (Or.inl rfl) dX11_openMarket_59 ?_
  obtain ⟨hq1, hq2⟩ := zpq h
  exact ze_i F Z hr hlocks hq1 hq2 dX11_openMarket_62
set_option maxHeartbeats 4000000 in
set_option maxRecDepth 100000 in
theorem zcX11_addRule (l : Launch) (D : va_G) (A0 : Nat) (σ : Mm) (r0 : Int32) (σr : Mm) (h : zfX11_addRule σ = some (r0, σr)) : Met l yX11_addRule (zws yX11_addRule cX11_addRule 2 (some .int)) (zR 397 14871) (zPc D A0 σ GF 740 [.ref (A0 + 0)]) (zQi D A0 r0 σr GF 740) 0 0 (zA A0) := by
  unfold zfX11_addRule at h
  refine zmet (own := RX11) (by decide) rfl (Nat.le_of_ble_eq_true rfl) ?_
  intro p e s m below meth c F hr hlocks _ Z ls hl
  have hl : lv_has ls 2 [(0, .ref (A0 + 0))] := hl
  have hx := F.1.1
  have hb := F.1.2.1
  have hown := F.1.2.2.2.1
  have hts := F.1.2.2.2.2
  refine lv_aload_n hx hb dX11_addRule_0 rfl (lv_at hl 0 rfl) ?_
  refine zw_getI F Z zC11 (a := 0) (k := 14) (by decide) zs_0 (by decide) rfl zq548 (Or.inl rfl) dX11_addRule_1 ?_
  refine lv_topi (fun x1_4 ex1_4 => ?_)
  replace h := lt_w h ex1_4
  refine lv_istore_n (lv' := [(1, .int x1_4), (0, .ref (A0 + 0))]) hx hb dX11_addRule_4 rfl hl (by decide) rfl (fun ls hl => ?_)
  refine lv_iload_n hx hb dX11_addRule_5 rfl (lv_at hl 0 rfl) ?_
  refine lv_aload_n hx hb dX11_addRule_6 rfl (lv_at hl 1 rfl) ?_
  refine zw_getR F Z zC11 (a := 0) (k := 5) (by decide) zs_0 (by decide) rfl zg_0_5 zq539 (Or.inl rfl) dX11_addRule_7 ?_
  refine zw_alen F Z (ty := 5) (v := 5) (by decide) zs_11 rfl rfl dX11_addRule_10 ?_
  obtain ⟨j23, ej23, h⟩ := lt_x h
  have hj23 : ∀ (σ23 : Mm) (H : Heap) (locs : List Loc) (ls : Array Slot), zh D A0 σ23 GF 740 s.heap H locs → lv_has ls 2 [] → j23 σ23 = some (r0, σr) → W p l e (zR 397 14871) s m [.ref (A0 + 0)].toArray below meth c H locs 0 0 (MQ below (zQi D A0 r0 σr GF 740) [.ref (A0 + 0)].toArray s 0 0 (zA A0)) (F0 m 23 ls []) := by
    intro  σ23 H locs ls Z hl h
    rw [ej23] at h
    try dsimp only at h
    refine lv_iconst (v := (-1)) hx hb dX11_addRule_23 (by decide) ?_
    obtain ⟨hq1, hq2⟩ := zpq h
    exact ze_i F Z hr hlocks hq1 hq2 dX11_addRule_24
  refine zb_icge (tgt := 23) hx hb dX11_addRule_11 (by decide) h (fun h => ?_) (fun h => ?_)
  · exact hj23 σ _ _ _ Z (lv_sub hl [] rfl) h
  · refine lv_aload_n hx hb dX11_addRule_14 rfl (lv_at hl 1 rfl) ?_
    refine zw_getR F Z zC11 (a := 0) (k := 5) (by decide) zs_0 (by decide) rfl zg_0_5 zq539 (Or.inl rfl) dX11_addRule_15 ?_
    refine lv_iload_n hx hb dX11_addRule_18 rfl (lv_at hl 0 rfl) ?_
    obtain ⟨hk19, h⟩ := ck_x h
    refine zw_aald F Z (ty := 5) (by decide) zs_11 (by decide) rfl hk19 (zg_rules hk19) dX11_addRule_19 ?_
    refine lv_ifnonnull (tgt := 25) hx hb dX11_addRule_20 (by decide) ?_
    refine lv_aload_n hx hb dX11_addRule_25 rfl (lv_at hl 1 rfl) ?_
    refine zw_getR F Z zC11 (a := 0) (k := 2) (by decide) zs_0 (by decide) rfl zg_0_2 zq536 (Or.inl rfl) dX11_addRule_26 ?_
    refine lv_aload_n hx hb dX11_addRule_29 rfl (lv_at hl 1 rfl) ?_
    refine zw_getR F Z zC11 (a := 0) (k := 5) (by decide) zs_0 (by decide) rfl zg_0_5 zq539 (Or.inl rfl) dX11_addRule_30 ?_
    refine lv_iload_n hx hb dX11_addRule_33 rfl (lv_at hl 0 rfl) ?_
    obtain ⟨hk34, h⟩ := ck_x h
    refine zw_aald F Z (ty := 5) (by decide) zs_11 (by decide) rfl hk34 (zg_rules hk34) dX11_addRule_34 ?_
    obtain ⟨r35, σ35, hc35, h⟩ := bd2_x h
    refine zc_i Z (zr_V F Z (a := 46) (As := [.ref (A0 + (12 + 3 * ix x1_4))]) (zcX5_read l D A0 (12 + 3 * ix x1_4) (zIsR_rules hk34) σ r35 σ35 hc35) zBX5_read zq736 (by decide) zs_46 zC5.1 rfl ⟨⟨rfl, rfl⟩, Nat.le_of_ble_eq_true rfl, Nat.le_of_ble_eq_true rfl⟩ hl.1 rfl (Nat.le_of_ble_eq_true rfl) dX11_addRule_35 ⟨Nat.le_of_ble_eq_true rfl, Nat.le_of_ble_eq_true rfl⟩) (fun _ _ Z => ?_)
    refine lv_pop hx hb dX11_addRule_38 rfl ?_
    refine lv_aload_n hx hb dX11_addRule_39 rfl (lv_at hl 1 rfl) ?_
    refine lv_iload_n hx hb dX11_addRule_40 rfl (lv_at hl 0 rfl) ?_
    refine lv_iconst (v := 1) hx hb dX11_addRule_41 (by decide) ?_
    refine lv_iadd hx hb dX11_addRule_42 ?_
    refine zw_putI F Z zC11 (a := 0) (k := 14) (by decide) zs_0 (by decide) rfl (by decide) zq548 (Or.inl rfl) rfl ⟨rfl, rfl⟩ dX11_addRule_43 (fun σ43 _ _ eσ43 Z => ?_)
    replace h := lt_w h eσ43
    refine lv_aload_n hx hb dX11_addRule_46 rfl (lv_at hl 1 rfl) ?_
    refine zw_getR F Z zC11 (a := 0) (k := 0) (by decide) zs_0 (by decide) rfl zg_0_0 zq534 (Or.inl rfl) dX11_addRule_47 ?_
    refine lv_iconst (v := 0) hx hb dX11_addRule_50 (by decide) ?_
    refine zw_putI F Z zC9 (a := 1) (k := 1) (by decide) zs_1 (by decide) rfl (by decide) zq117 (Or.inl rfl) rfl ⟨rfl, rfl⟩ dX11_addRule_51 (fun σ51 _ _ eσ51 Z => ?_)
    replace h := lt_w h eσ51
    refine lv_iload_n hx hb dX11_addRule_54 rfl (lv_at hl 0 rfl) ?_
    obtain ⟨hq1, hq2⟩ := zpq h
    exact ze_i F Z hr hlocks hq1 hq2 dX11_addRule_55
set_option maxHeartbeats 4000000 in
set_option maxRecDepth 100000 in
theorem zcX11_text (l : Launch) (D : va_G) (A0 : Nat) (x1 : Int32) (σ : Mm) (r0 : Int32) (σr : Mm) (h : zfX11_text x1 σ = some (r0, σr)) : Met l yX11_text (zws yX11_text cX11_text 2 (some .int)) (zR 398 14892) (zPc D A0 σ GF 740 [.ref (A0 + 0), .int x1]) (zQi D A0 r0 σr GF 740) 0 0 (zA A0) := by
  unfold zfX11_text at h
  refine zmet (own := RX11) (by decide) rfl (Nat.le_of_ble_eq_true rfl) ?_
  intro p e s m below meth c F hr hlocks _ Z ls hl
  have hl : lv_has ls 2 [(0, .ref (A0 + 0)), (1, .int x1)] := hl
  have hx := F.1.1
  have hb := F.1.2.1
  have hown := F.1.2.2.2.1
  have hts := F.1.2.2.2.2
  refine lv_iload_n hx hb dX11_text_0 rfl (lv_at hl 1 rfl) ?_
  obtain ⟨j24, ej24, h⟩ := lt_x h
  have hj24 : ∀ (σ24 : Mm) (H : Heap) (locs : List Loc) (ls : Array Slot), zh D A0 σ24 GF 740 s.heap H locs → lv_has ls 2 [(0, .ref (A0 + 0)), (1, .int x1)] → j24 σ24 = some (r0, σr) → W p l e (zR 398 14892) s m [.ref (A0 + 0), .int x1].toArray below meth c H locs 0 0 (MQ below (zQi D A0 r0 σr GF 740) [.ref (A0 + 0), .int x1].toArray s 0 0 (zA A0)) (F0 m 24 ls []) := by
    intro  σ24 H locs ls Z hl h
    rw [ej24] at h
    try dsimp only at h
    refine lv_iload_n hx hb dX11_text_24 rfl (lv_at hl 1 rfl) ?_
    refine lv_iconst (v := 1) hx hb dX11_text_25 (by decide) ?_
    obtain ⟨j57, ej57, h⟩ := lt_x h
    have hj57 : ∀ (σ57 : Mm) (H : Heap) (locs : List Loc) (ls : Array Slot), zh D A0 σ57 GF 740 s.heap H locs → lv_has ls 2 [] → j57 σ57 = some (r0, σr) → W p l e (zR 398 14892) s m [.ref (A0 + 0), .int x1].toArray below meth c H locs 0 0 (MQ below (zQi D A0 r0 σr GF 740) [.ref (A0 + 0), .int x1].toArray s 0 0 (zA A0)) (F0 m 57 ls []) := by
      intro  σ57 H locs ls Z hl h
      rw [ej57] at h
      try dsimp only at h
      refine lv_iconst (v := (-1)) hx hb dX11_text_57 (by decide) ?_
      obtain ⟨hq1, hq2⟩ := zpq h
      exact ze_i F Z hr hlocks hq1 hq2 dX11_text_58
    refine zb_icne (tgt := 57) hx hb dX11_text_26 (by decide) h (fun h => ?_) (fun h => ?_)
    · exact hj57 σ24 _ _ _ Z (lv_sub hl [] rfl) h
    · refine lv_aload_n hx hb dX11_text_29 rfl (lv_at hl 0 rfl) ?_
      refine zw_getI F Z zC11 (a := 0) (k := 14) (by decide) zs_0 (by decide) rfl zq548 (Or.inl rfl) dX11_text_30 ?_
      refine lv_iconst (v := 5) hx hb dX11_text_33 (by decide) ?_
      refine zb_icge (tgt := 57) hx hb dX11_text_34 (by decide) h (fun h => ?_) (fun h => ?_)
      · exact hj57 σ24 _ _ _ Z (lv_sub hl [] rfl) h
      · refine lv_aload_n hx hb dX11_text_37 rfl (lv_at hl 0 rfl) ?_
        refine zw_getR F Z zC11 (a := 0) (k := 2) (by decide) zs_0 (by decide) rfl zg_0_2 zq536 (Or.inl rfl) dX11_text_38 ?_
        refine lv_aload_n hx hb dX11_text_41 rfl (lv_at hl 0 rfl) ?_
        refine zw_getR F Z zC11 (a := 0) (k := 6) (by decide) zs_0 (by decide) rfl zg_0_6 zq540 (Or.inl rfl) dX11_text_42 ?_
        obtain ⟨r45, σ45, hc45, h⟩ := bd2_x h
        refine zc_i Z (zr_V F Z (a := 46) (As := [.ref (A0 + 55)]) (zcX5_read l D A0 55 (by decide) σ24 r45 σ45 hc45) zBX5_read zq736 (by decide) zs_46 zC5.1 rfl ⟨⟨rfl, rfl⟩, Nat.le_of_ble_eq_true rfl, Nat.le_of_ble_eq_true rfl⟩ hl.1 rfl (Nat.le_of_ble_eq_true rfl) dX11_text_45 ⟨Nat.le_of_ble_eq_true rfl, Nat.le_of_ble_eq_true rfl⟩) (fun _ _ Z => ?_)
        refine lv_iconst (v := (-1)) hx hb dX11_text_48 (by decide) ?_
        refine zb_icne (tgt := 57) hx hb dX11_text_49 (by decide) h (fun h => ?_) (fun h => ?_)
        · exact hj57 σ45 _ _ _ Z (lv_sub hl [] rfl) h
        · refine lv_aload_n hx hb dX11_text_52 rfl (lv_at hl 0 rfl) ?_
          obtain ⟨r53, σ53, hc53, h⟩ := bd2_x h
          refine zc_i Z (zr_V F Z (a := 0) (As := []) (zcX11_addRule l D A0 σ45 r53 σ53 hc53) zBX11_addRule zq806 (by decide) zs_0 zC11.1 rfl ⟨⟨rfl, rfl⟩, Nat.le_of_ble_eq_true rfl, Nat.le_of_ble_eq_true rfl⟩ hl.1 rfl (Nat.le_of_ble_eq_true rfl) dX11_text_53 ⟨Nat.le_of_ble_eq_true rfl, Nat.le_of_ble_eq_true rfl⟩) (fun _ _ Z => ?_)
          obtain ⟨hq1, hq2⟩ := zpq h
          exact ze_i F Z hr hlocks hq1 hq2 dX11_text_56
  refine zb_ifne (tgt := 24) hx hb dX11_text_1 (by decide) h (fun h => ?_) (fun h => ?_)
  · exact hj24 σ _ _ _ Z (lv_sub hl [0, 1] rfl) h
  · refine lv_aload_n hx hb dX11_text_4 rfl (lv_at hl 0 rfl) ?_
    refine zw_getR F Z zC11 (a := 0) (k := 1) (by decide) zs_0 (by decide) rfl zg_0_1 zq535 (Or.inl rfl) dX11_text_5 ?_
    refine lv_aload_n hx hb dX11_text_8 rfl (lv_at hl 0 rfl) ?_
    refine zw_getR F Z zC11 (a := 0) (k := 4) (by decide) zs_0 (by decide) rfl zg_0_4 zq538 (Or.inl rfl) dX11_text_9 ?_
    obtain ⟨r12, σ12, hc12, h⟩ := bd2_x h
    refine zc_i Z (zr_V F Z (a := 43) (As := [.ref (A0 + 47)]) (zcX1_read l D A0 47 (Or.inr rfl) σ r12 σ12 hc12) zBX1_read zq605 (by decide) zs_43 zC1.1 rfl ⟨⟨rfl, rfl⟩, Nat.le_of_ble_eq_true rfl, Nat.le_of_ble_eq_true rfl⟩ hl.1 rfl (Nat.le_of_ble_eq_true rfl) dX11_text_12 ⟨Nat.le_of_ble_eq_true rfl, Nat.le_of_ble_eq_true rfl⟩) (fun _ _ Z => ?_)
    refine lv_iconst (v := (-1)) hx hb dX11_text_15 (by decide) ?_
    refine zb_icne (tgt := 24) hx hb dX11_text_16 (by decide) h (fun h => ?_) (fun h => ?_)
    · exact hj24 σ12 _ _ _ Z (lv_sub hl [0, 1] rfl) h
    · refine lv_aload_n hx hb dX11_text_19 rfl (lv_at hl 0 rfl) ?_
      obtain ⟨r20, σ20, hc20, h⟩ := bd2_x h
      refine zc_i Z (zr_V F Z (a := 0) (As := []) (zcX11_openMarket l D A0 σ12 r20 σ20 hc20) zBX11_openMarket zq798 (by decide) zs_0 zC11.1 rfl ⟨⟨rfl, rfl⟩, Nat.le_of_ble_eq_true rfl, Nat.le_of_ble_eq_true rfl⟩ hl.1 rfl (Nat.le_of_ble_eq_true rfl) dX11_text_20 ⟨Nat.le_of_ble_eq_true rfl, Nat.le_of_ble_eq_true rfl⟩) (fun _ _ Z => ?_)
      obtain ⟨hq1, hq2⟩ := zpq h
      exact ze_i F Z hr hlocks hq1 hq2 dX11_text_23
set_option maxHeartbeats 4000000 in
set_option maxRecDepth 100000 in
theorem zcX11_isSeller (l : Launch) (D : va_G) (A0 : Nat) (x1 : Int32) (σ : Mm) (r0 : Int32) (h : zfX11_isSeller x1 σ = r0) : Met l yX11_isSeller (zws yX11_isSeller cX11_isSeller 2 (some .boolean)) (zR 0 0) (zPc D A0 σ GF 740 [.ref (A0 + 0), .int x1]) (zQi D A0 r0 σ GF 740) 0 0 (zA A0) := by
  unfold zfX11_isSeller at h
  refine zmet (own := RX11) (by decide) rfl (Nat.le_of_ble_eq_true rfl) ?_
  intro p e s m below meth c F hr hlocks _ Z ls hl
  have hl : lv_has ls 2 [(0, .ref (A0 + 0)), (1, .int x1)] := hl
  have hx := F.1.1
  have hb := F.1.2.1
  have hown := F.1.2.2.2.1
  have hts := F.1.2.2.2.2
  refine lv_iload_n hx hb dX11_isSeller_0 rfl (lv_at hl 1 rfl) ?_
  obtain ⟨j19, ej19, h⟩ := lt_x h
  have hj19 : ∀  (H : Heap) (locs : List Loc) (ls : Array Slot), zh D A0 σ GF 740 s.heap H locs → lv_has ls 2 [] → j19 () = r0 → W p l e (zR 0 0) s m [.ref (A0 + 0), .int x1].toArray below meth c H locs 0 0 (MQ below (zQi D A0 r0 σ GF 740) [.ref (A0 + 0), .int x1].toArray s 0 0 (zA A0)) (F0 m 19 ls []) := by
    intro  H locs ls Z hl h
    rw [ej19] at h
    try dsimp only at h
    refine lv_iconst (v := 0) hx hb dX11_isSeller_19 (by decide) ?_
    exact ze_z F Z hr hlocks (by decide) h rfl dX11_isSeller_20
  refine zb_iflt (tgt := 19) hx hb dX11_isSeller_1 (by decide) h (fun h => ?_) (fun h => ?_)
  · exact hj19  _ _ _ Z (lv_sub hl [] rfl) h
  · refine lv_iload_n hx hb dX11_isSeller_4 rfl (lv_at hl 1 rfl) ?_
    refine lv_aload_n hx hb dX11_isSeller_5 rfl (lv_at hl 0 rfl) ?_
    refine zw_getR F Z zC11 (a := 0) (k := 3) (by decide) zs_0 (by decide) rfl zg_0_3 zq537 (Or.inl rfl) dX11_isSeller_6 ?_
    refine zw_getI F Z zC0 (a := 3) (k := 0) (by decide) zs_3 (by decide) rfl zq135 (Or.inl rfl) dX11_isSeller_9 ?_
    refine zb_icge (tgt := 19) hx hb dX11_isSeller_12 (by decide) h (fun h => ?_) (fun h => ?_)
    · exact hj19  _ _ _ Z (lv_sub hl [] rfl) h
    · refine lv_iconst (v := 1) hx hb dX11_isSeller_15 (by decide) ?_
      refine lv_goto (tgt := 20) hx hb dX11_isSeller_16 (by decide) ?_
      exact ze_z F Z hr hlocks (by decide) h rfl dX11_isSeller_20
set_option maxHeartbeats 4000000 in
set_option maxRecDepth 100000 in
theorem zcX11_noWhat (l : Launch) (D : va_G) (A0 : Nat) (x0 : Int32) (x1 : Int32) (σ : Mm) (r0 : Int32) (h : zfX11_noWhat x0 x1 = r0) : Met l yX11_noWhat (zws yX11_noWhat cX11_noWhat 2 (some .boolean)) (zR 0 0) (zPc D A0 σ GF 740 [.int x0, .int x1]) (zQi D A0 r0 σ GF 740) 0 0 (zA A0) := by
  unfold zfX11_noWhat at h
  refine zmet (own := RX11) (by decide) rfl (Nat.le_of_ble_eq_true rfl) ?_
  intro p e s m below meth c F hr hlocks _ Z ls hl
  have hl : lv_has ls 2 [(0, .int x0), (1, .int x1)] := hl
  have hx := F.1.1
  have hb := F.1.2.1
  have hown := F.1.2.2.2.1
  have hts := F.1.2.2.2.2
  refine lv_iload_n hx hb dX11_noWhat_0 rfl (lv_at hl 0 rfl) ?_
  obtain ⟨j9, ej9, h⟩ := lt_x h
  have hj9 : ∀  (H : Heap) (locs : List Loc) (ls : Array Slot), zh D A0 σ GF 740 s.heap H locs → lv_has ls 2 [] → j9 () = r0 → W p l e (zR 0 0) s m [.int x0, .int x1].toArray below meth c H locs 0 0 (MQ below (zQi D A0 r0 σ GF 740) [.int x0, .int x1].toArray s 0 0 (zA A0)) (F0 m 9 ls []) := by
    intro  H locs ls Z hl h
    rw [ej9] at h
    try dsimp only at h
    refine lv_iconst (v := 1) hx hb dX11_noWhat_9 (by decide) ?_
    refine lv_goto (tgt := 14) hx hb dX11_noWhat_10 (by decide) ?_
    exact ze_z F Z hr hlocks (by decide) h rfl dX11_noWhat_14
  refine zb_iflt (tgt := 9) hx hb dX11_noWhat_1 (by decide) h (fun h => ?_) (fun h => ?_)
  · exact hj9  _ _ _ Z (lv_sub hl [] rfl) h
  · refine lv_iload_n hx hb dX11_noWhat_4 rfl (lv_at hl 0 rfl) ?_
    refine lv_iload_n hx hb dX11_noWhat_5 rfl (lv_at hl 1 rfl) ?_
    refine zb_icle (tgt := 13) hx hb dX11_noWhat_6 (by decide) h (fun h => ?_) (fun h => ?_)
    · refine lv_iconst (v := 0) hx hb dX11_noWhat_13 (by decide) ?_
      exact ze_z F Z hr hlocks (by decide) h rfl dX11_noWhat_14
    · exact hj9  _ _ _ Z (lv_sub hl [] rfl) h
set_option maxHeartbeats 4000000 in
set_option maxRecDepth 100000 in
theorem zcX8_isHolding (l : Launch) (D : va_G) (A0 : Nat) (q0 : Nat) (x1 : Int32) (hq0 : zIsS q0) (σ : Mm) (r0 : Int32) (h : zfX8_isHolding q0 x1 σ = r0) : Met l yX8_isHolding (zws yX8_isHolding cX8_isHolding 2 (some .boolean)) (zR 0 0) (zPc D A0 σ GF 740 [.ref (A0 + q0), .int x1]) (zQi D A0 r0 σ GF 740) 0 0 (zA A0) := by
  unfold zfX8_isHolding at h
  refine zmet (own := RX8) (by decide) rfl (Nat.le_of_ble_eq_true rfl) ?_
  intro p e s m below meth c F hr hlocks _ Z ls hl
  have hl : lv_has ls 2 [(0, .ref (A0 + q0)), (1, .int x1)] := hl
  have hx := F.1.1
  have hb := F.1.2.1
  have hown := F.1.2.2.2.1
  have hts := F.1.2.2.2.2
  refine lv_aload_n hx hb dX8_isHolding_0 rfl (lv_at hl 0 rfl) ?_
  refine zw_getI F Z zC8 (a := q0) (k := 3) (zltS_0 hq0) (zsS_0 hq0) (by decide) rfl zq229 (Or.inl rfl) dX8_isHolding_1 ?_
  refine lv_iload_n hx hb dX8_isHolding_4 rfl (lv_at hl 1 rfl) ?_
  refine lv_ishr hx hb dX8_isHolding_5 ?_
  refine lv_iconst (v := 1) hx hb dX8_isHolding_6 (by decide) ?_
  refine lv_iand hx hb dX8_isHolding_7 ?_
  refine zb_ifeq (tgt := 15) hx hb dX8_isHolding_8 (by decide) h (fun h => ?_) (fun h => ?_)
  · refine lv_iconst (v := 0) hx hb dX8_isHolding_15 (by decide) ?_
    exact ze_z F Z hr hlocks (by decide) h rfl dX8_isHolding_16
  · refine lv_iconst (v := 1) hx hb dX8_isHolding_11 (by decide) ?_
    refine lv_goto (tgt := 16) hx hb dX8_isHolding_12 (by decide) ?_
    exact ze_z F Z hr hlocks (by decide) h rfl dX8_isHolding_16
set_option maxHeartbeats 4000000 in
set_option maxRecDepth 100000 in
theorem zcX11_seller (l : Launch) (D : va_G) (A0 : Nat) (x1 : Int32) (x2 : Int32) (σ : Mm) (r0 : Int32) (h : zfX11_seller x1 x2 σ = some r0) : Met l yX11_seller (zws yX11_seller cX11_seller 3 (some .int)) (zR 1 21) (zPc D A0 σ GF 740 [.ref (A0 + 0), .int x1, .int x2]) (zQi D A0 r0 σ GF 740) 0 0 (zA A0) := by
  unfold zfX11_seller at h
  refine zmet (own := RX11) (by decide) rfl (Nat.le_of_ble_eq_true rfl) ?_
  intro p e s m below meth c F hr hlocks _ Z ls hl
  have hl : lv_has ls 3 [(0, .ref (A0 + 0)), (1, .int x1), (2, .int x2)] := hl
  have hx := F.1.1
  have hb := F.1.2.1
  have hown := F.1.2.2.2.1
  have hts := F.1.2.2.2.2
  refine lv_aload_n hx hb dX11_seller_0 rfl (lv_at hl 0 rfl) ?_
  refine lv_iload_n hx hb dX11_seller_1 rfl (lv_at hl 1 rfl) ?_
  refine zc_i Z (zr_V F Z (a := 0) (As := [.int x1]) (zcX11_isSeller l D A0 x1 σ (zfX11_isSeller x1 σ) rfl) zBX11_isSeller zq826 (by decide) zs_0 zC11.1 rfl ⟨⟨rfl, rfl⟩, Nat.le_of_ble_eq_true rfl, Nat.le_of_ble_eq_true rfl⟩ hl.1 rfl (Nat.le_of_ble_eq_true rfl) dX11_seller_2 ⟨Nat.le_of_ble_eq_true rfl, Nat.le_of_ble_eq_true rfl⟩) (fun _ _ Z => ?_)
  obtain ⟨j17, ej17, h⟩ := lt_x h
  have hj17 : ∀  (H : Heap) (locs : List Loc) (ls : Array Slot), zh D A0 σ GF 740 s.heap H locs → lv_has ls 3 [] → j17 () = some r0 → W p l e (zR 1 21) s m [.ref (A0 + 0), .int x1, .int x2].toArray below meth c H locs 0 0 (MQ below (zQi D A0 r0 σ GF 740) [.ref (A0 + 0), .int x1, .int x2].toArray s 0 0 (zA A0)) (F0 m 17 ls []) := by
    intro  H locs ls Z hl h
    rw [ej17] at h
    try dsimp only at h
    cases h
  refine zb_ifeq (tgt := 17) hx hb dX11_seller_5 (by decide) h (fun h => ?_) (fun h => ?_)
  · exact hj17  _ _ _ Z (lv_sub hl [] rfl) h
  · refine lv_iload_n hx hb dX11_seller_8 rfl (lv_at hl 2 rfl) ?_
    refine lv_bipush (v := 9) hx hb dX11_seller_9 (by decide) ?_
    refine zc_i Z (zr_S F Z (As := [.int x2, .int 9]) (zcX11_noWhat l D A0 x2 9 σ (zfX11_noWhat x2 9) rfl) zBX11_noWhat zq971 rfl ⟨⟨rfl, rfl⟩, Nat.le_of_ble_eq_true rfl, Nat.le_of_ble_eq_true rfl⟩ hl.1 rfl (Nat.le_of_ble_eq_true rfl) dX11_seller_11 ⟨Nat.le_of_ble_eq_true rfl, Nat.le_of_ble_eq_true rfl⟩) (fun _ _ Z => ?_)
    refine zb_ifeq (tgt := 25) hx hb dX11_seller_14 (by decide) h (fun h => ?_) (fun h => ?_)
    · refine lv_iload_n hx hb dX11_seller_25 rfl (lv_at hl 2 rfl) ?_
      refine zsp h (fun hs26_0 h => ?_) (fun hs26_0 h => ?_)
      · refine lv_tableIn (tgt := 76) (off := 50) hx hb dX11_seller_26 (by rw [hs26_0]; decide) (by rw [hs26_0]; decide) (by first | (rw [hs26_0]; done) | (rw [hs26_0]; rfl)) (by decide) ?_
        refine lv_aload_n hx hb dX11_seller_76 rfl (lv_at hl 0 rfl) ?_
        refine zw_getR F Z zC11 (a := 0) (k := 3) (by decide) zs_0 (by decide) rfl zg_0_3 zq537 (Or.inl rfl) dX11_seller_77 ?_
        refine zw_getR F Z zC0 (a := 3) (k := 5) (by decide) zs_3 (by decide) rfl zg_3_5 zq150 (Or.inl rfl) dX11_seller_80 ?_
        refine lv_iload_n hx hb dX11_seller_83 rfl (lv_at hl 1 rfl) ?_
        obtain ⟨hk84, h⟩ := ck_x h
        refine zw_iald F Z (by decide) zs_4 hk84 dX11_seller_84 ?_
        have hq := Option.some.inj h
        exact ze_i F Z hr hlocks hq rfl dX11_seller_85
      · refine zsp h (fun hs26_1 h => ?_) (fun hs26_1 h => ?_)
        · refine lv_tableIn (tgt := 86) (off := 60) hx hb dX11_seller_26 (by rw [hs26_1]; decide) (by rw [hs26_1]; decide) (by first | (rw [hs26_1]; done) | (rw [hs26_1]; rfl)) (by decide) ?_
          refine lv_aload_n hx hb dX11_seller_86 rfl (lv_at hl 0 rfl) ?_
          refine zw_getR F Z zC11 (a := 0) (k := 3) (by decide) zs_0 (by decide) rfl zg_0_3 zq537 (Or.inl rfl) dX11_seller_87 ?_
          refine zw_getR F Z zC0 (a := 3) (k := 6) (by decide) zs_3 (by decide) rfl zg_3_6 zq154 (Or.inl rfl) dX11_seller_90 ?_
          refine lv_iload_n hx hb dX11_seller_93 rfl (lv_at hl 1 rfl) ?_
          obtain ⟨hk94, h⟩ := ck_x h
          refine zw_iald F Z (by decide) zs_5 hk94 dX11_seller_94 ?_
          have hq := Option.some.inj h
          exact ze_i F Z hr hlocks hq rfl dX11_seller_95
        · refine zsp h (fun hs26_2 h => ?_) (fun hs26_2 h => ?_)
          · refine lv_tableIn (tgt := 96) (off := 70) hx hb dX11_seller_26 (by rw [hs26_2]; decide) (by rw [hs26_2]; decide) (by first | (rw [hs26_2]; done) | (rw [hs26_2]; rfl)) (by decide) ?_
            refine lv_aload_n hx hb dX11_seller_96 rfl (lv_at hl 0 rfl) ?_
            refine zw_getR F Z zC11 (a := 0) (k := 3) (by decide) zs_0 (by decide) rfl zg_0_3 zq537 (Or.inl rfl) dX11_seller_97 ?_
            refine zw_getR F Z zC0 (a := 3) (k := 7) (by decide) zs_3 (by decide) rfl zg_3_7 zq156 (Or.inl rfl) dX11_seller_100 ?_
            refine lv_iload_n hx hb dX11_seller_103 rfl (lv_at hl 1 rfl) ?_
            obtain ⟨hk104, h⟩ := ck_x h
            refine zw_iald F Z (by decide) zs_6 hk104 dX11_seller_104 ?_
            have hq := Option.some.inj h
            exact ze_i F Z hr hlocks hq rfl dX11_seller_105
          · refine zsp h (fun hs26_3 h => ?_) (fun hs26_3 h => ?_)
            · refine lv_tableIn (tgt := 106) (off := 80) hx hb dX11_seller_26 (by rw [hs26_3]; decide) (by rw [hs26_3]; decide) (by first | (rw [hs26_3]; done) | (rw [hs26_3]; rfl)) (by decide) ?_
              refine lv_aload_n hx hb dX11_seller_106 rfl (lv_at hl 0 rfl) ?_
              refine zw_getR F Z zC11 (a := 0) (k := 7) (by decide) zs_0 (by decide) rfl zg_0_7 zq541 (Or.inl rfl) dX11_seller_107 ?_
              refine zw_getR F Z zC8 (a := 27) (k := 5) (by decide) zs_27 (by decide) rfl zg_27_5 zq236 (Or.inl rfl) dX11_seller_110 ?_
              refine lv_iload_n hx hb dX11_seller_113 rfl (lv_at hl 1 rfl) ?_
              obtain ⟨hk114, h⟩ := ck_x h
              refine zw_iald F Z (by decide) zs_28 hk114 dX11_seller_114 ?_
              have hq := Option.some.inj h
              exact ze_i F Z hr hlocks hq rfl dX11_seller_115
            · refine zsp h (fun hs26_4 h => ?_) (fun hs26_4 h => ?_)
              · refine lv_tableIn (tgt := 116) (off := 90) hx hb dX11_seller_26 (by rw [hs26_4]; decide) (by rw [hs26_4]; decide) (by first | (rw [hs26_4]; done) | (rw [hs26_4]; rfl)) (by decide) ?_
                refine lv_aload_n hx hb dX11_seller_116 rfl (lv_at hl 0 rfl) ?_
                refine zw_getR F Z zC11 (a := 0) (k := 7) (by decide) zs_0 (by decide) rfl zg_0_7 zq541 (Or.inl rfl) dX11_seller_117 ?_
                refine zw_getR F Z zC8 (a := 27) (k := 6) (by decide) zs_27 (by decide) rfl zg_27_6 zq239 (Or.inl rfl) dX11_seller_120 ?_
                refine lv_iload_n hx hb dX11_seller_123 rfl (lv_at hl 1 rfl) ?_
                obtain ⟨hk124, h⟩ := ck_x h
                refine zw_iald F Z (by decide) zs_29 hk124 dX11_seller_124 ?_
                have hq := Option.some.inj h
                exact ze_i F Z hr hlocks hq rfl dX11_seller_125
              · refine zsp h (fun hs26_5 h => ?_) (fun hs26_5 h => ?_)
                · refine lv_tableIn (tgt := 126) (off := 100) hx hb dX11_seller_26 (by rw [hs26_5]; decide) (by rw [hs26_5]; decide) (by first | (rw [hs26_5]; done) | (rw [hs26_5]; rfl)) (by decide) ?_
                  refine lv_aload_n hx hb dX11_seller_126 rfl (lv_at hl 0 rfl) ?_
                  refine zw_getR F Z zC11 (a := 0) (k := 7) (by decide) zs_0 (by decide) rfl zg_0_7 zq541 (Or.inl rfl) dX11_seller_127 ?_
                  refine zw_getR F Z zC8 (a := 27) (k := 7) (by decide) zs_27 (by decide) rfl zg_27_7 zq244 (Or.inl rfl) dX11_seller_130 ?_
                  refine lv_iload_n hx hb dX11_seller_133 rfl (lv_at hl 1 rfl) ?_
                  obtain ⟨hk134, h⟩ := ck_x h
                  refine zw_iald F Z (by decide) zs_30 hk134 dX11_seller_134 ?_
                  have hq := Option.some.inj h
                  exact ze_i F Z hr hlocks hq rfl dX11_seller_135
                · refine zsp h (fun hs26_6 h => ?_) (fun hs26_6 h => ?_)
                  · refine lv_tableIn (tgt := 136) (off := 110) hx hb dX11_seller_26 (by rw [hs26_6]; decide) (by rw [hs26_6]; decide) (by first | (rw [hs26_6]; done) | (rw [hs26_6]; rfl)) (by decide) ?_
                    refine lv_aload_n hx hb dX11_seller_136 rfl (lv_at hl 0 rfl) ?_
                    refine zw_getR F Z zC11 (a := 0) (k := 7) (by decide) zs_0 (by decide) rfl zg_0_7 zq541 (Or.inl rfl) dX11_seller_137 ?_
                    refine zw_getR F Z zC8 (a := 27) (k := 10) (by decide) zs_27 (by decide) rfl zg_27_10 zq257 (Or.inl rfl) dX11_seller_140 ?_
                    refine lv_iload_n hx hb dX11_seller_143 rfl (lv_at hl 1 rfl) ?_
                    obtain ⟨hk144, h⟩ := ck_x h
                    refine zw_iald F Z (by decide) zs_33 hk144 dX11_seller_144 ?_
                    have hq := Option.some.inj h
                    exact ze_i F Z hr hlocks hq rfl dX11_seller_145
                  · refine zsp h (fun hs26_7 h => ?_) (fun hs26_7 h => ?_)
                    · refine lv_tableIn (tgt := 146) (off := 120) hx hb dX11_seller_26 (by rw [hs26_7]; decide) (by rw [hs26_7]; decide) (by first | (rw [hs26_7]; done) | (rw [hs26_7]; rfl)) (by decide) ?_
                      refine lv_aload_n hx hb dX11_seller_146 rfl (lv_at hl 0 rfl) ?_
                      refine zw_getR F Z zC11 (a := 0) (k := 7) (by decide) zs_0 (by decide) rfl zg_0_7 zq541 (Or.inl rfl) dX11_seller_147 ?_
                      refine lv_iload_n hx hb dX11_seller_150 rfl (lv_at hl 1 rfl) ?_
                      refine zc_i Z (zr_V F Z (a := 27) (As := [.int x1]) (zcX8_isHolding l D A0 27 x1 (Or.inl rfl) σ (zfX8_isHolding 27 x1 σ) rfl) zBX8_isHolding zq834 (by decide) zs_27 zC8.1 rfl ⟨⟨rfl, rfl⟩, Nat.le_of_ble_eq_true rfl, Nat.le_of_ble_eq_true rfl⟩ hl.1 rfl (Nat.le_of_ble_eq_true rfl) dX11_seller_151 ⟨Nat.le_of_ble_eq_true rfl, Nat.le_of_ble_eq_true rfl⟩) (fun _ _ Z => ?_)
                      refine zb_ifeq (tgt := 161) hx hb dX11_seller_154 (by decide) h (fun h => ?_) (fun h => ?_)
                      · refine lv_iconst (v := 0) hx hb dX11_seller_161 (by decide) ?_
                        have hq := Option.some.inj h
                        exact ze_i F Z hr hlocks hq rfl dX11_seller_162
                      · refine lv_iconst (v := 1) hx hb dX11_seller_157 (by decide) ?_
                        refine lv_goto (tgt := 162) hx hb dX11_seller_158 (by decide) ?_
                        have hq := Option.some.inj h
                        exact ze_i F Z hr hlocks hq rfl dX11_seller_162
                    · refine zsp h (fun hs26_8 h => ?_) (fun hs26_8 h => ?_)
                      · refine lv_tableIn (tgt := 163) (off := 137) hx hb dX11_seller_26 (by rw [hs26_8]; decide) (by rw [hs26_8]; decide) (by first | (rw [hs26_8]; done) | (rw [hs26_8]; rfl)) (by decide) ?_
                        refine lv_aload_n hx hb dX11_seller_163 rfl (lv_at hl 0 rfl) ?_
                        refine zw_getR F Z zC11 (a := 0) (k := 7) (by decide) zs_0 (by decide) rfl zg_0_7 zq541 (Or.inl rfl) dX11_seller_164 ?_
                        refine zw_getR F Z zC8 (a := 27) (k := 8) (by decide) zs_27 (by decide) rfl zg_27_8 zq248 (Or.inl rfl) dX11_seller_167 ?_
                        refine lv_iload_n hx hb dX11_seller_170 rfl (lv_at hl 1 rfl) ?_
                        obtain ⟨hk171, h⟩ := ck_x h
                        refine zw_iald F Z (by decide) zs_31 hk171 dX11_seller_171 ?_
                        have hq := Option.some.inj h
                        exact ze_i F Z hr hlocks hq rfl dX11_seller_172
                      · refine lv_tableOut (tgt := 173) hx hb dX11_seller_26 (by have n0 := lv_neT hs26_0 (a := 0) (by decide); have n1 := lv_neT hs26_1 (a := 1) (by decide); have n2 := lv_neT hs26_2 (a := 2) (by decide); have n3 := lv_neT hs26_3 (a := 3) (by decide); have n4 := lv_neT hs26_4 (a := 4) (by decide); have n5 := lv_neT hs26_5 (a := 5) (by decide); have n6 := lv_neT hs26_6 (a := 6) (by decide); have n7 := lv_neT hs26_7 (a := 7) (by decide); have n8 := lv_neT hs26_8 (a := 8) (by decide); omega) (by decide) ?_
                        refine lv_aload_n hx hb dX11_seller_173 rfl (lv_at hl 0 rfl) ?_
                        refine zw_getR F Z zC11 (a := 0) (k := 7) (by decide) zs_0 (by decide) rfl zg_0_7 zq541 (Or.inl rfl) dX11_seller_174 ?_
                        refine zw_getR F Z zC8 (a := 27) (k := 9) (by decide) zs_27 (by decide) rfl zg_27_9 zq253 (Or.inl rfl) dX11_seller_177 ?_
                        refine lv_iload_n hx hb dX11_seller_180 rfl (lv_at hl 1 rfl) ?_
                        obtain ⟨hk181, h⟩ := ck_x h
                        refine zw_iald F Z (by decide) zs_32 hk181 dX11_seller_181 ?_
                        have hq := Option.some.inj h
                        exact ze_i F Z hr hlocks hq rfl dX11_seller_182
    · exact hj17  _ _ _ Z (lv_sub hl [] rfl) h
set_option maxHeartbeats 4000000 in
set_option maxRecDepth 100000 in
theorem zcX11_isSort (l : Launch) (D : va_G) (A0 : Nat) (x1 : Int32) (σ : Mm) (r0 : Int32) (h : zfX11_isSort x1 σ = r0) : Met l yX11_isSort (zws yX11_isSort cX11_isSort 2 (some .boolean)) (zR 0 0) (zPc D A0 σ GF 740 [.ref (A0 + 0), .int x1]) (zQi D A0 r0 σ GF 740) 0 0 (zA A0) := by
  unfold zfX11_isSort at h
  refine zmet (own := RX11) (by decide) rfl (Nat.le_of_ble_eq_true rfl) ?_
  intro p e s m below meth c F hr hlocks _ Z ls hl
  have hl : lv_has ls 2 [(0, .ref (A0 + 0)), (1, .int x1)] := hl
  have hx := F.1.1
  have hb := F.1.2.1
  have hown := F.1.2.2.2.1
  have hts := F.1.2.2.2.2
  refine lv_iload_n hx hb dX11_isSort_0 rfl (lv_at hl 1 rfl) ?_
  obtain ⟨j19, ej19, h⟩ := lt_x h
  have hj19 : ∀  (H : Heap) (locs : List Loc) (ls : Array Slot), zh D A0 σ GF 740 s.heap H locs → lv_has ls 2 [] → j19 () = r0 → W p l e (zR 0 0) s m [.ref (A0 + 0), .int x1].toArray below meth c H locs 0 0 (MQ below (zQi D A0 r0 σ GF 740) [.ref (A0 + 0), .int x1].toArray s 0 0 (zA A0)) (F0 m 19 ls []) := by
    intro  H locs ls Z hl h
    rw [ej19] at h
    try dsimp only at h
    refine lv_iconst (v := 0) hx hb dX11_isSort_19 (by decide) ?_
    exact ze_z F Z hr hlocks (by decide) h rfl dX11_isSort_20
  refine zb_iflt (tgt := 19) hx hb dX11_isSort_1 (by decide) h (fun h => ?_) (fun h => ?_)
  · exact hj19  _ _ _ Z (lv_sub hl [] rfl) h
  · refine lv_iload_n hx hb dX11_isSort_4 rfl (lv_at hl 1 rfl) ?_
    refine lv_aload_n hx hb dX11_isSort_5 rfl (lv_at hl 0 rfl) ?_
    refine zw_getR F Z zC11 (a := 0) (k := 3) (by decide) zs_0 (by decide) rfl zg_0_3 zq537 (Or.inl rfl) dX11_isSort_6 ?_
    refine zw_getI F Z zC0 (a := 3) (k := 1) (by decide) zs_3 (by decide) rfl zq139 (Or.inl rfl) dX11_isSort_9 ?_
    refine zb_icge (tgt := 19) hx hb dX11_isSort_12 (by decide) h (fun h => ?_) (fun h => ?_)
    · exact hj19  _ _ _ Z (lv_sub hl [] rfl) h
    · refine lv_iconst (v := 1) hx hb dX11_isSort_15 (by decide) ?_
      refine lv_goto (tgt := 20) hx hb dX11_isSort_16 (by decide) ?_
      exact ze_z F Z hr hlocks (by decide) h rfl dX11_isSort_20
set_option maxHeartbeats 4000000 in
set_option maxRecDepth 100000 in
theorem zcX8_waiting (l : Launch) (D : va_G) (A0 : Nat) (q0 : Nat) (x1 : Int32) (hq0 : zIsS q0) (σ : Mm) (r0 : Int32) (h : zfX8_waiting q0 x1 σ = some r0) : Met l yX8_waiting (zws yX8_waiting cX8_waiting 5 (some .int)) (zR 0 0) (zPc D A0 σ GF 740 [.ref (A0 + q0), .int x1]) (zQi D A0 r0 σ GF 740) 0 0 (zA A0) := by
  unfold zfX8_waiting at h
  refine zmet (own := RX8) (by decide) rfl (Nat.le_of_ble_eq_true rfl) ?_
  intro p e s m below meth c F hr hlocks _ Z ls hl
  have hl : lv_has ls 5 [(0, .ref (A0 + q0)), (1, .int x1)] := hl
  have hx := F.1.1
  have hb := F.1.2.1
  have hown := F.1.2.2.2.1
  have hts := F.1.2.2.2.2
  refine lv_iconst (v := 0) hx hb dX8_waiting_0 (by decide) ?_
  refine lv_istore_n (lv' := [(2, .int 0), (0, .ref (A0 + q0)), (1, .int x1)]) hx hb dX8_waiting_1 rfl hl (by decide) rfl (fun ls hl => ?_)
  refine lv_iconst (v := 1) hx hb dX8_waiting_2 (by decide) ?_
  refine lv_istore_n (lv' := [(3, .int 1), (2, .int 0), (0, .ref (A0 + q0)), (1, .int x1)]) hx hb dX8_waiting_3 rfl hl (by decide) rfl (fun ls hl => ?_)
  obtain ⟨k47, ek47, h⟩ := lt_x h
  have hk47 : ∀ (x2_47 : Int32) (H : Heap) (locs : List Loc) (ls : Array Slot), zh D A0 σ GF 740 s.heap H locs → lv_has ls 5 [(2, .int x2_47)] → k47 x2_47 = some r0 → W p l e (zR 0 0) s m [.ref (A0 + q0), .int x1].toArray below meth c H locs 0 0 (MQ below (zQi D A0 r0 σ GF 740) [.ref (A0 + q0), .int x1].toArray s 0 0 (zA A0)) (F0 m 47 ls []) := by
    intro x2_47 H locs ls Z hl h
    rw [ek47] at h
    try dsimp only at h
    refine lv_iload_n hx hb dX8_waiting_47 rfl (lv_at hl 0 rfl) ?_
    have hq := Option.some.inj h
    exact ze_i F Z hr hlocks hq rfl dX8_waiting_48
  have hL4 : ∀ (fu4 : Nat) (x2_4 : Int32) (x3_4 : Int32) (H : Heap) (locs : List Loc) (ls : Array Slot), zh D A0 σ GF 740 s.heap H locs → lv_has ls 5 [(0, .ref (A0 + q0)), (1, .int x1), (2, .int x2_4), (3, .int x3_4)] → zfX8_waiting_L4 k47 x1 σ q0 fu4 x2_4 x3_4 = some r0 → W p l e (zR 0 0) s m [.ref (A0 + q0), .int x1].toArray below meth c H locs 0 0 (MQ below (zQi D A0 r0 σ GF 740) [.ref (A0 + q0), .int x1].toArray s 0 0 (zA A0)) (F0 m 4 ls []) := by
    intro fu4
    induction fu4 with
    | zero => intro x2_4 x3_4 H locs ls Z hl h; rw [zfX8_waiting_L4] at h; cases h
    | succ fu4 ih4 =>
      intro x2_4 x3_4 H locs ls Z hl h
      rw [zfX8_waiting_L4] at h
      refine lv_iload_n hx hb dX8_waiting_4 rfl (lv_at hl 3 rfl) ?_
      refine lv_iconst (v := 4) hx hb dX8_waiting_5 (by decide) ?_
      refine zb_icge (tgt := 47) hx hb dX8_waiting_6 (by decide) h (fun h => ?_) (fun h => ?_)
      · exact hk47 x2_4 _ _ _ Z (lv_sub hl [2] rfl) h
      · refine lv_iload_n hx hb dX8_waiting_9 rfl (lv_at hl 1 rfl) ?_
        refine lv_iconst (v := 4) hx hb dX8_waiting_10 (by decide) ?_
        refine lv_imul hx hb dX8_waiting_11 ?_
        refine lv_iload_n hx hb dX8_waiting_12 rfl (lv_at hl 3 rfl) ?_
        refine lv_iadd hx hb dX8_waiting_13 ?_
        refine lv_topi (fun x4_14 ex4_14 => ?_)
        replace h := lt_w h ex4_14
        refine lv_istore (lv' := [(4, .int x4_14), (0, .ref (A0 + q0)), (1, .int x1), (2, .int x2_4), (3, .int x3_4)]) hx hb dX8_waiting_14 hl (by decide) rfl (fun ls hl => ?_)
        refine lv_iload hx hb dX8_waiting_16 (lv_at hl 0 rfl) ?_
        obtain ⟨j41, ej41, h⟩ := lt_x h
        have hj41 : ∀ (x2_41 : Int32) (H : Heap) (locs : List Loc) (ls : Array Slot), zh D A0 σ GF 740 s.heap H locs → lv_has ls 5 [(0, .ref (A0 + q0)), (1, .int x1), (2, .int x2_41), (3, .int x3_4)] → j41 x2_41 = some r0 → W p l e (zR 0 0) s m [.ref (A0 + q0), .int x1].toArray below meth c H locs 0 0 (MQ below (zQi D A0 r0 σ GF 740) [.ref (A0 + q0), .int x1].toArray s 0 0 (zA A0)) (F0 m 41 ls []) := by
          intro x2_41 H locs ls Z hl h
          rw [ej41] at h
          try dsimp only at h
          obtain ⟨x3_41, ex3_41⟩ : ∃ y : Int32, y = x3_4 + 1 := ⟨_, rfl⟩
          replace h := lt_w h ex3_41
          refine lv_iinc (v := x3_41) (lv' := [(3, .int x3_41), (0, .ref (A0 + q0)), (1, .int x1), (2, .int x2_41)]) hx hb dX8_waiting_41 hl (k := 3) rfl (by rw [ex3_41]; rfl) (by decide) rfl (fun ls hl => ?_)
          refine lv_goto (tgt := 4) hx hb dX8_waiting_44 (by decide) ?_
          exact ih4 x2_41 x3_41 _ _ _ Z (lv_sub hl [1, 2, 3, 0] rfl) h
        refine zb_iflt (tgt := 41) hx hb dX8_waiting_18 (by decide) h (fun h => ?_) (fun h => ?_)
        · exact hj41 x2_4 _ _ _ Z (lv_sub hl [1, 2, 3, 4] rfl) h
        · refine lv_iload hx hb dX8_waiting_21 (lv_at hl 0 rfl) ?_
          refine lv_aload_n hx hb dX8_waiting_23 rfl (lv_at hl 1 rfl) ?_
          refine zw_getR F Z zC8 (a := q0) (k := 11) (zltS_0 hq0) (zsS_0 hq0) (by decide) rfl (zgS_11 hq0) zq258 (Or.inl rfl) dX8_waiting_24 ?_
          refine zw_alen F Z (ty := 0) (v := 24) (zltS_7 hq0) (zsS_7 hq0) rfl rfl dX8_waiting_27 ?_
          refine zb_icge (tgt := 41) hx hb dX8_waiting_28 (by decide) h (fun h => ?_) (fun h => ?_)
          · exact hj41 x2_4 _ _ _ Z (lv_sub hl [1, 2, 3, 4] rfl) h
          · refine lv_iload_n hx hb dX8_waiting_31 rfl (lv_at hl 3 rfl) ?_
            refine lv_aload_n hx hb dX8_waiting_32 rfl (lv_at hl 1 rfl) ?_
            refine zw_getR F Z zC8 (a := q0) (k := 11) (zltS_0 hq0) (zsS_0 hq0) (by decide) rfl (zgS_11 hq0) zq258 (Or.inl rfl) dX8_waiting_33 ?_
            refine lv_iload hx hb dX8_waiting_36 (lv_at hl 0 rfl) ?_
            obtain ⟨hk38, h⟩ := ck_x h
            refine zw_iald F Z (zltS_7 hq0) (zsS_7 hq0) hk38 dX8_waiting_38 ?_
            refine lv_iadd hx hb dX8_waiting_39 ?_
            refine lv_topi (fun x2_40 ex2_40 => ?_)
            replace h := lt_w h ex2_40
            refine lv_istore_n (lv' := [(2, .int x2_40), (4, .int x4_14), (0, .ref (A0 + q0)), (1, .int x1), (3, .int x3_4)]) hx hb dX8_waiting_40 rfl hl (by decide) rfl (fun ls hl => ?_)
            exact hj41 x2_40 _ _ _ Z (lv_sub hl [2, 3, 0, 4] rfl) h
  exact hL4 NF 0 1 _ _ _ Z (lv_sub hl [2, 3, 1, 0] rfl) h
set_option maxHeartbeats 4000000 in
set_option maxRecDepth 100000 in
theorem zcX11_buyers (l : Launch) (D : va_G) (A0 : Nat) (x1 : Int32) (x2 : Int32) (σ : Mm) (r0 : Int32) (h : zfX11_buyers x1 x2 σ = some r0) : Met l yX11_buyers (zws yX11_buyers cX11_buyers 3 (some .int)) (zR 1 24) (zPc D A0 σ GF 740 [.ref (A0 + 0), .int x1, .int x2]) (zQi D A0 r0 σ GF 740) 0 0 (zA A0) := by
  unfold zfX11_buyers at h
  refine zmet (own := RX11) (by decide) rfl (Nat.le_of_ble_eq_true rfl) ?_
  intro p e s m below meth c F hr hlocks _ Z ls hl
  have hl : lv_has ls 3 [(0, .ref (A0 + 0)), (1, .int x1), (2, .int x2)] := hl
  have hx := F.1.1
  have hb := F.1.2.1
  have hown := F.1.2.2.2.1
  have hts := F.1.2.2.2.2
  refine lv_aload_n hx hb dX11_buyers_0 rfl (lv_at hl 0 rfl) ?_
  refine lv_iload_n hx hb dX11_buyers_1 rfl (lv_at hl 1 rfl) ?_
  refine zc_i Z (zr_V F Z (a := 0) (As := [.int x1]) (zcX11_isSort l D A0 x1 σ (zfX11_isSort x1 σ) rfl) zBX11_isSort zq814 (by decide) zs_0 zC11.1 rfl ⟨⟨rfl, rfl⟩, Nat.le_of_ble_eq_true rfl, Nat.le_of_ble_eq_true rfl⟩ hl.1 rfl (Nat.le_of_ble_eq_true rfl) dX11_buyers_2 ⟨Nat.le_of_ble_eq_true rfl, Nat.le_of_ble_eq_true rfl⟩) (fun _ _ Z => ?_)
  refine zb_ifne (tgt := 10) hx hb dX11_buyers_5 (by decide) h (fun h => ?_) (fun h => ?_)
  · refine lv_iload_n hx hb dX11_buyers_10 rfl (lv_at hl 2 rfl) ?_
    refine zsp h (fun hs11_0 h => ?_) (fun hs11_0 h => ?_)
    · refine lv_tableIn (tgt := 40) (off := 29) hx hb dX11_buyers_11 (by rw [hs11_0]; decide) (by rw [hs11_0]; decide) (by first | (rw [hs11_0]; done) | (rw [hs11_0]; rfl)) (by decide) ?_
      refine lv_aload_n hx hb dX11_buyers_40 rfl (lv_at hl 0 rfl) ?_
      refine zw_getR F Z zC11 (a := 0) (k := 3) (by decide) zs_0 (by decide) rfl zg_0_3 zq537 (Or.inl rfl) dX11_buyers_41 ?_
      refine zw_getR F Z zC0 (a := 3) (k := 8) (by decide) zs_3 (by decide) rfl zg_3_8 zq159 (Or.inl rfl) dX11_buyers_44 ?_
      refine lv_iload_n hx hb dX11_buyers_47 rfl (lv_at hl 1 rfl) ?_
      obtain ⟨hk48, h⟩ := ck_x h
      refine zw_iald F Z (by decide) zs_7 hk48 dX11_buyers_48 ?_
      have hq := Option.some.inj h
      exact ze_i F Z hr hlocks hq rfl dX11_buyers_49
    · refine zsp h (fun hs11_1 h => ?_) (fun hs11_1 h => ?_)
      · refine lv_tableIn (tgt := 50) (off := 39) hx hb dX11_buyers_11 (by rw [hs11_1]; decide) (by rw [hs11_1]; decide) (by first | (rw [hs11_1]; done) | (rw [hs11_1]; rfl)) (by decide) ?_
        refine lv_aload_n hx hb dX11_buyers_50 rfl (lv_at hl 0 rfl) ?_
        refine zw_getR F Z zC11 (a := 0) (k := 3) (by decide) zs_0 (by decide) rfl zg_0_3 zq537 (Or.inl rfl) dX11_buyers_51 ?_
        refine zw_getR F Z zC0 (a := 3) (k := 9) (by decide) zs_3 (by decide) rfl zg_3_9 zq163 (Or.inl rfl) dX11_buyers_54 ?_
        refine lv_iload_n hx hb dX11_buyers_57 rfl (lv_at hl 1 rfl) ?_
        obtain ⟨hk58, h⟩ := ck_x h
        refine zw_iald F Z (by decide) zs_8 hk58 dX11_buyers_58 ?_
        have hq := Option.some.inj h
        exact ze_i F Z hr hlocks hq rfl dX11_buyers_59
      · refine zsp h (fun hs11_2 h => ?_) (fun hs11_2 h => ?_)
        · refine lv_tableIn (tgt := 60) (off := 49) hx hb dX11_buyers_11 (by rw [hs11_2]; decide) (by rw [hs11_2]; decide) (by first | (rw [hs11_2]; done) | (rw [hs11_2]; rfl)) (by decide) ?_
          refine lv_aload_n hx hb dX11_buyers_60 rfl (lv_at hl 0 rfl) ?_
          refine zw_getR F Z zC11 (a := 0) (k := 3) (by decide) zs_0 (by decide) rfl zg_0_3 zq537 (Or.inl rfl) dX11_buyers_61 ?_
          refine zw_getR F Z zC0 (a := 3) (k := 10) (by decide) zs_3 (by decide) rfl zg_3_10 zq165 (Or.inl rfl) dX11_buyers_64 ?_
          refine lv_iload_n hx hb dX11_buyers_67 rfl (lv_at hl 1 rfl) ?_
          obtain ⟨hk68, h⟩ := ck_x h
          refine zw_iald F Z (by decide) zs_9 hk68 dX11_buyers_68 ?_
          have hq := Option.some.inj h
          exact ze_i F Z hr hlocks hq rfl dX11_buyers_69
        · refine zsp h (fun hs11_3 h => ?_) (fun hs11_3 h => ?_)
          · refine lv_tableIn (tgt := 70) (off := 59) hx hb dX11_buyers_11 (by rw [hs11_3]; decide) (by rw [hs11_3]; decide) (by first | (rw [hs11_3]; done) | (rw [hs11_3]; rfl)) (by decide) ?_
            refine lv_aload_n hx hb dX11_buyers_70 rfl (lv_at hl 0 rfl) ?_
            refine zw_getR F Z zC11 (a := 0) (k := 7) (by decide) zs_0 (by decide) rfl zg_0_7 zq541 (Or.inl rfl) dX11_buyers_71 ?_
            refine lv_iload_n hx hb dX11_buyers_74 rfl (lv_at hl 1 rfl) ?_
            obtain ⟨r75, hc75, h⟩ := bd_x h
            refine zc_i Z (zr_V F Z (a := 27) (As := [.int x1]) (zcX8_waiting l D A0 27 x1 (Or.inl rfl) σ r75 hc75) zBX8_waiting zq818 (by decide) zs_27 zC8.1 rfl ⟨⟨rfl, rfl⟩, Nat.le_of_ble_eq_true rfl, Nat.le_of_ble_eq_true rfl⟩ hl.1 rfl (Nat.le_of_ble_eq_true rfl) dX11_buyers_75 ⟨Nat.le_of_ble_eq_true rfl, Nat.le_of_ble_eq_true rfl⟩) (fun _ _ Z => ?_)
            have hq := Option.some.inj h
            exact ze_i F Z hr hlocks hq rfl dX11_buyers_78
          · refine lv_tableOut (tgt := 79) hx hb dX11_buyers_11 (by have n0 := lv_neT hs11_0 (a := 0) (by decide); have n1 := lv_neT hs11_1 (a := 1) (by decide); have n2 := lv_neT hs11_2 (a := 2) (by decide); have n3 := lv_neT hs11_3 (a := 3) (by decide); omega) (by decide) ?_
            refine lv_iconst (v := (-1)) hx hb dX11_buyers_79 (by decide) ?_
            have hq := Option.some.inj h
            exact ze_i F Z hr hlocks hq rfl dX11_buyers_80
  · refine lv_iconst (v := (-1)) hx hb dX11_buyers_8 (by decide) ?_
    have hq := Option.some.inj h
    exact ze_i F Z hr hlocks hq rfl dX11_buyers_9
set_option maxHeartbeats 4000000 in
set_option maxRecDepth 100000 in
theorem zcX11_rule (l : Launch) (D : va_G) (A0 : Nat) (x1 : Int32) (x2 : Int32) (σ : Mm) (r0 : Int32) (σr : Mm) (h : zfX11_rule x1 x2 σ = some (r0, σr)) : Met l yX11_rule (zws yX11_rule cX11_rule 3 (some .boolean)) (zR 1 21) (zPc D A0 σ GF 740 [.ref (A0 + 0), .int x1, .int x2]) (zQi D A0 r0 σr GF 740) 0 0 (zA A0) := by
  unfold zfX11_rule at h
  refine zmet (own := RX11) (by decide) rfl (Nat.le_of_ble_eq_true rfl) ?_
  intro p e s m below meth c F hr hlocks _ Z ls hl
  have hl : lv_has ls 3 [(0, .ref (A0 + 0)), (1, .int x1), (2, .int x2)] := hl
  have hx := F.1.1
  have hb := F.1.2.1
  have hown := F.1.2.2.2.1
  have hts := F.1.2.2.2.2
  refine lv_aload_n hx hb dX11_rule_0 rfl (lv_at hl 0 rfl) ?_
  refine lv_iload_n hx hb dX11_rule_1 rfl (lv_at hl 1 rfl) ?_
  refine zc_i Z (zr_V F Z (a := 0) (As := [.int x1]) (zcX11_isSeller l D A0 x1 σ (zfX11_isSeller x1 σ) rfl) zBX11_isSeller zq826 (by decide) zs_0 zC11.1 rfl ⟨⟨rfl, rfl⟩, Nat.le_of_ble_eq_true rfl, Nat.le_of_ble_eq_true rfl⟩ hl.1 rfl (Nat.le_of_ble_eq_true rfl) dX11_rule_2 ⟨Nat.le_of_ble_eq_true rfl, Nat.le_of_ble_eq_true rfl⟩) (fun _ _ Z => ?_)
  obtain ⟨j21, ej21, h⟩ := lt_x h
  have hj21 : ∀ (σ21 : Mm) (H : Heap) (locs : List Loc) (ls : Array Slot), zh D A0 σ21 GF 740 s.heap H locs → lv_has ls 3 [] → j21 σ21 = some (r0, σr) → W p l e (zR 1 21) s m [.ref (A0 + 0), .int x1, .int x2].toArray below meth c H locs 0 0 (MQ below (zQi D A0 r0 σr GF 740) [.ref (A0 + 0), .int x1, .int x2].toArray s 0 0 (zA A0)) (F0 m 21 ls []) := by
    intro  σ21 H locs ls Z hl h
    rw [ej21] at h
    try dsimp only at h
    refine lv_iconst (v := 0) hx hb dX11_rule_21 (by decide) ?_
    obtain ⟨hq1, hq2⟩ := zpq h
    exact ze_z F Z hr hlocks (by decide) hq1 hq2 dX11_rule_22
  refine zb_ifeq (tgt := 21) hx hb dX11_rule_5 (by decide) h (fun h => ?_) (fun h => ?_)
  · exact hj21 σ _ _ _ Z (lv_sub hl [] rfl) h
  · refine lv_iload_n hx hb dX11_rule_8 rfl (lv_at hl 2 rfl) ?_
    refine lv_iconst (v := (-1)) hx hb dX11_rule_9 (by decide) ?_
    refine zb_iclt (tgt := 21) hx hb dX11_rule_10 (by decide) h (fun h => ?_) (fun h => ?_)
    · exact hj21 σ _ _ _ Z (lv_sub hl [] rfl) h
    · refine lv_iload_n hx hb dX11_rule_13 rfl (lv_at hl 2 rfl) ?_
      refine lv_aload_n hx hb dX11_rule_14 rfl (lv_at hl 0 rfl) ?_
      refine zw_getI F Z zC11 (a := 0) (k := 14) (by decide) zs_0 (by decide) rfl zq548 (Or.inl rfl) dX11_rule_15 ?_
      refine zb_iclt (tgt := 23) hx hb dX11_rule_18 (by decide) h (fun h => ?_) (fun h => ?_)
      · refine lv_aload_n hx hb dX11_rule_23 rfl (lv_at hl 0 rfl) ?_
        refine zw_getR F Z zC11 (a := 0) (k := 7) (by decide) zs_0 (by decide) rfl zg_0_7 zq541 (Or.inl rfl) dX11_rule_24 ?_
        refine zw_getR F Z zC8 (a := 27) (k := 10) (by decide) zs_27 (by decide) rfl zg_27_10 zq257 (Or.inl rfl) dX11_rule_27 ?_
        refine lv_iload_n hx hb dX11_rule_30 rfl (lv_at hl 1 rfl) ?_
        refine lv_iload_n hx hb dX11_rule_31 rfl (lv_at hl 2 rfl) ?_
        obtain ⟨hk32, h⟩ := ck_x h
        refine zw_iast F Z (by decide) zs_33 hk32 dX11_rule_32 (fun σ32 _ _ eσ32 Z => ?_)
        replace h := lt_w h eσ32
        refine lv_iconst (v := 1) hx hb dX11_rule_33 (by decide) ?_
        obtain ⟨hq1, hq2⟩ := zpq h
        exact ze_z F Z hr hlocks (by decide) hq1 hq2 dX11_rule_34
      · exact hj21 σ _ _ _ Z (lv_sub hl [] rfl) h
set_option maxHeartbeats 4000000 in
set_option maxRecDepth 100000 in
theorem zcX8_setHolding (l : Launch) (D : va_G) (A0 : Nat) (q0 : Nat) (x1 : Int32) (x2 : Int32) (hq0 : zIsS q0) (σ : Mm) (σr : Mm) (h : zfX8_setHolding q0 x1 x2 σ = some σr) : Met l yX8_setHolding (zws yX8_setHolding cX8_setHolding 3 none) (zR 0 0) (zPc D A0 σ GF 740 [.ref (A0 + q0), .int x1, .int x2]) (zQv D A0 σr GF 740) 0 0 (zA A0) := by
  unfold zfX8_setHolding at h
  refine zmet (own := RX8) (by decide) rfl (Nat.le_of_ble_eq_true rfl) ?_
  intro p e s m below meth c F hr hlocks _ Z ls hl
  have hl : lv_has ls 3 [(0, .ref (A0 + q0)), (1, .int x1), (2, .int x2)] := hl
  have hx := F.1.1
  have hb := F.1.2.1
  have hown := F.1.2.2.2.1
  have hts := F.1.2.2.2.2
  refine lv_aload_n hx hb dX8_setHolding_0 rfl (lv_at hl 0 rfl) ?_
  refine lv_iload_n hx hb dX8_setHolding_1 rfl (lv_at hl 2 rfl) ?_
  obtain ⟨j26, ej26, h⟩ := lt_x h
  have hj26 : ∀ (y0_26 : Int32) (σ26 : Mm) (H : Heap) (locs : List Loc) (ls : Array Slot), zh D A0 σ26 GF 740 s.heap H locs → lv_has ls 3 [] → j26 y0_26 σ26 = some σr → W p l e (zR 0 0) s m [.ref (A0 + q0), .int x1, .int x2].toArray below meth c H locs 0 0 (MQ below (zQv D A0 σr GF 740) [.ref (A0 + q0), .int x1, .int x2].toArray s 0 0 (zA A0)) (F0 m 26 ls [.int y0_26, .ref (A0 + q0)]) := by
    intro y0_26 σ26 H locs ls Z hl h
    rw [ej26] at h
    try dsimp only at h
    refine zw_putI F Z zC8 (a := q0) (k := 3) (zltS_0 hq0) (zsS_0 hq0) (by decide) rfl (by decide) zq229 (Or.inl rfl) rfl ⟨rfl, rfl⟩ dX8_setHolding_26 (fun σ26_1 _ _ eσ26_1 Z => ?_)
    replace h := lt_w h eσ26_1
    have hq := Option.some.inj h
    exact ze_v F Z hr hlocks hq dX8_setHolding_29
  refine zb_ifeq (tgt := 16) hx hb dX8_setHolding_2 (by decide) h (fun h => ?_) (fun h => ?_)
  · refine lv_aload_n hx hb dX8_setHolding_16 rfl (lv_at hl 0 rfl) ?_
    refine zw_getI F Z zC8 (a := q0) (k := 3) (zltS_0 hq0) (zsS_0 hq0) (by decide) rfl zq229 (Or.inl rfl) dX8_setHolding_17 ?_
    refine lv_iconst (v := 1) hx hb dX8_setHolding_20 (by decide) ?_
    refine lv_iload_n hx hb dX8_setHolding_21 rfl (lv_at hl 1 rfl) ?_
    refine lv_ishl hx hb dX8_setHolding_22 ?_
    refine lv_iconst (v := (-1)) hx hb dX8_setHolding_23 (by decide) ?_
    refine lv_ixor hx hb dX8_setHolding_24 ?_
    refine lv_iand hx hb dX8_setHolding_25 ?_
    exact hj26 ((σ q0 3) &&& (((1 : Int32) <<< (x1 &&& 31)) ^^^ (-1))) σ _ _ _ Z (lv_sub hl [] rfl) h
  · refine lv_aload_n hx hb dX8_setHolding_5 rfl (lv_at hl 0 rfl) ?_
    refine zw_getI F Z zC8 (a := q0) (k := 3) (zltS_0 hq0) (zsS_0 hq0) (by decide) rfl zq229 (Or.inl rfl) dX8_setHolding_6 ?_
    refine lv_iconst (v := 1) hx hb dX8_setHolding_9 (by decide) ?_
    refine lv_iload_n hx hb dX8_setHolding_10 rfl (lv_at hl 1 rfl) ?_
    refine lv_ishl hx hb dX8_setHolding_11 ?_
    refine lv_ior hx hb dX8_setHolding_12 ?_
    refine lv_goto (tgt := 26) hx hb dX8_setHolding_13 (by decide) ?_
    exact hj26 ((σ q0 3) ||| ((1 : Int32) <<< (x1 &&& 31))) σ _ _ _ Z (lv_sub hl [] rfl) h
set_option maxHeartbeats 4000000 in
set_option maxRecDepth 100000 in
theorem zcX11_hold (l : Launch) (D : va_G) (A0 : Nat) (x1 : Int32) (x2 : Int32) (σ : Mm) (r0 : Int32) (σr : Mm) (h : zfX11_hold x1 x2 σ = some (r0, σr)) : Met l yX11_hold (zws yX11_hold cX11_hold 3 (some .boolean)) (zR 1 22) (zPc D A0 σ GF 740 [.ref (A0 + 0), .int x1, .int x2]) (zQi D A0 r0 σr GF 740) 0 0 (zA A0) := by
  unfold zfX11_hold at h
  refine zmet (own := RX11) (by decide) rfl (Nat.le_of_ble_eq_true rfl) ?_
  intro p e s m below meth c F hr hlocks _ Z ls hl
  have hl : lv_has ls 3 [(0, .ref (A0 + 0)), (1, .int x1), (2, .int x2)] := hl
  have hx := F.1.1
  have hb := F.1.2.1
  have hown := F.1.2.2.2.1
  have hts := F.1.2.2.2.2
  refine lv_aload_n hx hb dX11_hold_0 rfl (lv_at hl 0 rfl) ?_
  refine lv_iload_n hx hb dX11_hold_1 rfl (lv_at hl 1 rfl) ?_
  refine zc_i Z (zr_V F Z (a := 0) (As := [.int x1]) (zcX11_isSeller l D A0 x1 σ (zfX11_isSeller x1 σ) rfl) zBX11_isSeller zq826 (by decide) zs_0 zC11.1 rfl ⟨⟨rfl, rfl⟩, Nat.le_of_ble_eq_true rfl, Nat.le_of_ble_eq_true rfl⟩ hl.1 rfl (Nat.le_of_ble_eq_true rfl) dX11_hold_2 ⟨Nat.le_of_ble_eq_true rfl, Nat.le_of_ble_eq_true rfl⟩) (fun _ _ Z => ?_)
  obtain ⟨j20, ej20, h⟩ := lt_x h
  have hj20 : ∀ (σ20 : Mm) (H : Heap) (locs : List Loc) (ls : Array Slot), zh D A0 σ20 GF 740 s.heap H locs → lv_has ls 3 [] → j20 σ20 = some (r0, σr) → W p l e (zR 1 22) s m [.ref (A0 + 0), .int x1, .int x2].toArray below meth c H locs 0 0 (MQ below (zQi D A0 r0 σr GF 740) [.ref (A0 + 0), .int x1, .int x2].toArray s 0 0 (zA A0)) (F0 m 20 ls []) := by
    intro  σ20 H locs ls Z hl h
    rw [ej20] at h
    try dsimp only at h
    refine lv_iconst (v := 0) hx hb dX11_hold_20 (by decide) ?_
    obtain ⟨hq1, hq2⟩ := zpq h
    exact ze_z F Z hr hlocks (by decide) hq1 hq2 dX11_hold_21
  refine zb_ifeq (tgt := 20) hx hb dX11_hold_5 (by decide) h (fun h => ?_) (fun h => ?_)
  · exact hj20 σ _ _ _ Z (lv_sub hl [] rfl) h
  · refine lv_aload_n hx hb dX11_hold_8 rfl (lv_at hl 0 rfl) ?_
    refine zw_getR F Z zC11 (a := 0) (k := 7) (by decide) zs_0 (by decide) rfl zg_0_7 zq541 (Or.inl rfl) dX11_hold_9 ?_
    refine lv_iload_n hx hb dX11_hold_12 rfl (lv_at hl 1 rfl) ?_
    refine zc_i Z (zr_V F Z (a := 27) (As := [.int x1]) (zcX8_isHolding l D A0 27 x1 (Or.inl rfl) σ (zfX8_isHolding 27 x1 σ) rfl) zBX8_isHolding zq834 (by decide) zs_27 zC8.1 rfl ⟨⟨rfl, rfl⟩, Nat.le_of_ble_eq_true rfl, Nat.le_of_ble_eq_true rfl⟩ hl.1 rfl (Nat.le_of_ble_eq_true rfl) dX11_hold_13 ⟨Nat.le_of_ble_eq_true rfl, Nat.le_of_ble_eq_true rfl⟩) (fun _ _ Z => ?_)
    refine lv_iload_n hx hb dX11_hold_16 rfl (lv_at hl 2 rfl) ?_
    refine zb_icne (tgt := 22) hx hb dX11_hold_17 (by decide) h (fun h => ?_) (fun h => ?_)
    · refine lv_aload_n hx hb dX11_hold_22 rfl (lv_at hl 0 rfl) ?_
      refine zw_getR F Z zC11 (a := 0) (k := 7) (by decide) zs_0 (by decide) rfl zg_0_7 zq541 (Or.inl rfl) dX11_hold_23 ?_
      refine lv_iload_n hx hb dX11_hold_26 rfl (lv_at hl 1 rfl) ?_
      refine lv_iload_n hx hb dX11_hold_27 rfl (lv_at hl 2 rfl) ?_
      obtain ⟨σ28, hc28, h⟩ := bd_x h
      refine zc_v Z (zr_V F Z (a := 27) (As := [.int x1, .int x2]) (zcX8_setHolding l D A0 27 x1 x2 (Or.inl rfl) σ σ28 hc28) zBX8_setHolding zq838 (by decide) zs_27 zC8.1 rfl ⟨⟨rfl, rfl⟩, Nat.le_of_ble_eq_true rfl, Nat.le_of_ble_eq_true rfl⟩ hl.1 rfl (Nat.le_of_ble_eq_true rfl) dX11_hold_28 ⟨Nat.le_of_ble_eq_true rfl, Nat.le_of_ble_eq_true rfl⟩) (fun _ _ Z => ?_)
      refine lv_iconst (v := 1) hx hb dX11_hold_31 (by decide) ?_
      obtain ⟨hq1, hq2⟩ := zpq h
      exact ze_z F Z hr hlocks (by decide) hq1 hq2 dX11_hold_32
    · exact hj20 σ _ _ _ Z (lv_sub hl [] rfl) h
set_option maxHeartbeats 4000000 in
set_option maxRecDepth 100000 in
theorem zcX11_risk (l : Launch) (D : va_G) (A0 : Nat) (x1 : Int32) (σ : Mm) (r0 : Int32) (σr : Mm) (h : zfX11_risk x1 σ = some (r0, σr)) : Met l yX11_risk (zws yX11_risk cX11_risk 2 (some .boolean)) (zR 0 0) (zPc D A0 σ GF 740 [.ref (A0 + 0), .int x1]) (zQi D A0 r0 σr GF 740) 0 0 (zA A0) := by
  unfold zfX11_risk at h
  refine zmet (own := RX11) (by decide) rfl (Nat.le_of_ble_eq_true rfl) ?_
  intro p e s m below meth c F hr hlocks _ Z ls hl
  have hl : lv_has ls 2 [(0, .ref (A0 + 0)), (1, .int x1)] := hl
  have hx := F.1.1
  have hb := F.1.2.1
  have hown := F.1.2.2.2.1
  have hts := F.1.2.2.2.2
  refine lv_iload_n hx hb dX11_risk_0 rfl (lv_at hl 1 rfl) ?_
  obtain ⟨j10, ej10, h⟩ := lt_x h
  have hj10 : ∀ (σ10 : Mm) (H : Heap) (locs : List Loc) (ls : Array Slot), zh D A0 σ10 GF 740 s.heap H locs → lv_has ls 2 [] → j10 σ10 = some (r0, σr) → W p l e (zR 0 0) s m [.ref (A0 + 0), .int x1].toArray below meth c H locs 0 0 (MQ below (zQi D A0 r0 σr GF 740) [.ref (A0 + 0), .int x1].toArray s 0 0 (zA A0)) (F0 m 10 ls []) := by
    intro  σ10 H locs ls Z hl h
    rw [ej10] at h
    try dsimp only at h
    refine lv_iconst (v := 0) hx hb dX11_risk_10 (by decide) ?_
    obtain ⟨hq1, hq2⟩ := zpq h
    exact ze_z F Z hr hlocks (by decide) hq1 hq2 dX11_risk_11
  refine zb_iflt (tgt := 10) hx hb dX11_risk_1 (by decide) h (fun h => ?_) (fun h => ?_)
  · exact hj10 σ _ _ _ Z (lv_sub hl [] rfl) h
  · refine lv_iload_n hx hb dX11_risk_4 rfl (lv_at hl 1 rfl) ?_
    refine lv_bipush (v := 100) hx hb dX11_risk_5 (by decide) ?_
    refine zb_icle (tgt := 12) hx hb dX11_risk_7 (by decide) h (fun h => ?_) (fun h => ?_)
    · refine lv_aload_n hx hb dX11_risk_12 rfl (lv_at hl 0 rfl) ?_
      refine lv_iload_n hx hb dX11_risk_13 rfl (lv_at hl 1 rfl) ?_
      refine zw_putI F Z zC11 (a := 0) (k := 15) (by decide) zs_0 (by decide) rfl (by decide) zq549 (Or.inl rfl) rfl ⟨rfl, rfl⟩ dX11_risk_14 (fun σ14 _ _ eσ14 Z => ?_)
      replace h := lt_w h eσ14
      refine lv_iconst (v := 1) hx hb dX11_risk_17 (by decide) ?_
      obtain ⟨hq1, hq2⟩ := zpq h
      exact ze_z F Z hr hlocks (by decide) hq1 hq2 dX11_risk_18
    · exact hj10 σ _ _ _ Z (lv_sub hl [] rfl) h
set_option maxHeartbeats 4000000 in
set_option maxRecDepth 100000 in
theorem zcX11_seed (l : Launch) (D : va_G) (A0 : Nat) (x1 : Int64) (σ : Mm) (r0 : Int32) (σr : Mm) (h : zfX11_seed x1 σ = some (r0, σr)) : Met l yX11_seed (zws yX11_seed cX11_seed 3 (some .boolean)) (zR 0 0) (zPc D A0 σ GF 740 [.ref (A0 + 0), .long x1]) (zQi D A0 r0 σr GF 740) 0 0 (zA A0) := by
  unfold zfX11_seed at h
  refine zmet (own := RX11) (by decide) rfl (Nat.le_of_ble_eq_true rfl) ?_
  intro p e s m below meth c F hr hlocks _ Z ls hl
  have hl : lv_has ls 3 [(0, .ref (A0 + 0)), (1, .long x1)] := hl
  have hx := F.1.1
  have hb := F.1.2.1
  have hown := F.1.2.2.2.1
  have hts := F.1.2.2.2.2
  refine lv_aload_n hx hb dX11_seed_0 rfl (lv_at hl 0 rfl) ?_
  refine zw_getR F Z zC11 (a := 0) (k := 7) (by decide) zs_0 (by decide) rfl zg_0_7 zq541 (Or.inl rfl) dX11_seed_1 ?_
  refine lv_lload_n hx hb dX11_seed_4 rfl (lv_at hl 1 rfl) ?_
  refine zw_putJ F Z zC8 (a := 27) (k := 4) (by decide) zs_27 (by decide) rfl (by decide) zq232 (Or.inl rfl) rfl ⟨rfl, rfl⟩ dX11_seed_5 (fun σ5 _ _ eσ5 Z => ?_)
  replace h := lt_w h eσ5
  refine lv_iconst (v := 1) hx hb dX11_seed_8 (by decide) ?_
  obtain ⟨hq1, hq2⟩ := zpq h
  exact ze_z F Z hr hlocks (by decide) hq1 hq2 dX11_seed_9
set_option maxHeartbeats 4000000 in
set_option maxRecDepth 100000 in
theorem zcX11_noMarket (l : Launch) (D : va_G) (A0 : Nat) (σ : Mm) (r0 : Int32) (h : zfX11_noMarket σ = r0) : Met l yX11_noMarket (zws yX11_noMarket cX11_noMarket 1 (some .boolean)) (zR 0 0) (zPc D A0 σ GF 740 [.ref (A0 + 0)]) (zQi D A0 r0 σ GF 740) 0 0 (zA A0) := by
  unfold zfX11_noMarket at h
  refine zmet (own := RX11) (by decide) rfl (Nat.le_of_ble_eq_true rfl) ?_
  intro p e s m below meth c F hr hlocks _ Z ls hl
  have hl : lv_has ls 1 [(0, .ref (A0 + 0))] := hl
  have hx := F.1.1
  have hb := F.1.2.1
  have hown := F.1.2.2.2.1
  have hts := F.1.2.2.2.2
  refine lv_aload_n hx hb dX11_noMarket_0 rfl (lv_at hl 0 rfl) ?_
  refine zw_getR F Z zC11 (a := 0) (k := 3) (by decide) zs_0 (by decide) rfl zg_0_3 zq537 (Or.inl rfl) dX11_noMarket_1 ?_
  refine zw_getI F Z zC0 (a := 3) (k := 0) (by decide) zs_3 (by decide) rfl zq135 (Or.inl rfl) dX11_noMarket_4 ?_
  refine zb_ifne (tgt := 14) hx hb dX11_noMarket_7 (by decide) h (fun h => ?_) (fun h => ?_)
  · refine lv_iconst (v := 0) hx hb dX11_noMarket_14 (by decide) ?_
    exact ze_z F Z hr hlocks (by decide) h rfl dX11_noMarket_15
  · refine lv_iconst (v := 1) hx hb dX11_noMarket_10 (by decide) ?_
    refine lv_goto (tgt := 15) hx hb dX11_noMarket_11 (by decide) ?_
    exact ze_z F Z hr hlocks (by decide) h rfl dX11_noMarket_15
set_option maxHeartbeats 4000000 in
set_option maxRecDepth 100000 in
theorem zcX11_noDays (l : Launch) (D : va_G) (A0 : Nat) (x1 : Int32) (σ : Mm) (r0 : Int32) (h : zfX11_noDays x1 σ = r0) : Met l yX11_noDays (zws yX11_noDays cX11_noDays 2 (some .boolean)) (zR 1 20) (zPc D A0 σ GF 740 [.ref (A0 + 0), .int x1]) (zQi D A0 r0 σ GF 740) 0 0 (zA A0) := by
  unfold zfX11_noDays at h
  refine zmet (own := RX11) (by decide) rfl (Nat.le_of_ble_eq_true rfl) ?_
  intro p e s m below meth c F hr hlocks _ Z ls hl
  have hl : lv_has ls 2 [(0, .ref (A0 + 0)), (1, .int x1)] := hl
  have hx := F.1.1
  have hb := F.1.2.1
  have hown := F.1.2.2.2.1
  have hts := F.1.2.2.2.2
  refine lv_aload_n hx hb dX11_noDays_0 rfl (lv_at hl 0 rfl) ?_
  refine zc_i Z (zr_V F Z (a := 0) (As := []) (zcX11_noMarket l D A0 σ (zfX11_noMarket σ) rfl) zBX11_noMarket zq858 (by decide) zs_0 zC11.1 rfl ⟨⟨rfl, rfl⟩, Nat.le_of_ble_eq_true rfl, Nat.le_of_ble_eq_true rfl⟩ hl.1 rfl (Nat.le_of_ble_eq_true rfl) dX11_noDays_1 ⟨Nat.le_of_ble_eq_true rfl, Nat.le_of_ble_eq_true rfl⟩) (fun _ _ Z => ?_)
  obtain ⟨j18, ej18, h⟩ := lt_x h
  have hj18 : ∀  (H : Heap) (locs : List Loc) (ls : Array Slot), zh D A0 σ GF 740 s.heap H locs → lv_has ls 2 [] → j18 () = r0 → W p l e (zR 1 20) s m [.ref (A0 + 0), .int x1].toArray below meth c H locs 0 0 (MQ below (zQi D A0 r0 σ GF 740) [.ref (A0 + 0), .int x1].toArray s 0 0 (zA A0)) (F0 m 18 ls []) := by
    intro  H locs ls Z hl h
    rw [ej18] at h
    try dsimp only at h
    refine lv_iconst (v := 1) hx hb dX11_noDays_18 (by decide) ?_
    refine lv_goto (tgt := 23) hx hb dX11_noDays_19 (by decide) ?_
    exact ze_z F Z hr hlocks (by decide) h rfl dX11_noDays_23
  refine zb_ifne (tgt := 18) hx hb dX11_noDays_4 (by decide) h (fun h => ?_) (fun h => ?_)
  · exact hj18  _ _ _ Z (lv_sub hl [] rfl) h
  · refine lv_iload_n hx hb dX11_noDays_7 rfl (lv_at hl 1 rfl) ?_
    refine lv_iconst (v := 1) hx hb dX11_noDays_8 (by decide) ?_
    refine zb_iclt (tgt := 18) hx hb dX11_noDays_9 (by decide) h (fun h => ?_) (fun h => ?_)
    · exact hj18  _ _ _ Z (lv_sub hl [] rfl) h
    · refine lv_iload_n hx hb dX11_noDays_12 rfl (lv_at hl 1 rfl) ?_
      refine lv_bipush (v := 30) hx hb dX11_noDays_13 (by decide) ?_
      refine zb_icle (tgt := 22) hx hb dX11_noDays_15 (by decide) h (fun h => ?_) (fun h => ?_)
      · refine lv_iconst (v := 0) hx hb dX11_noDays_22 (by decide) ?_
        exact ze_z F Z hr hlocks (by decide) h rfl dX11_noDays_23
      · exact hj18  _ _ _ Z (lv_sub hl [] rfl) h
set_option maxHeartbeats 4000000 in
set_option maxRecDepth 100000 in
theorem zcX6_begin (l : Launch) (D : va_G) (A0 : Nat) (σ : Mm) (σr : Mm) (h : zfX6_begin σ = some σr) : Met l yX6_begin (zws yX6_begin cX6_begin 2 none) (zR 0 0) (zPc D A0 σ GF 740 [.ref (A0 + 37)]) (zQv D A0 σr GF 740) 0 0 (zA A0) := by
  unfold zfX6_begin at h
  refine zmet (own := RX6) (by decide) rfl (Nat.le_of_ble_eq_true rfl) ?_
  intro p e s m below meth c F hr hlocks _ Z ls hl
  have hl : lv_has ls 2 [(0, .ref (A0 + 37))] := hl
  have hx := F.1.1
  have hb := F.1.2.1
  have hown := F.1.2.2.2.1
  have hts := F.1.2.2.2.2
  refine lv_aload_n hx hb dX6_begin_0 rfl (lv_at hl 0 rfl) ?_
  refine lv_aload_n hx hb dX6_begin_1 rfl (lv_at hl 0 rfl) ?_
  refine zw_getR F Z zC6 (a := 37) (k := 0) (by decide) zs_37 (by decide) rfl zg_37_0 zq301 (Or.inl rfl) dX6_begin_2 ?_
  refine zw_getI F Z zC0 (a := 3) (k := 0) (by decide) zs_3 (by decide) rfl zq131 (Or.inl rfl) dX6_begin_5 ?_
  refine zw_putI F Z zC6 (a := 37) (k := 5) (by decide) zs_37 (by decide) rfl (by decide) zq311 (Or.inl rfl) rfl ⟨rfl, rfl⟩ dX6_begin_8 (fun σ8 _ _ eσ8 Z => ?_)
  replace h := lt_w h eσ8
  refine lv_aload_n hx hb dX6_begin_11 rfl (lv_at hl 0 rfl) ?_
  refine lv_aload_n hx hb dX6_begin_12 rfl (lv_at hl 0 rfl) ?_
  refine zw_getR F Z zC6 (a := 37) (k := 0) (by decide) zs_37 (by decide) rfl zg_37_0 zq301 (Or.inl rfl) dX6_begin_13 ?_
  refine zw_getI F Z zC0 (a := 3) (k := 3) (by decide) zs_3 (by decide) rfl zq142 (Or.inl rfl) dX6_begin_16 ?_
  refine zw_putI F Z zC6 (a := 37) (k := 4) (by decide) zs_37 (by decide) rfl (by decide) zq309 (Or.inl rfl) rfl ⟨rfl, rfl⟩ dX6_begin_19 (fun σ19 _ _ eσ19 Z => ?_)
  replace h := lt_w h eσ19
  refine lv_iconst (v := 0) hx hb dX6_begin_22 (by decide) ?_
  refine lv_istore_n (lv' := [(1, .int 0), (0, .ref (A0 + 37))]) hx hb dX6_begin_23 rfl hl (by decide) rfl (fun ls hl => ?_)
  obtain ⟨k43, ek43, h⟩ := lt_x h
  have hk43 : ∀ (σ43 : Mm) (H : Heap) (locs : List Loc) (ls : Array Slot), zh D A0 σ43 GF 740 s.heap H locs → lv_has ls 2 [] → k43 σ43 = some σr → W p l e (zR 0 0) s m [.ref (A0 + 37)].toArray below meth c H locs 0 0 (MQ below (zQv D A0 σr GF 740) [.ref (A0 + 37)].toArray s 0 0 (zA A0)) (F0 m 43 ls []) := by
    intro  σ43 H locs ls Z hl h
    rw [ek43] at h
    try dsimp only at h
    have hq := Option.some.inj h
    exact ze_v F Z hr hlocks hq dX6_begin_43
  have hL24 : ∀ (fu24 : Nat) (x1_24 : Int32) (σ24 : Mm) (H : Heap) (locs : List Loc) (ls : Array Slot), zh D A0 σ24 GF 740 s.heap H locs → lv_has ls 2 [(0, .ref (A0 + 37)), (1, .int x1_24)] → zfX6_begin_L24 k43 fu24 x1_24 σ24 = some σr → W p l e (zR 0 0) s m [.ref (A0 + 37)].toArray below meth c H locs 0 0 (MQ below (zQv D A0 σr GF 740) [.ref (A0 + 37)].toArray s 0 0 (zA A0)) (F0 m 24 ls []) := by
    intro fu24
    induction fu24 with
    | zero => intro x1_24 σ24 H locs ls Z hl h; rw [zfX6_begin_L24] at h; cases h
    | succ fu24 ih24 =>
      intro x1_24 σ24 H locs ls Z hl h
      rw [zfX6_begin_L24] at h
      refine lv_iload_n hx hb dX6_begin_24 rfl (lv_at hl 1 rfl) ?_
      refine lv_bipush (v := 6) hx hb dX6_begin_25 (by decide) ?_
      refine zb_icge (tgt := 43) hx hb dX6_begin_27 (by decide) h (fun h => ?_) (fun h => ?_)
      · exact hk43 σ24 _ _ _ Z (lv_sub hl [] rfl) h
      · refine lv_aload_n hx hb dX6_begin_30 rfl (lv_at hl 0 rfl) ?_
        refine zw_getR F Z zC6 (a := 37) (k := 2) (by decide) zs_37 (by decide) rfl zg_37_2 zq303 (Or.inl rfl) dX6_begin_31 ?_
        refine lv_iload_n hx hb dX6_begin_34 rfl (lv_at hl 1 rfl) ?_
        refine lv_iconst (v := (-1)) hx hb dX6_begin_35 (by decide) ?_
        obtain ⟨hk36, h⟩ := ck_x h
        refine zw_iast F Z (by decide) zs_38 hk36 dX6_begin_36 (fun σ36 _ _ eσ36 Z => ?_)
        replace h := lt_w h eσ36
        obtain ⟨x1_37, ex1_37⟩ : ∃ y : Int32, y = x1_24 + 1 := ⟨_, rfl⟩
        replace h := lt_w h ex1_37
        refine lv_iinc (v := x1_37) (lv' := [(1, .int x1_37), (0, .ref (A0 + 37))]) hx hb dX6_begin_37 hl (k := 1) rfl (by rw [ex1_37]; rfl) (by decide) rfl (fun ls hl => ?_)
        refine lv_goto (tgt := 24) hx hb dX6_begin_40 (by decide) ?_
        exact ih24 x1_37 σ36 _ _ _ Z (lv_sub hl [1, 0] rfl) h
  exact hL24 NF 0 σ19 _ _ _ Z (lv_sub hl [1, 0] rfl) h
set_option maxHeartbeats 4000000 in
set_option maxRecDepth 100000 in
theorem zcX8_draw (l : Launch) (D : va_G) (A0 : Nat) (q0 : Nat) (hq0 : zIsS q0) (σ : Mm) (r0 : Int32) (σr : Mm) (h : zfX8_draw q0 σ = some (r0, σr)) : Met l yX8_draw (zws yX8_draw cX8_draw 1 (some .int)) (zR 0 0) (zPc D A0 σ GF 740 [.ref (A0 + q0)]) (zQi D A0 r0 σr GF 740) 0 0 (zA A0) := by
  unfold zfX8_draw at h
  refine zmet (own := RX8) (by decide) rfl (Nat.le_of_ble_eq_true rfl) ?_
  intro p e s m below meth c F hr hlocks _ Z ls hl
  have hl : lv_has ls 1 [(0, .ref (A0 + q0))] := hl
  have hx := F.1.1
  have hb := F.1.2.1
  have hown := F.1.2.2.2.1
  have hts := F.1.2.2.2.2
  refine lv_aload_n hx hb dX8_draw_0 rfl (lv_at hl 0 rfl) ?_
  refine lv_aload_n hx hb dX8_draw_1 rfl (lv_at hl 0 rfl) ?_
  refine zw_getJ F Z zC8 (a := q0) (k := 4) (zltS_0 hq0) (zsS_0 hq0) (by decide) rfl zq231 (Or.inl rfl) dX8_draw_2 ?_
  refine lv_ldc2 (v := 6364136223846793005) hx hb hown (hts _ zq870) dX8_draw_5 ?_
  refine lv_lmul hx hb dX8_draw_8 ?_
  refine lv_ldc2 (v := 1442695040888963407) hx hb hown (hts _ zq871) dX8_draw_9 ?_
  refine lv_ladd hx hb dX8_draw_12 ?_
  refine zw_putJ F Z zC8 (a := q0) (k := 4) (zltS_0 hq0) (zsS_0 hq0) (by decide) rfl (by decide) zq231 (Or.inl rfl) rfl ⟨rfl, rfl⟩ dX8_draw_13 (fun σ13 _ _ eσ13 Z => ?_)
  replace h := lt_w h eσ13
  refine lv_aload_n hx hb dX8_draw_16 rfl (lv_at hl 0 rfl) ?_
  refine zw_getJ F Z zC8 (a := q0) (k := 4) (zltS_0 hq0) (zsS_0 hq0) (by decide) rfl zq231 (Or.inl rfl) dX8_draw_17 ?_
  refine lv_bipush (v := 33) hx hb dX8_draw_20 (by decide) ?_
  refine lv_lushr hx hb dX8_draw_22 rfl ?_
  refine lv_ldc2 (v := 100) hx hb hown (hts _ zq872) dX8_draw_23 ?_
  refine lv_lrem hx hb dX8_draw_26 (by decide) ?_
  refine lv_l2i hx hb dX8_draw_27 rfl ?_
  obtain ⟨hq1, hq2⟩ := zpq h
  exact ze_i F Z hr hlocks hq1 hq2 dX8_draw_28
set_option maxHeartbeats 4000000 in
set_option maxRecDepth 100000 in
theorem zcX6_openDay (l : Launch) (D : va_G) (A0 : Nat) (q1 : Nat) (x2 : Int32) (hq1 : zIsS q1) (σ : Mm) (r0 : Int32) (σr : Mm) (h : zfX6_openDay q1 x2 σ = some (r0, σr)) : Met l yX6_openDay (zws yX6_openDay cX6_openDay 6 (some .int)) (zR 1 40) (zPc D A0 σ GF 740 [.ref (A0 + 37), .ref (A0 + q1), .int x2]) (zQi D A0 r0 σr GF 740) 0 0 (zA A0) := by
  unfold zfX6_openDay at h
  refine zmet (own := RX6) (by decide) rfl (Nat.le_of_ble_eq_true rfl) ?_
  intro p e s m below meth c F hr hlocks _ Z ls hl
  have hl : lv_has ls 6 [(0, .ref (A0 + 37)), (1, .ref (A0 + q1)), (2, .int x2)] := hl
  have hx := F.1.1
  have hb := F.1.2.1
  have hown := F.1.2.2.2.1
  have hts := F.1.2.2.2.2
  refine lv_iconst (v := 0) hx hb dX6_openDay_0 (by decide) ?_
  refine lv_istore_n (lv' := [(3, .int 0), (0, .ref (A0 + 37)), (1, .ref (A0 + q1)), (2, .int x2)]) hx hb dX6_openDay_1 rfl hl (by decide) rfl (fun ls hl => ?_)
  obtain ⟨k90, ek90, h⟩ := lt_x h
  have hk90 : ∀ (σ90 : Mm) (H : Heap) (locs : List Loc) (ls : Array Slot), zh D A0 σ90 GF 740 s.heap H locs → lv_has ls 6 [(0, .ref (A0 + 37)), (1, .ref (A0 + q1)), (2, .int x2)] → k90 σ90 = some (r0, σr) → W p l e (zR 1 40) s m [.ref (A0 + 37), .ref (A0 + q1), .int x2].toArray below meth c H locs 0 0 (MQ below (zQi D A0 r0 σr GF 740) [.ref (A0 + 37), .ref (A0 + q1), .int x2].toArray s 0 0 (zA A0)) (F0 m 90 ls []) := by
    intro  σ90 H locs ls Z hl h
    rw [ek90] at h
    try dsimp only at h
    refine lv_iconst (v := 0) hx hb dX6_openDay_90 (by decide) ?_
    refine lv_istore_n (lv' := [(3, .int 0), (0, .ref (A0 + 37)), (1, .ref (A0 + q1)), (2, .int x2)]) hx hb dX6_openDay_91 rfl hl (by decide) rfl (fun ls hl => ?_)
    refine lv_iconst (v := 0) hx hb dX6_openDay_92 (by decide) ?_
    refine lv_istore (lv' := [(4, .int 0), (3, .int 0), (0, .ref (A0 + 37)), (1, .ref (A0 + q1)), (2, .int x2)]) hx hb dX6_openDay_93 hl (by decide) rfl (fun ls hl => ?_)
    obtain ⟨k181, ek181, h⟩ := lt_x h
    have hk181 : ∀ (x3_181 : Int32) (σ181 : Mm) (H : Heap) (locs : List Loc) (ls : Array Slot), zh D A0 σ181 GF 740 s.heap H locs → lv_has ls 6 [(3, .int x3_181)] → k181 x3_181 σ181 = some (r0, σr) → W p l e (zR 1 40) s m [.ref (A0 + 37), .ref (A0 + q1), .int x2].toArray below meth c H locs 0 0 (MQ below (zQi D A0 r0 σr GF 740) [.ref (A0 + 37), .ref (A0 + q1), .int x2].toArray s 0 0 (zA A0)) (F0 m 181 ls []) := by
      intro x3_181 σ181 H locs ls Z hl h
      rw [ek181] at h
      try dsimp only at h
      refine lv_iload_n hx hb dX6_openDay_181 rfl (lv_at hl 0 rfl) ?_
      obtain ⟨hq1, hq2⟩ := zpq h
      exact ze_i F Z hr hlocks hq1 hq2 dX6_openDay_182
    have hL95 : ∀ (fu95 : Nat) (x3_95 : Int32) (x4_95 : Int32) (σ95 : Mm) (H : Heap) (locs : List Loc) (ls : Array Slot), zh D A0 σ95 GF 740 s.heap H locs → lv_has ls 6 [(0, .ref (A0 + 37)), (1, .ref (A0 + q1)), (2, .int x2), (3, .int x3_95), (4, .int x4_95)] → zfX6_openDay_L95 k181 q1 x2 fu95 x3_95 x4_95 σ95 = some (r0, σr) → W p l e (zR 1 40) s m [.ref (A0 + 37), .ref (A0 + q1), .int x2].toArray below meth c H locs 0 0 (MQ below (zQi D A0 r0 σr GF 740) [.ref (A0 + 37), .ref (A0 + q1), .int x2].toArray s 0 0 (zA A0)) (F0 m 95 ls []) := by
      intro fu95
      induction fu95 with
      | zero => intro x3_95 x4_95 σ95 H locs ls Z hl h; rw [zfX6_openDay_L95] at h; cases h
      | succ fu95 ih95 =>
        intro x3_95 x4_95 σ95 H locs ls Z hl h
        rw [zfX6_openDay_L95] at h
        refine lv_iload hx hb dX6_openDay_95 (lv_at hl 4 rfl) ?_
        refine lv_aload_n hx hb dX6_openDay_97 rfl (lv_at hl 0 rfl) ?_
        refine zw_getR F Z zC6 (a := 37) (k := 0) (by decide) zs_37 (by decide) rfl zg_37_0 zq301 (Or.inl rfl) dX6_openDay_98 ?_
        refine zw_getI F Z zC0 (a := 3) (k := 1) (by decide) zs_3 (by decide) rfl zq138 (Or.inl rfl) dX6_openDay_101 ?_
        refine zb_icge (tgt := 181) hx hb dX6_openDay_104 (by decide) h (fun h => ?_) (fun h => ?_)
        · exact hk181 x3_95 σ95 _ _ _ Z (lv_sub hl [3] rfl) h
        · refine lv_aload_n hx hb dX6_openDay_107 rfl (lv_at hl 1 rfl) ?_
          refine zw_getR F Z zC8 (a := q1) (k := 11) (zltS_0 hq1) (zsS_0 hq1) (by decide) rfl (zgS_11 hq1) zq259 (Or.inl rfl) dX6_openDay_108 ?_
          refine lv_iload hx hb dX6_openDay_111 (lv_at hl 4 rfl) ?_
          refine lv_iconst (v := 4) hx hb dX6_openDay_113 (by decide) ?_
          refine lv_imul hx hb dX6_openDay_114 ?_
          refine lv_iload_n hx hb dX6_openDay_115 rfl (lv_at hl 2 rfl) ?_
          obtain ⟨j144, ej144, h⟩ := lt_x h
          have hj144 : ∀ (y0_144 : Int32) (σ144 : Mm) (H : Heap) (locs : List Loc) (ls : Array Slot), zh D A0 σ144 GF 740 s.heap H locs → lv_has ls 6 [(0, .ref (A0 + 37)), (1, .ref (A0 + q1)), (2, .int x2), (3, .int x3_95), (4, .int x4_95)] → j144 y0_144 σ144 = some (r0, σr) → W p l e (zR 1 40) s m [.ref (A0 + 37), .ref (A0 + q1), .int x2].toArray below meth c H locs 0 0 (MQ below (zQi D A0 r0 σr GF 740) [.ref (A0 + 37), .ref (A0 + q1), .int x2].toArray s 0 0 (zA A0)) (F0 m 144 ls [.int y0_144, .int (x4_95 * 4), .ref (A0 + (q1 + 7))]) := by
            intro y0_144 σ144 H locs ls Z hl h
            rw [ej144] at h
            try dsimp only at h
            obtain ⟨hk144, h⟩ := ck_x h
            refine zw_iast F Z (zltS_7 hq1) (zsS_7 hq1) hk144 dX6_openDay_144 (fun σ144_1 _ _ eσ144_1 Z => ?_)
            replace h := lt_w h eσ144_1
            refine lv_iconst (v := 0) hx hb dX6_openDay_145 (by decide) ?_
            refine lv_istore (lv' := [(5, .int 0), (0, .ref (A0 + 37)), (1, .ref (A0 + q1)), (2, .int x2), (3, .int x3_95), (4, .int x4_95)]) hx hb dX6_openDay_146 hl (by decide) rfl (fun ls hl => ?_)
            obtain ⟨k175, ek175, h⟩ := lt_x h
            have hk175 : ∀ (x3_175 : Int32) (σ175 : Mm) (H : Heap) (locs : List Loc) (ls : Array Slot), zh D A0 σ175 GF 740 s.heap H locs → lv_has ls 6 [(0, .ref (A0 + 37)), (1, .ref (A0 + q1)), (2, .int x2), (3, .int x3_175), (4, .int x4_95)] → k175 x3_175 σ175 = some (r0, σr) → W p l e (zR 1 40) s m [.ref (A0 + 37), .ref (A0 + q1), .int x2].toArray below meth c H locs 0 0 (MQ below (zQi D A0 r0 σr GF 740) [.ref (A0 + 37), .ref (A0 + q1), .int x2].toArray s 0 0 (zA A0)) (F0 m 175 ls []) := by
              intro x3_175 σ175 H locs ls Z hl h
              rw [ek175] at h
              try dsimp only at h
              obtain ⟨x4_175, ex4_175⟩ : ∃ y : Int32, y = x4_95 + 1 := ⟨_, rfl⟩
              replace h := lt_w h ex4_175
              refine lv_iinc (v := x4_175) (lv' := [(4, .int x4_175), (0, .ref (A0 + 37)), (1, .ref (A0 + q1)), (2, .int x2), (3, .int x3_175)]) hx hb dX6_openDay_175 hl (k := 4) rfl (by rw [ex4_175]; rfl) (by decide) rfl (fun ls hl => ?_)
              refine lv_goto (tgt := 95) hx hb dX6_openDay_178 (by decide) ?_
              exact ih95 x3_175 x4_175 σ175 _ _ _ Z (lv_sub hl [1, 2, 3, 4, 0] rfl) h
            have hL148 : ∀ (fu148 : Nat) (x3_148 : Int32) (x5_148 : Int32) (σ148 : Mm) (H : Heap) (locs : List Loc) (ls : Array Slot), zh D A0 σ148 GF 740 s.heap H locs → lv_has ls 6 [(0, .ref (A0 + 37)), (1, .ref (A0 + q1)), (2, .int x2), (3, .int x3_148), (4, .int x4_95), (5, .int x5_148)] → zfX6_openDay_L148 k175 x4_95 q1 fu148 x3_148 x5_148 σ148 = some (r0, σr) → W p l e (zR 1 40) s m [.ref (A0 + 37), .ref (A0 + q1), .int x2].toArray below meth c H locs 0 0 (MQ below (zQi D A0 r0 σr GF 740) [.ref (A0 + 37), .ref (A0 + q1), .int x2].toArray s 0 0 (zA A0)) (F0 m 148 ls []) := by
              intro fu148
              induction fu148 with
              | zero => intro x3_148 x5_148 σ148 H locs ls Z hl h; rw [zfX6_openDay_L148] at h; cases h
              | succ fu148 ih148 =>
                intro x3_148 x5_148 σ148 H locs ls Z hl h
                rw [zfX6_openDay_L148] at h
                refine lv_iload hx hb dX6_openDay_148 (lv_at hl 5 rfl) ?_
                refine lv_iconst (v := 4) hx hb dX6_openDay_150 (by decide) ?_
                refine zb_icge (tgt := 175) hx hb dX6_openDay_151 (by decide) h (fun h => ?_) (fun h => ?_)
                · exact hk175 x3_148 σ148 _ _ _ Z (lv_sub hl [0, 1, 2, 3, 4] rfl) h
                · refine lv_iload_n hx hb dX6_openDay_154 rfl (lv_at hl 3 rfl) ?_
                  refine lv_aload_n hx hb dX6_openDay_155 rfl (lv_at hl 1 rfl) ?_
                  refine zw_getR F Z zC8 (a := q1) (k := 11) (zltS_0 hq1) (zsS_0 hq1) (by decide) rfl (zgS_11 hq1) zq259 (Or.inl rfl) dX6_openDay_156 ?_
                  refine lv_iload hx hb dX6_openDay_159 (lv_at hl 4 rfl) ?_
                  refine lv_iconst (v := 4) hx hb dX6_openDay_161 (by decide) ?_
                  refine lv_imul hx hb dX6_openDay_162 ?_
                  refine lv_iload hx hb dX6_openDay_163 (lv_at hl 5 rfl) ?_
                  refine lv_iadd hx hb dX6_openDay_165 ?_
                  obtain ⟨hk166, h⟩ := ck_x h
                  refine zw_iald F Z (zltS_7 hq1) (zsS_7 hq1) hk166 dX6_openDay_166 ?_
                  refine lv_iadd hx hb dX6_openDay_167 ?_
                  refine lv_topi (fun x3_168 ex3_168 => ?_)
                  replace h := lt_w h ex3_168
                  refine lv_istore_n (lv' := [(3, .int x3_168), (0, .ref (A0 + 37)), (1, .ref (A0 + q1)), (2, .int x2), (4, .int x4_95), (5, .int x5_148)]) hx hb dX6_openDay_168 rfl hl (by decide) rfl (fun ls hl => ?_)
                  obtain ⟨x5_169, ex5_169⟩ : ∃ y : Int32, y = x5_148 + 1 := ⟨_, rfl⟩
                  replace h := lt_w h ex5_169
                  refine lv_iinc (v := x5_169) (lv' := [(5, .int x5_169), (3, .int x3_168), (0, .ref (A0 + 37)), (1, .ref (A0 + q1)), (2, .int x2), (4, .int x4_95)]) hx hb dX6_openDay_169 hl (k := 5) rfl (by rw [ex5_169]; rfl) (by decide) rfl (fun ls hl => ?_)
                  refine lv_goto (tgt := 148) hx hb dX6_openDay_172 (by decide) ?_
                  exact ih148 x3_168 x5_169 σ148 _ _ _ Z (lv_sub hl [2, 3, 4, 1, 5, 0] rfl) h
            exact hL148 NF x3_95 0 σ144_1 _ _ _ Z (lv_sub hl [1, 2, 3, 4, 5, 0] rfl) h
          refine zb_ifeq (tgt := 134) hx hb dX6_openDay_116 (by decide) h (fun h => ?_) (fun h => ?_)
          · refine lv_aload_n hx hb dX6_openDay_134 rfl (lv_at hl 0 rfl) ?_
            refine zw_getR F Z zC6 (a := 37) (k := 0) (by decide) zs_37 (by decide) rfl zg_37_0 zq301 (Or.inl rfl) dX6_openDay_135 ?_
            refine zw_getR F Z zC0 (a := 3) (k := 9) (by decide) zs_3 (by decide) rfl zg_3_9 zq162 (Or.inl rfl) dX6_openDay_138 ?_
            refine lv_iload hx hb dX6_openDay_141 (lv_at hl 4 rfl) ?_
            obtain ⟨hk143, h⟩ := ck_x h
            refine zw_iald F Z (by decide) zs_8 hk143 dX6_openDay_143 ?_
            exact hj144 (σ95 8 (ix x4_95)) σ95 _ _ _ Z (lv_sub hl [0, 1, 2, 3, 4] rfl) h
          · refine lv_iconst (v := 2) hx hb dX6_openDay_119 (by decide) ?_
            refine lv_aload_n hx hb dX6_openDay_120 rfl (lv_at hl 0 rfl) ?_
            refine zw_getR F Z zC6 (a := 37) (k := 0) (by decide) zs_37 (by decide) rfl zg_37_0 zq301 (Or.inl rfl) dX6_openDay_121 ?_
            refine zw_getR F Z zC0 (a := 3) (k := 9) (by decide) zs_3 (by decide) rfl zg_3_9 zq162 (Or.inl rfl) dX6_openDay_124 ?_
            refine lv_iload hx hb dX6_openDay_127 (lv_at hl 4 rfl) ?_
            obtain ⟨hk129, h⟩ := ck_x h
            refine zw_iald F Z (by decide) zs_8 hk129 dX6_openDay_129 ?_
            refine lv_imul hx hb dX6_openDay_130 ?_
            refine lv_goto (tgt := 144) hx hb dX6_openDay_131 (by decide) ?_
            exact hj144 (2 * (σ95 8 (ix x4_95))) σ95 _ _ _ Z (lv_sub hl [0, 1, 2, 3, 4] rfl) h
    exact hL95 NF 0 0 σ90 _ _ _ Z (lv_sub hl [2, 3, 4, 1, 0] rfl) h
  have hL2 : ∀ (fu2 : Nat) (x3_2 : Int32) (σ2 : Mm) (H : Heap) (locs : List Loc) (ls : Array Slot), zh D A0 σ2 GF 740 s.heap H locs → lv_has ls 6 [(0, .ref (A0 + 37)), (1, .ref (A0 + q1)), (2, .int x2), (3, .int x3_2)] → zfX6_openDay_L2 k90 q1 fu2 x3_2 σ2 = some (r0, σr) → W p l e (zR 1 40) s m [.ref (A0 + 37), .ref (A0 + q1), .int x2].toArray below meth c H locs 0 0 (MQ below (zQi D A0 r0 σr GF 740) [.ref (A0 + 37), .ref (A0 + q1), .int x2].toArray s 0 0 (zA A0)) (F0 m 2 ls []) := by
    intro fu2
    induction fu2 with
    | zero => intro x3_2 σ2 H locs ls Z hl h; rw [zfX6_openDay_L2] at h; cases h
    | succ fu2 ih2 =>
      intro x3_2 σ2 H locs ls Z hl h
      rw [zfX6_openDay_L2] at h
      refine lv_iload_n hx hb dX6_openDay_2 rfl (lv_at hl 3 rfl) ?_
      refine lv_aload_n hx hb dX6_openDay_3 rfl (lv_at hl 0 rfl) ?_
      refine zw_getI F Z zC6 (a := 37) (k := 5) (by decide) zs_37 (by decide) rfl zq311 (Or.inl rfl) dX6_openDay_4 ?_
      refine zb_icge (tgt := 90) hx hb dX6_openDay_7 (by decide) h (fun h => ?_) (fun h => ?_)
      · exact hk90 σ2 _ _ _ Z (lv_sub hl [0, 1, 2] rfl) h
      · refine lv_aload_n hx hb dX6_openDay_10 rfl (lv_at hl 0 rfl) ?_
        refine zw_getR F Z zC6 (a := 37) (k := 0) (by decide) zs_37 (by decide) rfl zg_37_0 zq301 (Or.inl rfl) dX6_openDay_11 ?_
        refine zw_getR F Z zC0 (a := 3) (k := 5) (by decide) zs_3 (by decide) rfl zg_3_5 zq149 (Or.inl rfl) dX6_openDay_14 ?_
        refine lv_iload_n hx hb dX6_openDay_17 rfl (lv_at hl 3 rfl) ?_
        obtain ⟨hk18, h⟩ := ck_x h
        refine zw_iald F Z (by decide) zs_4 hk18 dX6_openDay_18 ?_
        refine lv_bipush (v := 99) hx hb dX6_openDay_19 (by decide) ?_
        refine lv_aload_n hx hb dX6_openDay_21 rfl (lv_at hl 1 rfl) ?_
        refine zw_getR F Z zC8 (a := q1) (k := 5) (zltS_0 hq1) (zsS_0 hq1) (by decide) rfl (zgS_5 hq1) zq234 (Or.inl rfl) dX6_openDay_22 ?_
        refine lv_iload_n hx hb dX6_openDay_25 rfl (lv_at hl 3 rfl) ?_
        obtain ⟨hk26, h⟩ := ck_x h
        refine zw_iald F Z (zltS_1 hq1) (zsS_1 hq1) hk26 dX6_openDay_26 ?_
        refine lv_isub hx hb dX6_openDay_27 ?_
        refine zw_zmin F hl.1 zq881 (Nat.le_of_ble_eq_true rfl) (Nat.le_of_ble_eq_true rfl) (Nat.le_of_ble_eq_true rfl) (Nat.le_of_ble_eq_true rfl) dX6_openDay_28 ?_
        refine lv_topi (fun x4_31 ex4_31 => ?_)
        replace h := lt_w h ex4_31
        refine lv_istore (lv' := [(4, .int x4_31), (0, .ref (A0 + 37)), (1, .ref (A0 + q1)), (2, .int x2), (3, .int x3_2)]) hx hb dX6_openDay_31 hl (by decide) rfl (fun ls hl => ?_)
        refine lv_aload_n hx hb dX6_openDay_33 rfl (lv_at hl 2 rfl) ?_
        refine zw_getR F Z zC8 (a := q1) (k := 5) (zltS_0 hq1) (zsS_0 hq1) (by decide) rfl (zgS_5 hq1) zq234 (Or.inl rfl) dX6_openDay_34 ?_
        refine lv_iload_n hx hb dX6_openDay_37 rfl (lv_at hl 4 rfl) ?_
        refine lv_dup2_11 hx hb dX6_openDay_38 rfl rfl ?_
        obtain ⟨hk39, h⟩ := ck_x h
        refine zw_iald F Z (zltS_1 hq1) (zsS_1 hq1) hk39 dX6_openDay_39 ?_
        refine lv_iload hx hb dX6_openDay_40 (lv_at hl 0 rfl) ?_
        refine lv_iadd hx hb dX6_openDay_42 ?_
        obtain ⟨hk43, h⟩ := ck_x h
        refine zw_iast F Z (zltS_1 hq1) (zsS_1 hq1) hk43 dX6_openDay_43 (fun σ43 _ _ eσ43 Z => ?_)
        replace h := lt_w h eσ43
        refine lv_aload_n hx hb dX6_openDay_44 rfl (lv_at hl 2 rfl) ?_
        refine zw_getR F Z zC8 (a := q1) (k := 7) (zltS_0 hq1) (zsS_0 hq1) (by decide) rfl (zgS_7 hq1) zq242 (Or.inl rfl) dX6_openDay_45 ?_
        refine lv_iload_n hx hb dX6_openDay_48 rfl (lv_at hl 4 rfl) ?_
        refine lv_dup2_11 hx hb dX6_openDay_49 rfl rfl ?_
        obtain ⟨hk50, h⟩ := ck_x h
        refine zw_iald F Z (zltS_3 hq1) (zsS_3 hq1) hk50 dX6_openDay_50 ?_
        refine lv_iload hx hb dX6_openDay_51 (lv_at hl 0 rfl) ?_
        refine lv_aload_n hx hb dX6_openDay_53 rfl (lv_at hl 1 rfl) ?_
        refine zw_getR F Z zC6 (a := 37) (k := 0) (by decide) zs_37 (by decide) rfl zg_37_0 zq301 (Or.inl rfl) dX6_openDay_54 ?_
        refine zw_getR F Z zC0 (a := 3) (k := 6) (by decide) zs_3 (by decide) rfl zg_3_6 zq153 (Or.inl rfl) dX6_openDay_57 ?_
        refine lv_iload_n hx hb dX6_openDay_60 rfl (lv_at hl 4 rfl) ?_
        obtain ⟨hk61, h⟩ := ck_x h
        refine zw_iald F Z (by decide) zs_5 hk61 dX6_openDay_61 ?_
        refine lv_imul hx hb dX6_openDay_62 ?_
        refine lv_isub hx hb dX6_openDay_63 ?_
        obtain ⟨hk64, h⟩ := ck_x h
        refine zw_iast F Z (zltS_3 hq1) (zsS_3 hq1) hk64 dX6_openDay_64 (fun σ64 _ _ eσ64 Z => ?_)
        replace h := lt_w h eσ64
        refine lv_aload_n hx hb dX6_openDay_65 rfl (lv_at hl 2 rfl) ?_
        refine zw_getR F Z zC8 (a := q1) (k := 9) (zltS_0 hq1) (zsS_0 hq1) (by decide) rfl (zgS_9 hq1) zq252 (Or.inl rfl) dX6_openDay_66 ?_
        refine lv_iload_n hx hb dX6_openDay_69 rfl (lv_at hl 4 rfl) ?_
        refine lv_iconst (v := 0) hx hb dX6_openDay_70 (by decide) ?_
        obtain ⟨hk71, h⟩ := ck_x h
        refine zw_iast F Z (zltS_5 hq1) (zsS_5 hq1) hk71 dX6_openDay_71 (fun σ71 _ _ eσ71 Z => ?_)
        replace h := lt_w h eσ71
        refine lv_aload_n hx hb dX6_openDay_72 rfl (lv_at hl 1 rfl) ?_
        refine zw_getR F Z zC6 (a := 37) (k := 3) (by decide) zs_37 (by decide) rfl zg_37_3 zq307 (Or.inl rfl) dX6_openDay_73 ?_
        refine lv_iload_n hx hb dX6_openDay_76 rfl (lv_at hl 4 rfl) ?_
        refine lv_aload_n hx hb dX6_openDay_77 rfl (lv_at hl 2 rfl) ?_
        refine zw_getR F Z zC8 (a := q1) (k := 5) (zltS_0 hq1) (zsS_0 hq1) (by decide) rfl (zgS_5 hq1) zq234 (Or.inl rfl) dX6_openDay_78 ?_
        refine lv_iload_n hx hb dX6_openDay_81 rfl (lv_at hl 4 rfl) ?_
        obtain ⟨hk82, h⟩ := ck_x h
        refine zw_iald F Z (zltS_1 hq1) (zsS_1 hq1) hk82 dX6_openDay_82 ?_
        obtain ⟨hk83, h⟩ := ck_x h
        refine zw_iast F Z (by decide) zs_39 hk83 dX6_openDay_83 (fun σ83 _ _ eσ83 Z => ?_)
        replace h := lt_w h eσ83
        obtain ⟨x3_84, ex3_84⟩ : ∃ y : Int32, y = x3_2 + 1 := ⟨_, rfl⟩
        replace h := lt_w h ex3_84
        refine lv_iinc (v := x3_84) (lv' := [(3, .int x3_84), (4, .int x4_31), (0, .ref (A0 + 37)), (1, .ref (A0 + q1)), (2, .int x2)]) hx hb dX6_openDay_84 hl (k := 4) rfl (by rw [ex3_84]; rfl) (by decide) rfl (fun ls hl => ?_)
        refine lv_goto (tgt := 2) hx hb dX6_openDay_87 (by decide) ?_
        exact ih2 x3_84 σ83 _ _ _ Z (lv_sub hl [2, 3, 4, 0] rfl) h
  exact hL2 NF 0 σ _ _ _ Z (lv_sub hl [1, 2, 3, 0] rfl) h
set_option maxHeartbeats 4000000 in
set_option maxRecDepth 100000 in
theorem zcX4_isBetweenTwo (l : Launch) (D : va_G) (A0 : Nat) (x0 : Int32) (σ : Mm) (r0 : Int32) (h : zfX4_isBetweenTwo x0 = r0) : Met l yX4_isBetweenTwo (zws yX4_isBetweenTwo cX4_isBetweenTwo 1 (some .boolean)) (zR 0 0) (zPc D A0 σ GF 740 [.int x0]) (zQi D A0 r0 σ GF 740) 0 0 (zA A0) := by
  unfold zfX4_isBetweenTwo at h
  refine zmet (own := RX4) (by decide) rfl (Nat.le_of_ble_eq_true rfl) ?_
  intro p e s m below meth c F hr hlocks _ Z ls hl
  have hl : lv_has ls 1 [(0, .int x0)] := hl
  have hx := F.1.1
  have hb := F.1.2.1
  have hown := F.1.2.2.2.1
  have hts := F.1.2.2.2.2
  refine lv_iload_n hx hb dX4_isBetweenTwo_0 rfl (lv_at hl 0 rfl) ?_
  refine lv_bipush (v := 59) hx hb dX4_isBetweenTwo_1 (by decide) ?_
  obtain ⟨j22, ej22, h⟩ := lt_x h
  have hj22 : ∀  (H : Heap) (locs : List Loc) (ls : Array Slot), zh D A0 σ GF 740 s.heap H locs → lv_has ls 1 [] → j22 () = r0 → W p l e (zR 0 0) s m [.int x0].toArray below meth c H locs 0 0 (MQ below (zQi D A0 r0 σ GF 740) [.int x0].toArray s 0 0 (zA A0)) (F0 m 22 ls []) := by
    intro  H locs ls Z hl h
    rw [ej22] at h
    try dsimp only at h
    refine lv_iconst (v := 0) hx hb dX4_isBetweenTwo_22 (by decide) ?_
    exact ze_z F Z hr hlocks (by decide) h rfl dX4_isBetweenTwo_23
  refine zb_iceq (tgt := 22) hx hb dX4_isBetweenTwo_3 (by decide) h (fun h => ?_) (fun h => ?_)
  · exact hj22  _ _ _ Z (lv_sub hl [] rfl) h
  · refine lv_iload_n hx hb dX4_isBetweenTwo_6 rfl (lv_at hl 0 rfl) ?_
    refine lv_bipush (v := 33) hx hb dX4_isBetweenTwo_7 (by decide) ?_
    refine zb_iceq (tgt := 22) hx hb dX4_isBetweenTwo_9 (by decide) h (fun h => ?_) (fun h => ?_)
    · exact hj22  _ _ _ Z (lv_sub hl [] rfl) h
    · refine lv_iload_n hx hb dX4_isBetweenTwo_12 rfl (lv_at hl 0 rfl) ?_
      refine lv_bipush (v := 63) hx hb dX4_isBetweenTwo_13 (by decide) ?_
      refine zb_iceq (tgt := 22) hx hb dX4_isBetweenTwo_15 (by decide) h (fun h => ?_) (fun h => ?_)
      · exact hj22  _ _ _ Z (lv_sub hl [] rfl) h
      · refine lv_iconst (v := 1) hx hb dX4_isBetweenTwo_18 (by decide) ?_
        refine lv_goto (tgt := 23) hx hb dX4_isBetweenTwo_19 (by decide) ?_
        exact ze_z F Z hr hlocks (by decide) h rfl dX4_isBetweenTwo_23
