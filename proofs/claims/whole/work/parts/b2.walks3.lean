set_option maxHeartbeats 4000000 in
set_option maxRecDepth 100000 in
theorem zcX11_noPrice (l : Launch) (D : va_G) (A0 : Nat) (x0 : Int32) (σ : Mm) (r0 : Int32) (h : zfX11_noPrice x0 = r0) : Met l yX11_noPrice (zws yX11_noPrice cX11_noPrice 1 (some .boolean)) (zR 0 0) (zPc D A0 σ GF 740 [.int x0]) (zQi D A0 r0 σ GF 740) 0 0 (zA A0) := by
  unfold zfX11_noPrice at h
  refine zmet (own := RX11) (by decide) rfl (Nat.le_of_ble_eq_true rfl) ?_
  intro p e s m below meth c F hr hlocks _ Z ls hl
  have hl : lv_has ls 1 [(0, .int x0)] := hl
  have hx := F.1.1
  have hb := F.1.2.1
  have hown := F.1.2.2.2.1
  have hts := F.1.2.2.2.2
  refine lv_iload_n hx hb dX11_noPrice_0 rfl (lv_at hl 0 rfl) ?_
  obtain ⟨j10, ej10, h⟩ := lt_x h
  have hj10 : ∀  (H : Heap) (locs : List Loc) (ls : Array Slot), zh D A0 σ GF 740 s.heap H locs → lv_has ls 1 [] → j10 () = r0 → W p l e (zR 0 0) s m [.int x0].toArray below meth c H locs 0 0 (MQ below (zQi D A0 r0 σ GF 740) [.int x0].toArray s 0 0 (zA A0)) (F0 m 10 ls []) := by
    intro  H locs ls Z hl h
    rw [ej10] at h
    try dsimp only at h
    refine lv_iconst (v := 1) hx hb dX11_noPrice_10 (by decide) ?_
    refine lv_goto (tgt := 15) hx hb dX11_noPrice_11 (by decide) ?_
    exact ze_z F Z hr hlocks (by decide) h rfl dX11_noPrice_15
  refine zb_iflt (tgt := 10) hx hb dX11_noPrice_1 (by decide) h (fun h => ?_) (fun h => ?_)
  · exact hj10  _ _ _ Z (lv_sub hl [] rfl) h
  · refine lv_iload_n hx hb dX11_noPrice_4 rfl (lv_at hl 0 rfl) ?_
    refine lv_bipush (v := 20) hx hb dX11_noPrice_5 (by decide) ?_
    refine zb_icle (tgt := 14) hx hb dX11_noPrice_7 (by decide) h (fun h => ?_) (fun h => ?_)
    · refine lv_iconst (v := 0) hx hb dX11_noPrice_14 (by decide) ?_
      exact ze_z F Z hr hlocks (by decide) h rfl dX11_noPrice_15
    · exact hj10  _ _ _ Z (lv_sub hl [] rfl) h
set_option maxHeartbeats 4000000 in
set_option maxRecDepth 100000 in
theorem zcJ6_bitCount_0f7a4 (l : Launch) (D : va_G) (A0 : Nat) (x0 : Int32) (σ : Mm) (r0 : Int32) (h : zfJ6_bitCount_0f7a4 x0 = r0) : Met l yJ6_bitCount_0f7a4 (zws yJ6_bitCount_0f7a4 cJ6_bitCount_0f7a4 1 (some .int)) (zR 0 0) (zPc D A0 σ GF 740 [.int x0]) (zQi D A0 r0 σ GF 740) 0 0 (zA A0) := by
  unfold zfJ6_bitCount_0f7a4 at h
  refine zmet (own := RJ6) (by decide) rfl (Nat.le_of_ble_eq_true rfl) ?_
  intro p e s m below meth c F hr hlocks _ Z ls hl
  have hl : lv_has ls 1 [(0, .int x0)] := hl
  have hx := F.1.1
  have hb := F.1.2.1
  have hown := F.1.2.2.2.1
  have hts := F.1.2.2.2.2
  refine lv_iload_n hx hb dJ6_bitCount_0f7a4_0 rfl (lv_at hl 0 rfl) ?_
  refine lv_iload_n hx hb dJ6_bitCount_0f7a4_1 rfl (lv_at hl 0 rfl) ?_
  refine lv_iconst (v := 1) hx hb dJ6_bitCount_0f7a4_2 (by decide) ?_
  refine lv_iushr hx hb dJ6_bitCount_0f7a4_3 rfl ?_
  refine lv_ldcw (v := 1431655765) hx hb hown (hts _ zq1065) dJ6_bitCount_0f7a4_4 ?_
  refine lv_iand hx hb dJ6_bitCount_0f7a4_7 ?_
  refine lv_isub hx hb dJ6_bitCount_0f7a4_8 ?_
  refine lv_topi (fun x0_9 ex0_9 => ?_)
  replace h := lt_w h ex0_9
  refine lv_istore_n (lv' := [(0, .int x0_9)]) hx hb dJ6_bitCount_0f7a4_9 rfl hl (by decide) rfl (fun ls hl => ?_)
  refine lv_iload_n hx hb dJ6_bitCount_0f7a4_10 rfl (lv_at hl 0 rfl) ?_
  refine lv_ldcw (v := 858993459) hx hb hown (hts _ zq1066) dJ6_bitCount_0f7a4_11 ?_
  refine lv_iand hx hb dJ6_bitCount_0f7a4_14 ?_
  refine lv_iload_n hx hb dJ6_bitCount_0f7a4_15 rfl (lv_at hl 0 rfl) ?_
  refine lv_iconst (v := 2) hx hb dJ6_bitCount_0f7a4_16 (by decide) ?_
  refine lv_iushr hx hb dJ6_bitCount_0f7a4_17 rfl ?_
  refine lv_ldcw (v := 858993459) hx hb hown (hts _ zq1066) dJ6_bitCount_0f7a4_18 ?_
  refine lv_iand hx hb dJ6_bitCount_0f7a4_21 ?_
  refine lv_iadd hx hb dJ6_bitCount_0f7a4_22 ?_
  refine lv_topi (fun x0_23 ex0_23 => ?_)
  replace h := lt_w h ex0_23
  refine lv_istore_n (lv' := [(0, .int x0_23)]) hx hb dJ6_bitCount_0f7a4_23 rfl hl (by decide) rfl (fun ls hl => ?_)
  refine lv_iload_n hx hb dJ6_bitCount_0f7a4_24 rfl (lv_at hl 0 rfl) ?_
  refine lv_iload_n hx hb dJ6_bitCount_0f7a4_25 rfl (lv_at hl 0 rfl) ?_
  refine lv_iconst (v := 4) hx hb dJ6_bitCount_0f7a4_26 (by decide) ?_
  refine lv_iushr hx hb dJ6_bitCount_0f7a4_27 rfl ?_
  refine lv_iadd hx hb dJ6_bitCount_0f7a4_28 ?_
  refine lv_ldcw (v := 252645135) hx hb hown (hts _ zq1067) dJ6_bitCount_0f7a4_29 ?_
  refine lv_iand hx hb dJ6_bitCount_0f7a4_32 ?_
  refine lv_topi (fun x0_33 ex0_33 => ?_)
  replace h := lt_w h ex0_33
  refine lv_istore_n (lv' := [(0, .int x0_33)]) hx hb dJ6_bitCount_0f7a4_33 rfl hl (by decide) rfl (fun ls hl => ?_)
  refine lv_iload_n hx hb dJ6_bitCount_0f7a4_34 rfl (lv_at hl 0 rfl) ?_
  refine lv_iload_n hx hb dJ6_bitCount_0f7a4_35 rfl (lv_at hl 0 rfl) ?_
  refine lv_bipush (v := 8) hx hb dJ6_bitCount_0f7a4_36 (by decide) ?_
  refine lv_iushr hx hb dJ6_bitCount_0f7a4_38 rfl ?_
  refine lv_iadd hx hb dJ6_bitCount_0f7a4_39 ?_
  refine lv_topi (fun x0_40 ex0_40 => ?_)
  replace h := lt_w h ex0_40
  refine lv_istore_n (lv' := [(0, .int x0_40)]) hx hb dJ6_bitCount_0f7a4_40 rfl hl (by decide) rfl (fun ls hl => ?_)
  refine lv_iload_n hx hb dJ6_bitCount_0f7a4_41 rfl (lv_at hl 0 rfl) ?_
  refine lv_iload_n hx hb dJ6_bitCount_0f7a4_42 rfl (lv_at hl 0 rfl) ?_
  refine lv_bipush (v := 16) hx hb dJ6_bitCount_0f7a4_43 (by decide) ?_
  refine lv_iushr hx hb dJ6_bitCount_0f7a4_45 rfl ?_
  refine lv_iadd hx hb dJ6_bitCount_0f7a4_46 ?_
  refine lv_topi (fun x0_47 ex0_47 => ?_)
  replace h := lt_w h ex0_47
  refine lv_istore_n (lv' := [(0, .int x0_47)]) hx hb dJ6_bitCount_0f7a4_47 rfl hl (by decide) rfl (fun ls hl => ?_)
  refine lv_iload_n hx hb dJ6_bitCount_0f7a4_48 rfl (lv_at hl 0 rfl) ?_
  refine lv_bipush (v := 63) hx hb dJ6_bitCount_0f7a4_49 (by decide) ?_
  refine lv_iand hx hb dJ6_bitCount_0f7a4_51 ?_
  exact ze_i F Z hr hlocks h rfl dJ6_bitCount_0f7a4_52
set_option maxHeartbeats 4000000 in
set_option maxRecDepth 100000 in
theorem zcX11_up (l : Launch) (D : va_G) (A0 : Nat) (x1 : Int32) (x2 : Int32) (σ : Mm) (r0 : Int32) (σr : Mm) (h : zfX11_up x1 x2 σ = some (r0, σr)) : Met l yX11_up (zws yX11_up cX11_up 6 (some .int)) (zR 7 179) (zPc D A0 σ GF 740 [.ref (A0 + 0), .int x1, .int x2]) (zQi D A0 r0 σr GF 740) 0 0 (zA A0) := by
  unfold zfX11_up at h
  refine zmet (own := RX11) (by decide) rfl (Nat.le_of_ble_eq_true rfl) ?_
  intro p e s m below meth c F hr hlocks _ Z ls hl
  have hl : lv_has ls 6 [(0, .ref (A0 + 0)), (1, .int x1), (2, .int x2)] := hl
  have hx := F.1.1
  have hb := F.1.2.1
  have hown := F.1.2.2.2.1
  have hts := F.1.2.2.2.2
  refine lv_aload_n hx hb dX11_up_0 rfl (lv_at hl 0 rfl) ?_
  refine lv_iload_n hx hb dX11_up_1 rfl (lv_at hl 1 rfl) ?_
  refine zc_i Z (zr_V F Z (a := 0) (As := [.int x1]) (zcX11_noDays l D A0 x1 σ (zfX11_noDays x1 σ) rfl) zBX11_noDays zq854 (by decide) zs_0 zC11.1 rfl ⟨⟨rfl, rfl⟩, Nat.le_of_ble_eq_true rfl, Nat.le_of_ble_eq_true rfl⟩ hl.1 rfl (Nat.le_of_ble_eq_true rfl) dX11_up_2 ⟨Nat.le_of_ble_eq_true rfl, Nat.le_of_ble_eq_true rfl⟩) (fun _ _ Z => ?_)
  obtain ⟨j15, ej15, h⟩ := lt_x h
  have hj15 : ∀ (σ15 : Mm) (H : Heap) (locs : List Loc) (ls : Array Slot), zh D A0 σ15 GF 740 s.heap H locs → lv_has ls 6 [] → j15 σ15 = some (r0, σr) → W p l e (zR 7 179) s m [.ref (A0 + 0), .int x1, .int x2].toArray below meth c H locs 0 0 (MQ below (zQi D A0 r0 σr GF 740) [.ref (A0 + 0), .int x1, .int x2].toArray s 0 0 (zA A0)) (F0 m 15 ls []) := by
    intro  σ15 H locs ls Z hl h
    rw [ej15] at h
    try dsimp only at h
    refine lv_iconst (v := (-1)) hx hb dX11_up_15 (by decide) ?_
    obtain ⟨hq1, hq2⟩ := zpq h
    exact ze_i F Z hr hlocks hq1 hq2 dX11_up_16
  refine zb_ifne (tgt := 15) hx hb dX11_up_5 (by decide) h (fun h => ?_) (fun h => ?_)
  · exact hj15 σ _ _ _ Z (lv_sub hl [] rfl) h
  · refine lv_iload_n hx hb dX11_up_8 rfl (lv_at hl 2 rfl) ?_
    refine zc_i Z (zr_S F Z (As := [.int x2]) (zcX11_noPrice l D A0 x2 σ (zfX11_noPrice x2) rfl) zBX11_noPrice zq1059 rfl ⟨⟨rfl, rfl⟩, Nat.le_of_ble_eq_true rfl, Nat.le_of_ble_eq_true rfl⟩ hl.1 rfl (Nat.le_of_ble_eq_true rfl) dX11_up_9 ⟨Nat.le_of_ble_eq_true rfl, Nat.le_of_ble_eq_true rfl⟩) (fun _ _ Z => ?_)
    refine zb_ifeq (tgt := 17) hx hb dX11_up_12 (by decide) h (fun h => ?_) (fun h => ?_)
    · refine lv_iconst (v := (-1)) hx hb dX11_up_17 (by decide) ?_
      refine lv_istore_n (lv' := [(3, .int (-1)), (0, .ref (A0 + 0)), (1, .int x1), (2, .int x2)]) hx hb dX11_up_18 rfl hl (by decide) rfl (fun ls hl => ?_)
      refine lv_iconst (v := 1) hx hb dX11_up_19 (by decide) ?_
      refine lv_aload_n hx hb dX11_up_20 rfl (lv_at hl 1 rfl) ?_
      refine zw_getR F Z zC11 (a := 0) (k := 3) (by decide) zs_0 (by decide) rfl zg_0_3 zq537 (Or.inl rfl) dX11_up_21 ?_
      refine zw_getI F Z zC0 (a := 3) (k := 0) (by decide) zs_3 (by decide) rfl zq135 (Or.inl rfl) dX11_up_24 ?_
      refine lv_ishl hx hb dX11_up_27 ?_
      refine lv_topi (fun x4_28 ex4_28 => ?_)
      replace h := lt_w h ex4_28
      refine lv_istore (lv' := [(4, .int x4_28), (3, .int (-1)), (0, .ref (A0 + 0)), (1, .int x1), (2, .int x2)]) hx hb dX11_up_28 hl (by decide) rfl (fun ls hl => ?_)
      refine lv_iconst (v := 0) hx hb dX11_up_30 (by decide) ?_
      refine lv_istore (lv' := [(5, .int 0), (4, .int x4_28), (3, .int (-1)), (0, .ref (A0 + 0)), (1, .int x1), (2, .int x2)]) hx hb dX11_up_31 hl (by decide) rfl (fun ls hl => ?_)
      obtain ⟨k110, ek110, h⟩ := lt_x h
      have hk110 : ∀ (x3_110 : Int32) (σ110 : Mm) (H : Heap) (locs : List Loc) (ls : Array Slot), zh D A0 σ110 GF 740 s.heap H locs → lv_has ls 6 [(3, .int x3_110)] → k110 x3_110 σ110 = some (r0, σr) → W p l e (zR 7 179) s m [.ref (A0 + 0), .int x1, .int x2].toArray below meth c H locs 0 0 (MQ below (zQi D A0 r0 σr GF 740) [.ref (A0 + 0), .int x1, .int x2].toArray s 0 0 (zA A0)) (F0 m 110 ls []) := by
        intro x3_110 σ110 H locs ls Z hl h
        rw [ek110] at h
        try dsimp only at h
        refine lv_iload_n hx hb dX11_up_110 rfl (lv_at hl 0 rfl) ?_
        obtain ⟨hq1, hq2⟩ := zpq h
        exact ze_i F Z hr hlocks hq1 hq2 dX11_up_111
      have hL33 : ∀ (fu33 : Nat) (x3_33 : Int32) (x5_33 : Int32) (σ33 : Mm) (H : Heap) (locs : List Loc) (ls : Array Slot), zh D A0 σ33 GF 740 s.heap H locs → lv_has ls 6 [(0, .ref (A0 + 0)), (1, .int x1), (2, .int x2), (3, .int x3_33), (4, .int x4_28), (5, .int x5_33)] → zfX11_up_L33 x4_28 k110 x1 x2 fu33 x3_33 x5_33 σ33 = some (r0, σr) → W p l e (zR 7 179) s m [.ref (A0 + 0), .int x1, .int x2].toArray below meth c H locs 0 0 (MQ below (zQi D A0 r0 σr GF 740) [.ref (A0 + 0), .int x1, .int x2].toArray s 0 0 (zA A0)) (F0 m 33 ls []) := by
        intro fu33
        induction fu33 with
        | zero => intro x3_33 x5_33 σ33 H locs ls Z hl h; rw [zfX11_up_L33] at h; cases h
        | succ fu33 ih33 =>
          intro x3_33 x5_33 σ33 H locs ls Z hl h
          rw [zfX11_up_L33] at h
          refine lv_iload hx hb dX11_up_33 (lv_at hl 5 rfl) ?_
          refine lv_iload hx hb dX11_up_35 (lv_at hl 4 rfl) ?_
          refine zb_icge (tgt := 110) hx hb dX11_up_37 (by decide) h (fun h => ?_) (fun h => ?_)
          · exact hk110 x3_33 σ33 _ _ _ Z (lv_sub hl [3] rfl) h
          · refine lv_iload_n hx hb dX11_up_40 rfl (lv_at hl 3 rfl) ?_
            refine lv_iconst (v := (-1)) hx hb dX11_up_41 (by decide) ?_
            obtain ⟨j104, ej104, h⟩ := lt_x h
            have hj104 : ∀ (x3_104 : Int32) (σ104 : Mm) (H : Heap) (locs : List Loc) (ls : Array Slot), zh D A0 σ104 GF 740 s.heap H locs → lv_has ls 6 [(0, .ref (A0 + 0)), (1, .int x1), (2, .int x2), (3, .int x3_104), (4, .int x4_28), (5, .int x5_33)] → j104 x3_104 σ104 = some (r0, σr) → W p l e (zR 7 179) s m [.ref (A0 + 0), .int x1, .int x2].toArray below meth c H locs 0 0 (MQ below (zQi D A0 r0 σr GF 740) [.ref (A0 + 0), .int x1, .int x2].toArray s 0 0 (zA A0)) (F0 m 104 ls []) := by
              intro x3_104 σ104 H locs ls Z hl h
              rw [ej104] at h
              try dsimp only at h
              obtain ⟨x5_104, ex5_104⟩ : ∃ y : Int32, y = x5_33 + 1 := ⟨_, rfl⟩
              replace h := lt_w h ex5_104
              refine lv_iinc (v := x5_104) (lv' := [(5, .int x5_104), (0, .ref (A0 + 0)), (1, .int x1), (2, .int x2), (3, .int x3_104), (4, .int x4_28)]) hx hb dX11_up_104 hl (k := 5) rfl (by rw [ex5_104]; rfl) (by decide) rfl (fun ls hl => ?_)
              refine lv_goto (tgt := 33) hx hb dX11_up_107 (by decide) ?_
              exact ih33 x3_104 x5_104 σ104 _ _ _ Z (lv_sub hl [1, 2, 3, 4, 5, 0] rfl) h
            obtain ⟨j60, ej60, h⟩ := lt_x h
            have hj60 : ∀ (σ60 : Mm) (H : Heap) (locs : List Loc) (ls : Array Slot), zh D A0 σ60 GF 740 s.heap H locs → lv_has ls 6 [(0, .ref (A0 + 0)), (1, .int x1), (2, .int x2), (3, .int x3_33), (4, .int x4_28), (5, .int x5_33)] → j60 σ60 = some (r0, σr) → W p l e (zR 7 179) s m [.ref (A0 + 0), .int x1, .int x2].toArray below meth c H locs 0 0 (MQ below (zQi D A0 r0 σr GF 740) [.ref (A0 + 0), .int x1, .int x2].toArray s 0 0 (zA A0)) (F0 m 60 ls []) := by
              intro  σ60 H locs ls Z hl h
              rw [ej60] at h
              try dsimp only at h
              refine lv_aload_n hx hb dX11_up_60 rfl (lv_at hl 0 rfl) ?_
              refine zw_getR F Z zC11 (a := 0) (k := 10) (by decide) zs_0 (by decide) rfl zg_0_10 zq544 (Or.inl rfl) dX11_up_61 ?_
              obtain ⟨σ64, hc64, h⟩ := bd_x h
              refine zc_v Z (zr_V F Z (a := 68) (As := []) (zcX10_begin l D A0 σ60 σ64 hc64) zBX10_begin zq931 (by decide) zs_68 zC10.1 rfl ⟨⟨rfl, rfl⟩, Nat.le_of_ble_eq_true rfl, Nat.le_of_ble_eq_true rfl⟩ hl.1 rfl (Nat.le_of_ble_eq_true rfl) dX11_up_64 ⟨Nat.le_of_ble_eq_true rfl, Nat.le_of_ble_eq_true rfl⟩) (fun _ _ Z => ?_)
              refine lv_aload_n hx hb dX11_up_67 rfl (lv_at hl 0 rfl) ?_
              refine zw_getR F Z zC11 (a := 0) (k := 10) (by decide) zs_0 (by decide) rfl zg_0_10 zq544 (Or.inl rfl) dX11_up_68 ?_
              refine zw_getR F Z zC10 (a := 68) (k := 3) (by decide) zs_68 (by decide) rfl zg_68_3 zq401 (Or.inl rfl) dX11_up_71 ?_
              refine lv_iload hx hb dX11_up_74 (lv_at hl 5 rfl) ?_
              refine zw_putI F Z zC8 (a := 69) (k := 3) (by decide) zs_69 (by decide) rfl (by decide) zq230 (Or.inl rfl) rfl ⟨rfl, rfl⟩ dX11_up_76 (fun σ76 _ _ eσ76 Z => ?_)
              replace h := lt_w h eσ76
              refine lv_aload_n hx hb dX11_up_79 rfl (lv_at hl 0 rfl) ?_
              refine zw_getR F Z zC11 (a := 0) (k := 10) (by decide) zs_0 (by decide) rfl zg_0_10 zq544 (Or.inl rfl) dX11_up_80 ?_
              refine lv_iload_n hx hb dX11_up_83 rfl (lv_at hl 1 rfl) ?_
              obtain ⟨σ84, hc84, h⟩ := bd_x h
              refine zc_v Z (zr_V F Z (a := 68) (As := [.int x1]) (zcX10_pass l D A0 x1 σ76 σ84 hc84) zBX10_pass zq943 (by decide) zs_68 zC10.1 rfl ⟨⟨rfl, rfl⟩, Nat.le_of_ble_eq_true rfl, Nat.le_of_ble_eq_true rfl⟩ hl.1 rfl (Nat.le_of_ble_eq_true rfl) dX11_up_84 ⟨Nat.le_of_ble_eq_true rfl, Nat.le_of_ble_eq_true rfl⟩) (fun _ _ Z => ?_)
              refine lv_aload_n hx hb dX11_up_87 rfl (lv_at hl 0 rfl) ?_
              refine zw_getR F Z zC11 (a := 0) (k := 10) (by decide) zs_0 (by decide) rfl zg_0_10 zq544 (Or.inl rfl) dX11_up_88 ?_
              refine zw_getR F Z zC10 (a := 68) (k := 3) (by decide) zs_68 (by decide) rfl zg_68_3 zq401 (Or.inl rfl) dX11_up_91 ?_
              refine zw_getI F Z zC8 (a := 69) (k := 0) (by decide) zs_69 (by decide) rfl zq222 (Or.inl rfl) dX11_up_94 ?_
              refine lv_iload_n hx hb dX11_up_97 rfl (lv_at hl 2 rfl) ?_
              refine zb_iclt (tgt := 104) hx hb dX11_up_98 (by decide) h (fun h => ?_) (fun h => ?_)
              · exact hj104 x3_33 σ84 _ _ _ Z (lv_sub hl [0, 1, 2, 3, 4, 5] rfl) h
              · refine lv_iload hx hb dX11_up_101 (lv_at hl 5 rfl) ?_
                refine lv_istore_n (lv' := [(3, .int x5_33), (0, .ref (A0 + 0)), (1, .int x1), (2, .int x2), (4, .int x4_28), (5, .int x5_33)]) hx hb dX11_up_103 rfl hl (by decide) rfl (fun ls hl => ?_)
                exact hj104 x5_33 σ84 _ _ _ Z (lv_sub hl [1, 2, 3, 0, 4, 5] rfl) h
            refine zb_iceq (tgt := 60) hx hb dX11_up_42 (by decide) h (fun h => ?_) (fun h => ?_)
            · exact hj60 σ33 _ _ _ Z (lv_sub hl [0, 1, 2, 3, 4, 5] rfl) h
            · refine lv_iload hx hb dX11_up_45 (lv_at hl 5 rfl) ?_
              refine zc_i Z (zr_S F Z (As := [.int x5_33]) (zcJ6_bitCount_0f7a4 l D A0 x5_33 σ33 (zfJ6_bitCount_0f7a4 x5_33) rfl) zBJ6_bitCount_0f7a4 zq1062 rfl ⟨⟨rfl, rfl⟩, Nat.le_of_ble_eq_true rfl, Nat.le_of_ble_eq_true rfl⟩ hl.1 rfl (Nat.le_of_ble_eq_true rfl) dX11_up_47 ⟨Nat.le_of_ble_eq_true rfl, Nat.le_of_ble_eq_true rfl⟩) (fun _ _ Z => ?_)
              refine lv_iload_n hx hb dX11_up_50 rfl (lv_at hl 3 rfl) ?_
              refine zc_i Z (zr_S F Z (As := [.int x3_33]) (zcJ6_bitCount_0f7a4 l D A0 x3_33 σ33 (zfJ6_bitCount_0f7a4 x3_33) rfl) zBJ6_bitCount_0f7a4 zq1062 rfl ⟨⟨rfl, rfl⟩, Nat.le_of_ble_eq_true rfl, Nat.le_of_ble_eq_true rfl⟩ hl.1 rfl (Nat.le_of_ble_eq_true rfl) dX11_up_51 ⟨Nat.le_of_ble_eq_true rfl, Nat.le_of_ble_eq_true rfl⟩) (fun _ _ Z => ?_)
              refine zb_iclt (tgt := 60) hx hb dX11_up_54 (by decide) h (fun h => ?_) (fun h => ?_)
              · exact hj60 σ33 _ _ _ Z (lv_sub hl [0, 1, 2, 3, 4, 5] rfl) h
              · refine lv_goto (tgt := 104) hx hb dX11_up_57 (by decide) ?_
                exact hj104 x3_33 σ33 _ _ _ Z (lv_sub hl [0, 1, 2, 3, 4, 5] rfl) h
      exact hL33 NF (-1) 0 σ _ _ _ Z (lv_sub hl [3, 4, 5, 2, 1, 0] rfl) h
    · exact hj15 σ _ _ _ Z (lv_sub hl [] rfl) h
set_option maxHeartbeats 4000000 in
set_option maxRecDepth 100000 in
theorem zcX11_when (l : Launch) (D : va_G) (A0 : Nat) (x1 : Int32) (x2 : Int32) (σ : Mm) (r0 : Int32) (σr : Mm) (h : zfX11_when x1 x2 σ = some (r0, σr)) : Met l yX11_when (zws yX11_when cX11_when 3 (some .int)) (zR 7 179) (zPc D A0 σ GF 740 [.ref (A0 + 0), .int x1, .int x2]) (zQi D A0 r0 σr GF 740) 0 0 (zA A0) := by
  unfold zfX11_when at h
  refine zmet (own := RX11) (by decide) rfl (Nat.le_of_ble_eq_true rfl) ?_
  intro p e s m below meth c F hr hlocks _ Z ls hl
  have hl : lv_has ls 3 [(0, .ref (A0 + 0)), (1, .int x1), (2, .int x2)] := hl
  have hx := F.1.1
  have hb := F.1.2.1
  have hown := F.1.2.2.2.1
  have hts := F.1.2.2.2.2
  refine lv_aload_n hx hb dX11_when_0 rfl (lv_at hl 0 rfl) ?_
  refine lv_iload_n hx hb dX11_when_1 rfl (lv_at hl 1 rfl) ?_
  refine zc_i Z (zr_V F Z (a := 0) (As := [.int x1]) (zcX11_noDays l D A0 x1 σ (zfX11_noDays x1 σ) rfl) zBX11_noDays zq854 (by decide) zs_0 zC11.1 rfl ⟨⟨rfl, rfl⟩, Nat.le_of_ble_eq_true rfl, Nat.le_of_ble_eq_true rfl⟩ hl.1 rfl (Nat.le_of_ble_eq_true rfl) dX11_when_2 ⟨Nat.le_of_ble_eq_true rfl, Nat.le_of_ble_eq_true rfl⟩) (fun _ _ Z => ?_)
  obtain ⟨j16, ej16, h⟩ := lt_x h
  have hj16 : ∀ (σ16 : Mm) (H : Heap) (locs : List Loc) (ls : Array Slot), zh D A0 σ16 GF 740 s.heap H locs → lv_has ls 3 [] → j16 σ16 = some (r0, σr) → W p l e (zR 7 179) s m [.ref (A0 + 0), .int x1, .int x2].toArray below meth c H locs 0 0 (MQ below (zQi D A0 r0 σr GF 740) [.ref (A0 + 0), .int x1, .int x2].toArray s 0 0 (zA A0)) (F0 m 16 ls []) := by
    intro  σ16 H locs ls Z hl h
    rw [ej16] at h
    try dsimp only at h
    refine lv_iconst (v := (-1)) hx hb dX11_when_16 (by decide) ?_
    obtain ⟨hq1, hq2⟩ := zpq h
    exact ze_i F Z hr hlocks hq1 hq2 dX11_when_17
  refine zb_ifne (tgt := 16) hx hb dX11_when_5 (by decide) h (fun h => ?_) (fun h => ?_)
  · exact hj16 σ _ _ _ Z (lv_sub hl [] rfl) h
  · refine lv_iload_n hx hb dX11_when_8 rfl (lv_at hl 2 rfl) ?_
    refine lv_iconst (v := 1) hx hb dX11_when_9 (by decide) ?_
    refine zc_i Z (zr_S F Z (As := [.int x2, .int 1]) (zcX11_noWhat l D A0 x2 1 σ (zfX11_noWhat x2 1) rfl) zBX11_noWhat zq971 rfl ⟨⟨rfl, rfl⟩, Nat.le_of_ble_eq_true rfl, Nat.le_of_ble_eq_true rfl⟩ hl.1 rfl (Nat.le_of_ble_eq_true rfl) dX11_when_10 ⟨Nat.le_of_ble_eq_true rfl, Nat.le_of_ble_eq_true rfl⟩) (fun _ _ Z => ?_)
    refine zb_ifeq (tgt := 18) hx hb dX11_when_13 (by decide) h (fun h => ?_) (fun h => ?_)
    · refine lv_aload_n hx hb dX11_when_18 rfl (lv_at hl 0 rfl) ?_
      refine zw_getR F Z zC11 (a := 0) (k := 10) (by decide) zs_0 (by decide) rfl zg_0_10 zq544 (Or.inl rfl) dX11_when_19 ?_
      obtain ⟨σ22, hc22, h⟩ := bd_x h
      refine zc_v Z (zr_V F Z (a := 68) (As := []) (zcX10_begin l D A0 σ σ22 hc22) zBX10_begin zq931 (by decide) zs_68 zC10.1 rfl ⟨⟨rfl, rfl⟩, Nat.le_of_ble_eq_true rfl, Nat.le_of_ble_eq_true rfl⟩ hl.1 rfl (Nat.le_of_ble_eq_true rfl) dX11_when_22 ⟨Nat.le_of_ble_eq_true rfl, Nat.le_of_ble_eq_true rfl⟩) (fun _ _ Z => ?_)
      refine lv_aload_n hx hb dX11_when_25 rfl (lv_at hl 0 rfl) ?_
      refine zw_getR F Z zC11 (a := 0) (k := 10) (by decide) zs_0 (by decide) rfl zg_0_10 zq544 (Or.inl rfl) dX11_when_26 ?_
      refine lv_iload_n hx hb dX11_when_29 rfl (lv_at hl 1 rfl) ?_
      obtain ⟨σ30, hc30, h⟩ := bd_x h
      refine zc_v Z (zr_V F Z (a := 68) (As := [.int x1]) (zcX10_pass l D A0 x1 σ22 σ30 hc30) zBX10_pass zq943 (by decide) zs_68 zC10.1 rfl ⟨⟨rfl, rfl⟩, Nat.le_of_ble_eq_true rfl, Nat.le_of_ble_eq_true rfl⟩ hl.1 rfl (Nat.le_of_ble_eq_true rfl) dX11_when_30 ⟨Nat.le_of_ble_eq_true rfl, Nat.le_of_ble_eq_true rfl⟩) (fun _ _ Z => ?_)
      refine lv_iload_n hx hb dX11_when_33 rfl (lv_at hl 2 rfl) ?_
      refine zb_ifne (tgt := 47) hx hb dX11_when_34 (by decide) h (fun h => ?_) (fun h => ?_)
      · refine lv_aload_n hx hb dX11_when_47 rfl (lv_at hl 0 rfl) ?_
        refine zw_getR F Z zC11 (a := 0) (k := 10) (by decide) zs_0 (by decide) rfl zg_0_10 zq544 (Or.inl rfl) dX11_when_48 ?_
        refine zw_getI F Z zC10 (a := 68) (k := 12) (by decide) zs_68 (by decide) rfl zq418 (Or.inl rfl) dX11_when_51 ?_
        obtain ⟨hq1, hq2⟩ := zpq h
        exact ze_i F Z hr hlocks hq1 hq2 dX11_when_54
      · refine lv_aload_n hx hb dX11_when_37 rfl (lv_at hl 0 rfl) ?_
        refine zw_getR F Z zC11 (a := 0) (k := 10) (by decide) zs_0 (by decide) rfl zg_0_10 zq544 (Or.inl rfl) dX11_when_38 ?_
        refine zw_getI F Z zC10 (a := 68) (k := 11) (by decide) zs_68 (by decide) rfl zq416 (Or.inl rfl) dX11_when_41 ?_
        refine lv_goto (tgt := 54) hx hb dX11_when_44 (by decide) ?_
        obtain ⟨hq1, hq2⟩ := zpq h
        exact ze_i F Z hr hlocks hq1 hq2 dX11_when_54
    · exact hj16 σ _ _ _ Z (lv_sub hl [] rfl) h
set_option maxHeartbeats 4000000 in
set_option maxRecDepth 100000 in
theorem zcX10_addStranger (l : Launch) (D : va_G) (A0 : Nat) (x1 : Int32) (x2 : Int32) (σ : Mm) (σr : Mm) (h : zfX10_addStranger x1 x2 σ = some σr) : Met l yX10_addStranger (zws yX10_addStranger cX10_addStranger 4 none) (zR 0 0) (zPc D A0 σ GF 740 [.ref (A0 + 68), .int x1, .int x2]) (zQv D A0 σr GF 740) 0 0 (zA A0) := by
  unfold zfX10_addStranger at h
  refine zmet (own := RX10) (by decide) rfl (Nat.le_of_ble_eq_true rfl) ?_
  intro p e s m below meth c F hr hlocks _ Z ls hl
  have hl : lv_has ls 4 [(0, .ref (A0 + 68)), (1, .int x1), (2, .int x2)] := hl
  have hx := F.1.1
  have hb := F.1.2.1
  have hown := F.1.2.2.2.1
  have hts := F.1.2.2.2.2
  refine lv_aload_n hx hb dX10_addStranger_0 rfl (lv_at hl 0 rfl) ?_
  refine zw_getR F Z zC10 (a := 68) (k := 0) (by decide) zs_68 (by decide) rfl zg_68_0 zq397 (Or.inl rfl) dX10_addStranger_1 ?_
  refine zw_getI F Z zC0 (a := 3) (k := 0) (by decide) zs_3 (by decide) rfl zq133 (Or.inl rfl) dX10_addStranger_4 ?_
  refine lv_topi (fun x3_7 ex3_7 => ?_)
  replace h := lt_w h ex3_7
  refine lv_istore_n (lv' := [(3, .int x3_7), (0, .ref (A0 + 68)), (1, .int x1), (2, .int x2)]) hx hb dX10_addStranger_7 rfl hl (by decide) rfl (fun ls hl => ?_)
  refine lv_iload_n hx hb dX10_addStranger_8 rfl (lv_at hl 0 rfl) ?_
  refine lv_bipush (v := 6) hx hb dX10_addStranger_9 (by decide) ?_
  refine zb_iclt (tgt := 15) hx hb dX10_addStranger_11 (by decide) h (fun h => ?_) (fun h => ?_)
  · refine lv_aload_n hx hb dX10_addStranger_15 rfl (lv_at hl 1 rfl) ?_
    refine zw_getR F Z zC10 (a := 68) (k := 1) (by decide) zs_68 (by decide) rfl zg_68_1 zq398 (Or.inl rfl) dX10_addStranger_16 ?_
    refine lv_iload_n hx hb dX10_addStranger_19 rfl (lv_at hl 0 rfl) ?_
    refine lv_iconst (v := 1) hx hb dX10_addStranger_20 (by decide) ?_
    refine lv_iadd hx hb dX10_addStranger_21 ?_
    refine zw_putI F Z zC6 (a := 37) (k := 5) (by decide) zs_37 (by decide) rfl (by decide) zq312 (Or.inl rfl) rfl ⟨rfl, rfl⟩ dX10_addStranger_22 (fun σ22 _ _ eσ22 Z => ?_)
    replace h := lt_w h eσ22
    refine lv_aload_n hx hb dX10_addStranger_25 rfl (lv_at hl 1 rfl) ?_
    refine zw_getR F Z zC10 (a := 68) (k := 1) (by decide) zs_68 (by decide) rfl zg_68_1 zq398 (Or.inl rfl) dX10_addStranger_26 ?_
    refine zw_getR F Z zC6 (a := 37) (k := 2) (by decide) zs_37 (by decide) rfl zg_37_2 zq304 (Or.inl rfl) dX10_addStranger_29 ?_
    refine lv_iload_n hx hb dX10_addStranger_32 rfl (lv_at hl 0 rfl) ?_
    refine lv_iload_n hx hb dX10_addStranger_33 rfl (lv_at hl 3 rfl) ?_
    obtain ⟨hk34, h⟩ := ck_x h
    refine zw_iast F Z (by decide) zs_38 hk34 dX10_addStranger_34 (fun σ34 _ _ eσ34 Z => ?_)
    replace h := lt_w h eσ34
    refine lv_aload_n hx hb dX10_addStranger_35 rfl (lv_at hl 1 rfl) ?_
    refine zw_getR F Z zC10 (a := 68) (k := 3) (by decide) zs_68 (by decide) rfl zg_68_3 zq400 (Or.inl rfl) dX10_addStranger_36 ?_
    refine zw_getR F Z zC8 (a := 69) (k := 5) (by decide) zs_69 (by decide) rfl zg_69_5 zq235 (Or.inl rfl) dX10_addStranger_39 ?_
    refine lv_iload_n hx hb dX10_addStranger_42 rfl (lv_at hl 0 rfl) ?_
    refine lv_iload_n hx hb dX10_addStranger_43 rfl (lv_at hl 2 rfl) ?_
    obtain ⟨hk44, h⟩ := ck_x h
    refine zw_iast F Z (by decide) zs_70 hk44 dX10_addStranger_44 (fun σ44 _ _ eσ44 Z => ?_)
    replace h := lt_w h eσ44
    have hq := Option.some.inj h
    exact ze_v F Z hr hlocks hq dX10_addStranger_45
  · have hq := Option.some.inj h
    exact ze_v F Z hr hlocks hq dX10_addStranger_14
set_option maxHeartbeats 4000000 in
set_option maxRecDepth 100000 in
theorem zcX11_stranger (l : Launch) (D : va_G) (A0 : Nat) (x1 : Int32) (x2 : Int32) (x3 : Int32) (σ : Mm) (r0 : Int32) (σr : Mm) (h : zfX11_stranger x1 x2 x3 σ = some (r0, σr)) : Met l yX11_stranger (zws yX11_stranger cX11_stranger 6 (some .int)) (zR 7 179) (zPc D A0 σ GF 740 [.ref (A0 + 0), .int x1, .int x2, .int x3]) (zQi D A0 r0 σr GF 740) 0 0 (zA A0) := by
  unfold zfX11_stranger at h
  refine zmet (own := RX11) (by decide) rfl (Nat.le_of_ble_eq_true rfl) ?_
  intro p e s m below meth c F hr hlocks _ Z ls hl
  have hl : lv_has ls 6 [(0, .ref (A0 + 0)), (1, .int x1), (2, .int x2), (3, .int x3)] := hl
  have hx := F.1.1
  have hb := F.1.2.1
  have hown := F.1.2.2.2.1
  have hts := F.1.2.2.2.2
  refine lv_aload_n hx hb dX11_stranger_0 rfl (lv_at hl 0 rfl) ?_
  refine zc_i Z (zr_V F Z (a := 0) (As := []) (zcX11_noMarket l D A0 σ (zfX11_noMarket σ) rfl) zBX11_noMarket zq858 (by decide) zs_0 zC11.1 rfl ⟨⟨rfl, rfl⟩, Nat.le_of_ble_eq_true rfl, Nat.le_of_ble_eq_true rfl⟩ hl.1 rfl (Nat.le_of_ble_eq_true rfl) dX11_stranger_1 ⟨Nat.le_of_ble_eq_true rfl, Nat.le_of_ble_eq_true rfl⟩) (fun _ _ Z => ?_)
  obtain ⟨j33, ej33, h⟩ := lt_x h
  have hj33 : ∀ (σ33 : Mm) (H : Heap) (locs : List Loc) (ls : Array Slot), zh D A0 σ33 GF 740 s.heap H locs → lv_has ls 6 [] → j33 σ33 = some (r0, σr) → W p l e (zR 7 179) s m [.ref (A0 + 0), .int x1, .int x2, .int x3].toArray below meth c H locs 0 0 (MQ below (zQi D A0 r0 σr GF 740) [.ref (A0 + 0), .int x1, .int x2, .int x3].toArray s 0 0 (zA A0)) (F0 m 33 ls []) := by
    intro  σ33 H locs ls Z hl h
    rw [ej33] at h
    try dsimp only at h
    refine lv_ldc (v := (-1000000)) hx hb hown (hts _ zq1001) dX11_stranger_33 ?_
    obtain ⟨hq1, hq2⟩ := zpq h
    exact ze_i F Z hr hlocks hq1 hq2 dX11_stranger_35
  refine zb_ifne (tgt := 33) hx hb dX11_stranger_4 (by decide) h (fun h => ?_) (fun h => ?_)
  · exact hj33 σ _ _ _ Z (lv_sub hl [] rfl) h
  · refine lv_iload_n hx hb dX11_stranger_7 rfl (lv_at hl 1 rfl) ?_
    refine lv_iconst (v := 1) hx hb dX11_stranger_8 (by decide) ?_
    refine zb_iclt (tgt := 33) hx hb dX11_stranger_9 (by decide) h (fun h => ?_) (fun h => ?_)
    · exact hj33 σ _ _ _ Z (lv_sub hl [] rfl) h
    · refine lv_iload_n hx hb dX11_stranger_12 rfl (lv_at hl 1 rfl) ?_
      refine lv_bipush (v := 99) hx hb dX11_stranger_13 (by decide) ?_
      refine zb_icgt (tgt := 33) hx hb dX11_stranger_15 (by decide) h (fun h => ?_) (fun h => ?_)
      · exact hj33 σ _ _ _ Z (lv_sub hl [] rfl) h
      · refine lv_iload_n hx hb dX11_stranger_18 rfl (lv_at hl 2 rfl) ?_
        refine zc_i Z (zr_S F Z (As := [.int x2]) (zcX11_noPrice l D A0 x2 σ (zfX11_noPrice x2) rfl) zBX11_noPrice zq1059 rfl ⟨⟨rfl, rfl⟩, Nat.le_of_ble_eq_true rfl, Nat.le_of_ble_eq_true rfl⟩ hl.1 rfl (Nat.le_of_ble_eq_true rfl) dX11_stranger_19 ⟨Nat.le_of_ble_eq_true rfl, Nat.le_of_ble_eq_true rfl⟩) (fun _ _ Z => ?_)
        refine zb_ifne (tgt := 33) hx hb dX11_stranger_22 (by decide) h (fun h => ?_) (fun h => ?_)
        · exact hj33 σ _ _ _ Z (lv_sub hl [] rfl) h
        · refine lv_iload_n hx hb dX11_stranger_25 rfl (lv_at hl 3 rfl) ?_
          refine lv_iconst (v := 2) hx hb dX11_stranger_26 (by decide) ?_
          refine zc_i Z (zr_S F Z (As := [.int x3, .int 2]) (zcX11_noWhat l D A0 x3 2 σ (zfX11_noWhat x3 2) rfl) zBX11_noWhat zq971 rfl ⟨⟨rfl, rfl⟩, Nat.le_of_ble_eq_true rfl, Nat.le_of_ble_eq_true rfl⟩ hl.1 rfl (Nat.le_of_ble_eq_true rfl) dX11_stranger_27 ⟨Nat.le_of_ble_eq_true rfl, Nat.le_of_ble_eq_true rfl⟩) (fun _ _ Z => ?_)
          refine zb_ifeq (tgt := 36) hx hb dX11_stranger_30 (by decide) h (fun h => ?_) (fun h => ?_)
          · refine lv_aload_n hx hb dX11_stranger_36 rfl (lv_at hl 0 rfl) ?_
            refine zw_getR F Z zC11 (a := 0) (k := 3) (by decide) zs_0 (by decide) rfl zg_0_3 zq537 (Or.inl rfl) dX11_stranger_37 ?_
            refine zw_getI F Z zC0 (a := 3) (k := 0) (by decide) zs_3 (by decide) rfl zq135 (Or.inl rfl) dX11_stranger_40 ?_
            refine lv_topi (fun x4_43 ex4_43 => ?_)
            replace h := lt_w h ex4_43
            refine lv_istore (lv' := [(4, .int x4_43), (0, .ref (A0 + 0)), (1, .int x1), (2, .int x2), (3, .int x3)]) hx hb dX11_stranger_43 hl (by decide) rfl (fun ls hl => ?_)
            refine lv_aload_n hx hb dX11_stranger_45 rfl (lv_at hl 1 rfl) ?_
            refine zw_getR F Z zC11 (a := 0) (k := 10) (by decide) zs_0 (by decide) rfl zg_0_10 zq544 (Or.inl rfl) dX11_stranger_46 ?_
            obtain ⟨σ49, hc49, h⟩ := bd_x h
            refine zc_v Z (zr_V F Z (a := 68) (As := []) (zcX10_begin l D A0 σ σ49 hc49) zBX10_begin zq931 (by decide) zs_68 zC10.1 rfl ⟨⟨rfl, rfl⟩, Nat.le_of_ble_eq_true rfl, Nat.le_of_ble_eq_true rfl⟩ hl.1 rfl (Nat.le_of_ble_eq_true rfl) dX11_stranger_49 ⟨Nat.le_of_ble_eq_true rfl, Nat.le_of_ble_eq_true rfl⟩) (fun _ _ Z => ?_)
            refine lv_aload_n hx hb dX11_stranger_52 rfl (lv_at hl 1 rfl) ?_
            refine zw_getR F Z zC11 (a := 0) (k := 10) (by decide) zs_0 (by decide) rfl zg_0_10 zq544 (Or.inl rfl) dX11_stranger_53 ?_
            refine lv_iconst (v := 1) hx hb dX11_stranger_56 (by decide) ?_
            obtain ⟨σ57, hc57, h⟩ := bd_x h
            refine zc_v Z (zr_V F Z (a := 68) (As := [.int 1]) (zcX10_pass l D A0 1 σ49 σ57 hc57) zBX10_pass zq943 (by decide) zs_68 zC10.1 rfl ⟨⟨rfl, rfl⟩, Nat.le_of_ble_eq_true rfl, Nat.le_of_ble_eq_true rfl⟩ hl.1 rfl (Nat.le_of_ble_eq_true rfl) dX11_stranger_57 ⟨Nat.le_of_ble_eq_true rfl, Nat.le_of_ble_eq_true rfl⟩) (fun _ _ Z => ?_)
            refine lv_aload_n hx hb dX11_stranger_60 rfl (lv_at hl 1 rfl) ?_
            refine zw_getR F Z zC11 (a := 0) (k := 10) (by decide) zs_0 (by decide) rfl zg_0_10 zq544 (Or.inl rfl) dX11_stranger_61 ?_
            obtain ⟨r64, hc64, h⟩ := bd_x h
            refine zc_i Z (zr_V F Z (a := 68) (As := []) (zcX10_gainOfAll l D A0 σ57 r64 hc64) zBX10_gainOfAll zq1050 (by decide) zs_68 zC10.1 rfl ⟨⟨rfl, rfl⟩, Nat.le_of_ble_eq_true rfl, Nat.le_of_ble_eq_true rfl⟩ hl.1 rfl (Nat.le_of_ble_eq_true rfl) dX11_stranger_64 ⟨Nat.le_of_ble_eq_true rfl, Nat.le_of_ble_eq_true rfl⟩) (fun _ _ Z => ?_)
            refine lv_istore (lv' := [(5, .int r64), (4, .int x4_43), (0, .ref (A0 + 0)), (1, .int x1), (2, .int x2), (3, .int x3)]) hx hb dX11_stranger_67 hl (by decide) rfl (fun ls hl => ?_)
            refine lv_aload_n hx hb dX11_stranger_69 rfl (lv_at hl 2 rfl) ?_
            refine zw_getR F Z zC11 (a := 0) (k := 10) (by decide) zs_0 (by decide) rfl zg_0_10 zq544 (Or.inl rfl) dX11_stranger_70 ?_
            obtain ⟨σ73, hc73, h⟩ := bd_x h
            refine zc_v Z (zr_V F Z (a := 68) (As := []) (zcX10_begin l D A0 σ57 σ73 hc73) zBX10_begin zq931 (by decide) zs_68 zC10.1 rfl ⟨⟨rfl, rfl⟩, Nat.le_of_ble_eq_true rfl, Nat.le_of_ble_eq_true rfl⟩ hl.1 rfl (Nat.le_of_ble_eq_true rfl) dX11_stranger_73 ⟨Nat.le_of_ble_eq_true rfl, Nat.le_of_ble_eq_true rfl⟩) (fun _ _ Z => ?_)
            refine lv_aload_n hx hb dX11_stranger_76 rfl (lv_at hl 2 rfl) ?_
            refine zw_getR F Z zC11 (a := 0) (k := 10) (by decide) zs_0 (by decide) rfl zg_0_10 zq544 (Or.inl rfl) dX11_stranger_77 ?_
            refine lv_iload_n hx hb dX11_stranger_80 rfl (lv_at hl 3 rfl) ?_
            refine lv_iload_n hx hb dX11_stranger_81 rfl (lv_at hl 4 rfl) ?_
            obtain ⟨σ82, hc82, h⟩ := bd_x h
            refine zc_v Z (zr_V F Z (a := 68) (As := [.int x1, .int x2]) (zcX10_addStranger l D A0 x1 x2 σ73 σ82 hc82) zBX10_addStranger zq1076 (by decide) zs_68 zC10.1 rfl ⟨⟨rfl, rfl⟩, Nat.le_of_ble_eq_true rfl, Nat.le_of_ble_eq_true rfl⟩ hl.1 rfl (Nat.le_of_ble_eq_true rfl) dX11_stranger_82 ⟨Nat.le_of_ble_eq_true rfl, Nat.le_of_ble_eq_true rfl⟩) (fun _ _ Z => ?_)
            refine lv_aload_n hx hb dX11_stranger_85 rfl (lv_at hl 2 rfl) ?_
            refine zw_getR F Z zC11 (a := 0) (k := 10) (by decide) zs_0 (by decide) rfl zg_0_10 zq544 (Or.inl rfl) dX11_stranger_86 ?_
            refine lv_iconst (v := 1) hx hb dX11_stranger_89 (by decide) ?_
            obtain ⟨σ90, hc90, h⟩ := bd_x h
            refine zc_v Z (zr_V F Z (a := 68) (As := [.int 1]) (zcX10_pass l D A0 1 σ82 σ90 hc90) zBX10_pass zq943 (by decide) zs_68 zC10.1 rfl ⟨⟨rfl, rfl⟩, Nat.le_of_ble_eq_true rfl, Nat.le_of_ble_eq_true rfl⟩ hl.1 rfl (Nat.le_of_ble_eq_true rfl) dX11_stranger_90 ⟨Nat.le_of_ble_eq_true rfl, Nat.le_of_ble_eq_true rfl⟩) (fun _ _ Z => ?_)
            refine lv_iload_n hx hb dX11_stranger_93 rfl (lv_at hl 5 rfl) ?_
            refine zsp h (fun hs94_0 h => ?_) (fun hs94_0 h => ?_)
            · refine lv_lookup (tgt := 120) (off := 26) hx hb dX11_stranger_94 (by decide) (by first | (rw [hs94_0]; done) | (rw [hs94_0]; decide)) (by decide) ?_
              refine lv_aload_n hx hb dX11_stranger_120 rfl (lv_at hl 2 rfl) ?_
              refine zw_getR F Z zC11 (a := 0) (k := 10) (by decide) zs_0 (by decide) rfl zg_0_10 zq544 (Or.inl rfl) dX11_stranger_121 ?_
              refine zw_getR F Z zC10 (a := 68) (k := 3) (by decide) zs_68 (by decide) rfl zg_68_3 zq401 (Or.inl rfl) dX11_stranger_124 ?_
              refine zw_getI F Z zC8 (a := 69) (k := 0) (by decide) zs_69 (by decide) rfl zq222 (Or.inl rfl) dX11_stranger_127 ?_
              obtain ⟨hq1, hq2⟩ := zpq h
              exact ze_i F Z hr hlocks hq1 hq2 dX11_stranger_130
            · refine zsp h (fun hs94_1 h => ?_) (fun hs94_1 h => ?_)
              · refine lv_lookup (tgt := 131) (off := 37) hx hb dX11_stranger_94 (by decide) (by first | (rw [hs94_1]; done) | (rw [hs94_1]; decide)) (by decide) ?_
                refine lv_aload_n hx hb dX11_stranger_131 rfl (lv_at hl 2 rfl) ?_
                refine zw_getR F Z zC11 (a := 0) (k := 10) (by decide) zs_0 (by decide) rfl zg_0_10 zq544 (Or.inl rfl) dX11_stranger_132 ?_
                refine zw_getR F Z zC10 (a := 68) (k := 3) (by decide) zs_68 (by decide) rfl zg_68_3 zq401 (Or.inl rfl) dX11_stranger_135 ?_
                refine zw_getR F Z zC8 (a := 69) (k := 9) (by decide) zs_69 (by decide) rfl zg_69_9 zq253 (Or.inl rfl) dX11_stranger_138 ?_
                refine lv_iload hx hb dX11_stranger_141 (lv_at hl 1 rfl) ?_
                obtain ⟨hk143, h⟩ := ck_x h
                refine zw_iald F Z (by decide) zs_74 hk143 dX11_stranger_143 ?_
                obtain ⟨hq1, hq2⟩ := zpq h
                exact ze_i F Z hr hlocks hq1 hq2 dX11_stranger_144
              · refine lv_lookup (tgt := 145) (off := 51) hx hb dX11_stranger_94 (by decide) ((lv_osw hs94_0 (a := 0) (by decide)).trans ((lv_osw hs94_1 (a := 1) (by decide)).trans (rfl))) (by decide) ?_
                refine lv_iload hx hb dX11_stranger_145 (lv_at hl 0 rfl) ?_
                refine lv_aload_n hx hb dX11_stranger_147 rfl (lv_at hl 2 rfl) ?_
                refine zw_getR F Z zC11 (a := 0) (k := 10) (by decide) zs_0 (by decide) rfl zg_0_10 zq544 (Or.inl rfl) dX11_stranger_148 ?_
                obtain ⟨r151, hc151, h⟩ := bd_x h
                refine zc_i Z (zr_V F Z (a := 68) (As := []) (zcX10_gainOfAll l D A0 σ90 r151 hc151) zBX10_gainOfAll zq1050 (by decide) zs_68 zC10.1 rfl ⟨⟨rfl, rfl⟩, Nat.le_of_ble_eq_true rfl, Nat.le_of_ble_eq_true rfl⟩ hl.1 rfl (Nat.le_of_ble_eq_true rfl) dX11_stranger_151 ⟨Nat.le_of_ble_eq_true rfl, Nat.le_of_ble_eq_true rfl⟩) (fun _ _ Z => ?_)
                refine lv_isub hx hb dX11_stranger_154 ?_
                obtain ⟨hq1, hq2⟩ := zpq h
                exact ze_i F Z hr hlocks hq1 hq2 dX11_stranger_155
          · exact hj33 σ _ _ _ Z (lv_sub hl [] rfl) h
set_option maxHeartbeats 4000000 in
set_option maxRecDepth 100000 in
theorem zcX2_add_695 (l : Launch) (D : va_G) (A0 : Nat) (x1 : Int32) (x2 : Int32) (x3 : Int32) (σ : Mm) (r0 : Int32) (σr : Mm) (h : zfX2_add_695 x1 x2 x3 σ = some (r0, σr)) : Met l yX2_add (zws yX2_add cX2_add 4 (some .boolean)) (zR 0 0) (zPc D A0 σ GF 740 [.ref (A0 + 695), .int x1, .int x2, .int x3]) (zQi D A0 r0 σr GF 740) 0 0 (zA A0) := by
  unfold zfX2_add_695 at h
  refine zmet (own := RX2) (by decide) rfl (Nat.le_of_ble_eq_true rfl) ?_
  intro p e s m below meth c F hr hlocks _ Z ls hl
  have hl : lv_has ls 4 [(0, .ref (A0 + 695)), (1, .int x1), (2, .int x2), (3, .int x3)] := hl
  have hx := F.1.1
  have hb := F.1.2.1
  have hown := F.1.2.2.2.1
  have hts := F.1.2.2.2.2
  refine lv_aload_n hx hb dX2_add_0 rfl (lv_at hl 0 rfl) ?_
  refine zw_getI F Z zC2 (a := 695) (k := 3) (by decide) zs_695 (by decide) rfl zq523 (Or.inl rfl) dX2_add_1 ?_
  refine lv_aload_n hx hb dX2_add_4 rfl (lv_at hl 0 rfl) ?_
  refine zw_getR F Z zC2 (a := 695) (k := 0) (by decide) zs_695 (by decide) rfl zg_695_0 zq517 (Or.inl rfl) dX2_add_5 ?_
  refine zw_alen F Z (ty := 0) (v := 20) (by decide) zs_696 rfl rfl dX2_add_8 ?_
  obtain ⟨j36, ej36, h⟩ := lt_x h
  have hj36 : ∀ (σ36 : Mm) (H : Heap) (locs : List Loc) (ls : Array Slot), zh D A0 σ36 GF 740 s.heap H locs → lv_has ls 4 [] → j36 σ36 = some (r0, σr) → W p l e (zR 0 0) s m [.ref (A0 + 695), .int x1, .int x2, .int x3].toArray below meth c H locs 0 0 (MQ below (zQi D A0 r0 σr GF 740) [.ref (A0 + 695), .int x1, .int x2, .int x3].toArray s 0 0 (zA A0)) (F0 m 36 ls []) := by
    intro  σ36 H locs ls Z hl h
    rw [ej36] at h
    try dsimp only at h
    refine lv_iconst (v := 0) hx hb dX2_add_36 (by decide) ?_
    obtain ⟨hq1, hq2⟩ := zpq h
    exact ze_z F Z hr hlocks (by decide) hq1 hq2 dX2_add_37
  refine zb_icge (tgt := 36) hx hb dX2_add_9 (by decide) h (fun h => ?_) (fun h => ?_)
  · exact hj36 σ _ _ _ Z (lv_sub hl [] rfl) h
  · refine lv_aload_n hx hb dX2_add_12 rfl (lv_at hl 0 rfl) ?_
    refine zw_getI F Z zC2 (a := 695) (k := 3) (by decide) zs_695 (by decide) rfl zq523 (Or.inl rfl) dX2_add_13 ?_
    refine lv_aload_n hx hb dX2_add_16 rfl (lv_at hl 0 rfl) ?_
    refine zw_getR F Z zC2 (a := 695) (k := 1) (by decide) zs_695 (by decide) rfl zg_695_1 zq519 (Or.inl rfl) dX2_add_17 ?_
    refine zw_alen F Z (ty := 0) (v := 20) (by decide) zs_697 rfl rfl dX2_add_20 ?_
    refine zb_icge (tgt := 36) hx hb dX2_add_21 (by decide) h (fun h => ?_) (fun h => ?_)
    · exact hj36 σ _ _ _ Z (lv_sub hl [] rfl) h
    · refine lv_aload_n hx hb dX2_add_24 rfl (lv_at hl 0 rfl) ?_
      refine zw_getI F Z zC2 (a := 695) (k := 3) (by decide) zs_695 (by decide) rfl zq523 (Or.inl rfl) dX2_add_25 ?_
      refine lv_aload_n hx hb dX2_add_28 rfl (lv_at hl 0 rfl) ?_
      refine zw_getR F Z zC2 (a := 695) (k := 2) (by decide) zs_695 (by decide) rfl zg_695_2 zq521 (Or.inl rfl) dX2_add_29 ?_
      refine zw_alen F Z (ty := 0) (v := 20) (by decide) zs_698 rfl rfl dX2_add_32 ?_
      refine zb_iclt (tgt := 38) hx hb dX2_add_33 (by decide) h (fun h => ?_) (fun h => ?_)
      · refine lv_aload_n hx hb dX2_add_38 rfl (lv_at hl 0 rfl) ?_
        refine zw_getR F Z zC2 (a := 695) (k := 0) (by decide) zs_695 (by decide) rfl zg_695_0 zq517 (Or.inl rfl) dX2_add_39 ?_
        refine lv_aload_n hx hb dX2_add_42 rfl (lv_at hl 0 rfl) ?_
        refine zw_getI F Z zC2 (a := 695) (k := 3) (by decide) zs_695 (by decide) rfl zq523 (Or.inl rfl) dX2_add_43 ?_
        refine lv_iload_n hx hb dX2_add_46 rfl (lv_at hl 1 rfl) ?_
        obtain ⟨hk47, h⟩ := ck_x h
        refine zw_iast F Z (by decide) zs_696 hk47 dX2_add_47 (fun σ47 _ _ eσ47 Z => ?_)
        replace h := lt_w h eσ47
        refine lv_aload_n hx hb dX2_add_48 rfl (lv_at hl 0 rfl) ?_
        refine zw_getR F Z zC2 (a := 695) (k := 1) (by decide) zs_695 (by decide) rfl zg_695_1 zq519 (Or.inl rfl) dX2_add_49 ?_
        refine lv_aload_n hx hb dX2_add_52 rfl (lv_at hl 0 rfl) ?_
        refine zw_getI F Z zC2 (a := 695) (k := 3) (by decide) zs_695 (by decide) rfl zq523 (Or.inl rfl) dX2_add_53 ?_
        refine lv_iload_n hx hb dX2_add_56 rfl (lv_at hl 2 rfl) ?_
        obtain ⟨hk57, h⟩ := ck_x h
        refine zw_iast F Z (by decide) zs_697 hk57 dX2_add_57 (fun σ57 _ _ eσ57 Z => ?_)
        replace h := lt_w h eσ57
        refine lv_aload_n hx hb dX2_add_58 rfl (lv_at hl 0 rfl) ?_
        refine zw_getR F Z zC2 (a := 695) (k := 2) (by decide) zs_695 (by decide) rfl zg_695_2 zq521 (Or.inl rfl) dX2_add_59 ?_
        refine lv_aload_n hx hb dX2_add_62 rfl (lv_at hl 0 rfl) ?_
        refine zw_getI F Z zC2 (a := 695) (k := 3) (by decide) zs_695 (by decide) rfl zq523 (Or.inl rfl) dX2_add_63 ?_
        refine lv_iload_n hx hb dX2_add_66 rfl (lv_at hl 3 rfl) ?_
        obtain ⟨hk67, h⟩ := ck_x h
        refine zw_iast F Z (by decide) zs_698 hk67 dX2_add_67 (fun σ67 _ _ eσ67 Z => ?_)
        replace h := lt_w h eσ67
        refine lv_aload_n hx hb dX2_add_68 rfl (lv_at hl 0 rfl) ?_
        refine lv_dup hx hb dX2_add_69 rfl ?_
        refine zw_getI F Z zC2 (a := 695) (k := 3) (by decide) zs_695 (by decide) rfl zq523 (Or.inl rfl) dX2_add_70 ?_
        refine lv_iconst (v := 1) hx hb dX2_add_73 (by decide) ?_
        refine lv_iadd hx hb dX2_add_74 ?_
        refine zw_putI F Z zC2 (a := 695) (k := 3) (by decide) zs_695 (by decide) rfl (by decide) zq523 (Or.inl rfl) rfl ⟨rfl, rfl⟩ dX2_add_75 (fun σ75 _ _ eσ75 Z => ?_)
        replace h := lt_w h eσ75
        refine lv_iconst (v := 1) hx hb dX2_add_78 (by decide) ?_
        obtain ⟨hq1, hq2⟩ := zpq h
        exact ze_z F Z hr hlocks (by decide) hq1 hq2 dX2_add_79
      · exact hj36 σ _ _ _ Z (lv_sub hl [] rfl) h
set_option maxHeartbeats 4000000 in
set_option maxRecDepth 100000 in
theorem zcX2_add_699 (l : Launch) (D : va_G) (A0 : Nat) (x1 : Int32) (x2 : Int32) (x3 : Int32) (σ : Mm) (r0 : Int32) (σr : Mm) (h : zfX2_add_699 x1 x2 x3 σ = some (r0, σr)) : Met l yX2_add (zws yX2_add cX2_add 4 (some .boolean)) (zR 0 0) (zPc D A0 σ GF 740 [.ref (A0 + 699), .int x1, .int x2, .int x3]) (zQi D A0 r0 σr GF 740) 0 0 (zA A0) := by
  unfold zfX2_add_699 at h
  refine zmet (own := RX2) (by decide) rfl (Nat.le_of_ble_eq_true rfl) ?_
  intro p e s m below meth c F hr hlocks _ Z ls hl
  have hl : lv_has ls 4 [(0, .ref (A0 + 699)), (1, .int x1), (2, .int x2), (3, .int x3)] := hl
  have hx := F.1.1
  have hb := F.1.2.1
  have hown := F.1.2.2.2.1
  have hts := F.1.2.2.2.2
  refine lv_aload_n hx hb dX2_add_0 rfl (lv_at hl 0 rfl) ?_
  refine zw_getI F Z zC2 (a := 699) (k := 3) (by decide) zs_699 (by decide) rfl zq523 (Or.inl rfl) dX2_add_1 ?_
  refine lv_aload_n hx hb dX2_add_4 rfl (lv_at hl 0 rfl) ?_
  refine zw_getR F Z zC2 (a := 699) (k := 0) (by decide) zs_699 (by decide) rfl zg_699_0 zq517 (Or.inl rfl) dX2_add_5 ?_
  refine zw_alen F Z (ty := 0) (v := 60) (by decide) zs_700 rfl rfl dX2_add_8 ?_
  obtain ⟨j36, ej36, h⟩ := lt_x h
  have hj36 : ∀ (σ36 : Mm) (H : Heap) (locs : List Loc) (ls : Array Slot), zh D A0 σ36 GF 740 s.heap H locs → lv_has ls 4 [] → j36 σ36 = some (r0, σr) → W p l e (zR 0 0) s m [.ref (A0 + 699), .int x1, .int x2, .int x3].toArray below meth c H locs 0 0 (MQ below (zQi D A0 r0 σr GF 740) [.ref (A0 + 699), .int x1, .int x2, .int x3].toArray s 0 0 (zA A0)) (F0 m 36 ls []) := by
    intro  σ36 H locs ls Z hl h
    rw [ej36] at h
    try dsimp only at h
    refine lv_iconst (v := 0) hx hb dX2_add_36 (by decide) ?_
    obtain ⟨hq1, hq2⟩ := zpq h
    exact ze_z F Z hr hlocks (by decide) hq1 hq2 dX2_add_37
  refine zb_icge (tgt := 36) hx hb dX2_add_9 (by decide) h (fun h => ?_) (fun h => ?_)
  · exact hj36 σ _ _ _ Z (lv_sub hl [] rfl) h
  · refine lv_aload_n hx hb dX2_add_12 rfl (lv_at hl 0 rfl) ?_
    refine zw_getI F Z zC2 (a := 699) (k := 3) (by decide) zs_699 (by decide) rfl zq523 (Or.inl rfl) dX2_add_13 ?_
    refine lv_aload_n hx hb dX2_add_16 rfl (lv_at hl 0 rfl) ?_
    refine zw_getR F Z zC2 (a := 699) (k := 1) (by decide) zs_699 (by decide) rfl zg_699_1 zq519 (Or.inl rfl) dX2_add_17 ?_
    refine zw_alen F Z (ty := 0) (v := 60) (by decide) zs_701 rfl rfl dX2_add_20 ?_
    refine zb_icge (tgt := 36) hx hb dX2_add_21 (by decide) h (fun h => ?_) (fun h => ?_)
    · exact hj36 σ _ _ _ Z (lv_sub hl [] rfl) h
    · refine lv_aload_n hx hb dX2_add_24 rfl (lv_at hl 0 rfl) ?_
      refine zw_getI F Z zC2 (a := 699) (k := 3) (by decide) zs_699 (by decide) rfl zq523 (Or.inl rfl) dX2_add_25 ?_
      refine lv_aload_n hx hb dX2_add_28 rfl (lv_at hl 0 rfl) ?_
      refine zw_getR F Z zC2 (a := 699) (k := 2) (by decide) zs_699 (by decide) rfl zg_699_2 zq521 (Or.inl rfl) dX2_add_29 ?_
      refine zw_alen F Z (ty := 0) (v := 60) (by decide) zs_702 rfl rfl dX2_add_32 ?_
      refine zb_iclt (tgt := 38) hx hb dX2_add_33 (by decide) h (fun h => ?_) (fun h => ?_)
      · refine lv_aload_n hx hb dX2_add_38 rfl (lv_at hl 0 rfl) ?_
        refine zw_getR F Z zC2 (a := 699) (k := 0) (by decide) zs_699 (by decide) rfl zg_699_0 zq517 (Or.inl rfl) dX2_add_39 ?_
        refine lv_aload_n hx hb dX2_add_42 rfl (lv_at hl 0 rfl) ?_
        refine zw_getI F Z zC2 (a := 699) (k := 3) (by decide) zs_699 (by decide) rfl zq523 (Or.inl rfl) dX2_add_43 ?_
        refine lv_iload_n hx hb dX2_add_46 rfl (lv_at hl 1 rfl) ?_
        obtain ⟨hk47, h⟩ := ck_x h
        refine zw_iast F Z (by decide) zs_700 hk47 dX2_add_47 (fun σ47 _ _ eσ47 Z => ?_)
        replace h := lt_w h eσ47
        refine lv_aload_n hx hb dX2_add_48 rfl (lv_at hl 0 rfl) ?_
        refine zw_getR F Z zC2 (a := 699) (k := 1) (by decide) zs_699 (by decide) rfl zg_699_1 zq519 (Or.inl rfl) dX2_add_49 ?_
        refine lv_aload_n hx hb dX2_add_52 rfl (lv_at hl 0 rfl) ?_
        refine zw_getI F Z zC2 (a := 699) (k := 3) (by decide) zs_699 (by decide) rfl zq523 (Or.inl rfl) dX2_add_53 ?_
        refine lv_iload_n hx hb dX2_add_56 rfl (lv_at hl 2 rfl) ?_
        obtain ⟨hk57, h⟩ := ck_x h
        refine zw_iast F Z (by decide) zs_701 hk57 dX2_add_57 (fun σ57 _ _ eσ57 Z => ?_)
        replace h := lt_w h eσ57
        refine lv_aload_n hx hb dX2_add_58 rfl (lv_at hl 0 rfl) ?_
        refine zw_getR F Z zC2 (a := 699) (k := 2) (by decide) zs_699 (by decide) rfl zg_699_2 zq521 (Or.inl rfl) dX2_add_59 ?_
        refine lv_aload_n hx hb dX2_add_62 rfl (lv_at hl 0 rfl) ?_
        refine zw_getI F Z zC2 (a := 699) (k := 3) (by decide) zs_699 (by decide) rfl zq523 (Or.inl rfl) dX2_add_63 ?_
        refine lv_iload_n hx hb dX2_add_66 rfl (lv_at hl 3 rfl) ?_
        obtain ⟨hk67, h⟩ := ck_x h
        refine zw_iast F Z (by decide) zs_702 hk67 dX2_add_67 (fun σ67 _ _ eσ67 Z => ?_)
        replace h := lt_w h eσ67
        refine lv_aload_n hx hb dX2_add_68 rfl (lv_at hl 0 rfl) ?_
        refine lv_dup hx hb dX2_add_69 rfl ?_
        refine zw_getI F Z zC2 (a := 699) (k := 3) (by decide) zs_699 (by decide) rfl zq523 (Or.inl rfl) dX2_add_70 ?_
        refine lv_iconst (v := 1) hx hb dX2_add_73 (by decide) ?_
        refine lv_iadd hx hb dX2_add_74 ?_
        refine zw_putI F Z zC2 (a := 699) (k := 3) (by decide) zs_699 (by decide) rfl (by decide) zq523 (Or.inl rfl) rfl ⟨rfl, rfl⟩ dX2_add_75 (fun σ75 _ _ eσ75 Z => ?_)
        replace h := lt_w h eσ75
        refine lv_iconst (v := 1) hx hb dX2_add_78 (by decide) ?_
        obtain ⟨hq1, hq2⟩ := zpq h
        exact ze_z F Z hr hlocks (by decide) hq1 hq2 dX2_add_79
      · exact hj36 σ _ _ _ Z (lv_sub hl [] rfl) h
set_option maxHeartbeats 4000000 in
set_option maxRecDepth 100000 in
theorem zcX11_see (l : Launch) (D : va_G) (A0 : Nat) (x1 : Int32) (x2 : Int32) (σ : Mm) (r0 : Int32) (σr : Mm) (h : zfX11_see x1 x2 σ = some (r0, σr)) : Met l yX11_see (zws yX11_see cX11_see 3 (some .int)) (zR 2 41) (zPc D A0 σ GF 740 [.ref (A0 + 0), .int x1, .int x2]) (zQi D A0 r0 σr GF 740) 0 0 (zA A0) := by
  unfold zfX11_see at h
  refine zmet (own := RX11) (by decide) rfl (Nat.le_of_ble_eq_true rfl) ?_
  intro p e s m below meth c F hr hlocks _ Z ls hl
  have hl : lv_has ls 3 [(0, .ref (A0 + 0)), (1, .int x1), (2, .int x2)] := hl
  have hx := F.1.1
  have hb := F.1.2.1
  have hown := F.1.2.2.2.1
  have hts := F.1.2.2.2.2
  refine lv_aload_n hx hb dX11_see_0 rfl (lv_at hl 0 rfl) ?_
  refine lv_iload_n hx hb dX11_see_1 rfl (lv_at hl 1 rfl) ?_
  refine zc_i Z (zr_V F Z (a := 0) (As := [.int x1]) (zcX11_noDays l D A0 x1 σ (zfX11_noDays x1 σ) rfl) zBX11_noDays zq854 (by decide) zs_0 zC11.1 rfl ⟨⟨rfl, rfl⟩, Nat.le_of_ble_eq_true rfl, Nat.le_of_ble_eq_true rfl⟩ hl.1 rfl (Nat.le_of_ble_eq_true rfl) dX11_see_2 ⟨Nat.le_of_ble_eq_true rfl, Nat.le_of_ble_eq_true rfl⟩) (fun _ _ Z => ?_)
  obtain ⟨j28, ej28, h⟩ := lt_x h
  have hj28 : ∀ (σ28 : Mm) (H : Heap) (locs : List Loc) (ls : Array Slot), zh D A0 σ28 GF 740 s.heap H locs → lv_has ls 3 [] → j28 σ28 = some (r0, σr) → W p l e (zR 2 41) s m [.ref (A0 + 0), .int x1, .int x2].toArray below meth c H locs 0 0 (MQ below (zQi D A0 r0 σr GF 740) [.ref (A0 + 0), .int x1, .int x2].toArray s 0 0 (zA A0)) (F0 m 28 ls []) := by
    intro  σ28 H locs ls Z hl h
    rw [ej28] at h
    try dsimp only at h
    refine lv_iconst (v := (-1)) hx hb dX11_see_28 (by decide) ?_
    obtain ⟨hq1, hq2⟩ := zpq h
    exact ze_i F Z hr hlocks hq1 hq2 dX11_see_29
  refine zb_ifne (tgt := 28) hx hb dX11_see_5 (by decide) h (fun h => ?_) (fun h => ?_)
  · exact hj28 σ _ _ _ Z (lv_sub hl [] rfl) h
  · refine lv_iload_n hx hb dX11_see_8 rfl (lv_at hl 2 rfl) ?_
    refine zc_i Z (zr_S F Z (As := [.int x2]) (zcX11_noPrice l D A0 x2 σ (zfX11_noPrice x2) rfl) zBX11_noPrice zq1059 rfl ⟨⟨rfl, rfl⟩, Nat.le_of_ble_eq_true rfl, Nat.le_of_ble_eq_true rfl⟩ hl.1 rfl (Nat.le_of_ble_eq_true rfl) dX11_see_9 ⟨Nat.le_of_ble_eq_true rfl, Nat.le_of_ble_eq_true rfl⟩) (fun _ _ Z => ?_)
    refine zb_ifne (tgt := 28) hx hb dX11_see_12 (by decide) h (fun h => ?_) (fun h => ?_)
    · exact hj28 σ _ _ _ Z (lv_sub hl [] rfl) h
    · refine lv_aload_n hx hb dX11_see_15 rfl (lv_at hl 0 rfl) ?_
      refine zw_getR F Z zC11 (a := 0) (k := 12) (by decide) zs_0 (by decide) rfl zg_0_12 zq546 (Or.inl rfl) dX11_see_16 ?_
      refine lv_iload_n hx hb dX11_see_19 rfl (lv_at hl 1 rfl) ?_
      refine lv_iload_n hx hb dX11_see_20 rfl (lv_at hl 2 rfl) ?_
      refine lv_iconst (v := 0) hx hb dX11_see_21 (by decide) ?_
      obtain ⟨r22, σ22, hc22, h⟩ := bd2_x h
      refine zc_i Z (zr_V F Z (a := 695) (As := [.int x1, .int x2, .int 0]) (zcX2_add_695 l D A0 x1 x2 0 σ r22 σ22 hc22) zBX2_add zq1084 (by decide) zs_695 zC2.1 rfl ⟨⟨rfl, rfl⟩, Nat.le_of_ble_eq_true rfl, Nat.le_of_ble_eq_true rfl⟩ hl.1 rfl (Nat.le_of_ble_eq_true rfl) dX11_see_22 ⟨Nat.le_of_ble_eq_true rfl, Nat.le_of_ble_eq_true rfl⟩) (fun _ _ Z => ?_)
      refine zb_ifne (tgt := 30) hx hb dX11_see_25 (by decide) h (fun h => ?_) (fun h => ?_)
      · refine lv_aload_n hx hb dX11_see_30 rfl (lv_at hl 0 rfl) ?_
        refine zw_getR F Z zC11 (a := 0) (k := 12) (by decide) zs_0 (by decide) rfl zg_0_12 zq546 (Or.inl rfl) dX11_see_31 ?_
        refine zw_getI F Z zC2 (a := 695) (k := 3) (by decide) zs_695 (by decide) rfl zq524 (Or.inl rfl) dX11_see_34 ?_
        obtain ⟨hq1, hq2⟩ := zpq h
        exact ze_i F Z hr hlocks hq1 hq2 dX11_see_37
      · exact hj28 σ22 _ _ _ Z (lv_sub hl [] rfl) h
set_option maxHeartbeats 4000000 in
set_option maxRecDepth 100000 in
theorem zcX11_isSeenBy (l : Launch) (D : va_G) (A0 : Nat) (x1 : Int32) (σ : Mm) (r0 : Int32) (σr : Mm) (h : zfX11_isSeenBy x1 σ = some (r0, σr)) : Met l yX11_isSeenBy (zws yX11_isSeenBy cX11_isSeenBy 5 (some .boolean)) (zR 6 157) (zPc D A0 σ GF 740 [.ref (A0 + 0), .int x1]) (zQi D A0 r0 σr GF 740) 0 0 (zA A0) := by
  unfold zfX11_isSeenBy at h
  refine zmet (own := RX11) (by decide) rfl (Nat.le_of_ble_eq_true rfl) ?_
  intro p e s m below meth c F hr hlocks _ Z ls hl
  have hl : lv_has ls 5 [(0, .ref (A0 + 0)), (1, .int x1)] := hl
  have hx := F.1.1
  have hb := F.1.2.1
  have hown := F.1.2.2.2.1
  have hts := F.1.2.2.2.2
  refine lv_aload_n hx hb dX11_isSeenBy_0 rfl (lv_at hl 0 rfl) ?_
  refine zw_getR F Z zC11 (a := 0) (k := 10) (by decide) zs_0 (by decide) rfl zg_0_10 zq544 (Or.inl rfl) dX11_isSeenBy_1 ?_
  obtain ⟨σ4, hc4, h⟩ := bd_x h
  refine zc_v Z (zr_V F Z (a := 68) (As := []) (zcX10_begin l D A0 σ σ4 hc4) zBX10_begin zq931 (by decide) zs_68 zC10.1 rfl ⟨⟨rfl, rfl⟩, Nat.le_of_ble_eq_true rfl, Nat.le_of_ble_eq_true rfl⟩ hl.1 rfl (Nat.le_of_ble_eq_true rfl) dX11_isSeenBy_4 ⟨Nat.le_of_ble_eq_true rfl, Nat.le_of_ble_eq_true rfl⟩) (fun _ _ Z => ?_)
  refine lv_aload_n hx hb dX11_isSeenBy_7 rfl (lv_at hl 0 rfl) ?_
  refine zw_getR F Z zC11 (a := 0) (k := 10) (by decide) zs_0 (by decide) rfl zg_0_10 zq544 (Or.inl rfl) dX11_isSeenBy_8 ?_
  refine zw_getR F Z zC10 (a := 68) (k := 3) (by decide) zs_68 (by decide) rfl zg_68_3 zq401 (Or.inl rfl) dX11_isSeenBy_11 ?_
  refine lv_iload_n hx hb dX11_isSeenBy_14 rfl (lv_at hl 1 rfl) ?_
  refine zw_putI F Z zC8 (a := 69) (k := 3) (by decide) zs_69 (by decide) rfl (by decide) zq230 (Or.inl rfl) rfl ⟨rfl, rfl⟩ dX11_isSeenBy_15 (fun σ15 _ _ eσ15 Z => ?_)
  replace h := lt_w h eσ15
  refine lv_iconst (v := 0) hx hb dX11_isSeenBy_18 (by decide) ?_
  refine lv_istore_n (lv' := [(2, .int 0), (0, .ref (A0 + 0)), (1, .int x1)]) hx hb dX11_isSeenBy_19 rfl hl (by decide) rfl (fun ls hl => ?_)
  refine lv_iconst (v := 0) hx hb dX11_isSeenBy_20 (by decide) ?_
  refine lv_istore_n (lv' := [(3, .int 0), (2, .int 0), (0, .ref (A0 + 0)), (1, .int x1)]) hx hb dX11_isSeenBy_21 rfl hl (by decide) rfl (fun ls hl => ?_)
  obtain ⟨k53, ek53, h⟩ := lt_x h
  have hk53 : ∀ (x2_53 : Int32) (σ53 : Mm) (H : Heap) (locs : List Loc) (ls : Array Slot), zh D A0 σ53 GF 740 s.heap H locs → lv_has ls 5 [(0, .ref (A0 + 0)), (2, .int x2_53)] → k53 x2_53 σ53 = some (r0, σr) → W p l e (zR 6 157) s m [.ref (A0 + 0), .int x1].toArray below meth c H locs 0 0 (MQ below (zQi D A0 r0 σr GF 740) [.ref (A0 + 0), .int x1].toArray s 0 0 (zA A0)) (F0 m 53 ls []) := by
    intro x2_53 σ53 H locs ls Z hl h
    rw [ek53] at h
    try dsimp only at h
    refine lv_iconst (v := 1) hx hb dX11_isSeenBy_53 (by decide) ?_
    refine lv_istore_n (lv' := [(3, .int 1), (0, .ref (A0 + 0)), (2, .int x2_53)]) hx hb dX11_isSeenBy_54 rfl hl (by decide) rfl (fun ls hl => ?_)
    obtain ⟨k119, ek119, h⟩ := lt_x h
    have hk119 : ∀ (σ119 : Mm) (H : Heap) (locs : List Loc) (ls : Array Slot), zh D A0 σ119 GF 740 s.heap H locs → lv_has ls 5 [] → k119 σ119 = some (r0, σr) → W p l e (zR 6 157) s m [.ref (A0 + 0), .int x1].toArray below meth c H locs 0 0 (MQ below (zQi D A0 r0 σr GF 740) [.ref (A0 + 0), .int x1].toArray s 0 0 (zA A0)) (F0 m 119 ls []) := by
      intro  σ119 H locs ls Z hl h
      rw [ek119] at h
      try dsimp only at h
      refine lv_iconst (v := 0) hx hb dX11_isSeenBy_119 (by decide) ?_
      obtain ⟨hq1, hq2⟩ := zpq h
      exact ze_z F Z hr hlocks (by decide) hq1 hq2 dX11_isSeenBy_120
    obtain ⟨k133, ek133, h⟩ := lt_x h
    have hk133 : ∀ (σ133 : Mm) (H : Heap) (locs : List Loc) (ls : Array Slot), zh D A0 σ133 GF 740 s.heap H locs → lv_has ls 5 [] → k133 σ133 = some (r0, σr) → W p l e (zR 6 157) s m [.ref (A0 + 0), .int x1].toArray below meth c H locs 0 0 (MQ below (zQi D A0 r0 σr GF 740) [.ref (A0 + 0), .int x1].toArray s 0 0 (zA A0)) (F0 m 133 ls []) := by
      intro  σ133 H locs ls Z hl h
      rw [ek133] at h
      try dsimp only at h
      refine lv_iconst (v := 1) hx hb dX11_isSeenBy_133 (by decide) ?_
      obtain ⟨hq1, hq2⟩ := zpq h
      exact ze_z F Z hr hlocks (by decide) hq1 hq2 dX11_isSeenBy_134
    have hL55 : ∀ (fu55 : Nat) (x3_55 : Int32) (σ55 : Mm) (H : Heap) (locs : List Loc) (ls : Array Slot), zh D A0 σ55 GF 740 s.heap H locs → lv_has ls 5 [(0, .ref (A0 + 0)), (2, .int x2_53), (3, .int x3_55)] → zfX11_isSeenBy_L55 x2_53 k133 k119 fu55 x3_55 σ55 = some (r0, σr) → W p l e (zR 6 157) s m [.ref (A0 + 0), .int x1].toArray below meth c H locs 0 0 (MQ below (zQi D A0 r0 σr GF 740) [.ref (A0 + 0), .int x1].toArray s 0 0 (zA A0)) (F0 m 55 ls []) := by
      intro fu55
      induction fu55 with
      | zero => intro x3_55 σ55 H locs ls Z hl h; rw [zfX11_isSeenBy_L55] at h; cases h
      | succ fu55 ih55 =>
        intro x3_55 σ55 H locs ls Z hl h
        rw [zfX11_isSeenBy_L55] at h
        refine lv_iload_n hx hb dX11_isSeenBy_55 rfl (lv_at hl 2 rfl) ?_
        refine lv_iload_n hx hb dX11_isSeenBy_56 rfl (lv_at hl 1 rfl) ?_
        refine zb_icgt (tgt := 133) hx hb dX11_isSeenBy_57 (by decide) h (fun h => ?_) (fun h => ?_)
        · exact hk133 σ55 _ _ _ Z (lv_sub hl [] rfl) h
        · refine lv_aload_n hx hb dX11_isSeenBy_60 rfl (lv_at hl 0 rfl) ?_
          refine zw_getR F Z zC11 (a := 0) (k := 10) (by decide) zs_0 (by decide) rfl zg_0_10 zq544 (Or.inl rfl) dX11_isSeenBy_61 ?_
          obtain ⟨σ64, hc64, h⟩ := bd_x h
          refine zc_v Z (zr_V F Z (a := 68) (As := []) (zcX10_step l D A0 σ55 σ64 hc64) zBX10_step zq1097 (by decide) zs_68 zC10.1 rfl ⟨⟨rfl, rfl⟩, Nat.le_of_ble_eq_true rfl, Nat.le_of_ble_eq_true rfl⟩ hl.1 rfl (Nat.le_of_ble_eq_true rfl) dX11_isSeenBy_64 ⟨Nat.le_of_ble_eq_true rfl, Nat.le_of_ble_eq_true rfl⟩) (fun _ _ Z => ?_)
          refine lv_iconst (v := 0) hx hb dX11_isSeenBy_67 (by decide) ?_
          refine lv_istore (lv' := [(4, .int 0), (0, .ref (A0 + 0)), (2, .int x2_53), (3, .int x3_55)]) hx hb dX11_isSeenBy_68 hl (by decide) rfl (fun ls hl => ?_)
          obtain ⟨k119_1, ek119_1, h⟩ := lt_x h
          have hk119_1 : ∀ (σ119_1 : Mm) (H : Heap) (locs : List Loc) (ls : Array Slot), zh D A0 σ119_1 GF 740 s.heap H locs → lv_has ls 5 [] → k119_1 σ119_1 = some (r0, σr) → W p l e (zR 6 157) s m [.ref (A0 + 0), .int x1].toArray below meth c H locs 0 0 (MQ below (zQi D A0 r0 σr GF 740) [.ref (A0 + 0), .int x1].toArray s 0 0 (zA A0)) (F0 m 119 ls []) := by
            intro  σ119_1 H locs ls Z hl h
            rw [ek119_1] at h
            try dsimp only at h
            exact hk119 σ119_1 _ _ _ Z (lv_sub hl [] rfl) h
          obtain ⟨k127, ek127, h⟩ := lt_x h
          have hk127 : ∀ (σ127 : Mm) (H : Heap) (locs : List Loc) (ls : Array Slot), zh D A0 σ127 GF 740 s.heap H locs → lv_has ls 5 [(0, .ref (A0 + 0)), (2, .int x2_53), (3, .int x3_55)] → k127 σ127 = some (r0, σr) → W p l e (zR 6 157) s m [.ref (A0 + 0), .int x1].toArray below meth c H locs 0 0 (MQ below (zQi D A0 r0 σr GF 740) [.ref (A0 + 0), .int x1].toArray s 0 0 (zA A0)) (F0 m 127 ls []) := by
            intro  σ127 H locs ls Z hl h
            rw [ek127] at h
            try dsimp only at h
            obtain ⟨x3_127, ex3_127⟩ : ∃ y : Int32, y = x3_55 + 1 := ⟨_, rfl⟩
            replace h := lt_w h ex3_127
            refine lv_iinc (v := x3_127) (lv' := [(3, .int x3_127), (0, .ref (A0 + 0)), (2, .int x2_53)]) hx hb dX11_isSeenBy_127 hl (k := 2) rfl (by rw [ex3_127]; rfl) (by decide) rfl (fun ls hl => ?_)
            refine lv_goto (tgt := 55) hx hb dX11_isSeenBy_130 (by decide) ?_
            exact ih55 x3_127 σ127 _ _ _ Z (lv_sub hl [1, 2, 0] rfl) h
          have hL70 : ∀ (fu70 : Nat) (x4_70 : Int32) (σ70 : Mm) (H : Heap) (locs : List Loc) (ls : Array Slot), zh D A0 σ70 GF 740 s.heap H locs → lv_has ls 5 [(0, .ref (A0 + 0)), (2, .int x2_53), (3, .int x3_55), (4, .int x4_70)] → zfX11_isSeenBy_L70 k127 x3_55 k119_1 fu70 x4_70 σ70 = some (r0, σr) → W p l e (zR 6 157) s m [.ref (A0 + 0), .int x1].toArray below meth c H locs 0 0 (MQ below (zQi D A0 r0 σr GF 740) [.ref (A0 + 0), .int x1].toArray s 0 0 (zA A0)) (F0 m 70 ls []) := by
            intro fu70
            induction fu70 with
            | zero => intro x4_70 σ70 H locs ls Z hl h; rw [zfX11_isSeenBy_L70] at h; cases h
            | succ fu70 ih70 =>
              intro x4_70 σ70 H locs ls Z hl h
              rw [zfX11_isSeenBy_L70] at h
              refine lv_iload hx hb dX11_isSeenBy_70 (lv_at hl 3 rfl) ?_
              refine lv_aload_n hx hb dX11_isSeenBy_72 rfl (lv_at hl 0 rfl) ?_
              refine zw_getR F Z zC11 (a := 0) (k := 12) (by decide) zs_0 (by decide) rfl zg_0_12 zq546 (Or.inl rfl) dX11_isSeenBy_73 ?_
              refine zw_getI F Z zC2 (a := 695) (k := 3) (by decide) zs_695 (by decide) rfl zq524 (Or.inl rfl) dX11_isSeenBy_76 ?_
              refine zb_icge (tgt := 127) hx hb dX11_isSeenBy_79 (by decide) h (fun h => ?_) (fun h => ?_)
              · exact hk127 σ70 _ _ _ Z (lv_sub hl [0, 1, 2] rfl) h
              · refine lv_aload_n hx hb dX11_isSeenBy_82 rfl (lv_at hl 0 rfl) ?_
                refine zw_getR F Z zC11 (a := 0) (k := 12) (by decide) zs_0 (by decide) rfl zg_0_12 zq546 (Or.inl rfl) dX11_isSeenBy_83 ?_
                refine zw_getR F Z zC2 (a := 695) (k := 0) (by decide) zs_695 (by decide) rfl zg_695_0 zq518 (Or.inl rfl) dX11_isSeenBy_86 ?_
                refine lv_iload hx hb dX11_isSeenBy_89 (lv_at hl 3 rfl) ?_
                obtain ⟨hk91, h⟩ := ck_x h
                refine zw_iald F Z (by decide) zs_696 hk91 dX11_isSeenBy_91 ?_
                refine lv_iload_n hx hb dX11_isSeenBy_92 rfl (lv_at hl 2 rfl) ?_
                obtain ⟨j121, ej121, h⟩ := lt_x h
                have hj121 : ∀ (σ121 : Mm) (H : Heap) (locs : List Loc) (ls : Array Slot), zh D A0 σ121 GF 740 s.heap H locs → lv_has ls 5 [(0, .ref (A0 + 0)), (2, .int x2_53), (3, .int x3_55), (4, .int x4_70)] → j121 σ121 = some (r0, σr) → W p l e (zR 6 157) s m [.ref (A0 + 0), .int x1].toArray below meth c H locs 0 0 (MQ below (zQi D A0 r0 σr GF 740) [.ref (A0 + 0), .int x1].toArray s 0 0 (zA A0)) (F0 m 121 ls []) := by
                  intro  σ121 H locs ls Z hl h
                  rw [ej121] at h
                  try dsimp only at h
                  obtain ⟨x4_121, ex4_121⟩ : ∃ y : Int32, y = x4_70 + 1 := ⟨_, rfl⟩
                  replace h := lt_w h ex4_121
                  refine lv_iinc (v := x4_121) (lv' := [(4, .int x4_121), (0, .ref (A0 + 0)), (2, .int x2_53), (3, .int x3_55)]) hx hb dX11_isSeenBy_121 hl (k := 3) rfl (by rw [ex4_121]; rfl) (by decide) rfl (fun ls hl => ?_)
                  refine lv_goto (tgt := 70) hx hb dX11_isSeenBy_124 (by decide) ?_
                  exact ih70 x4_121 σ121 _ _ _ Z (lv_sub hl [1, 2, 3, 0] rfl) h
                refine zb_icne (tgt := 121) hx hb dX11_isSeenBy_93 (by decide) h (fun h => ?_) (fun h => ?_)
                · exact hj121 σ70 _ _ _ Z (lv_sub hl [0, 1, 2, 3] rfl) h
                · refine lv_aload_n hx hb dX11_isSeenBy_96 rfl (lv_at hl 0 rfl) ?_
                  refine zw_getR F Z zC11 (a := 0) (k := 12) (by decide) zs_0 (by decide) rfl zg_0_12 zq546 (Or.inl rfl) dX11_isSeenBy_97 ?_
                  refine zw_getR F Z zC2 (a := 695) (k := 1) (by decide) zs_695 (by decide) rfl zg_695_1 zq520 (Or.inl rfl) dX11_isSeenBy_100 ?_
                  refine lv_iload hx hb dX11_isSeenBy_103 (lv_at hl 3 rfl) ?_
                  obtain ⟨hk105, h⟩ := ck_x h
                  refine zw_iald F Z (by decide) zs_697 hk105 dX11_isSeenBy_105 ?_
                  refine lv_aload_n hx hb dX11_isSeenBy_106 rfl (lv_at hl 0 rfl) ?_
                  refine zw_getR F Z zC11 (a := 0) (k := 10) (by decide) zs_0 (by decide) rfl zg_0_10 zq544 (Or.inl rfl) dX11_isSeenBy_107 ?_
                  refine zw_getR F Z zC10 (a := 68) (k := 3) (by decide) zs_68 (by decide) rfl zg_68_3 zq401 (Or.inl rfl) dX11_isSeenBy_110 ?_
                  refine zw_getI F Z zC8 (a := 69) (k := 0) (by decide) zs_69 (by decide) rfl zq222 (Or.inl rfl) dX11_isSeenBy_113 ?_
                  refine zb_iceq (tgt := 121) hx hb dX11_isSeenBy_116 (by decide) h (fun h => ?_) (fun h => ?_)
                  · exact hj121 σ70 _ _ _ Z (lv_sub hl [0, 1, 2, 3] rfl) h
                  · exact hk119_1 σ70 _ _ _ Z (lv_sub hl [] rfl) h
          exact hL70 NF 0 σ64 _ _ _ Z (lv_sub hl [1, 2, 3, 0] rfl) h
    exact hL55 NF 1 σ53 _ _ _ Z (lv_sub hl [1, 2, 0] rfl) h
  have hL22 : ∀ (fu22 : Nat) (x2_22 : Int32) (x3_22 : Int32) (σ22 : Mm) (H : Heap) (locs : List Loc) (ls : Array Slot), zh D A0 σ22 GF 740 s.heap H locs → lv_has ls 5 [(0, .ref (A0 + 0)), (2, .int x2_22), (3, .int x3_22)] → zfX11_isSeenBy_L22 k53 fu22 x2_22 x3_22 σ22 = some (r0, σr) → W p l e (zR 6 157) s m [.ref (A0 + 0), .int x1].toArray below meth c H locs 0 0 (MQ below (zQi D A0 r0 σr GF 740) [.ref (A0 + 0), .int x1].toArray s 0 0 (zA A0)) (F0 m 22 ls []) := by
    intro fu22
    induction fu22 with
    | zero => intro x2_22 x3_22 σ22 H locs ls Z hl h; rw [zfX11_isSeenBy_L22] at h; cases h
    | succ fu22 ih22 =>
      intro x2_22 x3_22 σ22 H locs ls Z hl h
      rw [zfX11_isSeenBy_L22] at h
      refine lv_iload_n hx hb dX11_isSeenBy_22 rfl (lv_at hl 2 rfl) ?_
      refine lv_aload_n hx hb dX11_isSeenBy_23 rfl (lv_at hl 0 rfl) ?_
      refine zw_getR F Z zC11 (a := 0) (k := 12) (by decide) zs_0 (by decide) rfl zg_0_12 zq546 (Or.inl rfl) dX11_isSeenBy_24 ?_
      refine zw_getI F Z zC2 (a := 695) (k := 3) (by decide) zs_695 (by decide) rfl zq524 (Or.inl rfl) dX11_isSeenBy_27 ?_
      refine zb_icge (tgt := 53) hx hb dX11_isSeenBy_30 (by decide) h (fun h => ?_) (fun h => ?_)
      · exact hk53 x2_22 σ22 _ _ _ Z (lv_sub hl [0, 1] rfl) h
      · refine lv_iload_n hx hb dX11_isSeenBy_33 rfl (lv_at hl 1 rfl) ?_
        refine lv_aload_n hx hb dX11_isSeenBy_34 rfl (lv_at hl 0 rfl) ?_
        refine zw_getR F Z zC11 (a := 0) (k := 12) (by decide) zs_0 (by decide) rfl zg_0_12 zq546 (Or.inl rfl) dX11_isSeenBy_35 ?_
        refine zw_getR F Z zC2 (a := 695) (k := 0) (by decide) zs_695 (by decide) rfl zg_695_0 zq518 (Or.inl rfl) dX11_isSeenBy_38 ?_
        refine lv_iload_n hx hb dX11_isSeenBy_41 rfl (lv_at hl 2 rfl) ?_
        obtain ⟨hk42, h⟩ := ck_x h
        refine zw_iald F Z (by decide) zs_696 hk42 dX11_isSeenBy_42 ?_
        refine zw_zmax F hl.1 zq1096 (Nat.le_of_ble_eq_true rfl) (Nat.le_of_ble_eq_true rfl) (Nat.le_of_ble_eq_true rfl) (Nat.le_of_ble_eq_true rfl) dX11_isSeenBy_43 ?_
        refine lv_topi (fun x2_46 ex2_46 => ?_)
        replace h := lt_w h ex2_46
        refine lv_istore_n (lv' := [(2, .int x2_46), (0, .ref (A0 + 0)), (3, .int x3_22)]) hx hb dX11_isSeenBy_46 rfl hl (by decide) rfl (fun ls hl => ?_)
        obtain ⟨x3_47, ex3_47⟩ : ∃ y : Int32, y = x3_22 + 1 := ⟨_, rfl⟩
        replace h := lt_w h ex3_47
        refine lv_iinc (v := x3_47) (lv' := [(3, .int x3_47), (2, .int x2_46), (0, .ref (A0 + 0))]) hx hb dX11_isSeenBy_47 hl (k := 2) rfl (by rw [ex3_47]; rfl) (by decide) rfl (fun ls hl => ?_)
        refine lv_goto (tgt := 22) hx hb dX11_isSeenBy_50 (by decide) ?_
        exact ih22 x2_46 x3_47 σ22 _ _ _ Z (lv_sub hl [2, 1, 0] rfl) h
  exact hL22 NF 0 0 σ15 _ _ _ Z (lv_sub hl [2, 1, 0] rfl) h
set_option maxHeartbeats 4000000 in
set_option maxRecDepth 100000 in
theorem zcX11_fits (l : Launch) (D : va_G) (A0 : Nat) (x1 : Int32) (σ : Mm) (r0 : Int32) (σr : Mm) (h : zfX11_fits x1 σ = some (r0, σr)) : Met l yX11_fits (zws yX11_fits cX11_fits 5 (some .int)) (zR 7 181) (zPc D A0 σ GF 740 [.ref (A0 + 0), .int x1]) (zQi D A0 r0 σr GF 740) 0 0 (zA A0) := by
  unfold zfX11_fits at h
  refine zmet (own := RX11) (by decide) rfl (Nat.le_of_ble_eq_true rfl) ?_
  intro p e s m below meth c F hr hlocks _ Z ls hl
  have hl : lv_has ls 5 [(0, .ref (A0 + 0)), (1, .int x1)] := hl
  have hx := F.1.1
  have hb := F.1.2.1
  have hown := F.1.2.2.2.1
  have hts := F.1.2.2.2.2
  refine lv_aload_n hx hb dX11_fits_0 rfl (lv_at hl 0 rfl) ?_
  refine zc_i Z (zr_V F Z (a := 0) (As := []) (zcX11_noMarket l D A0 σ (zfX11_noMarket σ) rfl) zBX11_noMarket zq858 (by decide) zs_0 zC11.1 rfl ⟨⟨rfl, rfl⟩, Nat.le_of_ble_eq_true rfl, Nat.le_of_ble_eq_true rfl⟩ hl.1 rfl (Nat.le_of_ble_eq_true rfl) dX11_fits_1 ⟨Nat.le_of_ble_eq_true rfl, Nat.le_of_ble_eq_true rfl⟩) (fun _ _ Z => ?_)
  obtain ⟨j12, ej12, h⟩ := lt_x h
  have hj12 : ∀ (σ12 : Mm) (H : Heap) (locs : List Loc) (ls : Array Slot), zh D A0 σ12 GF 740 s.heap H locs → lv_has ls 5 [] → j12 σ12 = some (r0, σr) → W p l e (zR 7 181) s m [.ref (A0 + 0), .int x1].toArray below meth c H locs 0 0 (MQ below (zQi D A0 r0 σr GF 740) [.ref (A0 + 0), .int x1].toArray s 0 0 (zA A0)) (F0 m 12 ls []) := by
    intro  σ12 H locs ls Z hl h
    rw [ej12] at h
    try dsimp only at h
    refine lv_iconst (v := (-1)) hx hb dX11_fits_12 (by decide) ?_
    obtain ⟨hq1, hq2⟩ := zpq h
    exact ze_i F Z hr hlocks hq1 hq2 dX11_fits_13
  refine zb_ifne (tgt := 12) hx hb dX11_fits_4 (by decide) h (fun h => ?_) (fun h => ?_)
  · exact hj12 σ _ _ _ Z (lv_sub hl [] rfl) h
  · refine lv_iload_n hx hb dX11_fits_7 rfl (lv_at hl 1 rfl) ?_
    refine lv_iconst (v := (-1)) hx hb dX11_fits_8 (by decide) ?_
    refine zb_icge (tgt := 14) hx hb dX11_fits_9 (by decide) h (fun h => ?_) (fun h => ?_)
    · refine lv_iconst (v := 0) hx hb dX11_fits_14 (by decide) ?_
      refine lv_istore_n (lv' := [(2, .int 0), (0, .ref (A0 + 0)), (1, .int x1)]) hx hb dX11_fits_15 rfl hl (by decide) rfl (fun ls hl => ?_)
      refine lv_iconst (v := 1) hx hb dX11_fits_16 (by decide) ?_
      refine lv_aload_n hx hb dX11_fits_17 rfl (lv_at hl 1 rfl) ?_
      refine zw_getR F Z zC11 (a := 0) (k := 3) (by decide) zs_0 (by decide) rfl zg_0_3 zq537 (Or.inl rfl) dX11_fits_18 ?_
      refine zw_getI F Z zC0 (a := 3) (k := 0) (by decide) zs_3 (by decide) rfl zq135 (Or.inl rfl) dX11_fits_21 ?_
      refine lv_ishl hx hb dX11_fits_24 ?_
      refine lv_topi (fun x3_25 ex3_25 => ?_)
      replace h := lt_w h ex3_25
      refine lv_istore_n (lv' := [(3, .int x3_25), (2, .int 0), (0, .ref (A0 + 0)), (1, .int x1)]) hx hb dX11_fits_25 rfl hl (by decide) rfl (fun ls hl => ?_)
      refine lv_iconst (v := 0) hx hb dX11_fits_26 (by decide) ?_
      refine lv_istore (lv' := [(4, .int 0), (3, .int x3_25), (2, .int 0), (0, .ref (A0 + 0)), (1, .int x1)]) hx hb dX11_fits_27 hl (by decide) rfl (fun ls hl => ?_)
      obtain ⟨k52, ek52, h⟩ := lt_x h
      have hk52 : ∀ (x4_52 : Int32) (σ52 : Mm) (H : Heap) (locs : List Loc) (ls : Array Slot), zh D A0 σ52 GF 740 s.heap H locs → lv_has ls 5 [(4, .int x4_52)] → k52 x4_52 σ52 = some (r0, σr) → W p l e (zR 7 181) s m [.ref (A0 + 0), .int x1].toArray below meth c H locs 0 0 (MQ below (zQi D A0 r0 σr GF 740) [.ref (A0 + 0), .int x1].toArray s 0 0 (zA A0)) (F0 m 52 ls []) := by
        intro x4_52 σ52 H locs ls Z hl h
        rw [ek52] at h
        try dsimp only at h
        refine lv_iload hx hb dX11_fits_52 (lv_at hl 0 rfl) ?_
        obtain ⟨hq1, hq2⟩ := zpq h
        exact ze_i F Z hr hlocks hq1 hq2 dX11_fits_54
      obtain ⟨k64, ek64, h⟩ := lt_x h
      have hk64 : ∀ (x2_64 : Int32) (σ64 : Mm) (H : Heap) (locs : List Loc) (ls : Array Slot), zh D A0 σ64 GF 740 s.heap H locs → lv_has ls 5 [(1, .int x1), (2, .int x2_64)] → k64 x2_64 σ64 = some (r0, σr) → W p l e (zR 7 181) s m [.ref (A0 + 0), .int x1].toArray below meth c H locs 0 0 (MQ below (zQi D A0 r0 σr GF 740) [.ref (A0 + 0), .int x1].toArray s 0 0 (zA A0)) (F0 m 64 ls []) := by
        intro x2_64 σ64 H locs ls Z hl h
        rw [ek64] at h
        try dsimp only at h
        refine lv_iload_n hx hb dX11_fits_64 rfl (lv_at hl 0 rfl) ?_
        refine lv_iconst (v := (-1)) hx hb dX11_fits_65 (by decide) ?_
        refine zb_icne (tgt := 73) hx hb dX11_fits_66 (by decide) h (fun h => ?_) (fun h => ?_)
        · refine lv_iconst (v := (-1)) hx hb dX11_fits_73 (by decide) ?_
          obtain ⟨hq1, hq2⟩ := zpq h
          exact ze_i F Z hr hlocks hq1 hq2 dX11_fits_74
        · refine lv_iload_n hx hb dX11_fits_69 rfl (lv_at hl 1 rfl) ?_
          refine lv_goto (tgt := 74) hx hb dX11_fits_70 (by decide) ?_
          obtain ⟨hq1, hq2⟩ := zpq h
          exact ze_i F Z hr hlocks hq1 hq2 dX11_fits_74
      have hL29 : ∀ (fu29 : Nat) (x2_29 : Int32) (x4_29 : Int32) (σ29 : Mm) (H : Heap) (locs : List Loc) (ls : Array Slot), zh D A0 σ29 GF 740 s.heap H locs → lv_has ls 5 [(0, .ref (A0 + 0)), (1, .int x1), (2, .int x2_29), (3, .int x3_25), (4, .int x4_29)] → zfX11_fits_L29 x3_25 k64 x1 k52 fu29 x2_29 x4_29 σ29 = some (r0, σr) → W p l e (zR 7 181) s m [.ref (A0 + 0), .int x1].toArray below meth c H locs 0 0 (MQ below (zQi D A0 r0 σr GF 740) [.ref (A0 + 0), .int x1].toArray s 0 0 (zA A0)) (F0 m 29 ls []) := by
        intro fu29
        induction fu29 with
        | zero => intro x2_29 x4_29 σ29 H locs ls Z hl h; rw [zfX11_fits_L29] at h; cases h
        | succ fu29 ih29 =>
          intro x2_29 x4_29 σ29 H locs ls Z hl h
          rw [zfX11_fits_L29] at h
          refine lv_iload hx hb dX11_fits_29 (lv_at hl 4 rfl) ?_
          refine lv_iload_n hx hb dX11_fits_31 rfl (lv_at hl 3 rfl) ?_
          refine zb_icge (tgt := 64) hx hb dX11_fits_32 (by decide) h (fun h => ?_) (fun h => ?_)
          · exact hk64 x2_29 σ29 _ _ _ Z (lv_sub hl [1, 2] rfl) h
          · refine lv_aload_n hx hb dX11_fits_35 rfl (lv_at hl 0 rfl) ?_
            refine lv_iload hx hb dX11_fits_36 (lv_at hl 4 rfl) ?_
            obtain ⟨r38, σ38, hc38, h⟩ := bd2_x h
            refine zc_i Z (zr_V F Z (a := 0) (As := [.int x4_29]) (zcX11_isSeenBy l D A0 x4_29 σ29 r38 σ38 hc38) zBX11_isSeenBy zq1092 (by decide) zs_0 zC11.1 rfl ⟨⟨rfl, rfl⟩, Nat.le_of_ble_eq_true rfl, Nat.le_of_ble_eq_true rfl⟩ hl.1 rfl (Nat.le_of_ble_eq_true rfl) dX11_fits_38 ⟨Nat.le_of_ble_eq_true rfl, Nat.le_of_ble_eq_true rfl⟩) (fun _ _ Z => ?_)
            obtain ⟨j58, ej58, h⟩ := lt_x h
            have hj58 : ∀ (x2_58 : Int32) (σ58 : Mm) (H : Heap) (locs : List Loc) (ls : Array Slot), zh D A0 σ58 GF 740 s.heap H locs → lv_has ls 5 [(0, .ref (A0 + 0)), (1, .int x1), (2, .int x2_58), (3, .int x3_25), (4, .int x4_29)] → j58 x2_58 σ58 = some (r0, σr) → W p l e (zR 7 181) s m [.ref (A0 + 0), .int x1].toArray below meth c H locs 0 0 (MQ below (zQi D A0 r0 σr GF 740) [.ref (A0 + 0), .int x1].toArray s 0 0 (zA A0)) (F0 m 58 ls []) := by
              intro x2_58 σ58 H locs ls Z hl h
              rw [ej58] at h
              try dsimp only at h
              obtain ⟨x4_58, ex4_58⟩ : ∃ y : Int32, y = x4_29 + 1 := ⟨_, rfl⟩
              replace h := lt_w h ex4_58
              refine lv_iinc (v := x4_58) (lv' := [(4, .int x4_58), (0, .ref (A0 + 0)), (1, .int x1), (2, .int x2_58), (3, .int x3_25)]) hx hb dX11_fits_58 hl (k := 4) rfl (by rw [ex4_58]; rfl) (by decide) rfl (fun ls hl => ?_)
              refine lv_goto (tgt := 29) hx hb dX11_fits_61 (by decide) ?_
              exact ih29 x2_58 x4_58 σ58 _ _ _ Z (lv_sub hl [1, 2, 3, 4, 0] rfl) h
            refine zb_ifne (tgt := 47) hx hb dX11_fits_41 (by decide) h (fun h => ?_) (fun h => ?_)
            · refine lv_iload_n hx hb dX11_fits_47 rfl (lv_at hl 2 rfl) ?_
              refine lv_iload_n hx hb dX11_fits_48 rfl (lv_at hl 1 rfl) ?_
              refine zb_icne (tgt := 55) hx hb dX11_fits_49 (by decide) h (fun h => ?_) (fun h => ?_)
              · obtain ⟨x2_55, ex2_55⟩ : ∃ y : Int32, y = x2_29 + 1 := ⟨_, rfl⟩
                replace h := lt_w h ex2_55
                refine lv_iinc (v := x2_55) (lv' := [(2, .int x2_55), (0, .ref (A0 + 0)), (1, .int x1), (3, .int x3_25), (4, .int x4_29)]) hx hb dX11_fits_55 hl (k := 2) rfl (by rw [ex2_55]; rfl) (by decide) rfl (fun ls hl => ?_)
                exact hj58 x2_55 σ38 _ _ _ Z (lv_sub hl [1, 2, 0, 3, 4] rfl) h
              · exact hk52 x4_29 σ38 _ _ _ Z (lv_sub hl [4] rfl) h
            · refine lv_goto (tgt := 58) hx hb dX11_fits_44 (by decide) ?_
              exact hj58 x2_29 σ38 _ _ _ Z (lv_sub hl [0, 1, 2, 3, 4] rfl) h
      exact hL29 NF 0 0 σ _ _ _ Z (lv_sub hl [3, 4, 2, 1, 0] rfl) h
    · exact hj12 σ _ _ _ Z (lv_sub hl [] rfl) h
set_option maxHeartbeats 4000000 in
set_option maxRecDepth 100000 in
theorem zcX11_other (l : Launch) (D : va_G) (A0 : Nat) (x1 : Int32) (x2 : Int32) (x3 : Int32) (σ : Mm) (r0 : Int32) (σr : Mm) (h : zfX11_other x1 x2 x3 σ = some (r0, σr)) : Met l yX11_other (zws yX11_other cX11_other 4 (some .int)) (zR 7 179) (zPc D A0 σ GF 740 [.ref (A0 + 0), .int x1, .int x2, .int x3]) (zQi D A0 r0 σr GF 740) 0 0 (zA A0) := by
  unfold zfX11_other at h
  refine zmet (own := RX11) (by decide) rfl (Nat.le_of_ble_eq_true rfl) ?_
  intro p e s m below meth c F hr hlocks _ Z ls hl
  have hl : lv_has ls 4 [(0, .ref (A0 + 0)), (1, .int x1), (2, .int x2), (3, .int x3)] := hl
  have hx := F.1.1
  have hb := F.1.2.1
  have hown := F.1.2.2.2.1
  have hts := F.1.2.2.2.2
  refine lv_aload_n hx hb dX11_other_0 rfl (lv_at hl 0 rfl) ?_
  refine lv_iload_n hx hb dX11_other_1 rfl (lv_at hl 2 rfl) ?_
  refine zc_i Z (zr_V F Z (a := 0) (As := [.int x2]) (zcX11_noDays l D A0 x2 σ (zfX11_noDays x2 σ) rfl) zBX11_noDays zq854 (by decide) zs_0 zC11.1 rfl ⟨⟨rfl, rfl⟩, Nat.le_of_ble_eq_true rfl, Nat.le_of_ble_eq_true rfl⟩ hl.1 rfl (Nat.le_of_ble_eq_true rfl) dX11_other_2 ⟨Nat.le_of_ble_eq_true rfl, Nat.le_of_ble_eq_true rfl⟩) (fun _ _ Z => ?_)
  obtain ⟨j24, ej24, h⟩ := lt_x h
  have hj24 : ∀ (σ24 : Mm) (H : Heap) (locs : List Loc) (ls : Array Slot), zh D A0 σ24 GF 740 s.heap H locs → lv_has ls 4 [] → j24 σ24 = some (r0, σr) → W p l e (zR 7 179) s m [.ref (A0 + 0), .int x1, .int x2, .int x3].toArray below meth c H locs 0 0 (MQ below (zQi D A0 r0 σr GF 740) [.ref (A0 + 0), .int x1, .int x2, .int x3].toArray s 0 0 (zA A0)) (F0 m 24 ls []) := by
    intro  σ24 H locs ls Z hl h
    rw [ej24] at h
    try dsimp only at h
    refine lv_ldc (v := (-1000000)) hx hb hown (hts _ zq1001) dX11_other_24 ?_
    obtain ⟨hq1, hq2⟩ := zpq h
    exact ze_i F Z hr hlocks hq1 hq2 dX11_other_26
  refine zb_ifne (tgt := 24) hx hb dX11_other_5 (by decide) h (fun h => ?_) (fun h => ?_)
  · exact hj24 σ _ _ _ Z (lv_sub hl [] rfl) h
  · refine lv_iload_n hx hb dX11_other_8 rfl (lv_at hl 1 rfl) ?_
    refine lv_iconst (v := 2) hx hb dX11_other_9 (by decide) ?_
    refine zc_i Z (zr_S F Z (As := [.int x1, .int 2]) (zcX11_noWhat l D A0 x1 2 σ (zfX11_noWhat x1 2) rfl) zBX11_noWhat zq971 rfl ⟨⟨rfl, rfl⟩, Nat.le_of_ble_eq_true rfl, Nat.le_of_ble_eq_true rfl⟩ hl.1 rfl (Nat.le_of_ble_eq_true rfl) dX11_other_10 ⟨Nat.le_of_ble_eq_true rfl, Nat.le_of_ble_eq_true rfl⟩) (fun _ _ Z => ?_)
    refine zb_ifne (tgt := 24) hx hb dX11_other_13 (by decide) h (fun h => ?_) (fun h => ?_)
    · exact hj24 σ _ _ _ Z (lv_sub hl [] rfl) h
    · refine lv_iload_n hx hb dX11_other_16 rfl (lv_at hl 3 rfl) ?_
      refine lv_iconst (v := 2) hx hb dX11_other_17 (by decide) ?_
      refine zc_i Z (zr_S F Z (As := [.int x3, .int 2]) (zcX11_noWhat l D A0 x3 2 σ (zfX11_noWhat x3 2) rfl) zBX11_noWhat zq971 rfl ⟨⟨rfl, rfl⟩, Nat.le_of_ble_eq_true rfl, Nat.le_of_ble_eq_true rfl⟩ hl.1 rfl (Nat.le_of_ble_eq_true rfl) dX11_other_18 ⟨Nat.le_of_ble_eq_true rfl, Nat.le_of_ble_eq_true rfl⟩) (fun _ _ Z => ?_)
      refine zb_ifeq (tgt := 27) hx hb dX11_other_21 (by decide) h (fun h => ?_) (fun h => ?_)
      · refine lv_aload_n hx hb dX11_other_27 rfl (lv_at hl 0 rfl) ?_
        refine zw_getR F Z zC11 (a := 0) (k := 10) (by decide) zs_0 (by decide) rfl zg_0_10 zq544 (Or.inl rfl) dX11_other_28 ?_
        obtain ⟨σ31, hc31, h⟩ := bd_x h
        refine zc_v Z (zr_V F Z (a := 68) (As := []) (zcX10_begin l D A0 σ σ31 hc31) zBX10_begin zq931 (by decide) zs_68 zC10.1 rfl ⟨⟨rfl, rfl⟩, Nat.le_of_ble_eq_true rfl, Nat.le_of_ble_eq_true rfl⟩ hl.1 rfl (Nat.le_of_ble_eq_true rfl) dX11_other_31 ⟨Nat.le_of_ble_eq_true rfl, Nat.le_of_ble_eq_true rfl⟩) (fun _ _ Z => ?_)
        refine lv_aload_n hx hb dX11_other_34 rfl (lv_at hl 0 rfl) ?_
        refine zw_getR F Z zC11 (a := 0) (k := 9) (by decide) zs_0 (by decide) rfl zg_0_9 zq543 (Or.inl rfl) dX11_other_35 ?_
        refine lv_iload_n hx hb dX11_other_38 rfl (lv_at hl 1 rfl) ?_
        refine zw_putI F Z zC6 (a := 37) (k := 4) (by decide) zs_37 (by decide) rfl (by decide) zq310 (Or.inl rfl) rfl ⟨rfl, rfl⟩ dX11_other_39 (fun σ39 _ _ eσ39 Z => ?_)
        replace h := lt_w h eσ39
        refine lv_aload_n hx hb dX11_other_42 rfl (lv_at hl 0 rfl) ?_
        refine zw_getR F Z zC11 (a := 0) (k := 10) (by decide) zs_0 (by decide) rfl zg_0_10 zq544 (Or.inl rfl) dX11_other_43 ?_
        refine lv_iload_n hx hb dX11_other_46 rfl (lv_at hl 2 rfl) ?_
        obtain ⟨σ47, hc47, h⟩ := bd_x h
        refine zc_v Z (zr_V F Z (a := 68) (As := [.int x2]) (zcX10_pass l D A0 x2 σ39 σ47 hc47) zBX10_pass zq943 (by decide) zs_68 zC10.1 rfl ⟨⟨rfl, rfl⟩, Nat.le_of_ble_eq_true rfl, Nat.le_of_ble_eq_true rfl⟩ hl.1 rfl (Nat.le_of_ble_eq_true rfl) dX11_other_47 ⟨Nat.le_of_ble_eq_true rfl, Nat.le_of_ble_eq_true rfl⟩) (fun _ _ Z => ?_)
        refine lv_iload_n hx hb dX11_other_50 rfl (lv_at hl 3 rfl) ?_
        refine zsp h (fun hs51_0 h => ?_) (fun hs51_0 h => ?_)
        · refine lv_lookup (tgt := 76) (off := 25) hx hb dX11_other_51 (by decide) (by first | (rw [hs51_0]; done) | (rw [hs51_0]; decide)) (by decide) ?_
          refine lv_aload_n hx hb dX11_other_76 rfl (lv_at hl 0 rfl) ?_
          refine zw_getR F Z zC11 (a := 0) (k := 10) (by decide) zs_0 (by decide) rfl zg_0_10 zq544 (Or.inl rfl) dX11_other_77 ?_
          obtain ⟨r80, hc80, h⟩ := bd_x h
          refine zc_i Z (zr_V F Z (a := 68) (As := []) (zcX10_gainOfAll l D A0 σ47 r80 hc80) zBX10_gainOfAll zq1050 (by decide) zs_68 zC10.1 rfl ⟨⟨rfl, rfl⟩, Nat.le_of_ble_eq_true rfl, Nat.le_of_ble_eq_true rfl⟩ hl.1 rfl (Nat.le_of_ble_eq_true rfl) dX11_other_80 ⟨Nat.le_of_ble_eq_true rfl, Nat.le_of_ble_eq_true rfl⟩) (fun _ _ Z => ?_)
          obtain ⟨hq1, hq2⟩ := zpq h
          exact ze_i F Z hr hlocks hq1 hq2 dX11_other_83
        · refine zsp h (fun hs51_1 h => ?_) (fun hs51_1 h => ?_)
          · refine lv_lookup (tgt := 84) (off := 33) hx hb dX11_other_51 (by decide) (by first | (rw [hs51_1]; done) | (rw [hs51_1]; decide)) (by decide) ?_
            refine lv_aload_n hx hb dX11_other_84 rfl (lv_at hl 0 rfl) ?_
            refine zw_getR F Z zC11 (a := 0) (k := 10) (by decide) zs_0 (by decide) rfl zg_0_10 zq544 (Or.inl rfl) dX11_other_85 ?_
            refine zw_getR F Z zC10 (a := 68) (k := 3) (by decide) zs_68 (by decide) rfl zg_68_3 zq401 (Or.inl rfl) dX11_other_88 ?_
            refine zw_getI F Z zC8 (a := 69) (k := 2) (by decide) zs_69 (by decide) rfl zq228 (Or.inl rfl) dX11_other_91 ?_
            refine lv_aload_n hx hb dX11_other_94 rfl (lv_at hl 0 rfl) ?_
            refine zw_getR F Z zC11 (a := 0) (k := 7) (by decide) zs_0 (by decide) rfl zg_0_7 zq541 (Or.inl rfl) dX11_other_95 ?_
            refine zw_getI F Z zC8 (a := 27) (k := 2) (by decide) zs_27 (by decide) rfl zq228 (Or.inl rfl) dX11_other_98 ?_
            refine lv_isub hx hb dX11_other_101 ?_
            obtain ⟨hq1, hq2⟩ := zpq h
            exact ze_i F Z hr hlocks hq1 hq2 dX11_other_102
          · refine lv_lookup (tgt := 103) (off := 52) hx hb dX11_other_51 (by decide) ((lv_osw hs51_0 (a := 0) (by decide)).trans ((lv_osw hs51_1 (a := 1) (by decide)).trans (rfl))) (by decide) ?_
            refine lv_aload_n hx hb dX11_other_103 rfl (lv_at hl 0 rfl) ?_
            refine zw_getR F Z zC11 (a := 0) (k := 10) (by decide) zs_0 (by decide) rfl zg_0_10 zq544 (Or.inl rfl) dX11_other_104 ?_
            refine zw_getI F Z zC10 (a := 68) (k := 4) (by decide) zs_68 (by decide) rfl zq403 (Or.inl rfl) dX11_other_107 ?_
            obtain ⟨hq1, hq2⟩ := zpq h
            exact ze_i F Z hr hlocks hq1 hq2 dX11_other_110
      · exact hj24 σ _ _ _ Z (lv_sub hl [] rfl) h
set_option maxHeartbeats 4000000 in
set_option maxRecDepth 100000 in
theorem zcX11_ask (l : Launch) (D : va_G) (A0 : Nat) (x1 : Int32) (x2 : Int32) (x3 : Int32) (σ : Mm) (r0 : Int32) (σr : Mm) (h : zfX11_ask x1 x2 x3 σ = some (r0, σr)) : Met l yX11_ask (zws yX11_ask cX11_ask 4 (some .int)) (zR 1 23) (zPc D A0 σ GF 740 [.ref (A0 + 0), .int x1, .int x2, .int x3]) (zQi D A0 r0 σr GF 740) 0 0 (zA A0) := by
  unfold zfX11_ask at h
  refine zmet (own := RX11) (by decide) rfl (Nat.le_of_ble_eq_true rfl) ?_
  intro p e s m below meth c F hr hlocks _ Z ls hl
  have hl : lv_has ls 4 [(0, .ref (A0 + 0)), (1, .int x1), (2, .int x2), (3, .int x3)] := hl
  have hx := F.1.1
  have hb := F.1.2.1
  have hown := F.1.2.2.2.1
  have hts := F.1.2.2.2.2
  refine lv_aload_n hx hb dX11_ask_0 rfl (lv_at hl 0 rfl) ?_
  refine lv_iload_n hx hb dX11_ask_1 rfl (lv_at hl 1 rfl) ?_
  refine zc_i Z (zr_V F Z (a := 0) (As := [.int x1]) (zcX11_isSeller l D A0 x1 σ (zfX11_isSeller x1 σ) rfl) zBX11_isSeller zq826 (by decide) zs_0 zC11.1 rfl ⟨⟨rfl, rfl⟩, Nat.le_of_ble_eq_true rfl, Nat.le_of_ble_eq_true rfl⟩ hl.1 rfl (Nat.le_of_ble_eq_true rfl) dX11_ask_2 ⟨Nat.le_of_ble_eq_true rfl, Nat.le_of_ble_eq_true rfl⟩) (fun _ _ Z => ?_)
  obtain ⟨j38, ej38, h⟩ := lt_x h
  have hj38 : ∀ (σ38 : Mm) (H : Heap) (locs : List Loc) (ls : Array Slot), zh D A0 σ38 GF 740 s.heap H locs → lv_has ls 4 [] → j38 σ38 = some (r0, σr) → W p l e (zR 1 23) s m [.ref (A0 + 0), .int x1, .int x2, .int x3].toArray below meth c H locs 0 0 (MQ below (zQi D A0 r0 σr GF 740) [.ref (A0 + 0), .int x1, .int x2, .int x3].toArray s 0 0 (zA A0)) (F0 m 38 ls []) := by
    intro  σ38 H locs ls Z hl h
    rw [ej38] at h
    try dsimp only at h
    refine lv_iconst (v := (-1)) hx hb dX11_ask_38 (by decide) ?_
    obtain ⟨hq1, hq2⟩ := zpq h
    exact ze_i F Z hr hlocks hq1 hq2 dX11_ask_39
  refine zb_ifeq (tgt := 38) hx hb dX11_ask_5 (by decide) h (fun h => ?_) (fun h => ?_)
  · exact hj38 σ _ _ _ Z (lv_sub hl [] rfl) h
  · refine lv_iload_n hx hb dX11_ask_8 rfl (lv_at hl 2 rfl) ?_
    refine zb_iflt (tgt := 38) hx hb dX11_ask_9 (by decide) h (fun h => ?_) (fun h => ?_)
    · exact hj38 σ _ _ _ Z (lv_sub hl [] rfl) h
    · refine lv_iload_n hx hb dX11_ask_12 rfl (lv_at hl 2 rfl) ?_
      refine lv_bipush (v := 30) hx hb dX11_ask_13 (by decide) ?_
      refine zb_icge (tgt := 38) hx hb dX11_ask_15 (by decide) h (fun h => ?_) (fun h => ?_)
      · exact hj38 σ _ _ _ Z (lv_sub hl [] rfl) h
      · refine lv_iload_n hx hb dX11_ask_18 rfl (lv_at hl 3 rfl) ?_
        refine zc_i Z (zr_S F Z (As := [.int x3]) (zcX11_noPrice l D A0 x3 σ (zfX11_noPrice x3) rfl) zBX11_noPrice zq1059 rfl ⟨⟨rfl, rfl⟩, Nat.le_of_ble_eq_true rfl, Nat.le_of_ble_eq_true rfl⟩ hl.1 rfl (Nat.le_of_ble_eq_true rfl) dX11_ask_19 ⟨Nat.le_of_ble_eq_true rfl, Nat.le_of_ble_eq_true rfl⟩) (fun _ _ Z => ?_)
        refine zb_ifne (tgt := 38) hx hb dX11_ask_22 (by decide) h (fun h => ?_) (fun h => ?_)
        · exact hj38 σ _ _ _ Z (lv_sub hl [] rfl) h
        · refine lv_aload_n hx hb dX11_ask_25 rfl (lv_at hl 0 rfl) ?_
          refine zw_getR F Z zC11 (a := 0) (k := 13) (by decide) zs_0 (by decide) rfl zg_0_13 zq547 (Or.inl rfl) dX11_ask_26 ?_
          refine lv_iload_n hx hb dX11_ask_29 rfl (lv_at hl 1 rfl) ?_
          refine lv_iload_n hx hb dX11_ask_30 rfl (lv_at hl 2 rfl) ?_
          refine lv_iload_n hx hb dX11_ask_31 rfl (lv_at hl 3 rfl) ?_
          obtain ⟨r32, σ32, hc32, h⟩ := bd2_x h
          refine zc_i Z (zr_V F Z (a := 699) (As := [.int x1, .int x2, .int x3]) (zcX2_add_699 l D A0 x1 x2 x3 σ r32 σ32 hc32) zBX2_add zq1084 (by decide) zs_699 zC2.1 rfl ⟨⟨rfl, rfl⟩, Nat.le_of_ble_eq_true rfl, Nat.le_of_ble_eq_true rfl⟩ hl.1 rfl (Nat.le_of_ble_eq_true rfl) dX11_ask_32 ⟨Nat.le_of_ble_eq_true rfl, Nat.le_of_ble_eq_true rfl⟩) (fun _ _ Z => ?_)
          refine zb_ifne (tgt := 40) hx hb dX11_ask_35 (by decide) h (fun h => ?_) (fun h => ?_)
          · refine lv_aload_n hx hb dX11_ask_40 rfl (lv_at hl 0 rfl) ?_
            refine zw_getR F Z zC11 (a := 0) (k := 13) (by decide) zs_0 (by decide) rfl zg_0_13 zq547 (Or.inl rfl) dX11_ask_41 ?_
            refine zw_getI F Z zC2 (a := 699) (k := 3) (by decide) zs_699 (by decide) rfl zq524 (Or.inl rfl) dX11_ask_44 ?_
            obtain ⟨hq1, hq2⟩ := zpq h
            exact ze_i F Z hr hlocks hq1 hq2 dX11_ask_47
          · exact hj38 σ32 _ _ _ Z (lv_sub hl [] rfl) h
set_option maxHeartbeats 4000000 in
set_option maxRecDepth 100000 in
theorem zcX11_tellAskings (l : Launch) (D : va_G) (A0 : Nat) (x1 : Int32) (σ : Mm) (r0 : Int32) (σr : Mm) (h : zfX11_tellAskings x1 σ = some (r0, σr)) : Met l yX11_tellAskings (zws yX11_tellAskings cX11_tellAskings 4 (some .int)) (zR 1 21) (zPc D A0 σ GF 740 [.ref (A0 + 0), .int x1]) (zQi D A0 r0 σr GF 740) 0 0 (zA A0) := by
  unfold zfX11_tellAskings at h
  refine zmet (own := RX11) (by decide) rfl (Nat.le_of_ble_eq_true rfl) ?_
  intro p e s m below meth c F hr hlocks _ Z ls hl
  have hl : lv_has ls 4 [(0, .ref (A0 + 0)), (1, .int x1)] := hl
  have hx := F.1.1
  have hb := F.1.2.1
  have hown := F.1.2.2.2.1
  have hts := F.1.2.2.2.2
  refine lv_iconst (v := 0) hx hb dX11_tellAskings_0 (by decide) ?_
  refine lv_istore_n (lv' := [(2, .int 0), (0, .ref (A0 + 0)), (1, .int x1)]) hx hb dX11_tellAskings_1 rfl hl (by decide) rfl (fun ls hl => ?_)
  obtain ⟨k29, ek29, h⟩ := lt_x h
  have hk29 : ∀ (σ29 : Mm) (H : Heap) (locs : List Loc) (ls : Array Slot), zh D A0 σ29 GF 740 s.heap H locs → lv_has ls 4 [(0, .ref (A0 + 0)), (1, .int x1)] → k29 σ29 = some (r0, σr) → W p l e (zR 1 21) s m [.ref (A0 + 0), .int x1].toArray below meth c H locs 0 0 (MQ below (zQi D A0 r0 σr GF 740) [.ref (A0 + 0), .int x1].toArray s 0 0 (zA A0)) (F0 m 29 ls []) := by
    intro  σ29 H locs ls Z hl h
    rw [ek29] at h
    try dsimp only at h
    refine lv_iconst (v := 0) hx hb dX11_tellAskings_29 (by decide) ?_
    refine lv_istore_n (lv' := [(2, .int 0), (0, .ref (A0 + 0)), (1, .int x1)]) hx hb dX11_tellAskings_30 rfl hl (by decide) rfl (fun ls hl => ?_)
    obtain ⟨k97, ek97, h⟩ := lt_x h
    have hk97 : ∀ (σ97 : Mm) (H : Heap) (locs : List Loc) (ls : Array Slot), zh D A0 σ97 GF 740 s.heap H locs → lv_has ls 4 [(0, .ref (A0 + 0))] → k97 σ97 = some (r0, σr) → W p l e (zR 1 21) s m [.ref (A0 + 0), .int x1].toArray below meth c H locs 0 0 (MQ below (zQi D A0 r0 σr GF 740) [.ref (A0 + 0), .int x1].toArray s 0 0 (zA A0)) (F0 m 97 ls []) := by
      intro  σ97 H locs ls Z hl h
      rw [ek97] at h
      try dsimp only at h
      refine lv_iconst (v := 0) hx hb dX11_tellAskings_97 (by decide) ?_
      refine lv_istore_n (lv' := [(2, .int 0), (0, .ref (A0 + 0))]) hx hb dX11_tellAskings_98 rfl hl (by decide) rfl (fun ls hl => ?_)
      obtain ⟨k132, ek132, h⟩ := lt_x h
      have hk132 : ∀ (x2_132 : Int32) (σ132 : Mm) (H : Heap) (locs : List Loc) (ls : Array Slot), zh D A0 σ132 GF 740 s.heap H locs → lv_has ls 4 [(2, .int x2_132)] → k132 x2_132 σ132 = some (r0, σr) → W p l e (zR 1 21) s m [.ref (A0 + 0), .int x1].toArray below meth c H locs 0 0 (MQ below (zQi D A0 r0 σr GF 740) [.ref (A0 + 0), .int x1].toArray s 0 0 (zA A0)) (F0 m 132 ls []) := by
        intro x2_132 σ132 H locs ls Z hl h
        rw [ek132] at h
        try dsimp only at h
        refine lv_iload_n hx hb dX11_tellAskings_132 rfl (lv_at hl 0 rfl) ?_
        obtain ⟨hq1, hq2⟩ := zpq h
        exact ze_i F Z hr hlocks hq1 hq2 dX11_tellAskings_133
      obtain ⟨k140, ek140, h⟩ := lt_x h
      have hk140 : ∀ (σ140 : Mm) (H : Heap) (locs : List Loc) (ls : Array Slot), zh D A0 σ140 GF 740 s.heap H locs → lv_has ls 4 [] → k140 σ140 = some (r0, σr) → W p l e (zR 1 21) s m [.ref (A0 + 0), .int x1].toArray below meth c H locs 0 0 (MQ below (zQi D A0 r0 σr GF 740) [.ref (A0 + 0), .int x1].toArray s 0 0 (zA A0)) (F0 m 140 ls []) := by
        intro  σ140 H locs ls Z hl h
        rw [ek140] at h
        try dsimp only at h
        refine lv_iconst (v := (-1)) hx hb dX11_tellAskings_140 (by decide) ?_
        obtain ⟨hq1, hq2⟩ := zpq h
        exact ze_i F Z hr hlocks hq1 hq2 dX11_tellAskings_141
      have hL99 : ∀ (fu99 : Nat) (x2_99 : Int32) (σ99 : Mm) (H : Heap) (locs : List Loc) (ls : Array Slot), zh D A0 σ99 GF 740 s.heap H locs → lv_has ls 4 [(0, .ref (A0 + 0)), (2, .int x2_99)] → zfX11_tellAskings_L99 k140 k132 fu99 x2_99 σ99 = some (r0, σr) → W p l e (zR 1 21) s m [.ref (A0 + 0), .int x1].toArray below meth c H locs 0 0 (MQ below (zQi D A0 r0 σr GF 740) [.ref (A0 + 0), .int x1].toArray s 0 0 (zA A0)) (F0 m 99 ls []) := by
        intro fu99
        induction fu99 with
        | zero => intro x2_99 σ99 H locs ls Z hl h; rw [zfX11_tellAskings_L99] at h; cases h
        | succ fu99 ih99 =>
          intro x2_99 σ99 H locs ls Z hl h
          rw [zfX11_tellAskings_L99] at h
          refine lv_iload_n hx hb dX11_tellAskings_99 rfl (lv_at hl 1 rfl) ?_
          refine lv_aload_n hx hb dX11_tellAskings_100 rfl (lv_at hl 0 rfl) ?_
          refine zw_getR F Z zC11 (a := 0) (k := 3) (by decide) zs_0 (by decide) rfl zg_0_3 zq537 (Or.inl rfl) dX11_tellAskings_101 ?_
          refine zw_getI F Z zC0 (a := 3) (k := 0) (by decide) zs_3 (by decide) rfl zq135 (Or.inl rfl) dX11_tellAskings_104 ?_
          refine zb_icge (tgt := 140) hx hb dX11_tellAskings_107 (by decide) h (fun h => ?_) (fun h => ?_)
          · exact hk140 σ99 _ _ _ Z (lv_sub hl [] rfl) h
          · refine lv_aload_n hx hb dX11_tellAskings_110 rfl (lv_at hl 0 rfl) ?_
            refine zw_getR F Z zC11 (a := 0) (k := 9) (by decide) zs_0 (by decide) rfl zg_0_9 zq543 (Or.inl rfl) dX11_tellAskings_111 ?_
            refine zw_getR F Z zC6 (a := 37) (k := 2) (by decide) zs_37 (by decide) rfl zg_37_2 zq306 (Or.inl rfl) dX11_tellAskings_114 ?_
            refine lv_iload_n hx hb dX11_tellAskings_117 rfl (lv_at hl 1 rfl) ?_
            obtain ⟨hk118, h⟩ := ck_x h
            refine zw_iald F Z (by decide) zs_38 hk118 dX11_tellAskings_118 ?_
            refine lv_aload_n hx hb dX11_tellAskings_119 rfl (lv_at hl 0 rfl) ?_
            refine zw_getR F Z zC11 (a := 0) (k := 10) (by decide) zs_0 (by decide) rfl zg_0_10 zq544 (Or.inl rfl) dX11_tellAskings_120 ?_
            refine zw_getR F Z zC10 (a := 68) (k := 3) (by decide) zs_68 (by decide) rfl zg_68_3 zq401 (Or.inl rfl) dX11_tellAskings_123 ?_
            refine zw_getI F Z zC8 (a := 69) (k := 0) (by decide) zs_69 (by decide) rfl zq222 (Or.inl rfl) dX11_tellAskings_126 ?_
            refine zb_icle (tgt := 134) hx hb dX11_tellAskings_129 (by decide) h (fun h => ?_) (fun h => ?_)
            · obtain ⟨x2_134, ex2_134⟩ : ∃ y : Int32, y = x2_99 + 1 := ⟨_, rfl⟩
              replace h := lt_w h ex2_134
              refine lv_iinc (v := x2_134) (lv' := [(2, .int x2_134), (0, .ref (A0 + 0))]) hx hb dX11_tellAskings_134 hl (k := 1) rfl (by rw [ex2_134]; rfl) (by decide) rfl (fun ls hl => ?_)
              refine lv_goto (tgt := 99) hx hb dX11_tellAskings_137 (by decide) ?_
              exact ih99 x2_134 σ99 _ _ _ Z (lv_sub hl [1, 0] rfl) h
            · exact hk132 x2_99 σ99 _ _ _ Z (lv_sub hl [1] rfl) h
      exact hL99 NF 0 σ97 _ _ _ Z (lv_sub hl [1, 0] rfl) h
    have hL31 : ∀ (fu31 : Nat) (x2_31 : Int32) (σ31 : Mm) (H : Heap) (locs : List Loc) (ls : Array Slot), zh D A0 σ31 GF 740 s.heap H locs → lv_has ls 4 [(0, .ref (A0 + 0)), (1, .int x1), (2, .int x2_31)] → zfX11_tellAskings_L31 k97 x1 fu31 x2_31 σ31 = some (r0, σr) → W p l e (zR 1 21) s m [.ref (A0 + 0), .int x1].toArray below meth c H locs 0 0 (MQ below (zQi D A0 r0 σr GF 740) [.ref (A0 + 0), .int x1].toArray s 0 0 (zA A0)) (F0 m 31 ls []) := by
      intro fu31
      induction fu31 with
      | zero => intro x2_31 σ31 H locs ls Z hl h; rw [zfX11_tellAskings_L31] at h; cases h
      | succ fu31 ih31 =>
        intro x2_31 σ31 H locs ls Z hl h
        rw [zfX11_tellAskings_L31] at h
        refine lv_iload_n hx hb dX11_tellAskings_31 rfl (lv_at hl 2 rfl) ?_
        refine lv_aload_n hx hb dX11_tellAskings_32 rfl (lv_at hl 0 rfl) ?_
        refine zw_getR F Z zC11 (a := 0) (k := 13) (by decide) zs_0 (by decide) rfl zg_0_13 zq547 (Or.inl rfl) dX11_tellAskings_33 ?_
        refine zw_getI F Z zC2 (a := 699) (k := 3) (by decide) zs_699 (by decide) rfl zq524 (Or.inl rfl) dX11_tellAskings_36 ?_
        refine zb_icge (tgt := 97) hx hb dX11_tellAskings_39 (by decide) h (fun h => ?_) (fun h => ?_)
        · exact hk97 σ31 _ _ _ Z (lv_sub hl [0] rfl) h
        · refine lv_aload_n hx hb dX11_tellAskings_42 rfl (lv_at hl 0 rfl) ?_
          refine zw_getR F Z zC11 (a := 0) (k := 13) (by decide) zs_0 (by decide) rfl zg_0_13 zq547 (Or.inl rfl) dX11_tellAskings_43 ?_
          refine zw_getR F Z zC2 (a := 699) (k := 0) (by decide) zs_699 (by decide) rfl zg_699_0 zq518 (Or.inl rfl) dX11_tellAskings_46 ?_
          refine lv_iload_n hx hb dX11_tellAskings_49 rfl (lv_at hl 2 rfl) ?_
          obtain ⟨hk50, h⟩ := ck_x h
          refine zw_iald F Z (by decide) zs_700 hk50 dX11_tellAskings_50 ?_
          refine lv_topi (fun x3_51 ex3_51 => ?_)
          replace h := lt_w h ex3_51
          refine lv_istore_n (lv' := [(3, .int x3_51), (0, .ref (A0 + 0)), (1, .int x1), (2, .int x2_31)]) hx hb dX11_tellAskings_51 rfl hl (by decide) rfl (fun ls hl => ?_)
          refine lv_aload_n hx hb dX11_tellAskings_52 rfl (lv_at hl 1 rfl) ?_
          refine zw_getR F Z zC11 (a := 0) (k := 13) (by decide) zs_0 (by decide) rfl zg_0_13 zq547 (Or.inl rfl) dX11_tellAskings_53 ?_
          refine zw_getR F Z zC2 (a := 699) (k := 1) (by decide) zs_699 (by decide) rfl zg_699_1 zq520 (Or.inl rfl) dX11_tellAskings_56 ?_
          refine lv_iload_n hx hb dX11_tellAskings_59 rfl (lv_at hl 3 rfl) ?_
          obtain ⟨hk60, h⟩ := ck_x h
          refine zw_iald F Z (by decide) zs_701 hk60 dX11_tellAskings_60 ?_
          refine lv_iload_n hx hb dX11_tellAskings_61 rfl (lv_at hl 2 rfl) ?_
          obtain ⟨j91, ej91, h⟩ := lt_x h
          have hj91 : ∀ (σ91 : Mm) (H : Heap) (locs : List Loc) (ls : Array Slot), zh D A0 σ91 GF 740 s.heap H locs → lv_has ls 4 [(0, .ref (A0 + 0)), (1, .int x1), (2, .int x2_31)] → j91 σ91 = some (r0, σr) → W p l e (zR 1 21) s m [.ref (A0 + 0), .int x1].toArray below meth c H locs 0 0 (MQ below (zQi D A0 r0 σr GF 740) [.ref (A0 + 0), .int x1].toArray s 0 0 (zA A0)) (F0 m 91 ls []) := by
            intro  σ91 H locs ls Z hl h
            rw [ej91] at h
            try dsimp only at h
            obtain ⟨x2_91, ex2_91⟩ : ∃ y : Int32, y = x2_31 + 1 := ⟨_, rfl⟩
            replace h := lt_w h ex2_91
            refine lv_iinc (v := x2_91) (lv' := [(2, .int x2_91), (0, .ref (A0 + 0)), (1, .int x1)]) hx hb dX11_tellAskings_91 hl (k := 2) rfl (by rw [ex2_91]; rfl) (by decide) rfl (fun ls hl => ?_)
            refine lv_goto (tgt := 31) hx hb dX11_tellAskings_94 (by decide) ?_
            exact ih31 x2_91 σ91 _ _ _ Z (lv_sub hl [1, 2, 0] rfl) h
          refine zb_icne (tgt := 91) hx hb dX11_tellAskings_62 (by decide) h (fun h => ?_) (fun h => ?_)
          · exact hj91 σ31 _ _ _ Z (lv_sub hl [1, 2, 3] rfl) h
          · refine lv_aload_n hx hb dX11_tellAskings_65 rfl (lv_at hl 1 rfl) ?_
            refine lv_iload_n hx hb dX11_tellAskings_66 rfl (lv_at hl 0 rfl) ?_
            refine zc_i Z (zr_V F Z (a := 0) (As := [.int x3_51]) (zcX11_isSeller l D A0 x3_51 σ31 (zfX11_isSeller x3_51 σ31) rfl) zBX11_isSeller zq826 (by decide) zs_0 zC11.1 rfl ⟨⟨rfl, rfl⟩, Nat.le_of_ble_eq_true rfl, Nat.le_of_ble_eq_true rfl⟩ hl.1 rfl (Nat.le_of_ble_eq_true rfl) dX11_tellAskings_67 ⟨Nat.le_of_ble_eq_true rfl, Nat.le_of_ble_eq_true rfl⟩) (fun _ _ Z => ?_)
            refine zb_ifeq (tgt := 91) hx hb dX11_tellAskings_70 (by decide) h (fun h => ?_) (fun h => ?_)
            · exact hj91 σ31 _ _ _ Z (lv_sub hl [1, 2, 3] rfl) h
            · refine lv_aload_n hx hb dX11_tellAskings_73 rfl (lv_at hl 1 rfl) ?_
              refine zw_getR F Z zC11 (a := 0) (k := 9) (by decide) zs_0 (by decide) rfl zg_0_9 zq543 (Or.inl rfl) dX11_tellAskings_74 ?_
              refine zw_getR F Z zC6 (a := 37) (k := 2) (by decide) zs_37 (by decide) rfl zg_37_2 zq306 (Or.inl rfl) dX11_tellAskings_77 ?_
              refine lv_iload_n hx hb dX11_tellAskings_80 rfl (lv_at hl 0 rfl) ?_
              refine lv_aload_n hx hb dX11_tellAskings_81 rfl (lv_at hl 1 rfl) ?_
              refine zw_getR F Z zC11 (a := 0) (k := 13) (by decide) zs_0 (by decide) rfl zg_0_13 zq547 (Or.inl rfl) dX11_tellAskings_82 ?_
              refine zw_getR F Z zC2 (a := 699) (k := 2) (by decide) zs_699 (by decide) rfl zg_699_2 zq522 (Or.inl rfl) dX11_tellAskings_85 ?_
              refine lv_iload_n hx hb dX11_tellAskings_88 rfl (lv_at hl 3 rfl) ?_
              obtain ⟨hk89, h⟩ := ck_x h
              refine zw_iald F Z (by decide) zs_702 hk89 dX11_tellAskings_89 ?_
              obtain ⟨hk90, h⟩ := ck_x h
              refine zw_iast F Z (by decide) zs_38 hk90 dX11_tellAskings_90 (fun σ90 _ _ eσ90 Z => ?_)
              replace h := lt_w h eσ90
              exact hj91 σ90 _ _ _ Z (lv_sub hl [1, 2, 3] rfl) h
    exact hL31 NF 0 σ29 _ _ _ Z (lv_sub hl [1, 2, 0] rfl) h
  have hL2 : ∀ (fu2 : Nat) (x2_2 : Int32) (σ2 : Mm) (H : Heap) (locs : List Loc) (ls : Array Slot), zh D A0 σ2 GF 740 s.heap H locs → lv_has ls 4 [(0, .ref (A0 + 0)), (1, .int x1), (2, .int x2_2)] → zfX11_tellAskings_L2 k29 fu2 x2_2 σ2 = some (r0, σr) → W p l e (zR 1 21) s m [.ref (A0 + 0), .int x1].toArray below meth c H locs 0 0 (MQ below (zQi D A0 r0 σr GF 740) [.ref (A0 + 0), .int x1].toArray s 0 0 (zA A0)) (F0 m 2 ls []) := by
    intro fu2
    induction fu2 with
    | zero => intro x2_2 σ2 H locs ls Z hl h; rw [zfX11_tellAskings_L2] at h; cases h
    | succ fu2 ih2 =>
      intro x2_2 σ2 H locs ls Z hl h
      rw [zfX11_tellAskings_L2] at h
      refine lv_iload_n hx hb dX11_tellAskings_2 rfl (lv_at hl 2 rfl) ?_
      refine lv_aload_n hx hb dX11_tellAskings_3 rfl (lv_at hl 0 rfl) ?_
      refine zw_getR F Z zC11 (a := 0) (k := 3) (by decide) zs_0 (by decide) rfl zg_0_3 zq537 (Or.inl rfl) dX11_tellAskings_4 ?_
      refine zw_getI F Z zC0 (a := 3) (k := 0) (by decide) zs_3 (by decide) rfl zq135 (Or.inl rfl) dX11_tellAskings_7 ?_
      refine zb_icge (tgt := 29) hx hb dX11_tellAskings_10 (by decide) h (fun h => ?_) (fun h => ?_)
      · exact hk29 σ2 _ _ _ Z (lv_sub hl [0, 1] rfl) h
      · refine lv_aload_n hx hb dX11_tellAskings_13 rfl (lv_at hl 0 rfl) ?_
        refine zw_getR F Z zC11 (a := 0) (k := 9) (by decide) zs_0 (by decide) rfl zg_0_9 zq543 (Or.inl rfl) dX11_tellAskings_14 ?_
        refine zw_getR F Z zC6 (a := 37) (k := 2) (by decide) zs_37 (by decide) rfl zg_37_2 zq306 (Or.inl rfl) dX11_tellAskings_17 ?_
        refine lv_iload_n hx hb dX11_tellAskings_20 rfl (lv_at hl 2 rfl) ?_
        refine lv_iconst (v := (-1)) hx hb dX11_tellAskings_21 (by decide) ?_
        obtain ⟨hk22, h⟩ := ck_x h
        refine zw_iast F Z (by decide) zs_38 hk22 dX11_tellAskings_22 (fun σ22 _ _ eσ22 Z => ?_)
        replace h := lt_w h eσ22
        obtain ⟨x2_23, ex2_23⟩ : ∃ y : Int32, y = x2_2 + 1 := ⟨_, rfl⟩
        replace h := lt_w h ex2_23
        refine lv_iinc (v := x2_23) (lv' := [(2, .int x2_23), (0, .ref (A0 + 0)), (1, .int x1)]) hx hb dX11_tellAskings_23 hl (k := 2) rfl (by rw [ex2_23]; rfl) (by decide) rfl (fun ls hl => ?_)
        refine lv_goto (tgt := 2) hx hb dX11_tellAskings_26 (by decide) ?_
        exact ih2 x2_23 σ22 _ _ _ Z (lv_sub hl [1, 2, 0] rfl) h
  exact hL2 NF 0 σ _ _ _ Z (lv_sub hl [1, 2, 0] rfl) h
set_option maxHeartbeats 4000000 in
set_option maxRecDepth 100000 in
theorem zcX11_month (l : Launch) (D : va_G) (A0 : Nat) (x1 : Int32) (x2 : Int32) (σ : Mm) (r0 : Int32) (σr : Mm) (h : zfX11_month x1 x2 σ = some (r0, σr)) : Met l yX11_month (zws yX11_month cX11_month 5 (some .int)) (zR 6 157) (zPc D A0 σ GF 740 [.ref (A0 + 0), .int x1, .int x2]) (zQi D A0 r0 σr GF 740) 0 0 (zA A0) := by
  unfold zfX11_month at h
  refine zmet (own := RX11) (by decide) rfl (Nat.le_of_ble_eq_true rfl) ?_
  intro p e s m below meth c F hr hlocks _ Z ls hl
  have hl : lv_has ls 5 [(0, .ref (A0 + 0)), (1, .int x1), (2, .int x2)] := hl
  have hx := F.1.1
  have hb := F.1.2.1
  have hown := F.1.2.2.2.1
  have hts := F.1.2.2.2.2
  refine lv_aload_n hx hb dX11_month_0 rfl (lv_at hl 0 rfl) ?_
  refine lv_iload_n hx hb dX11_month_1 rfl (lv_at hl 1 rfl) ?_
  refine zc_i Z (zr_V F Z (a := 0) (As := [.int x1]) (zcX11_noDays l D A0 x1 σ (zfX11_noDays x1 σ) rfl) zBX11_noDays zq854 (by decide) zs_0 zC11.1 rfl ⟨⟨rfl, rfl⟩, Nat.le_of_ble_eq_true rfl, Nat.le_of_ble_eq_true rfl⟩ hl.1 rfl (Nat.le_of_ble_eq_true rfl) dX11_month_2 ⟨Nat.le_of_ble_eq_true rfl, Nat.le_of_ble_eq_true rfl⟩) (fun _ _ Z => ?_)
  obtain ⟨j16, ej16, h⟩ := lt_x h
  have hj16 : ∀ (σ16 : Mm) (H : Heap) (locs : List Loc) (ls : Array Slot), zh D A0 σ16 GF 740 s.heap H locs → lv_has ls 5 [] → j16 σ16 = some (r0, σr) → W p l e (zR 6 157) s m [.ref (A0 + 0), .int x1, .int x2].toArray below meth c H locs 0 0 (MQ below (zQi D A0 r0 σr GF 740) [.ref (A0 + 0), .int x1, .int x2].toArray s 0 0 (zA A0)) (F0 m 16 ls []) := by
    intro  σ16 H locs ls Z hl h
    rw [ej16] at h
    try dsimp only at h
    refine lv_iconst (v := (-1)) hx hb dX11_month_16 (by decide) ?_
    obtain ⟨hq1, hq2⟩ := zpq h
    exact ze_i F Z hr hlocks hq1 hq2 dX11_month_17
  refine zb_ifne (tgt := 16) hx hb dX11_month_5 (by decide) h (fun h => ?_) (fun h => ?_)
  · exact hj16 σ _ _ _ Z (lv_sub hl [] rfl) h
  · refine lv_iload_n hx hb dX11_month_8 rfl (lv_at hl 2 rfl) ?_
    refine lv_iconst (v := 1) hx hb dX11_month_9 (by decide) ?_
    refine zc_i Z (zr_S F Z (As := [.int x2, .int 1]) (zcX11_noWhat l D A0 x2 1 σ (zfX11_noWhat x2 1) rfl) zBX11_noWhat zq971 rfl ⟨⟨rfl, rfl⟩, Nat.le_of_ble_eq_true rfl, Nat.le_of_ble_eq_true rfl⟩ hl.1 rfl (Nat.le_of_ble_eq_true rfl) dX11_month_10 ⟨Nat.le_of_ble_eq_true rfl, Nat.le_of_ble_eq_true rfl⟩) (fun _ _ Z => ?_)
    refine zb_ifeq (tgt := 18) hx hb dX11_month_13 (by decide) h (fun h => ?_) (fun h => ?_)
    · refine lv_aload_n hx hb dX11_month_18 rfl (lv_at hl 0 rfl) ?_
      refine zw_getR F Z zC11 (a := 0) (k := 10) (by decide) zs_0 (by decide) rfl zg_0_10 zq544 (Or.inl rfl) dX11_month_19 ?_
      obtain ⟨σ22, hc22, h⟩ := bd_x h
      refine zc_v Z (zr_V F Z (a := 68) (As := []) (zcX10_begin l D A0 σ σ22 hc22) zBX10_begin zq931 (by decide) zs_68 zC10.1 rfl ⟨⟨rfl, rfl⟩, Nat.le_of_ble_eq_true rfl, Nat.le_of_ble_eq_true rfl⟩ hl.1 rfl (Nat.le_of_ble_eq_true rfl) dX11_month_22 ⟨Nat.le_of_ble_eq_true rfl, Nat.le_of_ble_eq_true rfl⟩) (fun _ _ Z => ?_)
      refine lv_iconst (v := 0) hx hb dX11_month_25 (by decide) ?_
      refine lv_istore_n (lv' := [(3, .int 0), (0, .ref (A0 + 0)), (1, .int x1), (2, .int x2)]) hx hb dX11_month_26 rfl hl (by decide) rfl (fun ls hl => ?_)
      obtain ⟨k45, ek45, h⟩ := lt_x h
      have hk45 : ∀ (x3_45 : Int32) (x4_45 : Int32) (σ45 : Mm) (H : Heap) (locs : List Loc) (ls : Array Slot), zh D A0 σ45 GF 740 s.heap H locs → lv_has ls 5 [(2, .int x2), (3, .int x3_45), (4, .int x4_45)] → k45 x3_45 x4_45 σ45 = some (r0, σr) → W p l e (zR 6 157) s m [.ref (A0 + 0), .int x1, .int x2].toArray below meth c H locs 0 0 (MQ below (zQi D A0 r0 σr GF 740) [.ref (A0 + 0), .int x1, .int x2].toArray s 0 0 (zA A0)) (F0 m 45 ls []) := by
        intro x3_45 x4_45 σ45 H locs ls Z hl h
        rw [ek45] at h
        try dsimp only at h
        refine lv_iload_n hx hb dX11_month_45 rfl (lv_at hl 0 rfl) ?_
        refine zb_ifne (tgt := 53) hx hb dX11_month_46 (by decide) h (fun h => ?_) (fun h => ?_)
        · refine lv_iload hx hb dX11_month_53 (lv_at hl 2 rfl) ?_
          obtain ⟨hq1, hq2⟩ := zpq h
          exact ze_i F Z hr hlocks hq1 hq2 dX11_month_55
        · refine lv_iload_n hx hb dX11_month_49 rfl (lv_at hl 1 rfl) ?_
          refine lv_goto (tgt := 55) hx hb dX11_month_50 (by decide) ?_
          obtain ⟨hq1, hq2⟩ := zpq h
          exact ze_i F Z hr hlocks hq1 hq2 dX11_month_55
      obtain ⟨k69, ek69, h⟩ := lt_x h
      have hk69 : ∀ (σ69 : Mm) (H : Heap) (locs : List Loc) (ls : Array Slot), zh D A0 σ69 GF 740 s.heap H locs → lv_has ls 5 [] → k69 σ69 = some (r0, σr) → W p l e (zR 6 157) s m [.ref (A0 + 0), .int x1, .int x2].toArray below meth c H locs 0 0 (MQ below (zQi D A0 r0 σr GF 740) [.ref (A0 + 0), .int x1, .int x2].toArray s 0 0 (zA A0)) (F0 m 69 ls []) := by
        intro  σ69 H locs ls Z hl h
        rw [ek69] at h
        try dsimp only at h
        refine lv_iconst (v := (-1)) hx hb dX11_month_69 (by decide) ?_
        obtain ⟨hq1, hq2⟩ := zpq h
        exact ze_i F Z hr hlocks hq1 hq2 dX11_month_70
      have hL27 : ∀ (fu27 : Nat) (x3_27 : Int32) (σ27 : Mm) (H : Heap) (locs : List Loc) (ls : Array Slot), zh D A0 σ27 GF 740 s.heap H locs → lv_has ls 5 [(0, .ref (A0 + 0)), (1, .int x1), (2, .int x2), (3, .int x3_27)] → zfX11_month_L27 x1 k69 k45 fu27 x3_27 σ27 = some (r0, σr) → W p l e (zR 6 157) s m [.ref (A0 + 0), .int x1, .int x2].toArray below meth c H locs 0 0 (MQ below (zQi D A0 r0 σr GF 740) [.ref (A0 + 0), .int x1, .int x2].toArray s 0 0 (zA A0)) (F0 m 27 ls []) := by
        intro fu27
        induction fu27 with
        | zero => intro x3_27 σ27 H locs ls Z hl h; rw [zfX11_month_L27] at h; cases h
        | succ fu27 ih27 =>
          intro x3_27 σ27 H locs ls Z hl h
          rw [zfX11_month_L27] at h
          refine lv_iload_n hx hb dX11_month_27 rfl (lv_at hl 3 rfl) ?_
          refine lv_iload_n hx hb dX11_month_28 rfl (lv_at hl 1 rfl) ?_
          refine zb_icge (tgt := 69) hx hb dX11_month_29 (by decide) h (fun h => ?_) (fun h => ?_)
          · exact hk69 σ27 _ _ _ Z (lv_sub hl [] rfl) h
          · refine lv_aload_n hx hb dX11_month_32 rfl (lv_at hl 0 rfl) ?_
            refine lv_iload_n hx hb dX11_month_33 rfl (lv_at hl 3 rfl) ?_
            obtain ⟨r34, σ34, hc34, h⟩ := bd2_x h
            refine zc_i Z (zr_V F Z (a := 0) (As := [.int x3_27]) (zcX11_tellAskings l D A0 x3_27 σ27 r34 σ34 hc34) zBX11_tellAskings zq1110 (by decide) zs_0 zC11.1 rfl ⟨⟨rfl, rfl⟩, Nat.le_of_ble_eq_true rfl, Nat.le_of_ble_eq_true rfl⟩ hl.1 rfl (Nat.le_of_ble_eq_true rfl) dX11_month_34 ⟨Nat.le_of_ble_eq_true rfl, Nat.le_of_ble_eq_true rfl⟩) (fun _ _ Z => ?_)
            refine lv_istore (lv' := [(4, .int r34), (0, .ref (A0 + 0)), (1, .int x1), (2, .int x2), (3, .int x3_27)]) hx hb dX11_month_37 hl (by decide) rfl (fun ls hl => ?_)
            refine lv_iload hx hb dX11_month_39 (lv_at hl 0 rfl) ?_
            refine lv_iconst (v := (-1)) hx hb dX11_month_41 (by decide) ?_
            refine zb_iceq (tgt := 56) hx hb dX11_month_42 (by decide) h (fun h => ?_) (fun h => ?_)
            · refine lv_aload_n hx hb dX11_month_56 rfl (lv_at hl 1 rfl) ?_
              refine zw_getR F Z zC11 (a := 0) (k := 10) (by decide) zs_0 (by decide) rfl zg_0_10 zq544 (Or.inl rfl) dX11_month_57 ?_
              obtain ⟨σ60, hc60, h⟩ := bd_x h
              refine zc_v Z (zr_V F Z (a := 68) (As := []) (zcX10_step l D A0 σ34 σ60 hc60) zBX10_step zq1097 (by decide) zs_68 zC10.1 rfl ⟨⟨rfl, rfl⟩, Nat.le_of_ble_eq_true rfl, Nat.le_of_ble_eq_true rfl⟩ hl.1 rfl (Nat.le_of_ble_eq_true rfl) dX11_month_60 ⟨Nat.le_of_ble_eq_true rfl, Nat.le_of_ble_eq_true rfl⟩) (fun _ _ Z => ?_)
              obtain ⟨x3_63, ex3_63⟩ : ∃ y : Int32, y = x3_27 + 1 := ⟨_, rfl⟩
              replace h := lt_w h ex3_63
              refine lv_iinc (v := x3_63) (lv' := [(3, .int x3_63), (4, .int r34), (0, .ref (A0 + 0)), (1, .int x1), (2, .int x2)]) hx hb dX11_month_63 hl (k := 4) rfl (by rw [ex3_63]; rfl) (by decide) rfl (fun ls hl => ?_)
              refine lv_goto (tgt := 27) hx hb dX11_month_66 (by decide) ?_
              exact ih27 x3_63 σ60 _ _ _ Z (lv_sub hl [2, 3, 4, 0] rfl) h
            · exact hk45 x3_27 r34 σ34 _ _ _ Z (lv_sub hl [3, 4, 0] rfl) h
      exact hL27 NF 0 σ22 _ _ _ Z (lv_sub hl [1, 2, 3, 0] rfl) h
    · exact hj16 σ _ _ _ Z (lv_sub hl [] rfl) h
set_option maxHeartbeats 4000000 in
set_option maxRecDepth 100000 in
theorem zcX10_leastGainer (l : Launch) (D : va_G) (A0 : Nat) (σ : Mm) (r0 : Int32) (h : zfX10_leastGainer σ = some r0) : Met l yX10_leastGainer (zws yX10_leastGainer cX10_leastGainer 3 (some .int)) (zR 1 21) (zPc D A0 σ GF 740 [.ref (A0 + 68)]) (zQi D A0 r0 σ GF 740) 0 0 (zA A0) := by
  unfold zfX10_leastGainer at h
  refine zmet (own := RX10) (by decide) rfl (Nat.le_of_ble_eq_true rfl) ?_
  intro p e s m below meth c F hr hlocks _ Z ls hl
  have hl : lv_has ls 3 [(0, .ref (A0 + 68))] := hl
  have hx := F.1.1
  have hb := F.1.2.1
  have hown := F.1.2.2.2.1
  have hts := F.1.2.2.2.2
  refine lv_iconst (v := 0) hx hb dX10_leastGainer_0 (by decide) ?_
  refine lv_istore_n (lv' := [(1, .int 0), (0, .ref (A0 + 68))]) hx hb dX10_leastGainer_1 rfl hl (by decide) rfl (fun ls hl => ?_)
  refine lv_iconst (v := 1) hx hb dX10_leastGainer_2 (by decide) ?_
  refine lv_istore_n (lv' := [(2, .int 1), (1, .int 0), (0, .ref (A0 + 68))]) hx hb dX10_leastGainer_3 rfl hl (by decide) rfl (fun ls hl => ?_)
  obtain ⟨k36, ek36, h⟩ := lt_x h
  have hk36 : ∀ (x1_36 : Int32) (H : Heap) (locs : List Loc) (ls : Array Slot), zh D A0 σ GF 740 s.heap H locs → lv_has ls 3 [(1, .int x1_36)] → k36 x1_36 = some r0 → W p l e (zR 1 21) s m [.ref (A0 + 68)].toArray below meth c H locs 0 0 (MQ below (zQi D A0 r0 σ GF 740) [.ref (A0 + 68)].toArray s 0 0 (zA A0)) (F0 m 36 ls []) := by
    intro x1_36 H locs ls Z hl h
    rw [ek36] at h
    try dsimp only at h
    refine lv_iload_n hx hb dX10_leastGainer_36 rfl (lv_at hl 0 rfl) ?_
    have hq := Option.some.inj h
    exact ze_i F Z hr hlocks hq rfl dX10_leastGainer_37
  have hL4 : ∀ (fu4 : Nat) (x1_4 : Int32) (x2_4 : Int32) (H : Heap) (locs : List Loc) (ls : Array Slot), zh D A0 σ GF 740 s.heap H locs → lv_has ls 3 [(0, .ref (A0 + 68)), (1, .int x1_4), (2, .int x2_4)] → zfX10_leastGainer_L4 σ k36 fu4 x1_4 x2_4 = some r0 → W p l e (zR 1 21) s m [.ref (A0 + 68)].toArray below meth c H locs 0 0 (MQ below (zQi D A0 r0 σ GF 740) [.ref (A0 + 68)].toArray s 0 0 (zA A0)) (F0 m 4 ls []) := by
    intro fu4
    induction fu4 with
    | zero => intro x1_4 x2_4 H locs ls Z hl h; rw [zfX10_leastGainer_L4] at h; cases h
    | succ fu4 ih4 =>
      intro x1_4 x2_4 H locs ls Z hl h
      rw [zfX10_leastGainer_L4] at h
      refine lv_iload_n hx hb dX10_leastGainer_4 rfl (lv_at hl 2 rfl) ?_
      refine lv_aload_n hx hb dX10_leastGainer_5 rfl (lv_at hl 0 rfl) ?_
      refine zw_getR F Z zC10 (a := 68) (k := 0) (by decide) zs_68 (by decide) rfl zg_68_0 zq397 (Or.inl rfl) dX10_leastGainer_6 ?_
      refine zw_getI F Z zC0 (a := 3) (k := 0) (by decide) zs_3 (by decide) rfl zq133 (Or.inl rfl) dX10_leastGainer_9 ?_
      refine zb_icge (tgt := 36) hx hb dX10_leastGainer_12 (by decide) h (fun h => ?_) (fun h => ?_)
      · exact hk36 x1_4 _ _ _ Z (lv_sub hl [1] rfl) h
      · refine lv_aload_n hx hb dX10_leastGainer_15 rfl (lv_at hl 0 rfl) ?_
        refine lv_iload_n hx hb dX10_leastGainer_16 rfl (lv_at hl 2 rfl) ?_
        obtain ⟨r17, hc17, h⟩ := bd_x h
        refine zc_i Z (zr_V F Z (a := 68) (As := [.int x2_4]) (zcX10_gainOf l D A0 x2_4 σ r17 hc17) zBX10_gainOf zq1054 (by decide) zs_68 zC10.1 rfl ⟨⟨rfl, rfl⟩, Nat.le_of_ble_eq_true rfl, Nat.le_of_ble_eq_true rfl⟩ hl.1 rfl (Nat.le_of_ble_eq_true rfl) dX10_leastGainer_17 ⟨Nat.le_of_ble_eq_true rfl, Nat.le_of_ble_eq_true rfl⟩) (fun _ _ Z => ?_)
        refine lv_aload_n hx hb dX10_leastGainer_20 rfl (lv_at hl 0 rfl) ?_
        refine lv_iload_n hx hb dX10_leastGainer_21 rfl (lv_at hl 1 rfl) ?_
        obtain ⟨r22, hc22, h⟩ := bd_x h
        refine zc_i Z (zr_V F Z (a := 68) (As := [.int x1_4]) (zcX10_gainOf l D A0 x1_4 σ r22 hc22) zBX10_gainOf zq1054 (by decide) zs_68 zC10.1 rfl ⟨⟨rfl, rfl⟩, Nat.le_of_ble_eq_true rfl, Nat.le_of_ble_eq_true rfl⟩ hl.1 rfl (Nat.le_of_ble_eq_true rfl) dX10_leastGainer_22 ⟨Nat.le_of_ble_eq_true rfl, Nat.le_of_ble_eq_true rfl⟩) (fun _ _ Z => ?_)
        obtain ⟨j30, ej30, h⟩ := lt_x h
        have hj30 : ∀ (x1_30 : Int32) (H : Heap) (locs : List Loc) (ls : Array Slot), zh D A0 σ GF 740 s.heap H locs → lv_has ls 3 [(0, .ref (A0 + 68)), (1, .int x1_30), (2, .int x2_4)] → j30 x1_30 = some r0 → W p l e (zR 1 21) s m [.ref (A0 + 68)].toArray below meth c H locs 0 0 (MQ below (zQi D A0 r0 σ GF 740) [.ref (A0 + 68)].toArray s 0 0 (zA A0)) (F0 m 30 ls []) := by
          intro x1_30 H locs ls Z hl h
          rw [ej30] at h
          try dsimp only at h
          obtain ⟨x2_30, ex2_30⟩ : ∃ y : Int32, y = x2_4 + 1 := ⟨_, rfl⟩
          replace h := lt_w h ex2_30
          refine lv_iinc (v := x2_30) (lv' := [(2, .int x2_30), (0, .ref (A0 + 68)), (1, .int x1_30)]) hx hb dX10_leastGainer_30 hl (k := 2) rfl (by rw [ex2_30]; rfl) (by decide) rfl (fun ls hl => ?_)
          refine lv_goto (tgt := 4) hx hb dX10_leastGainer_33 (by decide) ?_
          exact ih4 x1_30 x2_30 _ _ _ Z (lv_sub hl [1, 2, 0] rfl) h
        refine zb_icge (tgt := 30) hx hb dX10_leastGainer_25 (by decide) h (fun h => ?_) (fun h => ?_)
        · exact hj30 x1_4 _ _ _ Z (lv_sub hl [0, 1, 2] rfl) h
        · refine lv_iload_n hx hb dX10_leastGainer_28 rfl (lv_at hl 2 rfl) ?_
          refine lv_istore_n (lv' := [(1, .int x2_4), (0, .ref (A0 + 68)), (2, .int x2_4)]) hx hb dX10_leastGainer_29 rfl hl (by decide) rfl (fun ls hl => ?_)
          exact hj30 x2_4 _ _ _ Z (lv_sub hl [1, 0, 2] rfl) h
  exact hL4 NF 0 1 _ _ _ Z (lv_sub hl [2, 1, 0] rfl) h
set_option maxHeartbeats 4000000 in
set_option maxRecDepth 100000 in
theorem zcX11_inTurn (l : Launch) (D : va_G) (A0 : Nat) (x1 : Int32) (x2 : Int32) (σ : Mm) (r0 : Int32) (σr : Mm) (h : zfX11_inTurn x1 x2 σ = some (r0, σr)) : Met l yX11_inTurn (zws yX11_inTurn cX11_inTurn 5 (some .int)) (zR 6 157) (zPc D A0 σ GF 740 [.ref (A0 + 0), .int x1, .int x2]) (zQi D A0 r0 σr GF 740) 0 0 (zA A0) := by
  unfold zfX11_inTurn at h
  refine zmet (own := RX11) (by decide) rfl (Nat.le_of_ble_eq_true rfl) ?_
  intro p e s m below meth c F hr hlocks _ Z ls hl
  have hl : lv_has ls 5 [(0, .ref (A0 + 0)), (1, .int x1), (2, .int x2)] := hl
  have hx := F.1.1
  have hb := F.1.2.1
  have hown := F.1.2.2.2.1
  have hts := F.1.2.2.2.2
  refine lv_aload_n hx hb dX11_inTurn_0 rfl (lv_at hl 0 rfl) ?_
  refine lv_iload_n hx hb dX11_inTurn_1 rfl (lv_at hl 1 rfl) ?_
  refine zc_i Z (zr_V F Z (a := 0) (As := [.int x1]) (zcX11_noDays l D A0 x1 σ (zfX11_noDays x1 σ) rfl) zBX11_noDays zq854 (by decide) zs_0 zC11.1 rfl ⟨⟨rfl, rfl⟩, Nat.le_of_ble_eq_true rfl, Nat.le_of_ble_eq_true rfl⟩ hl.1 rfl (Nat.le_of_ble_eq_true rfl) dX11_inTurn_2 ⟨Nat.le_of_ble_eq_true rfl, Nat.le_of_ble_eq_true rfl⟩) (fun _ _ Z => ?_)
  obtain ⟨j16, ej16, h⟩ := lt_x h
  have hj16 : ∀ (σ16 : Mm) (H : Heap) (locs : List Loc) (ls : Array Slot), zh D A0 σ16 GF 740 s.heap H locs → lv_has ls 5 [] → j16 σ16 = some (r0, σr) → W p l e (zR 6 157) s m [.ref (A0 + 0), .int x1, .int x2].toArray below meth c H locs 0 0 (MQ below (zQi D A0 r0 σr GF 740) [.ref (A0 + 0), .int x1, .int x2].toArray s 0 0 (zA A0)) (F0 m 16 ls []) := by
    intro  σ16 H locs ls Z hl h
    rw [ej16] at h
    try dsimp only at h
    refine lv_ldc (v := (-1000000)) hx hb hown (hts _ zq1001) dX11_inTurn_16 ?_
    obtain ⟨hq1, hq2⟩ := zpq h
    exact ze_i F Z hr hlocks hq1 hq2 dX11_inTurn_18
  refine zb_ifne (tgt := 16) hx hb dX11_inTurn_5 (by decide) h (fun h => ?_) (fun h => ?_)
  · exact hj16 σ _ _ _ Z (lv_sub hl [] rfl) h
  · refine lv_iload_n hx hb dX11_inTurn_8 rfl (lv_at hl 2 rfl) ?_
    refine lv_iconst (v := 2) hx hb dX11_inTurn_9 (by decide) ?_
    refine zc_i Z (zr_S F Z (As := [.int x2, .int 2]) (zcX11_noWhat l D A0 x2 2 σ (zfX11_noWhat x2 2) rfl) zBX11_noWhat zq971 rfl ⟨⟨rfl, rfl⟩, Nat.le_of_ble_eq_true rfl, Nat.le_of_ble_eq_true rfl⟩ hl.1 rfl (Nat.le_of_ble_eq_true rfl) dX11_inTurn_10 ⟨Nat.le_of_ble_eq_true rfl, Nat.le_of_ble_eq_true rfl⟩) (fun _ _ Z => ?_)
    refine zb_ifeq (tgt := 19) hx hb dX11_inTurn_13 (by decide) h (fun h => ?_) (fun h => ?_)
    · refine lv_aload_n hx hb dX11_inTurn_19 rfl (lv_at hl 0 rfl) ?_
      refine zw_getR F Z zC11 (a := 0) (k := 10) (by decide) zs_0 (by decide) rfl zg_0_10 zq544 (Or.inl rfl) dX11_inTurn_20 ?_
      obtain ⟨σ23, hc23, h⟩ := bd_x h
      refine zc_v Z (zr_V F Z (a := 68) (As := []) (zcX10_begin l D A0 σ σ23 hc23) zBX10_begin zq931 (by decide) zs_68 zC10.1 rfl ⟨⟨rfl, rfl⟩, Nat.le_of_ble_eq_true rfl, Nat.le_of_ble_eq_true rfl⟩ hl.1 rfl (Nat.le_of_ble_eq_true rfl) dX11_inTurn_23 ⟨Nat.le_of_ble_eq_true rfl, Nat.le_of_ble_eq_true rfl⟩) (fun _ _ Z => ?_)
      refine lv_iconst (v := 0) hx hb dX11_inTurn_26 (by decide) ?_
      refine lv_istore_n (lv' := [(3, .int 0), (0, .ref (A0 + 0)), (1, .int x1), (2, .int x2)]) hx hb dX11_inTurn_27 rfl hl (by decide) rfl (fun ls hl => ?_)
      refine lv_iconst (v := 0) hx hb dX11_inTurn_28 (by decide) ?_
      refine lv_istore (lv' := [(4, .int 0), (3, .int 0), (0, .ref (A0 + 0)), (1, .int x1), (2, .int x2)]) hx hb dX11_inTurn_29 hl (by decide) rfl (fun ls hl => ?_)
      obtain ⟨k84, ek84, h⟩ := lt_x h
      have hk84 : ∀ (σ84 : Mm) (H : Heap) (locs : List Loc) (ls : Array Slot), zh D A0 σ84 GF 740 s.heap H locs → lv_has ls 5 [(0, .ref (A0 + 0)), (2, .int x2)] → k84 σ84 = some (r0, σr) → W p l e (zR 6 157) s m [.ref (A0 + 0), .int x1, .int x2].toArray below meth c H locs 0 0 (MQ below (zQi D A0 r0 σr GF 740) [.ref (A0 + 0), .int x1, .int x2].toArray s 0 0 (zA A0)) (F0 m 84 ls []) := by
        intro  σ84 H locs ls Z hl h
        rw [ek84] at h
        try dsimp only at h
        refine lv_iload_n hx hb dX11_inTurn_84 rfl (lv_at hl 1 rfl) ?_
        refine zsp h (fun hs85_0 h => ?_) (fun hs85_0 h => ?_)
        · refine lv_lookup (tgt := 112) (off := 27) hx hb dX11_inTurn_85 (by decide) (by first | (rw [hs85_0]; done) | (rw [hs85_0]; decide)) (by decide) ?_
          refine lv_aload_n hx hb dX11_inTurn_112 rfl (lv_at hl 0 rfl) ?_
          refine zw_getR F Z zC11 (a := 0) (k := 10) (by decide) zs_0 (by decide) rfl zg_0_10 zq544 (Or.inl rfl) dX11_inTurn_113 ?_
          refine zw_getR F Z zC10 (a := 68) (k := 3) (by decide) zs_68 (by decide) rfl zg_68_3 zq401 (Or.inl rfl) dX11_inTurn_116 ?_
          refine zw_getI F Z zC8 (a := 69) (k := 0) (by decide) zs_69 (by decide) rfl zq222 (Or.inl rfl) dX11_inTurn_119 ?_
          obtain ⟨hq1, hq2⟩ := zpq h
          exact ze_i F Z hr hlocks hq1 hq2 dX11_inTurn_122
        · refine zsp h (fun hs85_1 h => ?_) (fun hs85_1 h => ?_)
          · refine lv_lookup (tgt := 123) (off := 38) hx hb dX11_inTurn_85 (by decide) (by first | (rw [hs85_1]; done) | (rw [hs85_1]; decide)) (by decide) ?_
            refine lv_aload_n hx hb dX11_inTurn_123 rfl (lv_at hl 0 rfl) ?_
            refine zw_getR F Z zC11 (a := 0) (k := 10) (by decide) zs_0 (by decide) rfl zg_0_10 zq544 (Or.inl rfl) dX11_inTurn_124 ?_
            obtain ⟨r127, hc127, h⟩ := bd_x h
            refine zc_i Z (zr_V F Z (a := 68) (As := []) (zcX10_gainOfAll l D A0 σ84 r127 hc127) zBX10_gainOfAll zq1050 (by decide) zs_68 zC10.1 rfl ⟨⟨rfl, rfl⟩, Nat.le_of_ble_eq_true rfl, Nat.le_of_ble_eq_true rfl⟩ hl.1 rfl (Nat.le_of_ble_eq_true rfl) dX11_inTurn_127 ⟨Nat.le_of_ble_eq_true rfl, Nat.le_of_ble_eq_true rfl⟩) (fun _ _ Z => ?_)
            obtain ⟨hq1, hq2⟩ := zpq h
            exact ze_i F Z hr hlocks hq1 hq2 dX11_inTurn_130
          · refine lv_lookup (tgt := 131) (off := 46) hx hb dX11_inTurn_85 (by decide) ((lv_osw hs85_0 (a := 0) (by decide)).trans ((lv_osw hs85_1 (a := 1) (by decide)).trans (rfl))) (by decide) ?_
            refine lv_aload_n hx hb dX11_inTurn_131 rfl (lv_at hl 0 rfl) ?_
            refine zw_getR F Z zC11 (a := 0) (k := 10) (by decide) zs_0 (by decide) rfl zg_0_10 zq544 (Or.inl rfl) dX11_inTurn_132 ?_
            obtain ⟨r135, hc135, h⟩ := bd_x h
            refine zc_i Z (zr_V F Z (a := 68) (As := []) (zcX10_leastGainer l D A0 σ84 r135 hc135) zBX10_leastGainer zq1118 (by decide) zs_68 zC10.1 rfl ⟨⟨rfl, rfl⟩, Nat.le_of_ble_eq_true rfl, Nat.le_of_ble_eq_true rfl⟩ hl.1 rfl (Nat.le_of_ble_eq_true rfl) dX11_inTurn_135 ⟨Nat.le_of_ble_eq_true rfl, Nat.le_of_ble_eq_true rfl⟩) (fun _ _ Z => ?_)
            obtain ⟨hq1, hq2⟩ := zpq h
            exact ze_i F Z hr hlocks hq1 hq2 dX11_inTurn_138
      have hL31 : ∀ (fu31 : Nat) (x3_31 : Int32) (x4_31 : Int32) (σ31 : Mm) (H : Heap) (locs : List Loc) (ls : Array Slot), zh D A0 σ31 GF 740 s.heap H locs → lv_has ls 5 [(0, .ref (A0 + 0)), (1, .int x1), (2, .int x2), (3, .int x3_31), (4, .int x4_31)] → zfX11_inTurn_L31 x1 k84 fu31 x3_31 x4_31 σ31 = some (r0, σr) → W p l e (zR 6 157) s m [.ref (A0 + 0), .int x1, .int x2].toArray below meth c H locs 0 0 (MQ below (zQi D A0 r0 σr GF 740) [.ref (A0 + 0), .int x1, .int x2].toArray s 0 0 (zA A0)) (F0 m 31 ls []) := by
        intro fu31
        induction fu31 with
        | zero => intro x3_31 x4_31 σ31 H locs ls Z hl h; rw [zfX11_inTurn_L31] at h; cases h
        | succ fu31 ih31 =>
          intro x3_31 x4_31 σ31 H locs ls Z hl h
          rw [zfX11_inTurn_L31] at h
          refine lv_iload hx hb dX11_inTurn_31 (lv_at hl 4 rfl) ?_
          refine lv_iload_n hx hb dX11_inTurn_33 rfl (lv_at hl 1 rfl) ?_
          refine zb_icge (tgt := 84) hx hb dX11_inTurn_34 (by decide) h (fun h => ?_) (fun h => ?_)
          · exact hk84 σ31 _ _ _ Z (lv_sub hl [0, 2] rfl) h
          · refine lv_aload_n hx hb dX11_inTurn_37 rfl (lv_at hl 0 rfl) ?_
            refine zw_getR F Z zC11 (a := 0) (k := 10) (by decide) zs_0 (by decide) rfl zg_0_10 zq544 (Or.inl rfl) dX11_inTurn_38 ?_
            refine zw_getR F Z zC10 (a := 68) (k := 3) (by decide) zs_68 (by decide) rfl zg_68_3 zq401 (Or.inl rfl) dX11_inTurn_41 ?_
            refine lv_iconst (v := 1) hx hb dX11_inTurn_44 (by decide) ?_
            refine lv_iload_n hx hb dX11_inTurn_45 rfl (lv_at hl 3 rfl) ?_
            refine lv_ishl hx hb dX11_inTurn_46 ?_
            refine zw_putI F Z zC8 (a := 69) (k := 3) (by decide) zs_69 (by decide) rfl (by decide) zq230 (Or.inl rfl) rfl ⟨rfl, rfl⟩ dX11_inTurn_47 (fun σ47 _ _ eσ47 Z => ?_)
            replace h := lt_w h eσ47
            refine lv_aload_n hx hb dX11_inTurn_50 rfl (lv_at hl 0 rfl) ?_
            refine zw_getR F Z zC11 (a := 0) (k := 10) (by decide) zs_0 (by decide) rfl zg_0_10 zq544 (Or.inl rfl) dX11_inTurn_51 ?_
            obtain ⟨σ54, hc54, h⟩ := bd_x h
            refine zc_v Z (zr_V F Z (a := 68) (As := []) (zcX10_step l D A0 σ47 σ54 hc54) zBX10_step zq1097 (by decide) zs_68 zC10.1 rfl ⟨⟨rfl, rfl⟩, Nat.le_of_ble_eq_true rfl, Nat.le_of_ble_eq_true rfl⟩ hl.1 rfl (Nat.le_of_ble_eq_true rfl) dX11_inTurn_54 ⟨Nat.le_of_ble_eq_true rfl, Nat.le_of_ble_eq_true rfl⟩) (fun _ _ Z => ?_)
            refine lv_iload_n hx hb dX11_inTurn_57 rfl (lv_at hl 3 rfl) ?_
            refine lv_iconst (v := 1) hx hb dX11_inTurn_58 (by decide) ?_
            refine lv_iadd hx hb dX11_inTurn_59 ?_
            refine lv_aload_n hx hb dX11_inTurn_60 rfl (lv_at hl 0 rfl) ?_
            refine zw_getR F Z zC11 (a := 0) (k := 3) (by decide) zs_0 (by decide) rfl zg_0_3 zq537 (Or.inl rfl) dX11_inTurn_61 ?_
            refine zw_getI F Z zC0 (a := 3) (k := 0) (by decide) zs_3 (by decide) rfl zq135 (Or.inl rfl) dX11_inTurn_64 ?_
            obtain ⟨j77, ej77, h⟩ := lt_x h
            have hj77 : ∀ (y0_77 : Int32) (σ77 : Mm) (H : Heap) (locs : List Loc) (ls : Array Slot), zh D A0 σ77 GF 740 s.heap H locs → lv_has ls 5 [(0, .ref (A0 + 0)), (1, .int x1), (2, .int x2), (4, .int x4_31)] → j77 y0_77 σ77 = some (r0, σr) → W p l e (zR 6 157) s m [.ref (A0 + 0), .int x1, .int x2].toArray below meth c H locs 0 0 (MQ below (zQi D A0 r0 σr GF 740) [.ref (A0 + 0), .int x1, .int x2].toArray s 0 0 (zA A0)) (F0 m 77 ls [.int y0_77]) := by
              intro y0_77 σ77 H locs ls Z hl h
              rw [ej77] at h
              try dsimp only at h
              refine lv_istore_n (lv' := [(3, .int y0_77), (0, .ref (A0 + 0)), (1, .int x1), (2, .int x2), (4, .int x4_31)]) hx hb dX11_inTurn_77 rfl hl (by decide) rfl (fun ls hl => ?_)
              obtain ⟨x4_78, ex4_78⟩ : ∃ y : Int32, y = x4_31 + 1 := ⟨_, rfl⟩
              replace h := lt_w h ex4_78
              refine lv_iinc (v := x4_78) (lv' := [(4, .int x4_78), (3, .int y0_77), (0, .ref (A0 + 0)), (1, .int x1), (2, .int x2)]) hx hb dX11_inTurn_78 hl (k := 4) rfl (by rw [ex4_78]; rfl) (by decide) rfl (fun ls hl => ?_)
              refine lv_goto (tgt := 31) hx hb dX11_inTurn_81 (by decide) ?_
              exact ih31 y0_77 x4_78 σ77 _ _ _ Z (lv_sub hl [2, 3, 4, 1, 0] rfl) h
            refine zb_icge (tgt := 76) hx hb dX11_inTurn_67 (by decide) h (fun h => ?_) (fun h => ?_)
            · refine lv_iconst (v := 0) hx hb dX11_inTurn_76 (by decide) ?_
              exact hj77 0 σ54 _ _ _ Z (lv_sub hl [0, 1, 2, 4] rfl) h
            · refine lv_iload_n hx hb dX11_inTurn_70 rfl (lv_at hl 3 rfl) ?_
              refine lv_iconst (v := 1) hx hb dX11_inTurn_71 (by decide) ?_
              refine lv_iadd hx hb dX11_inTurn_72 ?_
              refine lv_goto (tgt := 77) hx hb dX11_inTurn_73 (by decide) ?_
              exact hj77 (x3_31 + 1) σ54 _ _ _ Z (lv_sub hl [0, 1, 2, 4] rfl) h
      exact hL31 NF 0 0 σ23 _ _ _ Z (lv_sub hl [2, 3, 4, 1, 0] rfl) h
    · exact hj16 σ _ _ _ Z (lv_sub hl [] rfl) h
set_option maxHeartbeats 4000000 in
set_option maxRecDepth 100000 in
theorem zcX11_bribe (l : Launch) (D : va_G) (A0 : Nat) (x1 : Int32) (x2 : Int32) (σ : Mm) (r0 : Int32) (σr : Mm) (h : zfX11_bribe x1 x2 σ = some (r0, σr)) : Met l yX11_bribe (zws yX11_bribe cX11_bribe 8 (some .int)) (zR 7 179) (zPc D A0 σ GF 740 [.ref (A0 + 0), .int x1, .int x2]) (zQi D A0 r0 σr GF 740) 0 0 (zA A0) := by
  unfold zfX11_bribe at h
  refine zmet (own := RX11) (by decide) rfl (Nat.le_of_ble_eq_true rfl) ?_
  intro p e s m below meth c F hr hlocks _ Z ls hl
  have hl : lv_has ls 8 [(0, .ref (A0 + 0)), (1, .int x1), (2, .int x2)] := hl
  have hx := F.1.1
  have hb := F.1.2.1
  have hown := F.1.2.2.2.1
  have hts := F.1.2.2.2.2
  refine lv_aload_n hx hb dX11_bribe_0 rfl (lv_at hl 0 rfl) ?_
  refine lv_iload_n hx hb dX11_bribe_1 rfl (lv_at hl 1 rfl) ?_
  refine zc_i Z (zr_V F Z (a := 0) (As := [.int x1]) (zcX11_noDays l D A0 x1 σ (zfX11_noDays x1 σ) rfl) zBX11_noDays zq854 (by decide) zs_0 zC11.1 rfl ⟨⟨rfl, rfl⟩, Nat.le_of_ble_eq_true rfl, Nat.le_of_ble_eq_true rfl⟩ hl.1 rfl (Nat.le_of_ble_eq_true rfl) dX11_bribe_2 ⟨Nat.le_of_ble_eq_true rfl, Nat.le_of_ble_eq_true rfl⟩) (fun _ _ Z => ?_)
  obtain ⟨j16, ej16, h⟩ := lt_x h
  have hj16 : ∀ (σ16 : Mm) (H : Heap) (locs : List Loc) (ls : Array Slot), zh D A0 σ16 GF 740 s.heap H locs → lv_has ls 8 [] → j16 σ16 = some (r0, σr) → W p l e (zR 7 179) s m [.ref (A0 + 0), .int x1, .int x2].toArray below meth c H locs 0 0 (MQ below (zQi D A0 r0 σr GF 740) [.ref (A0 + 0), .int x1, .int x2].toArray s 0 0 (zA A0)) (F0 m 16 ls []) := by
    intro  σ16 H locs ls Z hl h
    rw [ej16] at h
    try dsimp only at h
    refine lv_ldc (v := (-1000000)) hx hb hown (hts _ zq1001) dX11_bribe_16 ?_
    obtain ⟨hq1, hq2⟩ := zpq h
    exact ze_i F Z hr hlocks hq1 hq2 dX11_bribe_18
  refine zb_ifne (tgt := 16) hx hb dX11_bribe_5 (by decide) h (fun h => ?_) (fun h => ?_)
  · exact hj16 σ _ _ _ Z (lv_sub hl [] rfl) h
  · refine lv_iload_n hx hb dX11_bribe_8 rfl (lv_at hl 2 rfl) ?_
    refine lv_iconst (v := 1) hx hb dX11_bribe_9 (by decide) ?_
    refine zc_i Z (zr_S F Z (As := [.int x2, .int 1]) (zcX11_noWhat l D A0 x2 1 σ (zfX11_noWhat x2 1) rfl) zBX11_noWhat zq971 rfl ⟨⟨rfl, rfl⟩, Nat.le_of_ble_eq_true rfl, Nat.le_of_ble_eq_true rfl⟩ hl.1 rfl (Nat.le_of_ble_eq_true rfl) dX11_bribe_10 ⟨Nat.le_of_ble_eq_true rfl, Nat.le_of_ble_eq_true rfl⟩) (fun _ _ Z => ?_)
    refine zb_ifeq (tgt := 19) hx hb dX11_bribe_13 (by decide) h (fun h => ?_) (fun h => ?_)
    · refine lv_iconst (v := (-1)) hx hb dX11_bribe_19 (by decide) ?_
      refine lv_istore_n (lv' := [(3, .int (-1)), (0, .ref (A0 + 0)), (1, .int x1), (2, .int x2)]) hx hb dX11_bribe_20 rfl hl (by decide) rfl (fun ls hl => ?_)
      refine lv_ldc (v := (-1000000)) hx hb hown (hts _ zq1001) dX11_bribe_21 ?_
      refine lv_istore (lv' := [(4, .int (-1000000)), (3, .int (-1)), (0, .ref (A0 + 0)), (1, .int x1), (2, .int x2)]) hx hb dX11_bribe_23 hl (by decide) rfl (fun ls hl => ?_)
      refine lv_iconst (v := 0) hx hb dX11_bribe_25 (by decide) ?_
      refine lv_istore (lv' := [(5, .int 0), (4, .int (-1000000)), (3, .int (-1)), (0, .ref (A0 + 0)), (1, .int x1), (2, .int x2)]) hx hb dX11_bribe_26 hl (by decide) rfl (fun ls hl => ?_)
      obtain ⟨k141, ek141, h⟩ := lt_x h
      have hk141 : ∀ (x3_141 : Int32) (x4_141 : Int32) (σ141 : Mm) (H : Heap) (locs : List Loc) (ls : Array Slot), zh D A0 σ141 GF 740 s.heap H locs → lv_has ls 8 [(2, .int x2), (3, .int x3_141), (4, .int x4_141)] → k141 x3_141 x4_141 σ141 = some (r0, σr) → W p l e (zR 7 179) s m [.ref (A0 + 0), .int x1, .int x2].toArray below meth c H locs 0 0 (MQ below (zQi D A0 r0 σr GF 740) [.ref (A0 + 0), .int x1, .int x2].toArray s 0 0 (zA A0)) (F0 m 141 ls []) := by
        intro x3_141 x4_141 σ141 H locs ls Z hl h
        rw [ek141] at h
        try dsimp only at h
        refine lv_iload_n hx hb dX11_bribe_141 rfl (lv_at hl 0 rfl) ?_
        refine zb_ifne (tgt := 149) hx hb dX11_bribe_142 (by decide) h (fun h => ?_) (fun h => ?_)
        · refine lv_iload hx hb dX11_bribe_149 (lv_at hl 2 rfl) ?_
          obtain ⟨hq1, hq2⟩ := zpq h
          exact ze_i F Z hr hlocks hq1 hq2 dX11_bribe_151
        · refine lv_iload_n hx hb dX11_bribe_145 rfl (lv_at hl 1 rfl) ?_
          refine lv_goto (tgt := 151) hx hb dX11_bribe_146 (by decide) ?_
          obtain ⟨hq1, hq2⟩ := zpq h
          exact ze_i F Z hr hlocks hq1 hq2 dX11_bribe_151
      have hL28 : ∀ (fu28 : Nat) (x3_28 : Int32) (x4_28 : Int32) (x5_28 : Int32) (σ28 : Mm) (H : Heap) (locs : List Loc) (ls : Array Slot), zh D A0 σ28 GF 740 s.heap H locs → lv_has ls 8 [(0, .ref (A0 + 0)), (1, .int x1), (2, .int x2), (3, .int x3_28), (4, .int x4_28), (5, .int x5_28)] → zfX11_bribe_L28 k141 x1 fu28 x3_28 x4_28 x5_28 σ28 = some (r0, σr) → W p l e (zR 7 179) s m [.ref (A0 + 0), .int x1, .int x2].toArray below meth c H locs 0 0 (MQ below (zQi D A0 r0 σr GF 740) [.ref (A0 + 0), .int x1, .int x2].toArray s 0 0 (zA A0)) (F0 m 28 ls []) := by
        intro fu28
        induction fu28 with
        | zero => intro x3_28 x4_28 x5_28 σ28 H locs ls Z hl h; rw [zfX11_bribe_L28] at h; cases h
        | succ fu28 ih28 =>
          intro x3_28 x4_28 x5_28 σ28 H locs ls Z hl h
          rw [zfX11_bribe_L28] at h
          refine lv_iload hx hb dX11_bribe_28 (lv_at hl 5 rfl) ?_
          refine lv_aload_n hx hb dX11_bribe_30 rfl (lv_at hl 0 rfl) ?_
          refine zw_getR F Z zC11 (a := 0) (k := 3) (by decide) zs_0 (by decide) rfl zg_0_3 zq537 (Or.inl rfl) dX11_bribe_31 ?_
          refine zw_getI F Z zC0 (a := 3) (k := 0) (by decide) zs_3 (by decide) rfl zq135 (Or.inl rfl) dX11_bribe_34 ?_
          refine zb_icge (tgt := 141) hx hb dX11_bribe_37 (by decide) h (fun h => ?_) (fun h => ?_)
          · exact hk141 x3_28 x4_28 σ28 _ _ _ Z (lv_sub hl [2, 3, 4] rfl) h
          · refine lv_aload_n hx hb dX11_bribe_40 rfl (lv_at hl 0 rfl) ?_
            refine zw_getR F Z zC11 (a := 0) (k := 7) (by decide) zs_0 (by decide) rfl zg_0_7 zq541 (Or.inl rfl) dX11_bribe_41 ?_
            refine lv_iload hx hb dX11_bribe_44 (lv_at hl 5 rfl) ?_
            refine zc_i Z (zr_V F Z (a := 27) (As := [.int x5_28]) (zcX8_isHolding l D A0 27 x5_28 (Or.inl rfl) σ28 (zfX8_isHolding 27 x5_28 σ28) rfl) zBX8_isHolding zq834 (by decide) zs_27 zC8.1 rfl ⟨⟨rfl, rfl⟩, Nat.le_of_ble_eq_true rfl, Nat.le_of_ble_eq_true rfl⟩ hl.1 rfl (Nat.le_of_ble_eq_true rfl) dX11_bribe_46 ⟨Nat.le_of_ble_eq_true rfl, Nat.le_of_ble_eq_true rfl⟩) (fun _ _ Z => ?_)
            obtain ⟨j135, ej135, h⟩ := lt_x h
            have hj135 : ∀ (x3_135 : Int32) (x4_135 : Int32) (σ135 : Mm) (H : Heap) (locs : List Loc) (ls : Array Slot), zh D A0 σ135 GF 740 s.heap H locs → lv_has ls 8 [(0, .ref (A0 + 0)), (1, .int x1), (2, .int x2), (3, .int x3_135), (4, .int x4_135), (5, .int x5_28)] → j135 x3_135 x4_135 σ135 = some (r0, σr) → W p l e (zR 7 179) s m [.ref (A0 + 0), .int x1, .int x2].toArray below meth c H locs 0 0 (MQ below (zQi D A0 r0 σr GF 740) [.ref (A0 + 0), .int x1, .int x2].toArray s 0 0 (zA A0)) (F0 m 135 ls []) := by
              intro x3_135 x4_135 σ135 H locs ls Z hl h
              rw [ej135] at h
              try dsimp only at h
              obtain ⟨x5_135, ex5_135⟩ : ∃ y : Int32, y = x5_28 + 1 := ⟨_, rfl⟩
              replace h := lt_w h ex5_135
              refine lv_iinc (v := x5_135) (lv' := [(5, .int x5_135), (0, .ref (A0 + 0)), (1, .int x1), (2, .int x2), (3, .int x3_135), (4, .int x4_135)]) hx hb dX11_bribe_135 hl (k := 5) rfl (by rw [ex5_135]; rfl) (by decide) rfl (fun ls hl => ?_)
              refine lv_goto (tgt := 28) hx hb dX11_bribe_138 (by decide) ?_
              exact ih28 x3_135 x4_135 x5_135 σ135 _ _ _ Z (lv_sub hl [1, 2, 3, 4, 5, 0] rfl) h
            refine zb_ifeq (tgt := 55) hx hb dX11_bribe_49 (by decide) h (fun h => ?_) (fun h => ?_)
            · refine lv_aload_n hx hb dX11_bribe_55 rfl (lv_at hl 0 rfl) ?_
              refine zw_getR F Z zC11 (a := 0) (k := 10) (by decide) zs_0 (by decide) rfl zg_0_10 zq544 (Or.inl rfl) dX11_bribe_56 ?_
              refine lv_iload hx hb dX11_bribe_59 (lv_at hl 5 rfl) ?_
              refine lv_iconst (v := 1) hx hb dX11_bribe_61 (by decide) ?_
              obtain ⟨σ62, hc62, h⟩ := bd_x h
              refine zc_v Z (zr_V F Z (a := 68) (As := [.int x5_28, .int 1]) (zcX10_beginHolding l D A0 x5_28 1 σ28 σ62 hc62) zBX10_beginHolding zq1040 (by decide) zs_68 zC10.1 rfl ⟨⟨rfl, rfl⟩, Nat.le_of_ble_eq_true rfl, Nat.le_of_ble_eq_true rfl⟩ hl.1 rfl (Nat.le_of_ble_eq_true rfl) dX11_bribe_62 ⟨Nat.le_of_ble_eq_true rfl, Nat.le_of_ble_eq_true rfl⟩) (fun _ _ Z => ?_)
              refine lv_aload_n hx hb dX11_bribe_65 rfl (lv_at hl 0 rfl) ?_
              refine zw_getR F Z zC11 (a := 0) (k := 10) (by decide) zs_0 (by decide) rfl zg_0_10 zq544 (Or.inl rfl) dX11_bribe_66 ?_
              refine lv_iload_n hx hb dX11_bribe_69 rfl (lv_at hl 1 rfl) ?_
              obtain ⟨σ70, hc70, h⟩ := bd_x h
              refine zc_v Z (zr_V F Z (a := 68) (As := [.int x1]) (zcX10_pass l D A0 x1 σ62 σ70 hc70) zBX10_pass zq943 (by decide) zs_68 zC10.1 rfl ⟨⟨rfl, rfl⟩, Nat.le_of_ble_eq_true rfl, Nat.le_of_ble_eq_true rfl⟩ hl.1 rfl (Nat.le_of_ble_eq_true rfl) dX11_bribe_70 ⟨Nat.le_of_ble_eq_true rfl, Nat.le_of_ble_eq_true rfl⟩) (fun _ _ Z => ?_)
              refine lv_aload_n hx hb dX11_bribe_73 rfl (lv_at hl 0 rfl) ?_
              refine zw_getR F Z zC11 (a := 0) (k := 10) (by decide) zs_0 (by decide) rfl zg_0_10 zq544 (Or.inl rfl) dX11_bribe_74 ?_
              refine lv_iload hx hb dX11_bribe_77 (lv_at hl 5 rfl) ?_
              obtain ⟨r79, hc79, h⟩ := bd_x h
              refine zc_i Z (zr_V F Z (a := 68) (As := [.int x5_28]) (zcX10_gainOf l D A0 x5_28 σ70 r79 hc79) zBX10_gainOf zq1046 (by decide) zs_68 zC10.1 rfl ⟨⟨rfl, rfl⟩, Nat.le_of_ble_eq_true rfl, Nat.le_of_ble_eq_true rfl⟩ hl.1 rfl (Nat.le_of_ble_eq_true rfl) dX11_bribe_79 ⟨Nat.le_of_ble_eq_true rfl, Nat.le_of_ble_eq_true rfl⟩) (fun _ _ Z => ?_)
              refine lv_istore (lv' := [(6, .int r79), (0, .ref (A0 + 0)), (1, .int x1), (2, .int x2), (3, .int x3_28), (4, .int x4_28), (5, .int x5_28)]) hx hb dX11_bribe_82 hl (by decide) rfl (fun ls hl => ?_)
              refine lv_aload_n hx hb dX11_bribe_84 rfl (lv_at hl 1 rfl) ?_
              refine zw_getR F Z zC11 (a := 0) (k := 10) (by decide) zs_0 (by decide) rfl zg_0_10 zq544 (Or.inl rfl) dX11_bribe_85 ?_
              refine lv_iload hx hb dX11_bribe_88 (lv_at hl 6 rfl) ?_
              refine lv_iconst (v := 0) hx hb dX11_bribe_90 (by decide) ?_
              obtain ⟨σ91, hc91, h⟩ := bd_x h
              refine zc_v Z (zr_V F Z (a := 68) (As := [.int x5_28, .int 0]) (zcX10_beginHolding l D A0 x5_28 0 σ70 σ91 hc91) zBX10_beginHolding zq1040 (by decide) zs_68 zC10.1 rfl ⟨⟨rfl, rfl⟩, Nat.le_of_ble_eq_true rfl, Nat.le_of_ble_eq_true rfl⟩ hl.1 rfl (Nat.le_of_ble_eq_true rfl) dX11_bribe_91 ⟨Nat.le_of_ble_eq_true rfl, Nat.le_of_ble_eq_true rfl⟩) (fun _ _ Z => ?_)
              refine lv_aload_n hx hb dX11_bribe_94 rfl (lv_at hl 1 rfl) ?_
              refine zw_getR F Z zC11 (a := 0) (k := 10) (by decide) zs_0 (by decide) rfl zg_0_10 zq544 (Or.inl rfl) dX11_bribe_95 ?_
              refine lv_iload_n hx hb dX11_bribe_98 rfl (lv_at hl 2 rfl) ?_
              obtain ⟨σ99, hc99, h⟩ := bd_x h
              refine zc_v Z (zr_V F Z (a := 68) (As := [.int x1]) (zcX10_pass l D A0 x1 σ91 σ99 hc99) zBX10_pass zq943 (by decide) zs_68 zC10.1 rfl ⟨⟨rfl, rfl⟩, Nat.le_of_ble_eq_true rfl, Nat.le_of_ble_eq_true rfl⟩ hl.1 rfl (Nat.le_of_ble_eq_true rfl) dX11_bribe_99 ⟨Nat.le_of_ble_eq_true rfl, Nat.le_of_ble_eq_true rfl⟩) (fun _ _ Z => ?_)
              refine lv_aload_n hx hb dX11_bribe_102 rfl (lv_at hl 1 rfl) ?_
              refine zw_getR F Z zC11 (a := 0) (k := 10) (by decide) zs_0 (by decide) rfl zg_0_10 zq544 (Or.inl rfl) dX11_bribe_103 ?_
              refine lv_iload hx hb dX11_bribe_106 (lv_at hl 6 rfl) ?_
              obtain ⟨r108, hc108, h⟩ := bd_x h
              refine zc_i Z (zr_V F Z (a := 68) (As := [.int x5_28]) (zcX10_gainOf l D A0 x5_28 σ99 r108 hc108) zBX10_gainOf zq1046 (by decide) zs_68 zC10.1 rfl ⟨⟨rfl, rfl⟩, Nat.le_of_ble_eq_true rfl, Nat.le_of_ble_eq_true rfl⟩ hl.1 rfl (Nat.le_of_ble_eq_true rfl) dX11_bribe_108 ⟨Nat.le_of_ble_eq_true rfl, Nat.le_of_ble_eq_true rfl⟩) (fun _ _ Z => ?_)
              refine lv_iload hx hb dX11_bribe_111 (lv_at hl 0 rfl) ?_
              refine lv_isub hx hb dX11_bribe_113 ?_
              refine lv_topi (fun x7_114 ex7_114 => ?_)
              replace h := lt_w h ex7_114
              refine lv_istore (lv' := [(7, .int x7_114), (6, .int r79), (0, .ref (A0 + 0)), (1, .int x1), (2, .int x2), (3, .int x3_28), (4, .int x4_28), (5, .int x5_28)]) hx hb dX11_bribe_114 hl (by decide) rfl (fun ls hl => ?_)
              refine lv_iload_n hx hb dX11_bribe_116 rfl (lv_at hl 5 rfl) ?_
              refine lv_iconst (v := (-1)) hx hb dX11_bribe_117 (by decide) ?_
              obtain ⟨j128, ej128, h⟩ := lt_x h
              have hj128 : ∀ (σ128 : Mm) (H : Heap) (locs : List Loc) (ls : Array Slot), zh D A0 σ128 GF 740 s.heap H locs → lv_has ls 8 [(0, .ref (A0 + 0)), (1, .int x1), (2, .int x2), (5, .int x5_28), (7, .int x7_114)] → j128 σ128 = some (r0, σr) → W p l e (zR 7 179) s m [.ref (A0 + 0), .int x1, .int x2].toArray below meth c H locs 0 0 (MQ below (zQi D A0 r0 σr GF 740) [.ref (A0 + 0), .int x1, .int x2].toArray s 0 0 (zA A0)) (F0 m 128 ls []) := by
                intro  σ128 H locs ls Z hl h
                rw [ej128] at h
                try dsimp only at h
                refine lv_iload hx hb dX11_bribe_128 (lv_at hl 3 rfl) ?_
                refine lv_istore_n (lv' := [(3, .int x5_28), (0, .ref (A0 + 0)), (1, .int x1), (2, .int x2), (5, .int x5_28), (7, .int x7_114)]) hx hb dX11_bribe_130 rfl hl (by decide) rfl (fun ls hl => ?_)
                refine lv_iload hx hb dX11_bribe_131 (lv_at hl 5 rfl) ?_
                refine lv_istore (lv' := [(4, .int x7_114), (3, .int x5_28), (0, .ref (A0 + 0)), (1, .int x1), (2, .int x2), (5, .int x5_28), (7, .int x7_114)]) hx hb dX11_bribe_133 hl (by decide) rfl (fun ls hl => ?_)
                exact hj135 x5_28 x7_114 σ128 _ _ _ Z (lv_sub hl [2, 3, 4, 1, 0, 5] rfl) h
              refine zb_iceq (tgt := 128) hx hb dX11_bribe_118 (by decide) h (fun h => ?_) (fun h => ?_)
              · exact hj128 σ99 _ _ _ Z (lv_sub hl [2, 3, 4, 7, 0] rfl) h
              · refine lv_iload hx hb dX11_bribe_121 (lv_at hl 0 rfl) ?_
                refine lv_iload hx hb dX11_bribe_123 (lv_at hl 6 rfl) ?_
                refine zb_icge (tgt := 135) hx hb dX11_bribe_125 (by decide) h (fun h => ?_) (fun h => ?_)
                · exact hj135 x3_28 x4_28 σ99 _ _ _ Z (lv_sub hl [2, 3, 4, 5, 6, 7] rfl) h
                · exact hj128 σ99 _ _ _ Z (lv_sub hl [2, 3, 4, 7, 0] rfl) h
            · refine lv_goto (tgt := 135) hx hb dX11_bribe_52 (by decide) ?_
              exact hj135 x3_28 x4_28 σ28 _ _ _ Z (lv_sub hl [0, 1, 2, 3, 4, 5] rfl) h
      exact hL28 NF (-1) (-1000000) 0 σ _ _ _ Z (lv_sub hl [3, 4, 5, 2, 1, 0] rfl) h
    · exact hj16 σ _ _ _ Z (lv_sub hl [] rfl) h
set_option maxHeartbeats 4000000 in
set_option maxRecDepth 100000 in
theorem zcX11_spread (l : Launch) (D : va_G) (A0 : Nat) (x1 : Int32) (x2 : Int32) (σ : Mm) (r0 : Int32) (σr : Mm) (h : zfX11_spread x1 x2 σ = some (r0, σr)) : Met l yX11_spread (zws yX11_spread cX11_spread 3 (some .int)) (zR 7 179) (zPc D A0 σ GF 740 [.ref (A0 + 0), .int x1, .int x2]) (zQi D A0 r0 σr GF 740) 0 0 (zA A0) := by
  unfold zfX11_spread at h
  refine zmet (own := RX11) (by decide) rfl (Nat.le_of_ble_eq_true rfl) ?_
  intro p e s m below meth c F hr hlocks _ Z ls hl
  have hl : lv_has ls 3 [(0, .ref (A0 + 0)), (1, .int x1), (2, .int x2)] := hl
  have hx := F.1.1
  have hb := F.1.2.1
  have hown := F.1.2.2.2.1
  have hts := F.1.2.2.2.2
  refine lv_aload_n hx hb dX11_spread_0 rfl (lv_at hl 0 rfl) ?_
  refine lv_iload_n hx hb dX11_spread_1 rfl (lv_at hl 1 rfl) ?_
  refine zc_i Z (zr_V F Z (a := 0) (As := [.int x1]) (zcX11_noDays l D A0 x1 σ (zfX11_noDays x1 σ) rfl) zBX11_noDays zq854 (by decide) zs_0 zC11.1 rfl ⟨⟨rfl, rfl⟩, Nat.le_of_ble_eq_true rfl, Nat.le_of_ble_eq_true rfl⟩ hl.1 rfl (Nat.le_of_ble_eq_true rfl) dX11_spread_2 ⟨Nat.le_of_ble_eq_true rfl, Nat.le_of_ble_eq_true rfl⟩) (fun _ _ Z => ?_)
  obtain ⟨j16, ej16, h⟩ := lt_x h
  have hj16 : ∀ (σ16 : Mm) (H : Heap) (locs : List Loc) (ls : Array Slot), zh D A0 σ16 GF 740 s.heap H locs → lv_has ls 3 [] → j16 σ16 = some (r0, σr) → W p l e (zR 7 179) s m [.ref (A0 + 0), .int x1, .int x2].toArray below meth c H locs 0 0 (MQ below (zQi D A0 r0 σr GF 740) [.ref (A0 + 0), .int x1, .int x2].toArray s 0 0 (zA A0)) (F0 m 16 ls []) := by
    intro  σ16 H locs ls Z hl h
    rw [ej16] at h
    try dsimp only at h
    refine lv_iconst (v := (-1)) hx hb dX11_spread_16 (by decide) ?_
    obtain ⟨hq1, hq2⟩ := zpq h
    exact ze_i F Z hr hlocks hq1 hq2 dX11_spread_17
  refine zb_ifne (tgt := 16) hx hb dX11_spread_5 (by decide) h (fun h => ?_) (fun h => ?_)
  · exact hj16 σ _ _ _ Z (lv_sub hl [] rfl) h
  · refine lv_iload_n hx hb dX11_spread_8 rfl (lv_at hl 2 rfl) ?_
    refine lv_iconst (v := 1) hx hb dX11_spread_9 (by decide) ?_
    refine zc_i Z (zr_S F Z (As := [.int x2, .int 1]) (zcX11_noWhat l D A0 x2 1 σ (zfX11_noWhat x2 1) rfl) zBX11_noWhat zq971 rfl ⟨⟨rfl, rfl⟩, Nat.le_of_ble_eq_true rfl, Nat.le_of_ble_eq_true rfl⟩ hl.1 rfl (Nat.le_of_ble_eq_true rfl) dX11_spread_10 ⟨Nat.le_of_ble_eq_true rfl, Nat.le_of_ble_eq_true rfl⟩) (fun _ _ Z => ?_)
    refine zb_ifeq (tgt := 18) hx hb dX11_spread_13 (by decide) h (fun h => ?_) (fun h => ?_)
    · refine lv_aload_n hx hb dX11_spread_18 rfl (lv_at hl 0 rfl) ?_
      refine zw_getR F Z zC11 (a := 0) (k := 10) (by decide) zs_0 (by decide) rfl zg_0_10 zq544 (Or.inl rfl) dX11_spread_19 ?_
      obtain ⟨σ22, hc22, h⟩ := bd_x h
      refine zc_v Z (zr_V F Z (a := 68) (As := []) (zcX10_begin l D A0 σ σ22 hc22) zBX10_begin zq931 (by decide) zs_68 zC10.1 rfl ⟨⟨rfl, rfl⟩, Nat.le_of_ble_eq_true rfl, Nat.le_of_ble_eq_true rfl⟩ hl.1 rfl (Nat.le_of_ble_eq_true rfl) dX11_spread_22 ⟨Nat.le_of_ble_eq_true rfl, Nat.le_of_ble_eq_true rfl⟩) (fun _ _ Z => ?_)
      refine lv_aload_n hx hb dX11_spread_25 rfl (lv_at hl 0 rfl) ?_
      refine zw_getR F Z zC11 (a := 0) (k := 10) (by decide) zs_0 (by decide) rfl zg_0_10 zq544 (Or.inl rfl) dX11_spread_26 ?_
      refine lv_iload_n hx hb dX11_spread_29 rfl (lv_at hl 1 rfl) ?_
      obtain ⟨σ30, hc30, h⟩ := bd_x h
      refine zc_v Z (zr_V F Z (a := 68) (As := [.int x1]) (zcX10_pass l D A0 x1 σ22 σ30 hc30) zBX10_pass zq943 (by decide) zs_68 zC10.1 rfl ⟨⟨rfl, rfl⟩, Nat.le_of_ble_eq_true rfl, Nat.le_of_ble_eq_true rfl⟩ hl.1 rfl (Nat.le_of_ble_eq_true rfl) dX11_spread_30 ⟨Nat.le_of_ble_eq_true rfl, Nat.le_of_ble_eq_true rfl⟩) (fun _ _ Z => ?_)
      refine lv_iload_n hx hb dX11_spread_33 rfl (lv_at hl 2 rfl) ?_
      refine zb_ifne (tgt := 55) hx hb dX11_spread_34 (by decide) h (fun h => ?_) (fun h => ?_)
      · refine lv_aload_n hx hb dX11_spread_55 rfl (lv_at hl 0 rfl) ?_
        refine zw_getR F Z zC11 (a := 0) (k := 10) (by decide) zs_0 (by decide) rfl zg_0_10 zq544 (Or.inl rfl) dX11_spread_56 ?_
        refine zw_getI F Z zC10 (a := 68) (k := 9) (by decide) zs_68 (by decide) rfl zq412 (Or.inl rfl) dX11_spread_59 ?_
        obtain ⟨hq1, hq2⟩ := zpq h
        exact ze_i F Z hr hlocks hq1 hq2 dX11_spread_62
      · refine lv_aload_n hx hb dX11_spread_37 rfl (lv_at hl 0 rfl) ?_
        refine zw_getR F Z zC11 (a := 0) (k := 10) (by decide) zs_0 (by decide) rfl zg_0_10 zq544 (Or.inl rfl) dX11_spread_38 ?_
        refine zw_getI F Z zC10 (a := 68) (k := 7) (by decide) zs_68 (by decide) rfl zq408 (Or.inl rfl) dX11_spread_41 ?_
        refine lv_aload_n hx hb dX11_spread_44 rfl (lv_at hl 0 rfl) ?_
        refine zw_getR F Z zC11 (a := 0) (k := 10) (by decide) zs_0 (by decide) rfl zg_0_10 zq544 (Or.inl rfl) dX11_spread_45 ?_
        refine zw_getI F Z zC10 (a := 68) (k := 8) (by decide) zs_68 (by decide) rfl zq410 (Or.inl rfl) dX11_spread_48 ?_
        refine lv_isub hx hb dX11_spread_51 ?_
        refine lv_goto (tgt := 62) hx hb dX11_spread_52 (by decide) ?_
        obtain ⟨hq1, hq2⟩ := zpq h
        exact ze_i F Z hr hlocks hq1 hq2 dX11_spread_62
    · exact hj16 σ _ _ _ Z (lv_sub hl [] rfl) h
set_option maxHeartbeats 4000000 in
set_option maxRecDepth 100000 in
theorem zcX11_served (l : Launch) (D : va_G) (A0 : Nat) (x1 : Int32) (x2 : Int32) (x3 : Int32) (σ : Mm) (r0 : Int32) (σr : Mm) (h : zfX11_served x1 x2 x3 σ = some (r0, σr)) : Met l yX11_served (zws yX11_served cX11_served 4 (some .int)) (zR 7 179) (zPc D A0 σ GF 740 [.ref (A0 + 0), .int x1, .int x2, .int x3]) (zQi D A0 r0 σr GF 740) 0 0 (zA A0) := by
  unfold zfX11_served at h
  refine zmet (own := RX11) (by decide) rfl (Nat.le_of_ble_eq_true rfl) ?_
  intro p e s m below meth c F hr hlocks _ Z ls hl
  have hl : lv_has ls 4 [(0, .ref (A0 + 0)), (1, .int x1), (2, .int x2), (3, .int x3)] := hl
  have hx := F.1.1
  have hb := F.1.2.1
  have hown := F.1.2.2.2.1
  have hts := F.1.2.2.2.2
  refine lv_aload_n hx hb dX11_served_0 rfl (lv_at hl 0 rfl) ?_
  refine lv_iload_n hx hb dX11_served_1 rfl (lv_at hl 1 rfl) ?_
  refine zc_i Z (zr_V F Z (a := 0) (As := [.int x1]) (zcX11_isSort l D A0 x1 σ (zfX11_isSort x1 σ) rfl) zBX11_isSort zq814 (by decide) zs_0 zC11.1 rfl ⟨⟨rfl, rfl⟩, Nat.le_of_ble_eq_true rfl, Nat.le_of_ble_eq_true rfl⟩ hl.1 rfl (Nat.le_of_ble_eq_true rfl) dX11_served_2 ⟨Nat.le_of_ble_eq_true rfl, Nat.le_of_ble_eq_true rfl⟩) (fun _ _ Z => ?_)
  obtain ⟨j24, ej24, h⟩ := lt_x h
  have hj24 : ∀ (σ24 : Mm) (H : Heap) (locs : List Loc) (ls : Array Slot), zh D A0 σ24 GF 740 s.heap H locs → lv_has ls 4 [] → j24 σ24 = some (r0, σr) → W p l e (zR 7 179) s m [.ref (A0 + 0), .int x1, .int x2, .int x3].toArray below meth c H locs 0 0 (MQ below (zQi D A0 r0 σr GF 740) [.ref (A0 + 0), .int x1, .int x2, .int x3].toArray s 0 0 (zA A0)) (F0 m 24 ls []) := by
    intro  σ24 H locs ls Z hl h
    rw [ej24] at h
    try dsimp only at h
    refine lv_iconst (v := (-1)) hx hb dX11_served_24 (by decide) ?_
    obtain ⟨hq1, hq2⟩ := zpq h
    exact ze_i F Z hr hlocks hq1 hq2 dX11_served_25
  refine zb_ifeq (tgt := 24) hx hb dX11_served_5 (by decide) h (fun h => ?_) (fun h => ?_)
  · exact hj24 σ _ _ _ Z (lv_sub hl [] rfl) h
  · refine lv_aload_n hx hb dX11_served_8 rfl (lv_at hl 0 rfl) ?_
    refine lv_iload_n hx hb dX11_served_9 rfl (lv_at hl 2 rfl) ?_
    refine zc_i Z (zr_V F Z (a := 0) (As := [.int x2]) (zcX11_noDays l D A0 x2 σ (zfX11_noDays x2 σ) rfl) zBX11_noDays zq854 (by decide) zs_0 zC11.1 rfl ⟨⟨rfl, rfl⟩, Nat.le_of_ble_eq_true rfl, Nat.le_of_ble_eq_true rfl⟩ hl.1 rfl (Nat.le_of_ble_eq_true rfl) dX11_served_10 ⟨Nat.le_of_ble_eq_true rfl, Nat.le_of_ble_eq_true rfl⟩) (fun _ _ Z => ?_)
    refine zb_ifne (tgt := 24) hx hb dX11_served_13 (by decide) h (fun h => ?_) (fun h => ?_)
    · exact hj24 σ _ _ _ Z (lv_sub hl [] rfl) h
    · refine lv_iload_n hx hb dX11_served_16 rfl (lv_at hl 3 rfl) ?_
      refine lv_iconst (v := 1) hx hb dX11_served_17 (by decide) ?_
      refine zc_i Z (zr_S F Z (As := [.int x3, .int 1]) (zcX11_noWhat l D A0 x3 1 σ (zfX11_noWhat x3 1) rfl) zBX11_noWhat zq971 rfl ⟨⟨rfl, rfl⟩, Nat.le_of_ble_eq_true rfl, Nat.le_of_ble_eq_true rfl⟩ hl.1 rfl (Nat.le_of_ble_eq_true rfl) dX11_served_18 ⟨Nat.le_of_ble_eq_true rfl, Nat.le_of_ble_eq_true rfl⟩) (fun _ _ Z => ?_)
      refine zb_ifeq (tgt := 26) hx hb dX11_served_21 (by decide) h (fun h => ?_) (fun h => ?_)
      · refine lv_aload_n hx hb dX11_served_26 rfl (lv_at hl 0 rfl) ?_
        refine zw_getR F Z zC11 (a := 0) (k := 10) (by decide) zs_0 (by decide) rfl zg_0_10 zq544 (Or.inl rfl) dX11_served_27 ?_
        obtain ⟨σ30, hc30, h⟩ := bd_x h
        refine zc_v Z (zr_V F Z (a := 68) (As := []) (zcX10_begin l D A0 σ σ30 hc30) zBX10_begin zq931 (by decide) zs_68 zC10.1 rfl ⟨⟨rfl, rfl⟩, Nat.le_of_ble_eq_true rfl, Nat.le_of_ble_eq_true rfl⟩ hl.1 rfl (Nat.le_of_ble_eq_true rfl) dX11_served_30 ⟨Nat.le_of_ble_eq_true rfl, Nat.le_of_ble_eq_true rfl⟩) (fun _ _ Z => ?_)
        refine lv_aload_n hx hb dX11_served_33 rfl (lv_at hl 0 rfl) ?_
        refine zw_getR F Z zC11 (a := 0) (k := 10) (by decide) zs_0 (by decide) rfl zg_0_10 zq544 (Or.inl rfl) dX11_served_34 ?_
        refine lv_iload_n hx hb dX11_served_37 rfl (lv_at hl 2 rfl) ?_
        obtain ⟨σ38, hc38, h⟩ := bd_x h
        refine zc_v Z (zr_V F Z (a := 68) (As := [.int x2]) (zcX10_pass l D A0 x2 σ30 σ38 hc38) zBX10_pass zq943 (by decide) zs_68 zC10.1 rfl ⟨⟨rfl, rfl⟩, Nat.le_of_ble_eq_true rfl, Nat.le_of_ble_eq_true rfl⟩ hl.1 rfl (Nat.le_of_ble_eq_true rfl) dX11_served_38 ⟨Nat.le_of_ble_eq_true rfl, Nat.le_of_ble_eq_true rfl⟩) (fun _ _ Z => ?_)
        refine lv_iload_n hx hb dX11_served_41 rfl (lv_at hl 3 rfl) ?_
        refine zb_ifne (tgt := 70) hx hb dX11_served_42 (by decide) h (fun h => ?_) (fun h => ?_)
        · refine lv_aload_n hx hb dX11_served_70 rfl (lv_at hl 0 rfl) ?_
          refine zw_getR F Z zC11 (a := 0) (k := 10) (by decide) zs_0 (by decide) rfl zg_0_10 zq544 (Or.inl rfl) dX11_served_71 ?_
          refine zw_getR F Z zC10 (a := 68) (k := 3) (by decide) zs_68 (by decide) rfl zg_68_3 zq401 (Or.inl rfl) dX11_served_74 ?_
          refine zw_getR F Z zC8 (a := 69) (k := 13) (by decide) zs_69 (by decide) rfl zg_69_13 zq265 (Or.inl rfl) dX11_served_77 ?_
          refine lv_iload_n hx hb dX11_served_80 rfl (lv_at hl 1 rfl) ?_
          obtain ⟨hk81, h⟩ := ck_x h
          refine zw_iald F Z (by decide) zs_78 hk81 dX11_served_81 ?_
          refine lv_aload_n hx hb dX11_served_82 rfl (lv_at hl 0 rfl) ?_
          refine zw_getR F Z zC11 (a := 0) (k := 7) (by decide) zs_0 (by decide) rfl zg_0_7 zq541 (Or.inl rfl) dX11_served_83 ?_
          refine zw_getR F Z zC8 (a := 27) (k := 13) (by decide) zs_27 (by decide) rfl zg_27_13 zq265 (Or.inl rfl) dX11_served_86 ?_
          refine lv_iload_n hx hb dX11_served_89 rfl (lv_at hl 1 rfl) ?_
          obtain ⟨hk90, h⟩ := ck_x h
          refine zw_iald F Z (by decide) zs_36 hk90 dX11_served_90 ?_
          refine lv_isub hx hb dX11_served_91 ?_
          obtain ⟨hq1, hq2⟩ := zpq h
          exact ze_i F Z hr hlocks hq1 hq2 dX11_served_92
        · refine lv_aload_n hx hb dX11_served_45 rfl (lv_at hl 0 rfl) ?_
          refine zw_getR F Z zC11 (a := 0) (k := 10) (by decide) zs_0 (by decide) rfl zg_0_10 zq544 (Or.inl rfl) dX11_served_46 ?_
          refine zw_getR F Z zC10 (a := 68) (k := 3) (by decide) zs_68 (by decide) rfl zg_68_3 zq401 (Or.inl rfl) dX11_served_49 ?_
          refine zw_getR F Z zC8 (a := 69) (k := 12) (by decide) zs_69 (by decide) rfl zg_69_12 zq262 (Or.inl rfl) dX11_served_52 ?_
          refine lv_iload_n hx hb dX11_served_55 rfl (lv_at hl 1 rfl) ?_
          obtain ⟨hk56, h⟩ := ck_x h
          refine zw_iald F Z (by decide) zs_77 hk56 dX11_served_56 ?_
          refine lv_aload_n hx hb dX11_served_57 rfl (lv_at hl 0 rfl) ?_
          refine zw_getR F Z zC11 (a := 0) (k := 7) (by decide) zs_0 (by decide) rfl zg_0_7 zq541 (Or.inl rfl) dX11_served_58 ?_
          refine zw_getR F Z zC8 (a := 27) (k := 12) (by decide) zs_27 (by decide) rfl zg_27_12 zq262 (Or.inl rfl) dX11_served_61 ?_
          refine lv_iload_n hx hb dX11_served_64 rfl (lv_at hl 1 rfl) ?_
          obtain ⟨hk65, h⟩ := ck_x h
          refine zw_iald F Z (by decide) zs_35 hk65 dX11_served_65 ?_
          refine lv_isub hx hb dX11_served_66 ?_
          refine lv_goto (tgt := 92) hx hb dX11_served_67 (by decide) ?_
          obtain ⟨hq1, hq2⟩ := zpq h
          exact ze_i F Z hr hlocks hq1 hq2 dX11_served_92
      · exact hj24 σ _ _ _ Z (lv_sub hl [] rfl) h
set_option maxHeartbeats 4000000 in
set_option maxRecDepth 100000 in
theorem zcX7_split (l : Launch) (D : va_G) (A0 : Nat) : ∀ (dd : Nat) (x1 : Int32) (x2 : Int32) (σ : Mm) (r0 : Int32) (σr : Mm) (h : zfX7_split dd x1 x2 σ = some (r0, σr)), Met l yX7_split (zws yX7_split cX7_split 5 (some .int)) (zR (10 * dd + 700) (400 * dd + 24000)) (zPc D A0 σ GF 740 [.ref (A0 + 79), .int x1, .int x2]) (zQi D A0 r0 σr GF 740) 0 0 (zA A0) := by
  intro dd
  induction dd with
  | zero => intro x1 x2 σ r0 σr h; rw [zfX7_split] at h; cases h
  | succ dd hrec =>
  intro x1 x2 σ r0 σr h
  rw [zfX7_split] at h
  refine zmet (own := RX7) (by decide) rfl (Nat.le_of_ble_eq_true rfl) ?_
  intro p e s m below meth c F hr hlocks _ Z ls hl
  have hl : lv_has ls 5 [(0, .ref (A0 + 79)), (1, .int x1), (2, .int x2)] := hl
  have hx := F.1.1
  have hb := F.1.2.1
  have hown := F.1.2.2.2.1
  have hts := F.1.2.2.2.2
  refine lv_iload_n hx hb dX7_split_0 rfl (lv_at hl 2 rfl) ?_
  obtain ⟨j32, ej32, h⟩ := lt_x h
  have hj32 : ∀ (σ32 : Mm) (H : Heap) (locs : List Loc) (ls : Array Slot), zh D A0 σ32 GF 740 s.heap H locs → lv_has ls 5 [] → j32 σ32 = some (r0, σr) → W p l e (zR (10 * (dd + 1) + 700) (400 * (dd + 1) + 24000)) s m [.ref (A0 + 79), .int x1, .int x2].toArray below meth c H locs 0 0 (MQ below (zQi D A0 r0 σr GF 740) [.ref (A0 + 79), .int x1, .int x2].toArray s 0 0 (zA A0)) (F0 m 32 ls []) := by
    intro  σ32 H locs ls Z hl h
    rw [ej32] at h
    try dsimp only at h
    refine lv_iconst (v := 0) hx hb dX7_split_32 (by decide) ?_
    obtain ⟨hq1, hq2⟩ := zpq h
    exact ze_i F Z hr hlocks hq1 hq2 dX7_split_33
  refine zb_ifeq (tgt := 32) hx hb dX7_split_1 (by decide) h (fun h => ?_) (fun h => ?_)
  · exact hj32 σ _ _ _ Z (lv_sub hl [] rfl) h
  · refine lv_iload_n hx hb dX7_split_4 rfl (lv_at hl 1 rfl) ?_
    refine zb_iflt (tgt := 32) hx hb dX7_split_5 (by decide) h (fun h => ?_) (fun h => ?_)
    · exact hj32 σ _ _ _ Z (lv_sub hl [] rfl) h
    · refine lv_iload_n hx hb dX7_split_8 rfl (lv_at hl 1 rfl) ?_
      refine lv_bipush (v := 10) hx hb dX7_split_9 (by decide) ?_
      refine zb_icgt (tgt := 32) hx hb dX7_split_11 (by decide) h (fun h => ?_) (fun h => ?_)
      · exact hj32 σ _ _ _ Z (lv_sub hl [] rfl) h
      · refine lv_iload_n hx hb dX7_split_14 rfl (lv_at hl 1 rfl) ?_
        refine lv_aload_n hx hb dX7_split_15 rfl (lv_at hl 0 rfl) ?_
        refine zw_getR F Z zC7 (a := 79) (k := 3) (by decide) zs_79 (by decide) rfl zg_79_3 zq463 (Or.inl rfl) dX7_split_16 ?_
        refine zw_alen F Z (ty := 4) (v := 61) (by decide) zs_80 rfl rfl dX7_split_19 ?_
        refine zb_icge (tgt := 32) hx hb dX7_split_20 (by decide) h (fun h => ?_) (fun h => ?_)
        · exact hj32 σ _ _ _ Z (lv_sub hl [] rfl) h
        · refine lv_aload_n hx hb dX7_split_23 rfl (lv_at hl 0 rfl) ?_
          refine zw_getR F Z zC7 (a := 79) (k := 3) (by decide) zs_79 (by decide) rfl zg_79_3 zq463 (Or.inl rfl) dX7_split_24 ?_
          refine lv_iload_n hx hb dX7_split_27 rfl (lv_at hl 1 rfl) ?_
          obtain ⟨hk28, h⟩ := ck_x h
          refine zw_aald F Z (ty := 4) (by decide) zs_80 (by decide) rfl hk28 (zg_path hk28) dX7_split_28 ?_
          refine lv_ifnonnull (tgt := 34) hx hb dX7_split_29 (by decide) ?_
          refine lv_iload_n hx hb dX7_split_34 rfl (lv_at hl 1 rfl) ?_
          refine lv_aload_n hx hb dX7_split_35 rfl (lv_at hl 0 rfl) ?_
          refine zw_getI F Z zC7 (a := 79) (k := 7) (by decide) zs_79 (by decide) rfl zq469 (Or.inl rfl) dX7_split_36 ?_
          refine zb_icne (tgt := 64) hx hb dX7_split_39 (by decide) h (fun h => ?_) (fun h => ?_)
          · refine lv_iload_n hx hb dX7_split_64 rfl (lv_at hl 2 rfl) ?_
            refine lv_i2l hx hb dX7_split_65 rfl ?_
            refine lv_aload_n hx hb dX7_split_66 rfl (lv_at hl 0 rfl) ?_
            refine zw_getI F Z zC7 (a := 79) (k := 11) (by decide) zs_79 (by decide) rfl zq475 (Or.inl rfl) dX7_split_67 ?_
            refine lv_i2l hx hb dX7_split_70 rfl ?_
            refine lv_lmul hx hb dX7_split_71 ?_
            refine lv_ldc2 (v := 100) hx hb hown (hts _ zq1147) dX7_split_72 ?_
            refine lv_ldiv hx hb dX7_split_75 (by decide) ?_
            refine lv_l2i hx hb dX7_split_76 rfl ?_
            refine lv_topi (fun x3_77 ex3_77 => ?_)
            replace h := lt_w h ex3_77
            refine lv_istore_n (lv' := [(3, .int x3_77), (0, .ref (A0 + 79)), (1, .int x1), (2, .int x2)]) hx hb dX7_split_77 rfl hl (by decide) rfl (fun ls hl => ?_)
            refine lv_iconst (v := 0) hx hb dX7_split_78 (by decide) ?_
            refine lv_istore (lv' := [(4, .int 0), (3, .int x3_77), (0, .ref (A0 + 79)), (1, .int x1), (2, .int x2)]) hx hb dX7_split_79 hl (by decide) rfl (fun ls hl => ?_)
            refine lv_iload_n hx hb dX7_split_81 rfl (lv_at hl 1 rfl) ?_
            obtain ⟨j102, ej102, h⟩ := lt_x h
            have hj102 : ∀ (x4_102 : Int32) (σ102 : Mm) (H : Heap) (locs : List Loc) (ls : Array Slot), zh D A0 σ102 GF 740 s.heap H locs → lv_has ls 5 [(0, .ref (A0 + 79)), (1, .int x1), (2, .int x2), (3, .int x3_77), (4, .int x4_102)] → j102 x4_102 σ102 = some (r0, σr) → W p l e (zR (10 * (dd + 1) + 700) (400 * (dd + 1) + 24000)) s m [.ref (A0 + 79), .int x1, .int x2].toArray below meth c H locs 0 0 (MQ below (zQi D A0 r0 σr GF 740) [.ref (A0 + 79), .int x1, .int x2].toArray s 0 0 (zA A0)) (F0 m 102 ls []) := by
              intro x4_102 σ102 H locs ls Z hl h
              rw [ej102] at h
              try dsimp only at h
              refine lv_iload_n hx hb dX7_split_102 rfl (lv_at hl 3 rfl) ?_
              refine lv_iload_n hx hb dX7_split_103 rfl (lv_at hl 2 rfl) ?_
              obtain ⟨j129, ej129, h⟩ := lt_x h
              have hj129 : ∀ (x4_129 : Int32) (σ129 : Mm) (H : Heap) (locs : List Loc) (ls : Array Slot), zh D A0 σ129 GF 740 s.heap H locs → lv_has ls 5 [(4, .int x4_129)] → j129 x4_129 σ129 = some (r0, σr) → W p l e (zR (10 * (dd + 1) + 700) (400 * (dd + 1) + 24000)) s m [.ref (A0 + 79), .int x1, .int x2].toArray below meth c H locs 0 0 (MQ below (zQi D A0 r0 σr GF 740) [.ref (A0 + 79), .int x1, .int x2].toArray s 0 0 (zA A0)) (F0 m 129 ls []) := by
                intro x4_129 σ129 H locs ls Z hl h
                rw [ej129] at h
                try dsimp only at h
                refine lv_iload hx hb dX7_split_129 (lv_at hl 0 rfl) ?_
                obtain ⟨hq1, hq2⟩ := zpq h
                exact ze_i F Z hr hlocks hq1 hq2 dX7_split_131
              refine zb_icge (tgt := 129) hx hb dX7_split_104 (by decide) h (fun h => ?_) (fun h => ?_)
              · exact hj129 x4_102 σ102 _ _ _ Z (lv_sub hl [4] rfl) h
              · refine lv_aload_n hx hb dX7_split_107 rfl (lv_at hl 0 rfl) ?_
                refine lv_iload_n hx hb dX7_split_108 rfl (lv_at hl 1 rfl) ?_
                refine lv_iconst (v := 0) hx hb dX7_split_109 (by decide) ?_
                obtain ⟨r110, σ110, hc110, h⟩ := bd2_x h
                obtain ⟨hs110, h⟩ := ck_x h
                refine zc_r Z (zr_V F Z (a := 79) (As := [.int x1, .int 0]) (zcX7_next l D A0 x1 0 σ102 r110 σ110 hc110) zBX7_next zq988 (by decide) zs_79 zC7.1 rfl ⟨⟨rfl, rfl⟩, by dsimp only [zR, RD]; omega, by dsimp only [zR, RD]; omega⟩ hl.1 rfl (Nat.le_of_ble_eq_true rfl) dX7_split_110 ⟨Nat.le_of_ble_eq_true rfl, Nat.le_of_ble_eq_true rfl⟩) (fun _ _ Z => ?_)
                refine lv_pop hx hb dX7_split_113 rfl ?_
                refine lv_iload hx hb dX7_split_114 (lv_at hl 4 rfl) ?_
                refine lv_aload_n hx hb dX7_split_116 rfl (lv_at hl 0 rfl) ?_
                refine lv_iload_n hx hb dX7_split_117 rfl (lv_at hl 1 rfl) ?_
                refine lv_iconst (v := 1) hx hb dX7_split_118 (by decide) ?_
                refine lv_iadd hx hb dX7_split_119 ?_
                refine lv_iload_n hx hb dX7_split_120 rfl (lv_at hl 2 rfl) ?_
                refine lv_iload_n hx hb dX7_split_121 rfl (lv_at hl 3 rfl) ?_
                refine lv_isub hx hb dX7_split_122 ?_
                obtain ⟨r123, σ123, hc123, h⟩ := bd2_x h
                refine zc_i Z (zr_V F Z (a := 79) (As := [.int (x1 + 1), .int (x2 - x3_77)]) (hrec (x1 + 1) (x2 - x3_77) σ110 r123 σ123 hc123) zBX7_split zq1143 (by decide) zs_79 zC7.1 rfl ⟨⟨rfl, rfl⟩, by dsimp only [zR, RD]; omega, by dsimp only [zR, RD]; omega⟩ hl.1 rfl (Nat.le_of_ble_eq_true rfl) dX7_split_123 ⟨Nat.le_of_ble_eq_true rfl, Nat.le_of_ble_eq_true rfl⟩) (fun _ _ Z => ?_)
                refine lv_iadd hx hb dX7_split_126 ?_
                refine lv_topi (fun x4_127 ex4_127 => ?_)
                replace h := lt_w h ex4_127
                refine lv_istore (lv' := [(4, .int x4_127), (0, .ref (A0 + 79)), (1, .int x1), (2, .int x2), (3, .int x3_77)]) hx hb dX7_split_127 hl (by decide) rfl (fun ls hl => ?_)
                exact hj129 x4_127 σ123 _ _ _ Z (lv_sub hl [0] rfl) h
            refine zb_ifle (tgt := 102) hx hb dX7_split_82 (by decide) h (fun h => ?_) (fun h => ?_)
            · exact hj102 0 σ _ _ _ Z (lv_sub hl [2, 3, 4, 1, 0] rfl) h
            · refine lv_aload_n hx hb dX7_split_85 rfl (lv_at hl 2 rfl) ?_
              refine lv_iload_n hx hb dX7_split_86 rfl (lv_at hl 3 rfl) ?_
              refine lv_iconst (v := 1) hx hb dX7_split_87 (by decide) ?_
              obtain ⟨r88, σ88, hc88, h⟩ := bd2_x h
              obtain ⟨hs88, h⟩ := ck_x h
              refine zc_r Z (zr_V F Z (a := 79) (As := [.int x1, .int 1]) (zcX7_next l D A0 x1 1 σ r88 σ88 hc88) zBX7_next zq988 (by decide) zs_79 zC7.1 rfl ⟨⟨rfl, rfl⟩, by dsimp only [zR, RD]; omega, by dsimp only [zR, RD]; omega⟩ hl.1 rfl (Nat.le_of_ble_eq_true rfl) dX7_split_88 ⟨Nat.le_of_ble_eq_true rfl, Nat.le_of_ble_eq_true rfl⟩) (fun _ _ Z => ?_)
              refine lv_pop hx hb dX7_split_91 rfl ?_
              refine lv_aload_n hx hb dX7_split_92 rfl (lv_at hl 2 rfl) ?_
              refine lv_iload_n hx hb dX7_split_93 rfl (lv_at hl 3 rfl) ?_
              refine lv_iconst (v := 1) hx hb dX7_split_94 (by decide) ?_
              refine lv_iadd hx hb dX7_split_95 ?_
              refine lv_iload_n hx hb dX7_split_96 rfl (lv_at hl 1 rfl) ?_
              obtain ⟨r97, σ97, hc97, h⟩ := bd2_x h
              refine zc_i Z (zr_V F Z (a := 79) (As := [.int (x1 + 1), .int x3_77]) (hrec (x1 + 1) x3_77 σ88 r97 σ97 hc97) zBX7_split zq1143 (by decide) zs_79 zC7.1 rfl ⟨⟨rfl, rfl⟩, by dsimp only [zR, RD]; omega, by dsimp only [zR, RD]; omega⟩ hl.1 rfl (Nat.le_of_ble_eq_true rfl) dX7_split_97 ⟨Nat.le_of_ble_eq_true rfl, Nat.le_of_ble_eq_true rfl⟩) (fun _ _ Z => ?_)
              refine lv_istore (lv' := [(4, .int r97), (3, .int x3_77), (0, .ref (A0 + 79)), (1, .int x1), (2, .int x2)]) hx hb dX7_split_100 hl (by decide) rfl (fun ls hl => ?_)
              exact hj102 r97 σ97 _ _ _ Z (lv_sub hl [2, 3, 4, 1, 0] rfl) h
          · refine lv_aload_n hx hb dX7_split_42 rfl (lv_at hl 0 rfl) ?_
            refine zw_getR F Z zC7 (a := 79) (k := 3) (by decide) zs_79 (by decide) rfl zg_79_3 zq463 (Or.inl rfl) dX7_split_43 ?_
            refine lv_iload_n hx hb dX7_split_46 rfl (lv_at hl 1 rfl) ?_
            obtain ⟨hk47, h⟩ := ck_x h
            refine zw_aald F Z (ty := 4) (by decide) zs_80 (by decide) rfl hk47 (zg_path hk47) dX7_split_47 ?_
            refine zw_getI F Z zC8 (a := (85 + 10 * ix x1)) (k := 0) (zltS_0 (zIsS_path hk47)) (zsS_0 (zIsS_path hk47)) (by decide) rfl zq221 (Or.inl rfl) dX7_split_48 ?_
            refine lv_aload_n hx hb dX7_split_51 rfl (lv_at hl 0 rfl) ?_
            refine zw_getI F Z zC7 (a := 79) (k := 10) (by decide) zs_79 (by decide) rfl zq474 (Or.inl rfl) dX7_split_52 ?_
            refine zb_iclt (tgt := 62) hx hb dX7_split_55 (by decide) h (fun h => ?_) (fun h => ?_)
            · refine lv_iconst (v := 0) hx hb dX7_split_62 (by decide) ?_
              obtain ⟨hq1, hq2⟩ := zpq h
              exact ze_i F Z hr hlocks hq1 hq2 dX7_split_63
            · refine lv_iload_n hx hb dX7_split_58 rfl (lv_at hl 2 rfl) ?_
              refine lv_goto (tgt := 63) hx hb dX7_split_59 (by decide) ?_
              obtain ⟨hq1, hq2⟩ := zpq h
              exact ze_i F Z hr hlocks hq1 hq2 dX7_split_63
set_option maxHeartbeats 4000000 in
set_option maxRecDepth 100000 in
theorem zcX7_partsFrom (l : Launch) (D : va_G) (A0 : Nat) (x1 : Int32) (x2 : Int32) (x3 : Int32) (σ : Mm) (r0 : Int32) (σr : Mm) (h : zfX7_partsFrom x1 x2 x3 σ = some (r0, σr)) : Met l yX7_partsFrom (zws yX7_partsFrom cX7_partsFrom 4 (some .int)) (zR 841 29624) (zPc D A0 σ GF 740 [.ref (A0 + 79), .int x1, .int x2, .int x3]) (zQi D A0 r0 σr GF 740) 0 0 (zA A0) := by
  unfold zfX7_partsFrom at h
  refine zmet (own := RX7) (by decide) rfl (Nat.le_of_ble_eq_true rfl) ?_
  intro p e s m below meth c F hr hlocks _ Z ls hl
  have hl : lv_has ls 4 [(0, .ref (A0 + 79)), (1, .int x1), (2, .int x2), (3, .int x3)] := hl
  have hx := F.1.1
  have hb := F.1.2.1
  have hown := F.1.2.2.2.1
  have hts := F.1.2.2.2.2
  refine lv_aload_n hx hb dX7_partsFrom_0 rfl (lv_at hl 0 rfl) ?_
  obtain ⟨r1, σ1, hc1, h⟩ := bd2_x h
  obtain ⟨hs1, h⟩ := ck_x h
  refine zc_r Z (zr_V F Z (a := 79) (As := []) (zcX7_begin l D A0 σ r1 σ1 hc1) zBX7_begin zq982 (by decide) zs_79 zC7.1 rfl ⟨⟨rfl, rfl⟩, Nat.le_of_ble_eq_true rfl, Nat.le_of_ble_eq_true rfl⟩ hl.1 rfl (Nat.le_of_ble_eq_true rfl) dX7_partsFrom_1 ⟨Nat.le_of_ble_eq_true rfl, Nat.le_of_ble_eq_true rfl⟩) (fun _ _ Z => ?_)
  refine lv_pop hx hb dX7_partsFrom_4 rfl ?_
  refine lv_aload_n hx hb dX7_partsFrom_5 rfl (lv_at hl 0 rfl) ?_
  refine lv_iload_n hx hb dX7_partsFrom_6 rfl (lv_at hl 1 rfl) ?_
  refine zw_putI F Z zC7 (a := 79) (k := 7) (by decide) zs_79 (by decide) rfl (by decide) zq469 (Or.inl rfl) rfl ⟨rfl, rfl⟩ dX7_partsFrom_7 (fun σ7 _ _ eσ7 Z => ?_)
  replace h := lt_w h eσ7
  refine lv_aload_n hx hb dX7_partsFrom_10 rfl (lv_at hl 0 rfl) ?_
  refine lv_iload_n hx hb dX7_partsFrom_11 rfl (lv_at hl 2 rfl) ?_
  refine zw_putI F Z zC7 (a := 79) (k := 10) (by decide) zs_79 (by decide) rfl (by decide) zq474 (Or.inl rfl) rfl ⟨rfl, rfl⟩ dX7_partsFrom_12 (fun σ12 _ _ eσ12 Z => ?_)
  replace h := lt_w h eσ12
  refine lv_aload_n hx hb dX7_partsFrom_15 rfl (lv_at hl 0 rfl) ?_
  refine lv_iload_n hx hb dX7_partsFrom_16 rfl (lv_at hl 3 rfl) ?_
  refine zw_putI F Z zC7 (a := 79) (k := 11) (by decide) zs_79 (by decide) rfl (by decide) zq475 (Or.inl rfl) rfl ⟨rfl, rfl⟩ dX7_partsFrom_17 (fun σ17 _ _ eσ17 Z => ?_)
  replace h := lt_w h eσ17
  refine lv_aload_n hx hb dX7_partsFrom_20 rfl (lv_at hl 0 rfl) ?_
  refine lv_iconst (v := 0) hx hb dX7_partsFrom_21 (by decide) ?_
  refine lv_ldc (v := 1000000000) hx hb hown (hts _ zq1142) dX7_partsFrom_22 ?_
  obtain ⟨r24, σ24, hc24, h⟩ := bd2_x h
  refine zc_i Z (zr_V F Z (a := 79) (As := [.int 0, .int 1000000000]) (zcX7_split l D A0 RD 0 1000000000 σ17 r24 σ24 hc24) zBX7_split zq1143 (by decide) zs_79 zC7.1 rfl ⟨⟨rfl, rfl⟩, Nat.le_of_ble_eq_true rfl, Nat.le_of_ble_eq_true rfl⟩ hl.1 rfl (Nat.le_of_ble_eq_true rfl) dX7_partsFrom_24 ⟨Nat.le_of_ble_eq_true rfl, Nat.le_of_ble_eq_true rfl⟩) (fun _ _ Z => ?_)
  obtain ⟨hq1, hq2⟩ := zpq h
  exact ze_i F Z hr hlocks hq1 hq2 dX7_partsFrom_27
set_option maxHeartbeats 4000000 in
set_option maxRecDepth 100000 in
theorem zcX11_odds (l : Launch) (D : va_G) (A0 : Nat) (x1 : Int32) (x2 : Int32) (σ : Mm) (r0 : Int32) (σr : Mm) (h : zfX11_odds x1 x2 σ = some (r0, σr)) : Met l yX11_odds (zws yX11_odds cX11_odds 3 (some .int)) (zR 842 29647) (zPc D A0 σ GF 740 [.ref (A0 + 0), .int x1, .int x2]) (zQi D A0 r0 σr GF 740) 0 0 (zA A0) := by
  unfold zfX11_odds at h
  refine zmet (own := RX11) (by decide) rfl (Nat.le_of_ble_eq_true rfl) ?_
  intro p e s m below meth c F hr hlocks _ Z ls hl
  have hl : lv_has ls 3 [(0, .ref (A0 + 0)), (1, .int x1), (2, .int x2)] := hl
  have hx := F.1.1
  have hb := F.1.2.1
  have hown := F.1.2.2.2.1
  have hts := F.1.2.2.2.2
  refine lv_aload_n hx hb dX11_odds_0 rfl (lv_at hl 0 rfl) ?_
  refine zc_i Z (zr_V F Z (a := 0) (As := []) (zcX11_noMarket l D A0 σ (zfX11_noMarket σ) rfl) zBX11_noMarket zq858 (by decide) zs_0 zC11.1 rfl ⟨⟨rfl, rfl⟩, Nat.le_of_ble_eq_true rfl, Nat.le_of_ble_eq_true rfl⟩ hl.1 rfl (Nat.le_of_ble_eq_true rfl) dX11_odds_1 ⟨Nat.le_of_ble_eq_true rfl, Nat.le_of_ble_eq_true rfl⟩) (fun _ _ Z => ?_)
  obtain ⟨j25, ej25, h⟩ := lt_x h
  have hj25 : ∀ (σ25 : Mm) (H : Heap) (locs : List Loc) (ls : Array Slot), zh D A0 σ25 GF 740 s.heap H locs → lv_has ls 3 [] → j25 σ25 = some (r0, σr) → W p l e (zR 842 29647) s m [.ref (A0 + 0), .int x1, .int x2].toArray below meth c H locs 0 0 (MQ below (zQi D A0 r0 σr GF 740) [.ref (A0 + 0), .int x1, .int x2].toArray s 0 0 (zA A0)) (F0 m 25 ls []) := by
    intro  σ25 H locs ls Z hl h
    rw [ej25] at h
    try dsimp only at h
    refine lv_iconst (v := (-1)) hx hb dX11_odds_25 (by decide) ?_
    obtain ⟨hq1, hq2⟩ := zpq h
    exact ze_i F Z hr hlocks hq1 hq2 dX11_odds_26
  refine zb_ifne (tgt := 25) hx hb dX11_odds_4 (by decide) h (fun h => ?_) (fun h => ?_)
  · exact hj25 σ _ _ _ Z (lv_sub hl [] rfl) h
  · refine lv_iload_n hx hb dX11_odds_7 rfl (lv_at hl 1 rfl) ?_
    refine lv_iconst (v := 1) hx hb dX11_odds_8 (by decide) ?_
    refine zb_iclt (tgt := 25) hx hb dX11_odds_9 (by decide) h (fun h => ?_) (fun h => ?_)
    · exact hj25 σ _ _ _ Z (lv_sub hl [] rfl) h
    · refine lv_iload_n hx hb dX11_odds_12 rfl (lv_at hl 1 rfl) ?_
      refine lv_bipush (v := 10) hx hb dX11_odds_13 (by decide) ?_
      refine zb_icgt (tgt := 25) hx hb dX11_odds_15 (by decide) h (fun h => ?_) (fun h => ?_)
      · exact hj25 σ _ _ _ Z (lv_sub hl [] rfl) h
      · refine lv_iload_n hx hb dX11_odds_18 rfl (lv_at hl 2 rfl) ?_
        refine zc_i Z (zr_S F Z (As := [.int x2]) (zcX11_noPrice l D A0 x2 σ (zfX11_noPrice x2) rfl) zBX11_noPrice zq1059 rfl ⟨⟨rfl, rfl⟩, Nat.le_of_ble_eq_true rfl, Nat.le_of_ble_eq_true rfl⟩ hl.1 rfl (Nat.le_of_ble_eq_true rfl) dX11_odds_19 ⟨Nat.le_of_ble_eq_true rfl, Nat.le_of_ble_eq_true rfl⟩) (fun _ _ Z => ?_)
        refine zb_ifeq (tgt := 27) hx hb dX11_odds_22 (by decide) h (fun h => ?_) (fun h => ?_)
        · refine lv_aload_n hx hb dX11_odds_27 rfl (lv_at hl 0 rfl) ?_
          refine zw_getR F Z zC11 (a := 0) (k := 11) (by decide) zs_0 (by decide) rfl zg_0_11 zq545 (Or.inl rfl) dX11_odds_28 ?_
          refine lv_iload_n hx hb dX11_odds_31 rfl (lv_at hl 1 rfl) ?_
          refine lv_iload_n hx hb dX11_odds_32 rfl (lv_at hl 2 rfl) ?_
          refine lv_aload_n hx hb dX11_odds_33 rfl (lv_at hl 0 rfl) ?_
          refine zw_getI F Z zC11 (a := 0) (k := 15) (by decide) zs_0 (by decide) rfl zq549 (Or.inl rfl) dX11_odds_34 ?_
          obtain ⟨r37, σ37, hc37, h⟩ := bd2_x h
          refine zc_i Z (zr_V F Z (a := 79) (As := [.int x1, .int x2, .int (σ 0 15)]) (zcX7_partsFrom l D A0 x1 x2 (σ 0 15) σ r37 σ37 hc37) zBX7_partsFrom zq1138 (by decide) zs_79 zC7.1 rfl ⟨⟨rfl, rfl⟩, Nat.le_of_ble_eq_true rfl, Nat.le_of_ble_eq_true rfl⟩ hl.1 rfl (Nat.le_of_ble_eq_true rfl) dX11_odds_37 ⟨Nat.le_of_ble_eq_true rfl, Nat.le_of_ble_eq_true rfl⟩) (fun _ _ Z => ?_)
          obtain ⟨hq1, hq2⟩ := zpq h
          exact ze_i F Z hr hlocks hq1 hq2 dX11_odds_40
        · exact hj25 σ _ _ _ Z (lv_sub hl [] rfl) h
set_option maxHeartbeats 4000000 in
set_option maxRecDepth 100000 in
theorem zcX11_lone (l : Launch) (D : va_G) (A0 : Nat) (x1 : Int32) (x2 : Int32) (σ : Mm) (r0 : Int32) (σr : Mm) (h : zfX11_lone x1 x2 σ = some (r0, σr)) : Met l yX11_lone (zws yX11_lone cX11_lone 7 (some .int)) (zR 7 179) (zPc D A0 σ GF 740 [.ref (A0 + 0), .int x1, .int x2]) (zQi D A0 r0 σr GF 740) 0 0 (zA A0) := by
  unfold zfX11_lone at h
  refine zmet (own := RX11) (by decide) rfl (Nat.le_of_ble_eq_true rfl) ?_
  intro p e s m below meth c F hr hlocks _ Z ls hl
  have hl : lv_has ls 7 [(0, .ref (A0 + 0)), (1, .int x1), (2, .int x2)] := hl
  have hx := F.1.1
  have hb := F.1.2.1
  have hown := F.1.2.2.2.1
  have hts := F.1.2.2.2.2
  refine lv_aload_n hx hb dX11_lone_0 rfl (lv_at hl 0 rfl) ?_
  refine lv_iload_n hx hb dX11_lone_1 rfl (lv_at hl 1 rfl) ?_
  refine zc_i Z (zr_V F Z (a := 0) (As := [.int x1]) (zcX11_isSeller l D A0 x1 σ (zfX11_isSeller x1 σ) rfl) zBX11_isSeller zq826 (by decide) zs_0 zC11.1 rfl ⟨⟨rfl, rfl⟩, Nat.le_of_ble_eq_true rfl, Nat.le_of_ble_eq_true rfl⟩ hl.1 rfl (Nat.le_of_ble_eq_true rfl) dX11_lone_2 ⟨Nat.le_of_ble_eq_true rfl, Nat.le_of_ble_eq_true rfl⟩) (fun _ _ Z => ?_)
  obtain ⟨j16, ej16, h⟩ := lt_x h
  have hj16 : ∀ (σ16 : Mm) (H : Heap) (locs : List Loc) (ls : Array Slot), zh D A0 σ16 GF 740 s.heap H locs → lv_has ls 7 [] → j16 σ16 = some (r0, σr) → W p l e (zR 7 179) s m [.ref (A0 + 0), .int x1, .int x2].toArray below meth c H locs 0 0 (MQ below (zQi D A0 r0 σr GF 740) [.ref (A0 + 0), .int x1, .int x2].toArray s 0 0 (zA A0)) (F0 m 16 ls []) := by
    intro  σ16 H locs ls Z hl h
    rw [ej16] at h
    try dsimp only at h
    refine lv_iconst (v := (-1)) hx hb dX11_lone_16 (by decide) ?_
    obtain ⟨hq1, hq2⟩ := zpq h
    exact ze_i F Z hr hlocks hq1 hq2 dX11_lone_17
  refine zb_ifeq (tgt := 16) hx hb dX11_lone_5 (by decide) h (fun h => ?_) (fun h => ?_)
  · exact hj16 σ _ _ _ Z (lv_sub hl [] rfl) h
  · refine lv_iload_n hx hb dX11_lone_8 rfl (lv_at hl 2 rfl) ?_
    refine lv_iconst (v := 1) hx hb dX11_lone_9 (by decide) ?_
    refine zc_i Z (zr_S F Z (As := [.int x2, .int 1]) (zcX11_noWhat l D A0 x2 1 σ (zfX11_noWhat x2 1) rfl) zBX11_noWhat zq971 rfl ⟨⟨rfl, rfl⟩, Nat.le_of_ble_eq_true rfl, Nat.le_of_ble_eq_true rfl⟩ hl.1 rfl (Nat.le_of_ble_eq_true rfl) dX11_lone_10 ⟨Nat.le_of_ble_eq_true rfl, Nat.le_of_ble_eq_true rfl⟩) (fun _ _ Z => ?_)
    refine zb_ifeq (tgt := 18) hx hb dX11_lone_13 (by decide) h (fun h => ?_) (fun h => ?_)
    · refine lv_iconst (v := (-1)) hx hb dX11_lone_18 (by decide) ?_
      refine lv_istore_n (lv' := [(3, .int (-1)), (0, .ref (A0 + 0)), (1, .int x1), (2, .int x2)]) hx hb dX11_lone_19 rfl hl (by decide) rfl (fun ls hl => ?_)
      refine lv_iconst (v := (-1)) hx hb dX11_lone_20 (by decide) ?_
      refine lv_istore (lv' := [(4, .int (-1)), (3, .int (-1)), (0, .ref (A0 + 0)), (1, .int x1), (2, .int x2)]) hx hb dX11_lone_21 hl (by decide) rfl (fun ls hl => ?_)
      refine lv_iconst (v := 0) hx hb dX11_lone_23 (by decide) ?_
      refine lv_istore (lv' := [(5, .int 0), (4, .int (-1)), (3, .int (-1)), (0, .ref (A0 + 0)), (1, .int x1), (2, .int x2)]) hx hb dX11_lone_24 hl (by decide) rfl (fun ls hl => ?_)
      obtain ⟨k134, ek134, h⟩ := lt_x h
      have hk134 : ∀ (x3_134 : Int32) (x4_134 : Int32) (σ134 : Mm) (H : Heap) (locs : List Loc) (ls : Array Slot), zh D A0 σ134 GF 740 s.heap H locs → lv_has ls 7 [(2, .int x2), (3, .int x3_134), (4, .int x4_134)] → k134 x3_134 x4_134 σ134 = some (r0, σr) → W p l e (zR 7 179) s m [.ref (A0 + 0), .int x1, .int x2].toArray below meth c H locs 0 0 (MQ below (zQi D A0 r0 σr GF 740) [.ref (A0 + 0), .int x1, .int x2].toArray s 0 0 (zA A0)) (F0 m 134 ls []) := by
        intro x3_134 x4_134 σ134 H locs ls Z hl h
        rw [ek134] at h
        try dsimp only at h
        refine lv_iload_n hx hb dX11_lone_134 rfl (lv_at hl 0 rfl) ?_
        refine zb_ifne (tgt := 142) hx hb dX11_lone_135 (by decide) h (fun h => ?_) (fun h => ?_)
        · refine lv_iload hx hb dX11_lone_142 (lv_at hl 2 rfl) ?_
          obtain ⟨hq1, hq2⟩ := zpq h
          exact ze_i F Z hr hlocks hq1 hq2 dX11_lone_144
        · refine lv_iload_n hx hb dX11_lone_138 rfl (lv_at hl 1 rfl) ?_
          refine lv_goto (tgt := 144) hx hb dX11_lone_139 (by decide) ?_
          obtain ⟨hq1, hq2⟩ := zpq h
          exact ze_i F Z hr hlocks hq1 hq2 dX11_lone_144
      have hL26 : ∀ (fu26 : Nat) (x3_26 : Int32) (x4_26 : Int32) (x5_26 : Int32) (σ26 : Mm) (H : Heap) (locs : List Loc) (ls : Array Slot), zh D A0 σ26 GF 740 s.heap H locs → lv_has ls 7 [(0, .ref (A0 + 0)), (1, .int x1), (2, .int x2), (3, .int x3_26), (4, .int x4_26), (5, .int x5_26)] → zfX11_lone_L26 k134 x1 fu26 x3_26 x4_26 x5_26 σ26 = some (r0, σr) → W p l e (zR 7 179) s m [.ref (A0 + 0), .int x1, .int x2].toArray below meth c H locs 0 0 (MQ below (zQi D A0 r0 σr GF 740) [.ref (A0 + 0), .int x1, .int x2].toArray s 0 0 (zA A0)) (F0 m 26 ls []) := by
        intro fu26
        induction fu26 with
        | zero => intro x3_26 x4_26 x5_26 σ26 H locs ls Z hl h; rw [zfX11_lone_L26] at h; cases h
        | succ fu26 ih26 =>
          intro x3_26 x4_26 x5_26 σ26 H locs ls Z hl h
          rw [zfX11_lone_L26] at h
          refine lv_iload hx hb dX11_lone_26 (lv_at hl 5 rfl) ?_
          refine lv_aload_n hx hb dX11_lone_28 rfl (lv_at hl 0 rfl) ?_
          refine zw_getR F Z zC11 (a := 0) (k := 7) (by decide) zs_0 (by decide) rfl zg_0_7 zq541 (Or.inl rfl) dX11_lone_29 ?_
          refine zw_getI F Z zC8 (a := 27) (k := 0) (by decide) zs_27 (by decide) rfl zq222 (Or.inl rfl) dX11_lone_32 ?_
          refine zb_icgt (tgt := 134) hx hb dX11_lone_35 (by decide) h (fun h => ?_) (fun h => ?_)
          · exact hk134 x3_26 x4_26 σ26 _ _ _ Z (lv_sub hl [2, 3, 4] rfl) h
          · refine lv_aload_n hx hb dX11_lone_38 rfl (lv_at hl 0 rfl) ?_
            refine zw_getR F Z zC11 (a := 0) (k := 10) (by decide) zs_0 (by decide) rfl zg_0_10 zq544 (Or.inl rfl) dX11_lone_39 ?_
            obtain ⟨σ42, hc42, h⟩ := bd_x h
            refine zc_v Z (zr_V F Z (a := 68) (As := []) (zcX10_begin l D A0 σ26 σ42 hc42) zBX10_begin zq931 (by decide) zs_68 zC10.1 rfl ⟨⟨rfl, rfl⟩, Nat.le_of_ble_eq_true rfl, Nat.le_of_ble_eq_true rfl⟩ hl.1 rfl (Nat.le_of_ble_eq_true rfl) dX11_lone_42 ⟨Nat.le_of_ble_eq_true rfl, Nat.le_of_ble_eq_true rfl⟩) (fun _ _ Z => ?_)
            refine lv_aload_n hx hb dX11_lone_45 rfl (lv_at hl 0 rfl) ?_
            refine zw_getR F Z zC11 (a := 0) (k := 10) (by decide) zs_0 (by decide) rfl zg_0_10 zq544 (Or.inl rfl) dX11_lone_46 ?_
            refine zw_getR F Z zC10 (a := 68) (k := 3) (by decide) zs_68 (by decide) rfl zg_68_3 zq401 (Or.inl rfl) dX11_lone_49 ?_
            refine lv_iconst (v := 1) hx hb dX11_lone_52 (by decide) ?_
            refine lv_aload_n hx hb dX11_lone_53 rfl (lv_at hl 0 rfl) ?_
            refine zw_getR F Z zC11 (a := 0) (k := 3) (by decide) zs_0 (by decide) rfl zg_0_3 zq537 (Or.inl rfl) dX11_lone_54 ?_
            refine zw_getI F Z zC0 (a := 3) (k := 0) (by decide) zs_3 (by decide) rfl zq135 (Or.inl rfl) dX11_lone_57 ?_
            refine lv_ishl hx hb dX11_lone_60 ?_
            refine lv_iconst (v := 1) hx hb dX11_lone_61 (by decide) ?_
            refine lv_isub hx hb dX11_lone_62 ?_
            refine zw_putI F Z zC8 (a := 69) (k := 3) (by decide) zs_69 (by decide) rfl (by decide) zq230 (Or.inl rfl) rfl ⟨rfl, rfl⟩ dX11_lone_63 (fun σ63 _ _ eσ63 Z => ?_)
            replace h := lt_w h eσ63
            refine lv_aload_n hx hb dX11_lone_66 rfl (lv_at hl 0 rfl) ?_
            refine zw_getR F Z zC11 (a := 0) (k := 10) (by decide) zs_0 (by decide) rfl zg_0_10 zq544 (Or.inl rfl) dX11_lone_67 ?_
            refine zw_getR F Z zC10 (a := 68) (k := 3) (by decide) zs_68 (by decide) rfl zg_68_3 zq401 (Or.inl rfl) dX11_lone_70 ?_
            refine lv_iload_n hx hb dX11_lone_73 rfl (lv_at hl 1 rfl) ?_
            refine lv_iconst (v := 0) hx hb dX11_lone_74 (by decide) ?_
            obtain ⟨σ75, hc75, h⟩ := bd_x h
            refine zc_v Z (zr_V F Z (a := 69) (As := [.int x1, .int 0]) (zcX8_setHolding l D A0 69 x1 0 (Or.inr (Or.inr (Or.inl rfl))) σ63 σ75 hc75) zBX8_setHolding zq838 (by decide) zs_69 zC8.1 rfl ⟨⟨rfl, rfl⟩, Nat.le_of_ble_eq_true rfl, Nat.le_of_ble_eq_true rfl⟩ hl.1 rfl (Nat.le_of_ble_eq_true rfl) dX11_lone_75 ⟨Nat.le_of_ble_eq_true rfl, Nat.le_of_ble_eq_true rfl⟩) (fun _ _ Z => ?_)
            refine lv_aload_n hx hb dX11_lone_78 rfl (lv_at hl 0 rfl) ?_
            refine zw_getR F Z zC11 (a := 0) (k := 9) (by decide) zs_0 (by decide) rfl zg_0_9 zq543 (Or.inl rfl) dX11_lone_79 ?_
            refine zw_getR F Z zC6 (a := 37) (k := 2) (by decide) zs_37 (by decide) rfl zg_37_2 zq306 (Or.inl rfl) dX11_lone_82 ?_
            refine lv_iload_n hx hb dX11_lone_85 rfl (lv_at hl 1 rfl) ?_
            refine lv_iload hx hb dX11_lone_86 (lv_at hl 5 rfl) ?_
            obtain ⟨hk88, h⟩ := ck_x h
            refine zw_iast F Z (by decide) zs_38 hk88 dX11_lone_88 (fun σ88 _ _ eσ88 Z => ?_)
            replace h := lt_w h eσ88
            refine lv_aload_n hx hb dX11_lone_89 rfl (lv_at hl 0 rfl) ?_
            refine zw_getR F Z zC11 (a := 0) (k := 10) (by decide) zs_0 (by decide) rfl zg_0_10 zq544 (Or.inl rfl) dX11_lone_90 ?_
            refine lv_iconst (v := 1) hx hb dX11_lone_93 (by decide) ?_
            obtain ⟨σ94, hc94, h⟩ := bd_x h
            refine zc_v Z (zr_V F Z (a := 68) (As := [.int 1]) (zcX10_pass l D A0 1 σ88 σ94 hc94) zBX10_pass zq943 (by decide) zs_68 zC10.1 rfl ⟨⟨rfl, rfl⟩, Nat.le_of_ble_eq_true rfl, Nat.le_of_ble_eq_true rfl⟩ hl.1 rfl (Nat.le_of_ble_eq_true rfl) dX11_lone_94 ⟨Nat.le_of_ble_eq_true rfl, Nat.le_of_ble_eq_true rfl⟩) (fun _ _ Z => ?_)
            refine lv_aload_n hx hb dX11_lone_97 rfl (lv_at hl 0 rfl) ?_
            refine zw_getR F Z zC11 (a := 0) (k := 10) (by decide) zs_0 (by decide) rfl zg_0_10 zq544 (Or.inl rfl) dX11_lone_98 ?_
            refine zw_getR F Z zC10 (a := 68) (k := 3) (by decide) zs_68 (by decide) rfl zg_68_3 zq401 (Or.inl rfl) dX11_lone_101 ?_
            refine zw_getR F Z zC8 (a := 69) (k := 9) (by decide) zs_69 (by decide) rfl zg_69_9 zq253 (Or.inl rfl) dX11_lone_104 ?_
            refine lv_iload_n hx hb dX11_lone_107 rfl (lv_at hl 1 rfl) ?_
            obtain ⟨hk108, h⟩ := ck_x h
            refine zw_iald F Z (by decide) zs_74 hk108 dX11_lone_108 ?_
            refine lv_iload hx hb dX11_lone_109 (lv_at hl 5 rfl) ?_
            refine lv_imul hx hb dX11_lone_111 ?_
            refine lv_topi (fun x6_112 ex6_112 => ?_)
            replace h := lt_w h ex6_112
            refine lv_istore (lv' := [(6, .int x6_112), (0, .ref (A0 + 0)), (1, .int x1), (2, .int x2), (3, .int x3_26), (4, .int x4_26), (5, .int x5_26)]) hx hb dX11_lone_112 hl (by decide) rfl (fun ls hl => ?_)
            refine lv_iload hx hb dX11_lone_114 (lv_at hl 0 rfl) ?_
            refine lv_iload hx hb dX11_lone_116 (lv_at hl 5 rfl) ?_
            obtain ⟨j128, ej128, h⟩ := lt_x h
            have hj128 : ∀ (x3_128 : Int32) (x4_128 : Int32) (σ128 : Mm) (H : Heap) (locs : List Loc) (ls : Array Slot), zh D A0 σ128 GF 740 s.heap H locs → lv_has ls 7 [(0, .ref (A0 + 0)), (1, .int x1), (2, .int x2), (3, .int x3_128), (4, .int x4_128), (5, .int x5_26)] → j128 x3_128 x4_128 σ128 = some (r0, σr) → W p l e (zR 7 179) s m [.ref (A0 + 0), .int x1, .int x2].toArray below meth c H locs 0 0 (MQ below (zQi D A0 r0 σr GF 740) [.ref (A0 + 0), .int x1, .int x2].toArray s 0 0 (zA A0)) (F0 m 128 ls []) := by
              intro x3_128 x4_128 σ128 H locs ls Z hl h
              rw [ej128] at h
              try dsimp only at h
              obtain ⟨x5_128, ex5_128⟩ : ∃ y : Int32, y = x5_26 + 1 := ⟨_, rfl⟩
              replace h := lt_w h ex5_128
              refine lv_iinc (v := x5_128) (lv' := [(5, .int x5_128), (0, .ref (A0 + 0)), (1, .int x1), (2, .int x2), (3, .int x3_128), (4, .int x4_128)]) hx hb dX11_lone_128 hl (k := 5) rfl (by rw [ex5_128]; rfl) (by decide) rfl (fun ls hl => ?_)
              refine lv_goto (tgt := 26) hx hb dX11_lone_131 (by decide) ?_
              exact ih26 x3_128 x4_128 x5_128 σ128 _ _ _ Z (lv_sub hl [1, 2, 3, 4, 5, 0] rfl) h
            refine zb_icle (tgt := 128) hx hb dX11_lone_118 (by decide) h (fun h => ?_) (fun h => ?_)
            · exact hj128 x3_26 x4_26 σ94 _ _ _ Z (lv_sub hl [1, 2, 3, 4, 5, 6] rfl) h
            · refine lv_iload hx hb dX11_lone_121 (lv_at hl 6 rfl) ?_
              refine lv_istore_n (lv' := [(3, .int x5_26), (6, .int x6_112), (0, .ref (A0 + 0)), (1, .int x1), (2, .int x2), (4, .int x4_26), (5, .int x5_26)]) hx hb dX11_lone_123 rfl hl (by decide) rfl (fun ls hl => ?_)
              refine lv_iload hx hb dX11_lone_124 (lv_at hl 1 rfl) ?_
              refine lv_istore (lv' := [(4, .int x6_112), (3, .int x5_26), (6, .int x6_112), (0, .ref (A0 + 0)), (1, .int x1), (2, .int x2), (5, .int x5_26)]) hx hb dX11_lone_126 hl (by decide) rfl (fun ls hl => ?_)
              exact hj128 x5_26 x6_112 σ94 _ _ _ Z (lv_sub hl [3, 4, 5, 1, 0, 6] rfl) h
      exact hL26 NF (-1) (-1) 0 σ _ _ _ Z (lv_sub hl [3, 4, 5, 2, 1, 0] rfl) h
    · exact hj16 σ _ _ _ Z (lv_sub hl [] rfl) h
set_option maxHeartbeats 4000000 in
set_option maxRecDepth 100000 in
theorem zcX10_fullest (l : Launch) (D : va_G) (A0 : Nat) (σ : Mm) (r0 : Int32) (h : zfX10_fullest σ = some r0) : Met l yX10_fullest (zws yX10_fullest cX10_fullest 3 (some .int)) (zR 0 0) (zPc D A0 σ GF 740 [.ref (A0 + 68)]) (zQi D A0 r0 σ GF 740) 0 0 (zA A0) := by
  unfold zfX10_fullest at h
  refine zmet (own := RX10) (by decide) rfl (Nat.le_of_ble_eq_true rfl) ?_
  intro p e s m below meth c F hr hlocks _ Z ls hl
  have hl : lv_has ls 3 [(0, .ref (A0 + 68))] := hl
  have hx := F.1.1
  have hb := F.1.2.1
  have hown := F.1.2.2.2.1
  have hts := F.1.2.2.2.2
  refine lv_iconst (v := 0) hx hb dX10_fullest_0 (by decide) ?_
  refine lv_istore_n (lv' := [(1, .int 0), (0, .ref (A0 + 68))]) hx hb dX10_fullest_1 rfl hl (by decide) rfl (fun ls hl => ?_)
  refine lv_iconst (v := 1) hx hb dX10_fullest_2 (by decide) ?_
  refine lv_istore_n (lv' := [(2, .int 1), (1, .int 0), (0, .ref (A0 + 68))]) hx hb dX10_fullest_3 rfl hl (by decide) rfl (fun ls hl => ?_)
  obtain ⟨k44, ek44, h⟩ := lt_x h
  have hk44 : ∀ (x1_44 : Int32) (H : Heap) (locs : List Loc) (ls : Array Slot), zh D A0 σ GF 740 s.heap H locs → lv_has ls 3 [(1, .int x1_44)] → k44 x1_44 = some r0 → W p l e (zR 0 0) s m [.ref (A0 + 68)].toArray below meth c H locs 0 0 (MQ below (zQi D A0 r0 σ GF 740) [.ref (A0 + 68)].toArray s 0 0 (zA A0)) (F0 m 44 ls []) := by
    intro x1_44 H locs ls Z hl h
    rw [ek44] at h
    try dsimp only at h
    refine lv_iload_n hx hb dX10_fullest_44 rfl (lv_at hl 0 rfl) ?_
    have hq := Option.some.inj h
    exact ze_i F Z hr hlocks hq rfl dX10_fullest_45
  have hL4 : ∀ (fu4 : Nat) (x1_4 : Int32) (x2_4 : Int32) (H : Heap) (locs : List Loc) (ls : Array Slot), zh D A0 σ GF 740 s.heap H locs → lv_has ls 3 [(0, .ref (A0 + 68)), (1, .int x1_4), (2, .int x2_4)] → zfX10_fullest_L4 σ k44 fu4 x1_4 x2_4 = some r0 → W p l e (zR 0 0) s m [.ref (A0 + 68)].toArray below meth c H locs 0 0 (MQ below (zQi D A0 r0 σ GF 740) [.ref (A0 + 68)].toArray s 0 0 (zA A0)) (F0 m 4 ls []) := by
    intro fu4
    induction fu4 with
    | zero => intro x1_4 x2_4 H locs ls Z hl h; rw [zfX10_fullest_L4] at h; cases h
    | succ fu4 ih4 =>
      intro x1_4 x2_4 H locs ls Z hl h
      rw [zfX10_fullest_L4] at h
      refine lv_iload_n hx hb dX10_fullest_4 rfl (lv_at hl 2 rfl) ?_
      refine lv_aload_n hx hb dX10_fullest_5 rfl (lv_at hl 0 rfl) ?_
      refine zw_getR F Z zC10 (a := 68) (k := 0) (by decide) zs_68 (by decide) rfl zg_68_0 zq397 (Or.inl rfl) dX10_fullest_6 ?_
      refine zw_getI F Z zC0 (a := 3) (k := 0) (by decide) zs_3 (by decide) rfl zq133 (Or.inl rfl) dX10_fullest_9 ?_
      refine zb_icge (tgt := 44) hx hb dX10_fullest_12 (by decide) h (fun h => ?_) (fun h => ?_)
      · exact hk44 x1_4 _ _ _ Z (lv_sub hl [1] rfl) h
      · refine lv_aload_n hx hb dX10_fullest_15 rfl (lv_at hl 0 rfl) ?_
        refine zw_getR F Z zC10 (a := 68) (k := 3) (by decide) zs_68 (by decide) rfl zg_68_3 zq400 (Or.inl rfl) dX10_fullest_16 ?_
        refine zw_getR F Z zC8 (a := 69) (k := 5) (by decide) zs_69 (by decide) rfl zg_69_5 zq235 (Or.inl rfl) dX10_fullest_19 ?_
        refine lv_iload_n hx hb dX10_fullest_22 rfl (lv_at hl 2 rfl) ?_
        obtain ⟨hk23, h⟩ := ck_x h
        refine zw_iald F Z (by decide) zs_70 hk23 dX10_fullest_23 ?_
        refine lv_aload_n hx hb dX10_fullest_24 rfl (lv_at hl 0 rfl) ?_
        refine zw_getR F Z zC10 (a := 68) (k := 3) (by decide) zs_68 (by decide) rfl zg_68_3 zq400 (Or.inl rfl) dX10_fullest_25 ?_
        refine zw_getR F Z zC8 (a := 69) (k := 5) (by decide) zs_69 (by decide) rfl zg_69_5 zq235 (Or.inl rfl) dX10_fullest_28 ?_
        refine lv_iload_n hx hb dX10_fullest_31 rfl (lv_at hl 1 rfl) ?_
        obtain ⟨hk32, h⟩ := ck_x h
        refine zw_iald F Z (by decide) zs_70 hk32 dX10_fullest_32 ?_
        obtain ⟨j38, ej38, h⟩ := lt_x h
        have hj38 : ∀ (x1_38 : Int32) (H : Heap) (locs : List Loc) (ls : Array Slot), zh D A0 σ GF 740 s.heap H locs → lv_has ls 3 [(0, .ref (A0 + 68)), (1, .int x1_38), (2, .int x2_4)] → j38 x1_38 = some r0 → W p l e (zR 0 0) s m [.ref (A0 + 68)].toArray below meth c H locs 0 0 (MQ below (zQi D A0 r0 σ GF 740) [.ref (A0 + 68)].toArray s 0 0 (zA A0)) (F0 m 38 ls []) := by
          intro x1_38 H locs ls Z hl h
          rw [ej38] at h
          try dsimp only at h
          obtain ⟨x2_38, ex2_38⟩ : ∃ y : Int32, y = x2_4 + 1 := ⟨_, rfl⟩
          replace h := lt_w h ex2_38
          refine lv_iinc (v := x2_38) (lv' := [(2, .int x2_38), (0, .ref (A0 + 68)), (1, .int x1_38)]) hx hb dX10_fullest_38 hl (k := 2) rfl (by rw [ex2_38]; rfl) (by decide) rfl (fun ls hl => ?_)
          refine lv_goto (tgt := 4) hx hb dX10_fullest_41 (by decide) ?_
          exact ih4 x1_38 x2_38 _ _ _ Z (lv_sub hl [1, 2, 0] rfl) h
        refine zb_icle (tgt := 38) hx hb dX10_fullest_33 (by decide) h (fun h => ?_) (fun h => ?_)
        · exact hj38 x1_4 _ _ _ Z (lv_sub hl [0, 1, 2] rfl) h
        · refine lv_iload_n hx hb dX10_fullest_36 rfl (lv_at hl 2 rfl) ?_
          refine lv_istore_n (lv' := [(1, .int x2_4), (0, .ref (A0 + 68)), (2, .int x2_4)]) hx hb dX10_fullest_37 rfl hl (by decide) rfl (fun ls hl => ?_)
          exact hj38 x2_4 _ _ _ Z (lv_sub hl [1, 0, 2] rfl) h
  exact hL4 NF 0 1 _ _ _ Z (lv_sub hl [2, 1, 0] rfl) h
set_option maxHeartbeats 4000000 in
set_option maxRecDepth 100000 in
theorem zcX11_glut (l : Launch) (D : va_G) (A0 : Nat) (x1 : Int32) (x2 : Int32) (σ : Mm) (r0 : Int32) (σr : Mm) (h : zfX11_glut x1 x2 σ = some (r0, σr)) : Met l yX11_glut (zws yX11_glut cX11_glut 3 (some .int)) (zR 7 179) (zPc D A0 σ GF 740 [.ref (A0 + 0), .int x1, .int x2]) (zQi D A0 r0 σr GF 740) 0 0 (zA A0) := by
  unfold zfX11_glut at h
  refine zmet (own := RX11) (by decide) rfl (Nat.le_of_ble_eq_true rfl) ?_
  intro p e s m below meth c F hr hlocks _ Z ls hl
  have hl : lv_has ls 3 [(0, .ref (A0 + 0)), (1, .int x1), (2, .int x2)] := hl
  have hx := F.1.1
  have hb := F.1.2.1
  have hown := F.1.2.2.2.1
  have hts := F.1.2.2.2.2
  refine lv_aload_n hx hb dX11_glut_0 rfl (lv_at hl 0 rfl) ?_
  refine lv_iload_n hx hb dX11_glut_1 rfl (lv_at hl 1 rfl) ?_
  refine zc_i Z (zr_V F Z (a := 0) (As := [.int x1]) (zcX11_noDays l D A0 x1 σ (zfX11_noDays x1 σ) rfl) zBX11_noDays zq854 (by decide) zs_0 zC11.1 rfl ⟨⟨rfl, rfl⟩, Nat.le_of_ble_eq_true rfl, Nat.le_of_ble_eq_true rfl⟩ hl.1 rfl (Nat.le_of_ble_eq_true rfl) dX11_glut_2 ⟨Nat.le_of_ble_eq_true rfl, Nat.le_of_ble_eq_true rfl⟩) (fun _ _ Z => ?_)
  obtain ⟨j16, ej16, h⟩ := lt_x h
  have hj16 : ∀ (σ16 : Mm) (H : Heap) (locs : List Loc) (ls : Array Slot), zh D A0 σ16 GF 740 s.heap H locs → lv_has ls 3 [] → j16 σ16 = some (r0, σr) → W p l e (zR 7 179) s m [.ref (A0 + 0), .int x1, .int x2].toArray below meth c H locs 0 0 (MQ below (zQi D A0 r0 σr GF 740) [.ref (A0 + 0), .int x1, .int x2].toArray s 0 0 (zA A0)) (F0 m 16 ls []) := by
    intro  σ16 H locs ls Z hl h
    rw [ej16] at h
    try dsimp only at h
    refine lv_iconst (v := (-1)) hx hb dX11_glut_16 (by decide) ?_
    obtain ⟨hq1, hq2⟩ := zpq h
    exact ze_i F Z hr hlocks hq1 hq2 dX11_glut_17
  refine zb_ifne (tgt := 16) hx hb dX11_glut_5 (by decide) h (fun h => ?_) (fun h => ?_)
  · exact hj16 σ _ _ _ Z (lv_sub hl [] rfl) h
  · refine lv_iload_n hx hb dX11_glut_8 rfl (lv_at hl 2 rfl) ?_
    refine lv_iconst (v := 1) hx hb dX11_glut_9 (by decide) ?_
    refine zc_i Z (zr_S F Z (As := [.int x2, .int 1]) (zcX11_noWhat l D A0 x2 1 σ (zfX11_noWhat x2 1) rfl) zBX11_noWhat zq971 rfl ⟨⟨rfl, rfl⟩, Nat.le_of_ble_eq_true rfl, Nat.le_of_ble_eq_true rfl⟩ hl.1 rfl (Nat.le_of_ble_eq_true rfl) dX11_glut_10 ⟨Nat.le_of_ble_eq_true rfl, Nat.le_of_ble_eq_true rfl⟩) (fun _ _ Z => ?_)
    refine zb_ifeq (tgt := 18) hx hb dX11_glut_13 (by decide) h (fun h => ?_) (fun h => ?_)
    · refine lv_aload_n hx hb dX11_glut_18 rfl (lv_at hl 0 rfl) ?_
      refine zw_getR F Z zC11 (a := 0) (k := 10) (by decide) zs_0 (by decide) rfl zg_0_10 zq544 (Or.inl rfl) dX11_glut_19 ?_
      obtain ⟨σ22, hc22, h⟩ := bd_x h
      refine zc_v Z (zr_V F Z (a := 68) (As := []) (zcX10_begin l D A0 σ σ22 hc22) zBX10_begin zq931 (by decide) zs_68 zC10.1 rfl ⟨⟨rfl, rfl⟩, Nat.le_of_ble_eq_true rfl, Nat.le_of_ble_eq_true rfl⟩ hl.1 rfl (Nat.le_of_ble_eq_true rfl) dX11_glut_22 ⟨Nat.le_of_ble_eq_true rfl, Nat.le_of_ble_eq_true rfl⟩) (fun _ _ Z => ?_)
      refine lv_aload_n hx hb dX11_glut_25 rfl (lv_at hl 0 rfl) ?_
      refine zw_getR F Z zC11 (a := 0) (k := 10) (by decide) zs_0 (by decide) rfl zg_0_10 zq544 (Or.inl rfl) dX11_glut_26 ?_
      refine lv_iload_n hx hb dX11_glut_29 rfl (lv_at hl 1 rfl) ?_
      obtain ⟨σ30, hc30, h⟩ := bd_x h
      refine zc_v Z (zr_V F Z (a := 68) (As := [.int x1]) (zcX10_pass l D A0 x1 σ22 σ30 hc30) zBX10_pass zq943 (by decide) zs_68 zC10.1 rfl ⟨⟨rfl, rfl⟩, Nat.le_of_ble_eq_true rfl, Nat.le_of_ble_eq_true rfl⟩ hl.1 rfl (Nat.le_of_ble_eq_true rfl) dX11_glut_30 ⟨Nat.le_of_ble_eq_true rfl, Nat.le_of_ble_eq_true rfl⟩) (fun _ _ Z => ?_)
      refine lv_iload_n hx hb dX11_glut_33 rfl (lv_at hl 2 rfl) ?_
      refine zb_ifne (tgt := 47) hx hb dX11_glut_34 (by decide) h (fun h => ?_) (fun h => ?_)
      · refine lv_aload_n hx hb dX11_glut_47 rfl (lv_at hl 0 rfl) ?_
        refine zw_getR F Z zC11 (a := 0) (k := 10) (by decide) zs_0 (by decide) rfl zg_0_10 zq544 (Or.inl rfl) dX11_glut_48 ?_
        obtain ⟨r51, hc51, h⟩ := bd_x h
        refine zc_i Z (zr_V F Z (a := 68) (As := []) (zcX10_fullest l D A0 σ30 r51 hc51) zBX10_fullest zq1156 (by decide) zs_68 zC10.1 rfl ⟨⟨rfl, rfl⟩, Nat.le_of_ble_eq_true rfl, Nat.le_of_ble_eq_true rfl⟩ hl.1 rfl (Nat.le_of_ble_eq_true rfl) dX11_glut_51 ⟨Nat.le_of_ble_eq_true rfl, Nat.le_of_ble_eq_true rfl⟩) (fun _ _ Z => ?_)
        obtain ⟨hq1, hq2⟩ := zpq h
        exact ze_i F Z hr hlocks hq1 hq2 dX11_glut_54
      · refine lv_aload_n hx hb dX11_glut_37 rfl (lv_at hl 0 rfl) ?_
        refine zw_getR F Z zC11 (a := 0) (k := 10) (by decide) zs_0 (by decide) rfl zg_0_10 zq544 (Or.inl rfl) dX11_glut_38 ?_
        refine zw_getI F Z zC10 (a := 68) (k := 10) (by decide) zs_68 (by decide) rfl zq414 (Or.inl rfl) dX11_glut_41 ?_
        refine lv_goto (tgt := 54) hx hb dX11_glut_44 (by decide) ?_
        obtain ⟨hq1, hq2⟩ := zpq h
        exact ze_i F Z hr hlocks hq1 hq2 dX11_glut_54
    · exact hj16 σ _ _ _ Z (lv_sub hl [] rfl) h
set_option maxHeartbeats 4000000 in
set_option maxRecDepth 100000 in
theorem zcX11_image (l : Launch) (D : va_G) (A0 : Nat) (σ : Mm) (r0 : Int32) (σr : Mm) (h : zfX11_image σ = some (r0, σr)) : Met l yX11_image (zws yX11_image cX11_image 1 (some .int)) (zR 2 81) (zPc D A0 σ GF 740 [.ref (A0 + 0)]) (zQi D A0 r0 σr GF 740) 0 0 (zA A0) := by
  unfold zfX11_image at h
  refine zmet (own := RX11) (by decide) rfl (Nat.le_of_ble_eq_true rfl) ?_
  intro p e s m below meth c F hr hlocks _ Z ls hl
  have hl : lv_has ls 1 [(0, .ref (A0 + 0))] := hl
  have hx := F.1.1
  have hb := F.1.2.1
  have hown := F.1.2.2.2.1
  have hts := F.1.2.2.2.2
  refine lv_aload_n hx hb dX11_image_0 rfl (lv_at hl 0 rfl) ?_
  refine zc_i Z (zr_V F Z (a := 0) (As := []) (zcX11_noMarket l D A0 σ (zfX11_noMarket σ) rfl) zBX11_noMarket zq858 (by decide) zs_0 zC11.1 rfl ⟨⟨rfl, rfl⟩, Nat.le_of_ble_eq_true rfl, Nat.le_of_ble_eq_true rfl⟩ hl.1 rfl (Nat.le_of_ble_eq_true rfl) dX11_image_1 ⟨Nat.le_of_ble_eq_true rfl, Nat.le_of_ble_eq_true rfl⟩) (fun _ _ Z => ?_)
  refine zb_ifeq (tgt := 9) hx hb dX11_image_4 (by decide) h (fun h => ?_) (fun h => ?_)
  · refine lv_aload_n hx hb dX11_image_9 rfl (lv_at hl 0 rfl) ?_
    refine zw_getR F Z zC11 (a := 0) (k := 8) (by decide) zs_0 (by decide) rfl zg_0_8 zq542 (Or.inl rfl) dX11_image_10 ?_
    refine lv_aload_n hx hb dX11_image_13 rfl (lv_at hl 0 rfl) ?_
    refine zw_getR F Z zC11 (a := 0) (k := 7) (by decide) zs_0 (by decide) rfl zg_0_7 zq541 (Or.inl rfl) dX11_image_14 ?_
    obtain ⟨σ17, hc17, h⟩ := bd_x h
    refine zc_v Z (zr_V F Z (a := 58) (As := [.ref (A0 + 27)]) (zcX8_copyFrom l D A0 58 27 (Or.inr (Or.inl rfl)) (Or.inl rfl) σ σ17 hc17) zBX8_copyFrom zq1164 (by decide) zs_58 zC8.1 rfl ⟨⟨rfl, rfl⟩, Nat.le_of_ble_eq_true rfl, Nat.le_of_ble_eq_true rfl⟩ hl.1 rfl (Nat.le_of_ble_eq_true rfl) dX11_image_17 ⟨Nat.le_of_ble_eq_true rfl, Nat.le_of_ble_eq_true rfl⟩) (fun _ _ Z => ?_)
    refine lv_aload_n hx hb dX11_image_20 rfl (lv_at hl 0 rfl) ?_
    refine lv_iconst (v := 1) hx hb dX11_image_21 (by decide) ?_
    refine zw_putI F Z zC11 (a := 0) (k := 16) (by decide) zs_0 (by decide) rfl (by decide) zq550 (Or.inl rfl) rfl (z_nb (by decide)) dX11_image_22 (fun σ22 _ _ eσ22 Z => ?_)
    replace h := lt_w h eσ22
    refine lv_aload_n hx hb dX11_image_25 rfl (lv_at hl 0 rfl) ?_
    refine zw_getR F Z zC11 (a := 0) (k := 7) (by decide) zs_0 (by decide) rfl zg_0_7 zq541 (Or.inl rfl) dX11_image_26 ?_
    refine zw_getI F Z zC8 (a := 27) (k := 1) (by decide) zs_27 (by decide) rfl zq225 (Or.inl rfl) dX11_image_29 ?_
    obtain ⟨hq1, hq2⟩ := zpq h
    exact ze_i F Z hr hlocks hq1 hq2 dX11_image_32
  · refine lv_iconst (v := (-1)) hx hb dX11_image_7 (by decide) ?_
    obtain ⟨hq1, hq2⟩ := zpq h
    exact ze_i F Z hr hlocks hq1 hq2 dX11_image_8
set_option maxHeartbeats 4000000 in
set_option maxRecDepth 100000 in
theorem zcX11_back (l : Launch) (D : va_G) (A0 : Nat) (σ : Mm) (r0 : Int32) (σr : Mm) (h : zfX11_back σ = some (r0, σr)) : Met l yX11_back (zws yX11_back cX11_back 1 (some .int)) (zR 2 81) (zPc D A0 σ GF 740 [.ref (A0 + 0)]) (zQi D A0 r0 σr GF 740) 0 0 (zA A0) := by
  unfold zfX11_back at h
  refine zmet (own := RX11) (by decide) rfl (Nat.le_of_ble_eq_true rfl) ?_
  intro p e s m below meth c F hr hlocks _ Z ls hl
  have hl : lv_has ls 1 [(0, .ref (A0 + 0))] := hl
  have hx := F.1.1
  have hb := F.1.2.1
  have hown := F.1.2.2.2.1
  have hts := F.1.2.2.2.2
  refine lv_aload_n hx hb dX11_back_0 rfl (lv_at hl 0 rfl) ?_
  refine zw_getI F Z zC11 (a := 0) (k := 16) (by decide) zs_0 (by decide) rfl zq550 (Or.inl rfl) dX11_back_1 ?_
  refine zb_ifne (tgt := 9) hx hb dX11_back_4 (by decide) h (fun h => ?_) (fun h => ?_)
  · refine lv_aload_n hx hb dX11_back_9 rfl (lv_at hl 0 rfl) ?_
    refine zw_getR F Z zC11 (a := 0) (k := 7) (by decide) zs_0 (by decide) rfl zg_0_7 zq541 (Or.inl rfl) dX11_back_10 ?_
    refine lv_aload_n hx hb dX11_back_13 rfl (lv_at hl 0 rfl) ?_
    refine zw_getR F Z zC11 (a := 0) (k := 8) (by decide) zs_0 (by decide) rfl zg_0_8 zq542 (Or.inl rfl) dX11_back_14 ?_
    obtain ⟨σ17, hc17, h⟩ := bd_x h
    refine zc_v Z (zr_V F Z (a := 27) (As := [.ref (A0 + 58)]) (zcX8_copyFrom l D A0 27 58 (Or.inl rfl) (Or.inr (Or.inl rfl)) σ σ17 hc17) zBX8_copyFrom zq1164 (by decide) zs_27 zC8.1 rfl ⟨⟨rfl, rfl⟩, Nat.le_of_ble_eq_true rfl, Nat.le_of_ble_eq_true rfl⟩ hl.1 rfl (Nat.le_of_ble_eq_true rfl) dX11_back_17 ⟨Nat.le_of_ble_eq_true rfl, Nat.le_of_ble_eq_true rfl⟩) (fun _ _ Z => ?_)
    refine lv_aload_n hx hb dX11_back_20 rfl (lv_at hl 0 rfl) ?_
    refine zw_getR F Z zC11 (a := 0) (k := 7) (by decide) zs_0 (by decide) rfl zg_0_7 zq541 (Or.inl rfl) dX11_back_21 ?_
    refine zw_getI F Z zC8 (a := 27) (k := 1) (by decide) zs_27 (by decide) rfl zq225 (Or.inl rfl) dX11_back_24 ?_
    obtain ⟨hq1, hq2⟩ := zpq h
    exact ze_i F Z hr hlocks hq1 hq2 dX11_back_27
  · refine lv_iconst (v := (-1)) hx hb dX11_back_7 (by decide) ?_
    obtain ⟨hq1, hq2⟩ := zpq h
    exact ze_i F Z hr hlocks hq1 hq2 dX11_back_8
set_option maxHeartbeats 4000000 in
set_option maxRecDepth 100000 in
theorem zcX11_count (l : Launch) (D : va_G) (A0 : Nat) (x1 : Int32) (σ : Mm) (r0 : Int32) (h : zfX11_count x1 σ = r0) : Met l yX11_count (zws yX11_count cX11_count 2 (some .int)) (zR 0 0) (zPc D A0 σ GF 740 [.ref (A0 + 0), .int x1]) (zQi D A0 r0 σ GF 740) 0 0 (zA A0) := by
  unfold zfX11_count at h
  refine zmet (own := RX11) (by decide) rfl (Nat.le_of_ble_eq_true rfl) ?_
  intro p e s m below meth c F hr hlocks _ Z ls hl
  have hl : lv_has ls 2 [(0, .ref (A0 + 0)), (1, .int x1)] := hl
  have hx := F.1.1
  have hb := F.1.2.1
  have hown := F.1.2.2.2.1
  have hts := F.1.2.2.2.2
  refine lv_iload_n hx hb dX11_count_0 rfl (lv_at hl 1 rfl) ?_
  refine zsp h (fun hs1_0 h => ?_) (fun hs1_0 h => ?_)
  · refine lv_tableIn (tgt := 60) (off := 59) hx hb dX11_count_1 (by rw [hs1_0]; decide) (by rw [hs1_0]; decide) (by first | (rw [hs1_0]; done) | (rw [hs1_0]; rfl)) (by decide) ?_
    refine lv_aload_n hx hb dX11_count_60 rfl (lv_at hl 0 rfl) ?_
    refine zw_getR F Z zC11 (a := 0) (k := 3) (by decide) zs_0 (by decide) rfl zg_0_3 zq537 (Or.inl rfl) dX11_count_61 ?_
    refine zw_getI F Z zC0 (a := 3) (k := 0) (by decide) zs_3 (by decide) rfl zq135 (Or.inl rfl) dX11_count_64 ?_
    exact ze_i F Z hr hlocks h rfl dX11_count_67
  · refine zsp h (fun hs1_1 h => ?_) (fun hs1_1 h => ?_)
    · refine lv_tableIn (tgt := 68) (off := 67) hx hb dX11_count_1 (by rw [hs1_1]; decide) (by rw [hs1_1]; decide) (by first | (rw [hs1_1]; done) | (rw [hs1_1]; rfl)) (by decide) ?_
      refine lv_aload_n hx hb dX11_count_68 rfl (lv_at hl 0 rfl) ?_
      refine zw_getR F Z zC11 (a := 0) (k := 3) (by decide) zs_0 (by decide) rfl zg_0_3 zq537 (Or.inl rfl) dX11_count_69 ?_
      refine zw_getI F Z zC0 (a := 3) (k := 1) (by decide) zs_3 (by decide) rfl zq139 (Or.inl rfl) dX11_count_72 ?_
      exact ze_i F Z hr hlocks h rfl dX11_count_75
    · refine zsp h (fun hs1_2 h => ?_) (fun hs1_2 h => ?_)
      · refine lv_tableIn (tgt := 76) (off := 75) hx hb dX11_count_1 (by rw [hs1_2]; decide) (by rw [hs1_2]; decide) (by first | (rw [hs1_2]; done) | (rw [hs1_2]; rfl)) (by decide) ?_
        refine lv_aload_n hx hb dX11_count_76 rfl (lv_at hl 0 rfl) ?_
        refine zw_getI F Z zC11 (a := 0) (k := 14) (by decide) zs_0 (by decide) rfl zq548 (Or.inl rfl) dX11_count_77 ?_
        exact ze_i F Z hr hlocks h rfl dX11_count_80
      · refine zsp h (fun hs1_3 h => ?_) (fun hs1_3 h => ?_)
        · refine lv_tableIn (tgt := 81) (off := 80) hx hb dX11_count_1 (by rw [hs1_3]; decide) (by rw [hs1_3]; decide) (by first | (rw [hs1_3]; done) | (rw [hs1_3]; rfl)) (by decide) ?_
          refine lv_aload_n hx hb dX11_count_81 rfl (lv_at hl 0 rfl) ?_
          refine zw_getR F Z zC11 (a := 0) (k := 0) (by decide) zs_0 (by decide) rfl zg_0_0 zq534 (Or.inl rfl) dX11_count_82 ?_
          refine zw_getI F Z zC9 (a := 1) (k := 1) (by decide) zs_1 (by decide) rfl zq117 (Or.inl rfl) dX11_count_85 ?_
          exact ze_i F Z hr hlocks h rfl dX11_count_88
        · refine zsp h (fun hs1_4 h => ?_) (fun hs1_4 h => ?_)
          · refine lv_tableIn (tgt := 89) (off := 88) hx hb dX11_count_1 (by rw [hs1_4]; decide) (by rw [hs1_4]; decide) (by first | (rw [hs1_4]; done) | (rw [hs1_4]; rfl)) (by decide) ?_
            refine lv_aload_n hx hb dX11_count_89 rfl (lv_at hl 0 rfl) ?_
            refine zw_getR F Z zC11 (a := 0) (k := 7) (by decide) zs_0 (by decide) rfl zg_0_7 zq541 (Or.inl rfl) dX11_count_90 ?_
            refine zw_getI F Z zC8 (a := 27) (k := 1) (by decide) zs_27 (by decide) rfl zq225 (Or.inl rfl) dX11_count_93 ?_
            exact ze_i F Z hr hlocks h rfl dX11_count_96
          · refine zsp h (fun hs1_5 h => ?_) (fun hs1_5 h => ?_)
            · refine lv_tableIn (tgt := 97) (off := 96) hx hb dX11_count_1 (by rw [hs1_5]; decide) (by rw [hs1_5]; decide) (by first | (rw [hs1_5]; done) | (rw [hs1_5]; rfl)) (by decide) ?_
              refine lv_aload_n hx hb dX11_count_97 rfl (lv_at hl 0 rfl) ?_
              refine zw_getR F Z zC11 (a := 0) (k := 7) (by decide) zs_0 (by decide) rfl zg_0_7 zq541 (Or.inl rfl) dX11_count_98 ?_
              refine zw_getI F Z zC8 (a := 27) (k := 0) (by decide) zs_27 (by decide) rfl zq222 (Or.inl rfl) dX11_count_101 ?_
              exact ze_i F Z hr hlocks h rfl dX11_count_104
            · refine zsp h (fun hs1_6 h => ?_) (fun hs1_6 h => ?_)
              · refine lv_tableIn (tgt := 105) (off := 104) hx hb dX11_count_1 (by rw [hs1_6]; decide) (by rw [hs1_6]; decide) (by first | (rw [hs1_6]; done) | (rw [hs1_6]; rfl)) (by decide) ?_
                refine lv_aload_n hx hb dX11_count_105 rfl (lv_at hl 0 rfl) ?_
                refine zw_getR F Z zC11 (a := 0) (k := 7) (by decide) zs_0 (by decide) rfl zg_0_7 zq541 (Or.inl rfl) dX11_count_106 ?_
                refine zw_getI F Z zC8 (a := 27) (k := 2) (by decide) zs_27 (by decide) rfl zq228 (Or.inl rfl) dX11_count_109 ?_
                exact ze_i F Z hr hlocks h rfl dX11_count_112
              · refine zsp h (fun hs1_7 h => ?_) (fun hs1_7 h => ?_)
                · refine lv_tableIn (tgt := 113) (off := 112) hx hb dX11_count_1 (by rw [hs1_7]; decide) (by rw [hs1_7]; decide) (by first | (rw [hs1_7]; done) | (rw [hs1_7]; rfl)) (by decide) ?_
                  refine lv_aload_n hx hb dX11_count_113 rfl (lv_at hl 0 rfl) ?_
                  refine zw_getR F Z zC11 (a := 0) (k := 12) (by decide) zs_0 (by decide) rfl zg_0_12 zq546 (Or.inl rfl) dX11_count_114 ?_
                  refine zw_getI F Z zC2 (a := 695) (k := 3) (by decide) zs_695 (by decide) rfl zq524 (Or.inl rfl) dX11_count_117 ?_
                  exact ze_i F Z hr hlocks h rfl dX11_count_120
                · refine zsp h (fun hs1_8 h => ?_) (fun hs1_8 h => ?_)
                  · refine lv_tableIn (tgt := 121) (off := 120) hx hb dX11_count_1 (by rw [hs1_8]; decide) (by rw [hs1_8]; decide) (by first | (rw [hs1_8]; done) | (rw [hs1_8]; rfl)) (by decide) ?_
                    refine lv_aload_n hx hb dX11_count_121 rfl (lv_at hl 0 rfl) ?_
                    refine zw_getR F Z zC11 (a := 0) (k := 13) (by decide) zs_0 (by decide) rfl zg_0_13 zq547 (Or.inl rfl) dX11_count_122 ?_
                    refine zw_getI F Z zC2 (a := 699) (k := 3) (by decide) zs_699 (by decide) rfl zq524 (Or.inl rfl) dX11_count_125 ?_
                    exact ze_i F Z hr hlocks h rfl dX11_count_128
                  · refine zsp h (fun hs1_9 h => ?_) (fun hs1_9 h => ?_)
                    · refine lv_tableIn (tgt := 129) (off := 128) hx hb dX11_count_1 (by rw [hs1_9]; decide) (by rw [hs1_9]; decide) (by first | (rw [hs1_9]; done) | (rw [hs1_9]; rfl)) (by decide) ?_
                      refine lv_aload_n hx hb dX11_count_129 rfl (lv_at hl 0 rfl) ?_
                      refine zw_getR F Z zC11 (a := 0) (k := 3) (by decide) zs_0 (by decide) rfl zg_0_3 zq537 (Or.inl rfl) dX11_count_130 ?_
                      refine zw_getI F Z zC0 (a := 3) (k := 4) (by decide) zs_3 (by decide) rfl zq147 (Or.inl rfl) dX11_count_133 ?_
                      exact ze_i F Z hr hlocks h rfl dX11_count_136
                    · refine zsp h (fun hs1_10 h => ?_) (fun hs1_10 h => ?_)
                      · refine lv_tableIn (tgt := 137) (off := 136) hx hb dX11_count_1 (by rw [hs1_10]; decide) (by rw [hs1_10]; decide) (by first | (rw [hs1_10]; done) | (rw [hs1_10]; rfl)) (by decide) ?_
                        refine lv_aload_n hx hb dX11_count_137 rfl (lv_at hl 0 rfl) ?_
                        refine zw_getR F Z zC11 (a := 0) (k := 3) (by decide) zs_0 (by decide) rfl zg_0_3 zq537 (Or.inl rfl) dX11_count_138 ?_
                        refine zw_getI F Z zC0 (a := 3) (k := 3) (by decide) zs_3 (by decide) rfl zq144 (Or.inl rfl) dX11_count_141 ?_
                        exact ze_i F Z hr hlocks h rfl dX11_count_144
                      · refine lv_tableOut (tgt := 145) hx hb dX11_count_1 (by have n0 := lv_neT hs1_0 (a := 0) (by decide); have n1 := lv_neT hs1_1 (a := 1) (by decide); have n2 := lv_neT hs1_2 (a := 2) (by decide); have n3 := lv_neT hs1_3 (a := 3) (by decide); have n4 := lv_neT hs1_4 (a := 4) (by decide); have n5 := lv_neT hs1_5 (a := 5) (by decide); have n6 := lv_neT hs1_6 (a := 6) (by decide); have n7 := lv_neT hs1_7 (a := 7) (by decide); have n8 := lv_neT hs1_8 (a := 8) (by decide); have n9 := lv_neT hs1_9 (a := 9) (by decide); have n10 := lv_neT hs1_10 (a := 10) (by decide); omega) (by decide) ?_
                        refine lv_ldc (v := (-1000000)) hx hb hown (hts _ zq1001) dX11_count_145 ?_
                        exact ze_i F Z hr hlocks h rfl dX11_count_147
set_option maxHeartbeats 4000000 in
set_option maxRecDepth 100000 in
theorem zcX12_thrown (l : Launch) (D : va_G) (A0 : Nat) (σ : Mm) (r0 : Int32) (h : zfX12_thrown σ = r0) : Met l yX12_thrown (zws yX12_thrown cX12_thrown 1 (some .int)) (zR 0 0) (zPc D A0 σ GF 740 [.ref (A0 + 703)]) (zQi D A0 r0 σ GF 740) 0 0 (zA A0) := by
  unfold zfX12_thrown at h
  refine zmet (own := RX12) (by decide) rfl (Nat.le_of_ble_eq_true rfl) ?_
  intro p e s m below meth c F hr hlocks _ Z ls hl
  have hl : lv_has ls 1 [(0, .ref (A0 + 703))] := hl
  have hx := F.1.1
  have hb := F.1.2.1
  have hown := F.1.2.2.2.1
  have hts := F.1.2.2.2.2
  refine lv_aload_n hx hb dX12_thrown_0 rfl (lv_at hl 0 rfl) ?_
  refine zw_getI F Z zC12 (a := 703) (k := 0) (by decide) zs_703 (by decide) rfl zq1250 (Or.inl rfl) dX12_thrown_1 ?_
  exact ze_i F Z hr hlocks h rfl dX12_thrown_4
set_option maxHeartbeats 4000000 in
set_option maxRecDepth 100000 in
theorem zcX12_isIn (l : Launch) (D : va_G) (A0 : Nat) (x0 : Int64) (x2 : Int64) (x4 : Int64) (σ : Mm) (r0 : Int32) (h : zfX12_isIn x0 x2 x4 = r0) : Met l yX12_isIn (zws yX12_isIn cX12_isIn 6 (some .boolean)) (zR 0 0) (zPc D A0 σ GF 740 [.long x0, .long x2, .long x4]) (zQi D A0 r0 σ GF 740) 0 0 (zA A0) := by
  unfold zfX12_isIn at h
  refine zmet (own := RX12) (by decide) rfl (Nat.le_of_ble_eq_true rfl) ?_
  intro p e s m below meth c F hr hlocks _ Z ls hl
  have hl : lv_has ls 6 [(0, .long x0), (2, .long x2), (4, .long x4)] := hl
  have hx := F.1.1
  have hb := F.1.2.1
  have hown := F.1.2.2.2.1
  have hts := F.1.2.2.2.2
  refine lv_lload_n hx hb dX12_isIn_0 rfl (lv_at hl 0 rfl) ?_
  refine lv_lload_n hx hb dX12_isIn_1 rfl (lv_at hl 1 rfl) ?_
  refine W.lcmp hx hb dX12_isIn_2 ?_
  obtain ⟨j17, ej17, h⟩ := lt_x h
  have hj17 : ∀  (H : Heap) (locs : List Loc) (ls : Array Slot), zh D A0 σ GF 740 s.heap H locs → lv_has ls 6 [] → j17 () = r0 → W p l e (zR 0 0) s m [.long x0, .long x2, .long x4].toArray below meth c H locs 0 0 (MQ below (zQi D A0 r0 σ GF 740) [.long x0, .long x2, .long x4].toArray s 0 0 (zA A0)) (F0 m 17 ls []) := by
    intro  H locs ls Z hl h
    rw [ej17] at h
    try dsimp only at h
    refine lv_iconst (v := 0) hx hb dX12_isIn_17 (by decide) ?_
    exact ze_z F Z hr hlocks (by decide) h rfl dX12_isIn_18
  refine zb_iflt (tgt := 17) hx hb dX12_isIn_3 (by decide) h (fun h => ?_) (fun h => ?_)
  · exact hj17  _ _ _ Z (lv_sub hl [] rfl) h
  · refine lv_lload_n hx hb dX12_isIn_6 rfl (lv_at hl 0 rfl) ?_
    refine lv_lload hx hb dX12_isIn_7 (lv_at hl 2 rfl) ?_
    refine W.lcmp hx hb dX12_isIn_9 ?_
    refine zb_ifgt (tgt := 17) hx hb dX12_isIn_10 (by decide) h (fun h => ?_) (fun h => ?_)
    · exact hj17  _ _ _ Z (lv_sub hl [] rfl) h
    · refine lv_iconst (v := 1) hx hb dX12_isIn_13 (by decide) ?_
      refine lv_goto (tgt := 18) hx hb dX12_isIn_14 (by decide) ?_
      exact ze_z F Z hr hlocks (by decide) h rfl dX12_isIn_18
set_option maxHeartbeats 4000000 in
set_option maxRecDepth 100000 in
theorem zcX12_has (l : Launch) (D : va_G) (A0 : Nat) (x0 : Int32) (x1 : Int32) (σ : Mm) (r0 : Int32) (h : zfX12_has x0 x1 = r0) : Met l yX12_has (zws yX12_has cX12_has 2 (some .boolean)) (zR 0 0) (zPc D A0 σ GF 740 [.int x0, .int x1]) (zQi D A0 r0 σ GF 740) 0 0 (zA A0) := by
  unfold zfX12_has at h
  refine zmet (own := RX12) (by decide) rfl (Nat.le_of_ble_eq_true rfl) ?_
  intro p e s m below meth c F hr hlocks _ Z ls hl
  have hl : lv_has ls 2 [(0, .int x0), (1, .int x1)] := hl
  have hx := F.1.1
  have hb := F.1.2.1
  have hown := F.1.2.2.2.1
  have hts := F.1.2.2.2.2
  refine lv_iload_n hx hb dX12_has_0 rfl (lv_at hl 0 rfl) ?_
  refine lv_iload_n hx hb dX12_has_1 rfl (lv_at hl 1 rfl) ?_
  refine lv_ishr hx hb dX12_has_2 ?_
  refine lv_iconst (v := 1) hx hb dX12_has_3 (by decide) ?_
  refine lv_iand hx hb dX12_has_4 ?_
  refine lv_iconst (v := 1) hx hb dX12_has_5 (by decide) ?_
  refine zb_icne (tgt := 13) hx hb dX12_has_6 (by decide) h (fun h => ?_) (fun h => ?_)
  · refine lv_iconst (v := 0) hx hb dX12_has_13 (by decide) ?_
    exact ze_z F Z hr hlocks (by decide) h rfl dX12_has_14
  · refine lv_iconst (v := 1) hx hb dX12_has_9 (by decide) ?_
    refine lv_goto (tgt := 14) hx hb dX12_has_10 (by decide) ?_
    exact ze_z F Z hr hlocks (by decide) h rfl dX12_has_14
set_option maxHeartbeats 4000000 in
set_option maxRecDepth 100000 in
theorem zcX12_isAmong (l : Launch) (D : va_G) (A0 : Nat) (q0 : Nat) (x1 : Int32) (hq0 : q0 < 6) (σ : Mm) (r0 : Int32) (h : zfX12_isAmong q0 x1 = some r0) : Met l yX12_isAmong (zws yX12_isAmong cX12_isAmong 3 (some .boolean)) (zR 6 200) (zPc D A0 σ GF 740 [.ref (D.1 (60 + q0)), .int x1]) (zQi D A0 r0 σ GF 740) 0 0 (zA A0) := by
  unfold zfX12_isAmong at h
  refine zmet (own := RX12) (by decide) rfl (Nat.le_of_ble_eq_true rfl) ?_
  intro p e s m below meth c F hr hlocks _ Z ls hl
  have hl : lv_has ls 3 [(0, .ref (D.1 (60 + q0))), (1, .int x1)] := hl
  have hx := F.1.1
  have hb := F.1.2.1
  have hown := F.1.2.2.2.1
  have hts := F.1.2.2.2.2
  refine lv_iconst (v := 0) hx hb dX12_isAmong_0 (by decide) ?_
  refine lv_istore_n (lv' := [(2, .int 0), (0, .ref (D.1 (60 + q0))), (1, .int x1)]) hx hb dX12_isAmong_1 rfl hl (by decide) rfl (fun ls hl => ?_)
  obtain ⟨k19, ek19, h⟩ := lt_x h
  have hk19 : ∀  (H : Heap) (locs : List Loc) (ls : Array Slot), zh D A0 σ GF 740 s.heap H locs → lv_has ls 3 [] → k19 () = some r0 → W p l e (zR 6 200) s m [.ref (D.1 (60 + q0)), .int x1].toArray below meth c H locs 0 0 (MQ below (zQi D A0 r0 σ GF 740) [.ref (D.1 (60 + q0)), .int x1].toArray s 0 0 (zA A0)) (F0 m 19 ls []) := by
    intro  H locs ls Z hl h
    rw [ek19] at h
    try dsimp only at h
    refine lv_iconst (v := 1) hx hb dX12_isAmong_19 (by decide) ?_
    have hq := Option.some.inj h
    exact ze_z F Z hr hlocks (by decide) hq rfl dX12_isAmong_20
  obtain ⟨k27, ek27, h⟩ := lt_x h
  have hk27 : ∀  (H : Heap) (locs : List Loc) (ls : Array Slot), zh D A0 σ GF 740 s.heap H locs → lv_has ls 3 [] → k27 () = some r0 → W p l e (zR 6 200) s m [.ref (D.1 (60 + q0)), .int x1].toArray below meth c H locs 0 0 (MQ below (zQi D A0 r0 σ GF 740) [.ref (D.1 (60 + q0)), .int x1].toArray s 0 0 (zA A0)) (F0 m 27 ls []) := by
    intro  H locs ls Z hl h
    rw [ek27] at h
    try dsimp only at h
    refine lv_iconst (v := 0) hx hb dX12_isAmong_27 (by decide) ?_
    have hq := Option.some.inj h
    exact ze_z F Z hr hlocks (by decide) hq rfl dX12_isAmong_28
  have hL2 : ∀ (fu2 : Nat) (x2_2 : Int32) (H : Heap) (locs : List Loc) (ls : Array Slot), zh D A0 σ GF 740 s.heap H locs → lv_has ls 3 [(0, .ref (D.1 (60 + q0))), (1, .int x1), (2, .int x2_2)] → zfX12_isAmong_L2 q0 k27 x1 k19 fu2 x2_2 = some r0 → W p l e (zR 6 200) s m [.ref (D.1 (60 + q0)), .int x1].toArray below meth c H locs 0 0 (MQ below (zQi D A0 r0 σ GF 740) [.ref (D.1 (60 + q0)), .int x1].toArray s 0 0 (zA A0)) (F0 m 2 ls []) := by
    intro fu2
    induction fu2 with
    | zero => intro x2_2 H locs ls Z hl h; rw [zfX12_isAmong_L2] at h; cases h
    | succ fu2 ih2 =>
      intro x2_2 H locs ls Z hl h
      rw [zfX12_isAmong_L2] at h
      refine lv_iload_n hx hb dX12_isAmong_2 rfl (lv_at hl 2 rfl) ?_
      refine lv_aload_n hx hb dX12_isAmong_3 rfl (lv_at hl 0 rfl) ?_
      refine zw_slen l F Z hl.1 hq0 zq1525 ⟨Nat.le_of_ble_eq_true rfl, Nat.le_of_ble_eq_true rfl⟩ ⟨Nat.le_of_ble_eq_true rfl, Nat.le_of_ble_eq_true rfl⟩ (Nat.le_of_ble_eq_true rfl) dX12_isAmong_4 (fun _ _ Z => ?_)
      refine zb_icge (tgt := 27) hx hb dX12_isAmong_7 (by decide) h (fun h => ?_) (fun h => ?_)
      · exact hk27  _ _ _ Z (lv_sub hl [] rfl) h
      · refine lv_aload_n hx hb dX12_isAmong_10 rfl (lv_at hl 0 rfl) ?_
        refine lv_iload_n hx hb dX12_isAmong_11 rfl (lv_at hl 2 rfl) ?_
        obtain ⟨hk12, h⟩ := ck_x h
        refine zw_schr l F Z hl.1 hq0 hk12 zq1529 ⟨Nat.le_of_ble_eq_true rfl, Nat.le_of_ble_eq_true rfl⟩ ⟨Nat.le_of_ble_eq_true rfl, Nat.le_of_ble_eq_true rfl⟩ (Nat.le_of_ble_eq_true rfl) dX12_isAmong_12 (fun _ _ Z => ?_)
        refine lv_iload_n hx hb dX12_isAmong_15 rfl (lv_at hl 1 rfl) ?_
        refine zb_icne (tgt := 21) hx hb dX12_isAmong_16 (by decide) h (fun h => ?_) (fun h => ?_)
        · obtain ⟨x2_21, ex2_21⟩ : ∃ y : Int32, y = x2_2 + 1 := ⟨_, rfl⟩
          replace h := lt_w h ex2_21
          refine lv_iinc (v := x2_21) (lv' := [(2, .int x2_21), (0, .ref (D.1 (60 + q0))), (1, .int x1)]) hx hb dX12_isAmong_21 hl (k := 2) rfl (by rw [ex2_21]; rfl) (by decide) rfl (fun ls hl => ?_)
          refine lv_goto (tgt := 2) hx hb dX12_isAmong_24 (by decide) ?_
          exact ih2 x2_21 _ _ _ Z (lv_sub hl [1, 2, 0] rfl) h
        · exact hk19  _ _ _ Z (lv_sub hl [] rfl) h
  exact hL2 NF 0 _ _ _ Z (lv_sub hl [1, 2, 0] rfl) h
set_option maxHeartbeats 4000000 in
set_option maxRecDepth 100000 in
theorem zcX12_bytesIn (l : Launch) (D : va_G) (A0 : Nat) (x0 : Int32) (σ : Mm) (r0 : Int32) (h : zfX12_bytesIn x0 = some r0) : Met l yX12_bytesIn (zws yX12_bytesIn cX12_bytesIn 3 (some .int)) (zR 0 0) (zPc D A0 σ GF 740 [.int x0]) (zQi D A0 r0 σ GF 740) 0 0 (zA A0) := by
  unfold zfX12_bytesIn at h
  refine zmet (own := RX12) (by decide) rfl (Nat.le_of_ble_eq_true rfl) ?_
  intro p e s m below meth c F hr hlocks _ Z ls hl
  have hl : lv_has ls 3 [(0, .int x0)] := hl
  have hx := F.1.1
  have hb := F.1.2.1
  have hown := F.1.2.2.2.1
  have hts := F.1.2.2.2.2
  refine lv_iconst (v := 0) hx hb dX12_bytesIn_0 (by decide) ?_
  refine lv_istore_n (lv' := [(1, .int 0), (0, .int x0)]) hx hb dX12_bytesIn_1 rfl hl (by decide) rfl (fun ls hl => ?_)
  refine lv_bipush (v := 24) hx hb dX12_bytesIn_2 (by decide) ?_
  refine lv_istore_n (lv' := [(2, .int 24), (1, .int 0), (0, .int x0)]) hx hb dX12_bytesIn_4 rfl hl (by decide) rfl (fun ls hl => ?_)
  obtain ⟨k33, ek33, h⟩ := lt_x h
  have hk33 : ∀ (x1_33 : Int32) (H : Heap) (locs : List Loc) (ls : Array Slot), zh D A0 σ GF 740 s.heap H locs → lv_has ls 3 [(1, .int x1_33)] → k33 x1_33 = some r0 → W p l e (zR 0 0) s m [.int x0].toArray below meth c H locs 0 0 (MQ below (zQi D A0 r0 σ GF 740) [.int x0].toArray s 0 0 (zA A0)) (F0 m 33 ls []) := by
    intro x1_33 H locs ls Z hl h
    rw [ek33] at h
    try dsimp only at h
    refine lv_iload_n hx hb dX12_bytesIn_33 rfl (lv_at hl 0 rfl) ?_
    have hq := Option.some.inj h
    exact ze_i F Z hr hlocks hq rfl dX12_bytesIn_34
  have hL5 : ∀ (fu5 : Nat) (x1_5 : Int32) (x2_5 : Int32) (H : Heap) (locs : List Loc) (ls : Array Slot), zh D A0 σ GF 740 s.heap H locs → lv_has ls 3 [(0, .int x0), (1, .int x1_5), (2, .int x2_5)] → zfX12_bytesIn_L5 k33 x0 fu5 x1_5 x2_5 = some r0 → W p l e (zR 0 0) s m [.int x0].toArray below meth c H locs 0 0 (MQ below (zQi D A0 r0 σ GF 740) [.int x0].toArray s 0 0 (zA A0)) (F0 m 5 ls []) := by
    intro fu5
    induction fu5 with
    | zero => intro x1_5 x2_5 H locs ls Z hl h; rw [zfX12_bytesIn_L5] at h; cases h
    | succ fu5 ih5 =>
      intro x1_5 x2_5 H locs ls Z hl h
      rw [zfX12_bytesIn_L5] at h
      refine lv_iload_n hx hb dX12_bytesIn_5 rfl (lv_at hl 2 rfl) ?_
      refine zb_iflt (tgt := 33) hx hb dX12_bytesIn_6 (by decide) h (fun h => ?_) (fun h => ?_)
      · exact hk33 x1_5 _ _ _ Z (lv_sub hl [1] rfl) h
      · refine lv_iload_n hx hb dX12_bytesIn_9 rfl (lv_at hl 1 rfl) ?_
        refine lv_iload_n hx hb dX12_bytesIn_10 rfl (lv_at hl 0 rfl) ?_
        refine lv_iload_n hx hb dX12_bytesIn_11 rfl (lv_at hl 2 rfl) ?_
        refine lv_ishr hx hb dX12_bytesIn_12 ?_
        refine lv_sipush (v := 255) hx hb dX12_bytesIn_13 (by decide) ?_
        refine lv_iand hx hb dX12_bytesIn_16 ?_
        obtain ⟨j25, ej25, h⟩ := lt_x h
        have hj25 : ∀ (y0_25 : Int32) (H : Heap) (locs : List Loc) (ls : Array Slot), zh D A0 σ GF 740 s.heap H locs → lv_has ls 3 [(0, .int x0), (2, .int x2_5)] → j25 y0_25 = some r0 → W p l e (zR 0 0) s m [.int x0].toArray below meth c H locs 0 0 (MQ below (zQi D A0 r0 σ GF 740) [.int x0].toArray s 0 0 (zA A0)) (F0 m 25 ls [.int y0_25, .int x1_5]) := by
          intro y0_25 H locs ls Z hl h
          rw [ej25] at h
          try dsimp only at h
          refine lv_iadd hx hb dX12_bytesIn_25 ?_
          refine lv_topi (fun x1_26 ex1_26 => ?_)
          replace h := lt_w h ex1_26
          refine lv_istore_n (lv' := [(1, .int x1_26), (0, .int x0), (2, .int x2_5)]) hx hb dX12_bytesIn_26 rfl hl (by decide) rfl (fun ls hl => ?_)
          obtain ⟨x2_27, ex2_27⟩ : ∃ y : Int32, y = x2_5 + (-8) := ⟨_, rfl⟩
          replace h := lt_w h ex2_27
          refine lv_iinc (v := x2_27) (lv' := [(2, .int x2_27), (1, .int x1_26), (0, .int x0)]) hx hb dX12_bytesIn_27 hl (k := 2) rfl (by rw [ex2_27]; rfl) (by decide) rfl (fun ls hl => ?_)
          refine lv_goto (tgt := 5) hx hb dX12_bytesIn_30 (by decide) ?_
          exact ih5 x1_26 x2_27 _ _ _ Z (lv_sub hl [2, 1, 0] rfl) h
        refine zb_ifeq (tgt := 24) hx hb dX12_bytesIn_17 (by decide) h (fun h => ?_) (fun h => ?_)
        · refine lv_iconst (v := 0) hx hb dX12_bytesIn_24 (by decide) ?_
          exact hj25 0 _ _ _ Z (lv_sub hl [0, 2] rfl) h
        · refine lv_iconst (v := 1) hx hb dX12_bytesIn_20 (by decide) ?_
          refine lv_goto (tgt := 25) hx hb dX12_bytesIn_21 (by decide) ?_
          exact hj25 1 _ _ _ Z (lv_sub hl [0, 2] rfl) h
  exact hL5 NF 0 24 _ _ _ Z (lv_sub hl [2, 1, 0] rfl) h
set_option maxHeartbeats 4000000 in
set_option maxRecDepth 100000 in
theorem zcX12_put (l : Launch) (D : va_G) (A0 : Nat) (x1 : Int32) (σ : Mm) (σr : Mm) (h : zfX12_put x1 σ = some σr) : Met l yX12_put (zws yX12_put cX12_put 3 none) (zR 0 0) (zPc D A0 σ GF 740 [.ref (A0 + 703), .int x1]) (zQv D A0 σr GF 740) 0 0 (zA A0) := by
  unfold zfX12_put at h
  refine zmet (own := RX12) (by decide) rfl (Nat.le_of_ble_eq_true rfl) ?_
  intro p e s m below meth c F hr hlocks _ Z ls hl
  have hl : lv_has ls 3 [(0, .ref (A0 + 703)), (1, .int x1)] := hl
  have hx := F.1.1
  have hb := F.1.2.1
  have hown := F.1.2.2.2.1
  have hts := F.1.2.2.2.2
  refine lv_bipush (v := 24) hx hb dX12_put_0 (by decide) ?_
  refine lv_istore_n (lv' := [(2, .int 24), (0, .ref (A0 + 703)), (1, .int x1)]) hx hb dX12_put_2 rfl hl (by decide) rfl (fun ls hl => ?_)
  obtain ⟨k49, ek49, h⟩ := lt_x h
  have hk49 : ∀ (σ49 : Mm) (H : Heap) (locs : List Loc) (ls : Array Slot), zh D A0 σ49 GF 740 s.heap H locs → lv_has ls 3 [] → k49 σ49 = some σr → W p l e (zR 0 0) s m [.ref (A0 + 703), .int x1].toArray below meth c H locs 0 0 (MQ below (zQv D A0 σr GF 740) [.ref (A0 + 703), .int x1].toArray s 0 0 (zA A0)) (F0 m 49 ls []) := by
    intro  σ49 H locs ls Z hl h
    rw [ek49] at h
    try dsimp only at h
    have hq := Option.some.inj h
    exact ze_v F Z hr hlocks hq dX12_put_49
  have hL3 : ∀ (fu3 : Nat) (x2_3 : Int32) (σ3 : Mm) (H : Heap) (locs : List Loc) (ls : Array Slot), zh D A0 σ3 GF 740 s.heap H locs → lv_has ls 3 [(0, .ref (A0 + 703)), (1, .int x1), (2, .int x2_3)] → zfX12_put_L3 k49 x1 fu3 x2_3 σ3 = some σr → W p l e (zR 0 0) s m [.ref (A0 + 703), .int x1].toArray below meth c H locs 0 0 (MQ below (zQv D A0 σr GF 740) [.ref (A0 + 703), .int x1].toArray s 0 0 (zA A0)) (F0 m 3 ls []) := by
    intro fu3
    induction fu3 with
    | zero => intro x2_3 σ3 H locs ls Z hl h; rw [zfX12_put_L3] at h; cases h
    | succ fu3 ih3 =>
      intro x2_3 σ3 H locs ls Z hl h
      rw [zfX12_put_L3] at h
      refine lv_iload_n hx hb dX12_put_3 rfl (lv_at hl 2 rfl) ?_
      refine zb_iflt (tgt := 49) hx hb dX12_put_4 (by decide) h (fun h => ?_) (fun h => ?_)
      · exact hk49 σ3 _ _ _ Z (lv_sub hl [] rfl) h
      · refine lv_iload_n hx hb dX12_put_7 rfl (lv_at hl 1 rfl) ?_
        refine lv_iload_n hx hb dX12_put_8 rfl (lv_at hl 2 rfl) ?_
        refine lv_ishr hx hb dX12_put_9 ?_
        refine lv_sipush (v := 255) hx hb dX12_put_10 (by decide) ?_
        refine lv_iand hx hb dX12_put_13 ?_
        obtain ⟨j43, ej43, h⟩ := lt_x h
        have hj43 : ∀ (σ43 : Mm) (H : Heap) (locs : List Loc) (ls : Array Slot), zh D A0 σ43 GF 740 s.heap H locs → lv_has ls 3 [(0, .ref (A0 + 703)), (1, .int x1), (2, .int x2_3)] → j43 σ43 = some σr → W p l e (zR 0 0) s m [.ref (A0 + 703), .int x1].toArray below meth c H locs 0 0 (MQ below (zQv D A0 σr GF 740) [.ref (A0 + 703), .int x1].toArray s 0 0 (zA A0)) (F0 m 43 ls []) := by
          intro  σ43 H locs ls Z hl h
          rw [ej43] at h
          try dsimp only at h
          obtain ⟨x2_43, ex2_43⟩ : ∃ y : Int32, y = x2_3 + (-8) := ⟨_, rfl⟩
          replace h := lt_w h ex2_43
          refine lv_iinc (v := x2_43) (lv' := [(2, .int x2_43), (0, .ref (A0 + 703)), (1, .int x1)]) hx hb dX12_put_43 hl (k := 2) rfl (by rw [ex2_43]; rfl) (by decide) rfl (fun ls hl => ?_)
          refine lv_goto (tgt := 3) hx hb dX12_put_46 (by decide) ?_
          exact ih3 x2_43 σ43 _ _ _ Z (lv_sub hl [1, 2, 0] rfl) h
        refine zb_ifne (tgt := 20) hx hb dX12_put_14 (by decide) h (fun h => ?_) (fun h => ?_)
        · refine lv_aload_n hx hb dX12_put_20 rfl (lv_at hl 0 rfl) ?_
          refine zw_getR F Z zC12 (a := 703) (k := 1) (by decide) zs_703 (by decide) rfl zg_703_1 zq1251 (Or.inl rfl) dX12_put_21 ?_
          refine lv_aload_n hx hb dX12_put_24 rfl (lv_at hl 0 rfl) ?_
          refine zw_getI F Z zC12 (a := 703) (k := 6) (by decide) zs_703 (by decide) rfl zq1256 (Or.inl rfl) dX12_put_25 ?_
          refine lv_iload_n hx hb dX12_put_28 rfl (lv_at hl 1 rfl) ?_
          refine lv_iload_n hx hb dX12_put_29 rfl (lv_at hl 2 rfl) ?_
          refine lv_ishr hx hb dX12_put_30 ?_
          refine lv_i2b hx hb dX12_put_31 rfl ?_
          obtain ⟨hk32, h⟩ := ck_x h
          refine zw_bast F Z (by decide) zs_704 hk32 dX12_put_32 (fun σ32 _ _ eσ32 Z => ?_)
          replace h := lt_w h eσ32
          refine lv_aload_n hx hb dX12_put_33 rfl (lv_at hl 0 rfl) ?_
          refine lv_dup hx hb dX12_put_34 rfl ?_
          refine zw_getI F Z zC12 (a := 703) (k := 6) (by decide) zs_703 (by decide) rfl zq1256 (Or.inl rfl) dX12_put_35 ?_
          refine lv_iconst (v := 1) hx hb dX12_put_38 (by decide) ?_
          refine lv_iadd hx hb dX12_put_39 ?_
          refine zw_putI F Z zC12 (a := 703) (k := 6) (by decide) zs_703 (by decide) rfl (by decide) zq1256 (Or.inl rfl) rfl ⟨rfl, rfl⟩ dX12_put_40 (fun σ40 _ _ eσ40 Z => ?_)
          replace h := lt_w h eσ40
          exact hj43 σ40 _ _ _ Z (lv_sub hl [0, 1, 2] rfl) h
        · refine lv_goto (tgt := 43) hx hb dX12_put_17 (by decide) ?_
          exact hj43 σ3 _ _ _ Z (lv_sub hl [0, 1, 2] rfl) h
  exact hL3 NF 24 σ _ _ _ Z (lv_sub hl [1, 2, 0] rfl) h
set_option maxHeartbeats 4000000 in
set_option maxRecDepth 100000 in
theorem zcX12_feed (l : Launch) (D : va_G) (A0 : Nat) (x1 : Int32) (x2 : Int32) (x3 : Int32) (x4 : Int32) (x5 : Int32) (σ : Mm) (r0 : Int32) (σr : Mm) (h : zfX12_feed x1 x2 x3 x4 x5 σ = some (r0, σr)) : Met l yX12_feed (zws yX12_feed cX12_feed 6 (some .int)) (zR 1 22) (zPc D A0 σ GF 740 [.ref (A0 + 703), .int x1, .int x2, .int x3, .int x4, .int x5]) (zQi D A0 r0 σr GF 740) 0 0 (zA A0) := by
  unfold zfX12_feed at h
  refine zmet (own := RX12) (by decide) rfl (Nat.le_of_ble_eq_true rfl) ?_
  intro p e s m below meth c F hr hlocks _ Z ls hl
  have hl : lv_has ls 6 [(0, .ref (A0 + 703)), (1, .int x1), (2, .int x2), (3, .int x3), (4, .int x4), (5, .int x5)] := hl
  have hx := F.1.1
  have hb := F.1.2.1
  have hown := F.1.2.2.2.1
  have hts := F.1.2.2.2.2
  refine lv_aload_n hx hb dX12_feed_0 rfl (lv_at hl 0 rfl) ?_
  refine lv_iconst (v := 0) hx hb dX12_feed_1 (by decide) ?_
  refine zw_putI F Z zC12 (a := 703) (k := 0) (by decide) zs_703 (by decide) rfl (by decide) zq1250 (Or.inl rfl) rfl ⟨rfl, rfl⟩ dX12_feed_2 (fun σ2 _ _ eσ2 Z => ?_)
  replace h := lt_w h eσ2
  refine lv_aload_n hx hb dX12_feed_5 rfl (lv_at hl 0 rfl) ?_
  refine zw_getI F Z zC12 (a := 703) (k := 6) (by decide) zs_703 (by decide) rfl zq1256 (Or.inl rfl) dX12_feed_6 ?_
  refine lv_iload_n hx hb dX12_feed_9 rfl (lv_at hl 1 rfl) ?_
  obtain ⟨r10, hc10, h⟩ := bd_x h
  refine zc_i Z (zr_S F Z (As := [.int x1]) (zcX12_bytesIn l D A0 x1 σ2 r10 hc10) zBX12_bytesIn zq1481 rfl ⟨⟨rfl, rfl⟩, Nat.le_of_ble_eq_true rfl, Nat.le_of_ble_eq_true rfl⟩ hl.1 rfl (Nat.le_of_ble_eq_true rfl) dX12_feed_10 ⟨Nat.le_of_ble_eq_true rfl, Nat.le_of_ble_eq_true rfl⟩) (fun _ _ Z => ?_)
  refine lv_iadd hx hb dX12_feed_13 ?_
  refine lv_iload_n hx hb dX12_feed_14 rfl (lv_at hl 2 rfl) ?_
  obtain ⟨r15, hc15, h⟩ := bd_x h
  refine zc_i Z (zr_S F Z (As := [.int x2]) (zcX12_bytesIn l D A0 x2 σ2 r15 hc15) zBX12_bytesIn zq1481 rfl ⟨⟨rfl, rfl⟩, Nat.le_of_ble_eq_true rfl, Nat.le_of_ble_eq_true rfl⟩ hl.1 rfl (Nat.le_of_ble_eq_true rfl) dX12_feed_15 ⟨Nat.le_of_ble_eq_true rfl, Nat.le_of_ble_eq_true rfl⟩) (fun _ _ Z => ?_)
  refine lv_iadd hx hb dX12_feed_18 ?_
  refine lv_iload_n hx hb dX12_feed_19 rfl (lv_at hl 3 rfl) ?_
  obtain ⟨r20, hc20, h⟩ := bd_x h
  refine zc_i Z (zr_S F Z (As := [.int x3]) (zcX12_bytesIn l D A0 x3 σ2 r20 hc20) zBX12_bytesIn zq1481 rfl ⟨⟨rfl, rfl⟩, Nat.le_of_ble_eq_true rfl, Nat.le_of_ble_eq_true rfl⟩ hl.1 rfl (Nat.le_of_ble_eq_true rfl) dX12_feed_20 ⟨Nat.le_of_ble_eq_true rfl, Nat.le_of_ble_eq_true rfl⟩) (fun _ _ Z => ?_)
  refine lv_iadd hx hb dX12_feed_23 ?_
  refine lv_iload hx hb dX12_feed_24 (lv_at hl 4 rfl) ?_
  obtain ⟨r26, hc26, h⟩ := bd_x h
  refine zc_i Z (zr_S F Z (As := [.int x4]) (zcX12_bytesIn l D A0 x4 σ2 r26 hc26) zBX12_bytesIn zq1481 rfl ⟨⟨rfl, rfl⟩, Nat.le_of_ble_eq_true rfl, Nat.le_of_ble_eq_true rfl⟩ hl.1 rfl (Nat.le_of_ble_eq_true rfl) dX12_feed_26 ⟨Nat.le_of_ble_eq_true rfl, Nat.le_of_ble_eq_true rfl⟩) (fun _ _ Z => ?_)
  refine lv_iadd hx hb dX12_feed_29 ?_
  refine lv_iload hx hb dX12_feed_30 (lv_at hl 5 rfl) ?_
  obtain ⟨r32, hc32, h⟩ := bd_x h
  refine zc_i Z (zr_S F Z (As := [.int x5]) (zcX12_bytesIn l D A0 x5 σ2 r32 hc32) zBX12_bytesIn zq1481 rfl ⟨⟨rfl, rfl⟩, Nat.le_of_ble_eq_true rfl, Nat.le_of_ble_eq_true rfl⟩ hl.1 rfl (Nat.le_of_ble_eq_true rfl) dX12_feed_32 ⟨Nat.le_of_ble_eq_true rfl, Nat.le_of_ble_eq_true rfl⟩) (fun _ _ Z => ?_)
  refine lv_iadd hx hb dX12_feed_35 ?_
  refine lv_sipush (v := 160) hx hb dX12_feed_36 (by decide) ?_
  refine zb_icle (tgt := 44) hx hb dX12_feed_39 (by decide) h (fun h => ?_) (fun h => ?_)
  · refine lv_aload_n hx hb dX12_feed_44 rfl (lv_at hl 0 rfl) ?_
    refine lv_iload_n hx hb dX12_feed_45 rfl (lv_at hl 1 rfl) ?_
    obtain ⟨σ46, hc46, h⟩ := bd_x h
    refine zc_v Z (zr_V F Z (a := 703) (As := [.int x1]) (zcX12_put l D A0 x1 σ2 σ46 hc46) zBX12_put zq1484 (by decide) zs_703 zC12.1 rfl ⟨⟨rfl, rfl⟩, Nat.le_of_ble_eq_true rfl, Nat.le_of_ble_eq_true rfl⟩ hl.1 rfl (Nat.le_of_ble_eq_true rfl) dX12_feed_46 ⟨Nat.le_of_ble_eq_true rfl, Nat.le_of_ble_eq_true rfl⟩) (fun _ _ Z => ?_)
    refine lv_aload_n hx hb dX12_feed_49 rfl (lv_at hl 0 rfl) ?_
    refine lv_iload_n hx hb dX12_feed_50 rfl (lv_at hl 2 rfl) ?_
    obtain ⟨σ51, hc51, h⟩ := bd_x h
    refine zc_v Z (zr_V F Z (a := 703) (As := [.int x2]) (zcX12_put l D A0 x2 σ46 σ51 hc51) zBX12_put zq1484 (by decide) zs_703 zC12.1 rfl ⟨⟨rfl, rfl⟩, Nat.le_of_ble_eq_true rfl, Nat.le_of_ble_eq_true rfl⟩ hl.1 rfl (Nat.le_of_ble_eq_true rfl) dX12_feed_51 ⟨Nat.le_of_ble_eq_true rfl, Nat.le_of_ble_eq_true rfl⟩) (fun _ _ Z => ?_)
    refine lv_aload_n hx hb dX12_feed_54 rfl (lv_at hl 0 rfl) ?_
    refine lv_iload_n hx hb dX12_feed_55 rfl (lv_at hl 3 rfl) ?_
    obtain ⟨σ56, hc56, h⟩ := bd_x h
    refine zc_v Z (zr_V F Z (a := 703) (As := [.int x3]) (zcX12_put l D A0 x3 σ51 σ56 hc56) zBX12_put zq1484 (by decide) zs_703 zC12.1 rfl ⟨⟨rfl, rfl⟩, Nat.le_of_ble_eq_true rfl, Nat.le_of_ble_eq_true rfl⟩ hl.1 rfl (Nat.le_of_ble_eq_true rfl) dX12_feed_56 ⟨Nat.le_of_ble_eq_true rfl, Nat.le_of_ble_eq_true rfl⟩) (fun _ _ Z => ?_)
    refine lv_aload_n hx hb dX12_feed_59 rfl (lv_at hl 0 rfl) ?_
    refine lv_iload hx hb dX12_feed_60 (lv_at hl 4 rfl) ?_
    obtain ⟨σ62, hc62, h⟩ := bd_x h
    refine zc_v Z (zr_V F Z (a := 703) (As := [.int x4]) (zcX12_put l D A0 x4 σ56 σ62 hc62) zBX12_put zq1484 (by decide) zs_703 zC12.1 rfl ⟨⟨rfl, rfl⟩, Nat.le_of_ble_eq_true rfl, Nat.le_of_ble_eq_true rfl⟩ hl.1 rfl (Nat.le_of_ble_eq_true rfl) dX12_feed_62 ⟨Nat.le_of_ble_eq_true rfl, Nat.le_of_ble_eq_true rfl⟩) (fun _ _ Z => ?_)
    refine lv_aload_n hx hb dX12_feed_65 rfl (lv_at hl 0 rfl) ?_
    refine lv_iload hx hb dX12_feed_66 (lv_at hl 5 rfl) ?_
    obtain ⟨σ68, hc68, h⟩ := bd_x h
    refine zc_v Z (zr_V F Z (a := 703) (As := [.int x5]) (zcX12_put l D A0 x5 σ62 σ68 hc68) zBX12_put zq1484 (by decide) zs_703 zC12.1 rfl ⟨⟨rfl, rfl⟩, Nat.le_of_ble_eq_true rfl, Nat.le_of_ble_eq_true rfl⟩ hl.1 rfl (Nat.le_of_ble_eq_true rfl) dX12_feed_68 ⟨Nat.le_of_ble_eq_true rfl, Nat.le_of_ble_eq_true rfl⟩) (fun _ _ Z => ?_)
    refine lv_aload_n hx hb dX12_feed_71 rfl (lv_at hl 0 rfl) ?_
    refine zw_getI F Z zC12 (a := 703) (k := 6) (by decide) zs_703 (by decide) rfl zq1256 (Or.inl rfl) dX12_feed_72 ?_
    obtain ⟨hq1, hq2⟩ := zpq h
    exact ze_i F Z hr hlocks hq1 hq2 dX12_feed_75
  · refine lv_iconst (v := (-1)) hx hb dX12_feed_42 (by decide) ?_
    obtain ⟨hq1, hq2⟩ := zpq h
    exact ze_i F Z hr hlocks hq1 hq2 dX12_feed_43
set_option maxHeartbeats 4000000 in
set_option maxRecDepth 100000 in
theorem zcX12_end (l : Launch) (D : va_G) (A0 : Nat) (x1 : Int32) (σ : Mm) (r0 : Int32) (σr : Mm) (h : zfX12_end x1 σ = some (r0, σr)) : Met l yX12_end (zws yX12_end cX12_end 2 (some .boolean)) (zR 0 0) (zPc D A0 σ GF 740 [.ref (A0 + 703), .int x1]) (zQi D A0 r0 σr GF 740) 0 0 (zA A0) := by
  unfold zfX12_end at h
  refine zmet (own := RX12) (by decide) rfl (Nat.le_of_ble_eq_true rfl) ?_
  intro p e s m below meth c F hr hlocks _ Z ls hl
  have hl : lv_has ls 2 [(0, .ref (A0 + 703)), (1, .int x1)] := hl
  have hx := F.1.1
  have hb := F.1.2.1
  have hown := F.1.2.2.2.1
  have hts := F.1.2.2.2.2
  refine lv_aload_n hx hb dX12_end_0 rfl (lv_at hl 0 rfl) ?_
  refine lv_iconst (v := 0) hx hb dX12_end_1 (by decide) ?_
  refine zw_putI F Z zC12 (a := 703) (k := 0) (by decide) zs_703 (by decide) rfl (by decide) zq1250 (Or.inl rfl) rfl ⟨rfl, rfl⟩ dX12_end_2 (fun σ2 _ _ eσ2 Z => ?_)
  replace h := lt_w h eσ2
  refine lv_iload_n hx hb dX12_end_5 rfl (lv_at hl 1 rfl) ?_
  obtain ⟨j17, ej17, h⟩ := lt_x h
  have hj17 : ∀ (σ17 : Mm) (H : Heap) (locs : List Loc) (ls : Array Slot), zh D A0 σ17 GF 740 s.heap H locs → lv_has ls 2 [] → j17 σ17 = some (r0, σr) → W p l e (zR 0 0) s m [.ref (A0 + 703), .int x1].toArray below meth c H locs 0 0 (MQ below (zQi D A0 r0 σr GF 740) [.ref (A0 + 703), .int x1].toArray s 0 0 (zA A0)) (F0 m 17 ls []) := by
    intro  σ17 H locs ls Z hl h
    rw [ej17] at h
    try dsimp only at h
    refine lv_iconst (v := 0) hx hb dX12_end_17 (by decide) ?_
    obtain ⟨hq1, hq2⟩ := zpq h
    exact ze_z F Z hr hlocks (by decide) hq1 hq2 dX12_end_18
  refine zb_iflt (tgt := 17) hx hb dX12_end_6 (by decide) h (fun h => ?_) (fun h => ?_)
  · exact hj17 σ2 _ _ _ Z (lv_sub hl [] rfl) h
  · refine lv_iload_n hx hb dX12_end_9 rfl (lv_at hl 1 rfl) ?_
    refine lv_aload_n hx hb dX12_end_10 rfl (lv_at hl 0 rfl) ?_
    refine zw_getI F Z zC12 (a := 703) (k := 6) (by decide) zs_703 (by decide) rfl zq1256 (Or.inl rfl) dX12_end_11 ?_
    refine zb_icle (tgt := 19) hx hb dX12_end_14 (by decide) h (fun h => ?_) (fun h => ?_)
    · refine lv_aload_n hx hb dX12_end_19 rfl (lv_at hl 0 rfl) ?_
      refine lv_iload_n hx hb dX12_end_20 rfl (lv_at hl 1 rfl) ?_
      refine zw_putI F Z zC12 (a := 703) (k := 6) (by decide) zs_703 (by decide) rfl (by decide) zq1256 (Or.inl rfl) rfl ⟨rfl, rfl⟩ dX12_end_21 (fun σ21 _ _ eσ21 Z => ?_)
      replace h := lt_w h eσ21
      refine lv_iconst (v := 1) hx hb dX12_end_24 (by decide) ?_
      obtain ⟨hq1, hq2⟩ := zpq h
      exact ze_z F Z hr hlocks (by decide) hq1 hq2 dX12_end_25
    · exact hj17 σ2 _ _ _ Z (lv_sub hl [] rfl) h
set_option maxHeartbeats 4000000 in
set_option maxRecDepth 100000 in
theorem zcX12_look (l : Launch) (D : va_G) (A0 : Nat) (σ : Mm) (r0 : Int32) (σr : Mm) (h : zfX12_look σ = some (r0, σr)) : Met l yX12_look (zws yX12_look cX12_look 1 (some .int)) (zR 0 0) (zPc D A0 σ GF 740 [.ref (A0 + 703)]) (zQi D A0 r0 σr GF 740) 0 0 (zA A0) := by
  unfold zfX12_look at h
  refine zmet (own := RX12) (by decide) rfl (Nat.le_of_ble_eq_true rfl) ?_
  intro p e s m below meth c F hr hlocks _ Z ls hl
  have hl : lv_has ls 1 [(0, .ref (A0 + 703))] := hl
  have hx := F.1.1
  have hb := F.1.2.1
  have hown := F.1.2.2.2.1
  have hts := F.1.2.2.2.2
  obtain ⟨k43, ek43, h⟩ := lt_x h
  have hk43 : ∀ (σ43 : Mm) (H : Heap) (locs : List Loc) (ls : Array Slot), zh D A0 σ43 GF 740 s.heap H locs → lv_has ls 1 [(0, .ref (A0 + 703))] → k43 σ43 = some (r0, σr) → W p l e (zR 0 0) s m [.ref (A0 + 703)].toArray below meth c H locs 0 0 (MQ below (zQi D A0 r0 σr GF 740) [.ref (A0 + 703)].toArray s 0 0 (zA A0)) (F0 m 43 ls []) := by
    intro  σ43 H locs ls Z hl h
    rw [ek43] at h
    try dsimp only at h
    refine lv_aload_n hx hb dX12_look_43 rfl (lv_at hl 0 rfl) ?_
    refine zw_getI F Z zC12 (a := 703) (k := 10) (by decide) zs_703 (by decide) rfl zq1260 (Or.inl rfl) dX12_look_44 ?_
    refine lv_aload_n hx hb dX12_look_47 rfl (lv_at hl 0 rfl) ?_
    refine zw_getI F Z zC12 (a := 703) (k := 9) (by decide) zs_703 (by decide) rfl zq1259 (Or.inl rfl) dX12_look_48 ?_
    refine zb_icge (tgt := 75) hx hb dX12_look_51 (by decide) h (fun h => ?_) (fun h => ?_)
    · refine lv_iconst (v := (-1)) hx hb dX12_look_75 (by decide) ?_
      obtain ⟨hq1, hq2⟩ := zpq h
      exact ze_i F Z hr hlocks hq1 hq2 dX12_look_76
    · refine lv_aload_n hx hb dX12_look_54 rfl (lv_at hl 0 rfl) ?_
      obtain ⟨hk55, h⟩ := ck_x h
      refine zw_getM F Z zC12 (a := 703) (k := 5) (by decide) zs_703 (by decide) rfl (zB_nz hk55) zq1255 (Or.inl rfl) dX12_look_55 ?_
      refine lv_aload_n hx hb dX12_look_58 rfl (lv_at hl 0 rfl) ?_
      refine zw_getI F Z zC12 (a := 703) (k := 8) (by decide) zs_703 (by decide) rfl zq1258 (Or.inl rfl) dX12_look_59 ?_
      refine lv_aload_n hx hb dX12_look_62 rfl (lv_at hl 0 rfl) ?_
      refine zw_getI F Z zC12 (a := 703) (k := 10) (by decide) zs_703 (by decide) rfl zq1260 (Or.inl rfl) dX12_look_63 ?_
      refine lv_iadd hx hb dX12_look_66 ?_
      obtain ⟨hk67, h⟩ := ck_x h
      refine zw_bald F Z (zltB hk55) (zsB_ hk55) hk67 dX12_look_67 ?_
      refine lv_sipush (v := 255) hx hb dX12_look_68 (by decide) ?_
      refine lv_iand hx hb dX12_look_71 ?_
      refine lv_goto (tgt := 76) hx hb dX12_look_72 (by decide) ?_
      obtain ⟨hq1, hq2⟩ := zpq h
      exact ze_i F Z hr hlocks hq1 hq2 dX12_look_76
  have hL0 : ∀ (fu0 : Nat) (σ0 : Mm) (H : Heap) (locs : List Loc) (ls : Array Slot), zh D A0 σ0 GF 740 s.heap H locs → lv_has ls 1 [(0, .ref (A0 + 703))] → zfX12_look_L0 k43 fu0  σ0 = some (r0, σr) → W p l e (zR 0 0) s m [.ref (A0 + 703)].toArray below meth c H locs 0 0 (MQ below (zQi D A0 r0 σr GF 740) [.ref (A0 + 703)].toArray s 0 0 (zA A0)) (F0 m 0 ls []) := by
    intro fu0
    induction fu0 with
    | zero => intro  σ0 H locs ls Z hl h; rw [zfX12_look_L0] at h; cases h
    | succ fu0 ih0 =>
      intro  σ0 H locs ls Z hl h
      rw [zfX12_look_L0] at h
      refine lv_aload_n hx hb dX12_look_0 rfl (lv_at hl 0 rfl) ?_
      refine zw_getI F Z zC12 (a := 703) (k := 10) (by decide) zs_703 (by decide) rfl zq1260 (Or.inl rfl) dX12_look_1 ?_
      refine lv_aload_n hx hb dX12_look_4 rfl (lv_at hl 0 rfl) ?_
      refine zw_getI F Z zC12 (a := 703) (k := 9) (by decide) zs_703 (by decide) rfl zq1259 (Or.inl rfl) dX12_look_5 ?_
      refine zb_icge (tgt := 43) hx hb dX12_look_8 (by decide) h (fun h => ?_) (fun h => ?_)
      · exact hk43 σ0 _ _ _ Z (lv_sub hl [0] rfl) h
      · refine lv_aload_n hx hb dX12_look_11 rfl (lv_at hl 0 rfl) ?_
        obtain ⟨hk12, h⟩ := ck_x h
        refine zw_getM F Z zC12 (a := 703) (k := 5) (by decide) zs_703 (by decide) rfl (zB_nz hk12) zq1255 (Or.inl rfl) dX12_look_12 ?_
        refine lv_aload_n hx hb dX12_look_15 rfl (lv_at hl 0 rfl) ?_
        refine zw_getI F Z zC12 (a := 703) (k := 8) (by decide) zs_703 (by decide) rfl zq1258 (Or.inl rfl) dX12_look_16 ?_
        refine lv_aload_n hx hb dX12_look_19 rfl (lv_at hl 0 rfl) ?_
        refine zw_getI F Z zC12 (a := 703) (k := 10) (by decide) zs_703 (by decide) rfl zq1260 (Or.inl rfl) dX12_look_20 ?_
        refine lv_iadd hx hb dX12_look_23 ?_
        obtain ⟨hk24, h⟩ := ck_x h
        refine zw_bald F Z (zltB hk12) (zsB_ hk12) hk24 dX12_look_24 ?_
        refine lv_bipush (v := 32) hx hb dX12_look_25 (by decide) ?_
        refine zb_icne (tgt := 43) hx hb dX12_look_27 (by decide) h (fun h => ?_) (fun h => ?_)
        · exact hk43 σ0 _ _ _ Z (lv_sub hl [0] rfl) h
        · refine lv_aload_n hx hb dX12_look_30 rfl (lv_at hl 0 rfl) ?_
          refine lv_dup hx hb dX12_look_31 rfl ?_
          refine zw_getI F Z zC12 (a := 703) (k := 10) (by decide) zs_703 (by decide) rfl zq1260 (Or.inl rfl) dX12_look_32 ?_
          refine lv_iconst (v := 1) hx hb dX12_look_35 (by decide) ?_
          refine lv_iadd hx hb dX12_look_36 ?_
          refine zw_putI F Z zC12 (a := 703) (k := 10) (by decide) zs_703 (by decide) rfl (by decide) zq1260 (Or.inl rfl) rfl ⟨rfl, rfl⟩ dX12_look_37 (fun σ37 _ _ eσ37 Z => ?_)
          replace h := lt_w h eσ37
          refine lv_goto (tgt := 0) hx hb dX12_look_40 (by decide) ?_
          exact ih0 σ37 _ _ _ Z (lv_sub hl [0] rfl) h
  exact hL0 NF σ _ _ _ Z (lv_sub hl [0] rfl) h
set_option maxHeartbeats 4000000 in
set_option maxRecDepth 100000 in
theorem zcX12_fails (l : Launch) (D : va_G) (A0 : Nat) (σ : Mm) (r0 : Int32) (σr : Mm) (h : zfX12_fails σ = some (r0, σr)) : Met l yX12_fails (zws yX12_fails cX12_fails 1 (some .boolean)) (zR 0 0) (zPc D A0 σ GF 740 [.ref (A0 + 703)]) (zQi D A0 r0 σr GF 740) 0 0 (zA A0) := by
  unfold zfX12_fails at h
  refine zmet (own := RX12) (by decide) rfl (Nat.le_of_ble_eq_true rfl) ?_
  intro p e s m below meth c F hr hlocks _ Z ls hl
  have hl : lv_has ls 1 [(0, .ref (A0 + 703))] := hl
  have hx := F.1.1
  have hb := F.1.2.1
  have hown := F.1.2.2.2.1
  have hts := F.1.2.2.2.2
  refine lv_aload_n hx hb dX12_fails_0 rfl (lv_at hl 0 rfl) ?_
  refine zw_getI F Z zC12 (a := 703) (k := 11) (by decide) zs_703 (by decide) rfl zq1261 (Or.inl rfl) dX12_fails_1 ?_
  refine lv_iconst (v := (-1)) hx hb dX12_fails_4 (by decide) ?_
  obtain ⟨j16, ej16, h⟩ := lt_x h
  have hj16 : ∀ (σ16 : Mm) (H : Heap) (locs : List Loc) (ls : Array Slot), zh D A0 σ16 GF 740 s.heap H locs → lv_has ls 1 [] → j16 σ16 = some (r0, σr) → W p l e (zR 0 0) s m [.ref (A0 + 703)].toArray below meth c H locs 0 0 (MQ below (zQi D A0 r0 σr GF 740) [.ref (A0 + 703)].toArray s 0 0 (zA A0)) (F0 m 16 ls []) := by
    intro  σ16 H locs ls Z hl h
    rw [ej16] at h
    try dsimp only at h
    refine lv_iconst (v := 0) hx hb dX12_fails_16 (by decide) ?_
    obtain ⟨hq1, hq2⟩ := zpq h
    exact ze_z F Z hr hlocks (by decide) hq1 hq2 dX12_fails_17
  refine zb_icne (tgt := 16) hx hb dX12_fails_5 (by decide) h (fun h => ?_) (fun h => ?_)
  · exact hj16 σ _ _ _ Z (lv_sub hl [] rfl) h
  · refine lv_aload_n hx hb dX12_fails_8 rfl (lv_at hl 0 rfl) ?_
    refine lv_aload_n hx hb dX12_fails_9 rfl (lv_at hl 0 rfl) ?_
    refine zw_getI F Z zC12 (a := 703) (k := 10) (by decide) zs_703 (by decide) rfl zq1260 (Or.inl rfl) dX12_fails_10 ?_
    refine zw_putI F Z zC12 (a := 703) (k := 11) (by decide) zs_703 (by decide) rfl (by decide) zq1261 (Or.inl rfl) rfl ⟨rfl, rfl⟩ dX12_fails_13 (fun σ13 _ _ eσ13 Z => ?_)
    replace h := lt_w h eσ13
    exact hj16 σ13 _ _ _ Z (lv_sub hl [] rfl) h
set_option maxHeartbeats 4000000 in
set_option maxRecDepth 100000 in
theorem zcX12_goesIn (l : Launch) (D : va_G) (A0 : Nat) (σ : Mm) (r0 : Int32) (σr : Mm) (h : zfX12_goesIn σ = some (r0, σr)) : Met l yX12_goesIn (zws yX12_goesIn cX12_goesIn 1 (some .boolean)) (zR 1 20) (zPc D A0 σ GF 740 [.ref (A0 + 703)]) (zQi D A0 r0 σr GF 740) 0 0 (zA A0) := by
  unfold zfX12_goesIn at h
  refine zmet (own := RX12) (by decide) rfl (Nat.le_of_ble_eq_true rfl) ?_
  intro p e s m below meth c F hr hlocks _ Z ls hl
  have hl : lv_has ls 1 [(0, .ref (A0 + 703))] := hl
  have hx := F.1.1
  have hb := F.1.2.1
  have hown := F.1.2.2.2.1
  have hts := F.1.2.2.2.2
  refine lv_aload_n hx hb dX12_goesIn_0 rfl (lv_at hl 0 rfl) ?_
  refine zw_getI F Z zC12 (a := 703) (k := 12) (by decide) zs_703 (by decide) rfl zq1262 (Or.inl rfl) dX12_goesIn_1 ?_
  refine lv_bipush (v := 6) hx hb dX12_goesIn_4 (by decide) ?_
  refine zb_icne (tgt := 14) hx hb dX12_goesIn_6 (by decide) h (fun h => ?_) (fun h => ?_)
  · refine lv_aload_n hx hb dX12_goesIn_14 rfl (lv_at hl 0 rfl) ?_
    refine lv_dup hx hb dX12_goesIn_15 rfl ?_
    refine zw_getI F Z zC12 (a := 703) (k := 12) (by decide) zs_703 (by decide) rfl zq1262 (Or.inl rfl) dX12_goesIn_16 ?_
    refine lv_iconst (v := 1) hx hb dX12_goesIn_19 (by decide) ?_
    refine lv_iadd hx hb dX12_goesIn_20 ?_
    refine zw_putI F Z zC12 (a := 703) (k := 12) (by decide) zs_703 (by decide) rfl (by decide) zq1262 (Or.inl rfl) rfl ⟨rfl, rfl⟩ dX12_goesIn_21 (fun σ21 _ _ eσ21 Z => ?_)
    replace h := lt_w h eσ21
    refine lv_aload_n hx hb dX12_goesIn_24 rfl (lv_at hl 0 rfl) ?_
    refine lv_dup hx hb dX12_goesIn_25 rfl ?_
    refine zw_getI F Z zC12 (a := 703) (k := 10) (by decide) zs_703 (by decide) rfl zq1260 (Or.inl rfl) dX12_goesIn_26 ?_
    refine lv_iconst (v := 1) hx hb dX12_goesIn_29 (by decide) ?_
    refine lv_iadd hx hb dX12_goesIn_30 ?_
    refine zw_putI F Z zC12 (a := 703) (k := 10) (by decide) zs_703 (by decide) rfl (by decide) zq1260 (Or.inl rfl) rfl ⟨rfl, rfl⟩ dX12_goesIn_31 (fun σ31 _ _ eσ31 Z => ?_)
    replace h := lt_w h eσ31
    refine lv_iconst (v := 1) hx hb dX12_goesIn_34 (by decide) ?_
    obtain ⟨hq1, hq2⟩ := zpq h
    exact ze_z F Z hr hlocks (by decide) hq1 hq2 dX12_goesIn_35
  · refine lv_aload_n hx hb dX12_goesIn_9 rfl (lv_at hl 0 rfl) ?_
    obtain ⟨r10, σ10, hc10, h⟩ := bd2_x h
    refine zc_i Z (zr_V F Z (a := 703) (As := []) (zcX12_fails l D A0 σ r10 σ10 hc10) zBX12_fails zq1518 (by decide) zs_703 zC12.1 rfl ⟨⟨rfl, rfl⟩, Nat.le_of_ble_eq_true rfl, Nat.le_of_ble_eq_true rfl⟩ hl.1 rfl (Nat.le_of_ble_eq_true rfl) dX12_goesIn_10 ⟨Nat.le_of_ble_eq_true rfl, Nat.le_of_ble_eq_true rfl⟩) (fun _ _ Z => ?_)
    obtain ⟨hz13, h⟩ := ck_x h
    obtain ⟨hq1, hq2⟩ := zpq h
    exact ze_z F Z hr hlocks hz13 hq1 hq2 dX12_goesIn_13
set_option maxHeartbeats 4000000 in
set_option maxRecDepth 100000 in
theorem zcX12_takes (l : Launch) (D : va_G) (A0 : Nat) (x1 : Int32) (σ : Mm) (r0 : Int32) (σr : Mm) (h : zfX12_takes x1 σ = some (r0, σr)) : Met l yX12_takes (zws yX12_takes cX12_takes 2 (some .boolean)) (zR 1 20) (zPc D A0 σ GF 740 [.ref (A0 + 703), .int x1]) (zQi D A0 r0 σr GF 740) 0 0 (zA A0) := by
  unfold zfX12_takes at h
  refine zmet (own := RX12) (by decide) rfl (Nat.le_of_ble_eq_true rfl) ?_
  intro p e s m below meth c F hr hlocks _ Z ls hl
  have hl : lv_has ls 2 [(0, .ref (A0 + 703)), (1, .int x1)] := hl
  have hx := F.1.1
  have hb := F.1.2.1
  have hown := F.1.2.2.2.1
  have hts := F.1.2.2.2.2
  refine lv_aload_n hx hb dX12_takes_0 rfl (lv_at hl 0 rfl) ?_
  refine zw_getI F Z zC12 (a := 703) (k := 11) (by decide) zs_703 (by decide) rfl zq1261 (Or.inl rfl) dX12_takes_1 ?_
  refine lv_iconst (v := (-1)) hx hb dX12_takes_4 (by decide) ?_
  obtain ⟨j16, ej16, h⟩ := lt_x h
  have hj16 : ∀ (σ16 : Mm) (H : Heap) (locs : List Loc) (ls : Array Slot), zh D A0 σ16 GF 740 s.heap H locs → lv_has ls 2 [(0, .ref (A0 + 703))] → j16 σ16 = some (r0, σr) → W p l e (zR 1 20) s m [.ref (A0 + 703), .int x1].toArray below meth c H locs 0 0 (MQ below (zQi D A0 r0 σr GF 740) [.ref (A0 + 703), .int x1].toArray s 0 0 (zA A0)) (F0 m 16 ls []) := by
    intro  σ16 H locs ls Z hl h
    rw [ej16] at h
    try dsimp only at h
    refine lv_aload_n hx hb dX12_takes_16 rfl (lv_at hl 0 rfl) ?_
    obtain ⟨r17, σ17, hc17, h⟩ := bd2_x h
    refine zc_i Z (zr_V F Z (a := 703) (As := []) (zcX12_fails l D A0 σ16 r17 σ17 hc17) zBX12_fails zq1518 (by decide) zs_703 zC12.1 rfl ⟨⟨rfl, rfl⟩, Nat.le_of_ble_eq_true rfl, Nat.le_of_ble_eq_true rfl⟩ hl.1 rfl (Nat.le_of_ble_eq_true rfl) dX12_takes_17 ⟨Nat.le_of_ble_eq_true rfl, Nat.le_of_ble_eq_true rfl⟩) (fun _ _ Z => ?_)
    obtain ⟨hz20, h⟩ := ck_x h
    obtain ⟨hq1, hq2⟩ := zpq h
    exact ze_z F Z hr hlocks hz20 hq1 hq2 dX12_takes_20
  refine zb_icne (tgt := 16) hx hb dX12_takes_5 (by decide) h (fun h => ?_) (fun h => ?_)
  · exact hj16 σ _ _ _ Z (lv_sub hl [0] rfl) h
  · refine lv_aload_n hx hb dX12_takes_8 rfl (lv_at hl 0 rfl) ?_
    obtain ⟨r9, σ9, hc9, h⟩ := bd2_x h
    refine zc_i Z (zr_V F Z (a := 703) (As := []) (zcX12_look l D A0 σ r9 σ9 hc9) zBX12_look zq1514 (by decide) zs_703 zC12.1 rfl ⟨⟨rfl, rfl⟩, Nat.le_of_ble_eq_true rfl, Nat.le_of_ble_eq_true rfl⟩ hl.1 rfl (Nat.le_of_ble_eq_true rfl) dX12_takes_9 ⟨Nat.le_of_ble_eq_true rfl, Nat.le_of_ble_eq_true rfl⟩) (fun _ _ Z => ?_)
    refine lv_iload_n hx hb dX12_takes_12 rfl (lv_at hl 1 rfl) ?_
    refine zb_iceq (tgt := 21) hx hb dX12_takes_13 (by decide) h (fun h => ?_) (fun h => ?_)
    · refine lv_aload_n hx hb dX12_takes_21 rfl (lv_at hl 0 rfl) ?_
      refine lv_dup hx hb dX12_takes_22 rfl ?_
      refine zw_getI F Z zC12 (a := 703) (k := 10) (by decide) zs_703 (by decide) rfl zq1260 (Or.inl rfl) dX12_takes_23 ?_
      refine lv_iconst (v := 1) hx hb dX12_takes_26 (by decide) ?_
      refine lv_iadd hx hb dX12_takes_27 ?_
      refine zw_putI F Z zC12 (a := 703) (k := 10) (by decide) zs_703 (by decide) rfl (by decide) zq1260 (Or.inl rfl) rfl ⟨rfl, rfl⟩ dX12_takes_28 (fun σ28 _ _ eσ28 Z => ?_)
      replace h := lt_w h eσ28
      refine lv_iconst (v := 1) hx hb dX12_takes_31 (by decide) ?_
      obtain ⟨hq1, hq2⟩ := zpq h
      exact ze_z F Z hr hlocks (by decide) hq1 hq2 dX12_takes_32
    · exact hj16 σ9 _ _ _ Z (lv_sub hl [0] rfl) h
set_option maxHeartbeats 4000000 in
set_option maxRecDepth 100000 in
theorem zcX12_isDigit (l : Launch) (D : va_G) (A0 : Nat) (σ : Mm) (r0 : Int32) (h : zfX12_isDigit σ = some r0) : Met l yX12_isDigit (zws yX12_isDigit cX12_isDigit 1 (some .boolean)) (zR 0 0) (zPc D A0 σ GF 740 [.ref (A0 + 703)]) (zQi D A0 r0 σ GF 740) 0 0 (zA A0) := by
  unfold zfX12_isDigit at h
  refine zmet (own := RX12) (by decide) rfl (Nat.le_of_ble_eq_true rfl) ?_
  intro p e s m below meth c F hr hlocks _ Z ls hl
  have hl : lv_has ls 1 [(0, .ref (A0 + 703))] := hl
  have hx := F.1.1
  have hb := F.1.2.1
  have hown := F.1.2.2.2.1
  have hts := F.1.2.2.2.2
  refine lv_aload_n hx hb dX12_isDigit_0 rfl (lv_at hl 0 rfl) ?_
  refine zw_getI F Z zC12 (a := 703) (k := 10) (by decide) zs_703 (by decide) rfl zq1260 (Or.inl rfl) dX12_isDigit_1 ?_
  refine lv_aload_n hx hb dX12_isDigit_4 rfl (lv_at hl 0 rfl) ?_
  refine zw_getI F Z zC12 (a := 703) (k := 9) (by decide) zs_703 (by decide) rfl zq1259 (Or.inl rfl) dX12_isDigit_5 ?_
  obtain ⟨j53, ej53, h⟩ := lt_x h
  have hj53 : ∀  (H : Heap) (locs : List Loc) (ls : Array Slot), zh D A0 σ GF 740 s.heap H locs → lv_has ls 1 [] → j53 () = some r0 → W p l e (zR 0 0) s m [.ref (A0 + 703)].toArray below meth c H locs 0 0 (MQ below (zQi D A0 r0 σ GF 740) [.ref (A0 + 703)].toArray s 0 0 (zA A0)) (F0 m 53 ls []) := by
    intro  H locs ls Z hl h
    rw [ej53] at h
    try dsimp only at h
    refine lv_iconst (v := 0) hx hb dX12_isDigit_53 (by decide) ?_
    have hq := Option.some.inj h
    exact ze_z F Z hr hlocks (by decide) hq rfl dX12_isDigit_54
  refine zb_icge (tgt := 53) hx hb dX12_isDigit_8 (by decide) h (fun h => ?_) (fun h => ?_)
  · exact hj53  _ _ _ Z (lv_sub hl [] rfl) h
  · refine lv_aload_n hx hb dX12_isDigit_11 rfl (lv_at hl 0 rfl) ?_
    obtain ⟨hk12, h⟩ := ck_x h
    refine zw_getM F Z zC12 (a := 703) (k := 5) (by decide) zs_703 (by decide) rfl (zB_nz hk12) zq1255 (Or.inl rfl) dX12_isDigit_12 ?_
    refine lv_aload_n hx hb dX12_isDigit_15 rfl (lv_at hl 0 rfl) ?_
    refine zw_getI F Z zC12 (a := 703) (k := 8) (by decide) zs_703 (by decide) rfl zq1258 (Or.inl rfl) dX12_isDigit_16 ?_
    refine lv_aload_n hx hb dX12_isDigit_19 rfl (lv_at hl 0 rfl) ?_
    refine zw_getI F Z zC12 (a := 703) (k := 10) (by decide) zs_703 (by decide) rfl zq1260 (Or.inl rfl) dX12_isDigit_20 ?_
    refine lv_iadd hx hb dX12_isDigit_23 ?_
    obtain ⟨hk24, h⟩ := ck_x h
    refine zw_bald F Z (zltB hk12) (zsB_ hk12) hk24 dX12_isDigit_24 ?_
    refine lv_bipush (v := 48) hx hb dX12_isDigit_25 (by decide) ?_
    refine zb_iclt (tgt := 53) hx hb dX12_isDigit_27 (by decide) h (fun h => ?_) (fun h => ?_)
    · exact hj53  _ _ _ Z (lv_sub hl [] rfl) h
    · refine lv_aload_n hx hb dX12_isDigit_30 rfl (lv_at hl 0 rfl) ?_
      obtain ⟨hk31, h⟩ := ck_x h
      refine zw_getM F Z zC12 (a := 703) (k := 5) (by decide) zs_703 (by decide) rfl (zB_nz hk31) zq1255 (Or.inl rfl) dX12_isDigit_31 ?_
      refine lv_aload_n hx hb dX12_isDigit_34 rfl (lv_at hl 0 rfl) ?_
      refine zw_getI F Z zC12 (a := 703) (k := 8) (by decide) zs_703 (by decide) rfl zq1258 (Or.inl rfl) dX12_isDigit_35 ?_
      refine lv_aload_n hx hb dX12_isDigit_38 rfl (lv_at hl 0 rfl) ?_
      refine zw_getI F Z zC12 (a := 703) (k := 10) (by decide) zs_703 (by decide) rfl zq1260 (Or.inl rfl) dX12_isDigit_39 ?_
      refine lv_iadd hx hb dX12_isDigit_42 ?_
      obtain ⟨hk43, h⟩ := ck_x h
      refine zw_bald F Z (zltB hk31) (zsB_ hk31) hk43 dX12_isDigit_43 ?_
      refine lv_bipush (v := 57) hx hb dX12_isDigit_44 (by decide) ?_
      refine zb_icgt (tgt := 53) hx hb dX12_isDigit_46 (by decide) h (fun h => ?_) (fun h => ?_)
      · exact hj53  _ _ _ Z (lv_sub hl [] rfl) h
      · refine lv_iconst (v := 1) hx hb dX12_isDigit_49 (by decide) ?_
        refine lv_goto (tgt := 54) hx hb dX12_isDigit_50 (by decide) ?_
        have hq := Option.some.inj h
        exact ze_z F Z hr hlocks (by decide) hq rfl dX12_isDigit_54
set_option maxHeartbeats 4000000 in
set_option maxRecDepth 100000 in
theorem zcX12_within (l : Launch) (D : va_G) (A0 : Nat) (x0 : Int64) (σ : Mm) (r0 : Int32) (h : zfX12_within x0 = r0) : Met l yX12_within (zws yX12_within cX12_within 2 (some .int)) (zR 1 40) (zPc D A0 σ GF 740 [.long x0]) (zQi D A0 r0 σ GF 740) 0 0 (zA A0) := by
  unfold zfX12_within at h
  refine zmet (own := RX12) (by decide) rfl (Nat.le_of_ble_eq_true rfl) ?_
  intro p e s m below meth c F hr hlocks _ Z ls hl
  have hl : lv_has ls 2 [(0, .long x0)] := hl
  have hx := F.1.1
  have hb := F.1.2.1
  have hown := F.1.2.2.2.1
  have hts := F.1.2.2.2.2
  refine lv_ldc2 (v := (-1000000)) hx hb hown (hts _ zq1594) dX12_within_0 ?_
  refine lv_ldc2 (v := 1000000) hx hb hown (hts _ zq1595) dX12_within_3 ?_
  refine lv_lload_n hx hb dX12_within_6 rfl (lv_at hl 0 rfl) ?_
  refine zw_zminL F hl.1 zq1596 (Nat.le_of_ble_eq_true rfl) (Nat.le_of_ble_eq_true rfl) (Nat.le_of_ble_eq_true rfl) (Nat.le_of_ble_eq_true rfl) dX12_within_7 ?_
  refine zw_zmaxL F hl.1 zq1597 (Nat.le_of_ble_eq_true rfl) (Nat.le_of_ble_eq_true rfl) (Nat.le_of_ble_eq_true rfl) (Nat.le_of_ble_eq_true rfl) dX12_within_10 ?_
  refine lv_l2i hx hb dX12_within_13 rfl ?_
  exact ze_i F Z hr hlocks h rfl dX12_within_14
set_option maxHeartbeats 4000000 in
set_option maxRecDepth 100000 in
theorem zcX12_atom (l : Launch) (D : va_G) (A0 : Nat) (zrec : Mm → Option (Int32 × Mm)) (dd : Nat) (hrec : ∀ (σ : Mm) (r0 : Int32) (σr : Mm) (h : zrec σ = some (r0, σr)), Met l yX12_sum (zws yX12_sum cX12_sum 5 (some .int)) (zR (10 * dd + 40) (400 * dd + 1500)) (zPc D A0 σ GF 740 [.ref (A0 + 703)]) (zQi D A0 r0 σr GF 740) 0 0 (zA A0)) (σ : Mm) (r0 : Int32) (σr : Mm) (h : zfX12_atom zrec σ = some (r0, σr)) : Met l yX12_atom (zws yX12_atom cX12_atom 4 (some .int)) (zR (10 * dd + 42) (400 * dd + 1600)) (zPc D A0 σ GF 740 [.ref (A0 + 703)]) (zQi D A0 r0 σr GF 740) 0 0 (zA A0) := by
  unfold zfX12_atom at h
  refine zmet (own := RX12) (by decide) rfl (Nat.le_of_ble_eq_true rfl) ?_
  intro p e s m below meth c F hr hlocks _ Z ls hl
  have hl : lv_has ls 4 [(0, .ref (A0 + 703))] := hl
  have hx := F.1.1
  have hb := F.1.2.1
  have hown := F.1.2.2.2.1
  have hts := F.1.2.2.2.2
  refine lv_aload_n hx hb dX12_atom_0 rfl (lv_at hl 0 rfl) ?_
  obtain ⟨r1, σ1, hc1, h⟩ := bd2_x h
  refine zc_i Z (zr_V F Z (a := 703) (As := []) (zcX12_look l D A0 σ r1 σ1 hc1) zBX12_look zq1514 (by decide) zs_703 zC12.1 rfl ⟨⟨rfl, rfl⟩, by dsimp only [zR, RD]; omega, by dsimp only [zR, RD]; omega⟩ hl.1 rfl (Nat.le_of_ble_eq_true rfl) dX12_atom_1 ⟨Nat.le_of_ble_eq_true rfl, Nat.le_of_ble_eq_true rfl⟩) (fun _ _ Z => ?_)
  refine lv_istore_n (lv' := [(1, .int r1), (0, .ref (A0 + 703))]) hx hb dX12_atom_4 rfl hl (by decide) rfl (fun ls hl => ?_)
  refine zw_ldcS F (i := 1) (tx := "pgcduw") (by decide) dX12_atom_5 ?_
  refine lv_iload_n hx hb dX12_atom_7 rfl (lv_at hl 0 rfl) ?_
  obtain ⟨r8, hc8, h⟩ := bd_x h
  refine zc_i Z (zr_S F Z (As := [.ref (D.1 (60 + 1)), .int r1]) (zcX12_isAmong l D A0 1 r1 (by decide) σ1 r8 hc8) zBX12_isAmong zq1556 rfl ⟨⟨rfl, rfl⟩, by dsimp only [zR, RD]; omega, by dsimp only [zR, RD]; omega⟩ hl.1 rfl (Nat.le_of_ble_eq_true rfl) dX12_atom_8 ⟨Nat.le_of_ble_eq_true rfl, Nat.le_of_ble_eq_true rfl⟩) (fun _ _ Z => ?_)
  refine zb_ifeq (tgt := 31) hx hb dX12_atom_11 (by decide) h (fun h => ?_) (fun h => ?_)
  · refine lv_iload_n hx hb dX12_atom_31 rfl (lv_at hl 0 rfl) ?_
    refine lv_bipush (v := 91) hx hb dX12_atom_32 (by decide) ?_
    refine zb_icne (tgt := 74) hx hb dX12_atom_34 (by decide) h (fun h => ?_) (fun h => ?_)
    · refine lv_aload_n hx hb dX12_atom_74 rfl (lv_at hl 1 rfl) ?_
      obtain ⟨r75, hc75, h⟩ := bd_x h
      refine zc_i Z (zr_V F Z (a := 703) (As := []) (zcX12_isDigit l D A0 σ1 r75 hc75) zBX12_isDigit zq1540 (by decide) zs_703 zC12.1 rfl ⟨⟨rfl, rfl⟩, by dsimp only [zR, RD]; omega, by dsimp only [zR, RD]; omega⟩ hl.1 rfl (Nat.le_of_ble_eq_true rfl) dX12_atom_75 ⟨Nat.le_of_ble_eq_true rfl, Nat.le_of_ble_eq_true rfl⟩) (fun _ _ Z => ?_)
      obtain ⟨j86, ej86, h⟩ := lt_x h
      have hj86 : ∀ (σ86 : Mm) (H : Heap) (locs : List Loc) (ls : Array Slot), zh D A0 σ86 GF 740 s.heap H locs → lv_has ls 4 [(0, .ref (A0 + 703))] → j86 σ86 = some (r0, σr) → W p l e (zR (10 * dd + 42) (400 * dd + 1600)) s m [.ref (A0 + 703)].toArray below meth c H locs 0 0 (MQ below (zQi D A0 r0 σr GF 740) [.ref (A0 + 703)].toArray s 0 0 (zA A0)) (F0 m 86 ls []) := by
        intro  σ86 H locs ls Z hl h
        rw [ej86] at h
        try dsimp only at h
        refine lv_iconst (v := 0) hx hb dX12_atom_86 (by decide) ?_
        refine lv_istore_n (lv' := [(2, .int 0), (0, .ref (A0 + 703))]) hx hb dX12_atom_87 rfl hl (by decide) rfl (fun ls hl => ?_)
        refine lv_iconst (v := 0) hx hb dX12_atom_88 (by decide) ?_
        refine lv_istore_n (lv' := [(3, .int 0), (2, .int 0), (0, .ref (A0 + 703))]) hx hb dX12_atom_89 rfl hl (by decide) rfl (fun ls hl => ?_)
        obtain ⟨k110, ek110, h⟩ := lt_x h
        have hk110 : ∀ (σ110 : Mm) (H : Heap) (locs : List Loc) (ls : Array Slot), zh D A0 σ110 GF 740 s.heap H locs → lv_has ls 4 [(0, .ref (A0 + 703))] → k110 σ110 = some (r0, σr) → W p l e (zR (10 * dd + 42) (400 * dd + 1600)) s m [.ref (A0 + 703)].toArray below meth c H locs 0 0 (MQ below (zQi D A0 r0 σr GF 740) [.ref (A0 + 703)].toArray s 0 0 (zA A0)) (F0 m 110 ls []) := by
          intro  σ110 H locs ls Z hl h
          rw [ek110] at h
          try dsimp only at h
          refine lv_aload_n hx hb dX12_atom_110 rfl (lv_at hl 0 rfl) ?_
          obtain ⟨r111, σ111, hc111, h⟩ := bd2_x h
          refine zc_i Z (zr_V F Z (a := 703) (As := []) (zcX12_fails l D A0 σ110 r111 σ111 hc111) zBX12_fails zq1518 (by decide) zs_703 zC12.1 rfl ⟨⟨rfl, rfl⟩, by dsimp only [zR, RD]; omega, by dsimp only [zR, RD]; omega⟩ hl.1 rfl (Nat.le_of_ble_eq_true rfl) dX12_atom_111 ⟨Nat.le_of_ble_eq_true rfl, Nat.le_of_ble_eq_true rfl⟩) (fun _ _ Z => ?_)
          refine lv_pop hx hb dX12_atom_114 rfl ?_
          refine lv_iconst (v := 0) hx hb dX12_atom_115 (by decide) ?_
          obtain ⟨hq1, hq2⟩ := zpq h
          exact ze_i F Z hr hlocks hq1 hq2 dX12_atom_116
        obtain ⟨k156, ek156, h⟩ := lt_x h
        have hk156 : ∀ (x2_156 : Int32) (σ156 : Mm) (H : Heap) (locs : List Loc) (ls : Array Slot), zh D A0 σ156 GF 740 s.heap H locs → lv_has ls 4 [(2, .int x2_156)] → k156 x2_156 σ156 = some (r0, σr) → W p l e (zR (10 * dd + 42) (400 * dd + 1600)) s m [.ref (A0 + 703)].toArray below meth c H locs 0 0 (MQ below (zQi D A0 r0 σr GF 740) [.ref (A0 + 703)].toArray s 0 0 (zA A0)) (F0 m 156 ls []) := by
          intro x2_156 σ156 H locs ls Z hl h
          rw [ek156] at h
          try dsimp only at h
          refine lv_iload_n hx hb dX12_atom_156 rfl (lv_at hl 0 rfl) ?_
          obtain ⟨hq1, hq2⟩ := zpq h
          exact ze_i F Z hr hlocks hq1 hq2 dX12_atom_157
        have hL90 : ∀ (fu90 : Nat) (x2_90 : Int32) (x3_90 : Int32) (σ90 : Mm) (H : Heap) (locs : List Loc) (ls : Array Slot), zh D A0 σ90 GF 740 s.heap H locs → lv_has ls 4 [(0, .ref (A0 + 703)), (2, .int x2_90), (3, .int x3_90)] → zfX12_atom_L90 k156 k110 fu90 x2_90 x3_90 σ90 = some (r0, σr) → W p l e (zR (10 * dd + 42) (400 * dd + 1600)) s m [.ref (A0 + 703)].toArray below meth c H locs 0 0 (MQ below (zQi D A0 r0 σr GF 740) [.ref (A0 + 703)].toArray s 0 0 (zA A0)) (F0 m 90 ls []) := by
          intro fu90
          induction fu90 with
          | zero => intro x2_90 x3_90 σ90 H locs ls Z hl h; rw [zfX12_atom_L90] at h; cases h
          | succ fu90 ih90 =>
            intro x2_90 x3_90 σ90 H locs ls Z hl h
            rw [zfX12_atom_L90] at h
            refine lv_aload_n hx hb dX12_atom_90 rfl (lv_at hl 0 rfl) ?_
            obtain ⟨r91, hc91, h⟩ := bd_x h
            refine zc_i Z (zr_V F Z (a := 703) (As := []) (zcX12_isDigit l D A0 σ90 r91 hc91) zBX12_isDigit zq1540 (by decide) zs_703 zC12.1 rfl ⟨⟨rfl, rfl⟩, by dsimp only [zR, RD]; omega, by dsimp only [zR, RD]; omega⟩ hl.1 rfl (Nat.le_of_ble_eq_true rfl) dX12_atom_91 ⟨Nat.le_of_ble_eq_true rfl, Nat.le_of_ble_eq_true rfl⟩) (fun _ _ Z => ?_)
            refine zb_ifeq (tgt := 156) hx hb dX12_atom_94 (by decide) h (fun h => ?_) (fun h => ?_)
            · exact hk156 x2_90 σ90 _ _ _ Z (lv_sub hl [1] rfl) h
            · refine lv_aload_n hx hb dX12_atom_97 rfl (lv_at hl 0 rfl) ?_
              refine zw_getI F Z zC12 (a := 703) (k := 11) (by decide) zs_703 (by decide) rfl zq1261 (Or.inl rfl) dX12_atom_98 ?_
              refine lv_iconst (v := (-1)) hx hb dX12_atom_101 (by decide) ?_
              refine zb_icne (tgt := 156) hx hb dX12_atom_102 (by decide) h (fun h => ?_) (fun h => ?_)
              · exact hk156 x2_90 σ90 _ _ _ Z (lv_sub hl [1] rfl) h
              · refine lv_iload_n hx hb dX12_atom_105 rfl (lv_at hl 2 rfl) ?_
                refine lv_iconst (v := 4) hx hb dX12_atom_106 (by decide) ?_
                refine zb_icne (tgt := 117) hx hb dX12_atom_107 (by decide) h (fun h => ?_) (fun h => ?_)
                · refine lv_bipush (v := 10) hx hb dX12_atom_117 (by decide) ?_
                  refine lv_iload_n hx hb dX12_atom_119 rfl (lv_at hl 1 rfl) ?_
                  refine lv_imul hx hb dX12_atom_120 ?_
                  refine lv_aload_n hx hb dX12_atom_121 rfl (lv_at hl 0 rfl) ?_
                  obtain ⟨hk122, h⟩ := ck_x h
                  refine zw_getM F Z zC12 (a := 703) (k := 5) (by decide) zs_703 (by decide) rfl (zB_nz hk122) zq1255 (Or.inl rfl) dX12_atom_122 ?_
                  refine lv_aload_n hx hb dX12_atom_125 rfl (lv_at hl 0 rfl) ?_
                  refine zw_getI F Z zC12 (a := 703) (k := 8) (by decide) zs_703 (by decide) rfl zq1258 (Or.inl rfl) dX12_atom_126 ?_
                  refine lv_aload_n hx hb dX12_atom_129 rfl (lv_at hl 0 rfl) ?_
                  refine zw_getI F Z zC12 (a := 703) (k := 10) (by decide) zs_703 (by decide) rfl zq1260 (Or.inl rfl) dX12_atom_130 ?_
                  refine lv_iadd hx hb dX12_atom_133 ?_
                  obtain ⟨hk134, h⟩ := ck_x h
                  refine zw_bald F Z (zltB hk122) (zsB_ hk122) hk134 dX12_atom_134 ?_
                  refine lv_iadd hx hb dX12_atom_135 ?_
                  refine lv_bipush (v := 48) hx hb dX12_atom_136 (by decide) ?_
                  refine lv_isub hx hb dX12_atom_138 ?_
                  refine lv_topi (fun x2_139 ex2_139 => ?_)
                  replace h := lt_w h ex2_139
                  refine lv_istore_n (lv' := [(2, .int x2_139), (0, .ref (A0 + 703)), (3, .int x3_90)]) hx hb dX12_atom_139 rfl hl (by decide) rfl (fun ls hl => ?_)
                  refine lv_aload_n hx hb dX12_atom_140 rfl (lv_at hl 1 rfl) ?_
                  refine lv_dup hx hb dX12_atom_141 rfl ?_
                  refine zw_getI F Z zC12 (a := 703) (k := 10) (by decide) zs_703 (by decide) rfl zq1260 (Or.inl rfl) dX12_atom_142 ?_
                  refine lv_iconst (v := 1) hx hb dX12_atom_145 (by decide) ?_
                  refine lv_iadd hx hb dX12_atom_146 ?_
                  refine zw_putI F Z zC12 (a := 703) (k := 10) (by decide) zs_703 (by decide) rfl (by decide) zq1260 (Or.inl rfl) rfl ⟨rfl, rfl⟩ dX12_atom_147 (fun σ147 _ _ eσ147 Z => ?_)
                  replace h := lt_w h eσ147
                  obtain ⟨x3_150, ex3_150⟩ : ∃ y : Int32, y = x3_90 + 1 := ⟨_, rfl⟩
                  replace h := lt_w h ex3_150
                  refine lv_iinc (v := x3_150) (lv' := [(3, .int x3_150), (2, .int x2_139), (0, .ref (A0 + 703))]) hx hb dX12_atom_150 hl (k := 2) rfl (by rw [ex3_150]; rfl) (by decide) rfl (fun ls hl => ?_)
                  refine lv_goto (tgt := 90) hx hb dX12_atom_153 (by decide) ?_
                  exact ih90 x2_139 x3_150 σ147 _ _ _ Z (lv_sub hl [2, 1, 0] rfl) h
                · exact hk110 σ90 _ _ _ Z (lv_sub hl [0] rfl) h
        exact hL90 NF 0 0 σ86 _ _ _ Z (lv_sub hl [2, 1, 0] rfl) h
      refine zb_ifne (tgt := 86) hx hb dX12_atom_78 (by decide) h (fun h => ?_) (fun h => ?_)
      · exact hj86 σ1 _ _ _ Z (lv_sub hl [1] rfl) h
      · refine lv_aload_n hx hb dX12_atom_81 rfl (lv_at hl 1 rfl) ?_
        obtain ⟨r82, σ82, hc82, h⟩ := bd2_x h
        refine zc_i Z (zr_V F Z (a := 703) (As := []) (zcX12_fails l D A0 σ1 r82 σ82 hc82) zBX12_fails zq1518 (by decide) zs_703 zC12.1 rfl ⟨⟨rfl, rfl⟩, by dsimp only [zR, RD]; omega, by dsimp only [zR, RD]; omega⟩ hl.1 rfl (Nat.le_of_ble_eq_true rfl) dX12_atom_82 ⟨Nat.le_of_ble_eq_true rfl, Nat.le_of_ble_eq_true rfl⟩) (fun _ _ Z => ?_)
        refine lv_pop hx hb dX12_atom_85 rfl ?_
        exact hj86 σ82 _ _ _ Z (lv_sub hl [1] rfl) h
    · refine lv_aload_n hx hb dX12_atom_37 rfl (lv_at hl 1 rfl) ?_
      obtain ⟨r38, σ38, hc38, h⟩ := bd2_x h
      refine zc_i Z (zr_V F Z (a := 703) (As := []) (zcX12_goesIn l D A0 σ1 r38 σ38 hc38) zBX12_goesIn zq1587 (by decide) zs_703 zC12.1 rfl ⟨⟨rfl, rfl⟩, by dsimp only [zR, RD]; omega, by dsimp only [zR, RD]; omega⟩ hl.1 rfl (Nat.le_of_ble_eq_true rfl) dX12_atom_38 ⟨Nat.le_of_ble_eq_true rfl, Nat.le_of_ble_eq_true rfl⟩) (fun _ _ Z => ?_)
      refine zb_ifne (tgt := 46) hx hb dX12_atom_41 (by decide) h (fun h => ?_) (fun h => ?_)
      · refine lv_aload_n hx hb dX12_atom_46 rfl (lv_at hl 1 rfl) ?_
        obtain ⟨r47, σ47, hc47, h⟩ := bd2_x h
        refine zc_i Z (zr_V F Z (a := 703) (As := []) (hrec σ38 r47 σ47 hc47) zBX12_sum zq1575 (by decide) zs_703 zC12.1 rfl ⟨⟨rfl, rfl⟩, by dsimp only [zR, RD]; omega, by dsimp only [zR, RD]; omega⟩ hl.1 rfl (Nat.le_of_ble_eq_true rfl) dX12_atom_47 ⟨Nat.le_of_ble_eq_true rfl, Nat.le_of_ble_eq_true rfl⟩) (fun _ _ Z => ?_)
        refine lv_istore_n (lv' := [(2, .int r47), (1, .int r1), (0, .ref (A0 + 703))]) hx hb dX12_atom_50 rfl hl (by decide) rfl (fun ls hl => ?_)
        refine lv_aload_n hx hb dX12_atom_51 rfl (lv_at hl 2 rfl) ?_
        refine lv_bipush (v := 93) hx hb dX12_atom_52 (by decide) ?_
        obtain ⟨r54, σ54, hc54, h⟩ := bd2_x h
        refine zc_i Z (zr_V F Z (a := 703) (As := [.int 93]) (zcX12_takes l D A0 93 σ47 r54 σ54 hc54) zBX12_takes zq1559 (by decide) zs_703 zC12.1 rfl ⟨⟨rfl, rfl⟩, by dsimp only [zR, RD]; omega, by dsimp only [zR, RD]; omega⟩ hl.1 rfl (Nat.le_of_ble_eq_true rfl) dX12_atom_54 ⟨Nat.le_of_ble_eq_true rfl, Nat.le_of_ble_eq_true rfl⟩) (fun _ _ Z => ?_)
        refine zb_ifne (tgt := 62) hx hb dX12_atom_57 (by decide) h (fun h => ?_) (fun h => ?_)
        · refine lv_aload_n hx hb dX12_atom_62 rfl (lv_at hl 2 rfl) ?_
          refine lv_dup hx hb dX12_atom_63 rfl ?_
          refine zw_getI F Z zC12 (a := 703) (k := 12) (by decide) zs_703 (by decide) rfl zq1262 (Or.inl rfl) dX12_atom_64 ?_
          refine lv_iconst (v := 1) hx hb dX12_atom_67 (by decide) ?_
          refine lv_isub hx hb dX12_atom_68 ?_
          refine zw_putI F Z zC12 (a := 703) (k := 12) (by decide) zs_703 (by decide) rfl (by decide) zq1262 (Or.inl rfl) rfl ⟨rfl, rfl⟩ dX12_atom_69 (fun σ69 _ _ eσ69 Z => ?_)
          replace h := lt_w h eσ69
          refine lv_iload_n hx hb dX12_atom_72 rfl (lv_at hl 0 rfl) ?_
          obtain ⟨hq1, hq2⟩ := zpq h
          exact ze_i F Z hr hlocks hq1 hq2 dX12_atom_73
        · refine lv_iconst (v := 0) hx hb dX12_atom_60 (by decide) ?_
          obtain ⟨hq1, hq2⟩ := zpq h
          exact ze_i F Z hr hlocks hq1 hq2 dX12_atom_61
      · refine lv_iconst (v := 0) hx hb dX12_atom_44 (by decide) ?_
        obtain ⟨hq1, hq2⟩ := zpq h
        exact ze_i F Z hr hlocks hq1 hq2 dX12_atom_45
  · refine lv_aload_n hx hb dX12_atom_14 rfl (lv_at hl 1 rfl) ?_
    refine lv_dup hx hb dX12_atom_15 rfl ?_
    refine zw_getI F Z zC12 (a := 703) (k := 10) (by decide) zs_703 (by decide) rfl zq1260 (Or.inl rfl) dX12_atom_16 ?_
    refine lv_iconst (v := 1) hx hb dX12_atom_19 (by decide) ?_
    refine lv_iadd hx hb dX12_atom_20 ?_
    refine zw_putI F Z zC12 (a := 703) (k := 10) (by decide) zs_703 (by decide) rfl (by decide) zq1260 (Or.inl rfl) rfl ⟨rfl, rfl⟩ dX12_atom_21 (fun σ21 _ _ eσ21 Z => ?_)
    replace h := lt_w h eσ21
    refine lv_aload_n hx hb dX12_atom_24 rfl (lv_at hl 1 rfl) ?_
    refine zw_getR F Z zC12 (a := 703) (k := 4) (by decide) zs_703 (by decide) rfl zg_703_4 zq1254 (Or.inl rfl) dX12_atom_25 ?_
    refine lv_iload_n hx hb dX12_atom_28 rfl (lv_at hl 0 rfl) ?_
    obtain ⟨hk29, h⟩ := ck_x h
    refine zw_iald F Z (by decide) zs_707 hk29 dX12_atom_29 ?_
    obtain ⟨hq1, hq2⟩ := zpq h
    exact ze_i F Z hr hlocks hq1 hq2 dX12_atom_30
set_option maxHeartbeats 4000000 in
set_option maxRecDepth 100000 in
theorem zcX12_term (l : Launch) (D : va_G) (A0 : Nat) (zrec : Mm → Option (Int32 × Mm)) (dd : Nat) (hrec : ∀ (σ : Mm) (r0 : Int32) (σr : Mm) (h : zrec σ = some (r0, σr)), Met l yX12_sum (zws yX12_sum cX12_sum 5 (some .int)) (zR (10 * dd + 40) (400 * dd + 1500)) (zPc D A0 σ GF 740 [.ref (A0 + 703)]) (zQi D A0 r0 σr GF 740) 0 0 (zA A0)) (σ : Mm) (r0 : Int32) (σr : Mm) (h : zfX12_term zrec σ = some (r0, σr)) : Met l yX12_term (zws yX12_term cX12_term 5 (some .int)) (zR (10 * dd + 44) (400 * dd + 1700)) (zPc D A0 σ GF 740 [.ref (A0 + 703)]) (zQi D A0 r0 σr GF 740) 0 0 (zA A0) := by
  unfold zfX12_term at h
  refine zmet (own := RX12) (by decide) rfl (Nat.le_of_ble_eq_true rfl) ?_
  intro p e s m below meth c F hr hlocks _ Z ls hl
  have hl : lv_has ls 5 [(0, .ref (A0 + 703))] := hl
  have hx := F.1.1
  have hb := F.1.2.1
  have hown := F.1.2.2.2.1
  have hts := F.1.2.2.2.2
  refine lv_aload_n hx hb dX12_term_0 rfl (lv_at hl 0 rfl) ?_
  obtain ⟨r1, σ1, hc1, h⟩ := bd2_x h
  refine zc_i Z (zr_V F Z (a := 703) (As := []) (zcX12_atom l D A0 zrec dd hrec σ r1 σ1 hc1) zBX12_atom zq1583 (by decide) zs_703 zC12.1 rfl ⟨⟨rfl, rfl⟩, by dsimp only [zR, RD]; omega, by dsimp only [zR, RD]; omega⟩ hl.1 rfl (Nat.le_of_ble_eq_true rfl) dX12_term_1 ⟨Nat.le_of_ble_eq_true rfl, Nat.le_of_ble_eq_true rfl⟩) (fun _ _ Z => ?_)
  refine lv_istore_n (lv' := [(1, .int r1), (0, .ref (A0 + 703))]) hx hb dX12_term_4 rfl hl (by decide) rfl (fun ls hl => ?_)
  obtain ⟨k94, ek94, h⟩ := lt_x h
  have hk94 : ∀ (x1_94 : Int32) (σ94 : Mm) (H : Heap) (locs : List Loc) (ls : Array Slot), zh D A0 σ94 GF 740 s.heap H locs → lv_has ls 5 [(1, .int x1_94)] → k94 x1_94 σ94 = some (r0, σr) → W p l e (zR (10 * dd + 44) (400 * dd + 1700)) s m [.ref (A0 + 703)].toArray below meth c H locs 0 0 (MQ below (zQi D A0 r0 σr GF 740) [.ref (A0 + 703)].toArray s 0 0 (zA A0)) (F0 m 94 ls []) := by
    intro x1_94 σ94 H locs ls Z hl h
    rw [ek94] at h
    try dsimp only at h
    refine lv_iload_n hx hb dX12_term_94 rfl (lv_at hl 0 rfl) ?_
    obtain ⟨hq1, hq2⟩ := zpq h
    exact ze_i F Z hr hlocks hq1 hq2 dX12_term_95
  have hL5 : ∀ (fu5 : Nat) (x1_5 : Int32) (σ5 : Mm) (H : Heap) (locs : List Loc) (ls : Array Slot), zh D A0 σ5 GF 740 s.heap H locs → lv_has ls 5 [(0, .ref (A0 + 703)), (1, .int x1_5)] → zfX12_term_L5 zrec k94 fu5 x1_5 σ5 = some (r0, σr) → W p l e (zR (10 * dd + 44) (400 * dd + 1700)) s m [.ref (A0 + 703)].toArray below meth c H locs 0 0 (MQ below (zQi D A0 r0 σr GF 740) [.ref (A0 + 703)].toArray s 0 0 (zA A0)) (F0 m 5 ls []) := by
    intro fu5
    induction fu5 with
    | zero => intro x1_5 σ5 H locs ls Z hl h; rw [zfX12_term_L5] at h; cases h
    | succ fu5 ih5 =>
      intro x1_5 σ5 H locs ls Z hl h
      rw [zfX12_term_L5] at h
      refine lv_aload_n hx hb dX12_term_5 rfl (lv_at hl 0 rfl) ?_
      refine zw_getI F Z zC12 (a := 703) (k := 11) (by decide) zs_703 (by decide) rfl zq1261 (Or.inl rfl) dX12_term_6 ?_
      refine lv_iconst (v := (-1)) hx hb dX12_term_9 (by decide) ?_
      refine zb_icne (tgt := 94) hx hb dX12_term_10 (by decide) h (fun h => ?_) (fun h => ?_)
      · exact hk94 x1_5 σ5 _ _ _ Z (lv_sub hl [1] rfl) h
      · refine lv_aload_n hx hb dX12_term_13 rfl (lv_at hl 0 rfl) ?_
        obtain ⟨r14, σ14, hc14, h⟩ := bd2_x h
        refine zc_i Z (zr_V F Z (a := 703) (As := []) (zcX12_look l D A0 σ5 r14 σ14 hc14) zBX12_look zq1514 (by decide) zs_703 zC12.1 rfl ⟨⟨rfl, rfl⟩, by dsimp only [zR, RD]; omega, by dsimp only [zR, RD]; omega⟩ hl.1 rfl (Nat.le_of_ble_eq_true rfl) dX12_term_14 ⟨Nat.le_of_ble_eq_true rfl, Nat.le_of_ble_eq_true rfl⟩) (fun _ _ Z => ?_)
        refine lv_bipush (v := 42) hx hb dX12_term_17 (by decide) ?_
        obtain ⟨j31, ej31, h⟩ := lt_x h
        have hj31 : ∀ (σ31 : Mm) (H : Heap) (locs : List Loc) (ls : Array Slot), zh D A0 σ31 GF 740 s.heap H locs → lv_has ls 5 [(0, .ref (A0 + 703)), (1, .int x1_5)] → j31 σ31 = some (r0, σr) → W p l e (zR (10 * dd + 44) (400 * dd + 1700)) s m [.ref (A0 + 703)].toArray below meth c H locs 0 0 (MQ below (zQi D A0 r0 σr GF 740) [.ref (A0 + 703)].toArray s 0 0 (zA A0)) (F0 m 31 ls []) := by
          intro  σ31 H locs ls Z hl h
          rw [ej31] at h
          try dsimp only at h
          refine lv_aload_n hx hb dX12_term_31 rfl (lv_at hl 0 rfl) ?_
          obtain ⟨r32, σ32, hc32, h⟩ := bd2_x h
          refine zc_i Z (zr_V F Z (a := 703) (As := []) (zcX12_look l D A0 σ31 r32 σ32 hc32) zBX12_look zq1514 (by decide) zs_703 zC12.1 rfl ⟨⟨rfl, rfl⟩, by dsimp only [zR, RD]; omega, by dsimp only [zR, RD]; omega⟩ hl.1 rfl (Nat.le_of_ble_eq_true rfl) dX12_term_32 ⟨Nat.le_of_ble_eq_true rfl, Nat.le_of_ble_eq_true rfl⟩) (fun _ _ Z => ?_)
          refine lv_bipush (v := 42) hx hb dX12_term_35 (by decide) ?_
          obtain ⟨j45, ej45, h⟩ := lt_x h
          have hj45 : ∀ (y0_45 : Int32) (σ45 : Mm) (H : Heap) (locs : List Loc) (ls : Array Slot), zh D A0 σ45 GF 740 s.heap H locs → lv_has ls 5 [(0, .ref (A0 + 703)), (1, .int x1_5)] → j45 y0_45 σ45 = some (r0, σr) → W p l e (zR (10 * dd + 44) (400 * dd + 1700)) s m [.ref (A0 + 703)].toArray below meth c H locs 0 0 (MQ below (zQi D A0 r0 σr GF 740) [.ref (A0 + 703)].toArray s 0 0 (zA A0)) (F0 m 45 ls [.int y0_45]) := by
            intro y0_45 σ45 H locs ls Z hl h
            rw [ej45] at h
            try dsimp only at h
            refine lv_istore_n (lv' := [(2, .int y0_45), (0, .ref (A0 + 703)), (1, .int x1_5)]) hx hb dX12_term_45 rfl hl (by decide) rfl (fun ls hl => ?_)
            refine lv_aload_n hx hb dX12_term_46 rfl (lv_at hl 1 rfl) ?_
            refine lv_dup hx hb dX12_term_47 rfl ?_
            refine zw_getI F Z zC12 (a := 703) (k := 10) (by decide) zs_703 (by decide) rfl zq1260 (Or.inl rfl) dX12_term_48 ?_
            refine lv_iconst (v := 1) hx hb dX12_term_51 (by decide) ?_
            refine lv_iadd hx hb dX12_term_52 ?_
            refine zw_putI F Z zC12 (a := 703) (k := 10) (by decide) zs_703 (by decide) rfl (by decide) zq1260 (Or.inl rfl) rfl ⟨rfl, rfl⟩ dX12_term_53 (fun σ53 _ _ eσ53 Z => ?_)
            replace h := lt_w h eσ53
            refine lv_aload_n hx hb dX12_term_56 rfl (lv_at hl 1 rfl) ?_
            obtain ⟨r57, σ57, hc57, h⟩ := bd2_x h
            refine zc_i Z (zr_V F Z (a := 703) (As := []) (zcX12_atom l D A0 zrec dd hrec σ53 r57 σ57 hc57) zBX12_atom zq1583 (by decide) zs_703 zC12.1 rfl ⟨⟨rfl, rfl⟩, by dsimp only [zR, RD]; omega, by dsimp only [zR, RD]; omega⟩ hl.1 rfl (Nat.le_of_ble_eq_true rfl) dX12_term_57 ⟨Nat.le_of_ble_eq_true rfl, Nat.le_of_ble_eq_true rfl⟩) (fun _ _ Z => ?_)
            refine lv_i2l hx hb dX12_term_60 rfl ?_
            refine lv_topl (fun x3_61 ex3_61 => ?_)
            replace h := lt_w h ex3_61
            refine lv_lstore_n (lv' := [(3, .long x3_61), (2, .int y0_45), (0, .ref (A0 + 703)), (1, .int x1_5)]) hx hb dX12_term_61 rfl hl (by decide) rfl (fun ls hl => ?_)
            refine lv_iload_n hx hb dX12_term_62 rfl (lv_at hl 1 rfl) ?_
            obtain ⟨j87, ej87, h⟩ := lt_x h
            have hj87 : ∀ (y0_87 : Int64) (σ87 : Mm) (H : Heap) (locs : List Loc) (ls : Array Slot), zh D A0 σ87 GF 740 s.heap H locs → lv_has ls 5 [(0, .ref (A0 + 703))] → j87 y0_87 σ87 = some (r0, σr) → W p l e (zR (10 * dd + 44) (400 * dd + 1700)) s m [.ref (A0 + 703)].toArray below meth c H locs 0 0 (MQ below (zQi D A0 r0 σr GF 740) [.ref (A0 + 703)].toArray s 0 0 (zA A0)) (F0 m 87 ls [.long y0_87]) := by
              intro y0_87 σ87 H locs ls Z hl h
              rw [ej87] at h
              try dsimp only at h
              refine zc_i Z (zr_S F Z (As := [.long y0_87]) (zcX12_within l D A0 y0_87 σ87 (zfX12_within y0_87) rfl) zBX12_within zq1591 rfl ⟨⟨rfl, rfl⟩, by dsimp only [zR, RD]; omega, by dsimp only [zR, RD]; omega⟩ hl.1 rfl (Nat.le_of_ble_eq_true rfl) dX12_term_87 ⟨Nat.le_of_ble_eq_true rfl, Nat.le_of_ble_eq_true rfl⟩) (fun _ _ Z => ?_)
              refine lv_topi (fun x1_90 ex1_90 => ?_)
              replace h := lt_w h ex1_90
              refine lv_istore_n (lv' := [(1, .int x1_90), (0, .ref (A0 + 703))]) hx hb dX12_term_90 rfl hl (by decide) rfl (fun ls hl => ?_)
              refine lv_goto (tgt := 5) hx hb dX12_term_91 (by decide) ?_
              exact ih5 x1_90 σ87 _ _ _ Z (lv_sub hl [1, 0] rfl) h
            refine zb_ifeq (tgt := 73) hx hb dX12_term_63 (by decide) h (fun h => ?_) (fun h => ?_)
            · refine lv_lload_n hx hb dX12_term_73 rfl (lv_at hl 0 rfl) ?_
              refine lv_lconst (v := 0) hx hb dX12_term_74 (by decide) ?_
              refine W.lcmp hx hb dX12_term_75 ?_
              refine zb_ifne (tgt := 83) hx hb dX12_term_76 (by decide) h (fun h => ?_) (fun h => ?_)
              · refine lv_iload_n hx hb dX12_term_83 rfl (lv_at hl 3 rfl) ?_
                refine lv_i2l hx hb dX12_term_84 rfl ?_
                refine lv_lload_n hx hb dX12_term_85 rfl (lv_at hl 0 rfl) ?_
                obtain ⟨hk86, h⟩ := ck_x h
                refine lv_ldiv hx hb dX12_term_86 hk86 ?_
                exact hj87 ((Int32.toInt64 x1_5) / x3_61) σ57 _ _ _ Z (lv_sub hl [2] rfl) h
              · refine lv_lconst (v := 0) hx hb dX12_term_79 (by decide) ?_
                refine lv_goto (tgt := 87) hx hb dX12_term_80 (by decide) ?_
                exact hj87 0 σ57 _ _ _ Z (lv_sub hl [2] rfl) h
            · refine lv_iload_n hx hb dX12_term_66 rfl (lv_at hl 3 rfl) ?_
              refine lv_i2l hx hb dX12_term_67 rfl ?_
              refine lv_lload_n hx hb dX12_term_68 rfl (lv_at hl 0 rfl) ?_
              refine lv_lmul hx hb dX12_term_69 ?_
              refine lv_goto (tgt := 87) hx hb dX12_term_70 (by decide) ?_
              exact hj87 ((Int32.toInt64 x1_5) * x3_61) σ57 _ _ _ Z (lv_sub hl [2] rfl) h
          refine zb_icne (tgt := 44) hx hb dX12_term_37 (by decide) h (fun h => ?_) (fun h => ?_)
          · refine lv_iconst (v := 0) hx hb dX12_term_44 (by decide) ?_
            exact hj45 0 σ32 _ _ _ Z (lv_sub hl [0, 1] rfl) h
          · refine lv_iconst (v := 1) hx hb dX12_term_40 (by decide) ?_
            refine lv_goto (tgt := 45) hx hb dX12_term_41 (by decide) ?_
            exact hj45 1 σ32 _ _ _ Z (lv_sub hl [0, 1] rfl) h
        refine zb_iceq (tgt := 31) hx hb dX12_term_19 (by decide) h (fun h => ?_) (fun h => ?_)
        · exact hj31 σ14 _ _ _ Z (lv_sub hl [0, 1] rfl) h
        · refine lv_aload_n hx hb dX12_term_22 rfl (lv_at hl 0 rfl) ?_
          obtain ⟨r23, σ23, hc23, h⟩ := bd2_x h
          refine zc_i Z (zr_V F Z (a := 703) (As := []) (zcX12_look l D A0 σ14 r23 σ23 hc23) zBX12_look zq1514 (by decide) zs_703 zC12.1 rfl ⟨⟨rfl, rfl⟩, by dsimp only [zR, RD]; omega, by dsimp only [zR, RD]; omega⟩ hl.1 rfl (Nat.le_of_ble_eq_true rfl) dX12_term_23 ⟨Nat.le_of_ble_eq_true rfl, Nat.le_of_ble_eq_true rfl⟩) (fun _ _ Z => ?_)
          refine lv_bipush (v := 47) hx hb dX12_term_26 (by decide) ?_
          refine zb_icne (tgt := 94) hx hb dX12_term_28 (by decide) h (fun h => ?_) (fun h => ?_)
          · exact hk94 x1_5 σ23 _ _ _ Z (lv_sub hl [1] rfl) h
          · exact hj31 σ23 _ _ _ Z (lv_sub hl [0, 1] rfl) h
  exact hL5 NF r1 σ1 _ _ _ Z (lv_sub hl [1, 0] rfl) h
set_option maxHeartbeats 4000000 in
set_option maxRecDepth 100000 in
theorem zcX12_sum (l : Launch) (D : va_G) (A0 : Nat) : ∀ (dd : Nat) (σ : Mm) (r0 : Int32) (σr : Mm) (h : zfX12_sum dd σ = some (r0, σr)), Met l yX12_sum (zws yX12_sum cX12_sum 5 (some .int)) (zR (10 * dd + 40) (400 * dd + 1500)) (zPc D A0 σ GF 740 [.ref (A0 + 703)]) (zQi D A0 r0 σr GF 740) 0 0 (zA A0) := by
  intro dd
  induction dd with
  | zero => intro σ r0 σr h; rw [zfX12_sum] at h; cases h
  | succ dd hrec =>
  intro σ r0 σr h
  rw [zfX12_sum] at h
  refine zmet (own := RX12) (by decide) rfl (Nat.le_of_ble_eq_true rfl) ?_
  intro p e s m below meth c F hr hlocks _ Z ls hl
  have hl : lv_has ls 5 [(0, .ref (A0 + 703))] := hl
  have hx := F.1.1
  have hb := F.1.2.1
  have hown := F.1.2.2.2.1
  have hts := F.1.2.2.2.2
  refine lv_aload_n hx hb dX12_sum_0 rfl (lv_at hl 0 rfl) ?_
  obtain ⟨r1, σ1, hc1, h⟩ := bd2_x h
  refine zc_i Z (zr_V F Z (a := 703) (As := []) (zcX12_term l D A0 (zfX12_sum dd) dd hrec σ r1 σ1 hc1) zBX12_term zq1579 (by decide) zs_703 zC12.1 rfl ⟨⟨rfl, rfl⟩, by dsimp only [zR, RD]; omega, by dsimp only [zR, RD]; omega⟩ hl.1 rfl (Nat.le_of_ble_eq_true rfl) dX12_sum_1 ⟨Nat.le_of_ble_eq_true rfl, Nat.le_of_ble_eq_true rfl⟩) (fun _ _ Z => ?_)
  refine lv_istore_n (lv' := [(1, .int r1), (0, .ref (A0 + 703))]) hx hb dX12_sum_4 rfl hl (by decide) rfl (fun ls hl => ?_)
  obtain ⟨k84, ek84, h⟩ := lt_x h
  have hk84 : ∀ (x1_84 : Int32) (σ84 : Mm) (H : Heap) (locs : List Loc) (ls : Array Slot), zh D A0 σ84 GF 740 s.heap H locs → lv_has ls 5 [(1, .int x1_84)] → k84 x1_84 σ84 = some (r0, σr) → W p l e (zR (10 * (dd + 1) + 40) (400 * (dd + 1) + 1500)) s m [.ref (A0 + 703)].toArray below meth c H locs 0 0 (MQ below (zQi D A0 r0 σr GF 740) [.ref (A0 + 703)].toArray s 0 0 (zA A0)) (F0 m 84 ls []) := by
    intro x1_84 σ84 H locs ls Z hl h
    rw [ek84] at h
    try dsimp only at h
    refine lv_iload_n hx hb dX12_sum_84 rfl (lv_at hl 0 rfl) ?_
    obtain ⟨hq1, hq2⟩ := zpq h
    exact ze_i F Z hr hlocks hq1 hq2 dX12_sum_85
  have hL5 : ∀ (fu5 : Nat) (x1_5 : Int32) (σ5 : Mm) (H : Heap) (locs : List Loc) (ls : Array Slot), zh D A0 σ5 GF 740 s.heap H locs → lv_has ls 5 [(0, .ref (A0 + 703)), (1, .int x1_5)] → zfX12_sum_L5 (zfX12_sum dd) k84 fu5 x1_5 σ5 = some (r0, σr) → W p l e (zR (10 * (dd + 1) + 40) (400 * (dd + 1) + 1500)) s m [.ref (A0 + 703)].toArray below meth c H locs 0 0 (MQ below (zQi D A0 r0 σr GF 740) [.ref (A0 + 703)].toArray s 0 0 (zA A0)) (F0 m 5 ls []) := by
    intro fu5
    induction fu5 with
    | zero => intro x1_5 σ5 H locs ls Z hl h; rw [zfX12_sum_L5] at h; cases h
    | succ fu5 ih5 =>
      intro x1_5 σ5 H locs ls Z hl h
      rw [zfX12_sum_L5] at h
      refine lv_aload_n hx hb dX12_sum_5 rfl (lv_at hl 0 rfl) ?_
      refine zw_getI F Z zC12 (a := 703) (k := 11) (by decide) zs_703 (by decide) rfl zq1261 (Or.inl rfl) dX12_sum_6 ?_
      refine lv_iconst (v := (-1)) hx hb dX12_sum_9 (by decide) ?_
      refine zb_icne (tgt := 84) hx hb dX12_sum_10 (by decide) h (fun h => ?_) (fun h => ?_)
      · exact hk84 x1_5 σ5 _ _ _ Z (lv_sub hl [1] rfl) h
      · refine lv_aload_n hx hb dX12_sum_13 rfl (lv_at hl 0 rfl) ?_
        obtain ⟨r14, σ14, hc14, h⟩ := bd2_x h
        refine zc_i Z (zr_V F Z (a := 703) (As := []) (zcX12_look l D A0 σ5 r14 σ14 hc14) zBX12_look zq1514 (by decide) zs_703 zC12.1 rfl ⟨⟨rfl, rfl⟩, by dsimp only [zR, RD]; omega, by dsimp only [zR, RD]; omega⟩ hl.1 rfl (Nat.le_of_ble_eq_true rfl) dX12_sum_14 ⟨Nat.le_of_ble_eq_true rfl, Nat.le_of_ble_eq_true rfl⟩) (fun _ _ Z => ?_)
        refine lv_bipush (v := 43) hx hb dX12_sum_17 (by decide) ?_
        obtain ⟨j31, ej31, h⟩ := lt_x h
        have hj31 : ∀ (σ31 : Mm) (H : Heap) (locs : List Loc) (ls : Array Slot), zh D A0 σ31 GF 740 s.heap H locs → lv_has ls 5 [(0, .ref (A0 + 703)), (1, .int x1_5)] → j31 σ31 = some (r0, σr) → W p l e (zR (10 * (dd + 1) + 40) (400 * (dd + 1) + 1500)) s m [.ref (A0 + 703)].toArray below meth c H locs 0 0 (MQ below (zQi D A0 r0 σr GF 740) [.ref (A0 + 703)].toArray s 0 0 (zA A0)) (F0 m 31 ls []) := by
          intro  σ31 H locs ls Z hl h
          rw [ej31] at h
          try dsimp only at h
          refine lv_aload_n hx hb dX12_sum_31 rfl (lv_at hl 0 rfl) ?_
          obtain ⟨r32, σ32, hc32, h⟩ := bd2_x h
          refine zc_i Z (zr_V F Z (a := 703) (As := []) (zcX12_look l D A0 σ31 r32 σ32 hc32) zBX12_look zq1514 (by decide) zs_703 zC12.1 rfl ⟨⟨rfl, rfl⟩, by dsimp only [zR, RD]; omega, by dsimp only [zR, RD]; omega⟩ hl.1 rfl (Nat.le_of_ble_eq_true rfl) dX12_sum_32 ⟨Nat.le_of_ble_eq_true rfl, Nat.le_of_ble_eq_true rfl⟩) (fun _ _ Z => ?_)
          refine lv_bipush (v := 43) hx hb dX12_sum_35 (by decide) ?_
          obtain ⟨j45, ej45, h⟩ := lt_x h
          have hj45 : ∀ (y0_45 : Int32) (σ45 : Mm) (H : Heap) (locs : List Loc) (ls : Array Slot), zh D A0 σ45 GF 740 s.heap H locs → lv_has ls 5 [(0, .ref (A0 + 703)), (1, .int x1_5)] → j45 y0_45 σ45 = some (r0, σr) → W p l e (zR (10 * (dd + 1) + 40) (400 * (dd + 1) + 1500)) s m [.ref (A0 + 703)].toArray below meth c H locs 0 0 (MQ below (zQi D A0 r0 σr GF 740) [.ref (A0 + 703)].toArray s 0 0 (zA A0)) (F0 m 45 ls [.int y0_45]) := by
            intro y0_45 σ45 H locs ls Z hl h
            rw [ej45] at h
            try dsimp only at h
            refine lv_istore_n (lv' := [(2, .int y0_45), (0, .ref (A0 + 703)), (1, .int x1_5)]) hx hb dX12_sum_45 rfl hl (by decide) rfl (fun ls hl => ?_)
            refine lv_aload_n hx hb dX12_sum_46 rfl (lv_at hl 1 rfl) ?_
            refine lv_dup hx hb dX12_sum_47 rfl ?_
            refine zw_getI F Z zC12 (a := 703) (k := 10) (by decide) zs_703 (by decide) rfl zq1260 (Or.inl rfl) dX12_sum_48 ?_
            refine lv_iconst (v := 1) hx hb dX12_sum_51 (by decide) ?_
            refine lv_iadd hx hb dX12_sum_52 ?_
            refine zw_putI F Z zC12 (a := 703) (k := 10) (by decide) zs_703 (by decide) rfl (by decide) zq1260 (Or.inl rfl) rfl ⟨rfl, rfl⟩ dX12_sum_53 (fun σ53 _ _ eσ53 Z => ?_)
            replace h := lt_w h eσ53
            refine lv_aload_n hx hb dX12_sum_56 rfl (lv_at hl 1 rfl) ?_
            obtain ⟨r57, σ57, hc57, h⟩ := bd2_x h
            refine zc_i Z (zr_V F Z (a := 703) (As := []) (zcX12_term l D A0 (zfX12_sum dd) dd hrec σ53 r57 σ57 hc57) zBX12_term zq1579 (by decide) zs_703 zC12.1 rfl ⟨⟨rfl, rfl⟩, by dsimp only [zR, RD]; omega, by dsimp only [zR, RD]; omega⟩ hl.1 rfl (Nat.le_of_ble_eq_true rfl) dX12_sum_57 ⟨Nat.le_of_ble_eq_true rfl, Nat.le_of_ble_eq_true rfl⟩) (fun _ _ Z => ?_)
            refine lv_i2l hx hb dX12_sum_60 rfl ?_
            refine lv_topl (fun x3_61 ex3_61 => ?_)
            replace h := lt_w h ex3_61
            refine lv_lstore_n (lv' := [(3, .long x3_61), (2, .int y0_45), (0, .ref (A0 + 703)), (1, .int x1_5)]) hx hb dX12_sum_61 rfl hl (by decide) rfl (fun ls hl => ?_)
            refine lv_iload_n hx hb dX12_sum_62 rfl (lv_at hl 1 rfl) ?_
            obtain ⟨j77, ej77, h⟩ := lt_x h
            have hj77 : ∀ (y0_77 : Int64) (σ77 : Mm) (H : Heap) (locs : List Loc) (ls : Array Slot), zh D A0 σ77 GF 740 s.heap H locs → lv_has ls 5 [(0, .ref (A0 + 703))] → j77 y0_77 σ77 = some (r0, σr) → W p l e (zR (10 * (dd + 1) + 40) (400 * (dd + 1) + 1500)) s m [.ref (A0 + 703)].toArray below meth c H locs 0 0 (MQ below (zQi D A0 r0 σr GF 740) [.ref (A0 + 703)].toArray s 0 0 (zA A0)) (F0 m 77 ls [.long y0_77]) := by
              intro y0_77 σ77 H locs ls Z hl h
              rw [ej77] at h
              try dsimp only at h
              refine zc_i Z (zr_S F Z (As := [.long y0_77]) (zcX12_within l D A0 y0_77 σ77 (zfX12_within y0_77) rfl) zBX12_within zq1591 rfl ⟨⟨rfl, rfl⟩, by dsimp only [zR, RD]; omega, by dsimp only [zR, RD]; omega⟩ hl.1 rfl (Nat.le_of_ble_eq_true rfl) dX12_sum_77 ⟨Nat.le_of_ble_eq_true rfl, Nat.le_of_ble_eq_true rfl⟩) (fun _ _ Z => ?_)
              refine lv_topi (fun x1_80 ex1_80 => ?_)
              replace h := lt_w h ex1_80
              refine lv_istore_n (lv' := [(1, .int x1_80), (0, .ref (A0 + 703))]) hx hb dX12_sum_80 rfl hl (by decide) rfl (fun ls hl => ?_)
              refine lv_goto (tgt := 5) hx hb dX12_sum_81 (by decide) ?_
              exact ih5 x1_80 σ77 _ _ _ Z (lv_sub hl [1, 0] rfl) h
            refine zb_ifeq (tgt := 73) hx hb dX12_sum_63 (by decide) h (fun h => ?_) (fun h => ?_)
            · refine lv_iload_n hx hb dX12_sum_73 rfl (lv_at hl 3 rfl) ?_
              refine lv_i2l hx hb dX12_sum_74 rfl ?_
              refine lv_lload_n hx hb dX12_sum_75 rfl (lv_at hl 0 rfl) ?_
              refine lv_lsub hx hb dX12_sum_76 ?_
              exact hj77 ((Int32.toInt64 x1_5) - x3_61) σ57 _ _ _ Z (lv_sub hl [2] rfl) h
            · refine lv_iload_n hx hb dX12_sum_66 rfl (lv_at hl 3 rfl) ?_
              refine lv_i2l hx hb dX12_sum_67 rfl ?_
              refine lv_lload_n hx hb dX12_sum_68 rfl (lv_at hl 0 rfl) ?_
              refine lv_ladd hx hb dX12_sum_69 ?_
              refine lv_goto (tgt := 77) hx hb dX12_sum_70 (by decide) ?_
              exact hj77 ((Int32.toInt64 x1_5) + x3_61) σ57 _ _ _ Z (lv_sub hl [2] rfl) h
          refine zb_icne (tgt := 44) hx hb dX12_sum_37 (by decide) h (fun h => ?_) (fun h => ?_)
          · refine lv_iconst (v := 0) hx hb dX12_sum_44 (by decide) ?_
            exact hj45 0 σ32 _ _ _ Z (lv_sub hl [0, 1] rfl) h
          · refine lv_iconst (v := 1) hx hb dX12_sum_40 (by decide) ?_
            refine lv_goto (tgt := 45) hx hb dX12_sum_41 (by decide) ?_
            exact hj45 1 σ32 _ _ _ Z (lv_sub hl [0, 1] rfl) h
        refine zb_iceq (tgt := 31) hx hb dX12_sum_19 (by decide) h (fun h => ?_) (fun h => ?_)
        · exact hj31 σ14 _ _ _ Z (lv_sub hl [0, 1] rfl) h
        · refine lv_aload_n hx hb dX12_sum_22 rfl (lv_at hl 0 rfl) ?_
          obtain ⟨r23, σ23, hc23, h⟩ := bd2_x h
          refine zc_i Z (zr_V F Z (a := 703) (As := []) (zcX12_look l D A0 σ14 r23 σ23 hc23) zBX12_look zq1514 (by decide) zs_703 zC12.1 rfl ⟨⟨rfl, rfl⟩, by dsimp only [zR, RD]; omega, by dsimp only [zR, RD]; omega⟩ hl.1 rfl (Nat.le_of_ble_eq_true rfl) dX12_sum_23 ⟨Nat.le_of_ble_eq_true rfl, Nat.le_of_ble_eq_true rfl⟩) (fun _ _ Z => ?_)
          refine lv_bipush (v := 45) hx hb dX12_sum_26 (by decide) ?_
          refine zb_icne (tgt := 84) hx hb dX12_sum_28 (by decide) h (fun h => ?_) (fun h => ?_)
          · exact hk84 x1_5 σ23 _ _ _ Z (lv_sub hl [1] rfl) h
          · exact hj31 σ23 _ _ _ Z (lv_sub hl [0, 1] rfl) h
  exact hL5 NF r1 σ1 _ _ _ Z (lv_sub hl [1, 0] rfl) h
set_option maxHeartbeats 4000000 in
set_option maxRecDepth 100000 in
theorem zcX12_isSign (l : Launch) (D : va_G) (A0 : Nat) (x0 : Int32) (σ : Mm) (r0 : Int32) (h : zfX12_isSign x0 = r0) : Met l yX12_isSign (zws yX12_isSign cX12_isSign 1 (some .boolean)) (zR 0 0) (zPc D A0 σ GF 740 [.int x0]) (zQi D A0 r0 σ GF 740) 0 0 (zA A0) := by
  unfold zfX12_isSign at h
  refine zmet (own := RX12) (by decide) rfl (Nat.le_of_ble_eq_true rfl) ?_
  intro p e s m below meth c F hr hlocks _ Z ls hl
  have hl : lv_has ls 1 [(0, .int x0)] := hl
  have hx := F.1.1
  have hb := F.1.2.1
  have hown := F.1.2.2.2.1
  have hts := F.1.2.2.2.2
  refine lv_iload_n hx hb dX12_isSign_0 rfl (lv_at hl 0 rfl) ?_
  refine lv_bipush (v := 61) hx hb dX12_isSign_1 (by decide) ?_
  obtain ⟨j18, ej18, h⟩ := lt_x h
  have hj18 : ∀  (H : Heap) (locs : List Loc) (ls : Array Slot), zh D A0 σ GF 740 s.heap H locs → lv_has ls 1 [] → j18 () = r0 → W p l e (zR 0 0) s m [.int x0].toArray below meth c H locs 0 0 (MQ below (zQi D A0 r0 σ GF 740) [.int x0].toArray s 0 0 (zA A0)) (F0 m 18 ls []) := by
    intro  H locs ls Z hl h
    rw [ej18] at h
    try dsimp only at h
    refine lv_iconst (v := 1) hx hb dX12_isSign_18 (by decide) ?_
    refine lv_goto (tgt := 23) hx hb dX12_isSign_19 (by decide) ?_
    exact ze_z F Z hr hlocks (by decide) h rfl dX12_isSign_23
  refine zb_iceq (tgt := 18) hx hb dX12_isSign_3 (by decide) h (fun h => ?_) (fun h => ?_)
  · exact hj18  _ _ _ Z (lv_sub hl [] rfl) h
  · refine lv_iload_n hx hb dX12_isSign_6 rfl (lv_at hl 0 rfl) ?_
    refine lv_bipush (v := 60) hx hb dX12_isSign_7 (by decide) ?_
    refine zb_iceq (tgt := 18) hx hb dX12_isSign_9 (by decide) h (fun h => ?_) (fun h => ?_)
    · exact hj18  _ _ _ Z (lv_sub hl [] rfl) h
    · refine lv_iload_n hx hb dX12_isSign_12 rfl (lv_at hl 0 rfl) ?_
      refine lv_bipush (v := 62) hx hb dX12_isSign_13 (by decide) ?_
      refine zb_icne (tgt := 22) hx hb dX12_isSign_15 (by decide) h (fun h => ?_) (fun h => ?_)
      · refine lv_iconst (v := 0) hx hb dX12_isSign_22 (by decide) ?_
        exact ze_z F Z hr hlocks (by decide) h rfl dX12_isSign_23
      · exact hj18  _ _ _ Z (lv_sub hl [] rfl) h
set_option maxHeartbeats 4000000 in
set_option maxRecDepth 100000 in
theorem zcX12_compares (l : Launch) (D : va_G) (A0 : Nat) (x1 : Int32) (x2 : Int32) (σ : Mm) (r0 : Int32) (σr : Mm) (h : zfX12_compares x1 x2 σ = some (r0, σr)) : Met l yX12_compares (zws yX12_compares cX12_compares 6 (some .boolean)) (zR 181 7124) (zPc D A0 σ GF 740 [.ref (A0 + 703), .int x1, .int x2]) (zQi D A0 r0 σr GF 740) 0 0 (zA A0) := by
  unfold zfX12_compares at h
  refine zmet (own := RX12) (by decide) rfl (Nat.le_of_ble_eq_true rfl) ?_
  intro p e s m below meth c F hr hlocks _ Z ls hl
  have hl : lv_has ls 6 [(0, .ref (A0 + 703)), (1, .int x1), (2, .int x2)] := hl
  have hx := F.1.1
  have hb := F.1.2.1
  have hown := F.1.2.2.2.1
  have hts := F.1.2.2.2.2
  refine lv_iload_n hx hb dX12_compares_0 rfl (lv_at hl 1 rfl) ?_
  obtain ⟨j12, ej12, h⟩ := lt_x h
  have hj12 : ∀ (y0_12 : Int32) (σ12 : Mm) (H : Heap) (locs : List Loc) (ls : Array Slot), zh D A0 σ12 GF 740 s.heap H locs → lv_has ls 6 [(0, .ref (A0 + 703))] → j12 y0_12 σ12 = some (r0, σr) → W p l e (zR 181 7124) s m [.ref (A0 + 703), .int x1, .int x2].toArray below meth c H locs 0 0 (MQ below (zQi D A0 r0 σr GF 740) [.ref (A0 + 703), .int x1, .int x2].toArray s 0 0 (zA A0)) (F0 m 12 ls [.int y0_12]) := by
    intro y0_12 σ12 H locs ls Z hl h
    rw [ej12] at h
    try dsimp only at h
    refine lv_istore_n (lv' := [(3, .int y0_12), (0, .ref (A0 + 703))]) hx hb dX12_compares_12 rfl hl (by decide) rfl (fun ls hl => ?_)
    refine lv_aload_n hx hb dX12_compares_13 rfl (lv_at hl 1 rfl) ?_
    refine zw_getI F Z zC12 (a := 703) (k := 11) (by decide) zs_703 (by decide) rfl zq1261 (Or.inl rfl) dX12_compares_14 ?_
    refine lv_iconst (v := (-1)) hx hb dX12_compares_17 (by decide) ?_
    refine zb_iceq (tgt := 23) hx hb dX12_compares_18 (by decide) h (fun h => ?_) (fun h => ?_)
    · refine lv_aload_n hx hb dX12_compares_23 rfl (lv_at hl 1 rfl) ?_
      obtain ⟨r24, σ24, hc24, h⟩ := bd2_x h
      refine zc_i Z (zr_V F Z (a := 703) (As := []) (zcX12_look l D A0 σ12 r24 σ24 hc24) zBX12_look zq1514 (by decide) zs_703 zC12.1 rfl ⟨⟨rfl, rfl⟩, Nat.le_of_ble_eq_true rfl, Nat.le_of_ble_eq_true rfl⟩ hl.1 rfl (Nat.le_of_ble_eq_true rfl) dX12_compares_24 ⟨Nat.le_of_ble_eq_true rfl, Nat.le_of_ble_eq_true rfl⟩) (fun _ _ Z => ?_)
      refine lv_istore (lv' := [(4, .int r24), (3, .int y0_12), (0, .ref (A0 + 703))]) hx hb dX12_compares_27 hl (by decide) rfl (fun ls hl => ?_)
      refine lv_iload hx hb dX12_compares_29 (lv_at hl 0 rfl) ?_
      refine zc_i Z (zr_S F Z (As := [.int r24]) (zcX12_isSign l D A0 r24 σ24 (zfX12_isSign r24) rfl) zBX12_isSign zq1598 rfl ⟨⟨rfl, rfl⟩, Nat.le_of_ble_eq_true rfl, Nat.le_of_ble_eq_true rfl⟩ hl.1 rfl (Nat.le_of_ble_eq_true rfl) dX12_compares_31 ⟨Nat.le_of_ble_eq_true rfl, Nat.le_of_ble_eq_true rfl⟩) (fun _ _ Z => ?_)
      refine zb_ifne (tgt := 42) hx hb dX12_compares_34 (by decide) h (fun h => ?_) (fun h => ?_)
      · refine lv_aload_n hx hb dX12_compares_42 rfl (lv_at hl 2 rfl) ?_
        refine lv_dup hx hb dX12_compares_43 rfl ?_
        refine zw_getI F Z zC12 (a := 703) (k := 10) (by decide) zs_703 (by decide) rfl zq1260 (Or.inl rfl) dX12_compares_44 ?_
        refine lv_iconst (v := 1) hx hb dX12_compares_47 (by decide) ?_
        refine lv_iadd hx hb dX12_compares_48 ?_
        refine zw_putI F Z zC12 (a := 703) (k := 10) (by decide) zs_703 (by decide) rfl (by decide) zq1260 (Or.inl rfl) rfl ⟨rfl, rfl⟩ dX12_compares_49 (fun σ49 _ _ eσ49 Z => ?_)
        replace h := lt_w h eσ49
        refine lv_aload_n hx hb dX12_compares_52 rfl (lv_at hl 2 rfl) ?_
        obtain ⟨r53, σ53, hc53, h⟩ := bd2_x h
        refine zc_i Z (zr_V F Z (a := 703) (As := []) (zcX12_sum l D A0 RD σ49 r53 σ53 hc53) zBX12_sum zq1575 (by decide) zs_703 zC12.1 rfl ⟨⟨rfl, rfl⟩, Nat.le_of_ble_eq_true rfl, Nat.le_of_ble_eq_true rfl⟩ hl.1 rfl (Nat.le_of_ble_eq_true rfl) dX12_compares_53 ⟨Nat.le_of_ble_eq_true rfl, Nat.le_of_ble_eq_true rfl⟩) (fun _ _ Z => ?_)
        refine lv_istore (lv' := [(5, .int r53), (4, .int r24), (3, .int y0_12), (0, .ref (A0 + 703))]) hx hb dX12_compares_56 hl (by decide) rfl (fun ls hl => ?_)
        refine lv_iload hx hb dX12_compares_58 (lv_at hl 1 rfl) ?_
        refine lv_bipush (v := 61) hx hb dX12_compares_60 (by decide) ?_
        refine zb_icne (tgt := 79) hx hb dX12_compares_62 (by decide) h (fun h => ?_) (fun h => ?_)
        · refine lv_iload hx hb dX12_compares_79 (lv_at hl 1 rfl) ?_
          refine lv_bipush (v := 60) hx hb dX12_compares_81 (by decide) ?_
          refine zb_icne (tgt := 100) hx hb dX12_compares_83 (by decide) h (fun h => ?_) (fun h => ?_)
          · refine lv_iload_n hx hb dX12_compares_100 rfl (lv_at hl 2 rfl) ?_
            refine lv_iload hx hb dX12_compares_101 (lv_at hl 0 rfl) ?_
            refine zb_icle (tgt := 110) hx hb dX12_compares_103 (by decide) h (fun h => ?_) (fun h => ?_)
            · refine lv_iconst (v := 0) hx hb dX12_compares_110 (by decide) ?_
              obtain ⟨hq1, hq2⟩ := zpq h
              exact ze_z F Z hr hlocks (by decide) hq1 hq2 dX12_compares_111
            · refine lv_iconst (v := 1) hx hb dX12_compares_106 (by decide) ?_
              refine lv_goto (tgt := 111) hx hb dX12_compares_107 (by decide) ?_
              obtain ⟨hq1, hq2⟩ := zpq h
              exact ze_z F Z hr hlocks (by decide) hq1 hq2 dX12_compares_111
          · refine lv_iload_n hx hb dX12_compares_86 rfl (lv_at hl 2 rfl) ?_
            refine lv_iload hx hb dX12_compares_87 (lv_at hl 0 rfl) ?_
            refine zb_icge (tgt := 96) hx hb dX12_compares_89 (by decide) h (fun h => ?_) (fun h => ?_)
            · refine lv_iconst (v := 0) hx hb dX12_compares_96 (by decide) ?_
              refine lv_goto (tgt := 111) hx hb dX12_compares_97 (by decide) ?_
              obtain ⟨hq1, hq2⟩ := zpq h
              exact ze_z F Z hr hlocks (by decide) hq1 hq2 dX12_compares_111
            · refine lv_iconst (v := 1) hx hb dX12_compares_92 (by decide) ?_
              refine lv_goto (tgt := 111) hx hb dX12_compares_93 (by decide) ?_
              obtain ⟨hq1, hq2⟩ := zpq h
              exact ze_z F Z hr hlocks (by decide) hq1 hq2 dX12_compares_111
        · refine lv_iload_n hx hb dX12_compares_65 rfl (lv_at hl 2 rfl) ?_
          refine lv_iload hx hb dX12_compares_66 (lv_at hl 0 rfl) ?_
          refine zb_icne (tgt := 75) hx hb dX12_compares_68 (by decide) h (fun h => ?_) (fun h => ?_)
          · refine lv_iconst (v := 0) hx hb dX12_compares_75 (by decide) ?_
            refine lv_goto (tgt := 111) hx hb dX12_compares_76 (by decide) ?_
            obtain ⟨hq1, hq2⟩ := zpq h
            exact ze_z F Z hr hlocks (by decide) hq1 hq2 dX12_compares_111
          · refine lv_iconst (v := 1) hx hb dX12_compares_71 (by decide) ?_
            refine lv_goto (tgt := 111) hx hb dX12_compares_72 (by decide) ?_
            obtain ⟨hq1, hq2⟩ := zpq h
            exact ze_z F Z hr hlocks (by decide) hq1 hq2 dX12_compares_111
      · refine lv_aload_n hx hb dX12_compares_37 rfl (lv_at hl 2 rfl) ?_
        obtain ⟨r38, σ38, hc38, h⟩ := bd2_x h
        refine zc_i Z (zr_V F Z (a := 703) (As := []) (zcX12_fails l D A0 σ24 r38 σ38 hc38) zBX12_fails zq1518 (by decide) zs_703 zC12.1 rfl ⟨⟨rfl, rfl⟩, Nat.le_of_ble_eq_true rfl, Nat.le_of_ble_eq_true rfl⟩ hl.1 rfl (Nat.le_of_ble_eq_true rfl) dX12_compares_38 ⟨Nat.le_of_ble_eq_true rfl, Nat.le_of_ble_eq_true rfl⟩) (fun _ _ Z => ?_)
        obtain ⟨hz41, h⟩ := ck_x h
        obtain ⟨hq1, hq2⟩ := zpq h
        exact ze_z F Z hr hlocks hz41 hq1 hq2 dX12_compares_41
    · refine lv_iconst (v := 0) hx hb dX12_compares_21 (by decide) ?_
      obtain ⟨hq1, hq2⟩ := zpq h
      exact ze_z F Z hr hlocks (by decide) hq1 hq2 dX12_compares_22
  refine zb_ifeq (tgt := 8) hx hb dX12_compares_1 (by decide) h (fun h => ?_) (fun h => ?_)
  · refine lv_aload_n hx hb dX12_compares_8 rfl (lv_at hl 0 rfl) ?_
    obtain ⟨r9, σ9, hc9, h⟩ := bd2_x h
    refine zc_i Z (zr_V F Z (a := 703) (As := []) (zcX12_sum l D A0 RD σ r9 σ9 hc9) zBX12_sum zq1575 (by decide) zs_703 zC12.1 rfl ⟨⟨rfl, rfl⟩, Nat.le_of_ble_eq_true rfl, Nat.le_of_ble_eq_true rfl⟩ hl.1 rfl (Nat.le_of_ble_eq_true rfl) dX12_compares_9 ⟨Nat.le_of_ble_eq_true rfl, Nat.le_of_ble_eq_true rfl⟩) (fun _ _ Z => ?_)
    exact hj12 r9 σ9 _ _ _ Z (lv_sub hl [0] rfl) h
  · refine lv_iload_n hx hb dX12_compares_4 rfl (lv_at hl 2 rfl) ?_
    refine lv_goto (tgt := 12) hx hb dX12_compares_5 (by decide) ?_
    exact hj12 x2 σ _ _ _ Z (lv_sub hl [0] rfl) h
set_option maxHeartbeats 4000000 in
set_option maxRecDepth 100000 in
theorem zcX12_part (l : Launch) (D : va_G) (A0 : Nat) (zrec : Mm → Option (Int32 × Mm)) (dd : Nat) (hrec : ∀ (σ : Mm) (r0 : Int32) (σr : Mm) (h : zrec σ = some (r0, σr)), Met l yX12_unit (zws yX12_unit cX12_unit 3 (some .boolean)) (zR (10 * dd + 250) (400 * dd + 9000)) (zPc D A0 σ GF 740 [.ref (A0 + 703)]) (zQi D A0 r0 σr GF 740) 0 0 (zA A0)) (x1 : Int32) (x2 : Int32) (σ : Mm) (r0 : Int32) (σr : Mm) (h : zfX12_part zrec x1 x2 σ = some (r0, σr)) : Met l yX12_part (zws yX12_part cX12_part 5 (some .boolean)) (zR (10 * dd + 252) (400 * dd + 9100)) (zPc D A0 σ GF 740 [.ref (A0 + 703), .int x1, .int x2]) (zQi D A0 r0 σr GF 740) 0 0 (zA A0) := by
  unfold zfX12_part at h
  refine zmet (own := RX12) (by decide) rfl (Nat.le_of_ble_eq_true rfl) ?_
  intro p e s m below meth c F hr hlocks _ Z ls hl
  have hl : lv_has ls 5 [(0, .ref (A0 + 703)), (1, .int x1), (2, .int x2)] := hl
  have hx := F.1.1
  have hb := F.1.2.1
  have hown := F.1.2.2.2.1
  have hts := F.1.2.2.2.2
  refine lv_iload_n hx hb dX12_part_0 rfl (lv_at hl 1 rfl) ?_
  obtain ⟨j17, ej17, h⟩ := lt_x h
  have hj17 : ∀ (y0_17 : Int32) (σ17 : Mm) (H : Heap) (locs : List Loc) (ls : Array Slot), zh D A0 σ17 GF 740 s.heap H locs → lv_has ls 5 [(0, .ref (A0 + 703))] → j17 y0_17 σ17 = some (r0, σr) → W p l e (zR (10 * dd + 252) (400 * dd + 9100)) s m [.ref (A0 + 703), .int x1, .int x2].toArray below meth c H locs 0 0 (MQ below (zQi D A0 r0 σr GF 740) [.ref (A0 + 703), .int x1, .int x2].toArray s 0 0 (zA A0)) (F0 m 17 ls [.int y0_17]) := by
    intro y0_17 σ17 H locs ls Z hl h
    rw [ej17] at h
    try dsimp only at h
    refine lv_istore_n (lv' := [(3, .int y0_17), (0, .ref (A0 + 703))]) hx hb dX12_part_17 rfl hl (by decide) rfl (fun ls hl => ?_)
    obtain ⟨k69, ek69, h⟩ := lt_x h
    have hk69 : ∀ (x3_69 : Int32) (σ69 : Mm) (H : Heap) (locs : List Loc) (ls : Array Slot), zh D A0 σ69 GF 740 s.heap H locs → lv_has ls 5 [(3, .int x3_69)] → k69 x3_69 σ69 = some (r0, σr) → W p l e (zR (10 * dd + 252) (400 * dd + 9100)) s m [.ref (A0 + 703), .int x1, .int x2].toArray below meth c H locs 0 0 (MQ below (zQi D A0 r0 σr GF 740) [.ref (A0 + 703), .int x1, .int x2].toArray s 0 0 (zA A0)) (F0 m 69 ls []) := by
      intro x3_69 σ69 H locs ls Z hl h
      rw [ek69] at h
      try dsimp only at h
      refine lv_iload_n hx hb dX12_part_69 rfl (lv_at hl 0 rfl) ?_
      obtain ⟨hz70, h⟩ := ck_x h
      obtain ⟨hq1, hq2⟩ := zpq h
      exact ze_z F Z hr hlocks hz70 hq1 hq2 dX12_part_70
    have hL18 : ∀ (fu18 : Nat) (x3_18 : Int32) (σ18 : Mm) (H : Heap) (locs : List Loc) (ls : Array Slot), zh D A0 σ18 GF 740 s.heap H locs → lv_has ls 5 [(0, .ref (A0 + 703)), (3, .int x3_18)] → zfX12_part_L18 zrec k69 fu18 x3_18 σ18 = some (r0, σr) → W p l e (zR (10 * dd + 252) (400 * dd + 9100)) s m [.ref (A0 + 703), .int x1, .int x2].toArray below meth c H locs 0 0 (MQ below (zQi D A0 r0 σr GF 740) [.ref (A0 + 703), .int x1, .int x2].toArray s 0 0 (zA A0)) (F0 m 18 ls []) := by
      intro fu18
      induction fu18 with
      | zero => intro x3_18 σ18 H locs ls Z hl h; rw [zfX12_part_L18] at h; cases h
      | succ fu18 ih18 =>
        intro x3_18 σ18 H locs ls Z hl h
        rw [zfX12_part_L18] at h
        refine lv_aload_n hx hb dX12_part_18 rfl (lv_at hl 0 rfl) ?_
        refine zw_getI F Z zC12 (a := 703) (k := 11) (by decide) zs_703 (by decide) rfl zq1261 (Or.inl rfl) dX12_part_19 ?_
        refine lv_iconst (v := (-1)) hx hb dX12_part_22 (by decide) ?_
        refine zb_icne (tgt := 69) hx hb dX12_part_23 (by decide) h (fun h => ?_) (fun h => ?_)
        · exact hk69 x3_18 σ18 _ _ _ Z (lv_sub hl [1] rfl) h
        · refine lv_aload_n hx hb dX12_part_26 rfl (lv_at hl 0 rfl) ?_
          obtain ⟨r27, σ27, hc27, h⟩ := bd2_x h
          refine zc_i Z (zr_V F Z (a := 703) (As := []) (zcX12_look l D A0 σ18 r27 σ27 hc27) zBX12_look zq1514 (by decide) zs_703 zC12.1 rfl ⟨⟨rfl, rfl⟩, by dsimp only [zR, RD]; omega, by dsimp only [zR, RD]; omega⟩ hl.1 rfl (Nat.le_of_ble_eq_true rfl) dX12_part_27 ⟨Nat.le_of_ble_eq_true rfl, Nat.le_of_ble_eq_true rfl⟩) (fun _ _ Z => ?_)
          refine lv_bipush (v := 38) hx hb dX12_part_30 (by decide) ?_
          refine zb_icne (tgt := 69) hx hb dX12_part_32 (by decide) h (fun h => ?_) (fun h => ?_)
          · exact hk69 x3_18 σ27 _ _ _ Z (lv_sub hl [1] rfl) h
          · refine lv_aload_n hx hb dX12_part_35 rfl (lv_at hl 0 rfl) ?_
            refine lv_dup hx hb dX12_part_36 rfl ?_
            refine zw_getI F Z zC12 (a := 703) (k := 10) (by decide) zs_703 (by decide) rfl zq1260 (Or.inl rfl) dX12_part_37 ?_
            refine lv_iconst (v := 1) hx hb dX12_part_40 (by decide) ?_
            refine lv_iadd hx hb dX12_part_41 ?_
            refine zw_putI F Z zC12 (a := 703) (k := 10) (by decide) zs_703 (by decide) rfl (by decide) zq1260 (Or.inl rfl) rfl ⟨rfl, rfl⟩ dX12_part_42 (fun σ42 _ _ eσ42 Z => ?_)
            replace h := lt_w h eσ42
            refine lv_aload_n hx hb dX12_part_45 rfl (lv_at hl 0 rfl) ?_
            obtain ⟨r46, σ46, hc46, h⟩ := bd2_x h
            refine zc_i Z (zr_V F Z (a := 703) (As := []) (hrec σ42 r46 σ46 hc46) zBX12_unit zq1601 (by decide) zs_703 zC12.1 rfl ⟨⟨rfl, rfl⟩, by dsimp only [zR, RD]; omega, by dsimp only [zR, RD]; omega⟩ hl.1 rfl (Nat.le_of_ble_eq_true rfl) dX12_part_46 ⟨Nat.le_of_ble_eq_true rfl, Nat.le_of_ble_eq_true rfl⟩) (fun _ _ Z => ?_)
            refine lv_istore (lv' := [(4, .int r46), (0, .ref (A0 + 703)), (3, .int x3_18)]) hx hb dX12_part_49 hl (by decide) rfl (fun ls hl => ?_)
            refine lv_iload_n hx hb dX12_part_51 rfl (lv_at hl 2 rfl) ?_
            obtain ⟨j65, ej65, h⟩ := lt_x h
            have hj65 : ∀ (y0_65 : Int32) (σ65 : Mm) (H : Heap) (locs : List Loc) (ls : Array Slot), zh D A0 σ65 GF 740 s.heap H locs → lv_has ls 5 [(0, .ref (A0 + 703))] → j65 y0_65 σ65 = some (r0, σr) → W p l e (zR (10 * dd + 252) (400 * dd + 9100)) s m [.ref (A0 + 703), .int x1, .int x2].toArray below meth c H locs 0 0 (MQ below (zQi D A0 r0 σr GF 740) [.ref (A0 + 703), .int x1, .int x2].toArray s 0 0 (zA A0)) (F0 m 65 ls [.int y0_65]) := by
              intro y0_65 σ65 H locs ls Z hl h
              rw [ej65] at h
              try dsimp only at h
              refine lv_istore_n (lv' := [(3, .int y0_65), (0, .ref (A0 + 703))]) hx hb dX12_part_65 rfl hl (by decide) rfl (fun ls hl => ?_)
              refine lv_goto (tgt := 18) hx hb dX12_part_66 (by decide) ?_
              exact ih18 y0_65 σ65 _ _ _ Z (lv_sub hl [1, 0] rfl) h
            obtain ⟨j64, ej64, h⟩ := lt_x h
            have hj64 : ∀ (σ64 : Mm) (H : Heap) (locs : List Loc) (ls : Array Slot), zh D A0 σ64 GF 740 s.heap H locs → lv_has ls 5 [(0, .ref (A0 + 703))] → j64 σ64 = some (r0, σr) → W p l e (zR (10 * dd + 252) (400 * dd + 9100)) s m [.ref (A0 + 703), .int x1, .int x2].toArray below meth c H locs 0 0 (MQ below (zQi D A0 r0 σr GF 740) [.ref (A0 + 703), .int x1, .int x2].toArray s 0 0 (zA A0)) (F0 m 64 ls []) := by
              intro  σ64 H locs ls Z hl h
              rw [ej64] at h
              try dsimp only at h
              refine lv_iconst (v := 0) hx hb dX12_part_64 (by decide) ?_
              exact hj65 0 σ64 _ _ _ Z (lv_sub hl [0] rfl) h
            refine zb_ifeq (tgt := 64) hx hb dX12_part_52 (by decide) h (fun h => ?_) (fun h => ?_)
            · exact hj64 σ46 _ _ _ Z (lv_sub hl [1] rfl) h
            · refine lv_iload hx hb dX12_part_55 (lv_at hl 0 rfl) ?_
              refine zb_ifeq (tgt := 64) hx hb dX12_part_57 (by decide) h (fun h => ?_) (fun h => ?_)
              · exact hj64 σ46 _ _ _ Z (lv_sub hl [1] rfl) h
              · refine lv_iconst (v := 1) hx hb dX12_part_60 (by decide) ?_
                refine lv_goto (tgt := 65) hx hb dX12_part_61 (by decide) ?_
                exact hj65 1 σ46 _ _ _ Z (lv_sub hl [1] rfl) h
    exact hL18 NF y0_17 σ17 _ _ _ Z (lv_sub hl [1, 0] rfl) h
  refine zb_ifeq (tgt := 13) hx hb dX12_part_1 (by decide) h (fun h => ?_) (fun h => ?_)
  · refine lv_aload_n hx hb dX12_part_13 rfl (lv_at hl 0 rfl) ?_
    obtain ⟨r14, σ14, hc14, h⟩ := bd2_x h
    refine zc_i Z (zr_V F Z (a := 703) (As := []) (hrec σ r14 σ14 hc14) zBX12_unit zq1601 (by decide) zs_703 zC12.1 rfl ⟨⟨rfl, rfl⟩, by dsimp only [zR, RD]; omega, by dsimp only [zR, RD]; omega⟩ hl.1 rfl (Nat.le_of_ble_eq_true rfl) dX12_part_14 ⟨Nat.le_of_ble_eq_true rfl, Nat.le_of_ble_eq_true rfl⟩) (fun _ _ Z => ?_)
    exact hj17 r14 σ14 _ _ _ Z (lv_sub hl [0] rfl) h
  · refine lv_aload_n hx hb dX12_part_4 rfl (lv_at hl 0 rfl) ?_
    refine lv_iconst (v := 1) hx hb dX12_part_5 (by decide) ?_
    refine lv_iload_n hx hb dX12_part_6 rfl (lv_at hl 2 rfl) ?_
    obtain ⟨r7, σ7, hc7, h⟩ := bd2_x h
    refine zc_i Z (zr_V F Z (a := 703) (As := [.int 1, .int x2]) (zcX12_compares l D A0 1 x2 σ r7 σ7 hc7) zBX12_compares zq1571 (by decide) zs_703 zC12.1 rfl ⟨⟨rfl, rfl⟩, by dsimp only [zR, RD]; omega, by dsimp only [zR, RD]; omega⟩ hl.1 rfl (Nat.le_of_ble_eq_true rfl) dX12_part_7 ⟨Nat.le_of_ble_eq_true rfl, Nat.le_of_ble_eq_true rfl⟩) (fun _ _ Z => ?_)
    refine lv_goto (tgt := 17) hx hb dX12_part_10 (by decide) ?_
    exact hj17 r7 σ7 _ _ _ Z (lv_sub hl [0] rfl) h
set_option maxHeartbeats 4000000 in
set_option maxRecDepth 100000 in
theorem zcX12_condition (l : Launch) (D : va_G) (A0 : Nat) (zrec : Mm → Option (Int32 × Mm)) (dd : Nat) (hrec : ∀ (σ : Mm) (r0 : Int32) (σr : Mm) (h : zrec σ = some (r0, σr)), Met l yX12_unit (zws yX12_unit cX12_unit 3 (some .boolean)) (zR (10 * dd + 250) (400 * dd + 9000)) (zPc D A0 σ GF 740 [.ref (A0 + 703)]) (zQi D A0 r0 σr GF 740) 0 0 (zA A0)) (x1 : Int32) (x2 : Int32) (σ : Mm) (r0 : Int32) (σr : Mm) (h : zfX12_condition zrec x1 x2 σ = some (r0, σr)) : Met l yX12_condition (zws yX12_condition cX12_condition 5 (some .boolean)) (zR (10 * dd + 254) (400 * dd + 9200)) (zPc D A0 σ GF 740 [.ref (A0 + 703), .int x1, .int x2]) (zQi D A0 r0 σr GF 740) 0 0 (zA A0) := by
  unfold zfX12_condition at h
  refine zmet (own := RX12) (by decide) rfl (Nat.le_of_ble_eq_true rfl) ?_
  intro p e s m below meth c F hr hlocks _ Z ls hl
  have hl : lv_has ls 5 [(0, .ref (A0 + 703)), (1, .int x1), (2, .int x2)] := hl
  have hx := F.1.1
  have hb := F.1.2.1
  have hown := F.1.2.2.2.1
  have hts := F.1.2.2.2.2
  refine lv_aload_n hx hb dX12_condition_0 rfl (lv_at hl 0 rfl) ?_
  refine lv_iload_n hx hb dX12_condition_1 rfl (lv_at hl 1 rfl) ?_
  refine lv_iload_n hx hb dX12_condition_2 rfl (lv_at hl 2 rfl) ?_
  obtain ⟨r3, σ3, hc3, h⟩ := bd2_x h
  refine zc_i Z (zr_V F Z (a := 703) (As := [.int x1, .int x2]) (zcX12_part l D A0 zrec dd hrec x1 x2 σ r3 σ3 hc3) zBX12_part zq1567 (by decide) zs_703 zC12.1 rfl ⟨⟨rfl, rfl⟩, by dsimp only [zR, RD]; omega, by dsimp only [zR, RD]; omega⟩ hl.1 rfl (Nat.le_of_ble_eq_true rfl) dX12_condition_3 ⟨Nat.le_of_ble_eq_true rfl, Nat.le_of_ble_eq_true rfl⟩) (fun _ _ Z => ?_)
  refine lv_istore_n (lv' := [(3, .int r3), (0, .ref (A0 + 703)), (1, .int x1), (2, .int x2)]) hx hb dX12_condition_6 rfl hl (by decide) rfl (fun ls hl => ?_)
  obtain ⟨k60, ek60, h⟩ := lt_x h
  have hk60 : ∀ (x3_60 : Int32) (σ60 : Mm) (H : Heap) (locs : List Loc) (ls : Array Slot), zh D A0 σ60 GF 740 s.heap H locs → lv_has ls 5 [(3, .int x3_60)] → k60 x3_60 σ60 = some (r0, σr) → W p l e (zR (10 * dd + 254) (400 * dd + 9200)) s m [.ref (A0 + 703), .int x1, .int x2].toArray below meth c H locs 0 0 (MQ below (zQi D A0 r0 σr GF 740) [.ref (A0 + 703), .int x1, .int x2].toArray s 0 0 (zA A0)) (F0 m 60 ls []) := by
    intro x3_60 σ60 H locs ls Z hl h
    rw [ek60] at h
    try dsimp only at h
    refine lv_iload_n hx hb dX12_condition_60 rfl (lv_at hl 0 rfl) ?_
    obtain ⟨hz61, h⟩ := ck_x h
    obtain ⟨hq1, hq2⟩ := zpq h
    exact ze_z F Z hr hlocks hz61 hq1 hq2 dX12_condition_61
  have hL7 : ∀ (fu7 : Nat) (x3_7 : Int32) (σ7 : Mm) (H : Heap) (locs : List Loc) (ls : Array Slot), zh D A0 σ7 GF 740 s.heap H locs → lv_has ls 5 [(0, .ref (A0 + 703)), (3, .int x3_7)] → zfX12_condition_L7 zrec k60 fu7 x3_7 σ7 = some (r0, σr) → W p l e (zR (10 * dd + 254) (400 * dd + 9200)) s m [.ref (A0 + 703), .int x1, .int x2].toArray below meth c H locs 0 0 (MQ below (zQi D A0 r0 σr GF 740) [.ref (A0 + 703), .int x1, .int x2].toArray s 0 0 (zA A0)) (F0 m 7 ls []) := by
    intro fu7
    induction fu7 with
    | zero => intro x3_7 σ7 H locs ls Z hl h; rw [zfX12_condition_L7] at h; cases h
    | succ fu7 ih7 =>
      intro x3_7 σ7 H locs ls Z hl h
      rw [zfX12_condition_L7] at h
      refine lv_aload_n hx hb dX12_condition_7 rfl (lv_at hl 0 rfl) ?_
      refine zw_getI F Z zC12 (a := 703) (k := 11) (by decide) zs_703 (by decide) rfl zq1261 (Or.inl rfl) dX12_condition_8 ?_
      refine lv_iconst (v := (-1)) hx hb dX12_condition_11 (by decide) ?_
      refine zb_icne (tgt := 60) hx hb dX12_condition_12 (by decide) h (fun h => ?_) (fun h => ?_)
      · exact hk60 x3_7 σ7 _ _ _ Z (lv_sub hl [1] rfl) h
      · refine lv_aload_n hx hb dX12_condition_15 rfl (lv_at hl 0 rfl) ?_
        obtain ⟨r16, σ16, hc16, h⟩ := bd2_x h
        refine zc_i Z (zr_V F Z (a := 703) (As := []) (zcX12_look l D A0 σ7 r16 σ16 hc16) zBX12_look zq1514 (by decide) zs_703 zC12.1 rfl ⟨⟨rfl, rfl⟩, by dsimp only [zR, RD]; omega, by dsimp only [zR, RD]; omega⟩ hl.1 rfl (Nat.le_of_ble_eq_true rfl) dX12_condition_16 ⟨Nat.le_of_ble_eq_true rfl, Nat.le_of_ble_eq_true rfl⟩) (fun _ _ Z => ?_)
        refine lv_bipush (v := 124) hx hb dX12_condition_19 (by decide) ?_
        refine zb_icne (tgt := 60) hx hb dX12_condition_21 (by decide) h (fun h => ?_) (fun h => ?_)
        · exact hk60 x3_7 σ16 _ _ _ Z (lv_sub hl [1] rfl) h
        · refine lv_aload_n hx hb dX12_condition_24 rfl (lv_at hl 0 rfl) ?_
          refine lv_dup hx hb dX12_condition_25 rfl ?_
          refine zw_getI F Z zC12 (a := 703) (k := 10) (by decide) zs_703 (by decide) rfl zq1260 (Or.inl rfl) dX12_condition_26 ?_
          refine lv_iconst (v := 1) hx hb dX12_condition_29 (by decide) ?_
          refine lv_iadd hx hb dX12_condition_30 ?_
          refine zw_putI F Z zC12 (a := 703) (k := 10) (by decide) zs_703 (by decide) rfl (by decide) zq1260 (Or.inl rfl) rfl ⟨rfl, rfl⟩ dX12_condition_31 (fun σ31 _ _ eσ31 Z => ?_)
          replace h := lt_w h eσ31
          refine lv_aload_n hx hb dX12_condition_34 rfl (lv_at hl 0 rfl) ?_
          refine lv_iconst (v := 0) hx hb dX12_condition_35 (by decide) ?_
          refine lv_iconst (v := 0) hx hb dX12_condition_36 (by decide) ?_
          obtain ⟨r37, σ37, hc37, h⟩ := bd2_x h
          refine zc_i Z (zr_V F Z (a := 703) (As := [.int 0, .int 0]) (zcX12_part l D A0 zrec dd hrec 0 0 σ31 r37 σ37 hc37) zBX12_part zq1567 (by decide) zs_703 zC12.1 rfl ⟨⟨rfl, rfl⟩, by dsimp only [zR, RD]; omega, by dsimp only [zR, RD]; omega⟩ hl.1 rfl (Nat.le_of_ble_eq_true rfl) dX12_condition_37 ⟨Nat.le_of_ble_eq_true rfl, Nat.le_of_ble_eq_true rfl⟩) (fun _ _ Z => ?_)
          refine lv_istore (lv' := [(4, .int r37), (0, .ref (A0 + 703)), (3, .int x3_7)]) hx hb dX12_condition_40 hl (by decide) rfl (fun ls hl => ?_)
          refine lv_iload_n hx hb dX12_condition_42 rfl (lv_at hl 2 rfl) ?_
          obtain ⟨j56, ej56, h⟩ := lt_x h
          have hj56 : ∀ (y0_56 : Int32) (σ56 : Mm) (H : Heap) (locs : List Loc) (ls : Array Slot), zh D A0 σ56 GF 740 s.heap H locs → lv_has ls 5 [(0, .ref (A0 + 703))] → j56 y0_56 σ56 = some (r0, σr) → W p l e (zR (10 * dd + 254) (400 * dd + 9200)) s m [.ref (A0 + 703), .int x1, .int x2].toArray below meth c H locs 0 0 (MQ below (zQi D A0 r0 σr GF 740) [.ref (A0 + 703), .int x1, .int x2].toArray s 0 0 (zA A0)) (F0 m 56 ls [.int y0_56]) := by
            intro y0_56 σ56 H locs ls Z hl h
            rw [ej56] at h
            try dsimp only at h
            refine lv_istore_n (lv' := [(3, .int y0_56), (0, .ref (A0 + 703))]) hx hb dX12_condition_56 rfl hl (by decide) rfl (fun ls hl => ?_)
            refine lv_goto (tgt := 7) hx hb dX12_condition_57 (by decide) ?_
            exact ih7 y0_56 σ56 _ _ _ Z (lv_sub hl [1, 0] rfl) h
          obtain ⟨j51, ej51, h⟩ := lt_x h
          have hj51 : ∀ (σ51 : Mm) (H : Heap) (locs : List Loc) (ls : Array Slot), zh D A0 σ51 GF 740 s.heap H locs → lv_has ls 5 [(0, .ref (A0 + 703))] → j51 σ51 = some (r0, σr) → W p l e (zR (10 * dd + 254) (400 * dd + 9200)) s m [.ref (A0 + 703), .int x1, .int x2].toArray below meth c H locs 0 0 (MQ below (zQi D A0 r0 σr GF 740) [.ref (A0 + 703), .int x1, .int x2].toArray s 0 0 (zA A0)) (F0 m 51 ls []) := by
            intro  σ51 H locs ls Z hl h
            rw [ej51] at h
            try dsimp only at h
            refine lv_iconst (v := 1) hx hb dX12_condition_51 (by decide) ?_
            refine lv_goto (tgt := 56) hx hb dX12_condition_52 (by decide) ?_
            exact hj56 1 σ51 _ _ _ Z (lv_sub hl [0] rfl) h
          refine zb_ifne (tgt := 51) hx hb dX12_condition_43 (by decide) h (fun h => ?_) (fun h => ?_)
          · exact hj51 σ37 _ _ _ Z (lv_sub hl [1] rfl) h
          · refine lv_iload hx hb dX12_condition_46 (lv_at hl 0 rfl) ?_
            refine zb_ifeq (tgt := 55) hx hb dX12_condition_48 (by decide) h (fun h => ?_) (fun h => ?_)
            · refine lv_iconst (v := 0) hx hb dX12_condition_55 (by decide) ?_
              exact hj56 0 σ37 _ _ _ Z (lv_sub hl [1] rfl) h
            · exact hj51 σ37 _ _ _ Z (lv_sub hl [1] rfl) h
  exact hL7 NF r3 σ3 _ _ _ Z (lv_sub hl [1, 0] rfl) h
set_option maxHeartbeats 4000000 in
set_option maxRecDepth 100000 in
theorem zcX12_unit (l : Launch) (D : va_G) (A0 : Nat) : ∀ (dd : Nat) (σ : Mm) (r0 : Int32) (σr : Mm) (h : zfX12_unit dd σ = some (r0, σr)), Met l yX12_unit (zws yX12_unit cX12_unit 3 (some .boolean)) (zR (10 * dd + 250) (400 * dd + 9000)) (zPc D A0 σ GF 740 [.ref (A0 + 703)]) (zQi D A0 r0 σr GF 740) 0 0 (zA A0) := by
  intro dd
  induction dd with
  | zero => intro σ r0 σr h; rw [zfX12_unit] at h; cases h
  | succ dd hrec =>
  intro σ r0 σr h
  rw [zfX12_unit] at h
  refine zmet (own := RX12) (by decide) rfl (Nat.le_of_ble_eq_true rfl) ?_
  intro p e s m below meth c F hr hlocks _ Z ls hl
  have hl : lv_has ls 3 [(0, .ref (A0 + 703))] := hl
  have hx := F.1.1
  have hb := F.1.2.1
  have hown := F.1.2.2.2.1
  have hts := F.1.2.2.2.2
  refine lv_aload_n hx hb dX12_unit_0 rfl (lv_at hl 0 rfl) ?_
  obtain ⟨r1, σ1, hc1, h⟩ := bd2_x h
  refine zc_i Z (zr_V F Z (a := 703) (As := []) (zcX12_look l D A0 σ r1 σ1 hc1) zBX12_look zq1514 (by decide) zs_703 zC12.1 rfl ⟨⟨rfl, rfl⟩, by dsimp only [zR, RD]; omega, by dsimp only [zR, RD]; omega⟩ hl.1 rfl (Nat.le_of_ble_eq_true rfl) dX12_unit_1 ⟨Nat.le_of_ble_eq_true rfl, Nat.le_of_ble_eq_true rfl⟩) (fun _ _ Z => ?_)
  refine lv_istore_n (lv' := [(1, .int r1), (0, .ref (A0 + 703))]) hx hb dX12_unit_4 rfl hl (by decide) rfl (fun ls hl => ?_)
  refine lv_iload_n hx hb dX12_unit_5 rfl (lv_at hl 0 rfl) ?_
  refine lv_bipush (v := 33) hx hb dX12_unit_6 (by decide) ?_
  refine zb_icne (tgt := 45) hx hb dX12_unit_8 (by decide) h (fun h => ?_) (fun h => ?_)
  · refine lv_iload_n hx hb dX12_unit_45 rfl (lv_at hl 0 rfl) ?_
    refine lv_bipush (v := 40) hx hb dX12_unit_46 (by decide) ?_
    refine zb_icne (tgt := 90) hx hb dX12_unit_48 (by decide) h (fun h => ?_) (fun h => ?_)
    · refine lv_aload_n hx hb dX12_unit_90 rfl (lv_at hl 1 rfl) ?_
      refine lv_iconst (v := 0) hx hb dX12_unit_91 (by decide) ?_
      refine lv_iconst (v := 0) hx hb dX12_unit_92 (by decide) ?_
      obtain ⟨r93, σ93, hc93, h⟩ := bd2_x h
      refine zc_i Z (zr_V F Z (a := 703) (As := [.int 0, .int 0]) (zcX12_compares l D A0 0 0 σ1 r93 σ93 hc93) zBX12_compares zq1571 (by decide) zs_703 zC12.1 rfl ⟨⟨rfl, rfl⟩, by dsimp only [zR, RD]; omega, by dsimp only [zR, RD]; omega⟩ hl.1 rfl (Nat.le_of_ble_eq_true rfl) dX12_unit_93 ⟨Nat.le_of_ble_eq_true rfl, Nat.le_of_ble_eq_true rfl⟩) (fun _ _ Z => ?_)
      obtain ⟨hz96, h⟩ := ck_x h
      obtain ⟨hq1, hq2⟩ := zpq h
      exact ze_z F Z hr hlocks hz96 hq1 hq2 dX12_unit_96
    · refine lv_aload_n hx hb dX12_unit_51 rfl (lv_at hl 1 rfl) ?_
      obtain ⟨r52, σ52, hc52, h⟩ := bd2_x h
      refine zc_i Z (zr_V F Z (a := 703) (As := []) (zcX12_goesIn l D A0 σ1 r52 σ52 hc52) zBX12_goesIn zq1587 (by decide) zs_703 zC12.1 rfl ⟨⟨rfl, rfl⟩, by dsimp only [zR, RD]; omega, by dsimp only [zR, RD]; omega⟩ hl.1 rfl (Nat.le_of_ble_eq_true rfl) dX12_unit_52 ⟨Nat.le_of_ble_eq_true rfl, Nat.le_of_ble_eq_true rfl⟩) (fun _ _ Z => ?_)
      refine zb_ifne (tgt := 60) hx hb dX12_unit_55 (by decide) h (fun h => ?_) (fun h => ?_)
      · refine lv_aload_n hx hb dX12_unit_60 rfl (lv_at hl 1 rfl) ?_
        refine lv_iconst (v := 0) hx hb dX12_unit_61 (by decide) ?_
        refine lv_iconst (v := 0) hx hb dX12_unit_62 (by decide) ?_
        obtain ⟨r63, σ63, hc63, h⟩ := bd2_x h
        refine zc_i Z (zr_V F Z (a := 703) (As := [.int 0, .int 0]) (zcX12_condition l D A0 (zfX12_unit dd) dd hrec 0 0 σ52 r63 σ63 hc63) zBX12_condition zq1563 (by decide) zs_703 zC12.1 rfl ⟨⟨rfl, rfl⟩, by dsimp only [zR, RD]; omega, by dsimp only [zR, RD]; omega⟩ hl.1 rfl (Nat.le_of_ble_eq_true rfl) dX12_unit_63 ⟨Nat.le_of_ble_eq_true rfl, Nat.le_of_ble_eq_true rfl⟩) (fun _ _ Z => ?_)
        refine lv_istore_n (lv' := [(2, .int r63), (1, .int r1), (0, .ref (A0 + 703))]) hx hb dX12_unit_66 rfl hl (by decide) rfl (fun ls hl => ?_)
        refine lv_aload_n hx hb dX12_unit_67 rfl (lv_at hl 2 rfl) ?_
        refine lv_bipush (v := 41) hx hb dX12_unit_68 (by decide) ?_
        obtain ⟨r70, σ70, hc70, h⟩ := bd2_x h
        refine zc_i Z (zr_V F Z (a := 703) (As := [.int 41]) (zcX12_takes l D A0 41 σ63 r70 σ70 hc70) zBX12_takes zq1559 (by decide) zs_703 zC12.1 rfl ⟨⟨rfl, rfl⟩, by dsimp only [zR, RD]; omega, by dsimp only [zR, RD]; omega⟩ hl.1 rfl (Nat.le_of_ble_eq_true rfl) dX12_unit_70 ⟨Nat.le_of_ble_eq_true rfl, Nat.le_of_ble_eq_true rfl⟩) (fun _ _ Z => ?_)
        refine zb_ifne (tgt := 78) hx hb dX12_unit_73 (by decide) h (fun h => ?_) (fun h => ?_)
        · refine lv_aload_n hx hb dX12_unit_78 rfl (lv_at hl 2 rfl) ?_
          refine lv_dup hx hb dX12_unit_79 rfl ?_
          refine zw_getI F Z zC12 (a := 703) (k := 12) (by decide) zs_703 (by decide) rfl zq1262 (Or.inl rfl) dX12_unit_80 ?_
          refine lv_iconst (v := 1) hx hb dX12_unit_83 (by decide) ?_
          refine lv_isub hx hb dX12_unit_84 ?_
          refine zw_putI F Z zC12 (a := 703) (k := 12) (by decide) zs_703 (by decide) rfl (by decide) zq1262 (Or.inl rfl) rfl ⟨rfl, rfl⟩ dX12_unit_85 (fun σ85 _ _ eσ85 Z => ?_)
          replace h := lt_w h eσ85
          refine lv_iload_n hx hb dX12_unit_88 rfl (lv_at hl 0 rfl) ?_
          obtain ⟨hz89, h⟩ := ck_x h
          obtain ⟨hq1, hq2⟩ := zpq h
          exact ze_z F Z hr hlocks hz89 hq1 hq2 dX12_unit_89
        · refine lv_iconst (v := 0) hx hb dX12_unit_76 (by decide) ?_
          obtain ⟨hq1, hq2⟩ := zpq h
          exact ze_z F Z hr hlocks (by decide) hq1 hq2 dX12_unit_77
      · refine lv_iconst (v := 0) hx hb dX12_unit_58 (by decide) ?_
        obtain ⟨hq1, hq2⟩ := zpq h
        exact ze_z F Z hr hlocks (by decide) hq1 hq2 dX12_unit_59
  · refine lv_aload_n hx hb dX12_unit_11 rfl (lv_at hl 1 rfl) ?_
    obtain ⟨r12, σ12, hc12, h⟩ := bd2_x h
    refine zc_i Z (zr_V F Z (a := 703) (As := []) (zcX12_goesIn l D A0 σ1 r12 σ12 hc12) zBX12_goesIn zq1587 (by decide) zs_703 zC12.1 rfl ⟨⟨rfl, rfl⟩, by dsimp only [zR, RD]; omega, by dsimp only [zR, RD]; omega⟩ hl.1 rfl (Nat.le_of_ble_eq_true rfl) dX12_unit_12 ⟨Nat.le_of_ble_eq_true rfl, Nat.le_of_ble_eq_true rfl⟩) (fun _ _ Z => ?_)
    refine zb_ifne (tgt := 20) hx hb dX12_unit_15 (by decide) h (fun h => ?_) (fun h => ?_)
    · refine lv_aload_n hx hb dX12_unit_20 rfl (lv_at hl 1 rfl) ?_
      obtain ⟨r21, σ21, hc21, h⟩ := bd2_x h
      refine zc_i Z (zr_V F Z (a := 703) (As := []) (hrec σ12 r21 σ21 hc21) zBX12_unit zq1601 (by decide) zs_703 zC12.1 rfl ⟨⟨rfl, rfl⟩, by dsimp only [zR, RD]; omega, by dsimp only [zR, RD]; omega⟩ hl.1 rfl (Nat.le_of_ble_eq_true rfl) dX12_unit_21 ⟨Nat.le_of_ble_eq_true rfl, Nat.le_of_ble_eq_true rfl⟩) (fun _ _ Z => ?_)
      refine lv_istore_n (lv' := [(2, .int r21), (1, .int r1), (0, .ref (A0 + 703))]) hx hb dX12_unit_24 rfl hl (by decide) rfl (fun ls hl => ?_)
      refine lv_aload_n hx hb dX12_unit_25 rfl (lv_at hl 2 rfl) ?_
      refine lv_dup hx hb dX12_unit_26 rfl ?_
      refine zw_getI F Z zC12 (a := 703) (k := 12) (by decide) zs_703 (by decide) rfl zq1262 (Or.inl rfl) dX12_unit_27 ?_
      refine lv_iconst (v := 1) hx hb dX12_unit_30 (by decide) ?_
      refine lv_isub hx hb dX12_unit_31 ?_
      refine zw_putI F Z zC12 (a := 703) (k := 12) (by decide) zs_703 (by decide) rfl (by decide) zq1262 (Or.inl rfl) rfl ⟨rfl, rfl⟩ dX12_unit_32 (fun σ32 _ _ eσ32 Z => ?_)
      replace h := lt_w h eσ32
      refine lv_iload_n hx hb dX12_unit_35 rfl (lv_at hl 0 rfl) ?_
      refine zb_ifne (tgt := 43) hx hb dX12_unit_36 (by decide) h (fun h => ?_) (fun h => ?_)
      · refine lv_iconst (v := 0) hx hb dX12_unit_43 (by decide) ?_
        obtain ⟨hq1, hq2⟩ := zpq h
        exact ze_z F Z hr hlocks (by decide) hq1 hq2 dX12_unit_44
      · refine lv_iconst (v := 1) hx hb dX12_unit_39 (by decide) ?_
        refine lv_goto (tgt := 44) hx hb dX12_unit_40 (by decide) ?_
        obtain ⟨hq1, hq2⟩ := zpq h
        exact ze_z F Z hr hlocks (by decide) hq1 hq2 dX12_unit_44
    · refine lv_iconst (v := 0) hx hb dX12_unit_18 (by decide) ?_
      obtain ⟨hq1, hq2⟩ := zpq h
      exact ze_z F Z hr hlocks (by decide) hq1 hq2 dX12_unit_19
set_option maxHeartbeats 4000000 in
set_option maxRecDepth 100000 in
theorem zcX12_clause (l : Launch) (D : va_G) (A0 : Nat) (σ : Mm) (σr : Mm) (h : zfX12_clause σ = some σr) : Met l yX12_clause (zws yX12_clause cX12_clause 5 none) (zR 395 14824) (zPc D A0 σ GF 740 [.ref (A0 + 703)]) (zQv D A0 σr GF 740) 0 0 (zA A0) := by
  unfold zfX12_clause at h
  refine zmet (own := RX12) (by decide) rfl (Nat.le_of_ble_eq_true rfl) ?_
  intro p e s m below meth c F hr hlocks _ Z ls hl
  have hl : lv_has ls 5 [(0, .ref (A0 + 703))] := hl
  have hx := F.1.1
  have hb := F.1.2.1
  have hown := F.1.2.2.2.1
  have hts := F.1.2.2.2.2
  refine lv_aload_n hx hb dX12_clause_0 rfl (lv_at hl 0 rfl) ?_
  obtain ⟨r1, σ1, hc1, h⟩ := bd2_x h
  refine zc_i Z (zr_V F Z (a := 703) (As := []) (zcX12_look l D A0 σ r1 σ1 hc1) zBX12_look zq1514 (by decide) zs_703 zC12.1 rfl ⟨⟨rfl, rfl⟩, Nat.le_of_ble_eq_true rfl, Nat.le_of_ble_eq_true rfl⟩ hl.1 rfl (Nat.le_of_ble_eq_true rfl) dX12_clause_1 ⟨Nat.le_of_ble_eq_true rfl, Nat.le_of_ble_eq_true rfl⟩) (fun _ _ Z => ?_)
  refine lv_istore_n (lv' := [(1, .int r1), (0, .ref (A0 + 703))]) hx hb dX12_clause_4 rfl hl (by decide) rfl (fun ls hl => ?_)
  refine zw_ldcS F (i := 2) (tx := "y") (by decide) dX12_clause_5 ?_
  refine lv_iload_n hx hb dX12_clause_7 rfl (lv_at hl 0 rfl) ?_
  obtain ⟨r8, hc8, h⟩ := bd_x h
  refine zc_i Z (zr_S F Z (As := [.ref (D.1 (60 + 2)), .int r1]) (zcX12_isAmong l D A0 2 r1 (by decide) σ1 r8 hc8) zBX12_isAmong zq1556 rfl ⟨⟨rfl, rfl⟩, Nat.le_of_ble_eq_true rfl, Nat.le_of_ble_eq_true rfl⟩ hl.1 rfl (Nat.le_of_ble_eq_true rfl) dX12_clause_8 ⟨Nat.le_of_ble_eq_true rfl, Nat.le_of_ble_eq_true rfl⟩) (fun _ _ Z => ?_)
  refine zb_ifne (tgt := 20) hx hb dX12_clause_11 (by decide) h (fun h => ?_) (fun h => ?_)
  · refine lv_aload_n hx hb dX12_clause_20 rfl (lv_at hl 1 rfl) ?_
    refine lv_dup hx hb dX12_clause_21 rfl ?_
    refine zw_getI F Z zC12 (a := 703) (k := 10) (by decide) zs_703 (by decide) rfl zq1260 (Or.inl rfl) dX12_clause_22 ?_
    refine lv_iconst (v := 1) hx hb dX12_clause_25 (by decide) ?_
    refine lv_iadd hx hb dX12_clause_26 ?_
    refine zw_putI F Z zC12 (a := 703) (k := 10) (by decide) zs_703 (by decide) rfl (by decide) zq1260 (Or.inl rfl) rfl ⟨rfl, rfl⟩ dX12_clause_27 (fun σ27 _ _ eσ27 Z => ?_)
    replace h := lt_w h eσ27
    refine lv_aload_n hx hb dX12_clause_30 rfl (lv_at hl 1 rfl) ?_
    refine lv_bipush (v := 58) hx hb dX12_clause_31 (by decide) ?_
    obtain ⟨r33, σ33, hc33, h⟩ := bd2_x h
    refine zc_i Z (zr_V F Z (a := 703) (As := [.int 58]) (zcX12_takes l D A0 58 σ27 r33 σ33 hc33) zBX12_takes zq1559 (by decide) zs_703 zC12.1 rfl ⟨⟨rfl, rfl⟩, Nat.le_of_ble_eq_true rfl, Nat.le_of_ble_eq_true rfl⟩ hl.1 rfl (Nat.le_of_ble_eq_true rfl) dX12_clause_33 ⟨Nat.le_of_ble_eq_true rfl, Nat.le_of_ble_eq_true rfl⟩) (fun _ _ Z => ?_)
    refine zb_ifne (tgt := 40) hx hb dX12_clause_36 (by decide) h (fun h => ?_) (fun h => ?_)
    · refine lv_iconst (v := 1) hx hb dX12_clause_40 (by decide) ?_
      refine lv_istore_n (lv' := [(2, .int 1), (1, .int r1), (0, .ref (A0 + 703))]) hx hb dX12_clause_41 rfl hl (by decide) rfl (fun ls hl => ?_)
      refine lv_iconst (v := 0) hx hb dX12_clause_42 (by decide) ?_
      refine lv_istore_n (lv' := [(3, .int 0), (2, .int 1), (1, .int r1), (0, .ref (A0 + 703))]) hx hb dX12_clause_43 rfl hl (by decide) rfl (fun ls hl => ?_)
      refine lv_aload_n hx hb dX12_clause_44 rfl (lv_at hl 3 rfl) ?_
      obtain ⟨r45, σ45, hc45, h⟩ := bd2_x h
      refine zc_i Z (zr_V F Z (a := 703) (As := []) (zcX12_look l D A0 σ33 r45 σ45 hc45) zBX12_look zq1514 (by decide) zs_703 zC12.1 rfl ⟨⟨rfl, rfl⟩, Nat.le_of_ble_eq_true rfl, Nat.le_of_ble_eq_true rfl⟩ hl.1 rfl (Nat.le_of_ble_eq_true rfl) dX12_clause_45 ⟨Nat.le_of_ble_eq_true rfl, Nat.le_of_ble_eq_true rfl⟩) (fun _ _ Z => ?_)
      refine lv_istore (lv' := [(4, .int r45), (3, .int 0), (2, .int 1), (1, .int r1), (0, .ref (A0 + 703))]) hx hb dX12_clause_48 hl (by decide) rfl (fun ls hl => ?_)
      refine lv_iload hx hb dX12_clause_50 (lv_at hl 0 rfl) ?_
      refine lv_bipush (v := 33) hx hb dX12_clause_52 (by decide) ?_
      obtain ⟨j134, ej134, h⟩ := lt_x h
      have hj134 : ∀ (x2_134 : Int32) (x3_134 : Int32) (σ134 : Mm) (H : Heap) (locs : List Loc) (ls : Array Slot), zh D A0 σ134 GF 740 s.heap H locs → lv_has ls 5 [(0, .ref (A0 + 703)), (1, .int r1), (2, .int x2_134), (3, .int x3_134)] → j134 x2_134 x3_134 σ134 = some σr → W p l e (zR 395 14824) s m [.ref (A0 + 703)].toArray below meth c H locs 0 0 (MQ below (zQv D A0 σr GF 740) [.ref (A0 + 703)].toArray s 0 0 (zA A0)) (F0 m 134 ls []) := by
        intro x2_134 x3_134 σ134 H locs ls Z hl h
        rw [ej134] at h
        try dsimp only at h
        refine lv_aload_n hx hb dX12_clause_134 rfl (lv_at hl 0 rfl) ?_
        refine zw_getI F Z zC12 (a := 703) (k := 11) (by decide) zs_703 (by decide) rfl zq1261 (Or.inl rfl) dX12_clause_135 ?_
        refine lv_iconst (v := (-1)) hx hb dX12_clause_138 (by decide) ?_
        refine zb_icne (tgt := 161) hx hb dX12_clause_139 (by decide) h (fun h => ?_) (fun h => ?_)
        · have hq := Option.some.inj h
          exact ze_v F Z hr hlocks hq dX12_clause_161
        · refine lv_aload_n hx hb dX12_clause_142 rfl (lv_at hl 0 rfl) ?_
          refine zw_getI F Z zC12 (a := 703) (k := 17) (by decide) zs_703 (by decide) rfl zq1267 (Or.inl rfl) dX12_clause_143 ?_
          refine zb_ifne (tgt := 161) hx hb dX12_clause_146 (by decide) h (fun h => ?_) (fun h => ?_)
          · have hq := Option.some.inj h
            exact ze_v F Z hr hlocks hq dX12_clause_161
          · refine lv_iload_n hx hb dX12_clause_149 rfl (lv_at hl 1 rfl) ?_
            refine lv_aload_n hx hb dX12_clause_150 rfl (lv_at hl 0 rfl) ?_
            refine zw_getI F Z zC12 (a := 703) (k := 13) (by decide) zs_703 (by decide) rfl zq1263 (Or.inl rfl) dX12_clause_151 ?_
            refine zb_icne (tgt := 161) hx hb dX12_clause_154 (by decide) h (fun h => ?_) (fun h => ?_)
            · have hq := Option.some.inj h
              exact ze_v F Z hr hlocks hq dX12_clause_161
            · refine lv_iload_n hx hb dX12_clause_157 rfl (lv_at hl 2 rfl) ?_
              refine zb_ifne (tgt := 162) hx hb dX12_clause_158 (by decide) h (fun h => ?_) (fun h => ?_)
              · refine lv_aload_n hx hb dX12_clause_162 rfl (lv_at hl 0 rfl) ?_
                refine lv_iconst (v := 1) hx hb dX12_clause_163 (by decide) ?_
                refine zw_putI F Z zC12 (a := 703) (k := 17) (by decide) zs_703 (by decide) rfl (by decide) zq1267 (Or.inl rfl) rfl (z_nb (by decide)) dX12_clause_164 (fun σ164 _ _ eσ164 Z => ?_)
                replace h := lt_w h eσ164
                refine lv_aload_n hx hb dX12_clause_167 rfl (lv_at hl 0 rfl) ?_
                refine lv_iload_n hx hb dX12_clause_168 rfl (lv_at hl 3 rfl) ?_
                refine zw_putI F Z zC12 (a := 703) (k := 14) (by decide) zs_703 (by decide) rfl (by decide) zq1264 (Or.inl rfl) rfl ⟨rfl, rfl⟩ dX12_clause_169 (fun σ169 _ _ eσ169 Z => ?_)
                replace h := lt_w h eσ169
                have hq := Option.some.inj h
                exact ze_v F Z hr hlocks hq dX12_clause_172
              · have hq := Option.some.inj h
                exact ze_v F Z hr hlocks hq dX12_clause_161
      obtain ⟨j64, ej64, h⟩ := lt_x h
      have hj64 : ∀ (σ64 : Mm) (H : Heap) (locs : List Loc) (ls : Array Slot), zh D A0 σ64 GF 740 s.heap H locs → lv_has ls 5 [(0, .ref (A0 + 703)), (1, .int r1)] → j64 σ64 = some σr → W p l e (zR 395 14824) s m [.ref (A0 + 703)].toArray below meth c H locs 0 0 (MQ below (zQv D A0 σr GF 740) [.ref (A0 + 703)].toArray s 0 0 (zA A0)) (F0 m 64 ls []) := by
        intro  σ64 H locs ls Z hl h
        rw [ej64] at h
        try dsimp only at h
        refine lv_aload_n hx hb dX12_clause_64 rfl (lv_at hl 0 rfl) ?_
        refine lv_iconst (v := 0) hx hb dX12_clause_65 (by decide) ?_
        refine lv_iconst (v := 0) hx hb dX12_clause_66 (by decide) ?_
        obtain ⟨r67, σ67, hc67, h⟩ := bd2_x h
        refine zc_i Z (zr_V F Z (a := 703) (As := [.int 0, .int 0]) (zcX12_condition l D A0 (zfX12_unit RD) RD (zcX12_unit l D A0 RD) 0 0 σ64 r67 σ67 hc67) zBX12_condition zq1563 (by decide) zs_703 zC12.1 rfl ⟨⟨rfl, rfl⟩, Nat.le_of_ble_eq_true rfl, Nat.le_of_ble_eq_true rfl⟩ hl.1 rfl (Nat.le_of_ble_eq_true rfl) dX12_clause_67 ⟨Nat.le_of_ble_eq_true rfl, Nat.le_of_ble_eq_true rfl⟩) (fun _ _ Z => ?_)
        refine lv_istore_n (lv' := [(2, .int r67), (0, .ref (A0 + 703)), (1, .int r1)]) hx hb dX12_clause_70 rfl hl (by decide) rfl (fun ls hl => ?_)
        refine lv_aload_n hx hb dX12_clause_71 rfl (lv_at hl 1 rfl) ?_
        refine lv_bipush (v := 63) hx hb dX12_clause_72 (by decide) ?_
        obtain ⟨r74, σ74, hc74, h⟩ := bd2_x h
        refine zc_i Z (zr_V F Z (a := 703) (As := [.int 63]) (zcX12_takes l D A0 63 σ67 r74 σ74 hc74) zBX12_takes zq1559 (by decide) zs_703 zC12.1 rfl ⟨⟨rfl, rfl⟩, Nat.le_of_ble_eq_true rfl, Nat.le_of_ble_eq_true rfl⟩ hl.1 rfl (Nat.le_of_ble_eq_true rfl) dX12_clause_74 ⟨Nat.le_of_ble_eq_true rfl, Nat.le_of_ble_eq_true rfl⟩) (fun _ _ Z => ?_)
        refine zb_ifne (tgt := 81) hx hb dX12_clause_77 (by decide) h (fun h => ?_) (fun h => ?_)
        · refine lv_aload_n hx hb dX12_clause_81 rfl (lv_at hl 1 rfl) ?_
          obtain ⟨r82, σ82, hc82, h⟩ := bd2_x h
          refine zc_i Z (zr_V F Z (a := 703) (As := []) (zcX12_sum l D A0 RD σ74 r82 σ82 hc82) zBX12_sum zq1575 (by decide) zs_703 zC12.1 rfl ⟨⟨rfl, rfl⟩, Nat.le_of_ble_eq_true rfl, Nat.le_of_ble_eq_true rfl⟩ hl.1 rfl (Nat.le_of_ble_eq_true rfl) dX12_clause_82 ⟨Nat.le_of_ble_eq_true rfl, Nat.le_of_ble_eq_true rfl⟩) (fun _ _ Z => ?_)
          refine lv_istore_n (lv' := [(3, .int r82), (2, .int r67), (0, .ref (A0 + 703)), (1, .int r1)]) hx hb dX12_clause_85 rfl hl (by decide) rfl (fun ls hl => ?_)
          refine lv_goto (tgt := 134) hx hb dX12_clause_86 (by decide) ?_
          exact hj134 r67 r82 σ82 _ _ _ Z (lv_sub hl [2, 3, 1, 0] rfl) h
        · have hq := Option.some.inj h
          exact ze_v F Z hr hlocks hq dX12_clause_80
      refine zb_iceq (tgt := 64) hx hb dX12_clause_54 (by decide) h (fun h => ?_) (fun h => ?_)
      · exact hj64 σ45 _ _ _ Z (lv_sub hl [4, 3] rfl) h
      · refine lv_iload hx hb dX12_clause_57 (lv_at hl 0 rfl) ?_
        refine lv_bipush (v := 40) hx hb dX12_clause_59 (by decide) ?_
        refine zb_icne (tgt := 89) hx hb dX12_clause_61 (by decide) h (fun h => ?_) (fun h => ?_)
        · refine lv_aload_n hx hb dX12_clause_89 rfl (lv_at hl 4 rfl) ?_
          obtain ⟨r90, σ90, hc90, h⟩ := bd2_x h
          refine zc_i Z (zr_V F Z (a := 703) (As := []) (zcX12_sum l D A0 RD σ45 r90 σ90 hc90) zBX12_sum zq1575 (by decide) zs_703 zC12.1 rfl ⟨⟨rfl, rfl⟩, Nat.le_of_ble_eq_true rfl, Nat.le_of_ble_eq_true rfl⟩ hl.1 rfl (Nat.le_of_ble_eq_true rfl) dX12_clause_90 ⟨Nat.le_of_ble_eq_true rfl, Nat.le_of_ble_eq_true rfl⟩) (fun _ _ Z => ?_)
          refine lv_istore_n (lv' := [(3, .int r90), (4, .int r45), (2, .int 1), (1, .int r1), (0, .ref (A0 + 703))]) hx hb dX12_clause_93 rfl hl (by decide) rfl (fun ls hl => ?_)
          refine lv_aload_n hx hb dX12_clause_94 rfl (lv_at hl 4 rfl) ?_
          refine zw_getI F Z zC12 (a := 703) (k := 11) (by decide) zs_703 (by decide) rfl zq1261 (Or.inl rfl) dX12_clause_95 ?_
          refine lv_iconst (v := (-1)) hx hb dX12_clause_98 (by decide) ?_
          refine zb_icne (tgt := 134) hx hb dX12_clause_99 (by decide) h (fun h => ?_) (fun h => ?_)
          · exact hj134 1 r90 σ90 _ _ _ Z (lv_sub hl [4, 3, 2, 0] rfl) h
          · refine lv_aload_n hx hb dX12_clause_102 rfl (lv_at hl 4 rfl) ?_
            obtain ⟨r103, σ103, hc103, h⟩ := bd2_x h
            refine zc_i Z (zr_V F Z (a := 703) (As := []) (zcX12_look l D A0 σ90 r103 σ103 hc103) zBX12_look zq1514 (by decide) zs_703 zC12.1 rfl ⟨⟨rfl, rfl⟩, Nat.le_of_ble_eq_true rfl, Nat.le_of_ble_eq_true rfl⟩ hl.1 rfl (Nat.le_of_ble_eq_true rfl) dX12_clause_103 ⟨Nat.le_of_ble_eq_true rfl, Nat.le_of_ble_eq_true rfl⟩) (fun _ _ Z => ?_)
            refine zc_i Z (zr_S F Z (As := [.int r103]) (zcX12_isSign l D A0 r103 σ103 (zfX12_isSign r103) rfl) zBX12_isSign zq1598 rfl ⟨⟨rfl, rfl⟩, Nat.le_of_ble_eq_true rfl, Nat.le_of_ble_eq_true rfl⟩ hl.1 rfl (Nat.le_of_ble_eq_true rfl) dX12_clause_106 ⟨Nat.le_of_ble_eq_true rfl, Nat.le_of_ble_eq_true rfl⟩) (fun _ _ Z => ?_)
            refine zb_ifeq (tgt := 134) hx hb dX12_clause_109 (by decide) h (fun h => ?_) (fun h => ?_)
            · exact hj134 1 r90 σ103 _ _ _ Z (lv_sub hl [4, 3, 2, 0] rfl) h
            · refine lv_aload_n hx hb dX12_clause_112 rfl (lv_at hl 4 rfl) ?_
              refine lv_iconst (v := 1) hx hb dX12_clause_113 (by decide) ?_
              refine lv_iload_n hx hb dX12_clause_114 rfl (lv_at hl 0 rfl) ?_
              obtain ⟨r115, σ115, hc115, h⟩ := bd2_x h
              refine zc_i Z (zr_V F Z (a := 703) (As := [.int 1, .int r90]) (zcX12_condition l D A0 (zfX12_unit RD) RD (zcX12_unit l D A0 RD) 1 r90 σ103 r115 σ115 hc115) zBX12_condition zq1563 (by decide) zs_703 zC12.1 rfl ⟨⟨rfl, rfl⟩, Nat.le_of_ble_eq_true rfl, Nat.le_of_ble_eq_true rfl⟩ hl.1 rfl (Nat.le_of_ble_eq_true rfl) dX12_clause_115 ⟨Nat.le_of_ble_eq_true rfl, Nat.le_of_ble_eq_true rfl⟩) (fun _ _ Z => ?_)
              refine lv_istore_n (lv' := [(2, .int r115), (3, .int r90), (4, .int r45), (1, .int r1), (0, .ref (A0 + 703))]) hx hb dX12_clause_118 rfl hl (by decide) rfl (fun ls hl => ?_)
              refine lv_aload_n hx hb dX12_clause_119 rfl (lv_at hl 4 rfl) ?_
              refine lv_bipush (v := 63) hx hb dX12_clause_120 (by decide) ?_
              obtain ⟨r122, σ122, hc122, h⟩ := bd2_x h
              refine zc_i Z (zr_V F Z (a := 703) (As := [.int 63]) (zcX12_takes l D A0 63 σ115 r122 σ122 hc122) zBX12_takes zq1559 (by decide) zs_703 zC12.1 rfl ⟨⟨rfl, rfl⟩, Nat.le_of_ble_eq_true rfl, Nat.le_of_ble_eq_true rfl⟩ hl.1 rfl (Nat.le_of_ble_eq_true rfl) dX12_clause_122 ⟨Nat.le_of_ble_eq_true rfl, Nat.le_of_ble_eq_true rfl⟩) (fun _ _ Z => ?_)
              refine zb_ifne (tgt := 129) hx hb dX12_clause_125 (by decide) h (fun h => ?_) (fun h => ?_)
              · refine lv_aload_n hx hb dX12_clause_129 rfl (lv_at hl 4 rfl) ?_
                obtain ⟨r130, σ130, hc130, h⟩ := bd2_x h
                refine zc_i Z (zr_V F Z (a := 703) (As := []) (zcX12_sum l D A0 RD σ122 r130 σ130 hc130) zBX12_sum zq1575 (by decide) zs_703 zC12.1 rfl ⟨⟨rfl, rfl⟩, Nat.le_of_ble_eq_true rfl, Nat.le_of_ble_eq_true rfl⟩ hl.1 rfl (Nat.le_of_ble_eq_true rfl) dX12_clause_130 ⟨Nat.le_of_ble_eq_true rfl, Nat.le_of_ble_eq_true rfl⟩) (fun _ _ Z => ?_)
                refine lv_istore_n (lv' := [(3, .int r130), (2, .int r115), (4, .int r45), (1, .int r1), (0, .ref (A0 + 703))]) hx hb dX12_clause_133 rfl hl (by decide) rfl (fun ls hl => ?_)
                exact hj134 r115 r130 σ130 _ _ _ Z (lv_sub hl [4, 3, 1, 0] rfl) h
              · have hq := Option.some.inj h
                exact ze_v F Z hr hlocks hq dX12_clause_128
        · exact hj64 σ45 _ _ _ Z (lv_sub hl [4, 3] rfl) h
    · have hq := Option.some.inj h
      exact ze_v F Z hr hlocks hq dX12_clause_39
  · refine lv_aload_n hx hb dX12_clause_14 rfl (lv_at hl 1 rfl) ?_
    obtain ⟨r15, σ15, hc15, h⟩ := bd2_x h
    refine zc_i Z (zr_V F Z (a := 703) (As := []) (zcX12_fails l D A0 σ1 r15 σ15 hc15) zBX12_fails zq1518 (by decide) zs_703 zC12.1 rfl ⟨⟨rfl, rfl⟩, Nat.le_of_ble_eq_true rfl, Nat.le_of_ble_eq_true rfl⟩ hl.1 rfl (Nat.le_of_ble_eq_true rfl) dX12_clause_15 ⟨Nat.le_of_ble_eq_true rfl, Nat.le_of_ble_eq_true rfl⟩) (fun _ _ Z => ?_)
    refine lv_pop hx hb dX12_clause_18 rfl ?_
    have hq := Option.some.inj h
    exact ze_v F Z hr hlocks hq dX12_clause_19
