set_option maxHeartbeats 4000000 in
set_option maxRecDepth 100000 in
theorem zcX12_opens (l : Launch) (D : va_G) (A0 : Nat) (q1 : Nat) (x2 : Int32) (x3 : Int32) (hq1 : zIsB q1) (σ : Mm) (σr : Mm) (h : zfX12_opens q1 x2 x3 σ = some σr) : Met l yX12_opens (zws yX12_opens cX12_opens 4 none) (zR 0 0) (zPc D A0 σ GF 740 [.ref (A0 + 703), .ref (A0 + q1), .int x2, .int x3]) (zQv D A0 σr GF 740) 0 0 (zA A0) := by
  unfold zfX12_opens at h
  refine zmet (own := RX12) (by decide) rfl (Nat.le_of_ble_eq_true rfl) ?_
  intro p e s m below meth c F hr hlocks _ Z ls hl
  have hl : lv_has ls 4 [(0, .ref (A0 + 703)), (1, .ref (A0 + q1)), (2, .int x2), (3, .int x3)] := hl
  have hx := F.1.1
  have hb := F.1.2.1
  have hown := F.1.2.2.2.1
  have hts := F.1.2.2.2.2
  refine lv_aload_n hx hb dX12_opens_0 rfl (lv_at hl 0 rfl) ?_
  refine lv_aload_n hx hb dX12_opens_1 rfl (lv_at hl 1 rfl) ?_
  refine zw_putM F Z zC12 (a := 703) (k := 5) (by decide) zs_703 (by decide) rfl (by decide) (zB_pos hq1).1 (zB_pos hq1).2 zq1255 (Or.inl rfl) rfl (fun _ => ⟨rfl, rfl⟩) dX12_opens_2 (fun σ2 _ _ eσ2 Z => ?_)
  replace h := lt_w h eσ2
  refine lv_aload_n hx hb dX12_opens_5 rfl (lv_at hl 0 rfl) ?_
  refine lv_iload_n hx hb dX12_opens_6 rfl (lv_at hl 2 rfl) ?_
  refine zw_putI F Z zC12 (a := 703) (k := 8) (by decide) zs_703 (by decide) rfl (by decide) zq1258 (Or.inl rfl) rfl ⟨rfl, rfl⟩ dX12_opens_7 (fun σ7 _ _ eσ7 Z => ?_)
  replace h := lt_w h eσ7
  refine lv_aload_n hx hb dX12_opens_10 rfl (lv_at hl 0 rfl) ?_
  refine lv_iload_n hx hb dX12_opens_11 rfl (lv_at hl 3 rfl) ?_
  refine zw_putI F Z zC12 (a := 703) (k := 9) (by decide) zs_703 (by decide) rfl (by decide) zq1259 (Or.inl rfl) rfl ⟨rfl, rfl⟩ dX12_opens_12 (fun σ12 _ _ eσ12 Z => ?_)
  replace h := lt_w h eσ12
  refine lv_aload_n hx hb dX12_opens_15 rfl (lv_at hl 0 rfl) ?_
  refine lv_iconst (v := 0) hx hb dX12_opens_16 (by decide) ?_
  refine zw_putI F Z zC12 (a := 703) (k := 10) (by decide) zs_703 (by decide) rfl (by decide) zq1260 (Or.inl rfl) rfl ⟨rfl, rfl⟩ dX12_opens_17 (fun σ17 _ _ eσ17 Z => ?_)
  replace h := lt_w h eσ17
  refine lv_aload_n hx hb dX12_opens_20 rfl (lv_at hl 0 rfl) ?_
  refine lv_iconst (v := (-1)) hx hb dX12_opens_21 (by decide) ?_
  refine zw_putI F Z zC12 (a := 703) (k := 11) (by decide) zs_703 (by decide) rfl (by decide) zq1261 (Or.inl rfl) rfl ⟨rfl, rfl⟩ dX12_opens_22 (fun σ22 _ _ eσ22 Z => ?_)
  replace h := lt_w h eσ22
  have hq := Option.some.inj h
  exact ze_v F Z hr hlocks hq dX12_opens_25
set_option maxHeartbeats 4000000 in
set_option maxRecDepth 100000 in
theorem zcX12_goThrough (l : Launch) (D : va_G) (A0 : Nat) (q1 : Nat) (x2 : Int32) (x3 : Int32) (hq1 : zIsB q1) (σ : Mm) (σr : Mm) (h : zfX12_goThrough q1 x2 x3 σ = some σr) : Met l yX12_goThrough (zws yX12_goThrough cX12_goThrough 4 none) (zR 396 14848) (zPc D A0 σ GF 740 [.ref (A0 + 703), .ref (A0 + q1), .int x2, .int x3]) (zQv D A0 σr GF 740) 0 0 (zA A0) := by
  unfold zfX12_goThrough at h
  refine zmet (own := RX12) (by decide) rfl (Nat.le_of_ble_eq_true rfl) ?_
  intro p e s m below meth c F hr hlocks _ Z ls hl
  have hl : lv_has ls 4 [(0, .ref (A0 + 703)), (1, .ref (A0 + q1)), (2, .int x2), (3, .int x3)] := hl
  have hx := F.1.1
  have hb := F.1.2.1
  have hown := F.1.2.2.2.1
  have hts := F.1.2.2.2.2
  refine lv_aload_n hx hb dX12_goThrough_0 rfl (lv_at hl 0 rfl) ?_
  refine lv_aload_n hx hb dX12_goThrough_1 rfl (lv_at hl 1 rfl) ?_
  refine lv_iload_n hx hb dX12_goThrough_2 rfl (lv_at hl 2 rfl) ?_
  refine lv_iload_n hx hb dX12_goThrough_3 rfl (lv_at hl 3 rfl) ?_
  obtain ⟨σ4, hc4, h⟩ := bd_x h
  refine zc_v Z (zr_V F Z (a := 703) (As := [.ref (A0 + q1), .int x2, .int x3]) (zcX12_opens l D A0 q1 x2 x3 hq1 σ σ4 hc4) zBX12_opens zq1503 (by decide) zs_703 zC12.1 rfl ⟨⟨rfl, rfl⟩, Nat.le_of_ble_eq_true rfl, Nat.le_of_ble_eq_true rfl⟩ hl.1 rfl (Nat.le_of_ble_eq_true rfl) dX12_goThrough_4 ⟨Nat.le_of_ble_eq_true rfl, Nat.le_of_ble_eq_true rfl⟩) (fun _ _ Z => ?_)
  refine lv_aload_n hx hb dX12_goThrough_7 rfl (lv_at hl 0 rfl) ?_
  refine lv_bipush (v := 121) hx hb dX12_goThrough_8 (by decide) ?_
  refine zw_putI F Z zC12 (a := 703) (k := 13) (by decide) zs_703 (by decide) rfl (by decide) zq1263 (Or.inl rfl) rfl ⟨rfl, rfl⟩ dX12_goThrough_10 (fun σ10 _ _ eσ10 Z => ?_)
  replace h := lt_w h eσ10
  refine lv_aload_n hx hb dX12_goThrough_13 rfl (lv_at hl 0 rfl) ?_
  refine lv_iconst (v := 0) hx hb dX12_goThrough_14 (by decide) ?_
  refine zw_putI F Z zC12 (a := 703) (k := 12) (by decide) zs_703 (by decide) rfl (by decide) zq1262 (Or.inl rfl) rfl ⟨rfl, rfl⟩ dX12_goThrough_15 (fun σ15 _ _ eσ15 Z => ?_)
  replace h := lt_w h eσ15
  refine lv_aload_n hx hb dX12_goThrough_18 rfl (lv_at hl 0 rfl) ?_
  refine lv_iconst (v := 0) hx hb dX12_goThrough_19 (by decide) ?_
  refine zw_putI F Z zC12 (a := 703) (k := 17) (by decide) zs_703 (by decide) rfl (by decide) zq1267 (Or.inl rfl) rfl (z_nb (by decide)) dX12_goThrough_20 (fun σ20 _ _ eσ20 Z => ?_)
  replace h := lt_w h eσ20
  refine lv_aload_n hx hb dX12_goThrough_23 rfl (lv_at hl 0 rfl) ?_
  refine lv_iconst (v := 0) hx hb dX12_goThrough_24 (by decide) ?_
  refine zw_putI F Z zC12 (a := 703) (k := 14) (by decide) zs_703 (by decide) rfl (by decide) zq1264 (Or.inl rfl) rfl ⟨rfl, rfl⟩ dX12_goThrough_25 (fun σ25 _ _ eσ25 Z => ?_)
  replace h := lt_w h eσ25
  refine lv_aload_n hx hb dX12_goThrough_28 rfl (lv_at hl 0 rfl) ?_
  obtain ⟨σ29, hc29, h⟩ := bd_x h
  refine zc_v Z (zr_V F Z (a := 703) (As := []) (zcX12_clause l D A0 σ25 σ29 hc29) zBX12_clause zq1552 (by decide) zs_703 zC12.1 rfl ⟨⟨rfl, rfl⟩, Nat.le_of_ble_eq_true rfl, Nat.le_of_ble_eq_true rfl⟩ hl.1 rfl (Nat.le_of_ble_eq_true rfl) dX12_goThrough_29 ⟨Nat.le_of_ble_eq_true rfl, Nat.le_of_ble_eq_true rfl⟩) (fun _ _ Z => ?_)
  obtain ⟨k66, ek66, h⟩ := lt_x h
  have hk66 : ∀ (σ66 : Mm) (H : Heap) (locs : List Loc) (ls : Array Slot), zh D A0 σ66 GF 740 s.heap H locs → lv_has ls 4 [(0, .ref (A0 + 703))] → k66 σ66 = some σr → W p l e (zR 396 14848) s m [.ref (A0 + 703), .ref (A0 + q1), .int x2, .int x3].toArray below meth c H locs 0 0 (MQ below (zQv D A0 σr GF 740) [.ref (A0 + 703), .ref (A0 + q1), .int x2, .int x3].toArray s 0 0 (zA A0)) (F0 m 66 ls []) := by
    intro  σ66 H locs ls Z hl h
    rw [ek66] at h
    try dsimp only at h
    refine lv_aload_n hx hb dX12_goThrough_66 rfl (lv_at hl 0 rfl) ?_
    refine zw_getI F Z zC12 (a := 703) (k := 11) (by decide) zs_703 (by decide) rfl zq1261 (Or.inl rfl) dX12_goThrough_67 ?_
    refine lv_iconst (v := (-1)) hx hb dX12_goThrough_70 (by decide) ?_
    refine zb_icne (tgt := 87) hx hb dX12_goThrough_71 (by decide) h (fun h => ?_) (fun h => ?_)
    · have hq := Option.some.inj h
      exact ze_v F Z hr hlocks hq dX12_goThrough_87
    · refine lv_aload_n hx hb dX12_goThrough_74 rfl (lv_at hl 0 rfl) ?_
      obtain ⟨r75, σ75, hc75, h⟩ := bd2_x h
      refine zc_i Z (zr_V F Z (a := 703) (As := []) (zcX12_look l D A0 σ66 r75 σ75 hc75) zBX12_look zq1514 (by decide) zs_703 zC12.1 rfl ⟨⟨rfl, rfl⟩, Nat.le_of_ble_eq_true rfl, Nat.le_of_ble_eq_true rfl⟩ hl.1 rfl (Nat.le_of_ble_eq_true rfl) dX12_goThrough_75 ⟨Nat.le_of_ble_eq_true rfl, Nat.le_of_ble_eq_true rfl⟩) (fun _ _ Z => ?_)
      refine lv_iconst (v := (-1)) hx hb dX12_goThrough_78 (by decide) ?_
      refine zb_iceq (tgt := 87) hx hb dX12_goThrough_79 (by decide) h (fun h => ?_) (fun h => ?_)
      · have hq := Option.some.inj h
        exact ze_v F Z hr hlocks hq dX12_goThrough_87
      · refine lv_aload_n hx hb dX12_goThrough_82 rfl (lv_at hl 0 rfl) ?_
        obtain ⟨r83, σ83, hc83, h⟩ := bd2_x h
        refine zc_i Z (zr_V F Z (a := 703) (As := []) (zcX12_fails l D A0 σ75 r83 σ83 hc83) zBX12_fails zq1518 (by decide) zs_703 zC12.1 rfl ⟨⟨rfl, rfl⟩, Nat.le_of_ble_eq_true rfl, Nat.le_of_ble_eq_true rfl⟩ hl.1 rfl (Nat.le_of_ble_eq_true rfl) dX12_goThrough_83 ⟨Nat.le_of_ble_eq_true rfl, Nat.le_of_ble_eq_true rfl⟩) (fun _ _ Z => ?_)
        refine lv_pop hx hb dX12_goThrough_86 rfl ?_
        have hq := Option.some.inj h
        exact ze_v F Z hr hlocks hq dX12_goThrough_87
  have hL32 : ∀ (fu32 : Nat) (σ32 : Mm) (H : Heap) (locs : List Loc) (ls : Array Slot), zh D A0 σ32 GF 740 s.heap H locs → lv_has ls 4 [(0, .ref (A0 + 703))] → zfX12_goThrough_L32 k66 fu32  σ32 = some σr → W p l e (zR 396 14848) s m [.ref (A0 + 703), .ref (A0 + q1), .int x2, .int x3].toArray below meth c H locs 0 0 (MQ below (zQv D A0 σr GF 740) [.ref (A0 + 703), .ref (A0 + q1), .int x2, .int x3].toArray s 0 0 (zA A0)) (F0 m 32 ls []) := by
    intro fu32
    induction fu32 with
    | zero => intro  σ32 H locs ls Z hl h; rw [zfX12_goThrough_L32] at h; cases h
    | succ fu32 ih32 =>
      intro  σ32 H locs ls Z hl h
      rw [zfX12_goThrough_L32] at h
      refine lv_aload_n hx hb dX12_goThrough_32 rfl (lv_at hl 0 rfl) ?_
      refine zw_getI F Z zC12 (a := 703) (k := 11) (by decide) zs_703 (by decide) rfl zq1261 (Or.inl rfl) dX12_goThrough_33 ?_
      refine lv_iconst (v := (-1)) hx hb dX12_goThrough_36 (by decide) ?_
      refine zb_icne (tgt := 66) hx hb dX12_goThrough_37 (by decide) h (fun h => ?_) (fun h => ?_)
      · exact hk66 σ32 _ _ _ Z (lv_sub hl [0] rfl) h
      · refine lv_aload_n hx hb dX12_goThrough_40 rfl (lv_at hl 0 rfl) ?_
        obtain ⟨r41, σ41, hc41, h⟩ := bd2_x h
        refine zc_i Z (zr_V F Z (a := 703) (As := []) (zcX12_look l D A0 σ32 r41 σ41 hc41) zBX12_look zq1514 (by decide) zs_703 zC12.1 rfl ⟨⟨rfl, rfl⟩, Nat.le_of_ble_eq_true rfl, Nat.le_of_ble_eq_true rfl⟩ hl.1 rfl (Nat.le_of_ble_eq_true rfl) dX12_goThrough_41 ⟨Nat.le_of_ble_eq_true rfl, Nat.le_of_ble_eq_true rfl⟩) (fun _ _ Z => ?_)
        refine lv_bipush (v := 59) hx hb dX12_goThrough_44 (by decide) ?_
        refine zb_icne (tgt := 66) hx hb dX12_goThrough_46 (by decide) h (fun h => ?_) (fun h => ?_)
        · exact hk66 σ41 _ _ _ Z (lv_sub hl [0] rfl) h
        · refine lv_aload_n hx hb dX12_goThrough_49 rfl (lv_at hl 0 rfl) ?_
          refine lv_dup hx hb dX12_goThrough_50 rfl ?_
          refine zw_getI F Z zC12 (a := 703) (k := 10) (by decide) zs_703 (by decide) rfl zq1260 (Or.inl rfl) dX12_goThrough_51 ?_
          refine lv_iconst (v := 1) hx hb dX12_goThrough_54 (by decide) ?_
          refine lv_iadd hx hb dX12_goThrough_55 ?_
          refine zw_putI F Z zC12 (a := 703) (k := 10) (by decide) zs_703 (by decide) rfl (by decide) zq1260 (Or.inl rfl) rfl ⟨rfl, rfl⟩ dX12_goThrough_56 (fun σ56 _ _ eσ56 Z => ?_)
          replace h := lt_w h eσ56
          refine lv_aload_n hx hb dX12_goThrough_59 rfl (lv_at hl 0 rfl) ?_
          obtain ⟨σ60, hc60, h⟩ := bd_x h
          refine zc_v Z (zr_V F Z (a := 703) (As := []) (zcX12_clause l D A0 σ56 σ60 hc60) zBX12_clause zq1552 (by decide) zs_703 zC12.1 rfl ⟨⟨rfl, rfl⟩, Nat.le_of_ble_eq_true rfl, Nat.le_of_ble_eq_true rfl⟩ hl.1 rfl (Nat.le_of_ble_eq_true rfl) dX12_goThrough_60 ⟨Nat.le_of_ble_eq_true rfl, Nat.le_of_ble_eq_true rfl⟩) (fun _ _ Z => ?_)
          refine lv_goto (tgt := 32) hx hb dX12_goThrough_63 (by decide) ?_
          exact ih32 σ60 _ _ _ Z (lv_sub hl [0] rfl) h
  exact hL32 NF σ29 _ _ _ Z (lv_sub hl [0] rfl) h
set_option maxHeartbeats 4000000 in
set_option maxRecDepth 100000 in
theorem zcX12_here (l : Launch) (D : va_G) (A0 : Nat) (σ : Mm) (r0 : Int32) (h : zfX12_here σ = some r0) : Met l yX12_here (zws yX12_here cX12_here 1 (some .int)) (zR 0 0) (zPc D A0 σ GF 740 [.ref (A0 + 703)]) (zQi D A0 r0 σ GF 740) 0 0 (zA A0) := by
  unfold zfX12_here at h
  refine zmet (own := RX12) (by decide) rfl (Nat.le_of_ble_eq_true rfl) ?_
  intro p e s m below meth c F hr hlocks _ Z ls hl
  have hl : lv_has ls 1 [(0, .ref (A0 + 703))] := hl
  have hx := F.1.1
  have hb := F.1.2.1
  have hown := F.1.2.2.2.1
  have hts := F.1.2.2.2.2
  refine lv_aload_n hx hb dX12_here_0 rfl (lv_at hl 0 rfl) ?_
  refine zw_getI F Z zC12 (a := 703) (k := 10) (by decide) zs_703 (by decide) rfl zq1260 (Or.inl rfl) dX12_here_1 ?_
  refine lv_aload_n hx hb dX12_here_4 rfl (lv_at hl 0 rfl) ?_
  refine zw_getI F Z zC12 (a := 703) (k := 9) (by decide) zs_703 (by decide) rfl zq1259 (Or.inl rfl) dX12_here_5 ?_
  refine zb_icge (tgt := 32) hx hb dX12_here_8 (by decide) h (fun h => ?_) (fun h => ?_)
  · refine lv_iconst (v := (-1)) hx hb dX12_here_32 (by decide) ?_
    have hq := Option.some.inj h
    exact ze_i F Z hr hlocks hq rfl dX12_here_33
  · refine lv_aload_n hx hb dX12_here_11 rfl (lv_at hl 0 rfl) ?_
    obtain ⟨hk12, h⟩ := ck_x h
    refine zw_getM F Z zC12 (a := 703) (k := 5) (by decide) zs_703 (by decide) rfl (zB_nz hk12) zq1255 (Or.inl rfl) dX12_here_12 ?_
    refine lv_aload_n hx hb dX12_here_15 rfl (lv_at hl 0 rfl) ?_
    refine zw_getI F Z zC12 (a := 703) (k := 8) (by decide) zs_703 (by decide) rfl zq1258 (Or.inl rfl) dX12_here_16 ?_
    refine lv_aload_n hx hb dX12_here_19 rfl (lv_at hl 0 rfl) ?_
    refine zw_getI F Z zC12 (a := 703) (k := 10) (by decide) zs_703 (by decide) rfl zq1260 (Or.inl rfl) dX12_here_20 ?_
    refine lv_iadd hx hb dX12_here_23 ?_
    obtain ⟨hk24, h⟩ := ck_x h
    refine zw_bald F Z (zltB hk12) (zsB_ hk12) hk24 dX12_here_24 ?_
    refine lv_sipush (v := 255) hx hb dX12_here_25 (by decide) ?_
    refine lv_iand hx hb dX12_here_28 ?_
    refine lv_goto (tgt := 33) hx hb dX12_here_29 (by decide) ?_
    have hq := Option.some.inj h
    exact ze_i F Z hr hlocks hq rfl dX12_here_33
set_option maxHeartbeats 4000000 in
set_option maxRecDepth 100000 in
theorem zcX12_placeOf (l : Launch) (D : va_G) (A0 : Nat) (q0 : Nat) (x1 : Int32) (hq0 : q0 < 6) (σ : Mm) (r0 : Int32) (h : zfX12_placeOf q0 x1 = some r0) : Met l yX12_placeOf (zws yX12_placeOf cX12_placeOf 3 (some .int)) (zR 6 200) (zPc D A0 σ GF 740 [.ref (D.1 (60 + q0)), .int x1]) (zQi D A0 r0 σ GF 740) 0 0 (zA A0) := by
  unfold zfX12_placeOf at h
  refine zmet (own := RX12) (by decide) rfl (Nat.le_of_ble_eq_true rfl) ?_
  intro p e s m below meth c F hr hlocks _ Z ls hl
  have hl : lv_has ls 3 [(0, .ref (D.1 (60 + q0))), (1, .int x1)] := hl
  have hx := F.1.1
  have hb := F.1.2.1
  have hown := F.1.2.2.2.1
  have hts := F.1.2.2.2.2
  refine lv_iconst (v := 0) hx hb dX12_placeOf_0 (by decide) ?_
  refine lv_istore_n (lv' := [(2, .int 0), (0, .ref (D.1 (60 + q0))), (1, .int x1)]) hx hb dX12_placeOf_1 rfl hl (by decide) rfl (fun ls hl => ?_)
  obtain ⟨k19, ek19, h⟩ := lt_x h
  have hk19 : ∀ (x2_19 : Int32) (H : Heap) (locs : List Loc) (ls : Array Slot), zh D A0 σ GF 740 s.heap H locs → lv_has ls 3 [(2, .int x2_19)] → k19 x2_19 = some r0 → W p l e (zR 6 200) s m [.ref (D.1 (60 + q0)), .int x1].toArray below meth c H locs 0 0 (MQ below (zQi D A0 r0 σ GF 740) [.ref (D.1 (60 + q0)), .int x1].toArray s 0 0 (zA A0)) (F0 m 19 ls []) := by
    intro x2_19 H locs ls Z hl h
    rw [ek19] at h
    try dsimp only at h
    refine lv_iload_n hx hb dX12_placeOf_19 rfl (lv_at hl 0 rfl) ?_
    have hq := Option.some.inj h
    exact ze_i F Z hr hlocks hq rfl dX12_placeOf_20
  obtain ⟨k27, ek27, h⟩ := lt_x h
  have hk27 : ∀  (H : Heap) (locs : List Loc) (ls : Array Slot), zh D A0 σ GF 740 s.heap H locs → lv_has ls 3 [] → k27 () = some r0 → W p l e (zR 6 200) s m [.ref (D.1 (60 + q0)), .int x1].toArray below meth c H locs 0 0 (MQ below (zQi D A0 r0 σ GF 740) [.ref (D.1 (60 + q0)), .int x1].toArray s 0 0 (zA A0)) (F0 m 27 ls []) := by
    intro  H locs ls Z hl h
    rw [ek27] at h
    try dsimp only at h
    refine lv_iconst (v := (-1)) hx hb dX12_placeOf_27 (by decide) ?_
    have hq := Option.some.inj h
    exact ze_i F Z hr hlocks hq rfl dX12_placeOf_28
  have hL2 : ∀ (fu2 : Nat) (x2_2 : Int32) (H : Heap) (locs : List Loc) (ls : Array Slot), zh D A0 σ GF 740 s.heap H locs → lv_has ls 3 [(0, .ref (D.1 (60 + q0))), (1, .int x1), (2, .int x2_2)] → zfX12_placeOf_L2 q0 k27 x1 k19 fu2 x2_2 = some r0 → W p l e (zR 6 200) s m [.ref (D.1 (60 + q0)), .int x1].toArray below meth c H locs 0 0 (MQ below (zQi D A0 r0 σ GF 740) [.ref (D.1 (60 + q0)), .int x1].toArray s 0 0 (zA A0)) (F0 m 2 ls []) := by
    intro fu2
    induction fu2 with
    | zero => intro x2_2 H locs ls Z hl h; rw [zfX12_placeOf_L2] at h; cases h
    | succ fu2 ih2 =>
      intro x2_2 H locs ls Z hl h
      rw [zfX12_placeOf_L2] at h
      refine lv_iload_n hx hb dX12_placeOf_2 rfl (lv_at hl 2 rfl) ?_
      refine lv_aload_n hx hb dX12_placeOf_3 rfl (lv_at hl 0 rfl) ?_
      refine zw_slen l F Z hl.1 hq0 zq1525 ⟨Nat.le_of_ble_eq_true rfl, Nat.le_of_ble_eq_true rfl⟩ ⟨Nat.le_of_ble_eq_true rfl, Nat.le_of_ble_eq_true rfl⟩ (Nat.le_of_ble_eq_true rfl) dX12_placeOf_4 (fun _ _ Z => ?_)
      refine zb_icge (tgt := 27) hx hb dX12_placeOf_7 (by decide) h (fun h => ?_) (fun h => ?_)
      · exact hk27  _ _ _ Z (lv_sub hl [] rfl) h
      · refine lv_aload_n hx hb dX12_placeOf_10 rfl (lv_at hl 0 rfl) ?_
        refine lv_iload_n hx hb dX12_placeOf_11 rfl (lv_at hl 2 rfl) ?_
        obtain ⟨hk12, h⟩ := ck_x h
        refine zw_schr l F Z hl.1 hq0 hk12 zq1529 ⟨Nat.le_of_ble_eq_true rfl, Nat.le_of_ble_eq_true rfl⟩ ⟨Nat.le_of_ble_eq_true rfl, Nat.le_of_ble_eq_true rfl⟩ (Nat.le_of_ble_eq_true rfl) dX12_placeOf_12 (fun _ _ Z => ?_)
        refine lv_iload_n hx hb dX12_placeOf_15 rfl (lv_at hl 1 rfl) ?_
        refine zb_icne (tgt := 21) hx hb dX12_placeOf_16 (by decide) h (fun h => ?_) (fun h => ?_)
        · obtain ⟨x2_21, ex2_21⟩ : ∃ y : Int32, y = x2_2 + 1 := ⟨_, rfl⟩
          replace h := lt_w h ex2_21
          refine lv_iinc (v := x2_21) (lv' := [(2, .int x2_21), (0, .ref (D.1 (60 + q0))), (1, .int x1)]) hx hb dX12_placeOf_21 hl (k := 2) rfl (by rw [ex2_21]; rfl) (by decide) rfl (fun ls hl => ?_)
          refine lv_goto (tgt := 2) hx hb dX12_placeOf_24 (by decide) ?_
          exact ih2 x2_21 _ _ _ Z (lv_sub hl [1, 2, 0] rfl) h
        · exact hk19 x2_2 _ _ _ Z (lv_sub hl [2] rfl) h
  exact hL2 NF 0 _ _ _ Z (lv_sub hl [1, 2, 0] rfl) h
set_option maxHeartbeats 4000000 in
set_option maxRecDepth 100000 in
theorem zcX12_readItem (l : Launch) (D : va_G) (A0 : Nat) (q1 : Nat) (x2 : Int32) (x3 : Int32) (x4 : Int32) (hq1 : zIsI q1) (σ : Mm) (σr : Mm) (h : zfX12_readItem q1 x2 x3 x4 σ = some σr) : Met l yX12_readItem (zws yX12_readItem cX12_readItem 7 none) (zR 1 25) (zPc D A0 σ GF 740 [.ref (A0 + 703), .ref (A0 + q1), .int x2, .int x3, .int x4]) (zQv D A0 σr GF 740) 0 0 (zA A0) := by
  unfold zfX12_readItem at h
  refine zmet (own := RX12) (by decide) rfl (Nat.le_of_ble_eq_true rfl) ?_
  intro p e s m below meth c F hr hlocks _ Z ls hl
  have hl : lv_has ls 7 [(0, .ref (A0 + 703)), (1, .ref (A0 + q1)), (2, .int x2), (3, .int x3), (4, .int x4)] := hl
  have hx := F.1.1
  have hb := F.1.2.1
  have hown := F.1.2.2.2.1
  have hts := F.1.2.2.2.2
  refine lv_aload_n hx hb dX12_readItem_0 rfl (lv_at hl 0 rfl) ?_
  refine lv_dup hx hb dX12_readItem_1 rfl ?_
  refine zw_getI F Z zC12 (a := 703) (k := 10) (by decide) zs_703 (by decide) rfl zq1260 (Or.inl rfl) dX12_readItem_2 ?_
  refine lv_iconst (v := 1) hx hb dX12_readItem_5 (by decide) ?_
  refine lv_iadd hx hb dX12_readItem_6 ?_
  refine zw_putI F Z zC12 (a := 703) (k := 10) (by decide) zs_703 (by decide) rfl (by decide) zq1260 (Or.inl rfl) rfl ⟨rfl, rfl⟩ dX12_readItem_7 (fun σ7 _ _ eσ7 Z => ?_)
  replace h := lt_w h eσ7
  refine lv_aload_n hx hb dX12_readItem_10 rfl (lv_at hl 0 rfl) ?_
  obtain ⟨r11, σ11, hc11, h⟩ := bd2_x h
  refine zc_i Z (zr_V F Z (a := 703) (As := []) (zcX12_look l D A0 σ7 r11 σ11 hc11) zBX12_look zq1514 (by decide) zs_703 zC12.1 rfl ⟨⟨rfl, rfl⟩, Nat.le_of_ble_eq_true rfl, Nat.le_of_ble_eq_true rfl⟩ hl.1 rfl (Nat.le_of_ble_eq_true rfl) dX12_readItem_11 ⟨Nat.le_of_ble_eq_true rfl, Nat.le_of_ble_eq_true rfl⟩) (fun _ _ Z => ?_)
  refine lv_istore (lv' := [(5, .int r11), (0, .ref (A0 + 703)), (1, .ref (A0 + q1)), (2, .int x2), (3, .int x3), (4, .int x4)]) hx hb dX12_readItem_14 hl (by decide) rfl (fun ls hl => ?_)
  refine lv_aload_n hx hb dX12_readItem_16 rfl (lv_at hl 1 rfl) ?_
  obtain ⟨r17, hc17, h⟩ := bd_x h
  refine zc_i Z (zr_V F Z (a := 703) (As := []) (zcX12_isDigit l D A0 σ11 r17 hc17) zBX12_isDigit zq1540 (by decide) zs_703 zC12.1 rfl ⟨⟨rfl, rfl⟩, Nat.le_of_ble_eq_true rfl, Nat.le_of_ble_eq_true rfl⟩ hl.1 rfl (Nat.le_of_ble_eq_true rfl) dX12_readItem_17 ⟨Nat.le_of_ble_eq_true rfl, Nat.le_of_ble_eq_true rfl⟩) (fun _ _ Z => ?_)
  refine zb_ifne (tgt := 29) hx hb dX12_readItem_20 (by decide) h (fun h => ?_) (fun h => ?_)
  · refine lv_aload_n hx hb dX12_readItem_29 rfl (lv_at hl 1 rfl) ?_
    obtain ⟨r30, hc30, h⟩ := bd_x h
    refine zc_i Z (zr_V F Z (a := 703) (As := []) (zcX12_here l D A0 σ11 r30 hc30) zBX12_here zq1544 (by decide) zs_703 zC12.1 rfl ⟨⟨rfl, rfl⟩, Nat.le_of_ble_eq_true rfl, Nat.le_of_ble_eq_true rfl⟩ hl.1 rfl (Nat.le_of_ble_eq_true rfl) dX12_readItem_30 ⟨Nat.le_of_ble_eq_true rfl, Nat.le_of_ble_eq_true rfl⟩) (fun _ _ Z => ?_)
    refine lv_bipush (v := 48) hx hb dX12_readItem_33 (by decide) ?_
    refine lv_isub hx hb dX12_readItem_35 ?_
    refine lv_topi (fun x6_36 ex6_36 => ?_)
    replace h := lt_w h ex6_36
    refine lv_istore (lv' := [(6, .int x6_36), (5, .int r11), (0, .ref (A0 + 703)), (1, .ref (A0 + q1)), (2, .int x2), (3, .int x3), (4, .int x4)]) hx hb dX12_readItem_36 hl (by decide) rfl (fun ls hl => ?_)
    refine lv_aload_n hx hb dX12_readItem_38 rfl (lv_at hl 2 rfl) ?_
    refine lv_dup hx hb dX12_readItem_39 rfl ?_
    refine zw_getI F Z zC12 (a := 703) (k := 10) (by decide) zs_703 (by decide) rfl zq1260 (Or.inl rfl) dX12_readItem_40 ?_
    refine lv_iconst (v := 1) hx hb dX12_readItem_43 (by decide) ?_
    refine lv_iadd hx hb dX12_readItem_44 ?_
    refine zw_putI F Z zC12 (a := 703) (k := 10) (by decide) zs_703 (by decide) rfl (by decide) zq1260 (Or.inl rfl) rfl ⟨rfl, rfl⟩ dX12_readItem_45 (fun σ45 _ _ eσ45 Z => ?_)
    replace h := lt_w h eσ45
    refine lv_aload_n hx hb dX12_readItem_48 rfl (lv_at hl 2 rfl) ?_
    obtain ⟨r49, hc49, h⟩ := bd_x h
    refine zc_i Z (zr_V F Z (a := 703) (As := []) (zcX12_isDigit l D A0 σ45 r49 hc49) zBX12_isDigit zq1540 (by decide) zs_703 zC12.1 rfl ⟨⟨rfl, rfl⟩, Nat.le_of_ble_eq_true rfl, Nat.le_of_ble_eq_true rfl⟩ hl.1 rfl (Nat.le_of_ble_eq_true rfl) dX12_readItem_49 ⟨Nat.le_of_ble_eq_true rfl, Nat.le_of_ble_eq_true rfl⟩) (fun _ _ Z => ?_)
    obtain ⟨j80, ej80, h⟩ := lt_x h
    have hj80 : ∀ (x6_80 : Int32) (σ80 : Mm) (H : Heap) (locs : List Loc) (ls : Array Slot), zh D A0 σ80 GF 740 s.heap H locs → lv_has ls 7 [(0, .ref (A0 + 703)), (1, .ref (A0 + q1)), (2, .int x2), (3, .int x3), (4, .int x4), (6, .int x6_80)] → j80 x6_80 σ80 = some σr → W p l e (zR 1 25) s m [.ref (A0 + 703), .ref (A0 + q1), .int x2, .int x3, .int x4].toArray below meth c H locs 0 0 (MQ below (zQv D A0 σr GF 740) [.ref (A0 + 703), .ref (A0 + q1), .int x2, .int x3, .int x4].toArray s 0 0 (zA A0)) (F0 m 80 ls []) := by
      intro x6_80 σ80 H locs ls Z hl h
      rw [ej80] at h
      try dsimp only at h
      refine lv_aload_n hx hb dX12_readItem_80 rfl (lv_at hl 0 rfl) ?_
      obtain ⟨r81, hc81, h⟩ := bd_x h
      refine zc_i Z (zr_V F Z (a := 703) (As := []) (zcX12_isDigit l D A0 σ80 r81 hc81) zBX12_isDigit zq1540 (by decide) zs_703 zC12.1 rfl ⟨⟨rfl, rfl⟩, Nat.le_of_ble_eq_true rfl, Nat.le_of_ble_eq_true rfl⟩ hl.1 rfl (Nat.le_of_ble_eq_true rfl) dX12_readItem_81 ⟨Nat.le_of_ble_eq_true rfl, Nat.le_of_ble_eq_true rfl⟩) (fun _ _ Z => ?_)
      refine zb_ifeq (tgt := 93) hx hb dX12_readItem_84 (by decide) h (fun h => ?_) (fun h => ?_)
      · refine lv_iload hx hb dX12_readItem_93 (lv_at hl 5 rfl) ?_
        refine lv_i2l hx hb dX12_readItem_95 rfl ?_
        refine lv_iload_n hx hb dX12_readItem_96 rfl (lv_at hl 3 rfl) ?_
        refine lv_i2l hx hb dX12_readItem_97 rfl ?_
        refine lv_iload hx hb dX12_readItem_98 (lv_at hl 4 rfl) ?_
        refine lv_i2l hx hb dX12_readItem_100 rfl ?_
        refine zc_i Z (zr_S F Z (As := [.long (Int32.toInt64 x6_80), .long (Int32.toInt64 x3), .long (Int32.toInt64 x4)]) (zcX12_isIn l D A0 (Int32.toInt64 x6_80) (Int32.toInt64 x3) (Int32.toInt64 x4) σ80 (zfX12_isIn (Int32.toInt64 x6_80) (Int32.toInt64 x3) (Int32.toInt64 x4)) rfl) zBX12_isIn zq1496 rfl ⟨⟨rfl, rfl⟩, Nat.le_of_ble_eq_true rfl, Nat.le_of_ble_eq_true rfl⟩ hl.1 rfl (Nat.le_of_ble_eq_true rfl) dX12_readItem_101 ⟨Nat.le_of_ble_eq_true rfl, Nat.le_of_ble_eq_true rfl⟩) (fun _ _ Z => ?_)
        refine zb_ifne (tgt := 123) hx hb dX12_readItem_104 (by decide) h (fun h => ?_) (fun h => ?_)
        · refine lv_aload_n hx hb dX12_readItem_123 rfl (lv_at hl 1 rfl) ?_
          refine lv_iload_n hx hb dX12_readItem_124 rfl (lv_at hl 2 rfl) ?_
          refine lv_iload hx hb dX12_readItem_125 (lv_at hl 5 rfl) ?_
          obtain ⟨hk127, h⟩ := ck_x h
          refine zw_iast F Z (hq1).2 (zsI hq1) hk127 dX12_readItem_127 (fun σ127 _ _ eσ127 Z => ?_)
          replace h := lt_w h eσ127
          have hq := Option.some.inj h
          exact ze_v F Z hr hlocks hq dX12_readItem_128
        · refine lv_aload_n hx hb dX12_readItem_107 rfl (lv_at hl 0 rfl) ?_
          refine lv_dup hx hb dX12_readItem_108 rfl ?_
          refine zw_getI F Z zC12 (a := 703) (k := 10) (by decide) zs_703 (by decide) rfl zq1260 (Or.inl rfl) dX12_readItem_109 ?_
          refine lv_iconst (v := 1) hx hb dX12_readItem_112 (by decide) ?_
          refine lv_isub hx hb dX12_readItem_113 ?_
          refine zw_putI F Z zC12 (a := 703) (k := 10) (by decide) zs_703 (by decide) rfl (by decide) zq1260 (Or.inl rfl) rfl ⟨rfl, rfl⟩ dX12_readItem_114 (fun σ114 _ _ eσ114 Z => ?_)
          replace h := lt_w h eσ114
          refine lv_aload_n hx hb dX12_readItem_117 rfl (lv_at hl 0 rfl) ?_
          obtain ⟨r118, σ118, hc118, h⟩ := bd2_x h
          refine zc_i Z (zr_V F Z (a := 703) (As := []) (zcX12_fails l D A0 σ114 r118 σ118 hc118) zBX12_fails zq1518 (by decide) zs_703 zC12.1 rfl ⟨⟨rfl, rfl⟩, Nat.le_of_ble_eq_true rfl, Nat.le_of_ble_eq_true rfl⟩ hl.1 rfl (Nat.le_of_ble_eq_true rfl) dX12_readItem_118 ⟨Nat.le_of_ble_eq_true rfl, Nat.le_of_ble_eq_true rfl⟩) (fun _ _ Z => ?_)
          refine lv_pop hx hb dX12_readItem_121 rfl ?_
          have hq := Option.some.inj h
          exact ze_v F Z hr hlocks hq dX12_readItem_122
      · refine lv_aload_n hx hb dX12_readItem_87 rfl (lv_at hl 0 rfl) ?_
        obtain ⟨r88, σ88, hc88, h⟩ := bd2_x h
        refine zc_i Z (zr_V F Z (a := 703) (As := []) (zcX12_fails l D A0 σ80 r88 σ88 hc88) zBX12_fails zq1518 (by decide) zs_703 zC12.1 rfl ⟨⟨rfl, rfl⟩, Nat.le_of_ble_eq_true rfl, Nat.le_of_ble_eq_true rfl⟩ hl.1 rfl (Nat.le_of_ble_eq_true rfl) dX12_readItem_88 ⟨Nat.le_of_ble_eq_true rfl, Nat.le_of_ble_eq_true rfl⟩) (fun _ _ Z => ?_)
        refine lv_pop hx hb dX12_readItem_91 rfl ?_
        have hq := Option.some.inj h
        exact ze_v F Z hr hlocks hq dX12_readItem_92
    refine zb_ifeq (tgt := 80) hx hb dX12_readItem_52 (by decide) h (fun h => ?_) (fun h => ?_)
    · exact hj80 x6_36 σ45 _ _ _ Z (lv_sub hl [2, 3, 4, 5, 6, 0] rfl) h
    · refine lv_bipush (v := 10) hx hb dX12_readItem_55 (by decide) ?_
      refine lv_iload hx hb dX12_readItem_57 (lv_at hl 0 rfl) ?_
      refine lv_imul hx hb dX12_readItem_59 ?_
      refine lv_aload_n hx hb dX12_readItem_60 rfl (lv_at hl 2 rfl) ?_
      obtain ⟨r61, hc61, h⟩ := bd_x h
      refine zc_i Z (zr_V F Z (a := 703) (As := []) (zcX12_here l D A0 σ45 r61 hc61) zBX12_here zq1544 (by decide) zs_703 zC12.1 rfl ⟨⟨rfl, rfl⟩, Nat.le_of_ble_eq_true rfl, Nat.le_of_ble_eq_true rfl⟩ hl.1 rfl (Nat.le_of_ble_eq_true rfl) dX12_readItem_61 ⟨Nat.le_of_ble_eq_true rfl, Nat.le_of_ble_eq_true rfl⟩) (fun _ _ Z => ?_)
      refine lv_iadd hx hb dX12_readItem_64 ?_
      refine lv_bipush (v := 48) hx hb dX12_readItem_65 (by decide) ?_
      refine lv_isub hx hb dX12_readItem_67 ?_
      refine lv_topi (fun x6_68 ex6_68 => ?_)
      replace h := lt_w h ex6_68
      refine lv_istore (lv' := [(6, .int x6_68), (5, .int r11), (0, .ref (A0 + 703)), (1, .ref (A0 + q1)), (2, .int x2), (3, .int x3), (4, .int x4)]) hx hb dX12_readItem_68 hl (by decide) rfl (fun ls hl => ?_)
      refine lv_aload_n hx hb dX12_readItem_70 rfl (lv_at hl 2 rfl) ?_
      refine lv_dup hx hb dX12_readItem_71 rfl ?_
      refine zw_getI F Z zC12 (a := 703) (k := 10) (by decide) zs_703 (by decide) rfl zq1260 (Or.inl rfl) dX12_readItem_72 ?_
      refine lv_iconst (v := 1) hx hb dX12_readItem_75 (by decide) ?_
      refine lv_iadd hx hb dX12_readItem_76 ?_
      refine zw_putI F Z zC12 (a := 703) (k := 10) (by decide) zs_703 (by decide) rfl (by decide) zq1260 (Or.inl rfl) rfl ⟨rfl, rfl⟩ dX12_readItem_77 (fun σ77 _ _ eσ77 Z => ?_)
      replace h := lt_w h eσ77
      exact hj80 x6_68 σ77 _ _ _ Z (lv_sub hl [2, 3, 4, 5, 6, 0] rfl) h
  · refine lv_aload_n hx hb dX12_readItem_23 rfl (lv_at hl 1 rfl) ?_
    obtain ⟨r24, σ24, hc24, h⟩ := bd2_x h
    refine zc_i Z (zr_V F Z (a := 703) (As := []) (zcX12_fails l D A0 σ11 r24 σ24 hc24) zBX12_fails zq1518 (by decide) zs_703 zC12.1 rfl ⟨⟨rfl, rfl⟩, Nat.le_of_ble_eq_true rfl, Nat.le_of_ble_eq_true rfl⟩ hl.1 rfl (Nat.le_of_ble_eq_true rfl) dX12_readItem_24 ⟨Nat.le_of_ble_eq_true rfl, Nat.le_of_ble_eq_true rfl⟩) (fun _ _ Z => ?_)
    refine lv_pop hx hb dX12_readItem_27 rfl ?_
    have hq := Option.some.inj h
    exact ze_v F Z hr hlocks hq dX12_readItem_28
set_option maxHeartbeats 4000000 in
set_option maxRecDepth 100000 in
theorem zcX12_usual (l : Launch) (D : va_G) (A0 : Nat) (x0 : Int32) (x1 : Int32) (σ : Mm) (r0 : Int32) (h : zfX12_usual x0 x1 = r0) : Met l yX12_usual (zws yX12_usual cX12_usual 2 (some .int)) (zR 0 0) (zPc D A0 σ GF 740 [.int x0, .int x1]) (zQi D A0 r0 σ GF 740) 0 0 (zA A0) := by
  unfold zfX12_usual at h
  refine zmet (own := RX12) (by decide) rfl (Nat.le_of_ble_eq_true rfl) ?_
  intro p e s m below meth c F hr hlocks _ Z ls hl
  have hl : lv_has ls 2 [(0, .int x0), (1, .int x1)] := hl
  have hx := F.1.1
  have hb := F.1.2.1
  have hown := F.1.2.2.2.1
  have hts := F.1.2.2.2.2
  refine lv_iload_n hx hb dX12_usual_0 rfl (lv_at hl 0 rfl) ?_
  refine lv_bipush (v := 115) hx hb dX12_usual_1 (by decide) ?_
  refine zb_icne (tgt := 25) hx hb dX12_usual_3 (by decide) h (fun h => ?_) (fun h => ?_)
  · refine lv_iload_n hx hb dX12_usual_25 rfl (lv_at hl 0 rfl) ?_
    refine lv_bipush (v := 98) hx hb dX12_usual_26 (by decide) ?_
    refine zb_icne (tgt := 51) hx hb dX12_usual_28 (by decide) h (fun h => ?_) (fun h => ?_)
    · refine lv_iload_n hx hb dX12_usual_51 rfl (lv_at hl 1 rfl) ?_
      refine zb_ifne (tgt := 59) hx hb dX12_usual_52 (by decide) h (fun h => ?_) (fun h => ?_)
      · refine lv_bipush (v := 12) hx hb dX12_usual_59 (by decide) ?_
        exact ze_i F Z hr hlocks h rfl dX12_usual_61
      · refine lv_iconst (v := 0) hx hb dX12_usual_55 (by decide) ?_
        refine lv_goto (tgt := 61) hx hb dX12_usual_56 (by decide) ?_
        exact ze_i F Z hr hlocks h rfl dX12_usual_61
    · refine lv_iload_n hx hb dX12_usual_31 rfl (lv_at hl 1 rfl) ?_
      refine zb_ifne (tgt := 40) hx hb dX12_usual_32 (by decide) h (fun h => ?_) (fun h => ?_)
      · refine lv_iload_n hx hb dX12_usual_40 rfl (lv_at hl 1 rfl) ?_
        refine lv_iconst (v := 1) hx hb dX12_usual_41 (by decide) ?_
        refine zb_icne (tgt := 49) hx hb dX12_usual_42 (by decide) h (fun h => ?_) (fun h => ?_)
        · refine lv_iconst (v := 0) hx hb dX12_usual_49 (by decide) ?_
          exact ze_i F Z hr hlocks h rfl dX12_usual_50
        · refine lv_iconst (v := 2) hx hb dX12_usual_45 (by decide) ?_
          refine lv_goto (tgt := 50) hx hb dX12_usual_46 (by decide) ?_
          exact ze_i F Z hr hlocks h rfl dX12_usual_50
      · refine lv_bipush (v := 10) hx hb dX12_usual_35 (by decide) ?_
        refine lv_goto (tgt := 50) hx hb dX12_usual_37 (by decide) ?_
        exact ze_i F Z hr hlocks h rfl dX12_usual_50
  · refine lv_iload_n hx hb dX12_usual_6 rfl (lv_at hl 1 rfl) ?_
    refine zb_ifne (tgt := 14) hx hb dX12_usual_7 (by decide) h (fun h => ?_) (fun h => ?_)
    · refine lv_iload_n hx hb dX12_usual_14 rfl (lv_at hl 1 rfl) ?_
      refine lv_iconst (v := 1) hx hb dX12_usual_15 (by decide) ?_
      refine zb_icne (tgt := 23) hx hb dX12_usual_16 (by decide) h (fun h => ?_) (fun h => ?_)
      · refine lv_iconst (v := 0) hx hb dX12_usual_23 (by decide) ?_
        exact ze_i F Z hr hlocks h rfl dX12_usual_24
      · refine lv_iconst (v := 1) hx hb dX12_usual_19 (by decide) ?_
        refine lv_goto (tgt := 24) hx hb dX12_usual_20 (by decide) ?_
        exact ze_i F Z hr hlocks h rfl dX12_usual_24
    · refine lv_iconst (v := 3) hx hb dX12_usual_10 (by decide) ?_
      refine lv_goto (tgt := 24) hx hb dX12_usual_11 (by decide) ?_
      exact ze_i F Z hr hlocks h rfl dX12_usual_24
set_option maxHeartbeats 4000000 in
set_option maxRecDepth 100000 in
theorem zcX12_mostOf (l : Launch) (D : va_G) (A0 : Nat) (x0 : Int32) (x1 : Int32) (σ : Mm) (r0 : Int32) (h : zfX12_mostOf x0 x1 = r0) : Met l yX12_mostOf (zws yX12_mostOf cX12_mostOf 2 (some .int)) (zR 0 0) (zPc D A0 σ GF 740 [.int x0, .int x1]) (zQi D A0 r0 σ GF 740) 0 0 (zA A0) := by
  unfold zfX12_mostOf at h
  refine zmet (own := RX12) (by decide) rfl (Nat.le_of_ble_eq_true rfl) ?_
  intro p e s m below meth c F hr hlocks _ Z ls hl
  have hl : lv_has ls 2 [(0, .int x0), (1, .int x1)] := hl
  have hx := F.1.1
  have hb := F.1.2.1
  have hown := F.1.2.2.2.1
  have hts := F.1.2.2.2.2
  refine lv_iload_n hx hb dX12_mostOf_0 rfl (lv_at hl 0 rfl) ?_
  refine lv_bipush (v := 115) hx hb dX12_mostOf_1 (by decide) ?_
  refine zb_icne (tgt := 19) hx hb dX12_mostOf_3 (by decide) h (fun h => ?_) (fun h => ?_)
  · refine lv_iload_n hx hb dX12_mostOf_19 rfl (lv_at hl 0 rfl) ?_
    refine lv_bipush (v := 98) hx hb dX12_mostOf_20 (by decide) ?_
    refine zb_icne (tgt := 46) hx hb dX12_mostOf_22 (by decide) h (fun h => ?_) (fun h => ?_)
    · refine lv_iload_n hx hb dX12_mostOf_46 rfl (lv_at hl 1 rfl) ?_
      refine zb_ifne (tgt := 54) hx hb dX12_mostOf_47 (by decide) h (fun h => ?_) (fun h => ?_)
      · refine lv_bipush (v := 20) hx hb dX12_mostOf_54 (by decide) ?_
        exact ze_i F Z hr hlocks h rfl dX12_mostOf_56
      · refine lv_iconst (v := 2) hx hb dX12_mostOf_50 (by decide) ?_
        refine lv_goto (tgt := 56) hx hb dX12_mostOf_51 (by decide) ?_
        exact ze_i F Z hr hlocks h rfl dX12_mostOf_56
    · refine lv_iload_n hx hb dX12_mostOf_25 rfl (lv_at hl 1 rfl) ?_
      refine zb_ifne (tgt := 34) hx hb dX12_mostOf_26 (by decide) h (fun h => ?_) (fun h => ?_)
      · refine lv_iload_n hx hb dX12_mostOf_34 rfl (lv_at hl 1 rfl) ?_
        refine lv_iconst (v := 1) hx hb dX12_mostOf_35 (by decide) ?_
        refine zb_icne (tgt := 44) hx hb dX12_mostOf_36 (by decide) h (fun h => ?_) (fun h => ?_)
        · refine lv_iconst (v := 3) hx hb dX12_mostOf_44 (by decide) ?_
          exact ze_i F Z hr hlocks h rfl dX12_mostOf_45
        · refine lv_bipush (v := 9) hx hb dX12_mostOf_39 (by decide) ?_
          refine lv_goto (tgt := 45) hx hb dX12_mostOf_41 (by decide) ?_
          exact ze_i F Z hr hlocks h rfl dX12_mostOf_45
      · refine lv_bipush (v := 20) hx hb dX12_mostOf_29 (by decide) ?_
        refine lv_goto (tgt := 45) hx hb dX12_mostOf_31 (by decide) ?_
        exact ze_i F Z hr hlocks h rfl dX12_mostOf_45
  · refine lv_iload_n hx hb dX12_mostOf_6 rfl (lv_at hl 1 rfl) ?_
    refine lv_iconst (v := 1) hx hb dX12_mostOf_7 (by decide) ?_
    refine zb_icne (tgt := 16) hx hb dX12_mostOf_8 (by decide) h (fun h => ?_) (fun h => ?_)
    · refine lv_bipush (v := 9) hx hb dX12_mostOf_16 (by decide) ?_
      exact ze_i F Z hr hlocks h rfl dX12_mostOf_18
    · refine lv_bipush (v := 20) hx hb dX12_mostOf_11 (by decide) ?_
      refine lv_goto (tgt := 18) hx hb dX12_mostOf_13 (by decide) ?_
      exact ze_i F Z hr hlocks h rfl dX12_mostOf_18
set_option maxHeartbeats 4000000 in
set_option maxRecDepth 100000 in
theorem zcX12_readClause (l : Launch) (D : va_G) (A0 : Nat) (σ : Mm) (σr : Mm) (h : zfX12_readClause σ = some σr) : Met l yX12_readClause (zws yX12_readClause cX12_readClause 8 none) (zR 7 222) (zPc D A0 σ GF 740 [.ref (A0 + 703)]) (zQv D A0 σr GF 740) 0 0 (zA A0) := by
  unfold zfX12_readClause at h
  refine zmet (own := RX12) (by decide) rfl (Nat.le_of_ble_eq_true rfl) ?_
  intro p e s m below meth c F hr hlocks _ Z ls hl
  have hl : lv_has ls 8 [(0, .ref (A0 + 703))] := hl
  have hx := F.1.1
  have hb := F.1.2.1
  have hown := F.1.2.2.2.1
  have hts := F.1.2.2.2.2
  refine lv_aload_n hx hb dX12_readClause_0 rfl (lv_at hl 0 rfl) ?_
  obtain ⟨r1, σ1, hc1, h⟩ := bd2_x h
  refine zc_i Z (zr_V F Z (a := 703) (As := []) (zcX12_look l D A0 σ r1 σ1 hc1) zBX12_look zq1514 (by decide) zs_703 zC12.1 rfl ⟨⟨rfl, rfl⟩, Nat.le_of_ble_eq_true rfl, Nat.le_of_ble_eq_true rfl⟩ hl.1 rfl (Nat.le_of_ble_eq_true rfl) dX12_readClause_1 ⟨Nat.le_of_ble_eq_true rfl, Nat.le_of_ble_eq_true rfl⟩) (fun _ _ Z => ?_)
  refine lv_istore_n (lv' := [(1, .int r1), (0, .ref (A0 + 703))]) hx hb dX12_readClause_4 rfl hl (by decide) rfl (fun ls hl => ?_)
  refine lv_iload_n hx hb dX12_readClause_5 rfl (lv_at hl 0 rfl) ?_
  refine lv_bipush (v := 115) hx hb dX12_readClause_6 (by decide) ?_
  obtain ⟨j52, ej52, h⟩ := lt_x h
  have hj52 : ∀ (y0_52 : Int32) (σ52 : Mm) (H : Heap) (locs : List Loc) (ls : Array Slot), zh D A0 σ52 GF 740 s.heap H locs → lv_has ls 8 [(0, .ref (A0 + 703)), (1, .int r1)] → j52 y0_52 σ52 = some σr → W p l e (zR 7 222) s m [.ref (A0 + 703)].toArray below meth c H locs 0 0 (MQ below (zQv D A0 σr GF 740) [.ref (A0 + 703)].toArray s 0 0 (zA A0)) (F0 m 52 ls [.int y0_52]) := by
    intro y0_52 σ52 H locs ls Z hl h
    rw [ej52] at h
    try dsimp only at h
    refine lv_istore_n (lv' := [(2, .int y0_52), (0, .ref (A0 + 703)), (1, .int r1)]) hx hb dX12_readClause_52 rfl hl (by decide) rfl (fun ls hl => ?_)
    refine lv_iload_n hx hb dX12_readClause_53 rfl (lv_at hl 0 rfl) ?_
    refine zb_ifne (tgt := 63) hx hb dX12_readClause_54 (by decide) h (fun h => ?_) (fun h => ?_)
    · refine lv_aload_n hx hb dX12_readClause_63 rfl (lv_at hl 1 rfl) ?_
      refine lv_dup hx hb dX12_readClause_64 rfl ?_
      refine zw_getI F Z zC12 (a := 703) (k := 10) (by decide) zs_703 (by decide) rfl zq1260 (Or.inl rfl) dX12_readClause_65 ?_
      refine lv_iconst (v := 1) hx hb dX12_readClause_68 (by decide) ?_
      refine lv_iadd hx hb dX12_readClause_69 ?_
      refine zw_putI F Z zC12 (a := 703) (k := 10) (by decide) zs_703 (by decide) rfl (by decide) zq1260 (Or.inl rfl) rfl ⟨rfl, rfl⟩ dX12_readClause_70 (fun σ70 _ _ eσ70 Z => ?_)
      replace h := lt_w h eσ70
      refine lv_iload_n hx hb dX12_readClause_73 rfl (lv_at hl 2 rfl) ?_
      refine lv_bipush (v := 115) hx hb dX12_readClause_74 (by decide) ?_
      obtain ⟨j104, ej104, h⟩ := lt_x h
      have hj104 : ∀ (y0_104 : Int32) (σ104 : Mm) (H : Heap) (locs : List Loc) (ls : Array Slot), zh D A0 σ104 GF 740 s.heap H locs → lv_has ls 8 [(0, .ref (A0 + 703)), (1, .int r1)] → j104 y0_104 σ104 = some σr → W p l e (zR 7 222) s m [.ref (A0 + 703)].toArray below meth c H locs 0 0 (MQ below (zQv D A0 σr GF 740) [.ref (A0 + 703)].toArray s 0 0 (zA A0)) (F0 m 104 ls [.int y0_104]) := by
        intro y0_104 σ104 H locs ls Z hl h
        rw [ej104] at h
        try dsimp only at h
        refine lv_istore_n (lv' := [(3, .int y0_104), (0, .ref (A0 + 703)), (1, .int r1)]) hx hb dX12_readClause_104 rfl hl (by decide) rfl (fun ls hl => ?_)
        refine lv_iload_n hx hb dX12_readClause_105 rfl (lv_at hl 2 rfl) ?_
        refine lv_bipush (v := 115) hx hb dX12_readClause_106 (by decide) ?_
        obtain ⟨j135, ej135, h⟩ := lt_x h
        have hj135 : ∀ (q135_s0 : Nat) (σ135 : Mm) (H : Heap) (locs : List Loc) (ls : Array Slot), zh D A0 σ135 GF 740 s.heap H locs → lv_has ls 8 [(0, .ref (A0 + 703)), (1, .int r1), (3, .int y0_104)] → j135 q135_s0 σ135 = some σr → W p l e (zR 7 222) s m [.ref (A0 + 703)].toArray below meth c H locs 0 0 (MQ below (zQv D A0 σr GF 740) [.ref (A0 + 703)].toArray s 0 0 (zA A0)) (F0 m 135 ls [.ref (A0 + q135_s0)]) := by
          intro q135_s0 σ135 H locs ls Z hl h
          rw [ej135] at h
          try dsimp only at h
          refine lv_astore (lv' := [(4, .ref (A0 + q135_s0)), (0, .ref (A0 + 703)), (1, .int r1), (3, .int y0_104)]) hx hb dX12_readClause_135 hl (by decide) rfl (fun ls hl => ?_)
          refine lv_iload_n hx hb dX12_readClause_137 rfl (lv_at hl 2 rfl) ?_
          refine lv_bipush (v := 115) hx hb dX12_readClause_138 (by decide) ?_
          obtain ⟨j164, ej164, h⟩ := lt_x h
          have hj164 : ∀ (q164_s0 : Nat) (σ164 : Mm) (H : Heap) (locs : List Loc) (ls : Array Slot), zh D A0 σ164 GF 740 s.heap H locs → lv_has ls 8 [(0, .ref (A0 + 703)), (1, .int r1), (3, .int y0_104), (4, .ref (A0 + q135_s0))] → j164 q164_s0 σ164 = some σr → W p l e (zR 7 222) s m [.ref (A0 + 703)].toArray below meth c H locs 0 0 (MQ below (zQv D A0 σr GF 740) [.ref (A0 + 703)].toArray s 0 0 (zA A0)) (F0 m 164 ls [.ref (D.1 (60 + q164_s0))]) := by
            intro q164_s0 σ164 H locs ls Z hl h
            rw [ej164] at h
            try dsimp only at h
            refine lv_astore (lv' := [(5, .ref (D.1 (60 + q164_s0))), (0, .ref (A0 + 703)), (1, .int r1), (3, .int y0_104), (4, .ref (A0 + q135_s0))]) hx hb dX12_readClause_164 hl (by decide) rfl (fun ls hl => ?_)
            refine lv_iload_n hx hb dX12_readClause_166 rfl (lv_at hl 2 rfl) ?_
            refine lv_bipush (v := 115) hx hb dX12_readClause_167 (by decide) ?_
            obtain ⟨j182, ej182, h⟩ := lt_x h
            have hj182 : ∀ (σ182 : Mm) (H : Heap) (locs : List Loc) (ls : Array Slot), zh D A0 σ182 GF 740 s.heap H locs → lv_has ls 8 [(0, .ref (A0 + 703)), (1, .int r1), (3, .int y0_104), (4, .ref (A0 + q135_s0)), (5, .ref (D.1 (60 + q164_s0)))] → j182 σ182 = some σr → W p l e (zR 7 222) s m [.ref (A0 + 703)].toArray below meth c H locs 0 0 (MQ below (zQv D A0 σr GF 740) [.ref (A0 + 703)].toArray s 0 0 (zA A0)) (F0 m 182 ls []) := by
              intro  σ182 H locs ls Z hl h
              rw [ej182] at h
              try dsimp only at h
              refine lv_iload_n hx hb dX12_readClause_182 rfl (lv_at hl 1 rfl) ?_
              refine lv_bipush (v := 98) hx hb dX12_readClause_183 (by decide) ?_
              obtain ⟨j198, ej198, h⟩ := lt_x h
              have hj198 : ∀ (σ198 : Mm) (H : Heap) (locs : List Loc) (ls : Array Slot), zh D A0 σ198 GF 740 s.heap H locs → lv_has ls 8 [(0, .ref (A0 + 703)), (1, .int r1), (3, .int y0_104), (4, .ref (A0 + q135_s0)), (5, .ref (D.1 (60 + q164_s0)))] → j198 σ198 = some σr → W p l e (zR 7 222) s m [.ref (A0 + 703)].toArray below meth c H locs 0 0 (MQ below (zQv D A0 σr GF 740) [.ref (A0 + 703)].toArray s 0 0 (zA A0)) (F0 m 198 ls []) := by
                intro  σ198 H locs ls Z hl h
                rw [ej198] at h
                try dsimp only at h
                refine lv_iload_n hx hb dX12_readClause_198 rfl (lv_at hl 1 rfl) ?_
                refine lv_bipush (v := 108) hx hb dX12_readClause_199 (by decide) ?_
                obtain ⟨j209, ej209, h⟩ := lt_x h
                have hj209 : ∀ (σ209 : Mm) (H : Heap) (locs : List Loc) (ls : Array Slot), zh D A0 σ209 GF 740 s.heap H locs → lv_has ls 8 [(0, .ref (A0 + 703)), (1, .int r1), (3, .int y0_104), (4, .ref (A0 + q135_s0)), (5, .ref (D.1 (60 + q164_s0)))] → j209 σ209 = some σr → W p l e (zR 7 222) s m [.ref (A0 + 703)].toArray below meth c H locs 0 0 (MQ below (zQv D A0 σr GF 740) [.ref (A0 + 703)].toArray s 0 0 (zA A0)) (F0 m 209 ls []) := by
                  intro  σ209 H locs ls Z hl h
                  rw [ej209] at h
                  try dsimp only at h
                  refine lv_iconst (v := 0) hx hb dX12_readClause_209 (by decide) ?_
                  refine lv_istore (lv' := [(6, .int 0), (0, .ref (A0 + 703)), (1, .int r1), (3, .int y0_104), (4, .ref (A0 + q135_s0)), (5, .ref (D.1 (60 + q164_s0)))]) hx hb dX12_readClause_210 hl (by decide) rfl (fun ls hl => ?_)
                  obtain ⟨k241, ek241, h⟩ := lt_x h
                  have hk241 : ∀ (σ241 : Mm) (H : Heap) (locs : List Loc) (ls : Array Slot), zh D A0 σ241 GF 740 s.heap H locs → lv_has ls 8 [(0, .ref (A0 + 703)), (1, .int r1), (3, .int y0_104), (4, .ref (A0 + q135_s0)), (5, .ref (D.1 (60 + q164_s0)))] → k241 σ241 = some σr → W p l e (zR 7 222) s m [.ref (A0 + 703)].toArray below meth c H locs 0 0 (MQ below (zQv D A0 σr GF 740) [.ref (A0 + 703)].toArray s 0 0 (zA A0)) (F0 m 241 ls []) := by
                    intro  σ241 H locs ls Z hl h
                    rw [ek241] at h
                    try dsimp only at h
                    refine lv_iconst (v := 0) hx hb dX12_readClause_241 (by decide) ?_
                    refine lv_istore (lv' := [(6, .int 0), (0, .ref (A0 + 703)), (1, .int r1), (3, .int y0_104), (4, .ref (A0 + q135_s0)), (5, .ref (D.1 (60 + q164_s0)))]) hx hb dX12_readClause_242 hl (by decide) rfl (fun ls hl => ?_)
                    refine lv_aload hx hb dX12_readClause_244 (lv_at hl 5 rfl) ?_
                    refine lv_aload_n hx hb dX12_readClause_246 rfl (lv_at hl 1 rfl) ?_
                    obtain ⟨r247, σ247, hc247, h⟩ := bd2_x h
                    refine zc_i Z (zr_V F Z (a := 703) (As := []) (zcX12_look l D A0 σ241 r247 σ247 hc247) zBX12_look zq1514 (by decide) zs_703 zC12.1 rfl ⟨⟨rfl, rfl⟩, Nat.le_of_ble_eq_true rfl, Nat.le_of_ble_eq_true rfl⟩ hl.1 rfl (Nat.le_of_ble_eq_true rfl) dX12_readClause_247 ⟨Nat.le_of_ble_eq_true rfl, Nat.le_of_ble_eq_true rfl⟩) (fun _ _ Z => ?_)
                    obtain ⟨hp250_0, h⟩ := ck_x h
                    obtain ⟨r250, hc250, h⟩ := bd_x h
                    refine zc_i Z (zr_S F Z (As := [.ref (D.1 (60 + q164_s0)), .int r247]) (zcX12_placeOf l D A0 q164_s0 r247 hp250_0 σ247 r250 hc250) zBX12_placeOf zq1526 rfl ⟨⟨rfl, rfl⟩, Nat.le_of_ble_eq_true rfl, Nat.le_of_ble_eq_true rfl⟩ hl.1 rfl (Nat.le_of_ble_eq_true rfl) dX12_readClause_250 ⟨Nat.le_of_ble_eq_true rfl, Nat.le_of_ble_eq_true rfl⟩) (fun _ _ Z => ?_)
                    refine lv_istore (lv' := [(7, .int r250), (6, .int 0), (0, .ref (A0 + 703)), (1, .int r1), (3, .int y0_104), (4, .ref (A0 + q135_s0)), (5, .ref (D.1 (60 + q164_s0)))]) hx hb dX12_readClause_253 hl (by decide) rfl (fun ls hl => ?_)
                    obtain ⟨k279, ek279, h⟩ := lt_x h
                    have hk279 : ∀ (σ279 : Mm) (H : Heap) (locs : List Loc) (ls : Array Slot), zh D A0 σ279 GF 740 s.heap H locs → lv_has ls 8 [(0, .ref (A0 + 703))] → k279 σ279 = some σr → W p l e (zR 7 222) s m [.ref (A0 + 703)].toArray below meth c H locs 0 0 (MQ below (zQv D A0 σr GF 740) [.ref (A0 + 703)].toArray s 0 0 (zA A0)) (F0 m 279 ls []) := by
                      intro  σ279 H locs ls Z hl h
                      rw [ek279] at h
                      try dsimp only at h
                      refine lv_aload_n hx hb dX12_readClause_279 rfl (lv_at hl 0 rfl) ?_
                      obtain ⟨r280, σ280, hc280, h⟩ := bd2_x h
                      refine zc_i Z (zr_V F Z (a := 703) (As := []) (zcX12_fails l D A0 σ279 r280 σ280 hc280) zBX12_fails zq1518 (by decide) zs_703 zC12.1 rfl ⟨⟨rfl, rfl⟩, Nat.le_of_ble_eq_true rfl, Nat.le_of_ble_eq_true rfl⟩ hl.1 rfl (Nat.le_of_ble_eq_true rfl) dX12_readClause_280 ⟨Nat.le_of_ble_eq_true rfl, Nat.le_of_ble_eq_true rfl⟩) (fun _ _ Z => ?_)
                      refine lv_pop hx hb dX12_readClause_283 rfl ?_
                      have hq := Option.some.inj h
                      exact ze_v F Z hr hlocks hq dX12_readClause_284
                    obtain ⟨k349, ek349, h⟩ := lt_x h
                    have hk349 : ∀ (σ349 : Mm) (H : Heap) (locs : List Loc) (ls : Array Slot), zh D A0 σ349 GF 740 s.heap H locs → lv_has ls 8 [] → k349 σ349 = some σr → W p l e (zR 7 222) s m [.ref (A0 + 703)].toArray below meth c H locs 0 0 (MQ below (zQv D A0 σr GF 740) [.ref (A0 + 703)].toArray s 0 0 (zA A0)) (F0 m 349 ls []) := by
                      intro  σ349 H locs ls Z hl h
                      rw [ek349] at h
                      try dsimp only at h
                      have hq := Option.some.inj h
                      exact ze_v F Z hr hlocks hq dX12_readClause_349
                    have hL255 : ∀ (fu255 : Nat) (x6_255 : Int32) (x7_255 : Int32) (σ255 : Mm) (H : Heap) (locs : List Loc) (ls : Array Slot), zh D A0 σ255 GF 740 s.heap H locs → lv_has ls 8 [(0, .ref (A0 + 703)), (1, .int r1), (3, .int y0_104), (4, .ref (A0 + q135_s0)), (5, .ref (D.1 (60 + q164_s0))), (6, .int x6_255), (7, .int x7_255)] → zfX12_readClause_L255 k349 q135_s0 y0_104 r1 q164_s0 k279 fu255 x6_255 x7_255 σ255 = some σr → W p l e (zR 7 222) s m [.ref (A0 + 703)].toArray below meth c H locs 0 0 (MQ below (zQv D A0 σr GF 740) [.ref (A0 + 703)].toArray s 0 0 (zA A0)) (F0 m 255 ls []) := by
                      intro fu255
                      induction fu255 with
                      | zero => intro x6_255 x7_255 σ255 H locs ls Z hl h; rw [zfX12_readClause_L255] at h; cases h
                      | succ fu255 ih255 =>
                        intro x6_255 x7_255 σ255 H locs ls Z hl h
                        rw [zfX12_readClause_L255] at h
                        refine lv_iload hx hb dX12_readClause_255 (lv_at hl 6 rfl) ?_
                        refine lv_iconst (v := (-1)) hx hb dX12_readClause_257 (by decide) ?_
                        refine zb_iceq (tgt := 349) hx hb dX12_readClause_258 (by decide) h (fun h => ?_) (fun h => ?_)
                        · exact hk349 σ255 _ _ _ Z (lv_sub hl [] rfl) h
                        · refine lv_aload_n hx hb dX12_readClause_261 rfl (lv_at hl 0 rfl) ?_
                          refine zw_getI F Z zC12 (a := 703) (k := 11) (by decide) zs_703 (by decide) rfl zq1261 (Or.inl rfl) dX12_readClause_262 ?_
                          refine lv_iconst (v := (-1)) hx hb dX12_readClause_265 (by decide) ?_
                          refine zb_icne (tgt := 349) hx hb dX12_readClause_266 (by decide) h (fun h => ?_) (fun h => ?_)
                          · exact hk349 σ255 _ _ _ Z (lv_sub hl [] rfl) h
                          · refine lv_iload hx hb dX12_readClause_269 (lv_at hl 5 rfl) ?_
                            refine lv_iload hx hb dX12_readClause_271 (lv_at hl 6 rfl) ?_
                            refine zc_i Z (zr_S F Z (As := [.int x6_255, .int x7_255]) (zcX12_has l D A0 x6_255 x7_255 σ255 (zfX12_has x6_255 x7_255) rfl) zBX12_has zq1530 rfl ⟨⟨rfl, rfl⟩, Nat.le_of_ble_eq_true rfl, Nat.le_of_ble_eq_true rfl⟩ hl.1 rfl (Nat.le_of_ble_eq_true rfl) dX12_readClause_273 ⟨Nat.le_of_ble_eq_true rfl, Nat.le_of_ble_eq_true rfl⟩) (fun _ _ Z => ?_)
                            refine zb_ifeq (tgt := 285) hx hb dX12_readClause_276 (by decide) h (fun h => ?_) (fun h => ?_)
                            · refine lv_iload hx hb dX12_readClause_285 (lv_at hl 5 rfl) ?_
                              refine lv_iconst (v := 1) hx hb dX12_readClause_287 (by decide) ?_
                              refine lv_iload hx hb dX12_readClause_288 (lv_at hl 6 rfl) ?_
                              refine lv_ishl hx hb dX12_readClause_290 ?_
                              refine lv_ior hx hb dX12_readClause_291 ?_
                              refine lv_topi (fun x6_292 ex6_292 => ?_)
                              replace h := lt_w h ex6_292
                              refine lv_istore (lv' := [(6, .int x6_292), (0, .ref (A0 + 703)), (1, .int r1), (3, .int y0_104), (4, .ref (A0 + q135_s0)), (5, .ref (D.1 (60 + q164_s0))), (7, .int x7_255)]) hx hb dX12_readClause_292 hl (by decide) rfl (fun ls hl => ?_)
                              refine lv_aload_n hx hb dX12_readClause_294 rfl (lv_at hl 1 rfl) ?_
                              refine lv_aload hx hb dX12_readClause_295 (lv_at hl 4 rfl) ?_
                              refine lv_iload_n hx hb dX12_readClause_297 rfl (lv_at hl 3 rfl) ?_
                              refine lv_iload hx hb dX12_readClause_298 (lv_at hl 6 rfl) ?_
                              refine lv_iadd hx hb dX12_readClause_300 ?_
                              refine lv_iload_n hx hb dX12_readClause_301 rfl (lv_at hl 2 rfl) ?_
                              refine lv_bipush (v := 98) hx hb dX12_readClause_302 (by decide) ?_
                              obtain ⟨j318, ej318, h⟩ := lt_x h
                              have hj318 : ∀ (y0_318 : Int32) (σ318 : Mm) (H : Heap) (locs : List Loc) (ls : Array Slot), zh D A0 σ318 GF 740 s.heap H locs → lv_has ls 8 [(0, .ref (A0 + 703)), (1, .int r1), (3, .int y0_104), (4, .ref (A0 + q135_s0)), (5, .ref (D.1 (60 + q164_s0))), (6, .int x6_292), (7, .int x7_255)] → j318 y0_318 σ318 = some σr → W p l e (zR 7 222) s m [.ref (A0 + 703)].toArray below meth c H locs 0 0 (MQ below (zQv D A0 σr GF 740) [.ref (A0 + 703)].toArray s 0 0 (zA A0)) (F0 m 318 ls [.int y0_318, .int (y0_104 + x7_255), .ref (A0 + q135_s0), .ref (A0 + 703)]) := by
                                intro y0_318 σ318 H locs ls Z hl h
                                rw [ej318] at h
                                try dsimp only at h
                                refine lv_iload_n hx hb dX12_readClause_318 rfl (lv_at hl 1 rfl) ?_
                                refine lv_iload hx hb dX12_readClause_319 (lv_at hl 6 rfl) ?_
                                refine zc_i Z (zr_S F Z (As := [.int r1, .int x7_255]) (zcX12_mostOf l D A0 r1 x7_255 σ318 (zfX12_mostOf r1 x7_255) rfl) zBX12_mostOf zq1533 rfl ⟨⟨rfl, rfl⟩, Nat.le_of_ble_eq_true rfl, Nat.le_of_ble_eq_true rfl⟩ hl.1 rfl (Nat.le_of_ble_eq_true rfl) dX12_readClause_321 ⟨Nat.le_of_ble_eq_true rfl, Nat.le_of_ble_eq_true rfl⟩) (fun _ _ Z => ?_)
                                obtain ⟨hp324_0, h⟩ := ck_x h
                                obtain ⟨σ324, hc324, h⟩ := bd_x h
                                refine zc_v Z (zr_V F Z (a := 703) (As := [.ref (A0 + q135_s0), .int (y0_104 + x7_255), .int y0_318, .int (zfX12_mostOf r1 x7_255)]) (zcX12_readItem l D A0 q135_s0 (y0_104 + x7_255) y0_318 (zfX12_mostOf r1 x7_255) hp324_0 σ318 σ324 hc324) zBX12_readItem zq1536 (by decide) zs_703 zC12.1 rfl ⟨⟨rfl, rfl⟩, Nat.le_of_ble_eq_true rfl, Nat.le_of_ble_eq_true rfl⟩ hl.1 rfl (Nat.le_of_ble_eq_true rfl) dX12_readClause_324 ⟨Nat.le_of_ble_eq_true rfl, Nat.le_of_ble_eq_true rfl⟩) (fun _ _ Z => ?_)
                                refine lv_aload_n hx hb dX12_readClause_327 rfl (lv_at hl 0 rfl) ?_
                                refine zw_getI F Z zC12 (a := 703) (k := 11) (by decide) zs_703 (by decide) rfl zq1261 (Or.inl rfl) dX12_readClause_328 ?_
                                refine lv_iconst (v := (-1)) hx hb dX12_readClause_331 (by decide) ?_
                                refine zb_icne (tgt := 255) hx hb dX12_readClause_332 (by decide) h (fun h => ?_) (fun h => ?_)
                                · exact ih255 x6_292 x7_255 σ324 _ _ _ Z (lv_sub hl [0, 1, 2, 3, 4, 5, 6] rfl) h
                                · refine lv_aload hx hb dX12_readClause_335 (lv_at hl 4 rfl) ?_
                                  refine lv_aload_n hx hb dX12_readClause_337 rfl (lv_at hl 0 rfl) ?_
                                  obtain ⟨r338, σ338, hc338, h⟩ := bd2_x h
                                  refine zc_i Z (zr_V F Z (a := 703) (As := []) (zcX12_look l D A0 σ324 r338 σ338 hc338) zBX12_look zq1514 (by decide) zs_703 zC12.1 rfl ⟨⟨rfl, rfl⟩, Nat.le_of_ble_eq_true rfl, Nat.le_of_ble_eq_true rfl⟩ hl.1 rfl (Nat.le_of_ble_eq_true rfl) dX12_readClause_338 ⟨Nat.le_of_ble_eq_true rfl, Nat.le_of_ble_eq_true rfl⟩) (fun _ _ Z => ?_)
                                  obtain ⟨hp341_0, h⟩ := ck_x h
                                  obtain ⟨r341, hc341, h⟩ := bd_x h
                                  refine zc_i Z (zr_S F Z (As := [.ref (D.1 (60 + q164_s0)), .int r338]) (zcX12_placeOf l D A0 q164_s0 r338 hp341_0 σ338 r341 hc341) zBX12_placeOf zq1526 rfl ⟨⟨rfl, rfl⟩, Nat.le_of_ble_eq_true rfl, Nat.le_of_ble_eq_true rfl⟩ hl.1 rfl (Nat.le_of_ble_eq_true rfl) dX12_readClause_341 ⟨Nat.le_of_ble_eq_true rfl, Nat.le_of_ble_eq_true rfl⟩) (fun _ _ Z => ?_)
                                  refine lv_istore (lv' := [(7, .int r341), (0, .ref (A0 + 703)), (1, .int r1), (3, .int y0_104), (4, .ref (A0 + q135_s0)), (5, .ref (D.1 (60 + q164_s0))), (6, .int x6_292)]) hx hb dX12_readClause_344 hl (by decide) rfl (fun ls hl => ?_)
                                  refine lv_goto (tgt := 255) hx hb dX12_readClause_346 (by decide) ?_
                                  exact ih255 x6_292 r341 σ338 _ _ _ Z (lv_sub hl [1, 2, 3, 4, 5, 6, 0] rfl) h
                              obtain ⟨j317, ej317, h⟩ := lt_x h
                              have hj317 : ∀ (σ317 : Mm) (H : Heap) (locs : List Loc) (ls : Array Slot), zh D A0 σ317 GF 740 s.heap H locs → lv_has ls 8 [(0, .ref (A0 + 703)), (1, .int r1), (3, .int y0_104), (4, .ref (A0 + q135_s0)), (5, .ref (D.1 (60 + q164_s0))), (6, .int x6_292), (7, .int x7_255)] → j317 σ317 = some σr → W p l e (zR 7 222) s m [.ref (A0 + 703)].toArray below meth c H locs 0 0 (MQ below (zQv D A0 σr GF 740) [.ref (A0 + 703)].toArray s 0 0 (zA A0)) (F0 m 317 ls [.int (y0_104 + x7_255), .ref (A0 + q135_s0), .ref (A0 + 703)]) := by
                                intro  σ317 H locs ls Z hl h
                                rw [ej317] at h
                                try dsimp only at h
                                refine lv_iconst (v := 0) hx hb dX12_readClause_317 (by decide) ?_
                                exact hj318 0 σ317 _ _ _ Z (lv_sub hl [0, 1, 2, 3, 4, 5, 6] rfl) h
                              refine zb_icne (tgt := 317) hx hb dX12_readClause_304 (by decide) h (fun h => ?_) (fun h => ?_)
                              · exact hj317 σ255 _ _ _ Z (lv_sub hl [1, 2, 3, 4, 5, 0, 6] rfl) h
                              · refine lv_iload hx hb dX12_readClause_307 (lv_at hl 6 rfl) ?_
                                refine lv_iconst (v := 1) hx hb dX12_readClause_309 (by decide) ?_
                                refine zb_icne (tgt := 317) hx hb dX12_readClause_310 (by decide) h (fun h => ?_) (fun h => ?_)
                                · exact hj317 σ255 _ _ _ Z (lv_sub hl [1, 2, 3, 4, 5, 0, 6] rfl) h
                                · refine lv_iconst (v := 1) hx hb dX12_readClause_313 (by decide) ?_
                                  refine lv_goto (tgt := 318) hx hb dX12_readClause_314 (by decide) ?_
                                  exact hj318 1 σ255 _ _ _ Z (lv_sub hl [1, 2, 3, 4, 5, 0, 6] rfl) h
                            · exact hk279 σ255 _ _ _ Z (lv_sub hl [0] rfl) h
                    exact hL255 NF 0 r250 σ247 _ _ _ Z (lv_sub hl [2, 3, 4, 5, 6, 1, 0] rfl) h
                  have hL212 : ∀ (fu212 : Nat) (x6_212 : Int32) (σ212 : Mm) (H : Heap) (locs : List Loc) (ls : Array Slot), zh D A0 σ212 GF 740 s.heap H locs → lv_has ls 8 [(0, .ref (A0 + 703)), (1, .int r1), (3, .int y0_104), (4, .ref (A0 + q135_s0)), (5, .ref (D.1 (60 + q164_s0))), (6, .int x6_212)] → zfX12_readClause_L212 q164_s0 k241 q135_s0 y0_104 r1 fu212 x6_212 σ212 = some σr → W p l e (zR 7 222) s m [.ref (A0 + 703)].toArray below meth c H locs 0 0 (MQ below (zQv D A0 σr GF 740) [.ref (A0 + 703)].toArray s 0 0 (zA A0)) (F0 m 212 ls []) := by
                    intro fu212
                    induction fu212 with
                    | zero => intro x6_212 σ212 H locs ls Z hl h; rw [zfX12_readClause_L212] at h; cases h
                    | succ fu212 ih212 =>
                      intro x6_212 σ212 H locs ls Z hl h
                      rw [zfX12_readClause_L212] at h
                      refine lv_iload hx hb dX12_readClause_212 (lv_at hl 5 rfl) ?_
                      refine lv_aload hx hb dX12_readClause_214 (lv_at hl 4 rfl) ?_
                      obtain ⟨hp216, h⟩ := ck_x h
                      refine zw_slen l F Z hl.1 hp216 zq1525 ⟨Nat.le_of_ble_eq_true rfl, Nat.le_of_ble_eq_true rfl⟩ ⟨Nat.le_of_ble_eq_true rfl, Nat.le_of_ble_eq_true rfl⟩ (Nat.le_of_ble_eq_true rfl) dX12_readClause_216 (fun _ _ Z => ?_)
                      refine zb_icge (tgt := 241) hx hb dX12_readClause_219 (by decide) h (fun h => ?_) (fun h => ?_)
                      · exact hk241 σ212 _ _ _ Z (lv_sub hl [0, 1, 2, 3, 4] rfl) h
                      · refine lv_aload hx hb dX12_readClause_222 (lv_at hl 3 rfl) ?_
                        refine lv_iload_n hx hb dX12_readClause_224 rfl (lv_at hl 2 rfl) ?_
                        refine lv_iload hx hb dX12_readClause_225 (lv_at hl 5 rfl) ?_
                        refine lv_iadd hx hb dX12_readClause_227 ?_
                        refine lv_iload_n hx hb dX12_readClause_228 rfl (lv_at hl 1 rfl) ?_
                        refine lv_iload hx hb dX12_readClause_229 (lv_at hl 5 rfl) ?_
                        refine zc_i Z (zr_S F Z (As := [.int r1, .int x6_212]) (zcX12_usual l D A0 r1 x6_212 σ212 (zfX12_usual r1 x6_212) rfl) zBX12_usual zq1507 rfl ⟨⟨rfl, rfl⟩, Nat.le_of_ble_eq_true rfl, Nat.le_of_ble_eq_true rfl⟩ hl.1 rfl (Nat.le_of_ble_eq_true rfl) dX12_readClause_231 ⟨Nat.le_of_ble_eq_true rfl, Nat.le_of_ble_eq_true rfl⟩) (fun _ _ Z => ?_)
                        obtain ⟨hp234, h⟩ := ck_x h
                        obtain ⟨hk234, h⟩ := ck_x h
                        refine zw_iast F Z (hp234).2 (zsI hp234) hk234 dX12_readClause_234 (fun σ234 _ _ eσ234 Z => ?_)
                        replace h := lt_w h eσ234
                        obtain ⟨x6_235, ex6_235⟩ : ∃ y : Int32, y = x6_212 + 1 := ⟨_, rfl⟩
                        replace h := lt_w h ex6_235
                        refine lv_iinc (v := x6_235) (lv' := [(6, .int x6_235), (0, .ref (A0 + 703)), (1, .int r1), (3, .int y0_104), (4, .ref (A0 + q135_s0)), (5, .ref (D.1 (60 + q164_s0)))]) hx hb dX12_readClause_235 hl (k := 5) rfl (by rw [ex6_235]; rfl) (by decide) rfl (fun ls hl => ?_)
                        refine lv_goto (tgt := 212) hx hb dX12_readClause_238 (by decide) ?_
                        exact ih212 x6_235 σ234 _ _ _ Z (lv_sub hl [1, 2, 3, 4, 5, 0] rfl) h
                  exact hL212 NF 0 σ209 _ _ _ Z (lv_sub hl [1, 2, 3, 4, 5, 0] rfl) h
                refine zb_icne (tgt := 209) hx hb dX12_readClause_201 (by decide) h (fun h => ?_) (fun h => ?_)
                · exact hj209 σ198 _ _ _ Z (lv_sub hl [0, 1, 2, 3, 4] rfl) h
                · refine lv_aload_n hx hb dX12_readClause_204 rfl (lv_at hl 0 rfl) ?_
                  refine lv_iconst (v := 1) hx hb dX12_readClause_205 (by decide) ?_
                  refine zw_putI F Z zC12 (a := 703) (k := 28) (by decide) zs_703 (by decide) rfl (by decide) zq1278 (Or.inl rfl) rfl (z_nb (by decide)) dX12_readClause_206 (fun σ206 _ _ eσ206 Z => ?_)
                  replace h := lt_w h eσ206
                  exact hj209 σ206 _ _ _ Z (lv_sub hl [0, 1, 2, 3, 4] rfl) h
              refine zb_icne (tgt := 198) hx hb dX12_readClause_185 (by decide) h (fun h => ?_) (fun h => ?_)
              · exact hj198 σ182 _ _ _ Z (lv_sub hl [0, 1, 2, 3, 4] rfl) h
              · refine lv_aload_n hx hb dX12_readClause_188 rfl (lv_at hl 0 rfl) ?_
                refine lv_dup hx hb dX12_readClause_189 rfl ?_
                refine zw_getI F Z zC12 (a := 703) (k := 27) (by decide) zs_703 (by decide) rfl zq1277 (Or.inl rfl) dX12_readClause_190 ?_
                refine lv_iconst (v := 1) hx hb dX12_readClause_193 (by decide) ?_
                refine lv_iadd hx hb dX12_readClause_194 ?_
                refine zw_putI F Z zC12 (a := 703) (k := 27) (by decide) zs_703 (by decide) rfl (by decide) zq1277 (Or.inl rfl) rfl ⟨rfl, rfl⟩ dX12_readClause_195 (fun σ195 _ _ eσ195 Z => ?_)
                replace h := lt_w h eσ195
                exact hj198 σ195 _ _ _ Z (lv_sub hl [0, 1, 2, 3, 4] rfl) h
            refine zb_icne (tgt := 182) hx hb dX12_readClause_169 (by decide) h (fun h => ?_) (fun h => ?_)
            · exact hj182 σ164 _ _ _ Z (lv_sub hl [1, 2, 3, 4, 0] rfl) h
            · refine lv_aload_n hx hb dX12_readClause_172 rfl (lv_at hl 1 rfl) ?_
              refine lv_dup hx hb dX12_readClause_173 rfl ?_
              refine zw_getI F Z zC12 (a := 703) (k := 26) (by decide) zs_703 (by decide) rfl zq1276 (Or.inl rfl) dX12_readClause_174 ?_
              refine lv_iconst (v := 1) hx hb dX12_readClause_177 (by decide) ?_
              refine lv_iadd hx hb dX12_readClause_178 ?_
              refine zw_putI F Z zC12 (a := 703) (k := 26) (by decide) zs_703 (by decide) rfl (by decide) zq1276 (Or.inl rfl) rfl ⟨rfl, rfl⟩ dX12_readClause_179 (fun σ179 _ _ eσ179 Z => ?_)
              replace h := lt_w h eσ179
              exact hj182 σ179 _ _ _ Z (lv_sub hl [1, 2, 3, 4, 0] rfl) h
          refine zb_icne (tgt := 149) hx hb dX12_readClause_140 (by decide) h (fun h => ?_) (fun h => ?_)
          · refine lv_iload_n hx hb dX12_readClause_149 rfl (lv_at hl 2 rfl) ?_
            refine lv_bipush (v := 98) hx hb dX12_readClause_150 (by decide) ?_
            refine zb_icne (tgt := 161) hx hb dX12_readClause_152 (by decide) h (fun h => ?_) (fun h => ?_)
            · refine zw_ldcwS F (i := 5) (tx := "qf") (by decide) dX12_readClause_161 ?_
              exact hj164 5 σ135 _ _ _ Z (lv_sub hl [1, 2, 3, 0] rfl) h
            · refine zw_ldcwS F (i := 4) (tx := "vmw") (by decide) dX12_readClause_155 ?_
              refine lv_goto (tgt := 164) hx hb dX12_readClause_158 (by decide) ?_
              exact hj164 4 σ135 _ _ _ Z (lv_sub hl [1, 2, 3, 0] rfl) h
          · refine zw_ldcwS F (i := 3) (tx := "ncr") (by decide) dX12_readClause_143 ?_
            refine lv_goto (tgt := 164) hx hb dX12_readClause_146 (by decide) ?_
            exact hj164 3 σ135 _ _ _ Z (lv_sub hl [1, 2, 3, 0] rfl) h
        refine zb_icne (tgt := 118) hx hb dX12_readClause_108 (by decide) h (fun h => ?_) (fun h => ?_)
        · refine lv_iload_n hx hb dX12_readClause_118 rfl (lv_at hl 2 rfl) ?_
          refine lv_bipush (v := 98) hx hb dX12_readClause_119 (by decide) ?_
          refine zb_icne (tgt := 131) hx hb dX12_readClause_121 (by decide) h (fun h => ?_) (fun h => ?_)
          · refine lv_aload_n hx hb dX12_readClause_131 rfl (lv_at hl 1 rfl) ?_
            refine zw_getR F Z zC12 (a := 703) (k := 23) (by decide) zs_703 (by decide) rfl zg_703_23 zq1273 (Or.inl rfl) dX12_readClause_132 ?_
            exact hj135 713 σ104 _ _ _ Z (lv_sub hl [1, 2, 0] rfl) h
          · refine lv_aload_n hx hb dX12_readClause_124 rfl (lv_at hl 1 rfl) ?_
            refine zw_getR F Z zC12 (a := 703) (k := 22) (by decide) zs_703 (by decide) rfl zg_703_22 zq1272 (Or.inl rfl) dX12_readClause_125 ?_
            refine lv_goto (tgt := 135) hx hb dX12_readClause_128 (by decide) ?_
            exact hj135 712 σ104 _ _ _ Z (lv_sub hl [1, 2, 0] rfl) h
        · refine lv_aload_n hx hb dX12_readClause_111 rfl (lv_at hl 1 rfl) ?_
          refine zw_getR F Z zC12 (a := 703) (k := 21) (by decide) zs_703 (by decide) rfl zg_703_21 zq1271 (Or.inl rfl) dX12_readClause_112 ?_
          refine lv_goto (tgt := 135) hx hb dX12_readClause_115 (by decide) ?_
          exact hj135 711 σ104 _ _ _ Z (lv_sub hl [1, 2, 0] rfl) h
      refine zb_icne (tgt := 88) hx hb dX12_readClause_76 (by decide) h (fun h => ?_) (fun h => ?_)
      · refine lv_iload_n hx hb dX12_readClause_88 rfl (lv_at hl 2 rfl) ?_
        refine lv_bipush (v := 98) hx hb dX12_readClause_89 (by decide) ?_
        refine zb_icne (tgt := 103) hx hb dX12_readClause_91 (by decide) h (fun h => ?_) (fun h => ?_)
        · refine lv_iconst (v := 0) hx hb dX12_readClause_103 (by decide) ?_
          exact hj104 0 σ70 _ _ _ Z (lv_sub hl [1, 2] rfl) h
        · refine lv_iconst (v := 3) hx hb dX12_readClause_94 (by decide) ?_
          refine lv_aload_n hx hb dX12_readClause_95 rfl (lv_at hl 1 rfl) ?_
          refine zw_getI F Z zC12 (a := 703) (k := 27) (by decide) zs_703 (by decide) rfl zq1277 (Or.inl rfl) dX12_readClause_96 ?_
          refine lv_imul hx hb dX12_readClause_99 ?_
          refine lv_goto (tgt := 104) hx hb dX12_readClause_100 (by decide) ?_
          exact hj104 (3 * (σ70 703 27)) σ70 _ _ _ Z (lv_sub hl [1, 2] rfl) h
      · refine lv_iconst (v := 3) hx hb dX12_readClause_79 (by decide) ?_
        refine lv_aload_n hx hb dX12_readClause_80 rfl (lv_at hl 1 rfl) ?_
        refine zw_getI F Z zC12 (a := 703) (k := 26) (by decide) zs_703 (by decide) rfl zq1276 (Or.inl rfl) dX12_readClause_81 ?_
        refine lv_imul hx hb dX12_readClause_84 ?_
        refine lv_goto (tgt := 104) hx hb dX12_readClause_85 (by decide) ?_
        exact hj104 (3 * (σ70 703 26)) σ70 _ _ _ Z (lv_sub hl [1, 2] rfl) h
    · refine lv_aload_n hx hb dX12_readClause_57 rfl (lv_at hl 1 rfl) ?_
      obtain ⟨r58, σ58, hc58, h⟩ := bd2_x h
      refine zc_i Z (zr_V F Z (a := 703) (As := []) (zcX12_fails l D A0 σ52 r58 σ58 hc58) zBX12_fails zq1518 (by decide) zs_703 zC12.1 rfl ⟨⟨rfl, rfl⟩, Nat.le_of_ble_eq_true rfl, Nat.le_of_ble_eq_true rfl⟩ hl.1 rfl (Nat.le_of_ble_eq_true rfl) dX12_readClause_58 ⟨Nat.le_of_ble_eq_true rfl, Nat.le_of_ble_eq_true rfl⟩) (fun _ _ Z => ?_)
      refine lv_pop hx hb dX12_readClause_61 rfl ?_
      have hq := Option.some.inj h
      exact ze_v F Z hr hlocks hq dX12_readClause_62
  obtain ⟨j47, ej47, h⟩ := lt_x h
  have hj47 : ∀ (σ47 : Mm) (H : Heap) (locs : List Loc) (ls : Array Slot), zh D A0 σ47 GF 740 s.heap H locs → lv_has ls 8 [(0, .ref (A0 + 703)), (1, .int r1)] → j47 σ47 = some σr → W p l e (zR 7 222) s m [.ref (A0 + 703)].toArray below meth c H locs 0 0 (MQ below (zQv D A0 σr GF 740) [.ref (A0 + 703)].toArray s 0 0 (zA A0)) (F0 m 47 ls []) := by
    intro  σ47 H locs ls Z hl h
    rw [ej47] at h
    try dsimp only at h
    refine lv_iconst (v := 1) hx hb dX12_readClause_47 (by decide) ?_
    refine lv_goto (tgt := 52) hx hb dX12_readClause_48 (by decide) ?_
    exact hj52 1 σ47 _ _ _ Z (lv_sub hl [0, 1] rfl) h
  obtain ⟨j19, ej19, h⟩ := lt_x h
  have hj19 : ∀ (σ19 : Mm) (H : Heap) (locs : List Loc) (ls : Array Slot), zh D A0 σ19 GF 740 s.heap H locs → lv_has ls 8 [(0, .ref (A0 + 703)), (1, .int r1)] → j19 σ19 = some σr → W p l e (zR 7 222) s m [.ref (A0 + 703)].toArray below meth c H locs 0 0 (MQ below (zQv D A0 σr GF 740) [.ref (A0 + 703)].toArray s 0 0 (zA A0)) (F0 m 19 ls []) := by
    intro  σ19 H locs ls Z hl h
    rw [ej19] at h
    try dsimp only at h
    refine lv_iload_n hx hb dX12_readClause_19 rfl (lv_at hl 1 rfl) ?_
    refine lv_bipush (v := 98) hx hb dX12_readClause_20 (by decide) ?_
    obtain ⟨j34, ej34, h⟩ := lt_x h
    have hj34 : ∀ (σ34 : Mm) (H : Heap) (locs : List Loc) (ls : Array Slot), zh D A0 σ34 GF 740 s.heap H locs → lv_has ls 8 [(0, .ref (A0 + 703)), (1, .int r1)] → j34 σ34 = some σr → W p l e (zR 7 222) s m [.ref (A0 + 703)].toArray below meth c H locs 0 0 (MQ below (zQv D A0 σr GF 740) [.ref (A0 + 703)].toArray s 0 0 (zA A0)) (F0 m 34 ls []) := by
      intro  σ34 H locs ls Z hl h
      rw [ej34] at h
      try dsimp only at h
      refine lv_iload_n hx hb dX12_readClause_34 rfl (lv_at hl 1 rfl) ?_
      refine lv_bipush (v := 108) hx hb dX12_readClause_35 (by decide) ?_
      obtain ⟨j51, ej51, h⟩ := lt_x h
      have hj51 : ∀ (σ51 : Mm) (H : Heap) (locs : List Loc) (ls : Array Slot), zh D A0 σ51 GF 740 s.heap H locs → lv_has ls 8 [(0, .ref (A0 + 703)), (1, .int r1)] → j51 σ51 = some σr → W p l e (zR 7 222) s m [.ref (A0 + 703)].toArray below meth c H locs 0 0 (MQ below (zQv D A0 σr GF 740) [.ref (A0 + 703)].toArray s 0 0 (zA A0)) (F0 m 51 ls []) := by
        intro  σ51 H locs ls Z hl h
        rw [ej51] at h
        try dsimp only at h
        refine lv_iconst (v := 0) hx hb dX12_readClause_51 (by decide) ?_
        exact hj52 0 σ51 _ _ _ Z (lv_sub hl [0, 1] rfl) h
      refine zb_icne (tgt := 51) hx hb dX12_readClause_37 (by decide) h (fun h => ?_) (fun h => ?_)
      · exact hj51 σ34 _ _ _ Z (lv_sub hl [0, 1] rfl) h
      · refine lv_aload_n hx hb dX12_readClause_40 rfl (lv_at hl 0 rfl) ?_
        refine zw_getI F Z zC12 (a := 703) (k := 28) (by decide) zs_703 (by decide) rfl zq1278 (Or.inl rfl) dX12_readClause_41 ?_
        refine zb_ifne (tgt := 51) hx hb dX12_readClause_44 (by decide) h (fun h => ?_) (fun h => ?_)
        · exact hj51 σ34 _ _ _ Z (lv_sub hl [0, 1] rfl) h
        · exact hj47 σ34 _ _ _ Z (lv_sub hl [0, 1] rfl) h
    refine zb_icne (tgt := 34) hx hb dX12_readClause_22 (by decide) h (fun h => ?_) (fun h => ?_)
    · exact hj34 σ19 _ _ _ Z (lv_sub hl [0, 1] rfl) h
    · refine lv_aload_n hx hb dX12_readClause_25 rfl (lv_at hl 0 rfl) ?_
      refine zw_getI F Z zC12 (a := 703) (k := 27) (by decide) zs_703 (by decide) rfl zq1277 (Or.inl rfl) dX12_readClause_26 ?_
      refine lv_bipush (v := 6) hx hb dX12_readClause_29 (by decide) ?_
      refine zb_iclt (tgt := 47) hx hb dX12_readClause_31 (by decide) h (fun h => ?_) (fun h => ?_)
      · exact hj47 σ19 _ _ _ Z (lv_sub hl [0, 1] rfl) h
      · exact hj34 σ19 _ _ _ Z (lv_sub hl [0, 1] rfl) h
  refine zb_icne (tgt := 19) hx hb dX12_readClause_8 (by decide) h (fun h => ?_) (fun h => ?_)
  · exact hj19 σ1 _ _ _ Z (lv_sub hl [1, 0] rfl) h
  · refine lv_aload_n hx hb dX12_readClause_11 rfl (lv_at hl 1 rfl) ?_
    refine zw_getI F Z zC12 (a := 703) (k := 26) (by decide) zs_703 (by decide) rfl zq1276 (Or.inl rfl) dX12_readClause_12 ?_
    refine lv_iconst (v := 5) hx hb dX12_readClause_15 (by decide) ?_
    refine zb_iclt (tgt := 47) hx hb dX12_readClause_16 (by decide) h (fun h => ?_) (fun h => ?_)
    · exact hj47 σ1 _ _ _ Z (lv_sub hl [1, 0] rfl) h
    · exact hj19 σ1 _ _ _ Z (lv_sub hl [1, 0] rfl) h
set_option maxHeartbeats 4000000 in
set_option maxRecDepth 100000 in
theorem zcX12_readMarket (l : Launch) (D : va_G) (A0 : Nat) (σ : Mm) (σr : Mm) (h : zfX12_readMarket σ = some σr) : Met l yX12_readMarket (zws yX12_readMarket cX12_readMarket 2 none) (zR 8 249) (zPc D A0 σ GF 740 [.ref (A0 + 703)]) (zQv D A0 σr GF 740) 0 0 (zA A0) := by
  unfold zfX12_readMarket at h
  refine zmet (own := RX12) (by decide) rfl (Nat.le_of_ble_eq_true rfl) ?_
  intro p e s m below meth c F hr hlocks _ Z ls hl
  have hl : lv_has ls 2 [(0, .ref (A0 + 703))] := hl
  have hx := F.1.1
  have hb := F.1.2.1
  have hown := F.1.2.2.2.1
  have hts := F.1.2.2.2.2
  refine lv_aload_n hx hb dX12_readMarket_0 rfl (lv_at hl 0 rfl) ?_
  refine lv_aload_n hx hb dX12_readMarket_1 rfl (lv_at hl 0 rfl) ?_
  refine zw_getR F Z zC12 (a := 703) (k := 1) (by decide) zs_703 (by decide) rfl zg_703_1 zq1251 (Or.inl rfl) dX12_readMarket_2 ?_
  refine lv_iconst (v := 0) hx hb dX12_readMarket_5 (by decide) ?_
  refine lv_aload_n hx hb dX12_readMarket_6 rfl (lv_at hl 0 rfl) ?_
  refine zw_getI F Z zC12 (a := 703) (k := 6) (by decide) zs_703 (by decide) rfl zq1256 (Or.inl rfl) dX12_readMarket_7 ?_
  obtain ⟨σ10, hc10, h⟩ := bd_x h
  refine zc_v Z (zr_V F Z (a := 703) (As := [.ref (A0 + 704), .int 0, .int (σ 703 6)]) (zcX12_opens l D A0 704 0 (σ 703 6) (by decide) σ σ10 hc10) zBX12_opens zq1503 (by decide) zs_703 zC12.1 rfl ⟨⟨rfl, rfl⟩, Nat.le_of_ble_eq_true rfl, Nat.le_of_ble_eq_true rfl⟩ hl.1 rfl (Nat.le_of_ble_eq_true rfl) dX12_readMarket_10 ⟨Nat.le_of_ble_eq_true rfl, Nat.le_of_ble_eq_true rfl⟩) (fun _ _ Z => ?_)
  refine lv_aload_n hx hb dX12_readMarket_13 rfl (lv_at hl 0 rfl) ?_
  refine lv_iconst (v := 0) hx hb dX12_readMarket_14 (by decide) ?_
  refine zw_putI F Z zC12 (a := 703) (k := 26) (by decide) zs_703 (by decide) rfl (by decide) zq1276 (Or.inl rfl) rfl ⟨rfl, rfl⟩ dX12_readMarket_15 (fun σ15 _ _ eσ15 Z => ?_)
  replace h := lt_w h eσ15
  refine lv_aload_n hx hb dX12_readMarket_18 rfl (lv_at hl 0 rfl) ?_
  refine lv_iconst (v := 0) hx hb dX12_readMarket_19 (by decide) ?_
  refine zw_putI F Z zC12 (a := 703) (k := 27) (by decide) zs_703 (by decide) rfl (by decide) zq1277 (Or.inl rfl) rfl ⟨rfl, rfl⟩ dX12_readMarket_20 (fun σ20 _ _ eσ20 Z => ?_)
  replace h := lt_w h eσ20
  refine lv_aload_n hx hb dX12_readMarket_23 rfl (lv_at hl 0 rfl) ?_
  refine lv_iconst (v := 0) hx hb dX12_readMarket_24 (by decide) ?_
  refine zw_putI F Z zC12 (a := 703) (k := 28) (by decide) zs_703 (by decide) rfl (by decide) zq1278 (Or.inl rfl) rfl (z_nb (by decide)) dX12_readMarket_25 (fun σ25 _ _ eσ25 Z => ?_)
  replace h := lt_w h eσ25
  refine lv_aload_n hx hb dX12_readMarket_28 rfl (lv_at hl 0 rfl) ?_
  refine zw_getR F Z zC12 (a := 703) (k := 23) (by decide) zs_703 (by decide) rfl zg_703_23 zq1273 (Or.inl rfl) dX12_readMarket_29 ?_
  refine lv_iconst (v := 0) hx hb dX12_readMarket_32 (by decide) ?_
  refine lv_bipush (v := 108) hx hb dX12_readMarket_33 (by decide) ?_
  refine lv_iconst (v := 0) hx hb dX12_readMarket_35 (by decide) ?_
  refine zc_i Z (zr_S F Z (As := [.int 108, .int 0]) (zcX12_usual l D A0 108 0 σ25 (zfX12_usual 108 0) rfl) zBX12_usual zq1507 rfl ⟨⟨rfl, rfl⟩, Nat.le_of_ble_eq_true rfl, Nat.le_of_ble_eq_true rfl⟩ hl.1 rfl (Nat.le_of_ble_eq_true rfl) dX12_readMarket_36 ⟨Nat.le_of_ble_eq_true rfl, Nat.le_of_ble_eq_true rfl⟩) (fun _ _ Z => ?_)
  refine zw_iast F Z (by decide) zs_713 (by decide) dX12_readMarket_39 (fun σ39 _ _ eσ39 Z => ?_)
  replace h := lt_w h eσ39
  refine lv_aload_n hx hb dX12_readMarket_40 rfl (lv_at hl 0 rfl) ?_
  refine zw_getR F Z zC12 (a := 703) (k := 23) (by decide) zs_703 (by decide) rfl zg_703_23 zq1273 (Or.inl rfl) dX12_readMarket_41 ?_
  refine lv_iconst (v := 1) hx hb dX12_readMarket_44 (by decide) ?_
  refine lv_bipush (v := 108) hx hb dX12_readMarket_45 (by decide) ?_
  refine lv_iconst (v := 1) hx hb dX12_readMarket_47 (by decide) ?_
  refine zc_i Z (zr_S F Z (As := [.int 108, .int 1]) (zcX12_usual l D A0 108 1 σ39 (zfX12_usual 108 1) rfl) zBX12_usual zq1507 rfl ⟨⟨rfl, rfl⟩, Nat.le_of_ble_eq_true rfl, Nat.le_of_ble_eq_true rfl⟩ hl.1 rfl (Nat.le_of_ble_eq_true rfl) dX12_readMarket_48 ⟨Nat.le_of_ble_eq_true rfl, Nat.le_of_ble_eq_true rfl⟩) (fun _ _ Z => ?_)
  refine zw_iast F Z (by decide) zs_713 (by decide) dX12_readMarket_51 (fun σ51 _ _ eσ51 Z => ?_)
  replace h := lt_w h eσ51
  refine lv_iconst (v := 1) hx hb dX12_readMarket_52 (by decide) ?_
  refine lv_istore_n (lv' := [(1, .int 1), (0, .ref (A0 + 703))]) hx hb dX12_readMarket_53 rfl hl (by decide) rfl (fun ls hl => ?_)
  obtain ⟨k110, ek110, h⟩ := lt_x h
  have hk110 : ∀ (σ110 : Mm) (H : Heap) (locs : List Loc) (ls : Array Slot), zh D A0 σ110 GF 740 s.heap H locs → lv_has ls 2 [(0, .ref (A0 + 703))] → k110 σ110 = some σr → W p l e (zR 8 249) s m [.ref (A0 + 703)].toArray below meth c H locs 0 0 (MQ below (zQv D A0 σr GF 740) [.ref (A0 + 703)].toArray s 0 0 (zA A0)) (F0 m 110 ls []) := by
    intro  σ110 H locs ls Z hl h
    rw [ek110] at h
    try dsimp only at h
    refine lv_aload_n hx hb dX12_readMarket_110 rfl (lv_at hl 0 rfl) ?_
    refine zw_getI F Z zC12 (a := 703) (k := 11) (by decide) zs_703 (by decide) rfl zq1261 (Or.inl rfl) dX12_readMarket_111 ?_
    refine lv_iconst (v := (-1)) hx hb dX12_readMarket_114 (by decide) ?_
    refine zb_icne (tgt := 145) hx hb dX12_readMarket_115 (by decide) h (fun h => ?_) (fun h => ?_)
    · have hq := Option.some.inj h
      exact ze_v F Z hr hlocks hq dX12_readMarket_145
    · refine lv_aload_n hx hb dX12_readMarket_118 rfl (lv_at hl 0 rfl) ?_
      obtain ⟨r119, σ119, hc119, h⟩ := bd2_x h
      refine zc_i Z (zr_V F Z (a := 703) (As := []) (zcX12_look l D A0 σ110 r119 σ119 hc119) zBX12_look zq1514 (by decide) zs_703 zC12.1 rfl ⟨⟨rfl, rfl⟩, Nat.le_of_ble_eq_true rfl, Nat.le_of_ble_eq_true rfl⟩ hl.1 rfl (Nat.le_of_ble_eq_true rfl) dX12_readMarket_119 ⟨Nat.le_of_ble_eq_true rfl, Nat.le_of_ble_eq_true rfl⟩) (fun _ _ Z => ?_)
      refine lv_iconst (v := (-1)) hx hb dX12_readMarket_122 (by decide) ?_
      obtain ⟨j140, ej140, h⟩ := lt_x h
      have hj140 : ∀ (σ140 : Mm) (H : Heap) (locs : List Loc) (ls : Array Slot), zh D A0 σ140 GF 740 s.heap H locs → lv_has ls 2 [(0, .ref (A0 + 703))] → j140 σ140 = some σr → W p l e (zR 8 249) s m [.ref (A0 + 703)].toArray below meth c H locs 0 0 (MQ below (zQv D A0 σr GF 740) [.ref (A0 + 703)].toArray s 0 0 (zA A0)) (F0 m 140 ls []) := by
        intro  σ140 H locs ls Z hl h
        rw [ej140] at h
        try dsimp only at h
        refine lv_aload_n hx hb dX12_readMarket_140 rfl (lv_at hl 0 rfl) ?_
        obtain ⟨r141, σ141, hc141, h⟩ := bd2_x h
        refine zc_i Z (zr_V F Z (a := 703) (As := []) (zcX12_fails l D A0 σ140 r141 σ141 hc141) zBX12_fails zq1518 (by decide) zs_703 zC12.1 rfl ⟨⟨rfl, rfl⟩, Nat.le_of_ble_eq_true rfl, Nat.le_of_ble_eq_true rfl⟩ hl.1 rfl (Nat.le_of_ble_eq_true rfl) dX12_readMarket_141 ⟨Nat.le_of_ble_eq_true rfl, Nat.le_of_ble_eq_true rfl⟩) (fun _ _ Z => ?_)
        refine lv_pop hx hb dX12_readMarket_144 rfl ?_
        have hq := Option.some.inj h
        exact ze_v F Z hr hlocks hq dX12_readMarket_145
      refine zb_icne (tgt := 140) hx hb dX12_readMarket_123 (by decide) h (fun h => ?_) (fun h => ?_)
      · exact hj140 σ119 _ _ _ Z (lv_sub hl [0] rfl) h
      · refine lv_aload_n hx hb dX12_readMarket_126 rfl (lv_at hl 0 rfl) ?_
        refine zw_getI F Z zC12 (a := 703) (k := 26) (by decide) zs_703 (by decide) rfl zq1276 (Or.inl rfl) dX12_readMarket_127 ?_
        refine zb_ifeq (tgt := 140) hx hb dX12_readMarket_130 (by decide) h (fun h => ?_) (fun h => ?_)
        · exact hj140 σ119 _ _ _ Z (lv_sub hl [0] rfl) h
        · refine lv_aload_n hx hb dX12_readMarket_133 rfl (lv_at hl 0 rfl) ?_
          refine zw_getI F Z zC12 (a := 703) (k := 27) (by decide) zs_703 (by decide) rfl zq1277 (Or.inl rfl) dX12_readMarket_134 ?_
          refine zb_ifne (tgt := 145) hx hb dX12_readMarket_137 (by decide) h (fun h => ?_) (fun h => ?_)
          · have hq := Option.some.inj h
            exact ze_v F Z hr hlocks hq dX12_readMarket_145
          · exact hj140 σ119 _ _ _ Z (lv_sub hl [0] rfl) h
  have hL54 : ∀ (fu54 : Nat) (x1_54 : Int32) (σ54 : Mm) (H : Heap) (locs : List Loc) (ls : Array Slot), zh D A0 σ54 GF 740 s.heap H locs → lv_has ls 2 [(0, .ref (A0 + 703)), (1, .int x1_54)] → zfX12_readMarket_L54 k110 fu54 x1_54 σ54 = some σr → W p l e (zR 8 249) s m [.ref (A0 + 703)].toArray below meth c H locs 0 0 (MQ below (zQv D A0 σr GF 740) [.ref (A0 + 703)].toArray s 0 0 (zA A0)) (F0 m 54 ls []) := by
    intro fu54
    induction fu54 with
    | zero => intro x1_54 σ54 H locs ls Z hl h; rw [zfX12_readMarket_L54] at h; cases h
    | succ fu54 ih54 =>
      intro x1_54 σ54 H locs ls Z hl h
      rw [zfX12_readMarket_L54] at h
      refine lv_iload_n hx hb dX12_readMarket_54 rfl (lv_at hl 1 rfl) ?_
      refine zb_ifeq (tgt := 110) hx hb dX12_readMarket_55 (by decide) h (fun h => ?_) (fun h => ?_)
      · exact hk110 σ54 _ _ _ Z (lv_sub hl [0] rfl) h
      · refine lv_aload_n hx hb dX12_readMarket_58 rfl (lv_at hl 0 rfl) ?_
        refine zw_getI F Z zC12 (a := 703) (k := 11) (by decide) zs_703 (by decide) rfl zq1261 (Or.inl rfl) dX12_readMarket_59 ?_
        refine lv_iconst (v := (-1)) hx hb dX12_readMarket_62 (by decide) ?_
        refine zb_icne (tgt := 110) hx hb dX12_readMarket_63 (by decide) h (fun h => ?_) (fun h => ?_)
        · exact hk110 σ54 _ _ _ Z (lv_sub hl [0] rfl) h
        · refine lv_aload_n hx hb dX12_readMarket_66 rfl (lv_at hl 0 rfl) ?_
          obtain ⟨σ67, hc67, h⟩ := bd_x h
          refine zc_v Z (zr_V F Z (a := 703) (As := []) (zcX12_readClause l D A0 σ54 σ67 hc67) zBX12_readClause zq1510 (by decide) zs_703 zC12.1 rfl ⟨⟨rfl, rfl⟩, Nat.le_of_ble_eq_true rfl, Nat.le_of_ble_eq_true rfl⟩ hl.1 rfl (Nat.le_of_ble_eq_true rfl) dX12_readMarket_67 ⟨Nat.le_of_ble_eq_true rfl, Nat.le_of_ble_eq_true rfl⟩) (fun _ _ Z => ?_)
          refine lv_aload_n hx hb dX12_readMarket_70 rfl (lv_at hl 0 rfl) ?_
          refine zw_getI F Z zC12 (a := 703) (k := 11) (by decide) zs_703 (by decide) rfl zq1261 (Or.inl rfl) dX12_readMarket_71 ?_
          refine lv_iconst (v := (-1)) hx hb dX12_readMarket_74 (by decide) ?_
          obtain ⟨j92, ej92, h⟩ := lt_x h
          have hj92 : ∀ (y0_92 : Int32) (σ92 : Mm) (H : Heap) (locs : List Loc) (ls : Array Slot), zh D A0 σ92 GF 740 s.heap H locs → lv_has ls 2 [(0, .ref (A0 + 703))] → j92 y0_92 σ92 = some σr → W p l e (zR 8 249) s m [.ref (A0 + 703)].toArray below meth c H locs 0 0 (MQ below (zQv D A0 σr GF 740) [.ref (A0 + 703)].toArray s 0 0 (zA A0)) (F0 m 92 ls [.int y0_92]) := by
            intro y0_92 σ92 H locs ls Z hl h
            rw [ej92] at h
            try dsimp only at h
            refine lv_istore_n (lv' := [(1, .int y0_92), (0, .ref (A0 + 703))]) hx hb dX12_readMarket_92 rfl hl (by decide) rfl (fun ls hl => ?_)
            refine lv_iload_n hx hb dX12_readMarket_93 rfl (lv_at hl 0 rfl) ?_
            refine zb_ifeq (tgt := 54) hx hb dX12_readMarket_94 (by decide) h (fun h => ?_) (fun h => ?_)
            · exact ih54 y0_92 σ92 _ _ _ Z (lv_sub hl [1, 0] rfl) h
            · refine lv_aload_n hx hb dX12_readMarket_97 rfl (lv_at hl 1 rfl) ?_
              refine lv_dup hx hb dX12_readMarket_98 rfl ?_
              refine zw_getI F Z zC12 (a := 703) (k := 10) (by decide) zs_703 (by decide) rfl zq1260 (Or.inl rfl) dX12_readMarket_99 ?_
              refine lv_iconst (v := 1) hx hb dX12_readMarket_102 (by decide) ?_
              refine lv_iadd hx hb dX12_readMarket_103 ?_
              refine zw_putI F Z zC12 (a := 703) (k := 10) (by decide) zs_703 (by decide) rfl (by decide) zq1260 (Or.inl rfl) rfl ⟨rfl, rfl⟩ dX12_readMarket_104 (fun σ104 _ _ eσ104 Z => ?_)
              replace h := lt_w h eσ104
              refine lv_goto (tgt := 54) hx hb dX12_readMarket_107 (by decide) ?_
              exact ih54 y0_92 σ104 _ _ _ Z (lv_sub hl [1, 0] rfl) h
          obtain ⟨j91, ej91, h⟩ := lt_x h
          have hj91 : ∀ (σ91 : Mm) (H : Heap) (locs : List Loc) (ls : Array Slot), zh D A0 σ91 GF 740 s.heap H locs → lv_has ls 2 [(0, .ref (A0 + 703))] → j91 σ91 = some σr → W p l e (zR 8 249) s m [.ref (A0 + 703)].toArray below meth c H locs 0 0 (MQ below (zQv D A0 σr GF 740) [.ref (A0 + 703)].toArray s 0 0 (zA A0)) (F0 m 91 ls []) := by
            intro  σ91 H locs ls Z hl h
            rw [ej91] at h
            try dsimp only at h
            refine lv_iconst (v := 0) hx hb dX12_readMarket_91 (by decide) ?_
            exact hj92 0 σ91 _ _ _ Z (lv_sub hl [0] rfl) h
          refine zb_icne (tgt := 91) hx hb dX12_readMarket_75 (by decide) h (fun h => ?_) (fun h => ?_)
          · exact hj91 σ67 _ _ _ Z (lv_sub hl [0] rfl) h
          · refine lv_aload_n hx hb dX12_readMarket_78 rfl (lv_at hl 0 rfl) ?_
            obtain ⟨r79, σ79, hc79, h⟩ := bd2_x h
            refine zc_i Z (zr_V F Z (a := 703) (As := []) (zcX12_look l D A0 σ67 r79 σ79 hc79) zBX12_look zq1514 (by decide) zs_703 zC12.1 rfl ⟨⟨rfl, rfl⟩, Nat.le_of_ble_eq_true rfl, Nat.le_of_ble_eq_true rfl⟩ hl.1 rfl (Nat.le_of_ble_eq_true rfl) dX12_readMarket_79 ⟨Nat.le_of_ble_eq_true rfl, Nat.le_of_ble_eq_true rfl⟩) (fun _ _ Z => ?_)
            refine lv_bipush (v := 59) hx hb dX12_readMarket_82 (by decide) ?_
            refine zb_icne (tgt := 91) hx hb dX12_readMarket_84 (by decide) h (fun h => ?_) (fun h => ?_)
            · exact hj91 σ79 _ _ _ Z (lv_sub hl [0] rfl) h
            · refine lv_iconst (v := 1) hx hb dX12_readMarket_87 (by decide) ?_
              refine lv_goto (tgt := 92) hx hb dX12_readMarket_88 (by decide) ?_
              exact hj92 1 σ79 _ _ _ Z (lv_sub hl [0] rfl) h
  exact hL54 NF 1 σ51 _ _ _ Z (lv_sub hl [1, 0] rfl) h
set_option maxHeartbeats 4000000 in
set_option maxRecDepth 100000 in
theorem zcX12_fault (l : Launch) (D : va_G) (A0 : Nat) (x1 : Int32) (σ : Mm) (r0 : Int32) (σr : Mm) (h : zfX12_fault x1 σ = some (r0, σr)) : Met l yX12_fault (zws yX12_fault cX12_fault 2 (some .int)) (zR 397 14871) (zPc D A0 σ GF 740 [.ref (A0 + 703), .int x1]) (zQi D A0 r0 σr GF 740) 0 0 (zA A0) := by
  unfold zfX12_fault at h
  refine zmet (own := RX12) (by decide) rfl (Nat.le_of_ble_eq_true rfl) ?_
  intro p e s m below meth c F hr hlocks _ Z ls hl
  have hl : lv_has ls 2 [(0, .ref (A0 + 703)), (1, .int x1)] := hl
  have hx := F.1.1
  have hb := F.1.2.1
  have hown := F.1.2.2.2.1
  have hts := F.1.2.2.2.2
  refine lv_aload_n hx hb dX12_fault_0 rfl (lv_at hl 0 rfl) ?_
  refine lv_iconst (v := 0) hx hb dX12_fault_1 (by decide) ?_
  refine zw_putI F Z zC12 (a := 703) (k := 0) (by decide) zs_703 (by decide) rfl (by decide) zq1250 (Or.inl rfl) rfl ⟨rfl, rfl⟩ dX12_fault_2 (fun σ2 _ _ eσ2 Z => ?_)
  replace h := lt_w h eσ2
  refine lv_iload_n hx hb dX12_fault_5 rfl (lv_at hl 1 rfl) ?_
  refine lv_i2l hx hb dX12_fault_6 rfl ?_
  refine lv_lconst (v := 0) hx hb dX12_fault_7 (by decide) ?_
  refine lv_lconst (v := 1) hx hb dX12_fault_8 (by decide) ?_
  refine zc_i Z (zr_S F Z (As := [.long (Int32.toInt64 x1), .long 0, .long 1]) (zcX12_isIn l D A0 (Int32.toInt64 x1) 0 1 σ2 (zfX12_isIn (Int32.toInt64 x1) 0 1) rfl) zBX12_isIn zq1496 rfl ⟨⟨rfl, rfl⟩, Nat.le_of_ble_eq_true rfl, Nat.le_of_ble_eq_true rfl⟩ hl.1 rfl (Nat.le_of_ble_eq_true rfl) dX12_fault_9 ⟨Nat.le_of_ble_eq_true rfl, Nat.le_of_ble_eq_true rfl⟩) (fun _ _ Z => ?_)
  refine zb_ifne (tgt := 18) hx hb dX12_fault_12 (by decide) h (fun h => ?_) (fun h => ?_)
  · refine lv_iload_n hx hb dX12_fault_18 rfl (lv_at hl 1 rfl) ?_
    obtain ⟨j42, ej42, h⟩ := lt_x h
    have hj42 : ∀ (σ42 : Mm) (H : Heap) (locs : List Loc) (ls : Array Slot), zh D A0 σ42 GF 740 s.heap H locs → lv_has ls 2 [(0, .ref (A0 + 703))] → j42 σ42 = some (r0, σr) → W p l e (zR 397 14871) s m [.ref (A0 + 703), .int x1].toArray below meth c H locs 0 0 (MQ below (zQi D A0 r0 σr GF 740) [.ref (A0 + 703), .int x1].toArray s 0 0 (zA A0)) (F0 m 42 ls []) := by
      intro  σ42 H locs ls Z hl h
      rw [ej42] at h
      try dsimp only at h
      refine lv_aload_n hx hb dX12_fault_42 rfl (lv_at hl 0 rfl) ?_
      refine zw_getI F Z zC12 (a := 703) (k := 11) (by decide) zs_703 (by decide) rfl zq1261 (Or.inl rfl) dX12_fault_43 ?_
      obtain ⟨hq1, hq2⟩ := zpq h
      exact ze_i F Z hr hlocks hq1 hq2 dX12_fault_46
    refine zb_ifne (tgt := 29) hx hb dX12_fault_19 (by decide) h (fun h => ?_) (fun h => ?_)
    · refine lv_aload_n hx hb dX12_fault_29 rfl (lv_at hl 0 rfl) ?_
      refine lv_aload_n hx hb dX12_fault_30 rfl (lv_at hl 0 rfl) ?_
      refine zw_getR F Z zC12 (a := 703) (k := 1) (by decide) zs_703 (by decide) rfl zg_703_1 zq1251 (Or.inl rfl) dX12_fault_31 ?_
      refine lv_iconst (v := 0) hx hb dX12_fault_34 (by decide) ?_
      refine lv_aload_n hx hb dX12_fault_35 rfl (lv_at hl 0 rfl) ?_
      refine zw_getI F Z zC12 (a := 703) (k := 6) (by decide) zs_703 (by decide) rfl zq1256 (Or.inl rfl) dX12_fault_36 ?_
      obtain ⟨σ39, hc39, h⟩ := bd_x h
      refine zc_v Z (zr_V F Z (a := 703) (As := [.ref (A0 + 704), .int 0, .int (σ2 703 6)]) (zcX12_goThrough l D A0 704 0 (σ2 703 6) (by decide) σ2 σ39 hc39) zBX12_goThrough zq1548 (by decide) zs_703 zC12.1 rfl ⟨⟨rfl, rfl⟩, Nat.le_of_ble_eq_true rfl, Nat.le_of_ble_eq_true rfl⟩ hl.1 rfl (Nat.le_of_ble_eq_true rfl) dX12_fault_39 ⟨Nat.le_of_ble_eq_true rfl, Nat.le_of_ble_eq_true rfl⟩) (fun _ _ Z => ?_)
      exact hj42 σ39 _ _ _ Z (lv_sub hl [0] rfl) h
    · refine lv_aload_n hx hb dX12_fault_22 rfl (lv_at hl 0 rfl) ?_
      obtain ⟨σ23, hc23, h⟩ := bd_x h
      refine zc_v Z (zr_V F Z (a := 703) (As := []) (zcX12_readMarket l D A0 σ2 σ23 hc23) zBX12_readMarket zq1499 (by decide) zs_703 zC12.1 rfl ⟨⟨rfl, rfl⟩, Nat.le_of_ble_eq_true rfl, Nat.le_of_ble_eq_true rfl⟩ hl.1 rfl (Nat.le_of_ble_eq_true rfl) dX12_fault_23 ⟨Nat.le_of_ble_eq_true rfl, Nat.le_of_ble_eq_true rfl⟩) (fun _ _ Z => ?_)
      refine lv_goto (tgt := 42) hx hb dX12_fault_26 (by decide) ?_
      exact hj42 σ23 _ _ _ Z (lv_sub hl [0] rfl) h
  · refine lv_bipush (v := (-2)) hx hb dX12_fault_15 (by decide) ?_
    obtain ⟨hq1, hq2⟩ := zpq h
    exact ze_i F Z hr hlocks hq1 hq2 dX12_fault_17
set_option maxHeartbeats 4000000 in
set_option maxRecDepth 100000 in
theorem zcX12_text (l : Launch) (D : va_G) (A0 : Nat) (x1 : Int32) (σ : Mm) (r0 : Int32) (σr : Mm) (h : zfX12_text x1 σ = some (r0, σr)) : Met l yX12_text (zws yX12_text cX12_text 4 (some .int)) (zR 398 14892) (zPc D A0 σ GF 740 [.ref (A0 + 703), .int x1]) (zQi D A0 r0 σr GF 740) 0 0 (zA A0) := by
  unfold zfX12_text at h
  refine zmet (own := RX12) (by decide) rfl (Nat.le_of_ble_eq_true rfl) ?_
  intro p e s m below meth c F hr hlocks _ Z ls hl
  have hl : lv_has ls 4 [(0, .ref (A0 + 703)), (1, .int x1)] := hl
  have hx := F.1.1
  have hb := F.1.2.1
  have hown := F.1.2.2.2.1
  have hts := F.1.2.2.2.2
  refine lv_aload_n hx hb dX12_text_0 rfl (lv_at hl 0 rfl) ?_
  refine lv_iconst (v := 0) hx hb dX12_text_1 (by decide) ?_
  refine zw_putI F Z zC12 (a := 703) (k := 0) (by decide) zs_703 (by decide) rfl (by decide) zq1250 (Or.inl rfl) rfl ⟨rfl, rfl⟩ dX12_text_2 (fun σ2 _ _ eσ2 Z => ?_)
  replace h := lt_w h eσ2
  refine lv_iload_n hx hb dX12_text_5 rfl (lv_at hl 1 rfl) ?_
  refine lv_i2l hx hb dX12_text_6 rfl ?_
  refine lv_lconst (v := 0) hx hb dX12_text_7 (by decide) ?_
  refine lv_lconst (v := 1) hx hb dX12_text_8 (by decide) ?_
  refine zc_i Z (zr_S F Z (As := [.long (Int32.toInt64 x1), .long 0, .long 1]) (zcX12_isIn l D A0 (Int32.toInt64 x1) 0 1 σ2 (zfX12_isIn (Int32.toInt64 x1) 0 1) rfl) zBX12_isIn zq1496 rfl ⟨⟨rfl, rfl⟩, Nat.le_of_ble_eq_true rfl, Nat.le_of_ble_eq_true rfl⟩ hl.1 rfl (Nat.le_of_ble_eq_true rfl) dX12_text_9 ⟨Nat.le_of_ble_eq_true rfl, Nat.le_of_ble_eq_true rfl⟩) (fun _ _ Z => ?_)
  obtain ⟨j37, ej37, h⟩ := lt_x h
  have hj37 : ∀ (σ37 : Mm) (H : Heap) (locs : List Loc) (ls : Array Slot), zh D A0 σ37 GF 740 s.heap H locs → lv_has ls 4 [] → j37 σ37 = some (r0, σr) → W p l e (zR 398 14892) s m [.ref (A0 + 703), .int x1].toArray below meth c H locs 0 0 (MQ below (zQi D A0 r0 σr GF 740) [.ref (A0 + 703), .int x1].toArray s 0 0 (zA A0)) (F0 m 37 ls []) := by
    intro  σ37 H locs ls Z hl h
    rw [ej37] at h
    try dsimp only at h
    refine lv_iconst (v := (-1)) hx hb dX12_text_37 (by decide) ?_
    obtain ⟨hq1, hq2⟩ := zpq h
    exact ze_i F Z hr hlocks hq1 hq2 dX12_text_38
  refine zb_ifeq (tgt := 37) hx hb dX12_text_12 (by decide) h (fun h => ?_) (fun h => ?_)
  · exact hj37 σ2 _ _ _ Z (lv_sub hl [] rfl) h
  · refine lv_iload_n hx hb dX12_text_15 rfl (lv_at hl 1 rfl) ?_
    refine lv_iconst (v := 1) hx hb dX12_text_16 (by decide) ?_
    obtain ⟨j28, ej28, h⟩ := lt_x h
    have hj28 : ∀ (σ28 : Mm) (H : Heap) (locs : List Loc) (ls : Array Slot), zh D A0 σ28 GF 740 s.heap H locs → lv_has ls 4 [(0, .ref (A0 + 703)), (1, .int x1)] → j28 σ28 = some (r0, σr) → W p l e (zR 398 14892) s m [.ref (A0 + 703), .int x1].toArray below meth c H locs 0 0 (MQ below (zQi D A0 r0 σr GF 740) [.ref (A0 + 703), .int x1].toArray s 0 0 (zA A0)) (F0 m 28 ls []) := by
      intro  σ28 H locs ls Z hl h
      rw [ej28] at h
      try dsimp only at h
      refine lv_aload_n hx hb dX12_text_28 rfl (lv_at hl 0 rfl) ?_
      refine lv_iload_n hx hb dX12_text_29 rfl (lv_at hl 1 rfl) ?_
      obtain ⟨r30, σ30, hc30, h⟩ := bd2_x h
      refine zc_i Z (zr_V F Z (a := 703) (As := [.int x1]) (zcX12_fault l D A0 x1 σ28 r30 σ30 hc30) zBX12_fault zq1609 (by decide) zs_703 zC12.1 rfl ⟨⟨rfl, rfl⟩, Nat.le_of_ble_eq_true rfl, Nat.le_of_ble_eq_true rfl⟩ hl.1 rfl (Nat.le_of_ble_eq_true rfl) dX12_text_30 ⟨Nat.le_of_ble_eq_true rfl, Nat.le_of_ble_eq_true rfl⟩) (fun _ _ Z => ?_)
      refine lv_iconst (v := (-1)) hx hb dX12_text_33 (by decide) ?_
      refine zb_iceq (tgt := 39) hx hb dX12_text_34 (by decide) h (fun h => ?_) (fun h => ?_)
      · refine lv_aload_n hx hb dX12_text_39 rfl (lv_at hl 0 rfl) ?_
        refine zw_getI F Z zC12 (a := 703) (k := 6) (by decide) zs_703 (by decide) rfl zq1256 (Or.inl rfl) dX12_text_40 ?_
        refine lv_topi (fun x2_43 ex2_43 => ?_)
        replace h := lt_w h ex2_43
        refine lv_istore_n (lv' := [(2, .int x2_43), (0, .ref (A0 + 703)), (1, .int x1)]) hx hb dX12_text_43 rfl hl (by decide) rfl (fun ls hl => ?_)
        refine lv_aload_n hx hb dX12_text_44 rfl (lv_at hl 1 rfl) ?_
        refine lv_iconst (v := 0) hx hb dX12_text_45 (by decide) ?_
        refine zw_putI F Z zC12 (a := 703) (k := 6) (by decide) zs_703 (by decide) rfl (by decide) zq1256 (Or.inl rfl) rfl ⟨rfl, rfl⟩ dX12_text_46 (fun σ46 _ _ eσ46 Z => ?_)
        replace h := lt_w h eσ46
        refine lv_iload_n hx hb dX12_text_49 rfl (lv_at hl 2 rfl) ?_
        refine lv_iconst (v := 1) hx hb dX12_text_50 (by decide) ?_
        refine zb_icne (tgt := 115) hx hb dX12_text_51 (by decide) h (fun h => ?_) (fun h => ?_)
        · refine lv_aload_n hx hb dX12_text_115 rfl (lv_at hl 1 rfl) ?_
          refine lv_aload_n hx hb dX12_text_116 rfl (lv_at hl 1 rfl) ?_
          refine zw_getI F Z zC12 (a := 703) (k := 26) (by decide) zs_703 (by decide) rfl zq1276 (Or.inl rfl) dX12_text_117 ?_
          refine zw_putI F Z zC12 (a := 703) (k := 24) (by decide) zs_703 (by decide) rfl (by decide) zq1274 (Or.inl rfl) rfl ⟨rfl, rfl⟩ dX12_text_120 (fun σ120 _ _ eσ120 Z => ?_)
          replace h := lt_w h eσ120
          refine lv_aload_n hx hb dX12_text_123 rfl (lv_at hl 1 rfl) ?_
          refine lv_aload_n hx hb dX12_text_124 rfl (lv_at hl 1 rfl) ?_
          refine zw_getI F Z zC12 (a := 703) (k := 27) (by decide) zs_703 (by decide) rfl zq1277 (Or.inl rfl) dX12_text_125 ?_
          refine zw_putI F Z zC12 (a := 703) (k := 25) (by decide) zs_703 (by decide) rfl (by decide) zq1275 (Or.inl rfl) rfl ⟨rfl, rfl⟩ dX12_text_128 (fun σ128 _ _ eσ128 Z => ?_)
          replace h := lt_w h eσ128
          refine lv_iconst (v := 0) hx hb dX12_text_131 (by decide) ?_
          refine lv_istore_n (lv' := [(3, .int 0), (2, .int x2_43), (0, .ref (A0 + 703)), (1, .int x1)]) hx hb dX12_text_132 rfl hl (by decide) rfl (fun ls hl => ?_)
          obtain ⟨k157, ek157, h⟩ := lt_x h
          have hk157 : ∀ (σ157 : Mm) (H : Heap) (locs : List Loc) (ls : Array Slot), zh D A0 σ157 GF 740 s.heap H locs → lv_has ls 4 [(0, .ref (A0 + 703))] → k157 σ157 = some (r0, σr) → W p l e (zR 398 14892) s m [.ref (A0 + 703), .int x1].toArray below meth c H locs 0 0 (MQ below (zQi D A0 r0 σr GF 740) [.ref (A0 + 703), .int x1].toArray s 0 0 (zA A0)) (F0 m 157 ls []) := by
            intro  σ157 H locs ls Z hl h
            rw [ek157] at h
            try dsimp only at h
            refine lv_iconst (v := 0) hx hb dX12_text_157 (by decide) ?_
            refine lv_istore_n (lv' := [(3, .int 0), (0, .ref (A0 + 703))]) hx hb dX12_text_158 rfl hl (by decide) rfl (fun ls hl => ?_)
            obtain ⟨k183, ek183, h⟩ := lt_x h
            have hk183 : ∀ (σ183 : Mm) (H : Heap) (locs : List Loc) (ls : Array Slot), zh D A0 σ183 GF 740 s.heap H locs → lv_has ls 4 [(0, .ref (A0 + 703))] → k183 σ183 = some (r0, σr) → W p l e (zR 398 14892) s m [.ref (A0 + 703), .int x1].toArray below meth c H locs 0 0 (MQ below (zQi D A0 r0 σr GF 740) [.ref (A0 + 703), .int x1].toArray s 0 0 (zA A0)) (F0 m 183 ls []) := by
              intro  σ183 H locs ls Z hl h
              rw [ek183] at h
              try dsimp only at h
              refine lv_aload_n hx hb dX12_text_183 rfl (lv_at hl 0 rfl) ?_
              refine zw_getR F Z zC12 (a := 703) (k := 20) (by decide) zs_703 (by decide) rfl zg_703_20 zq1270 (Or.inl rfl) dX12_text_184 ?_
              refine lv_iconst (v := 0) hx hb dX12_text_187 (by decide) ?_
              refine lv_aload_n hx hb dX12_text_188 rfl (lv_at hl 0 rfl) ?_
              refine zw_getR F Z zC12 (a := 703) (k := 23) (by decide) zs_703 (by decide) rfl zg_703_23 zq1273 (Or.inl rfl) dX12_text_189 ?_
              refine lv_iconst (v := 0) hx hb dX12_text_192 (by decide) ?_
              refine zw_iald F Z (by decide) zs_713 (by decide) dX12_text_193 ?_
              refine zw_iast F Z (by decide) zs_710 (by decide) dX12_text_194 (fun σ194 _ _ eσ194 Z => ?_)
              replace h := lt_w h eσ194
              refine lv_aload_n hx hb dX12_text_195 rfl (lv_at hl 0 rfl) ?_
              refine zw_getR F Z zC12 (a := 703) (k := 20) (by decide) zs_703 (by decide) rfl zg_703_20 zq1270 (Or.inl rfl) dX12_text_196 ?_
              refine lv_iconst (v := 1) hx hb dX12_text_199 (by decide) ?_
              refine lv_aload_n hx hb dX12_text_200 rfl (lv_at hl 0 rfl) ?_
              refine zw_getR F Z zC12 (a := 703) (k := 23) (by decide) zs_703 (by decide) rfl zg_703_23 zq1273 (Or.inl rfl) dX12_text_201 ?_
              refine lv_iconst (v := 1) hx hb dX12_text_204 (by decide) ?_
              refine zw_iald F Z (by decide) zs_713 (by decide) dX12_text_205 ?_
              refine zw_iast F Z (by decide) zs_710 (by decide) dX12_text_206 (fun σ206 _ _ eσ206 Z => ?_)
              replace h := lt_w h eσ206
              refine lv_iconst (v := 0) hx hb dX12_text_207 (by decide) ?_
              refine lv_istore_n (lv' := [(3, .int 0), (0, .ref (A0 + 703))]) hx hb dX12_text_208 rfl hl (by decide) rfl (fun ls hl => ?_)
              obtain ⟨k228, ek228, h⟩ := lt_x h
              have hk228 : ∀ (σ228 : Mm) (H : Heap) (locs : List Loc) (ls : Array Slot), zh D A0 σ228 GF 740 s.heap H locs → lv_has ls 4 [(0, .ref (A0 + 703))] → k228 σ228 = some (r0, σr) → W p l e (zR 398 14892) s m [.ref (A0 + 703), .int x1].toArray below meth c H locs 0 0 (MQ below (zQi D A0 r0 σr GF 740) [.ref (A0 + 703), .int x1].toArray s 0 0 (zA A0)) (F0 m 228 ls []) := by
                intro  σ228 H locs ls Z hl h
                rw [ek228] at h
                try dsimp only at h
                refine lv_iconst (v := 0) hx hb dX12_text_228 (by decide) ?_
                refine lv_istore_n (lv' := [(3, .int 0), (0, .ref (A0 + 703))]) hx hb dX12_text_229 rfl hl (by decide) rfl (fun ls hl => ?_)
                obtain ⟨k258, ek258, h⟩ := lt_x h
                have hk258 : ∀ (σ258 : Mm) (H : Heap) (locs : List Loc) (ls : Array Slot), zh D A0 σ258 GF 740 s.heap H locs → lv_has ls 4 [(0, .ref (A0 + 703))] → k258 σ258 = some (r0, σr) → W p l e (zR 398 14892) s m [.ref (A0 + 703), .int x1].toArray below meth c H locs 0 0 (MQ below (zQi D A0 r0 σr GF 740) [.ref (A0 + 703), .int x1].toArray s 0 0 (zA A0)) (F0 m 258 ls []) := by
                  intro  σ258 H locs ls Z hl h
                  rw [ek258] at h
                  try dsimp only at h
                  refine lv_aload_n hx hb dX12_text_258 rfl (lv_at hl 0 rfl) ?_
                  refine zw_getR F Z zC12 (a := 703) (k := 29) (by decide) zs_703 (by decide) rfl zg_703_29 zq1279 (Or.inl rfl) dX12_text_259 ?_
                  refine lv_bipush (v := 54) hx hb dX12_text_262 (by decide) ?_
                  refine lv_aload_n hx hb dX12_text_264 rfl (lv_at hl 0 rfl) ?_
                  refine zw_getR F Z zC12 (a := 703) (k := 20) (by decide) zs_703 (by decide) rfl zg_703_20 zq1270 (Or.inl rfl) dX12_text_265 ?_
                  refine lv_iconst (v := 1) hx hb dX12_text_268 (by decide) ?_
                  refine zw_iald F Z (by decide) zs_710 (by decide) dX12_text_269 ?_
                  refine zw_iast F Z (by decide) zs_714 (by decide) dX12_text_270 (fun σ270 _ _ eσ270 Z => ?_)
                  replace h := lt_w h eσ270
                  refine lv_aload_n hx hb dX12_text_271 rfl (lv_at hl 0 rfl) ?_
                  refine lv_iconst (v := 0) hx hb dX12_text_272 (by decide) ?_
                  refine zw_putI F Z zC12 (a := 703) (k := 32) (by decide) zs_703 (by decide) rfl (by decide) zq1282 (Or.inl rfl) rfl ⟨rfl, rfl⟩ dX12_text_273 (fun σ273 _ _ eσ273 Z => ?_)
                  replace h := lt_w h eσ273
                  refine lv_aload_n hx hb dX12_text_276 rfl (lv_at hl 0 rfl) ?_
                  refine lv_iconst (v := 0) hx hb dX12_text_277 (by decide) ?_
                  refine zw_putI F Z zC12 (a := 703) (k := 62) (by decide) zs_703 (by decide) rfl (by decide) zq1312 (Or.inl rfl) rfl ⟨rfl, rfl⟩ dX12_text_278 (fun σ278 _ _ eσ278 Z => ?_)
                  replace h := lt_w h eσ278
                  refine lv_aload_n hx hb dX12_text_281 rfl (lv_at hl 0 rfl) ?_
                  refine lv_iconst (v := 0) hx hb dX12_text_282 (by decide) ?_
                  refine zw_putI F Z zC12 (a := 703) (k := 66) (by decide) zs_703 (by decide) rfl (by decide) zq1316 (Or.inl rfl) rfl ⟨rfl, rfl⟩ dX12_text_283 (fun σ283 _ _ eσ283 Z => ?_)
                  replace h := lt_w h eσ283
                  refine lv_aload_n hx hb dX12_text_286 rfl (lv_at hl 0 rfl) ?_
                  refine lv_iconst (v := 0) hx hb dX12_text_287 (by decide) ?_
                  refine zw_putI F Z zC12 (a := 703) (k := 73) (by decide) zs_703 (by decide) rfl (by decide) zq1323 (Or.inl rfl) rfl (z_nb (by decide)) dX12_text_288 (fun σ288 _ _ eσ288 Z => ?_)
                  replace h := lt_w h eσ288
                  refine lv_aload_n hx hb dX12_text_291 rfl (lv_at hl 0 rfl) ?_
                  refine zw_getI F Z zC12 (a := 703) (k := 24) (by decide) zs_703 (by decide) rfl zq1274 (Or.inl rfl) dX12_text_292 ?_
                  obtain ⟨hq1, hq2⟩ := zpq h
                  exact ze_i F Z hr hlocks hq1 hq2 dX12_text_295
                have hL230 : ∀ (fu230 : Nat) (x3_230 : Int32) (σ230 : Mm) (H : Heap) (locs : List Loc) (ls : Array Slot), zh D A0 σ230 GF 740 s.heap H locs → lv_has ls 4 [(0, .ref (A0 + 703)), (3, .int x3_230)] → zfX12_text_L230 k258 fu230 x3_230 σ230 = some (r0, σr) → W p l e (zR 398 14892) s m [.ref (A0 + 703), .int x1].toArray below meth c H locs 0 0 (MQ below (zQi D A0 r0 σr GF 740) [.ref (A0 + 703), .int x1].toArray s 0 0 (zA A0)) (F0 m 230 ls []) := by
                  intro fu230
                  induction fu230 with
                  | zero => intro x3_230 σ230 H locs ls Z hl h; rw [zfX12_text_L230] at h; cases h
                  | succ fu230 ih230 =>
                    intro x3_230 σ230 H locs ls Z hl h
                    rw [zfX12_text_L230] at h
                    refine lv_iload_n hx hb dX12_text_230 rfl (lv_at hl 1 rfl) ?_
                    refine lv_iconst (v := 5) hx hb dX12_text_231 (by decide) ?_
                    refine zb_icge (tgt := 258) hx hb dX12_text_232 (by decide) h (fun h => ?_) (fun h => ?_)
                    · exact hk258 σ230 _ _ _ Z (lv_sub hl [0] rfl) h
                    · refine lv_aload_n hx hb dX12_text_235 rfl (lv_at hl 0 rfl) ?_
                      refine zw_getR F Z zC12 (a := 703) (k := 29) (by decide) zs_703 (by decide) rfl zg_703_29 zq1279 (Or.inl rfl) dX12_text_236 ?_
                      refine lv_bipush (v := 18) hx hb dX12_text_239 (by decide) ?_
                      refine lv_iload_n hx hb dX12_text_241 rfl (lv_at hl 1 rfl) ?_
                      refine lv_iadd hx hb dX12_text_242 ?_
                      refine lv_iconst (v := (-1)) hx hb dX12_text_243 (by decide) ?_
                      obtain ⟨hk244, h⟩ := ck_x h
                      refine zw_iast F Z (by decide) zs_714 hk244 dX12_text_244 (fun σ244 _ _ eσ244 Z => ?_)
                      replace h := lt_w h eσ244
                      refine lv_aload_n hx hb dX12_text_245 rfl (lv_at hl 0 rfl) ?_
                      refine zw_getR F Z zC12 (a := 703) (k := 31) (by decide) zs_703 (by decide) rfl zg_703_31 zq1281 (Or.inl rfl) dX12_text_246 ?_
                      refine lv_iload_n hx hb dX12_text_249 rfl (lv_at hl 1 rfl) ?_
                      refine lv_iconst (v := (-1)) hx hb dX12_text_250 (by decide) ?_
                      obtain ⟨hk251, h⟩ := ck_x h
                      refine zw_iast F Z (by decide) zs_716 hk251 dX12_text_251 (fun σ251 _ _ eσ251 Z => ?_)
                      replace h := lt_w h eσ251
                      obtain ⟨x3_252, ex3_252⟩ : ∃ y : Int32, y = x3_230 + 1 := ⟨_, rfl⟩
                      replace h := lt_w h ex3_252
                      refine lv_iinc (v := x3_252) (lv' := [(3, .int x3_252), (0, .ref (A0 + 703))]) hx hb dX12_text_252 hl (k := 1) rfl (by rw [ex3_252]; rfl) (by decide) rfl (fun ls hl => ?_)
                      refine lv_goto (tgt := 230) hx hb dX12_text_255 (by decide) ?_
                      exact ih230 x3_252 σ251 _ _ _ Z (lv_sub hl [1, 0] rfl) h
                exact hL230 NF 0 σ228 _ _ _ Z (lv_sub hl [1, 0] rfl) h
              have hL209 : ∀ (fu209 : Nat) (x3_209 : Int32) (σ209 : Mm) (H : Heap) (locs : List Loc) (ls : Array Slot), zh D A0 σ209 GF 740 s.heap H locs → lv_has ls 4 [(0, .ref (A0 + 703)), (3, .int x3_209)] → zfX12_text_L209 k228 fu209 x3_209 σ209 = some (r0, σr) → W p l e (zR 398 14892) s m [.ref (A0 + 703), .int x1].toArray below meth c H locs 0 0 (MQ below (zQi D A0 r0 σr GF 740) [.ref (A0 + 703), .int x1].toArray s 0 0 (zA A0)) (F0 m 209 ls []) := by
                intro fu209
                induction fu209 with
                | zero => intro x3_209 σ209 H locs ls Z hl h; rw [zfX12_text_L209] at h; cases h
                | succ fu209 ih209 =>
                  intro x3_209 σ209 H locs ls Z hl h
                  rw [zfX12_text_L209] at h
                  refine lv_iload_n hx hb dX12_text_209 rfl (lv_at hl 1 rfl) ?_
                  refine lv_bipush (v := 57) hx hb dX12_text_210 (by decide) ?_
                  refine zb_icge (tgt := 228) hx hb dX12_text_212 (by decide) h (fun h => ?_) (fun h => ?_)
                  · exact hk228 σ209 _ _ _ Z (lv_sub hl [0] rfl) h
                  · refine lv_aload_n hx hb dX12_text_215 rfl (lv_at hl 0 rfl) ?_
                    refine zw_getR F Z zC12 (a := 703) (k := 29) (by decide) zs_703 (by decide) rfl zg_703_29 zq1279 (Or.inl rfl) dX12_text_216 ?_
                    refine lv_iload_n hx hb dX12_text_219 rfl (lv_at hl 1 rfl) ?_
                    refine lv_iconst (v := 0) hx hb dX12_text_220 (by decide) ?_
                    obtain ⟨hk221, h⟩ := ck_x h
                    refine zw_iast F Z (by decide) zs_714 hk221 dX12_text_221 (fun σ221 _ _ eσ221 Z => ?_)
                    replace h := lt_w h eσ221
                    obtain ⟨x3_222, ex3_222⟩ : ∃ y : Int32, y = x3_209 + 1 := ⟨_, rfl⟩
                    replace h := lt_w h ex3_222
                    refine lv_iinc (v := x3_222) (lv' := [(3, .int x3_222), (0, .ref (A0 + 703))]) hx hb dX12_text_222 hl (k := 1) rfl (by rw [ex3_222]; rfl) (by decide) rfl (fun ls hl => ?_)
                    refine lv_goto (tgt := 209) hx hb dX12_text_225 (by decide) ?_
                    exact ih209 x3_222 σ221 _ _ _ Z (lv_sub hl [1, 0] rfl) h
              exact hL209 NF 0 σ206 _ _ _ Z (lv_sub hl [1, 0] rfl) h
            have hL159 : ∀ (fu159 : Nat) (x3_159 : Int32) (σ159 : Mm) (H : Heap) (locs : List Loc) (ls : Array Slot), zh D A0 σ159 GF 740 s.heap H locs → lv_has ls 4 [(0, .ref (A0 + 703)), (3, .int x3_159)] → zfX12_text_L159 k183 fu159 x3_159 σ159 = some (r0, σr) → W p l e (zR 398 14892) s m [.ref (A0 + 703), .int x1].toArray below meth c H locs 0 0 (MQ below (zQi D A0 r0 σr GF 740) [.ref (A0 + 703), .int x1].toArray s 0 0 (zA A0)) (F0 m 159 ls []) := by
              intro fu159
              induction fu159 with
              | zero => intro x3_159 σ159 H locs ls Z hl h; rw [zfX12_text_L159] at h; cases h
              | succ fu159 ih159 =>
                intro x3_159 σ159 H locs ls Z hl h
                rw [zfX12_text_L159] at h
                refine lv_iload_n hx hb dX12_text_159 rfl (lv_at hl 1 rfl) ?_
                refine lv_bipush (v := 18) hx hb dX12_text_160 (by decide) ?_
                refine zb_icge (tgt := 183) hx hb dX12_text_162 (by decide) h (fun h => ?_) (fun h => ?_)
                · exact hk183 σ159 _ _ _ Z (lv_sub hl [0] rfl) h
                · refine lv_aload_n hx hb dX12_text_165 rfl (lv_at hl 0 rfl) ?_
                  refine zw_getR F Z zC12 (a := 703) (k := 19) (by decide) zs_703 (by decide) rfl zg_703_19 zq1269 (Or.inl rfl) dX12_text_166 ?_
                  refine lv_iload_n hx hb dX12_text_169 rfl (lv_at hl 1 rfl) ?_
                  refine lv_aload_n hx hb dX12_text_170 rfl (lv_at hl 0 rfl) ?_
                  refine zw_getR F Z zC12 (a := 703) (k := 22) (by decide) zs_703 (by decide) rfl zg_703_22 zq1272 (Or.inl rfl) dX12_text_171 ?_
                  refine lv_iload_n hx hb dX12_text_174 rfl (lv_at hl 1 rfl) ?_
                  obtain ⟨hk175, h⟩ := ck_x h
                  refine zw_iald F Z (by decide) zs_712 hk175 dX12_text_175 ?_
                  obtain ⟨hk176, h⟩ := ck_x h
                  refine zw_iast F Z (by decide) zs_709 hk176 dX12_text_176 (fun σ176 _ _ eσ176 Z => ?_)
                  replace h := lt_w h eσ176
                  obtain ⟨x3_177, ex3_177⟩ : ∃ y : Int32, y = x3_159 + 1 := ⟨_, rfl⟩
                  replace h := lt_w h ex3_177
                  refine lv_iinc (v := x3_177) (lv' := [(3, .int x3_177), (0, .ref (A0 + 703))]) hx hb dX12_text_177 hl (k := 1) rfl (by rw [ex3_177]; rfl) (by decide) rfl (fun ls hl => ?_)
                  refine lv_goto (tgt := 159) hx hb dX12_text_180 (by decide) ?_
                  exact ih159 x3_177 σ176 _ _ _ Z (lv_sub hl [1, 0] rfl) h
            exact hL159 NF 0 σ157 _ _ _ Z (lv_sub hl [1, 0] rfl) h
          have hL133 : ∀ (fu133 : Nat) (x3_133 : Int32) (σ133 : Mm) (H : Heap) (locs : List Loc) (ls : Array Slot), zh D A0 σ133 GF 740 s.heap H locs → lv_has ls 4 [(0, .ref (A0 + 703)), (3, .int x3_133)] → zfX12_text_L133 k157 fu133 x3_133 σ133 = some (r0, σr) → W p l e (zR 398 14892) s m [.ref (A0 + 703), .int x1].toArray below meth c H locs 0 0 (MQ below (zQi D A0 r0 σr GF 740) [.ref (A0 + 703), .int x1].toArray s 0 0 (zA A0)) (F0 m 133 ls []) := by
            intro fu133
            induction fu133 with
            | zero => intro x3_133 σ133 H locs ls Z hl h; rw [zfX12_text_L133] at h; cases h
            | succ fu133 ih133 =>
              intro x3_133 σ133 H locs ls Z hl h
              rw [zfX12_text_L133] at h
              refine lv_iload_n hx hb dX12_text_133 rfl (lv_at hl 1 rfl) ?_
              refine lv_bipush (v := 15) hx hb dX12_text_134 (by decide) ?_
              refine zb_icge (tgt := 157) hx hb dX12_text_136 (by decide) h (fun h => ?_) (fun h => ?_)
              · exact hk157 σ133 _ _ _ Z (lv_sub hl [0] rfl) h
              · refine lv_aload_n hx hb dX12_text_139 rfl (lv_at hl 0 rfl) ?_
                refine zw_getR F Z zC12 (a := 703) (k := 18) (by decide) zs_703 (by decide) rfl zg_703_18 zq1268 (Or.inl rfl) dX12_text_140 ?_
                refine lv_iload_n hx hb dX12_text_143 rfl (lv_at hl 1 rfl) ?_
                refine lv_aload_n hx hb dX12_text_144 rfl (lv_at hl 0 rfl) ?_
                refine zw_getR F Z zC12 (a := 703) (k := 21) (by decide) zs_703 (by decide) rfl zg_703_21 zq1271 (Or.inl rfl) dX12_text_145 ?_
                refine lv_iload_n hx hb dX12_text_148 rfl (lv_at hl 1 rfl) ?_
                obtain ⟨hk149, h⟩ := ck_x h
                refine zw_iald F Z (by decide) zs_711 hk149 dX12_text_149 ?_
                obtain ⟨hk150, h⟩ := ck_x h
                refine zw_iast F Z (by decide) zs_708 hk150 dX12_text_150 (fun σ150 _ _ eσ150 Z => ?_)
                replace h := lt_w h eσ150
                obtain ⟨x3_151, ex3_151⟩ : ∃ y : Int32, y = x3_133 + 1 := ⟨_, rfl⟩
                replace h := lt_w h ex3_151
                refine lv_iinc (v := x3_151) (lv' := [(3, .int x3_151), (0, .ref (A0 + 703))]) hx hb dX12_text_151 hl (k := 1) rfl (by rw [ex3_151]; rfl) (by decide) rfl (fun ls hl => ?_)
                refine lv_goto (tgt := 133) hx hb dX12_text_154 (by decide) ?_
                exact ih133 x3_151 σ150 _ _ _ Z (lv_sub hl [1, 0] rfl) h
          exact hL133 NF 0 σ128 _ _ _ Z (lv_sub hl [2, 0] rfl) h
        · refine lv_iconst (v := 0) hx hb dX12_text_54 (by decide) ?_
          refine lv_istore_n (lv' := [(3, .int 0), (2, .int x2_43), (0, .ref (A0 + 703)), (1, .int x1)]) hx hb dX12_text_55 rfl hl (by decide) rfl (fun ls hl => ?_)
          obtain ⟨k88, ek88, h⟩ := lt_x h
          have hk88 : ∀ (σ88 : Mm) (H : Heap) (locs : List Loc) (ls : Array Slot), zh D A0 σ88 GF 740 s.heap H locs → lv_has ls 4 [(0, .ref (A0 + 703)), (2, .int x2_43)] → k88 σ88 = some (r0, σr) → W p l e (zR 398 14892) s m [.ref (A0 + 703), .int x1].toArray below meth c H locs 0 0 (MQ below (zQi D A0 r0 σr GF 740) [.ref (A0 + 703), .int x1].toArray s 0 0 (zA A0)) (F0 m 88 ls []) := by
            intro  σ88 H locs ls Z hl h
            rw [ek88] at h
            try dsimp only at h
            refine lv_aload_n hx hb dX12_text_88 rfl (lv_at hl 0 rfl) ?_
            refine zw_getR F Z zC12 (a := 703) (k := 3) (by decide) zs_703 (by decide) rfl zg_703_3 zq1253 (Or.inl rfl) dX12_text_89 ?_
            refine lv_aload_n hx hb dX12_text_92 rfl (lv_at hl 0 rfl) ?_
            refine zw_getI F Z zC12 (a := 703) (k := 7) (by decide) zs_703 (by decide) rfl zq1257 (Or.inl rfl) dX12_text_93 ?_
            refine lv_iload_n hx hb dX12_text_96 rfl (lv_at hl 1 rfl) ?_
            obtain ⟨hk97, h⟩ := ck_x h
            refine zw_iast F Z (by decide) zs_706 hk97 dX12_text_97 (fun σ97 _ _ eσ97 Z => ?_)
            replace h := lt_w h eσ97
            refine lv_aload_n hx hb dX12_text_98 rfl (lv_at hl 0 rfl) ?_
            refine lv_dup hx hb dX12_text_99 rfl ?_
            refine zw_getI F Z zC12 (a := 703) (k := 7) (by decide) zs_703 (by decide) rfl zq1257 (Or.inl rfl) dX12_text_100 ?_
            refine lv_iconst (v := 1) hx hb dX12_text_103 (by decide) ?_
            refine lv_iadd hx hb dX12_text_104 ?_
            refine zw_putI F Z zC12 (a := 703) (k := 7) (by decide) zs_703 (by decide) rfl (by decide) zq1257 (Or.inl rfl) rfl ⟨rfl, rfl⟩ dX12_text_105 (fun σ105 _ _ eσ105 Z => ?_)
            replace h := lt_w h eσ105
            refine lv_aload_n hx hb dX12_text_108 rfl (lv_at hl 0 rfl) ?_
            refine zw_getI F Z zC12 (a := 703) (k := 7) (by decide) zs_703 (by decide) rfl zq1257 (Or.inl rfl) dX12_text_109 ?_
            refine lv_iconst (v := 1) hx hb dX12_text_112 (by decide) ?_
            refine lv_isub hx hb dX12_text_113 ?_
            obtain ⟨hq1, hq2⟩ := zpq h
            exact ze_i F Z hr hlocks hq1 hq2 dX12_text_114
          have hL56 : ∀ (fu56 : Nat) (x3_56 : Int32) (σ56 : Mm) (H : Heap) (locs : List Loc) (ls : Array Slot), zh D A0 σ56 GF 740 s.heap H locs → lv_has ls 4 [(0, .ref (A0 + 703)), (2, .int x2_43), (3, .int x3_56)] → zfX12_text_L56 x2_43 k88 fu56 x3_56 σ56 = some (r0, σr) → W p l e (zR 398 14892) s m [.ref (A0 + 703), .int x1].toArray below meth c H locs 0 0 (MQ below (zQi D A0 r0 σr GF 740) [.ref (A0 + 703), .int x1].toArray s 0 0 (zA A0)) (F0 m 56 ls []) := by
            intro fu56
            induction fu56 with
            | zero => intro x3_56 σ56 H locs ls Z hl h; rw [zfX12_text_L56] at h; cases h
            | succ fu56 ih56 =>
              intro x3_56 σ56 H locs ls Z hl h
              rw [zfX12_text_L56] at h
              refine lv_iload_n hx hb dX12_text_56 rfl (lv_at hl 2 rfl) ?_
              refine lv_iload_n hx hb dX12_text_57 rfl (lv_at hl 1 rfl) ?_
              refine zb_icge (tgt := 88) hx hb dX12_text_58 (by decide) h (fun h => ?_) (fun h => ?_)
              · exact hk88 σ56 _ _ _ Z (lv_sub hl [0, 1] rfl) h
              · refine lv_aload_n hx hb dX12_text_61 rfl (lv_at hl 0 rfl) ?_
                refine zw_getR F Z zC12 (a := 703) (k := 2) (by decide) zs_703 (by decide) rfl zg_703_2 zq1252 (Or.inl rfl) dX12_text_62 ?_
                refine lv_sipush (v := 160) hx hb dX12_text_65 (by decide) ?_
                refine lv_aload_n hx hb dX12_text_68 rfl (lv_at hl 0 rfl) ?_
                refine zw_getI F Z zC12 (a := 703) (k := 7) (by decide) zs_703 (by decide) rfl zq1257 (Or.inl rfl) dX12_text_69 ?_
                refine lv_imul hx hb dX12_text_72 ?_
                refine lv_iload_n hx hb dX12_text_73 rfl (lv_at hl 2 rfl) ?_
                refine lv_iadd hx hb dX12_text_74 ?_
                refine lv_aload_n hx hb dX12_text_75 rfl (lv_at hl 0 rfl) ?_
                refine zw_getR F Z zC12 (a := 703) (k := 1) (by decide) zs_703 (by decide) rfl zg_703_1 zq1251 (Or.inl rfl) dX12_text_76 ?_
                refine lv_iload_n hx hb dX12_text_79 rfl (lv_at hl 2 rfl) ?_
                obtain ⟨hk80, h⟩ := ck_x h
                refine zw_bald F Z (by decide) zs_704 hk80 dX12_text_80 ?_
                obtain ⟨hk81, h⟩ := ck_x h
                refine zw_bast F Z (by decide) zs_705 hk81 dX12_text_81 (fun σ81 _ _ eσ81 Z => ?_)
                replace h := lt_w h eσ81
                obtain ⟨x3_82, ex3_82⟩ : ∃ y : Int32, y = x3_56 + 1 := ⟨_, rfl⟩
                replace h := lt_w h ex3_82
                refine lv_iinc (v := x3_82) (lv' := [(3, .int x3_82), (0, .ref (A0 + 703)), (2, .int x2_43)]) hx hb dX12_text_82 hl (k := 2) rfl (by rw [ex3_82]; rfl) (by decide) rfl (fun ls hl => ?_)
                refine lv_goto (tgt := 56) hx hb dX12_text_85 (by decide) ?_
                exact ih56 x3_82 σ81 _ _ _ Z (lv_sub hl [1, 2, 0] rfl) h
          exact hL56 NF 0 σ46 _ _ _ Z (lv_sub hl [2, 1, 0] rfl) h
      · exact hj37 σ30 _ _ _ Z (lv_sub hl [] rfl) h
    refine zb_icne (tgt := 28) hx hb dX12_text_17 (by decide) h (fun h => ?_) (fun h => ?_)
    · exact hj28 σ2 _ _ _ Z (lv_sub hl [0, 1] rfl) h
    · refine lv_aload_n hx hb dX12_text_20 rfl (lv_at hl 0 rfl) ?_
      refine zw_getI F Z zC12 (a := 703) (k := 7) (by decide) zs_703 (by decide) rfl zq1257 (Or.inl rfl) dX12_text_21 ?_
      refine lv_iconst (v := 5) hx hb dX12_text_24 (by decide) ?_
      refine zb_iceq (tgt := 37) hx hb dX12_text_25 (by decide) h (fun h => ?_) (fun h => ?_)
      · exact hj37 σ2 _ _ _ Z (lv_sub hl [] rfl) h
      · exact hj28 σ2 _ _ _ Z (lv_sub hl [0, 1] rfl) h
set_option maxHeartbeats 4000000 in
set_option maxRecDepth 100000 in
theorem zcX12_isSeller (l : Launch) (D : va_G) (A0 : Nat) (x1 : Int32) (σ : Mm) (r0 : Int32) (h : zfX12_isSeller x1 σ = r0) : Met l yX12_isSeller (zws yX12_isSeller cX12_isSeller 2 (some .boolean)) (zR 0 0) (zPc D A0 σ GF 740 [.ref (A0 + 703), .int x1]) (zQi D A0 r0 σ GF 740) 0 0 (zA A0) := by
  unfold zfX12_isSeller at h
  refine zmet (own := RX12) (by decide) rfl (Nat.le_of_ble_eq_true rfl) ?_
  intro p e s m below meth c F hr hlocks _ Z ls hl
  have hl : lv_has ls 2 [(0, .ref (A0 + 703)), (1, .int x1)] := hl
  have hx := F.1.1
  have hb := F.1.2.1
  have hown := F.1.2.2.2.1
  have hts := F.1.2.2.2.2
  refine lv_iload_n hx hb dX12_isSeller_0 rfl (lv_at hl 1 rfl) ?_
  obtain ⟨j16, ej16, h⟩ := lt_x h
  have hj16 : ∀  (H : Heap) (locs : List Loc) (ls : Array Slot), zh D A0 σ GF 740 s.heap H locs → lv_has ls 2 [] → j16 () = r0 → W p l e (zR 0 0) s m [.ref (A0 + 703), .int x1].toArray below meth c H locs 0 0 (MQ below (zQi D A0 r0 σ GF 740) [.ref (A0 + 703), .int x1].toArray s 0 0 (zA A0)) (F0 m 16 ls []) := by
    intro  H locs ls Z hl h
    rw [ej16] at h
    try dsimp only at h
    refine lv_iconst (v := 0) hx hb dX12_isSeller_16 (by decide) ?_
    exact ze_z F Z hr hlocks (by decide) h rfl dX12_isSeller_17
  refine zb_iflt (tgt := 16) hx hb dX12_isSeller_1 (by decide) h (fun h => ?_) (fun h => ?_)
  · exact hj16  _ _ _ Z (lv_sub hl [] rfl) h
  · refine lv_iload_n hx hb dX12_isSeller_4 rfl (lv_at hl 1 rfl) ?_
    refine lv_aload_n hx hb dX12_isSeller_5 rfl (lv_at hl 0 rfl) ?_
    refine zw_getI F Z zC12 (a := 703) (k := 24) (by decide) zs_703 (by decide) rfl zq1274 (Or.inl rfl) dX12_isSeller_6 ?_
    refine zb_icge (tgt := 16) hx hb dX12_isSeller_9 (by decide) h (fun h => ?_) (fun h => ?_)
    · exact hj16  _ _ _ Z (lv_sub hl [] rfl) h
    · refine lv_iconst (v := 1) hx hb dX12_isSeller_12 (by decide) ?_
      refine lv_goto (tgt := 17) hx hb dX12_isSeller_13 (by decide) ?_
      exact ze_z F Z hr hlocks (by decide) h rfl dX12_isSeller_17
set_option maxHeartbeats 4000000 in
set_option maxRecDepth 100000 in
theorem zcX12_seller (l : Launch) (D : va_G) (A0 : Nat) (x1 : Int32) (x2 : Int32) (σ : Mm) (r0 : Int32) (σr : Mm) (h : zfX12_seller x1 x2 σ = some (r0, σr)) : Met l yX12_seller (zws yX12_seller cX12_seller 3 (some .int)) (zR 1 25) (zPc D A0 σ GF 740 [.ref (A0 + 703), .int x1, .int x2]) (zQi D A0 r0 σr GF 740) 0 0 (zA A0) := by
  unfold zfX12_seller at h
  refine zmet (own := RX12) (by decide) rfl (Nat.le_of_ble_eq_true rfl) ?_
  intro p e s m below meth c F hr hlocks _ Z ls hl
  have hl : lv_has ls 3 [(0, .ref (A0 + 703)), (1, .int x1), (2, .int x2)] := hl
  have hx := F.1.1
  have hb := F.1.2.1
  have hown := F.1.2.2.2.1
  have hts := F.1.2.2.2.2
  refine lv_aload_n hx hb dX12_seller_0 rfl (lv_at hl 0 rfl) ?_
  refine lv_aload_n hx hb dX12_seller_1 rfl (lv_at hl 0 rfl) ?_
  refine lv_iload_n hx hb dX12_seller_2 rfl (lv_at hl 1 rfl) ?_
  refine zc_i Z (zr_V F Z (a := 703) (As := [.int x1]) (zcX12_isSeller l D A0 x1 σ (zfX12_isSeller x1 σ) rfl) zBX12_isSeller zq1614 (by decide) zs_703 zC12.1 rfl ⟨⟨rfl, rfl⟩, Nat.le_of_ble_eq_true rfl, Nat.le_of_ble_eq_true rfl⟩ hl.1 rfl (Nat.le_of_ble_eq_true rfl) dX12_seller_3 ⟨Nat.le_of_ble_eq_true rfl, Nat.le_of_ble_eq_true rfl⟩) (fun _ _ Z => ?_)
  obtain ⟨j26, ej26, h⟩ := lt_x h
  have hj26 : ∀ (y0_26 : Int32) (σ26 : Mm) (H : Heap) (locs : List Loc) (ls : Array Slot), zh D A0 σ26 GF 740 s.heap H locs → lv_has ls 3 [(0, .ref (A0 + 703)), (1, .int x1), (2, .int x2)] → j26 y0_26 σ26 = some (r0, σr) → W p l e (zR 1 25) s m [.ref (A0 + 703), .int x1, .int x2].toArray below meth c H locs 0 0 (MQ below (zQi D A0 r0 σr GF 740) [.ref (A0 + 703), .int x1, .int x2].toArray s 0 0 (zA A0)) (F0 m 26 ls [.int y0_26, .ref (A0 + 703)]) := by
    intro y0_26 σ26 H locs ls Z hl h
    rw [ej26] at h
    try dsimp only at h
    refine zw_putI F Z zC12 (a := 703) (k := 0) (by decide) zs_703 (by decide) rfl (by decide) zq1250 (Or.inl rfl) rfl ⟨rfl, rfl⟩ dX12_seller_26 (fun σ26_1 _ _ eσ26_1 Z => ?_)
    replace h := lt_w h eσ26_1
    refine lv_aload_n hx hb dX12_seller_29 rfl (lv_at hl 0 rfl) ?_
    refine zw_getI F Z zC12 (a := 703) (k := 0) (by decide) zs_703 (by decide) rfl zq1250 (Or.inl rfl) dX12_seller_30 ?_
    refine zb_ifle (tgt := 38) hx hb dX12_seller_33 (by decide) h (fun h => ?_) (fun h => ?_)
    · refine lv_iload_n hx hb dX12_seller_38 rfl (lv_at hl 2 rfl) ?_
      refine lv_iconst (v := 3) hx hb dX12_seller_39 (by decide) ?_
      refine zb_icge (tgt := 54) hx hb dX12_seller_40 (by decide) h (fun h => ?_) (fun h => ?_)
      · refine lv_iload_n hx hb dX12_seller_54 rfl (lv_at hl 2 rfl) ?_
        refine zsp h (fun hs55_0 h => ?_) (fun hs55_0 h => ?_)
        · refine lv_tableIn (tgt := 92) (off := 37) hx hb dX12_seller_55 (by rw [hs55_0]; decide) (by rw [hs55_0]; decide) (by first | (rw [hs55_0]; done) | (rw [hs55_0]; rfl)) (by decide) ?_
          refine lv_aload_n hx hb dX12_seller_92 rfl (lv_at hl 0 rfl) ?_
          refine zw_getR F Z zC12 (a := 703) (k := 29) (by decide) zs_703 (by decide) rfl zg_703_29 zq1279 (Or.inl rfl) dX12_seller_93 ?_
          refine lv_iload_n hx hb dX12_seller_96 rfl (lv_at hl 1 rfl) ?_
          obtain ⟨hk97, h⟩ := ck_x h
          refine zw_iald F Z (by decide) zs_714 hk97 dX12_seller_97 ?_
          obtain ⟨hq1, hq2⟩ := zpq h
          exact ze_i F Z hr hlocks hq1 hq2 dX12_seller_98
        · refine zsp h (fun hs55_1 h => ?_) (fun hs55_1 h => ?_)
          · refine lv_tableIn (tgt := 99) (off := 44) hx hb dX12_seller_55 (by rw [hs55_1]; decide) (by rw [hs55_1]; decide) (by first | (rw [hs55_1]; done) | (rw [hs55_1]; rfl)) (by decide) ?_
            refine lv_aload_n hx hb dX12_seller_99 rfl (lv_at hl 0 rfl) ?_
            refine zw_getR F Z zC12 (a := 703) (k := 29) (by decide) zs_703 (by decide) rfl zg_703_29 zq1279 (Or.inl rfl) dX12_seller_100 ?_
            refine lv_bipush (v := 6) hx hb dX12_seller_103 (by decide) ?_
            refine lv_iload_n hx hb dX12_seller_105 rfl (lv_at hl 1 rfl) ?_
            refine lv_iadd hx hb dX12_seller_106 ?_
            obtain ⟨hk107, h⟩ := ck_x h
            refine zw_iald F Z (by decide) zs_714 hk107 dX12_seller_107 ?_
            obtain ⟨hq1, hq2⟩ := zpq h
            exact ze_i F Z hr hlocks hq1 hq2 dX12_seller_108
          · refine zsp h (fun hs55_2 h => ?_) (fun hs55_2 h => ?_)
            · refine lv_tableIn (tgt := 109) (off := 54) hx hb dX12_seller_55 (by rw [hs55_2]; decide) (by rw [hs55_2]; decide) (by first | (rw [hs55_2]; done) | (rw [hs55_2]; rfl)) (by decide) ?_
              refine lv_aload_n hx hb dX12_seller_109 rfl (lv_at hl 0 rfl) ?_
              refine zw_getR F Z zC12 (a := 703) (k := 29) (by decide) zs_703 (by decide) rfl zg_703_29 zq1279 (Or.inl rfl) dX12_seller_110 ?_
              refine lv_bipush (v := 12) hx hb dX12_seller_113 (by decide) ?_
              refine lv_iload_n hx hb dX12_seller_115 rfl (lv_at hl 1 rfl) ?_
              refine lv_iadd hx hb dX12_seller_116 ?_
              obtain ⟨hk117, h⟩ := ck_x h
              refine zw_iald F Z (by decide) zs_714 hk117 dX12_seller_117 ?_
              obtain ⟨hq1, hq2⟩ := zpq h
              exact ze_i F Z hr hlocks hq1 hq2 dX12_seller_118
            · refine zsp h (fun hs55_3 h => ?_) (fun hs55_3 h => ?_)
              · refine lv_tableIn (tgt := 119) (off := 64) hx hb dX12_seller_55 (by rw [hs55_3]; decide) (by rw [hs55_3]; decide) (by first | (rw [hs55_3]; done) | (rw [hs55_3]; rfl)) (by decide) ?_
                refine lv_aload_n hx hb dX12_seller_119 rfl (lv_at hl 0 rfl) ?_
                refine zw_getR F Z zC12 (a := 703) (k := 31) (by decide) zs_703 (by decide) rfl zg_703_31 zq1281 (Or.inl rfl) dX12_seller_120 ?_
                refine lv_iload_n hx hb dX12_seller_123 rfl (lv_at hl 1 rfl) ?_
                obtain ⟨hk124, h⟩ := ck_x h
                refine zw_iald F Z (by decide) zs_716 hk124 dX12_seller_124 ?_
                obtain ⟨hq1, hq2⟩ := zpq h
                exact ze_i F Z hr hlocks hq1 hq2 dX12_seller_125
              · refine zsp h (fun hs55_4 h => ?_) (fun hs55_4 h => ?_)
                · refine lv_tableIn (tgt := 126) (off := 71) hx hb dX12_seller_55 (by rw [hs55_4]; decide) (by rw [hs55_4]; decide) (by first | (rw [hs55_4]; done) | (rw [hs55_4]; rfl)) (by decide) ?_
                  refine lv_aload_n hx hb dX12_seller_126 rfl (lv_at hl 0 rfl) ?_
                  refine zw_getI F Z zC12 (a := 703) (k := 32) (by decide) zs_703 (by decide) rfl zq1282 (Or.inl rfl) dX12_seller_127 ?_
                  refine lv_iload_n hx hb dX12_seller_130 rfl (lv_at hl 1 rfl) ?_
                  refine zc_i Z (zr_S F Z (As := [.int (σ26_1 703 32), .int x1]) (zcX12_has l D A0 (σ26_1 703 32) x1 σ26_1 (zfX12_has (σ26_1 703 32) x1) rfl) zBX12_has zq1530 rfl ⟨⟨rfl, rfl⟩, Nat.le_of_ble_eq_true rfl, Nat.le_of_ble_eq_true rfl⟩ hl.1 rfl (Nat.le_of_ble_eq_true rfl) dX12_seller_131 ⟨Nat.le_of_ble_eq_true rfl, Nat.le_of_ble_eq_true rfl⟩) (fun _ _ Z => ?_)
                  refine zb_ifeq (tgt := 141) hx hb dX12_seller_134 (by decide) h (fun h => ?_) (fun h => ?_)
                  · refine lv_iconst (v := 0) hx hb dX12_seller_141 (by decide) ?_
                    obtain ⟨hq1, hq2⟩ := zpq h
                    exact ze_i F Z hr hlocks hq1 hq2 dX12_seller_142
                  · refine lv_iconst (v := 1) hx hb dX12_seller_137 (by decide) ?_
                    refine lv_goto (tgt := 142) hx hb dX12_seller_138 (by decide) ?_
                    obtain ⟨hq1, hq2⟩ := zpq h
                    exact ze_i F Z hr hlocks hq1 hq2 dX12_seller_142
                · refine zsp h (fun hs55_5 h => ?_) (fun hs55_5 h => ?_)
                  · refine lv_tableIn (tgt := 143) (off := 88) hx hb dX12_seller_55 (by rw [hs55_5]; decide) (by rw [hs55_5]; decide) (by first | (rw [hs55_5]; done) | (rw [hs55_5]; rfl)) (by decide) ?_
                    refine lv_aload_n hx hb dX12_seller_143 rfl (lv_at hl 0 rfl) ?_
                    refine zw_getR F Z zC12 (a := 703) (k := 29) (by decide) zs_703 (by decide) rfl zg_703_29 zq1279 (Or.inl rfl) dX12_seller_144 ?_
                    refine lv_bipush (v := 18) hx hb dX12_seller_147 (by decide) ?_
                    refine lv_iload_n hx hb dX12_seller_149 rfl (lv_at hl 1 rfl) ?_
                    refine lv_iadd hx hb dX12_seller_150 ?_
                    obtain ⟨hk151, h⟩ := ck_x h
                    refine zw_iald F Z (by decide) zs_714 hk151 dX12_seller_151 ?_
                    obtain ⟨hq1, hq2⟩ := zpq h
                    exact ze_i F Z hr hlocks hq1 hq2 dX12_seller_152
                  · refine lv_tableOut (tgt := 153) hx hb dX12_seller_55 (by have n0 := lv_neT hs55_0 (a := 3) (by decide); have n1 := lv_neT hs55_1 (a := 4) (by decide); have n2 := lv_neT hs55_2 (a := 5) (by decide); have n3 := lv_neT hs55_3 (a := 6) (by decide); have n4 := lv_neT hs55_4 (a := 7) (by decide); have n5 := lv_neT hs55_5 (a := 8) (by decide); omega) (by decide) ?_
                    refine lv_aload_n hx hb dX12_seller_153 rfl (lv_at hl 0 rfl) ?_
                    refine zw_getR F Z zC12 (a := 703) (k := 29) (by decide) zs_703 (by decide) rfl zg_703_29 zq1279 (Or.inl rfl) dX12_seller_154 ?_
                    refine lv_bipush (v := 24) hx hb dX12_seller_157 (by decide) ?_
                    refine lv_iload_n hx hb dX12_seller_159 rfl (lv_at hl 1 rfl) ?_
                    refine lv_iadd hx hb dX12_seller_160 ?_
                    obtain ⟨hk161, h⟩ := ck_x h
                    refine zw_iald F Z (by decide) zs_714 hk161 dX12_seller_161 ?_
                    obtain ⟨hq1, hq2⟩ := zpq h
                    exact ze_i F Z hr hlocks hq1 hq2 dX12_seller_162
      · refine lv_aload_n hx hb dX12_seller_43 rfl (lv_at hl 0 rfl) ?_
        refine zw_getR F Z zC12 (a := 703) (k := 18) (by decide) zs_703 (by decide) rfl zg_703_18 zq1268 (Or.inl rfl) dX12_seller_44 ?_
        refine lv_iconst (v := 3) hx hb dX12_seller_47 (by decide) ?_
        refine lv_iload_n hx hb dX12_seller_48 rfl (lv_at hl 1 rfl) ?_
        refine lv_imul hx hb dX12_seller_49 ?_
        refine lv_iload_n hx hb dX12_seller_50 rfl (lv_at hl 2 rfl) ?_
        refine lv_iadd hx hb dX12_seller_51 ?_
        obtain ⟨hk52, h⟩ := ck_x h
        refine zw_iald F Z (by decide) zs_708 hk52 dX12_seller_52 ?_
        obtain ⟨hq1, hq2⟩ := zpq h
        exact ze_i F Z hr hlocks hq1 hq2 dX12_seller_53
    · refine lv_iconst (v := 0) hx hb dX12_seller_36 (by decide) ?_
      obtain ⟨hq1, hq2⟩ := zpq h
      exact ze_i F Z hr hlocks hq1 hq2 dX12_seller_37
  obtain ⟨j25, ej25, h⟩ := lt_x h
  have hj25 : ∀ (σ25 : Mm) (H : Heap) (locs : List Loc) (ls : Array Slot), zh D A0 σ25 GF 740 s.heap H locs → lv_has ls 3 [(0, .ref (A0 + 703)), (1, .int x1), (2, .int x2)] → j25 σ25 = some (r0, σr) → W p l e (zR 1 25) s m [.ref (A0 + 703), .int x1, .int x2].toArray below meth c H locs 0 0 (MQ below (zQi D A0 r0 σr GF 740) [.ref (A0 + 703), .int x1, .int x2].toArray s 0 0 (zA A0)) (F0 m 25 ls [.ref (A0 + 703)]) := by
    intro  σ25 H locs ls Z hl h
    rw [ej25] at h
    try dsimp only at h
    refine lv_iconst (v := 1) hx hb dX12_seller_25 (by decide) ?_
    exact hj26 1 σ25 _ _ _ Z (lv_sub hl [0, 1, 2] rfl) h
  refine zb_ifeq (tgt := 25) hx hb dX12_seller_6 (by decide) h (fun h => ?_) (fun h => ?_)
  · exact hj25 σ _ _ _ Z (lv_sub hl [0, 1, 2] rfl) h
  · refine lv_iload_n hx hb dX12_seller_9 rfl (lv_at hl 2 rfl) ?_
    refine lv_i2l hx hb dX12_seller_10 rfl ?_
    refine lv_lconst (v := 0) hx hb dX12_seller_11 (by decide) ?_
    refine lv_ldc2 (v := 9) hx hb hown (hts _ zq1618) dX12_seller_12 ?_
    refine zc_i Z (zr_S F Z (As := [.long (Int32.toInt64 x2), .long 0, .long 9]) (zcX12_isIn l D A0 (Int32.toInt64 x2) 0 9 σ (zfX12_isIn (Int32.toInt64 x2) 0 9) rfl) zBX12_isIn zq1496 rfl ⟨⟨rfl, rfl⟩, Nat.le_of_ble_eq_true rfl, Nat.le_of_ble_eq_true rfl⟩ hl.1 rfl (Nat.le_of_ble_eq_true rfl) dX12_seller_15 ⟨Nat.le_of_ble_eq_true rfl, Nat.le_of_ble_eq_true rfl⟩) (fun _ _ Z => ?_)
    refine zb_ifeq (tgt := 25) hx hb dX12_seller_18 (by decide) h (fun h => ?_) (fun h => ?_)
    · exact hj25 σ _ _ _ Z (lv_sub hl [0, 1, 2] rfl) h
    · refine lv_iconst (v := 0) hx hb dX12_seller_21 (by decide) ?_
      refine lv_goto (tgt := 26) hx hb dX12_seller_22 (by decide) ?_
      exact hj26 0 σ _ _ _ Z (lv_sub hl [0, 1, 2] rfl) h
set_option maxHeartbeats 4000000 in
set_option maxRecDepth 100000 in
theorem zcX12_waitingOf (l : Launch) (D : va_G) (A0 : Nat) (x1 : Int32) (σ : Mm) (r0 : Int32) (h : zfX12_waitingOf x1 σ = some r0) : Met l yX12_waitingOf (zws yX12_waitingOf cX12_waitingOf 4 (some .int)) (zR 0 0) (zPc D A0 σ GF 740 [.ref (A0 + 703), .int x1]) (zQi D A0 r0 σ GF 740) 0 0 (zA A0) := by
  unfold zfX12_waitingOf at h
  refine zmet (own := RX12) (by decide) rfl (Nat.le_of_ble_eq_true rfl) ?_
  intro p e s m below meth c F hr hlocks _ Z ls hl
  have hl : lv_has ls 4 [(0, .ref (A0 + 703)), (1, .int x1)] := hl
  have hx := F.1.1
  have hb := F.1.2.1
  have hown := F.1.2.2.2.1
  have hts := F.1.2.2.2.2
  refine lv_iconst (v := 0) hx hb dX12_waitingOf_0 (by decide) ?_
  refine lv_istore_n (lv' := [(2, .int 0), (0, .ref (A0 + 703)), (1, .int x1)]) hx hb dX12_waitingOf_1 rfl hl (by decide) rfl (fun ls hl => ?_)
  refine lv_iconst (v := 0) hx hb dX12_waitingOf_2 (by decide) ?_
  refine lv_istore_n (lv' := [(3, .int 0), (2, .int 0), (0, .ref (A0 + 703)), (1, .int x1)]) hx hb dX12_waitingOf_3 rfl hl (by decide) rfl (fun ls hl => ?_)
  obtain ⟨k31, ek31, h⟩ := lt_x h
  have hk31 : ∀ (x2_31 : Int32) (H : Heap) (locs : List Loc) (ls : Array Slot), zh D A0 σ GF 740 s.heap H locs → lv_has ls 4 [(2, .int x2_31)] → k31 x2_31 = some r0 → W p l e (zR 0 0) s m [.ref (A0 + 703), .int x1].toArray below meth c H locs 0 0 (MQ below (zQi D A0 r0 σ GF 740) [.ref (A0 + 703), .int x1].toArray s 0 0 (zA A0)) (F0 m 31 ls []) := by
    intro x2_31 H locs ls Z hl h
    rw [ek31] at h
    try dsimp only at h
    refine lv_iload_n hx hb dX12_waitingOf_31 rfl (lv_at hl 0 rfl) ?_
    have hq := Option.some.inj h
    exact ze_i F Z hr hlocks hq rfl dX12_waitingOf_32
  have hL4 : ∀ (fu4 : Nat) (x2_4 : Int32) (x3_4 : Int32) (H : Heap) (locs : List Loc) (ls : Array Slot), zh D A0 σ GF 740 s.heap H locs → lv_has ls 4 [(0, .ref (A0 + 703)), (1, .int x1), (2, .int x2_4), (3, .int x3_4)] → zfX12_waitingOf_L4 k31 x1 σ fu4 x2_4 x3_4 = some r0 → W p l e (zR 0 0) s m [.ref (A0 + 703), .int x1].toArray below meth c H locs 0 0 (MQ below (zQi D A0 r0 σ GF 740) [.ref (A0 + 703), .int x1].toArray s 0 0 (zA A0)) (F0 m 4 ls []) := by
    intro fu4
    induction fu4 with
    | zero => intro x2_4 x3_4 H locs ls Z hl h; rw [zfX12_waitingOf_L4] at h; cases h
    | succ fu4 ih4 =>
      intro x2_4 x3_4 H locs ls Z hl h
      rw [zfX12_waitingOf_L4] at h
      refine lv_iload_n hx hb dX12_waitingOf_4 rfl (lv_at hl 3 rfl) ?_
      refine lv_iconst (v := 4) hx hb dX12_waitingOf_5 (by decide) ?_
      refine zb_icge (tgt := 31) hx hb dX12_waitingOf_6 (by decide) h (fun h => ?_) (fun h => ?_)
      · exact hk31 x2_4 _ _ _ Z (lv_sub hl [2] rfl) h
      · refine lv_iload_n hx hb dX12_waitingOf_9 rfl (lv_at hl 2 rfl) ?_
        refine lv_aload_n hx hb dX12_waitingOf_10 rfl (lv_at hl 0 rfl) ?_
        refine zw_getR F Z zC12 (a := 703) (k := 29) (by decide) zs_703 (by decide) rfl zg_703_29 zq1279 (Or.inl rfl) dX12_waitingOf_11 ?_
        refine lv_bipush (v := 30) hx hb dX12_waitingOf_14 (by decide) ?_
        refine lv_iconst (v := 4) hx hb dX12_waitingOf_16 (by decide) ?_
        refine lv_iload_n hx hb dX12_waitingOf_17 rfl (lv_at hl 1 rfl) ?_
        refine lv_imul hx hb dX12_waitingOf_18 ?_
        refine lv_iadd hx hb dX12_waitingOf_19 ?_
        refine lv_iload_n hx hb dX12_waitingOf_20 rfl (lv_at hl 3 rfl) ?_
        refine lv_iadd hx hb dX12_waitingOf_21 ?_
        obtain ⟨hk22, h⟩ := ck_x h
        refine zw_iald F Z (by decide) zs_714 hk22 dX12_waitingOf_22 ?_
        refine lv_iadd hx hb dX12_waitingOf_23 ?_
        refine lv_topi (fun x2_24 ex2_24 => ?_)
        replace h := lt_w h ex2_24
        refine lv_istore_n (lv' := [(2, .int x2_24), (0, .ref (A0 + 703)), (1, .int x1), (3, .int x3_4)]) hx hb dX12_waitingOf_24 rfl hl (by decide) rfl (fun ls hl => ?_)
        obtain ⟨x3_25, ex3_25⟩ : ∃ y : Int32, y = x3_4 + 1 := ⟨_, rfl⟩
        replace h := lt_w h ex3_25
        refine lv_iinc (v := x3_25) (lv' := [(3, .int x3_25), (2, .int x2_24), (0, .ref (A0 + 703)), (1, .int x1)]) hx hb dX12_waitingOf_25 hl (k := 3) rfl (by rw [ex3_25]; rfl) (by decide) rfl (fun ls hl => ?_)
        refine lv_goto (tgt := 4) hx hb dX12_waitingOf_28 (by decide) ?_
        exact ih4 x2_24 x3_25 _ _ _ Z (lv_sub hl [2, 3, 1, 0] rfl) h
  exact hL4 NF 0 0 _ _ _ Z (lv_sub hl [2, 3, 1, 0] rfl) h
set_option maxHeartbeats 4000000 in
set_option maxRecDepth 100000 in
theorem zcX12_buyers (l : Launch) (D : va_G) (A0 : Nat) (x1 : Int32) (x2 : Int32) (σ : Mm) (r0 : Int32) (σr : Mm) (h : zfX12_buyers x1 x2 σ = some (r0, σr)) : Met l yX12_buyers (zws yX12_buyers cX12_buyers 3 (some .int)) (zR 1 25) (zPc D A0 σ GF 740 [.ref (A0 + 703), .int x1, .int x2]) (zQi D A0 r0 σr GF 740) 0 0 (zA A0) := by
  unfold zfX12_buyers at h
  refine zmet (own := RX12) (by decide) rfl (Nat.le_of_ble_eq_true rfl) ?_
  intro p e s m below meth c F hr hlocks _ Z ls hl
  have hl : lv_has ls 3 [(0, .ref (A0 + 703)), (1, .int x1), (2, .int x2)] := hl
  have hx := F.1.1
  have hb := F.1.2.1
  have hown := F.1.2.2.2.1
  have hts := F.1.2.2.2.2
  refine lv_aload_n hx hb dX12_buyers_0 rfl (lv_at hl 0 rfl) ?_
  refine lv_iconst (v := 0) hx hb dX12_buyers_1 (by decide) ?_
  refine zw_putI F Z zC12 (a := 703) (k := 0) (by decide) zs_703 (by decide) rfl (by decide) zq1250 (Or.inl rfl) rfl ⟨rfl, rfl⟩ dX12_buyers_2 (fun σ2 _ _ eσ2 Z => ?_)
  replace h := lt_w h eσ2
  refine lv_iload_n hx hb dX12_buyers_5 rfl (lv_at hl 1 rfl) ?_
  refine lv_i2l hx hb dX12_buyers_6 rfl ?_
  refine lv_lconst (v := 0) hx hb dX12_buyers_7 (by decide) ?_
  refine lv_aload_n hx hb dX12_buyers_8 rfl (lv_at hl 0 rfl) ?_
  refine zw_getI F Z zC12 (a := 703) (k := 25) (by decide) zs_703 (by decide) rfl zq1275 (Or.inl rfl) dX12_buyers_9 ?_
  refine lv_iconst (v := 1) hx hb dX12_buyers_12 (by decide) ?_
  refine lv_isub hx hb dX12_buyers_13 ?_
  refine lv_i2l hx hb dX12_buyers_14 rfl ?_
  refine zc_i Z (zr_S F Z (As := [.long (Int32.toInt64 x1), .long 0, .long (Int32.toInt64 ((σ2 703 25) - 1))]) (zcX12_isIn l D A0 (Int32.toInt64 x1) 0 (Int32.toInt64 ((σ2 703 25) - 1)) σ2 (zfX12_isIn (Int32.toInt64 x1) 0 (Int32.toInt64 ((σ2 703 25) - 1))) rfl) zBX12_isIn zq1496 rfl ⟨⟨rfl, rfl⟩, Nat.le_of_ble_eq_true rfl, Nat.le_of_ble_eq_true rfl⟩ hl.1 rfl (Nat.le_of_ble_eq_true rfl) dX12_buyers_15 ⟨Nat.le_of_ble_eq_true rfl, Nat.le_of_ble_eq_true rfl⟩) (fun _ _ Z => ?_)
  obtain ⟨j33, ej33, h⟩ := lt_x h
  have hj33 : ∀ (σ33 : Mm) (H : Heap) (locs : List Loc) (ls : Array Slot), zh D A0 σ33 GF 740 s.heap H locs → lv_has ls 3 [] → j33 σ33 = some (r0, σr) → W p l e (zR 1 25) s m [.ref (A0 + 703), .int x1, .int x2].toArray below meth c H locs 0 0 (MQ below (zQi D A0 r0 σr GF 740) [.ref (A0 + 703), .int x1, .int x2].toArray s 0 0 (zA A0)) (F0 m 33 ls []) := by
    intro  σ33 H locs ls Z hl h
    rw [ej33] at h
    try dsimp only at h
    refine lv_iconst (v := (-1)) hx hb dX12_buyers_33 (by decide) ?_
    obtain ⟨hq1, hq2⟩ := zpq h
    exact ze_i F Z hr hlocks hq1 hq2 dX12_buyers_34
  refine zb_ifeq (tgt := 33) hx hb dX12_buyers_18 (by decide) h (fun h => ?_) (fun h => ?_)
  · exact hj33 σ2 _ _ _ Z (lv_sub hl [] rfl) h
  · refine lv_iload_n hx hb dX12_buyers_21 rfl (lv_at hl 2 rfl) ?_
    refine lv_i2l hx hb dX12_buyers_22 rfl ?_
    refine lv_lconst (v := 0) hx hb dX12_buyers_23 (by decide) ?_
    refine lv_ldc2 (v := 3) hx hb hown (hts _ zq1623) dX12_buyers_24 ?_
    refine zc_i Z (zr_S F Z (As := [.long (Int32.toInt64 x2), .long 0, .long 3]) (zcX12_isIn l D A0 (Int32.toInt64 x2) 0 3 σ2 (zfX12_isIn (Int32.toInt64 x2) 0 3) rfl) zBX12_isIn zq1496 rfl ⟨⟨rfl, rfl⟩, Nat.le_of_ble_eq_true rfl, Nat.le_of_ble_eq_true rfl⟩ hl.1 rfl (Nat.le_of_ble_eq_true rfl) dX12_buyers_27 ⟨Nat.le_of_ble_eq_true rfl, Nat.le_of_ble_eq_true rfl⟩) (fun _ _ Z => ?_)
    refine zb_ifne (tgt := 35) hx hb dX12_buyers_30 (by decide) h (fun h => ?_) (fun h => ?_)
    · refine lv_iload_n hx hb dX12_buyers_35 rfl (lv_at hl 2 rfl) ?_
      refine lv_iconst (v := 3) hx hb dX12_buyers_36 (by decide) ?_
      refine zb_icge (tgt := 53) hx hb dX12_buyers_37 (by decide) h (fun h => ?_) (fun h => ?_)
      · refine lv_aload_n hx hb dX12_buyers_53 rfl (lv_at hl 0 rfl) ?_
        refine lv_iload_n hx hb dX12_buyers_54 rfl (lv_at hl 1 rfl) ?_
        obtain ⟨r55, hc55, h⟩ := bd_x h
        refine zc_i Z (zr_V F Z (a := 703) (As := [.int x1]) (zcX12_waitingOf l D A0 x1 σ2 r55 hc55) zBX12_waitingOf zq1624 (by decide) zs_703 zC12.1 rfl ⟨⟨rfl, rfl⟩, Nat.le_of_ble_eq_true rfl, Nat.le_of_ble_eq_true rfl⟩ hl.1 rfl (Nat.le_of_ble_eq_true rfl) dX12_buyers_55 ⟨Nat.le_of_ble_eq_true rfl, Nat.le_of_ble_eq_true rfl⟩) (fun _ _ Z => ?_)
        obtain ⟨hq1, hq2⟩ := zpq h
        exact ze_i F Z hr hlocks hq1 hq2 dX12_buyers_58
      · refine lv_aload_n hx hb dX12_buyers_40 rfl (lv_at hl 0 rfl) ?_
        refine zw_getR F Z zC12 (a := 703) (k := 19) (by decide) zs_703 (by decide) rfl zg_703_19 zq1269 (Or.inl rfl) dX12_buyers_41 ?_
        refine lv_iconst (v := 3) hx hb dX12_buyers_44 (by decide) ?_
        refine lv_iload_n hx hb dX12_buyers_45 rfl (lv_at hl 1 rfl) ?_
        refine lv_imul hx hb dX12_buyers_46 ?_
        refine lv_iload_n hx hb dX12_buyers_47 rfl (lv_at hl 2 rfl) ?_
        refine lv_iadd hx hb dX12_buyers_48 ?_
        obtain ⟨hk49, h⟩ := ck_x h
        refine zw_iald F Z (by decide) zs_709 hk49 dX12_buyers_49 ?_
        refine lv_goto (tgt := 58) hx hb dX12_buyers_50 (by decide) ?_
        obtain ⟨hq1, hq2⟩ := zpq h
        exact ze_i F Z hr hlocks hq1 hq2 dX12_buyers_58
    · exact hj33 σ2 _ _ _ Z (lv_sub hl [] rfl) h
set_option maxHeartbeats 4000000 in
set_option maxRecDepth 100000 in
theorem zcX12_rule (l : Launch) (D : va_G) (A0 : Nat) (x1 : Int32) (x2 : Int32) (σ : Mm) (r0 : Int32) (σr : Mm) (h : zfX12_rule x1 x2 σ = some (r0, σr)) : Met l yX12_rule (zws yX12_rule cX12_rule 3 (some .boolean)) (zR 1 25) (zPc D A0 σ GF 740 [.ref (A0 + 703), .int x1, .int x2]) (zQi D A0 r0 σr GF 740) 0 0 (zA A0) := by
  unfold zfX12_rule at h
  refine zmet (own := RX12) (by decide) rfl (Nat.le_of_ble_eq_true rfl) ?_
  intro p e s m below meth c F hr hlocks _ Z ls hl
  have hl : lv_has ls 3 [(0, .ref (A0 + 703)), (1, .int x1), (2, .int x2)] := hl
  have hx := F.1.1
  have hb := F.1.2.1
  have hown := F.1.2.2.2.1
  have hts := F.1.2.2.2.2
  refine lv_aload_n hx hb dX12_rule_0 rfl (lv_at hl 0 rfl) ?_
  refine lv_iconst (v := 0) hx hb dX12_rule_1 (by decide) ?_
  refine zw_putI F Z zC12 (a := 703) (k := 0) (by decide) zs_703 (by decide) rfl (by decide) zq1250 (Or.inl rfl) rfl ⟨rfl, rfl⟩ dX12_rule_2 (fun σ2 _ _ eσ2 Z => ?_)
  replace h := lt_w h eσ2
  refine lv_aload_n hx hb dX12_rule_5 rfl (lv_at hl 0 rfl) ?_
  refine lv_iload_n hx hb dX12_rule_6 rfl (lv_at hl 1 rfl) ?_
  refine zc_i Z (zr_V F Z (a := 703) (As := [.int x1]) (zcX12_isSeller l D A0 x1 σ2 (zfX12_isSeller x1 σ2) rfl) zBX12_isSeller zq1614 (by decide) zs_703 zC12.1 rfl ⟨⟨rfl, rfl⟩, Nat.le_of_ble_eq_true rfl, Nat.le_of_ble_eq_true rfl⟩ hl.1 rfl (Nat.le_of_ble_eq_true rfl) dX12_rule_7 ⟨Nat.le_of_ble_eq_true rfl, Nat.le_of_ble_eq_true rfl⟩) (fun _ _ Z => ?_)
  obtain ⟨j34, ej34, h⟩ := lt_x h
  have hj34 : ∀ (σ34 : Mm) (H : Heap) (locs : List Loc) (ls : Array Slot), zh D A0 σ34 GF 740 s.heap H locs → lv_has ls 3 [] → j34 σ34 = some (r0, σr) → W p l e (zR 1 25) s m [.ref (A0 + 703), .int x1, .int x2].toArray below meth c H locs 0 0 (MQ below (zQi D A0 r0 σr GF 740) [.ref (A0 + 703), .int x1, .int x2].toArray s 0 0 (zA A0)) (F0 m 34 ls []) := by
    intro  σ34 H locs ls Z hl h
    rw [ej34] at h
    try dsimp only at h
    refine lv_iconst (v := 0) hx hb dX12_rule_34 (by decide) ?_
    obtain ⟨hq1, hq2⟩ := zpq h
    exact ze_z F Z hr hlocks (by decide) hq1 hq2 dX12_rule_35
  refine zb_ifeq (tgt := 34) hx hb dX12_rule_10 (by decide) h (fun h => ?_) (fun h => ?_)
  · exact hj34 σ2 _ _ _ Z (lv_sub hl [] rfl) h
  · refine lv_iload_n hx hb dX12_rule_13 rfl (lv_at hl 2 rfl) ?_
    refine lv_iconst (v := (-1)) hx hb dX12_rule_14 (by decide) ?_
    obtain ⟨j36, ej36, h⟩ := lt_x h
    have hj36 : ∀ (σ36 : Mm) (H : Heap) (locs : List Loc) (ls : Array Slot), zh D A0 σ36 GF 740 s.heap H locs → lv_has ls 3 [(0, .ref (A0 + 703)), (1, .int x1), (2, .int x2)] → j36 σ36 = some (r0, σr) → W p l e (zR 1 25) s m [.ref (A0 + 703), .int x1, .int x2].toArray below meth c H locs 0 0 (MQ below (zQi D A0 r0 σr GF 740) [.ref (A0 + 703), .int x1, .int x2].toArray s 0 0 (zA A0)) (F0 m 36 ls []) := by
      intro  σ36 H locs ls Z hl h
      rw [ej36] at h
      try dsimp only at h
      refine lv_aload_n hx hb dX12_rule_36 rfl (lv_at hl 0 rfl) ?_
      refine zw_getR F Z zC12 (a := 703) (k := 31) (by decide) zs_703 (by decide) rfl zg_703_31 zq1281 (Or.inl rfl) dX12_rule_37 ?_
      refine lv_iload_n hx hb dX12_rule_40 rfl (lv_at hl 1 rfl) ?_
      refine lv_iload_n hx hb dX12_rule_41 rfl (lv_at hl 2 rfl) ?_
      obtain ⟨hk42, h⟩ := ck_x h
      refine zw_iast F Z (by decide) zs_716 hk42 dX12_rule_42 (fun σ42 _ _ eσ42 Z => ?_)
      replace h := lt_w h eσ42
      refine lv_iconst (v := 1) hx hb dX12_rule_43 (by decide) ?_
      obtain ⟨hq1, hq2⟩ := zpq h
      exact ze_z F Z hr hlocks (by decide) hq1 hq2 dX12_rule_44
    refine zb_iceq (tgt := 36) hx hb dX12_rule_15 (by decide) h (fun h => ?_) (fun h => ?_)
    · exact hj36 σ2 _ _ _ Z (lv_sub hl [0, 1, 2] rfl) h
    · refine lv_iload_n hx hb dX12_rule_18 rfl (lv_at hl 2 rfl) ?_
      refine lv_i2l hx hb dX12_rule_19 rfl ?_
      refine lv_lconst (v := 0) hx hb dX12_rule_20 (by decide) ?_
      refine lv_aload_n hx hb dX12_rule_21 rfl (lv_at hl 0 rfl) ?_
      refine zw_getI F Z zC12 (a := 703) (k := 7) (by decide) zs_703 (by decide) rfl zq1257 (Or.inl rfl) dX12_rule_22 ?_
      refine lv_iconst (v := 1) hx hb dX12_rule_25 (by decide) ?_
      refine lv_isub hx hb dX12_rule_26 ?_
      refine lv_i2l hx hb dX12_rule_27 rfl ?_
      refine zc_i Z (zr_S F Z (As := [.long (Int32.toInt64 x2), .long 0, .long (Int32.toInt64 ((σ2 703 7) - 1))]) (zcX12_isIn l D A0 (Int32.toInt64 x2) 0 (Int32.toInt64 ((σ2 703 7) - 1)) σ2 (zfX12_isIn (Int32.toInt64 x2) 0 (Int32.toInt64 ((σ2 703 7) - 1))) rfl) zBX12_isIn zq1496 rfl ⟨⟨rfl, rfl⟩, Nat.le_of_ble_eq_true rfl, Nat.le_of_ble_eq_true rfl⟩ hl.1 rfl (Nat.le_of_ble_eq_true rfl) dX12_rule_28 ⟨Nat.le_of_ble_eq_true rfl, Nat.le_of_ble_eq_true rfl⟩) (fun _ _ Z => ?_)
      refine zb_ifne (tgt := 36) hx hb dX12_rule_31 (by decide) h (fun h => ?_) (fun h => ?_)
      · exact hj36 σ2 _ _ _ Z (lv_sub hl [0, 1, 2] rfl) h
      · exact hj34 σ2 _ _ _ Z (lv_sub hl [] rfl) h
set_option maxHeartbeats 4000000 in
set_option maxRecDepth 100000 in
theorem zcX12_hold (l : Launch) (D : va_G) (A0 : Nat) (x1 : Int32) (x2 : Int32) (σ : Mm) (r0 : Int32) (σr : Mm) (h : zfX12_hold x1 x2 σ = some (r0, σr)) : Met l yX12_hold (zws yX12_hold cX12_hold 3 (some .boolean)) (zR 1 21) (zPc D A0 σ GF 740 [.ref (A0 + 703), .int x1, .int x2]) (zQi D A0 r0 σr GF 740) 0 0 (zA A0) := by
  unfold zfX12_hold at h
  refine zmet (own := RX12) (by decide) rfl (Nat.le_of_ble_eq_true rfl) ?_
  intro p e s m below meth c F hr hlocks _ Z ls hl
  have hl : lv_has ls 3 [(0, .ref (A0 + 703)), (1, .int x1), (2, .int x2)] := hl
  have hx := F.1.1
  have hb := F.1.2.1
  have hown := F.1.2.2.2.1
  have hts := F.1.2.2.2.2
  refine lv_aload_n hx hb dX12_hold_0 rfl (lv_at hl 0 rfl) ?_
  refine lv_iconst (v := 0) hx hb dX12_hold_1 (by decide) ?_
  refine zw_putI F Z zC12 (a := 703) (k := 0) (by decide) zs_703 (by decide) rfl (by decide) zq1250 (Or.inl rfl) rfl ⟨rfl, rfl⟩ dX12_hold_2 (fun σ2 _ _ eσ2 Z => ?_)
  replace h := lt_w h eσ2
  refine lv_aload_n hx hb dX12_hold_5 rfl (lv_at hl 0 rfl) ?_
  refine lv_iload_n hx hb dX12_hold_6 rfl (lv_at hl 1 rfl) ?_
  refine zc_i Z (zr_V F Z (a := 703) (As := [.int x1]) (zcX12_isSeller l D A0 x1 σ2 (zfX12_isSeller x1 σ2) rfl) zBX12_isSeller zq1614 (by decide) zs_703 zC12.1 rfl ⟨⟨rfl, rfl⟩, Nat.le_of_ble_eq_true rfl, Nat.le_of_ble_eq_true rfl⟩ hl.1 rfl (Nat.le_of_ble_eq_true rfl) dX12_hold_7 ⟨Nat.le_of_ble_eq_true rfl, Nat.le_of_ble_eq_true rfl⟩) (fun _ _ Z => ?_)
  obtain ⟨j25, ej25, h⟩ := lt_x h
  have hj25 : ∀ (σ25 : Mm) (H : Heap) (locs : List Loc) (ls : Array Slot), zh D A0 σ25 GF 740 s.heap H locs → lv_has ls 3 [] → j25 σ25 = some (r0, σr) → W p l e (zR 1 21) s m [.ref (A0 + 703), .int x1, .int x2].toArray below meth c H locs 0 0 (MQ below (zQi D A0 r0 σr GF 740) [.ref (A0 + 703), .int x1, .int x2].toArray s 0 0 (zA A0)) (F0 m 25 ls []) := by
    intro  σ25 H locs ls Z hl h
    rw [ej25] at h
    try dsimp only at h
    refine lv_iconst (v := 0) hx hb dX12_hold_25 (by decide) ?_
    obtain ⟨hq1, hq2⟩ := zpq h
    exact ze_z F Z hr hlocks (by decide) hq1 hq2 dX12_hold_26
  refine zb_ifeq (tgt := 25) hx hb dX12_hold_10 (by decide) h (fun h => ?_) (fun h => ?_)
  · exact hj25 σ2 _ _ _ Z (lv_sub hl [] rfl) h
  · refine lv_aload_n hx hb dX12_hold_13 rfl (lv_at hl 0 rfl) ?_
    refine zw_getI F Z zC12 (a := 703) (k := 32) (by decide) zs_703 (by decide) rfl zq1282 (Or.inl rfl) dX12_hold_14 ?_
    refine lv_iload_n hx hb dX12_hold_17 rfl (lv_at hl 1 rfl) ?_
    refine zc_i Z (zr_S F Z (As := [.int (σ2 703 32), .int x1]) (zcX12_has l D A0 (σ2 703 32) x1 σ2 (zfX12_has (σ2 703 32) x1) rfl) zBX12_has zq1530 rfl ⟨⟨rfl, rfl⟩, Nat.le_of_ble_eq_true rfl, Nat.le_of_ble_eq_true rfl⟩ hl.1 rfl (Nat.le_of_ble_eq_true rfl) dX12_hold_18 ⟨Nat.le_of_ble_eq_true rfl, Nat.le_of_ble_eq_true rfl⟩) (fun _ _ Z => ?_)
    refine lv_iload_n hx hb dX12_hold_21 rfl (lv_at hl 2 rfl) ?_
    refine zb_icne (tgt := 27) hx hb dX12_hold_22 (by decide) h (fun h => ?_) (fun h => ?_)
    · refine lv_aload_n hx hb dX12_hold_27 rfl (lv_at hl 0 rfl) ?_
      refine lv_dup hx hb dX12_hold_28 rfl ?_
      refine zw_getI F Z zC12 (a := 703) (k := 32) (by decide) zs_703 (by decide) rfl zq1282 (Or.inl rfl) dX12_hold_29 ?_
      refine lv_iconst (v := 1) hx hb dX12_hold_32 (by decide) ?_
      refine lv_iload_n hx hb dX12_hold_33 rfl (lv_at hl 1 rfl) ?_
      refine lv_ishl hx hb dX12_hold_34 ?_
      refine lv_ixor hx hb dX12_hold_35 ?_
      refine zw_putI F Z zC12 (a := 703) (k := 32) (by decide) zs_703 (by decide) rfl (by decide) zq1282 (Or.inl rfl) rfl ⟨rfl, rfl⟩ dX12_hold_36 (fun σ36 _ _ eσ36 Z => ?_)
      replace h := lt_w h eσ36
      refine lv_iconst (v := 1) hx hb dX12_hold_39 (by decide) ?_
      obtain ⟨hq1, hq2⟩ := zpq h
      exact ze_z F Z hr hlocks (by decide) hq1 hq2 dX12_hold_40
    · exact hj25 σ2 _ _ _ Z (lv_sub hl [] rfl) h
set_option maxHeartbeats 4000000 in
set_option maxRecDepth 100000 in
theorem zcX12_risk (l : Launch) (D : va_G) (A0 : Nat) (x1 : Int32) (σ : Mm) (r0 : Int32) (σr : Mm) (h : zfX12_risk x1 σ = some (r0, σr)) : Met l yX12_risk (zws yX12_risk cX12_risk 2 (some .boolean)) (zR 1 25) (zPc D A0 σ GF 740 [.ref (A0 + 703), .int x1]) (zQi D A0 r0 σr GF 740) 0 0 (zA A0) := by
  unfold zfX12_risk at h
  refine zmet (own := RX12) (by decide) rfl (Nat.le_of_ble_eq_true rfl) ?_
  intro p e s m below meth c F hr hlocks _ Z ls hl
  have hl : lv_has ls 2 [(0, .ref (A0 + 703)), (1, .int x1)] := hl
  have hx := F.1.1
  have hb := F.1.2.1
  have hown := F.1.2.2.2.1
  have hts := F.1.2.2.2.2
  refine lv_aload_n hx hb dX12_risk_0 rfl (lv_at hl 0 rfl) ?_
  refine lv_iconst (v := 0) hx hb dX12_risk_1 (by decide) ?_
  refine zw_putI F Z zC12 (a := 703) (k := 0) (by decide) zs_703 (by decide) rfl (by decide) zq1250 (Or.inl rfl) rfl ⟨rfl, rfl⟩ dX12_risk_2 (fun σ2 _ _ eσ2 Z => ?_)
  replace h := lt_w h eσ2
  refine lv_iload_n hx hb dX12_risk_5 rfl (lv_at hl 1 rfl) ?_
  refine lv_i2l hx hb dX12_risk_6 rfl ?_
  refine lv_lconst (v := 0) hx hb dX12_risk_7 (by decide) ?_
  refine lv_ldc2 (v := 100) hx hb hown (hts _ zq1640) dX12_risk_8 ?_
  refine zc_i Z (zr_S F Z (As := [.long (Int32.toInt64 x1), .long 0, .long 100]) (zcX12_isIn l D A0 (Int32.toInt64 x1) 0 100 σ2 (zfX12_isIn (Int32.toInt64 x1) 0 100) rfl) zBX12_isIn zq1496 rfl ⟨⟨rfl, rfl⟩, Nat.le_of_ble_eq_true rfl, Nat.le_of_ble_eq_true rfl⟩ hl.1 rfl (Nat.le_of_ble_eq_true rfl) dX12_risk_11 ⟨Nat.le_of_ble_eq_true rfl, Nat.le_of_ble_eq_true rfl⟩) (fun _ _ Z => ?_)
  refine zb_ifne (tgt := 19) hx hb dX12_risk_14 (by decide) h (fun h => ?_) (fun h => ?_)
  · refine lv_aload_n hx hb dX12_risk_19 rfl (lv_at hl 0 rfl) ?_
    refine lv_iload_n hx hb dX12_risk_20 rfl (lv_at hl 1 rfl) ?_
    refine zw_putI F Z zC12 (a := 703) (k := 33) (by decide) zs_703 (by decide) rfl (by decide) zq1283 (Or.inl rfl) rfl ⟨rfl, rfl⟩ dX12_risk_21 (fun σ21 _ _ eσ21 Z => ?_)
    replace h := lt_w h eσ21
    refine lv_iconst (v := 1) hx hb dX12_risk_24 (by decide) ?_
    obtain ⟨hq1, hq2⟩ := zpq h
    exact ze_z F Z hr hlocks (by decide) hq1 hq2 dX12_risk_25
  · refine lv_iconst (v := 0) hx hb dX12_risk_17 (by decide) ?_
    obtain ⟨hq1, hq2⟩ := zpq h
    exact ze_z F Z hr hlocks (by decide) hq1 hq2 dX12_risk_18
set_option maxHeartbeats 4000000 in
set_option maxRecDepth 100000 in
theorem zcX12_seed (l : Launch) (D : va_G) (A0 : Nat) (x1 : Int64) (σ : Mm) (r0 : Int32) (σr : Mm) (h : zfX12_seed x1 σ = some (r0, σr)) : Met l yX12_seed (zws yX12_seed cX12_seed 3 (some .boolean)) (zR 0 0) (zPc D A0 σ GF 740 [.ref (A0 + 703), .long x1]) (zQi D A0 r0 σr GF 740) 0 0 (zA A0) := by
  unfold zfX12_seed at h
  refine zmet (own := RX12) (by decide) rfl (Nat.le_of_ble_eq_true rfl) ?_
  intro p e s m below meth c F hr hlocks _ Z ls hl
  have hl : lv_has ls 3 [(0, .ref (A0 + 703)), (1, .long x1)] := hl
  have hx := F.1.1
  have hb := F.1.2.1
  have hown := F.1.2.2.2.1
  have hts := F.1.2.2.2.2
  refine lv_aload_n hx hb dX12_seed_0 rfl (lv_at hl 0 rfl) ?_
  refine lv_iconst (v := 0) hx hb dX12_seed_1 (by decide) ?_
  refine zw_putI F Z zC12 (a := 703) (k := 0) (by decide) zs_703 (by decide) rfl (by decide) zq1250 (Or.inl rfl) rfl ⟨rfl, rfl⟩ dX12_seed_2 (fun σ2 _ _ eσ2 Z => ?_)
  replace h := lt_w h eσ2
  refine lv_aload_n hx hb dX12_seed_5 rfl (lv_at hl 0 rfl) ?_
  refine lv_lload_n hx hb dX12_seed_6 rfl (lv_at hl 1 rfl) ?_
  refine zw_putJ F Z zC12 (a := 703) (k := 34) (by decide) zs_703 (by decide) rfl (by decide) zq1284 (Or.inl rfl) rfl ⟨rfl, rfl⟩ dX12_seed_7 (fun σ7 _ _ eσ7 Z => ?_)
  replace h := lt_w h eσ7
  refine lv_iconst (v := 1) hx hb dX12_seed_10 (by decide) ?_
  obtain ⟨hq1, hq2⟩ := zpq h
  exact ze_z F Z hr hlocks (by decide) hq1 hq2 dX12_seed_11
set_option maxHeartbeats 4000000 in
set_option maxRecDepth 100000 in
theorem zcX12_askOf (l : Launch) (D : va_G) (A0 : Nat) (x1 : Int32) (σ : Mm) (r0 : Int32) (σr : Mm) (h : zfX12_askOf x1 σ = some (r0, σr)) : Met l yX12_askOf (zws yX12_askOf cX12_askOf 5 (some .int)) (zR 397 14871) (zPc D A0 σ GF 740 [.ref (A0 + 703), .int x1]) (zQi D A0 r0 σr GF 740) 0 0 (zA A0) := by
  unfold zfX12_askOf at h
  refine zmet (own := RX12) (by decide) rfl (Nat.le_of_ble_eq_true rfl) ?_
  intro p e s m below meth c F hr hlocks _ Z ls hl
  have hl : lv_has ls 5 [(0, .ref (A0 + 703)), (1, .int x1)] := hl
  have hx := F.1.1
  have hb := F.1.2.1
  have hown := F.1.2.2.2.1
  have hts := F.1.2.2.2.2
  refine lv_aload_n hx hb dX12_askOf_0 rfl (lv_at hl 0 rfl) ?_
  refine zw_getR F Z zC12 (a := 703) (k := 29) (by decide) zs_703 (by decide) rfl zg_703_29 zq1279 (Or.inl rfl) dX12_askOf_1 ?_
  refine lv_bipush (v := 54) hx hb dX12_askOf_4 (by decide) ?_
  refine zw_iald F Z (by decide) zs_714 (by decide) dX12_askOf_6 ?_
  refine lv_topi (fun x2_7 ex2_7 => ?_)
  replace h := lt_w h ex2_7
  refine lv_istore_n (lv' := [(2, .int x2_7), (0, .ref (A0 + 703)), (1, .int x1)]) hx hb dX12_askOf_7 rfl hl (by decide) rfl (fun ls hl => ?_)
  refine lv_aload_n hx hb dX12_askOf_8 rfl (lv_at hl 1 rfl) ?_
  refine zw_getR F Z zC12 (a := 703) (k := 35) (by decide) zs_703 (by decide) rfl zg_703_35 zq1285 (Or.inl rfl) dX12_askOf_9 ?_
  refine lv_iload_n hx hb dX12_askOf_12 rfl (lv_at hl 2 rfl) ?_
  obtain ⟨hk13, h⟩ := ck_x h
  refine zw_iald F Z (by decide) zs_717 hk13 dX12_askOf_13 ?_
  refine lv_iconst (v := (-1)) hx hb dX12_askOf_14 (by decide) ?_
  refine zb_iceq (tgt := 25) hx hb dX12_askOf_15 (by decide) h (fun h => ?_) (fun h => ?_)
  · refine lv_aload_n hx hb dX12_askOf_25 rfl (lv_at hl 1 rfl) ?_
    refine zw_getI F Z zC12 (a := 703) (k := 41) (by decide) zs_703 (by decide) rfl zq1291 (Or.inl rfl) dX12_askOf_26 ?_
    refine lv_iload_n hx hb dX12_askOf_29 rfl (lv_at hl 2 rfl) ?_
    refine zc_i Z (zr_S F Z (As := [.int (σ 703 41), .int x1]) (zcX12_has l D A0 (σ 703 41) x1 σ (zfX12_has (σ 703 41) x1) rfl) zBX12_has zq1530 rfl ⟨⟨rfl, rfl⟩, Nat.le_of_ble_eq_true rfl, Nat.le_of_ble_eq_true rfl⟩ hl.1 rfl (Nat.le_of_ble_eq_true rfl) dX12_askOf_30 ⟨Nat.le_of_ble_eq_true rfl, Nat.le_of_ble_eq_true rfl⟩) (fun _ _ Z => ?_)
    refine zb_ifeq (tgt := 38) hx hb dX12_askOf_33 (by decide) h (fun h => ?_) (fun h => ?_)
    · refine lv_aload_n hx hb dX12_askOf_38 rfl (lv_at hl 1 rfl) ?_
      refine zw_getR F Z zC12 (a := 703) (k := 31) (by decide) zs_703 (by decide) rfl zg_703_31 zq1281 (Or.inl rfl) dX12_askOf_39 ?_
      refine lv_iload_n hx hb dX12_askOf_42 rfl (lv_at hl 2 rfl) ?_
      obtain ⟨hk43, h⟩ := ck_x h
      refine zw_iald F Z (by decide) zs_716 hk43 dX12_askOf_43 ?_
      refine lv_iconst (v := (-1)) hx hb dX12_askOf_44 (by decide) ?_
      refine zb_icne (tgt := 50) hx hb dX12_askOf_45 (by decide) h (fun h => ?_) (fun h => ?_)
      · refine lv_iconst (v := 0) hx hb dX12_askOf_50 (by decide) ?_
        refine lv_istore_n (lv' := [(3, .int 0), (2, .int x2_7), (0, .ref (A0 + 703)), (1, .int x1)]) hx hb dX12_askOf_51 rfl hl (by decide) rfl (fun ls hl => ?_)
        refine lv_iconst (v := 0) hx hb dX12_askOf_52 (by decide) ?_
        refine lv_istore (lv' := [(4, .int 0), (3, .int 0), (2, .int x2_7), (0, .ref (A0 + 703)), (1, .int x1)]) hx hb dX12_askOf_53 hl (by decide) rfl (fun ls hl => ?_)
        obtain ⟨k78, ek78, h⟩ := lt_x h
        have hk78 : ∀ (x3_78 : Int32) (σ78 : Mm) (H : Heap) (locs : List Loc) (ls : Array Slot), zh D A0 σ78 GF 740 s.heap H locs → lv_has ls 5 [(0, .ref (A0 + 703)), (1, .int x1), (2, .int x2_7), (3, .int x3_78)] → k78 x3_78 σ78 = some (r0, σr) → W p l e (zR 397 14871) s m [.ref (A0 + 703), .int x1].toArray below meth c H locs 0 0 (MQ below (zQi D A0 r0 σr GF 740) [.ref (A0 + 703), .int x1].toArray s 0 0 (zA A0)) (F0 m 78 ls []) := by
          intro x3_78 σ78 H locs ls Z hl h
          rw [ek78] at h
          try dsimp only at h
          refine lv_aload_n hx hb dX12_askOf_78 rfl (lv_at hl 0 rfl) ?_
          refine zw_getR F Z zC12 (a := 703) (k := 4) (by decide) zs_703 (by decide) rfl zg_703_4 zq1254 (Or.inl rfl) dX12_askOf_79 ?_
          refine lv_bipush (v := 112) hx hb dX12_askOf_82 (by decide) ?_
          refine lv_iload_n hx hb dX12_askOf_84 rfl (lv_at hl 2 rfl) ?_
          refine zw_iast F Z (by decide) zs_707 (by decide) dX12_askOf_85 (fun σ85 _ _ eσ85 Z => ?_)
          replace h := lt_w h eσ85
          refine lv_aload_n hx hb dX12_askOf_86 rfl (lv_at hl 0 rfl) ?_
          refine zw_getR F Z zC12 (a := 703) (k := 4) (by decide) zs_703 (by decide) rfl zg_703_4 zq1254 (Or.inl rfl) dX12_askOf_87 ?_
          refine lv_bipush (v := 103) hx hb dX12_askOf_90 (by decide) ?_
          refine lv_aload_n hx hb dX12_askOf_92 rfl (lv_at hl 0 rfl) ?_
          refine zw_getR F Z zC12 (a := 703) (k := 29) (by decide) zs_703 (by decide) rfl zg_703_29 zq1279 (Or.inl rfl) dX12_askOf_93 ?_
          refine lv_iload_n hx hb dX12_askOf_96 rfl (lv_at hl 1 rfl) ?_
          obtain ⟨hk97, h⟩ := ck_x h
          refine zw_iald F Z (by decide) zs_714 hk97 dX12_askOf_97 ?_
          refine zw_iast F Z (by decide) zs_707 (by decide) dX12_askOf_98 (fun σ98 _ _ eσ98 Z => ?_)
          replace h := lt_w h eσ98
          refine lv_aload_n hx hb dX12_askOf_99 rfl (lv_at hl 0 rfl) ?_
          refine zw_getR F Z zC12 (a := 703) (k := 4) (by decide) zs_703 (by decide) rfl zg_703_4 zq1254 (Or.inl rfl) dX12_askOf_100 ?_
          refine lv_bipush (v := 99) hx hb dX12_askOf_103 (by decide) ?_
          refine lv_aload_n hx hb dX12_askOf_105 rfl (lv_at hl 0 rfl) ?_
          refine zw_getR F Z zC12 (a := 703) (k := 18) (by decide) zs_703 (by decide) rfl zg_703_18 zq1268 (Or.inl rfl) dX12_askOf_106 ?_
          refine lv_iconst (v := 3) hx hb dX12_askOf_109 (by decide) ?_
          refine lv_iload_n hx hb dX12_askOf_110 rfl (lv_at hl 1 rfl) ?_
          refine lv_imul hx hb dX12_askOf_111 ?_
          refine lv_iconst (v := 1) hx hb dX12_askOf_112 (by decide) ?_
          refine lv_iadd hx hb dX12_askOf_113 ?_
          obtain ⟨hk114, h⟩ := ck_x h
          refine zw_iald F Z (by decide) zs_708 hk114 dX12_askOf_114 ?_
          refine zw_iast F Z (by decide) zs_707 (by decide) dX12_askOf_115 (fun σ115 _ _ eσ115 Z => ?_)
          replace h := lt_w h eσ115
          refine lv_aload_n hx hb dX12_askOf_116 rfl (lv_at hl 0 rfl) ?_
          refine zw_getR F Z zC12 (a := 703) (k := 4) (by decide) zs_703 (by decide) rfl zg_703_4 zq1254 (Or.inl rfl) dX12_askOf_117 ?_
          refine lv_bipush (v := 100) hx hb dX12_askOf_120 (by decide) ?_
          refine lv_aload_n hx hb dX12_askOf_122 rfl (lv_at hl 0 rfl) ?_
          refine zw_getR F Z zC12 (a := 703) (k := 29) (by decide) zs_703 (by decide) rfl zg_703_29 zq1279 (Or.inl rfl) dX12_askOf_123 ?_
          refine lv_bipush (v := 56) hx hb dX12_askOf_126 (by decide) ?_
          refine zw_iald F Z (by decide) zs_714 (by decide) dX12_askOf_128 ?_
          refine zw_iast F Z (by decide) zs_707 (by decide) dX12_askOf_129 (fun σ129 _ _ eσ129 Z => ?_)
          replace h := lt_w h eσ129
          refine lv_aload_n hx hb dX12_askOf_130 rfl (lv_at hl 0 rfl) ?_
          refine zw_getR F Z zC12 (a := 703) (k := 4) (by decide) zs_703 (by decide) rfl zg_703_4 zq1254 (Or.inl rfl) dX12_askOf_131 ?_
          refine lv_bipush (v := 117) hx hb dX12_askOf_134 (by decide) ?_
          refine lv_aload_n hx hb dX12_askOf_136 rfl (lv_at hl 0 rfl) ?_
          refine zw_getR F Z zC12 (a := 703) (k := 29) (by decide) zs_703 (by decide) rfl zg_703_29 zq1279 (Or.inl rfl) dX12_askOf_137 ?_
          refine lv_bipush (v := 6) hx hb dX12_askOf_140 (by decide) ?_
          refine lv_iload_n hx hb dX12_askOf_142 rfl (lv_at hl 1 rfl) ?_
          refine lv_iadd hx hb dX12_askOf_143 ?_
          obtain ⟨hk144, h⟩ := ck_x h
          refine zw_iald F Z (by decide) zs_714 hk144 dX12_askOf_144 ?_
          refine zw_iast F Z (by decide) zs_707 (by decide) dX12_askOf_145 (fun σ145 _ _ eσ145 Z => ?_)
          replace h := lt_w h eσ145
          refine lv_aload_n hx hb dX12_askOf_146 rfl (lv_at hl 0 rfl) ?_
          refine zw_getR F Z zC12 (a := 703) (k := 4) (by decide) zs_703 (by decide) rfl zg_703_4 zq1254 (Or.inl rfl) dX12_askOf_147 ?_
          refine lv_bipush (v := 119) hx hb dX12_askOf_150 (by decide) ?_
          refine lv_iload_n hx hb dX12_askOf_152 rfl (lv_at hl 3 rfl) ?_
          refine zw_iast F Z (by decide) zs_707 (by decide) dX12_askOf_153 (fun σ153 _ _ eσ153 Z => ?_)
          replace h := lt_w h eσ153
          refine lv_aload_n hx hb dX12_askOf_154 rfl (lv_at hl 0 rfl) ?_
          refine lv_aload_n hx hb dX12_askOf_155 rfl (lv_at hl 0 rfl) ?_
          refine zw_getR F Z zC12 (a := 703) (k := 2) (by decide) zs_703 (by decide) rfl zg_703_2 zq1252 (Or.inl rfl) dX12_askOf_156 ?_
          refine lv_sipush (v := 160) hx hb dX12_askOf_159 (by decide) ?_
          refine lv_aload_n hx hb dX12_askOf_162 rfl (lv_at hl 0 rfl) ?_
          refine zw_getR F Z zC12 (a := 703) (k := 31) (by decide) zs_703 (by decide) rfl zg_703_31 zq1281 (Or.inl rfl) dX12_askOf_163 ?_
          refine lv_iload_n hx hb dX12_askOf_166 rfl (lv_at hl 1 rfl) ?_
          obtain ⟨hk167, h⟩ := ck_x h
          refine zw_iald F Z (by decide) zs_716 hk167 dX12_askOf_167 ?_
          refine lv_imul hx hb dX12_askOf_168 ?_
          refine lv_aload_n hx hb dX12_askOf_169 rfl (lv_at hl 0 rfl) ?_
          refine zw_getR F Z zC12 (a := 703) (k := 3) (by decide) zs_703 (by decide) rfl zg_703_3 zq1253 (Or.inl rfl) dX12_askOf_170 ?_
          refine lv_aload_n hx hb dX12_askOf_173 rfl (lv_at hl 0 rfl) ?_
          refine zw_getR F Z zC12 (a := 703) (k := 31) (by decide) zs_703 (by decide) rfl zg_703_31 zq1281 (Or.inl rfl) dX12_askOf_174 ?_
          refine lv_iload_n hx hb dX12_askOf_177 rfl (lv_at hl 1 rfl) ?_
          obtain ⟨hk178, h⟩ := ck_x h
          refine zw_iald F Z (by decide) zs_716 hk178 dX12_askOf_178 ?_
          obtain ⟨hk179, h⟩ := ck_x h
          refine zw_iald F Z (by decide) zs_706 hk179 dX12_askOf_179 ?_
          obtain ⟨σ180, hc180, h⟩ := bd_x h
          refine zc_v Z (zr_V F Z (a := 703) (As := [.ref (A0 + 705), .int (160 * (σ153 716 (ix x1))), .int (σ153 706 (ix (σ153 716 (ix x1))))]) (zcX12_goThrough l D A0 705 (160 * (σ153 716 (ix x1))) (σ153 706 (ix (σ153 716 (ix x1)))) (by decide) σ153 σ180 hc180) zBX12_goThrough zq1548 (by decide) zs_703 zC12.1 rfl ⟨⟨rfl, rfl⟩, Nat.le_of_ble_eq_true rfl, Nat.le_of_ble_eq_true rfl⟩ hl.1 rfl (Nat.le_of_ble_eq_true rfl) dX12_askOf_180 ⟨Nat.le_of_ble_eq_true rfl, Nat.le_of_ble_eq_true rfl⟩) (fun _ _ Z => ?_)
          refine lv_iconst (v := 0) hx hb dX12_askOf_183 (by decide) ?_
          refine lv_iload_n hx hb dX12_askOf_184 rfl (lv_at hl 2 rfl) ?_
          refine lv_aload_n hx hb dX12_askOf_185 rfl (lv_at hl 0 rfl) ?_
          refine zw_getI F Z zC12 (a := 703) (k := 14) (by decide) zs_703 (by decide) rfl zq1264 (Or.inl rfl) dX12_askOf_186 ?_
          refine zw_zmin F hl.1 zq1667 (Nat.le_of_ble_eq_true rfl) (Nat.le_of_ble_eq_true rfl) (Nat.le_of_ble_eq_true rfl) (Nat.le_of_ble_eq_true rfl) dX12_askOf_189 ?_
          refine zw_zmax F hl.1 zq1672 (Nat.le_of_ble_eq_true rfl) (Nat.le_of_ble_eq_true rfl) (Nat.le_of_ble_eq_true rfl) (Nat.le_of_ble_eq_true rfl) dX12_askOf_192 ?_
          obtain ⟨hq1, hq2⟩ := zpq h
          exact ze_i F Z hr hlocks hq1 hq2 dX12_askOf_195
        have hL55 : ∀ (fu55 : Nat) (x3_55 : Int32) (x4_55 : Int32) (σ55 : Mm) (H : Heap) (locs : List Loc) (ls : Array Slot), zh D A0 σ55 GF 740 s.heap H locs → lv_has ls 5 [(0, .ref (A0 + 703)), (1, .int x1), (2, .int x2_7), (3, .int x3_55), (4, .int x4_55)] → zfX12_askOf_L55 k78 fu55 x3_55 x4_55 σ55 = some (r0, σr) → W p l e (zR 397 14871) s m [.ref (A0 + 703), .int x1].toArray below meth c H locs 0 0 (MQ below (zQi D A0 r0 σr GF 740) [.ref (A0 + 703), .int x1].toArray s 0 0 (zA A0)) (F0 m 55 ls []) := by
          intro fu55
          induction fu55 with
          | zero => intro x3_55 x4_55 σ55 H locs ls Z hl h; rw [zfX12_askOf_L55] at h; cases h
          | succ fu55 ih55 =>
            intro x3_55 x4_55 σ55 H locs ls Z hl h
            rw [zfX12_askOf_L55] at h
            refine lv_iload hx hb dX12_askOf_55 (lv_at hl 4 rfl) ?_
            refine lv_bipush (v := 24) hx hb dX12_askOf_57 (by decide) ?_
            refine zb_icge (tgt := 78) hx hb dX12_askOf_59 (by decide) h (fun h => ?_) (fun h => ?_)
            · exact hk78 x3_55 σ55 _ _ _ Z (lv_sub hl [0, 1, 2, 3] rfl) h
            · refine lv_iload_n hx hb dX12_askOf_62 rfl (lv_at hl 3 rfl) ?_
              refine lv_aload_n hx hb dX12_askOf_63 rfl (lv_at hl 0 rfl) ?_
              refine zw_getR F Z zC12 (a := 703) (k := 39) (by decide) zs_703 (by decide) rfl zg_703_39 zq1289 (Or.inl rfl) dX12_askOf_64 ?_
              refine lv_iload hx hb dX12_askOf_67 (lv_at hl 4 rfl) ?_
              obtain ⟨hk69, h⟩ := ck_x h
              refine zw_iald F Z (by decide) zs_721 hk69 dX12_askOf_69 ?_
              refine lv_iadd hx hb dX12_askOf_70 ?_
              refine lv_topi (fun x3_71 ex3_71 => ?_)
              replace h := lt_w h ex3_71
              refine lv_istore_n (lv' := [(3, .int x3_71), (0, .ref (A0 + 703)), (1, .int x1), (2, .int x2_7), (4, .int x4_55)]) hx hb dX12_askOf_71 rfl hl (by decide) rfl (fun ls hl => ?_)
              obtain ⟨x4_72, ex4_72⟩ : ∃ y : Int32, y = x4_55 + 1 := ⟨_, rfl⟩
              replace h := lt_w h ex4_72
              refine lv_iinc (v := x4_72) (lv' := [(4, .int x4_72), (3, .int x3_71), (0, .ref (A0 + 703)), (1, .int x1), (2, .int x2_7)]) hx hb dX12_askOf_72 hl (k := 4) rfl (by rw [ex4_72]; rfl) (by decide) rfl (fun ls hl => ?_)
              refine lv_goto (tgt := 55) hx hb dX12_askOf_75 (by decide) ?_
              exact ih55 x3_71 x4_72 σ55 _ _ _ Z (lv_sub hl [2, 3, 4, 1, 0] rfl) h
        exact hL55 NF 0 0 σ _ _ _ Z (lv_sub hl [3, 4, 2, 1, 0] rfl) h
      · refine lv_iload_n hx hb dX12_askOf_48 rfl (lv_at hl 0 rfl) ?_
        obtain ⟨hq1, hq2⟩ := zpq h
        exact ze_i F Z hr hlocks hq1 hq2 dX12_askOf_49
    · refine lv_iload_n hx hb dX12_askOf_36 rfl (lv_at hl 0 rfl) ?_
      obtain ⟨hq1, hq2⟩ := zpq h
      exact ze_i F Z hr hlocks hq1 hq2 dX12_askOf_37
  · refine lv_aload_n hx hb dX12_askOf_18 rfl (lv_at hl 1 rfl) ?_
    refine zw_getR F Z zC12 (a := 703) (k := 35) (by decide) zs_703 (by decide) rfl zg_703_35 zq1285 (Or.inl rfl) dX12_askOf_19 ?_
    refine lv_iload_n hx hb dX12_askOf_22 rfl (lv_at hl 2 rfl) ?_
    obtain ⟨hk23, h⟩ := ck_x h
    refine zw_iald F Z (by decide) zs_717 hk23 dX12_askOf_23 ?_
    obtain ⟨hq1, hq2⟩ := zpq h
    exact ze_i F Z hr hlocks hq1 hq2 dX12_askOf_24
set_option maxHeartbeats 4000000 in
set_option maxRecDepth 100000 in
theorem zcX12_isSelling (l : Launch) (D : va_G) (A0 : Nat) (x1 : Int32) (σ : Mm) (r0 : Int32) (h : zfX12_isSelling x1 σ = some r0) : Met l yX12_isSelling (zws yX12_isSelling cX12_isSelling 2 (some .boolean)) (zR 1 21) (zPc D A0 σ GF 740 [.ref (A0 + 703), .int x1]) (zQi D A0 r0 σ GF 740) 0 0 (zA A0) := by
  unfold zfX12_isSelling at h
  refine zmet (own := RX12) (by decide) rfl (Nat.le_of_ble_eq_true rfl) ?_
  intro p e s m below meth c F hr hlocks _ Z ls hl
  have hl : lv_has ls 2 [(0, .ref (A0 + 703)), (1, .int x1)] := hl
  have hx := F.1.1
  have hb := F.1.2.1
  have hown := F.1.2.2.2.1
  have hts := F.1.2.2.2.2
  refine lv_iload_n hx hb dX12_isSelling_0 rfl (lv_at hl 1 rfl) ?_
  refine lv_aload_n hx hb dX12_isSelling_1 rfl (lv_at hl 0 rfl) ?_
  refine zw_getI F Z zC12 (a := 703) (k := 24) (by decide) zs_703 (by decide) rfl zq1274 (Or.inl rfl) dX12_isSelling_2 ?_
  refine zb_icne (tgt := 27) hx hb dX12_isSelling_5 (by decide) h (fun h => ?_) (fun h => ?_)
  · refine lv_aload_n hx hb dX12_isSelling_27 rfl (lv_at hl 0 rfl) ?_
    refine zw_getR F Z zC12 (a := 703) (k := 29) (by decide) zs_703 (by decide) rfl zg_703_29 zq1279 (Or.inl rfl) dX12_isSelling_28 ?_
    refine lv_iload_n hx hb dX12_isSelling_31 rfl (lv_at hl 1 rfl) ?_
    obtain ⟨hk32, h⟩ := ck_x h
    refine zw_iald F Z (by decide) zs_714 hk32 dX12_isSelling_32 ?_
    obtain ⟨j51, ej51, h⟩ := lt_x h
    have hj51 : ∀  (H : Heap) (locs : List Loc) (ls : Array Slot), zh D A0 σ GF 740 s.heap H locs → lv_has ls 2 [] → j51 () = some r0 → W p l e (zR 1 21) s m [.ref (A0 + 703), .int x1].toArray below meth c H locs 0 0 (MQ below (zQi D A0 r0 σ GF 740) [.ref (A0 + 703), .int x1].toArray s 0 0 (zA A0)) (F0 m 51 ls []) := by
      intro  H locs ls Z hl h
      rw [ej51] at h
      try dsimp only at h
      refine lv_iconst (v := 0) hx hb dX12_isSelling_51 (by decide) ?_
      have hq := Option.some.inj h
      exact ze_z F Z hr hlocks (by decide) hq rfl dX12_isSelling_52
    refine zb_ifle (tgt := 51) hx hb dX12_isSelling_33 (by decide) h (fun h => ?_) (fun h => ?_)
    · exact hj51  _ _ _ Z (lv_sub hl [] rfl) h
    · refine lv_aload_n hx hb dX12_isSelling_36 rfl (lv_at hl 0 rfl) ?_
      refine zw_getI F Z zC12 (a := 703) (k := 41) (by decide) zs_703 (by decide) rfl zq1291 (Or.inl rfl) dX12_isSelling_37 ?_
      refine lv_iload_n hx hb dX12_isSelling_40 rfl (lv_at hl 1 rfl) ?_
      refine zc_i Z (zr_S F Z (As := [.int (σ 703 41), .int x1]) (zcX12_has l D A0 (σ 703 41) x1 σ (zfX12_has (σ 703 41) x1) rfl) zBX12_has zq1530 rfl ⟨⟨rfl, rfl⟩, Nat.le_of_ble_eq_true rfl, Nat.le_of_ble_eq_true rfl⟩ hl.1 rfl (Nat.le_of_ble_eq_true rfl) dX12_isSelling_41 ⟨Nat.le_of_ble_eq_true rfl, Nat.le_of_ble_eq_true rfl⟩) (fun _ _ Z => ?_)
      refine zb_ifne (tgt := 51) hx hb dX12_isSelling_44 (by decide) h (fun h => ?_) (fun h => ?_)
      · exact hj51  _ _ _ Z (lv_sub hl [] rfl) h
      · refine lv_iconst (v := 1) hx hb dX12_isSelling_47 (by decide) ?_
        refine lv_goto (tgt := 52) hx hb dX12_isSelling_48 (by decide) ?_
        have hq := Option.some.inj h
        exact ze_z F Z hr hlocks (by decide) hq rfl dX12_isSelling_52
  · refine lv_aload_n hx hb dX12_isSelling_8 rfl (lv_at hl 0 rfl) ?_
    refine zw_getI F Z zC12 (a := 703) (k := 43) (by decide) zs_703 (by decide) rfl zq1293 (Or.inl rfl) dX12_isSelling_9 ?_
    refine lv_aload_n hx hb dX12_isSelling_12 rfl (lv_at hl 0 rfl) ?_
    refine zw_getI F Z zC12 (a := 703) (k := 45) (by decide) zs_703 (by decide) rfl zq1295 (Or.inl rfl) dX12_isSelling_13 ?_
    refine zb_icle (tgt := 23) hx hb dX12_isSelling_16 (by decide) h (fun h => ?_) (fun h => ?_)
    · refine lv_iconst (v := 0) hx hb dX12_isSelling_23 (by decide) ?_
      refine lv_goto (tgt := 52) hx hb dX12_isSelling_24 (by decide) ?_
      have hq := Option.some.inj h
      exact ze_z F Z hr hlocks (by decide) hq rfl dX12_isSelling_52
    · refine lv_iconst (v := 1) hx hb dX12_isSelling_19 (by decide) ?_
      refine lv_goto (tgt := 52) hx hb dX12_isSelling_20 (by decide) ?_
      have hq := Option.some.inj h
      exact ze_z F Z hr hlocks (by decide) hq rfl dX12_isSelling_52
set_option maxHeartbeats 4000000 in
set_option maxRecDepth 100000 in
theorem zcX12_cheapest (l : Launch) (D : va_G) (A0 : Nat) (σ : Mm) (r0 : Int32) (h : zfX12_cheapest σ = some r0) : Met l yX12_cheapest (zws yX12_cheapest cX12_cheapest 3 (some .int)) (zR 2 42) (zPc D A0 σ GF 740 [.ref (A0 + 703)]) (zQi D A0 r0 σ GF 740) 0 0 (zA A0) := by
  unfold zfX12_cheapest at h
  refine zmet (own := RX12) (by decide) rfl (Nat.le_of_ble_eq_true rfl) ?_
  intro p e s m below meth c F hr hlocks _ Z ls hl
  have hl : lv_has ls 3 [(0, .ref (A0 + 703))] := hl
  have hx := F.1.1
  have hb := F.1.2.1
  have hown := F.1.2.2.2.1
  have hts := F.1.2.2.2.2
  refine lv_iconst (v := (-1)) hx hb dX12_cheapest_0 (by decide) ?_
  refine lv_istore_n (lv' := [(1, .int (-1)), (0, .ref (A0 + 703))]) hx hb dX12_cheapest_1 rfl hl (by decide) rfl (fun ls hl => ?_)
  refine lv_iconst (v := 0) hx hb dX12_cheapest_2 (by decide) ?_
  refine lv_istore_n (lv' := [(2, .int 0), (1, .int (-1)), (0, .ref (A0 + 703))]) hx hb dX12_cheapest_3 rfl hl (by decide) rfl (fun ls hl => ?_)
  obtain ⟨k48, ek48, h⟩ := lt_x h
  have hk48 : ∀ (x1_48 : Int32) (H : Heap) (locs : List Loc) (ls : Array Slot), zh D A0 σ GF 740 s.heap H locs → lv_has ls 3 [(1, .int x1_48)] → k48 x1_48 = some r0 → W p l e (zR 2 42) s m [.ref (A0 + 703)].toArray below meth c H locs 0 0 (MQ below (zQi D A0 r0 σ GF 740) [.ref (A0 + 703)].toArray s 0 0 (zA A0)) (F0 m 48 ls []) := by
    intro x1_48 H locs ls Z hl h
    rw [ek48] at h
    try dsimp only at h
    refine lv_iload_n hx hb dX12_cheapest_48 rfl (lv_at hl 0 rfl) ?_
    have hq := Option.some.inj h
    exact ze_i F Z hr hlocks hq rfl dX12_cheapest_49
  have hL4 : ∀ (fu4 : Nat) (x1_4 : Int32) (x2_4 : Int32) (H : Heap) (locs : List Loc) (ls : Array Slot), zh D A0 σ GF 740 s.heap H locs → lv_has ls 3 [(0, .ref (A0 + 703)), (1, .int x1_4), (2, .int x2_4)] → zfX12_cheapest_L4 σ k48 fu4 x1_4 x2_4 = some r0 → W p l e (zR 2 42) s m [.ref (A0 + 703)].toArray below meth c H locs 0 0 (MQ below (zQi D A0 r0 σ GF 740) [.ref (A0 + 703)].toArray s 0 0 (zA A0)) (F0 m 4 ls []) := by
    intro fu4
    induction fu4 with
    | zero => intro x1_4 x2_4 H locs ls Z hl h; rw [zfX12_cheapest_L4] at h; cases h
    | succ fu4 ih4 =>
      intro x1_4 x2_4 H locs ls Z hl h
      rw [zfX12_cheapest_L4] at h
      refine lv_iload_n hx hb dX12_cheapest_4 rfl (lv_at hl 2 rfl) ?_
      refine lv_aload_n hx hb dX12_cheapest_5 rfl (lv_at hl 0 rfl) ?_
      refine zw_getI F Z zC12 (a := 703) (k := 24) (by decide) zs_703 (by decide) rfl zq1274 (Or.inl rfl) dX12_cheapest_6 ?_
      refine zb_icgt (tgt := 48) hx hb dX12_cheapest_9 (by decide) h (fun h => ?_) (fun h => ?_)
      · exact hk48 x1_4 _ _ _ Z (lv_sub hl [1] rfl) h
      · refine lv_aload_n hx hb dX12_cheapest_12 rfl (lv_at hl 0 rfl) ?_
        refine lv_iload_n hx hb dX12_cheapest_13 rfl (lv_at hl 2 rfl) ?_
        obtain ⟨r14, hc14, h⟩ := bd_x h
        refine zc_i Z (zr_V F Z (a := 703) (As := [.int x2_4]) (zcX12_isSelling l D A0 x2_4 σ r14 hc14) zBX12_isSelling zq1689 (by decide) zs_703 zC12.1 rfl ⟨⟨rfl, rfl⟩, Nat.le_of_ble_eq_true rfl, Nat.le_of_ble_eq_true rfl⟩ hl.1 rfl (Nat.le_of_ble_eq_true rfl) dX12_cheapest_14 ⟨Nat.le_of_ble_eq_true rfl, Nat.le_of_ble_eq_true rfl⟩) (fun _ _ Z => ?_)
        obtain ⟨j42, ej42, h⟩ := lt_x h
        have hj42 : ∀ (x1_42 : Int32) (H : Heap) (locs : List Loc) (ls : Array Slot), zh D A0 σ GF 740 s.heap H locs → lv_has ls 3 [(0, .ref (A0 + 703)), (1, .int x1_42), (2, .int x2_4)] → j42 x1_42 = some r0 → W p l e (zR 2 42) s m [.ref (A0 + 703)].toArray below meth c H locs 0 0 (MQ below (zQi D A0 r0 σ GF 740) [.ref (A0 + 703)].toArray s 0 0 (zA A0)) (F0 m 42 ls []) := by
          intro x1_42 H locs ls Z hl h
          rw [ej42] at h
          try dsimp only at h
          obtain ⟨x2_42, ex2_42⟩ : ∃ y : Int32, y = x2_4 + 1 := ⟨_, rfl⟩
          replace h := lt_w h ex2_42
          refine lv_iinc (v := x2_42) (lv' := [(2, .int x2_42), (0, .ref (A0 + 703)), (1, .int x1_42)]) hx hb dX12_cheapest_42 hl (k := 2) rfl (by rw [ex2_42]; rfl) (by decide) rfl (fun ls hl => ?_)
          refine lv_goto (tgt := 4) hx hb dX12_cheapest_45 (by decide) ?_
          exact ih4 x1_42 x2_42 _ _ _ Z (lv_sub hl [1, 2, 0] rfl) h
        refine zb_ifeq (tgt := 42) hx hb dX12_cheapest_17 (by decide) h (fun h => ?_) (fun h => ?_)
        · exact hj42 x1_4 _ _ _ Z (lv_sub hl [0, 1, 2] rfl) h
        · refine lv_iload_n hx hb dX12_cheapest_20 rfl (lv_at hl 1 rfl) ?_
          refine lv_iconst (v := (-1)) hx hb dX12_cheapest_21 (by decide) ?_
          obtain ⟨j40, ej40, h⟩ := lt_x h
          have hj40 : ∀  (H : Heap) (locs : List Loc) (ls : Array Slot), zh D A0 σ GF 740 s.heap H locs → lv_has ls 3 [(0, .ref (A0 + 703)), (2, .int x2_4)] → j40 () = some r0 → W p l e (zR 2 42) s m [.ref (A0 + 703)].toArray below meth c H locs 0 0 (MQ below (zQi D A0 r0 σ GF 740) [.ref (A0 + 703)].toArray s 0 0 (zA A0)) (F0 m 40 ls []) := by
            intro  H locs ls Z hl h
            rw [ej40] at h
            try dsimp only at h
            refine lv_iload_n hx hb dX12_cheapest_40 rfl (lv_at hl 1 rfl) ?_
            refine lv_istore_n (lv' := [(1, .int x2_4), (0, .ref (A0 + 703)), (2, .int x2_4)]) hx hb dX12_cheapest_41 rfl hl (by decide) rfl (fun ls hl => ?_)
            exact hj42 x2_4 _ _ _ Z (lv_sub hl [1, 0, 2] rfl) h
          refine zb_iceq (tgt := 40) hx hb dX12_cheapest_22 (by decide) h (fun h => ?_) (fun h => ?_)
          · exact hj40  _ _ _ Z (lv_sub hl [0, 2] rfl) h
          · refine lv_aload_n hx hb dX12_cheapest_25 rfl (lv_at hl 0 rfl) ?_
            refine zw_getR F Z zC12 (a := 703) (k := 36) (by decide) zs_703 (by decide) rfl zg_703_36 zq1286 (Or.inl rfl) dX12_cheapest_26 ?_
            refine lv_iload_n hx hb dX12_cheapest_29 rfl (lv_at hl 2 rfl) ?_
            obtain ⟨hk30, h⟩ := ck_x h
            refine zw_iald F Z (by decide) zs_718 hk30 dX12_cheapest_30 ?_
            refine lv_aload_n hx hb dX12_cheapest_31 rfl (lv_at hl 0 rfl) ?_
            refine zw_getR F Z zC12 (a := 703) (k := 36) (by decide) zs_703 (by decide) rfl zg_703_36 zq1286 (Or.inl rfl) dX12_cheapest_32 ?_
            refine lv_iload_n hx hb dX12_cheapest_35 rfl (lv_at hl 1 rfl) ?_
            obtain ⟨hk36, h⟩ := ck_x h
            refine zw_iald F Z (by decide) zs_718 hk36 dX12_cheapest_36 ?_
            refine zb_icge (tgt := 42) hx hb dX12_cheapest_37 (by decide) h (fun h => ?_) (fun h => ?_)
            · exact hj42 x1_4 _ _ _ Z (lv_sub hl [0, 1, 2] rfl) h
            · exact hj40  _ _ _ Z (lv_sub hl [0, 2] rfl) h
  exact hL4 NF (-1) 0 _ _ _ Z (lv_sub hl [2, 1, 0] rfl) h
set_option maxHeartbeats 4000000 in
set_option maxRecDepth 100000 in
theorem zcX12_buys (l : Launch) (D : va_G) (A0 : Nat) (x1 : Int32) (σ : Mm) (r0 : Int32) (σr : Mm) (h : zfX12_buys x1 σ = some (r0, σr)) : Met l yX12_buys (zws yX12_buys cX12_buys 3 (some .boolean)) (zR 3 64) (zPc D A0 σ GF 740 [.ref (A0 + 703), .int x1]) (zQi D A0 r0 σr GF 740) 0 0 (zA A0) := by
  unfold zfX12_buys at h
  refine zmet (own := RX12) (by decide) rfl (Nat.le_of_ble_eq_true rfl) ?_
  intro p e s m below meth c F hr hlocks _ Z ls hl
  have hl : lv_has ls 3 [(0, .ref (A0 + 703)), (1, .int x1)] := hl
  have hx := F.1.1
  have hb := F.1.2.1
  have hown := F.1.2.2.2.1
  have hts := F.1.2.2.2.2
  refine lv_aload_n hx hb dX12_buys_0 rfl (lv_at hl 0 rfl) ?_
  obtain ⟨r1, hc1, h⟩ := bd_x h
  refine zc_i Z (zr_V F Z (a := 703) (As := []) (zcX12_cheapest l D A0 σ r1 hc1) zBX12_cheapest zq1685 (by decide) zs_703 zC12.1 rfl ⟨⟨rfl, rfl⟩, Nat.le_of_ble_eq_true rfl, Nat.le_of_ble_eq_true rfl⟩ hl.1 rfl (Nat.le_of_ble_eq_true rfl) dX12_buys_1 ⟨Nat.le_of_ble_eq_true rfl, Nat.le_of_ble_eq_true rfl⟩) (fun _ _ Z => ?_)
  refine lv_istore_n (lv' := [(2, .int r1), (0, .ref (A0 + 703)), (1, .int x1)]) hx hb dX12_buys_4 rfl hl (by decide) rfl (fun ls hl => ?_)
  refine lv_iload_n hx hb dX12_buys_5 rfl (lv_at hl 0 rfl) ?_
  refine lv_iconst (v := (-1)) hx hb dX12_buys_6 (by decide) ?_
  obtain ⟨j27, ej27, h⟩ := lt_x h
  have hj27 : ∀ (σ27 : Mm) (H : Heap) (locs : List Loc) (ls : Array Slot), zh D A0 σ27 GF 740 s.heap H locs → lv_has ls 3 [] → j27 σ27 = some (r0, σr) → W p l e (zR 3 64) s m [.ref (A0 + 703), .int x1].toArray below meth c H locs 0 0 (MQ below (zQi D A0 r0 σr GF 740) [.ref (A0 + 703), .int x1].toArray s 0 0 (zA A0)) (F0 m 27 ls []) := by
    intro  σ27 H locs ls Z hl h
    rw [ej27] at h
    try dsimp only at h
    refine lv_iconst (v := 0) hx hb dX12_buys_27 (by decide) ?_
    obtain ⟨hq1, hq2⟩ := zpq h
    exact ze_z F Z hr hlocks (by decide) hq1 hq2 dX12_buys_28
  refine zb_iceq (tgt := 27) hx hb dX12_buys_7 (by decide) h (fun h => ?_) (fun h => ?_)
  · exact hj27 σ _ _ _ Z (lv_sub hl [] rfl) h
  · refine lv_aload_n hx hb dX12_buys_10 rfl (lv_at hl 1 rfl) ?_
    refine zw_getR F Z zC12 (a := 703) (k := 36) (by decide) zs_703 (by decide) rfl zg_703_36 zq1286 (Or.inl rfl) dX12_buys_11 ?_
    refine lv_iload_n hx hb dX12_buys_14 rfl (lv_at hl 0 rfl) ?_
    obtain ⟨hk15, h⟩ := ck_x h
    refine zw_iald F Z (by decide) zs_718 hk15 dX12_buys_15 ?_
    refine lv_aload_n hx hb dX12_buys_16 rfl (lv_at hl 1 rfl) ?_
    refine zw_getR F Z zC12 (a := 703) (k := 19) (by decide) zs_703 (by decide) rfl zg_703_19 zq1269 (Or.inl rfl) dX12_buys_17 ?_
    refine lv_iconst (v := 3) hx hb dX12_buys_20 (by decide) ?_
    refine lv_iload_n hx hb dX12_buys_21 rfl (lv_at hl 2 rfl) ?_
    refine lv_imul hx hb dX12_buys_22 ?_
    obtain ⟨hk23, h⟩ := ck_x h
    refine zw_iald F Z (by decide) zs_709 hk23 dX12_buys_23 ?_
    refine zb_icle (tgt := 29) hx hb dX12_buys_24 (by decide) h (fun h => ?_) (fun h => ?_)
    · refine lv_aload_n hx hb dX12_buys_29 rfl (lv_at hl 1 rfl) ?_
      refine zw_getR F Z zC12 (a := 703) (k := 37) (by decide) zs_703 (by decide) rfl zg_703_37 zq1287 (Or.inl rfl) dX12_buys_30 ?_
      refine lv_iload_n hx hb dX12_buys_33 rfl (lv_at hl 0 rfl) ?_
      refine lv_dup2_11 hx hb dX12_buys_34 rfl rfl ?_
      obtain ⟨hk35, h⟩ := ck_x h
      refine zw_iald F Z (by decide) zs_719 hk35 dX12_buys_35 ?_
      refine lv_aload_n hx hb dX12_buys_36 rfl (lv_at hl 1 rfl) ?_
      refine zw_getR F Z zC12 (a := 703) (k := 36) (by decide) zs_703 (by decide) rfl zg_703_36 zq1286 (Or.inl rfl) dX12_buys_37 ?_
      refine lv_iload_n hx hb dX12_buys_40 rfl (lv_at hl 0 rfl) ?_
      obtain ⟨hk41, h⟩ := ck_x h
      refine zw_iald F Z (by decide) zs_718 hk41 dX12_buys_41 ?_
      refine lv_iadd hx hb dX12_buys_42 ?_
      obtain ⟨hk43, h⟩ := ck_x h
      refine zw_iast F Z (by decide) zs_719 hk43 dX12_buys_43 (fun σ43 _ _ eσ43 Z => ?_)
      replace h := lt_w h eσ43
      refine lv_aload_n hx hb dX12_buys_44 rfl (lv_at hl 1 rfl) ?_
      refine zw_getR F Z zC12 (a := 703) (k := 29) (by decide) zs_703 (by decide) rfl zg_703_29 zq1279 (Or.inl rfl) dX12_buys_45 ?_
      refine lv_bipush (v := 55) hx hb dX12_buys_48 (by decide) ?_
      refine lv_dup2_11 hx hb dX12_buys_50 rfl rfl ?_
      refine zw_iald F Z (by decide) zs_714 (by decide) dX12_buys_51 ?_
      refine lv_aload_n hx hb dX12_buys_52 rfl (lv_at hl 1 rfl) ?_
      refine zw_getR F Z zC12 (a := 703) (k := 19) (by decide) zs_703 (by decide) rfl zg_703_19 zq1269 (Or.inl rfl) dX12_buys_53 ?_
      refine lv_iconst (v := 3) hx hb dX12_buys_56 (by decide) ?_
      refine lv_iload_n hx hb dX12_buys_57 rfl (lv_at hl 2 rfl) ?_
      refine lv_imul hx hb dX12_buys_58 ?_
      obtain ⟨hk59, h⟩ := ck_x h
      refine zw_iald F Z (by decide) zs_709 hk59 dX12_buys_59 ?_
      refine lv_aload_n hx hb dX12_buys_60 rfl (lv_at hl 1 rfl) ?_
      refine zw_getR F Z zC12 (a := 703) (k := 36) (by decide) zs_703 (by decide) rfl zg_703_36 zq1286 (Or.inl rfl) dX12_buys_61 ?_
      refine lv_iload_n hx hb dX12_buys_64 rfl (lv_at hl 0 rfl) ?_
      obtain ⟨hk65, h⟩ := ck_x h
      refine zw_iald F Z (by decide) zs_718 hk65 dX12_buys_65 ?_
      refine lv_isub hx hb dX12_buys_66 ?_
      refine lv_iadd hx hb dX12_buys_67 ?_
      refine zw_iast F Z (by decide) zs_714 (by decide) dX12_buys_68 (fun σ68 _ _ eσ68 Z => ?_)
      replace h := lt_w h eσ68
      refine lv_iload_n hx hb dX12_buys_69 rfl (lv_at hl 0 rfl) ?_
      refine lv_aload_n hx hb dX12_buys_70 rfl (lv_at hl 1 rfl) ?_
      refine zw_getI F Z zC12 (a := 703) (k := 24) (by decide) zs_703 (by decide) rfl zq1274 (Or.inl rfl) dX12_buys_71 ?_
      refine zb_icne (tgt := 89) hx hb dX12_buys_74 (by decide) h (fun h => ?_) (fun h => ?_)
      · refine lv_aload_n hx hb dX12_buys_89 rfl (lv_at hl 1 rfl) ?_
        refine zw_getR F Z zC12 (a := 703) (k := 29) (by decide) zs_703 (by decide) rfl zg_703_29 zq1279 (Or.inl rfl) dX12_buys_90 ?_
        refine lv_iload_n hx hb dX12_buys_93 rfl (lv_at hl 0 rfl) ?_
        refine lv_dup2_11 hx hb dX12_buys_94 rfl rfl ?_
        obtain ⟨hk95, h⟩ := ck_x h
        refine zw_iald F Z (by decide) zs_714 hk95 dX12_buys_95 ?_
        refine lv_iconst (v := 1) hx hb dX12_buys_96 (by decide) ?_
        refine lv_isub hx hb dX12_buys_97 ?_
        obtain ⟨hk98, h⟩ := ck_x h
        refine zw_iast F Z (by decide) zs_714 hk98 dX12_buys_98 (fun σ98 _ _ eσ98 Z => ?_)
        replace h := lt_w h eσ98
        refine lv_aload_n hx hb dX12_buys_99 rfl (lv_at hl 1 rfl) ?_
        refine zw_getR F Z zC12 (a := 703) (k := 29) (by decide) zs_703 (by decide) rfl zg_703_29 zq1279 (Or.inl rfl) dX12_buys_100 ?_
        refine lv_bipush (v := 12) hx hb dX12_buys_103 (by decide) ?_
        refine lv_iload_n hx hb dX12_buys_105 rfl (lv_at hl 0 rfl) ?_
        refine lv_iadd hx hb dX12_buys_106 ?_
        refine lv_dup2_11 hx hb dX12_buys_107 rfl rfl ?_
        obtain ⟨hk108, h⟩ := ck_x h
        refine zw_iald F Z (by decide) zs_714 hk108 dX12_buys_108 ?_
        refine lv_aload_n hx hb dX12_buys_109 rfl (lv_at hl 1 rfl) ?_
        refine zw_getR F Z zC12 (a := 703) (k := 36) (by decide) zs_703 (by decide) rfl zg_703_36 zq1286 (Or.inl rfl) dX12_buys_110 ?_
        refine lv_iload_n hx hb dX12_buys_113 rfl (lv_at hl 0 rfl) ?_
        obtain ⟨hk114, h⟩ := ck_x h
        refine zw_iald F Z (by decide) zs_718 hk114 dX12_buys_114 ?_
        refine lv_iadd hx hb dX12_buys_115 ?_
        obtain ⟨hk116, h⟩ := ck_x h
        refine zw_iast F Z (by decide) zs_714 hk116 dX12_buys_116 (fun σ116 _ _ eσ116 Z => ?_)
        replace h := lt_w h eσ116
        refine lv_aload_n hx hb dX12_buys_117 rfl (lv_at hl 1 rfl) ?_
        refine zw_getR F Z zC12 (a := 703) (k := 29) (by decide) zs_703 (by decide) rfl zg_703_29 zq1279 (Or.inl rfl) dX12_buys_118 ?_
        refine lv_bipush (v := 24) hx hb dX12_buys_121 (by decide) ?_
        refine lv_iload_n hx hb dX12_buys_123 rfl (lv_at hl 0 rfl) ?_
        refine lv_iadd hx hb dX12_buys_124 ?_
        refine lv_dup2_11 hx hb dX12_buys_125 rfl rfl ?_
        obtain ⟨hk126, h⟩ := ck_x h
        refine zw_iald F Z (by decide) zs_714 hk126 dX12_buys_126 ?_
        refine lv_iconst (v := 1) hx hb dX12_buys_127 (by decide) ?_
        refine lv_iadd hx hb dX12_buys_128 ?_
        obtain ⟨hk129, h⟩ := ck_x h
        refine zw_iast F Z (by decide) zs_714 hk129 dX12_buys_129 (fun σ129 _ _ eσ129 Z => ?_)
        replace h := lt_w h eσ129
        refine lv_iconst (v := 1) hx hb dX12_buys_130 (by decide) ?_
        obtain ⟨hq1, hq2⟩ := zpq h
        exact ze_z F Z hr hlocks (by decide) hq1 hq2 dX12_buys_131
      · refine lv_aload_n hx hb dX12_buys_77 rfl (lv_at hl 1 rfl) ?_
        refine lv_dup hx hb dX12_buys_78 rfl ?_
        refine zw_getI F Z zC12 (a := 703) (k := 45) (by decide) zs_703 (by decide) rfl zq1295 (Or.inl rfl) dX12_buys_79 ?_
        refine lv_iconst (v := 1) hx hb dX12_buys_82 (by decide) ?_
        refine lv_iadd hx hb dX12_buys_83 ?_
        refine zw_putI F Z zC12 (a := 703) (k := 45) (by decide) zs_703 (by decide) rfl (by decide) zq1295 (Or.inl rfl) rfl ⟨rfl, rfl⟩ dX12_buys_84 (fun σ84 _ _ eσ84 Z => ?_)
        replace h := lt_w h eσ84
        refine lv_iconst (v := 1) hx hb dX12_buys_87 (by decide) ?_
        obtain ⟨hq1, hq2⟩ := zpq h
        exact ze_z F Z hr hlocks (by decide) hq1 hq2 dX12_buys_88
    · exact hj27 σ _ _ _ Z (lv_sub hl [] rfl) h
set_option maxHeartbeats 4000000 in
set_option maxRecDepth 100000 in
theorem zcX12_serve (l : Launch) (D : va_G) (A0 : Nat) (x1 : Int32) (σ : Mm) (σr : Mm) (h : zfX12_serve x1 σ = some σr) : Met l yX12_serve (zws yX12_serve cX12_serve 6 none) (zR 4 86) (zPc D A0 σ GF 740 [.ref (A0 + 703), .int x1]) (zQv D A0 σr GF 740) 0 0 (zA A0) := by
  unfold zfX12_serve at h
  refine zmet (own := RX12) (by decide) rfl (Nat.le_of_ble_eq_true rfl) ?_
  intro p e s m below meth c F hr hlocks _ Z ls hl
  have hl : lv_has ls 6 [(0, .ref (A0 + 703)), (1, .int x1)] := hl
  have hx := F.1.1
  have hb := F.1.2.1
  have hown := F.1.2.2.2.1
  have hts := F.1.2.2.2.2
  refine lv_iconst (v := 0) hx hb dX12_serve_0 (by decide) ?_
  refine lv_istore_n (lv' := [(2, .int 0), (0, .ref (A0 + 703)), (1, .int x1)]) hx hb dX12_serve_1 rfl hl (by decide) rfl (fun ls hl => ?_)
  obtain ⟨k100, ek100, h⟩ := lt_x h
  have hk100 : ∀ (σ100 : Mm) (H : Heap) (locs : List Loc) (ls : Array Slot), zh D A0 σ100 GF 740 s.heap H locs → lv_has ls 6 [] → k100 σ100 = some σr → W p l e (zR 4 86) s m [.ref (A0 + 703), .int x1].toArray below meth c H locs 0 0 (MQ below (zQv D A0 σr GF 740) [.ref (A0 + 703), .int x1].toArray s 0 0 (zA A0)) (F0 m 100 ls []) := by
    intro  σ100 H locs ls Z hl h
    rw [ek100] at h
    try dsimp only at h
    have hq := Option.some.inj h
    exact ze_v F Z hr hlocks hq dX12_serve_100
  have hL2 : ∀ (fu2 : Nat) (x2_2 : Int32) (σ2 : Mm) (H : Heap) (locs : List Loc) (ls : Array Slot), zh D A0 σ2 GF 740 s.heap H locs → lv_has ls 6 [(0, .ref (A0 + 703)), (1, .int x1), (2, .int x2_2)] → zfX12_serve_L2 k100 x1 fu2 x2_2 σ2 = some σr → W p l e (zR 4 86) s m [.ref (A0 + 703), .int x1].toArray below meth c H locs 0 0 (MQ below (zQv D A0 σr GF 740) [.ref (A0 + 703), .int x1].toArray s 0 0 (zA A0)) (F0 m 2 ls []) := by
    intro fu2
    induction fu2 with
    | zero => intro x2_2 σ2 H locs ls Z hl h; rw [zfX12_serve_L2] at h; cases h
    | succ fu2 ih2 =>
      intro x2_2 σ2 H locs ls Z hl h
      rw [zfX12_serve_L2] at h
      refine lv_iload_n hx hb dX12_serve_2 rfl (lv_at hl 2 rfl) ?_
      refine lv_iconst (v := 4) hx hb dX12_serve_3 (by decide) ?_
      refine zb_icge (tgt := 100) hx hb dX12_serve_4 (by decide) h (fun h => ?_) (fun h => ?_)
      · exact hk100 σ2 _ _ _ Z (lv_sub hl [] rfl) h
      · refine lv_aload_n hx hb dX12_serve_7 rfl (lv_at hl 0 rfl) ?_
        refine zw_getR F Z zC12 (a := 703) (k := 39) (by decide) zs_703 (by decide) rfl zg_703_39 zq1289 (Or.inl rfl) dX12_serve_8 ?_
        refine lv_iconst (v := 4) hx hb dX12_serve_11 (by decide) ?_
        refine lv_iload_n hx hb dX12_serve_12 rfl (lv_at hl 1 rfl) ?_
        refine lv_imul hx hb dX12_serve_13 ?_
        refine lv_iload_n hx hb dX12_serve_14 rfl (lv_at hl 2 rfl) ?_
        refine lv_iadd hx hb dX12_serve_15 ?_
        obtain ⟨hk16, h⟩ := ck_x h
        refine zw_iald F Z (by decide) zs_721 hk16 dX12_serve_16 ?_
        refine lv_topi (fun x3_17 ex3_17 => ?_)
        replace h := lt_w h ex3_17
        refine lv_istore_n (lv' := [(3, .int x3_17), (0, .ref (A0 + 703)), (1, .int x1), (2, .int x2_2)]) hx hb dX12_serve_17 rfl hl (by decide) rfl (fun ls hl => ?_)
        refine lv_iconst (v := 0) hx hb dX12_serve_18 (by decide) ?_
        refine lv_istore (lv' := [(4, .int 0), (3, .int x3_17), (0, .ref (A0 + 703)), (1, .int x1), (2, .int x2_2)]) hx hb dX12_serve_19 hl (by decide) rfl (fun ls hl => ?_)
        obtain ⟨k94, ek94, h⟩ := lt_x h
        have hk94 : ∀ (σ94 : Mm) (H : Heap) (locs : List Loc) (ls : Array Slot), zh D A0 σ94 GF 740 s.heap H locs → lv_has ls 6 [(0, .ref (A0 + 703)), (1, .int x1), (2, .int x2_2)] → k94 σ94 = some σr → W p l e (zR 4 86) s m [.ref (A0 + 703), .int x1].toArray below meth c H locs 0 0 (MQ below (zQv D A0 σr GF 740) [.ref (A0 + 703), .int x1].toArray s 0 0 (zA A0)) (F0 m 94 ls []) := by
          intro  σ94 H locs ls Z hl h
          rw [ek94] at h
          try dsimp only at h
          obtain ⟨x2_94, ex2_94⟩ : ∃ y : Int32, y = x2_2 + 1 := ⟨_, rfl⟩
          replace h := lt_w h ex2_94
          refine lv_iinc (v := x2_94) (lv' := [(2, .int x2_94), (0, .ref (A0 + 703)), (1, .int x1)]) hx hb dX12_serve_94 hl (k := 2) rfl (by rw [ex2_94]; rfl) (by decide) rfl (fun ls hl => ?_)
          refine lv_goto (tgt := 2) hx hb dX12_serve_97 (by decide) ?_
          exact ih2 x2_94 σ94 _ _ _ Z (lv_sub hl [1, 2, 0] rfl) h
        have hL21 : ∀ (fu21 : Nat) (x4_21 : Int32) (σ21 : Mm) (H : Heap) (locs : List Loc) (ls : Array Slot), zh D A0 σ21 GF 740 s.heap H locs → lv_has ls 6 [(0, .ref (A0 + 703)), (1, .int x1), (2, .int x2_2), (3, .int x3_17), (4, .int x4_21)] → zfX12_serve_L21 x3_17 k94 x1 x2_2 fu21 x4_21 σ21 = some σr → W p l e (zR 4 86) s m [.ref (A0 + 703), .int x1].toArray below meth c H locs 0 0 (MQ below (zQv D A0 σr GF 740) [.ref (A0 + 703), .int x1].toArray s 0 0 (zA A0)) (F0 m 21 ls []) := by
          intro fu21
          induction fu21 with
          | zero => intro x4_21 σ21 H locs ls Z hl h; rw [zfX12_serve_L21] at h; cases h
          | succ fu21 ih21 =>
            intro x4_21 σ21 H locs ls Z hl h
            rw [zfX12_serve_L21] at h
            refine lv_iload hx hb dX12_serve_21 (lv_at hl 4 rfl) ?_
            refine lv_iload_n hx hb dX12_serve_23 rfl (lv_at hl 3 rfl) ?_
            refine zb_icge (tgt := 94) hx hb dX12_serve_24 (by decide) h (fun h => ?_) (fun h => ?_)
            · exact hk94 σ21 _ _ _ Z (lv_sub hl [0, 1, 2] rfl) h
            · refine lv_aload_n hx hb dX12_serve_27 rfl (lv_at hl 0 rfl) ?_
              refine lv_iload_n hx hb dX12_serve_28 rfl (lv_at hl 1 rfl) ?_
              obtain ⟨r29, σ29, hc29, h⟩ := bd2_x h
              refine zc_i Z (zr_V F Z (a := 703) (As := [.int x1]) (zcX12_buys l D A0 x1 σ21 r29 σ29 hc29) zBX12_buys zq1681 (by decide) zs_703 zC12.1 rfl ⟨⟨rfl, rfl⟩, Nat.le_of_ble_eq_true rfl, Nat.le_of_ble_eq_true rfl⟩ hl.1 rfl (Nat.le_of_ble_eq_true rfl) dX12_serve_29 ⟨Nat.le_of_ble_eq_true rfl, Nat.le_of_ble_eq_true rfl⟩) (fun _ _ Z => ?_)
              refine lv_istore (lv' := [(5, .int r29), (0, .ref (A0 + 703)), (1, .int x1), (2, .int x2_2), (3, .int x3_17), (4, .int x4_21)]) hx hb dX12_serve_32 hl (by decide) rfl (fun ls hl => ?_)
              refine lv_iload hx hb dX12_serve_34 (lv_at hl 0 rfl) ?_
              obtain ⟨j88, ej88, h⟩ := lt_x h
              have hj88 : ∀ (σ88 : Mm) (H : Heap) (locs : List Loc) (ls : Array Slot), zh D A0 σ88 GF 740 s.heap H locs → lv_has ls 6 [(0, .ref (A0 + 703)), (1, .int x1), (2, .int x2_2), (3, .int x3_17), (4, .int x4_21)] → j88 σ88 = some σr → W p l e (zR 4 86) s m [.ref (A0 + 703), .int x1].toArray below meth c H locs 0 0 (MQ below (zQv D A0 σr GF 740) [.ref (A0 + 703), .int x1].toArray s 0 0 (zA A0)) (F0 m 88 ls []) := by
                intro  σ88 H locs ls Z hl h
                rw [ej88] at h
                try dsimp only at h
                obtain ⟨x4_88, ex4_88⟩ : ∃ y : Int32, y = x4_21 + 1 := ⟨_, rfl⟩
                replace h := lt_w h ex4_88
                refine lv_iinc (v := x4_88) (lv' := [(4, .int x4_88), (0, .ref (A0 + 703)), (1, .int x1), (2, .int x2_2), (3, .int x3_17)]) hx hb dX12_serve_88 hl (k := 4) rfl (by rw [ex4_88]; rfl) (by decide) rfl (fun ls hl => ?_)
                refine lv_goto (tgt := 21) hx hb dX12_serve_91 (by decide) ?_
                exact ih21 x4_88 σ88 _ _ _ Z (lv_sub hl [1, 2, 3, 4, 0] rfl) h
              refine zb_ifeq (tgt := 52) hx hb dX12_serve_36 (by decide) h (fun h => ?_) (fun h => ?_)
              · refine lv_iload_n hx hb dX12_serve_52 rfl (lv_at hl 3 rfl) ?_
                refine zb_ifle (tgt := 78) hx hb dX12_serve_53 (by decide) h (fun h => ?_) (fun h => ?_)
                · refine lv_aload_n hx hb dX12_serve_78 rfl (lv_at hl 1 rfl) ?_
                  refine zw_getR F Z zC12 (a := 703) (k := 48) (by decide) zs_703 (by decide) rfl zg_703_48 zq1298 (Or.inl rfl) dX12_serve_79 ?_
                  refine lv_iload_n hx hb dX12_serve_82 rfl (lv_at hl 2 rfl) ?_
                  refine lv_dup2_11 hx hb dX12_serve_83 rfl rfl ?_
                  obtain ⟨hk84, h⟩ := ck_x h
                  refine zw_iald F Z (by decide) zs_724 hk84 dX12_serve_84 ?_
                  refine lv_iconst (v := 1) hx hb dX12_serve_85 (by decide) ?_
                  refine lv_iadd hx hb dX12_serve_86 ?_
                  obtain ⟨hk87, h⟩ := ck_x h
                  refine zw_iast F Z (by decide) zs_724 hk87 dX12_serve_87 (fun σ87 _ _ eσ87 Z => ?_)
                  replace h := lt_w h eσ87
                  exact hj88 σ87 _ _ _ Z (lv_sub hl [1, 2, 3, 4, 5] rfl) h
                · refine lv_aload_n hx hb dX12_serve_56 rfl (lv_at hl 1 rfl) ?_
                  refine zw_getR F Z zC12 (a := 703) (k := 29) (by decide) zs_703 (by decide) rfl zg_703_29 zq1279 (Or.inl rfl) dX12_serve_57 ?_
                  refine lv_bipush (v := 30) hx hb dX12_serve_60 (by decide) ?_
                  refine lv_iconst (v := 4) hx hb dX12_serve_62 (by decide) ?_
                  refine lv_iload_n hx hb dX12_serve_63 rfl (lv_at hl 2 rfl) ?_
                  refine lv_imul hx hb dX12_serve_64 ?_
                  refine lv_iadd hx hb dX12_serve_65 ?_
                  refine lv_iload_n hx hb dX12_serve_66 rfl (lv_at hl 3 rfl) ?_
                  refine lv_iadd hx hb dX12_serve_67 ?_
                  refine lv_iconst (v := 1) hx hb dX12_serve_68 (by decide) ?_
                  refine lv_isub hx hb dX12_serve_69 ?_
                  refine lv_dup2_11 hx hb dX12_serve_70 rfl rfl ?_
                  obtain ⟨hk71, h⟩ := ck_x h
                  refine zw_iald F Z (by decide) zs_714 hk71 dX12_serve_71 ?_
                  refine lv_iconst (v := 1) hx hb dX12_serve_72 (by decide) ?_
                  refine lv_iadd hx hb dX12_serve_73 ?_
                  obtain ⟨hk74, h⟩ := ck_x h
                  refine zw_iast F Z (by decide) zs_714 hk74 dX12_serve_74 (fun σ74 _ _ eσ74 Z => ?_)
                  replace h := lt_w h eσ74
                  refine lv_goto (tgt := 88) hx hb dX12_serve_75 (by decide) ?_
                  exact hj88 σ74 _ _ _ Z (lv_sub hl [1, 2, 3, 4, 5] rfl) h
              · refine lv_aload_n hx hb dX12_serve_39 rfl (lv_at hl 1 rfl) ?_
                refine zw_getR F Z zC12 (a := 703) (k := 47) (by decide) zs_703 (by decide) rfl zg_703_47 zq1297 (Or.inl rfl) dX12_serve_40 ?_
                refine lv_iload_n hx hb dX12_serve_43 rfl (lv_at hl 2 rfl) ?_
                refine lv_dup2_11 hx hb dX12_serve_44 rfl rfl ?_
                obtain ⟨hk45, h⟩ := ck_x h
                refine zw_iald F Z (by decide) zs_723 hk45 dX12_serve_45 ?_
                refine lv_iconst (v := 1) hx hb dX12_serve_46 (by decide) ?_
                refine lv_iadd hx hb dX12_serve_47 ?_
                obtain ⟨hk48, h⟩ := ck_x h
                refine zw_iast F Z (by decide) zs_723 hk48 dX12_serve_48 (fun σ48 _ _ eσ48 Z => ?_)
                replace h := lt_w h eσ48
                refine lv_goto (tgt := 88) hx hb dX12_serve_49 (by decide) ?_
                exact hj88 σ48 _ _ _ Z (lv_sub hl [1, 2, 3, 4, 5] rfl) h
        exact hL21 NF 0 σ2 _ _ _ Z (lv_sub hl [2, 3, 4, 1, 0] rfl) h
  exact hL2 NF 0 σ _ _ _ Z (lv_sub hl [1, 2, 0] rfl) h
set_option maxHeartbeats 4000000 in
set_option maxRecDepth 100000 in
theorem zcX12_serveAll (l : Launch) (D : va_G) (A0 : Nat) (σ : Mm) (σr : Mm) (h : zfX12_serveAll σ = some σr) : Met l yX12_serveAll (zws yX12_serveAll cX12_serveAll 3 none) (zR 5 111) (zPc D A0 σ GF 740 [.ref (A0 + 703)]) (zQv D A0 σr GF 740) 0 0 (zA A0) := by
  unfold zfX12_serveAll at h
  refine zmet (own := RX12) (by decide) rfl (Nat.le_of_ble_eq_true rfl) ?_
  intro p e s m below meth c F hr hlocks _ Z ls hl
  have hl : lv_has ls 3 [(0, .ref (A0 + 703))] := hl
  have hx := F.1.1
  have hb := F.1.2.1
  have hown := F.1.2.2.2.1
  have hts := F.1.2.2.2.2
  refine lv_iconst (v := 0) hx hb dX12_serveAll_0 (by decide) ?_
  refine lv_istore_n (lv' := [(1, .int 0), (0, .ref (A0 + 703))]) hx hb dX12_serveAll_1 rfl hl (by decide) rfl (fun ls hl => ?_)
  obtain ⟨k24, ek24, h⟩ := lt_x h
  have hk24 : ∀ (σ24 : Mm) (H : Heap) (locs : List Loc) (ls : Array Slot), zh D A0 σ24 GF 740 s.heap H locs → lv_has ls 3 [(0, .ref (A0 + 703))] → k24 σ24 = some σr → W p l e (zR 5 111) s m [.ref (A0 + 703)].toArray below meth c H locs 0 0 (MQ below (zQv D A0 σr GF 740) [.ref (A0 + 703)].toArray s 0 0 (zA A0)) (F0 m 24 ls []) := by
    intro  σ24 H locs ls Z hl h
    rw [ek24] at h
    try dsimp only at h
    refine lv_bipush (v := 20) hx hb dX12_serveAll_24 (by decide) ?_
    refine lv_istore_n (lv' := [(1, .int 20), (0, .ref (A0 + 703))]) hx hb dX12_serveAll_26 rfl hl (by decide) rfl (fun ls hl => ?_)
    obtain ⟨k70, ek70, h⟩ := lt_x h
    have hk70 : ∀ (σ70 : Mm) (H : Heap) (locs : List Loc) (ls : Array Slot), zh D A0 σ70 GF 740 s.heap H locs → lv_has ls 3 [] → k70 σ70 = some σr → W p l e (zR 5 111) s m [.ref (A0 + 703)].toArray below meth c H locs 0 0 (MQ below (zQv D A0 σr GF 740) [.ref (A0 + 703)].toArray s 0 0 (zA A0)) (F0 m 70 ls []) := by
      intro  σ70 H locs ls Z hl h
      rw [ek70] at h
      try dsimp only at h
      have hq := Option.some.inj h
      exact ze_v F Z hr hlocks hq dX12_serveAll_70
    have hL27 : ∀ (fu27 : Nat) (x1_27 : Int32) (σ27 : Mm) (H : Heap) (locs : List Loc) (ls : Array Slot), zh D A0 σ27 GF 740 s.heap H locs → lv_has ls 3 [(0, .ref (A0 + 703)), (1, .int x1_27)] → zfX12_serveAll_L27 k70 fu27 x1_27 σ27 = some σr → W p l e (zR 5 111) s m [.ref (A0 + 703)].toArray below meth c H locs 0 0 (MQ below (zQv D A0 σr GF 740) [.ref (A0 + 703)].toArray s 0 0 (zA A0)) (F0 m 27 ls []) := by
      intro fu27
      induction fu27 with
      | zero => intro x1_27 σ27 H locs ls Z hl h; rw [zfX12_serveAll_L27] at h; cases h
      | succ fu27 ih27 =>
        intro x1_27 σ27 H locs ls Z hl h
        rw [zfX12_serveAll_L27] at h
        refine lv_iload_n hx hb dX12_serveAll_27 rfl (lv_at hl 1 rfl) ?_
        refine zb_iflt (tgt := 70) hx hb dX12_serveAll_28 (by decide) h (fun h => ?_) (fun h => ?_)
        · exact hk70 σ27 _ _ _ Z (lv_sub hl [] rfl) h
        · refine lv_iconst (v := 0) hx hb dX12_serveAll_31 (by decide) ?_
          refine lv_istore_n (lv' := [(2, .int 0), (0, .ref (A0 + 703)), (1, .int x1_27)]) hx hb dX12_serveAll_32 rfl hl (by decide) rfl (fun ls hl => ?_)
          obtain ⟨k64, ek64, h⟩ := lt_x h
          have hk64 : ∀ (σ64 : Mm) (H : Heap) (locs : List Loc) (ls : Array Slot), zh D A0 σ64 GF 740 s.heap H locs → lv_has ls 3 [(0, .ref (A0 + 703)), (1, .int x1_27)] → k64 σ64 = some σr → W p l e (zR 5 111) s m [.ref (A0 + 703)].toArray below meth c H locs 0 0 (MQ below (zQv D A0 σr GF 740) [.ref (A0 + 703)].toArray s 0 0 (zA A0)) (F0 m 64 ls []) := by
            intro  σ64 H locs ls Z hl h
            rw [ek64] at h
            try dsimp only at h
            obtain ⟨x1_64, ex1_64⟩ : ∃ y : Int32, y = x1_27 + (-1) := ⟨_, rfl⟩
            replace h := lt_w h ex1_64
            refine lv_iinc (v := x1_64) (lv' := [(1, .int x1_64), (0, .ref (A0 + 703))]) hx hb dX12_serveAll_64 hl (k := 1) rfl (by rw [ex1_64]; rfl) (by decide) rfl (fun ls hl => ?_)
            refine lv_goto (tgt := 27) hx hb dX12_serveAll_67 (by decide) ?_
            exact ih27 x1_64 σ64 _ _ _ Z (lv_sub hl [1, 0] rfl) h
          have hL33 : ∀ (fu33 : Nat) (x2_33 : Int32) (σ33 : Mm) (H : Heap) (locs : List Loc) (ls : Array Slot), zh D A0 σ33 GF 740 s.heap H locs → lv_has ls 3 [(0, .ref (A0 + 703)), (1, .int x1_27), (2, .int x2_33)] → zfX12_serveAll_L33 k64 x1_27 fu33 x2_33 σ33 = some σr → W p l e (zR 5 111) s m [.ref (A0 + 703)].toArray below meth c H locs 0 0 (MQ below (zQv D A0 σr GF 740) [.ref (A0 + 703)].toArray s 0 0 (zA A0)) (F0 m 33 ls []) := by
            intro fu33
            induction fu33 with
            | zero => intro x2_33 σ33 H locs ls Z hl h; rw [zfX12_serveAll_L33] at h; cases h
            | succ fu33 ih33 =>
              intro x2_33 σ33 H locs ls Z hl h
              rw [zfX12_serveAll_L33] at h
              refine lv_iload_n hx hb dX12_serveAll_33 rfl (lv_at hl 2 rfl) ?_
              refine lv_aload_n hx hb dX12_serveAll_34 rfl (lv_at hl 0 rfl) ?_
              refine zw_getI F Z zC12 (a := 703) (k := 25) (by decide) zs_703 (by decide) rfl zq1275 (Or.inl rfl) dX12_serveAll_35 ?_
              refine zb_icge (tgt := 64) hx hb dX12_serveAll_38 (by decide) h (fun h => ?_) (fun h => ?_)
              · exact hk64 σ33 _ _ _ Z (lv_sub hl [0, 1] rfl) h
              · refine lv_aload_n hx hb dX12_serveAll_41 rfl (lv_at hl 0 rfl) ?_
                refine zw_getR F Z zC12 (a := 703) (k := 19) (by decide) zs_703 (by decide) rfl zg_703_19 zq1269 (Or.inl rfl) dX12_serveAll_42 ?_
                refine lv_iconst (v := 3) hx hb dX12_serveAll_45 (by decide) ?_
                refine lv_iload_n hx hb dX12_serveAll_46 rfl (lv_at hl 2 rfl) ?_
                refine lv_imul hx hb dX12_serveAll_47 ?_
                obtain ⟨hk48, h⟩ := ck_x h
                refine zw_iald F Z (by decide) zs_709 hk48 dX12_serveAll_48 ?_
                refine lv_iload_n hx hb dX12_serveAll_49 rfl (lv_at hl 1 rfl) ?_
                obtain ⟨j58, ej58, h⟩ := lt_x h
                have hj58 : ∀ (σ58 : Mm) (H : Heap) (locs : List Loc) (ls : Array Slot), zh D A0 σ58 GF 740 s.heap H locs → lv_has ls 3 [(0, .ref (A0 + 703)), (1, .int x1_27), (2, .int x2_33)] → j58 σ58 = some σr → W p l e (zR 5 111) s m [.ref (A0 + 703)].toArray below meth c H locs 0 0 (MQ below (zQv D A0 σr GF 740) [.ref (A0 + 703)].toArray s 0 0 (zA A0)) (F0 m 58 ls []) := by
                  intro  σ58 H locs ls Z hl h
                  rw [ej58] at h
                  try dsimp only at h
                  obtain ⟨x2_58, ex2_58⟩ : ∃ y : Int32, y = x2_33 + 1 := ⟨_, rfl⟩
                  replace h := lt_w h ex2_58
                  refine lv_iinc (v := x2_58) (lv' := [(2, .int x2_58), (0, .ref (A0 + 703)), (1, .int x1_27)]) hx hb dX12_serveAll_58 hl (k := 2) rfl (by rw [ex2_58]; rfl) (by decide) rfl (fun ls hl => ?_)
                  refine lv_goto (tgt := 33) hx hb dX12_serveAll_61 (by decide) ?_
                  exact ih33 x2_58 σ58 _ _ _ Z (lv_sub hl [1, 2, 0] rfl) h
                refine zb_icne (tgt := 58) hx hb dX12_serveAll_50 (by decide) h (fun h => ?_) (fun h => ?_)
                · exact hj58 σ33 _ _ _ Z (lv_sub hl [0, 1, 2] rfl) h
                · refine lv_aload_n hx hb dX12_serveAll_53 rfl (lv_at hl 0 rfl) ?_
                  refine lv_iload_n hx hb dX12_serveAll_54 rfl (lv_at hl 2 rfl) ?_
                  obtain ⟨σ55, hc55, h⟩ := bd_x h
                  refine zc_v Z (zr_V F Z (a := 703) (As := [.int x2_33]) (zcX12_serve l D A0 x2_33 σ33 σ55 hc55) zBX12_serve zq1677 (by decide) zs_703 zC12.1 rfl ⟨⟨rfl, rfl⟩, Nat.le_of_ble_eq_true rfl, Nat.le_of_ble_eq_true rfl⟩ hl.1 rfl (Nat.le_of_ble_eq_true rfl) dX12_serveAll_55 ⟨Nat.le_of_ble_eq_true rfl, Nat.le_of_ble_eq_true rfl⟩) (fun _ _ Z => ?_)
                  exact hj58 σ55 _ _ _ Z (lv_sub hl [0, 1, 2] rfl) h
          exact hL33 NF 0 σ27 _ _ _ Z (lv_sub hl [1, 2, 0] rfl) h
    exact hL27 NF 20 σ24 _ _ _ Z (lv_sub hl [1, 0] rfl) h
  have hL2 : ∀ (fu2 : Nat) (x1_2 : Int32) (σ2 : Mm) (H : Heap) (locs : List Loc) (ls : Array Slot), zh D A0 σ2 GF 740 s.heap H locs → lv_has ls 3 [(0, .ref (A0 + 703)), (1, .int x1_2)] → zfX12_serveAll_L2 k24 fu2 x1_2 σ2 = some σr → W p l e (zR 5 111) s m [.ref (A0 + 703)].toArray below meth c H locs 0 0 (MQ below (zQv D A0 σr GF 740) [.ref (A0 + 703)].toArray s 0 0 (zA A0)) (F0 m 2 ls []) := by
    intro fu2
    induction fu2 with
    | zero => intro x1_2 σ2 H locs ls Z hl h; rw [zfX12_serveAll_L2] at h; cases h
    | succ fu2 ih2 =>
      intro x1_2 σ2 H locs ls Z hl h
      rw [zfX12_serveAll_L2] at h
      refine lv_iload_n hx hb dX12_serveAll_2 rfl (lv_at hl 1 rfl) ?_
      refine lv_bipush (v := 24) hx hb dX12_serveAll_3 (by decide) ?_
      refine zb_icge (tgt := 24) hx hb dX12_serveAll_5 (by decide) h (fun h => ?_) (fun h => ?_)
      · exact hk24 σ2 _ _ _ Z (lv_sub hl [0] rfl) h
      · refine lv_aload_n hx hb dX12_serveAll_8 rfl (lv_at hl 0 rfl) ?_
        refine zw_getR F Z zC12 (a := 703) (k := 29) (by decide) zs_703 (by decide) rfl zg_703_29 zq1279 (Or.inl rfl) dX12_serveAll_9 ?_
        refine lv_bipush (v := 30) hx hb dX12_serveAll_12 (by decide) ?_
        refine lv_iload_n hx hb dX12_serveAll_14 rfl (lv_at hl 1 rfl) ?_
        refine lv_iadd hx hb dX12_serveAll_15 ?_
        refine lv_iconst (v := 0) hx hb dX12_serveAll_16 (by decide) ?_
        obtain ⟨hk17, h⟩ := ck_x h
        refine zw_iast F Z (by decide) zs_714 hk17 dX12_serveAll_17 (fun σ17 _ _ eσ17 Z => ?_)
        replace h := lt_w h eσ17
        obtain ⟨x1_18, ex1_18⟩ : ∃ y : Int32, y = x1_2 + 1 := ⟨_, rfl⟩
        replace h := lt_w h ex1_18
        refine lv_iinc (v := x1_18) (lv' := [(1, .int x1_18), (0, .ref (A0 + 703))]) hx hb dX12_serveAll_18 hl (k := 1) rfl (by rw [ex1_18]; rfl) (by decide) rfl (fun ls hl => ?_)
        refine lv_goto (tgt := 2) hx hb dX12_serveAll_21 (by decide) ?_
        exact ih2 x1_18 σ17 _ _ _ Z (lv_sub hl [1, 0] rfl) h
  exact hL2 NF 0 σ _ _ _ Z (lv_sub hl [1, 0] rfl) h
set_option maxHeartbeats 4000000 in
set_option maxRecDepth 100000 in
theorem zcX12_board (l : Launch) (D : va_G) (A0 : Nat) (σ : Mm) (σr : Mm) (h : zfX12_board σ = some σr) : Met l yX12_board (zws yX12_board cX12_board 5 none) (zR 0 0) (zPc D A0 σ GF 740 [.ref (A0 + 703)]) (zQv D A0 σr GF 740) 0 0 (zA A0) := by
  unfold zfX12_board at h
  refine zmet (own := RX12) (by decide) rfl (Nat.le_of_ble_eq_true rfl) ?_
  intro p e s m below meth c F hr hlocks _ Z ls hl
  have hl : lv_has ls 5 [(0, .ref (A0 + 703))] := hl
  have hx := F.1.1
  have hb := F.1.2.1
  have hown := F.1.2.2.2.1
  have hts := F.1.2.2.2.2
  refine lv_iconst (v := 0) hx hb dX12_board_0 (by decide) ?_
  refine lv_istore_n (lv' := [(1, .int 0), (0, .ref (A0 + 703))]) hx hb dX12_board_1 rfl hl (by decide) rfl (fun ls hl => ?_)
  refine lv_iconst (v := 0) hx hb dX12_board_2 (by decide) ?_
  refine lv_istore_n (lv' := [(2, .int 0), (1, .int 0), (0, .ref (A0 + 703))]) hx hb dX12_board_3 rfl hl (by decide) rfl (fun ls hl => ?_)
  obtain ⟨k140, ek140, h⟩ := lt_x h
  have hk140 : ∀ (x1_140 : Int32) (σ140 : Mm) (H : Heap) (locs : List Loc) (ls : Array Slot), zh D A0 σ140 GF 740 s.heap H locs → lv_has ls 5 [(0, .ref (A0 + 703)), (1, .int x1_140)] → k140 x1_140 σ140 = some σr → W p l e (zR 0 0) s m [.ref (A0 + 703)].toArray below meth c H locs 0 0 (MQ below (zQv D A0 σr GF 740) [.ref (A0 + 703)].toArray s 0 0 (zA A0)) (F0 m 140 ls []) := by
    intro x1_140 σ140 H locs ls Z hl h
    rw [ek140] at h
    try dsimp only at h
    refine lv_aload_n hx hb dX12_board_140 rfl (lv_at hl 0 rfl) ?_
    refine lv_iload_n hx hb dX12_board_141 rfl (lv_at hl 1 rfl) ?_
    obtain ⟨j150, ej150, h⟩ := lt_x h
    have hj150 : ∀ (y0_150 : Int32) (σ150 : Mm) (H : Heap) (locs : List Loc) (ls : Array Slot), zh D A0 σ150 GF 740 s.heap H locs → lv_has ls 5 [(0, .ref (A0 + 703)), (1, .int x1_140)] → j150 y0_150 σ150 = some σr → W p l e (zR 0 0) s m [.ref (A0 + 703)].toArray below meth c H locs 0 0 (MQ below (zQv D A0 σr GF 740) [.ref (A0 + 703)].toArray s 0 0 (zA A0)) (F0 m 150 ls [.int y0_150, .ref (A0 + 703)]) := by
      intro y0_150 σ150 H locs ls Z hl h
      rw [ej150] at h
      try dsimp only at h
      obtain ⟨hk150, h⟩ := ck_x h
      refine zw_putI F Z zC12 (a := 703) (k := 46) (by decide) zs_703 (by decide) rfl (by decide) zq1296 (Or.inl rfl) rfl (z_nb hk150) dX12_board_150 (fun σ150_1 _ _ eσ150_1 Z => ?_)
      replace h := lt_w h eσ150_1
      refine lv_aload_n hx hb dX12_board_153 rfl (lv_at hl 0 rfl) ?_
      refine zw_getR F Z zC12 (a := 703) (k := 29) (by decide) zs_703 (by decide) rfl zg_703_29 zq1279 (Or.inl rfl) dX12_board_154 ?_
      refine lv_bipush (v := 54) hx hb dX12_board_157 (by decide) ?_
      refine lv_iload_n hx hb dX12_board_159 rfl (lv_at hl 1 rfl) ?_
      obtain ⟨j217, ej217, h⟩ := lt_x h
      have hj217 : ∀ (y0_217 : Int32) (σ217 : Mm) (H : Heap) (locs : List Loc) (ls : Array Slot), zh D A0 σ217 GF 740 s.heap H locs → lv_has ls 5 [] → j217 y0_217 σ217 = some σr → W p l e (zR 0 0) s m [.ref (A0 + 703)].toArray below meth c H locs 0 0 (MQ below (zQv D A0 σr GF 740) [.ref (A0 + 703)].toArray s 0 0 (zA A0)) (F0 m 217 ls [.int y0_217, .int 54, .ref (A0 + 714)]) := by
        intro y0_217 σ217 H locs ls Z hl h
        rw [ej217] at h
        try dsimp only at h
        refine zw_iast F Z (by decide) zs_714 (by decide) dX12_board_217 (fun σ217_1 _ _ eσ217_1 Z => ?_)
        replace h := lt_w h eσ217_1
        have hq := Option.some.inj h
        exact ze_v F Z hr hlocks hq dX12_board_218
      refine zb_ifne (tgt := 172) hx hb dX12_board_160 (by decide) h (fun h => ?_) (fun h => ?_)
      · refine lv_aload_n hx hb dX12_board_172 rfl (lv_at hl 0 rfl) ?_
        refine zw_getI F Z zC12 (a := 703) (k := 42) (by decide) zs_703 (by decide) rfl zq1292 (Or.inl rfl) dX12_board_173 ?_
        refine zb_ifne (tgt := 188) hx hb dX12_board_176 (by decide) h (fun h => ?_) (fun h => ?_)
        · refine lv_aload_n hx hb dX12_board_188 rfl (lv_at hl 0 rfl) ?_
          refine zw_getI F Z zC12 (a := 703) (k := 42) (by decide) zs_703 (by decide) rfl zq1292 (Or.inl rfl) dX12_board_189 ?_
          refine lv_iconst (v := 1) hx hb dX12_board_192 (by decide) ?_
          refine zb_icne (tgt := 207) hx hb dX12_board_193 (by decide) h (fun h => ?_) (fun h => ?_)
          · refine lv_aload_n hx hb dX12_board_207 rfl (lv_at hl 0 rfl) ?_
            refine zw_getR F Z zC12 (a := 703) (k := 40) (by decide) zs_703 (by decide) rfl zg_703_40 zq1290 (Or.inl rfl) dX12_board_208 ?_
            refine lv_iload_n hx hb dX12_board_211 rfl (lv_at hl 1 rfl) ?_
            refine lv_iconst (v := 1) hx hb dX12_board_212 (by decide) ?_
            refine lv_isub hx hb dX12_board_213 ?_
            refine lv_iconst (v := 2) hx hb dX12_board_214 (by decide) ?_
            refine lv_idiv hx hb dX12_board_215 (by decide) ?_
            obtain ⟨hk216, h⟩ := ck_x h
            refine zw_iald F Z (by decide) zs_722 hk216 dX12_board_216 ?_
            exact hj217 (σ150_1 722 (ix ((x1_140 - 1) / 2))) σ150_1 _ _ _ Z (lv_sub hl [] rfl) h
          · refine lv_aload_n hx hb dX12_board_196 rfl (lv_at hl 0 rfl) ?_
            refine zw_getR F Z zC12 (a := 703) (k := 40) (by decide) zs_703 (by decide) rfl zg_703_40 zq1290 (Or.inl rfl) dX12_board_197 ?_
            refine lv_iload_n hx hb dX12_board_200 rfl (lv_at hl 1 rfl) ?_
            refine lv_iconst (v := 1) hx hb dX12_board_201 (by decide) ?_
            refine lv_isub hx hb dX12_board_202 ?_
            obtain ⟨hk203, h⟩ := ck_x h
            refine zw_iald F Z (by decide) zs_722 hk203 dX12_board_203 ?_
            refine lv_goto (tgt := 217) hx hb dX12_board_204 (by decide) ?_
            exact hj217 (σ150_1 722 (ix (x1_140 - 1))) σ150_1 _ _ _ Z (lv_sub hl [] rfl) h
        · refine lv_aload_n hx hb dX12_board_179 rfl (lv_at hl 0 rfl) ?_
          refine zw_getR F Z zC12 (a := 703) (k := 40) (by decide) zs_703 (by decide) rfl zg_703_40 zq1290 (Or.inl rfl) dX12_board_180 ?_
          refine lv_iconst (v := 0) hx hb dX12_board_183 (by decide) ?_
          refine zw_iald F Z (by decide) zs_722 (by decide) dX12_board_184 ?_
          refine lv_goto (tgt := 217) hx hb dX12_board_185 (by decide) ?_
          exact hj217 (σ150_1 722 (ix 0)) σ150_1 _ _ _ Z (lv_sub hl [] rfl) h
      · refine lv_aload_n hx hb dX12_board_163 rfl (lv_at hl 0 rfl) ?_
        refine zw_getR F Z zC12 (a := 703) (k := 20) (by decide) zs_703 (by decide) rfl zg_703_20 zq1270 (Or.inl rfl) dX12_board_164 ?_
        refine lv_iconst (v := 1) hx hb dX12_board_167 (by decide) ?_
        refine zw_iald F Z (by decide) zs_710 (by decide) dX12_board_168 ?_
        refine lv_goto (tgt := 217) hx hb dX12_board_169 (by decide) ?_
        exact hj217 (σ150_1 710 (ix 1)) σ150_1 _ _ _ Z (lv_sub hl [] rfl) h
    refine zb_ifne (tgt := 149) hx hb dX12_board_142 (by decide) h (fun h => ?_) (fun h => ?_)
    · refine lv_iconst (v := 0) hx hb dX12_board_149 (by decide) ?_
      exact hj150 0 σ140 _ _ _ Z (lv_sub hl [0, 1] rfl) h
    · refine lv_iconst (v := 1) hx hb dX12_board_145 (by decide) ?_
      refine lv_goto (tgt := 150) hx hb dX12_board_146 (by decide) ?_
      exact hj150 1 σ140 _ _ _ Z (lv_sub hl [0, 1] rfl) h
  have hL4 : ∀ (fu4 : Nat) (x1_4 : Int32) (x2_4 : Int32) (σ4 : Mm) (H : Heap) (locs : List Loc) (ls : Array Slot), zh D A0 σ4 GF 740 s.heap H locs → lv_has ls 5 [(0, .ref (A0 + 703)), (1, .int x1_4), (2, .int x2_4)] → zfX12_board_L4 k140 fu4 x1_4 x2_4 σ4 = some σr → W p l e (zR 0 0) s m [.ref (A0 + 703)].toArray below meth c H locs 0 0 (MQ below (zQv D A0 σr GF 740) [.ref (A0 + 703)].toArray s 0 0 (zA A0)) (F0 m 4 ls []) := by
    intro fu4
    induction fu4 with
    | zero => intro x1_4 x2_4 σ4 H locs ls Z hl h; rw [zfX12_board_L4] at h; cases h
    | succ fu4 ih4 =>
      intro x1_4 x2_4 σ4 H locs ls Z hl h
      rw [zfX12_board_L4] at h
      refine lv_iload_n hx hb dX12_board_4 rfl (lv_at hl 2 rfl) ?_
      refine lv_aload_n hx hb dX12_board_5 rfl (lv_at hl 0 rfl) ?_
      refine zw_getI F Z zC12 (a := 703) (k := 24) (by decide) zs_703 (by decide) rfl zq1274 (Or.inl rfl) dX12_board_6 ?_
      refine zb_icgt (tgt := 140) hx hb dX12_board_9 (by decide) h (fun h => ?_) (fun h => ?_)
      · exact hk140 x1_4 σ4 _ _ _ Z (lv_sub hl [0, 1] rfl) h
      · refine lv_iload_n hx hb dX12_board_12 rfl (lv_at hl 2 rfl) ?_
        refine lv_aload_n hx hb dX12_board_13 rfl (lv_at hl 0 rfl) ?_
        refine zw_getI F Z zC12 (a := 703) (k := 24) (by decide) zs_703 (by decide) rfl zq1274 (Or.inl rfl) dX12_board_14 ?_
        obtain ⟨j62, ej62, h⟩ := lt_x h
        have hj62 : ∀ (y0_62 : Int32) (σ62 : Mm) (H : Heap) (locs : List Loc) (ls : Array Slot), zh D A0 σ62 GF 740 s.heap H locs → lv_has ls 5 [(0, .ref (A0 + 703)), (1, .int x1_4), (2, .int x2_4)] → j62 y0_62 σ62 = some σr → W p l e (zR 0 0) s m [.ref (A0 + 703)].toArray below meth c H locs 0 0 (MQ below (zQv D A0 σr GF 740) [.ref (A0 + 703)].toArray s 0 0 (zA A0)) (F0 m 62 ls [.int y0_62]) := by
          intro y0_62 σ62 H locs ls Z hl h
          rw [ej62] at h
          try dsimp only at h
          refine lv_istore_n (lv' := [(3, .int y0_62), (0, .ref (A0 + 703)), (1, .int x1_4), (2, .int x2_4)]) hx hb dX12_board_62 rfl hl (by decide) rfl (fun ls hl => ?_)
          refine lv_iload_n hx hb dX12_board_63 rfl (lv_at hl 0 rfl) ?_
          obtain ⟨j134, ej134, h⟩ := lt_x h
          have hj134 : ∀ (x1_134 : Int32) (σ134 : Mm) (H : Heap) (locs : List Loc) (ls : Array Slot), zh D A0 σ134 GF 740 s.heap H locs → lv_has ls 5 [(0, .ref (A0 + 703)), (1, .int x1_134), (2, .int x2_4)] → j134 x1_134 σ134 = some σr → W p l e (zR 0 0) s m [.ref (A0 + 703)].toArray below meth c H locs 0 0 (MQ below (zQv D A0 σr GF 740) [.ref (A0 + 703)].toArray s 0 0 (zA A0)) (F0 m 134 ls []) := by
            intro x1_134 σ134 H locs ls Z hl h
            rw [ej134] at h
            try dsimp only at h
            obtain ⟨x2_134, ex2_134⟩ : ∃ y : Int32, y = x2_4 + 1 := ⟨_, rfl⟩
            replace h := lt_w h ex2_134
            refine lv_iinc (v := x2_134) (lv' := [(2, .int x2_134), (0, .ref (A0 + 703)), (1, .int x1_134)]) hx hb dX12_board_134 hl (k := 2) rfl (by rw [ex2_134]; rfl) (by decide) rfl (fun ls hl => ?_)
            refine lv_goto (tgt := 4) hx hb dX12_board_137 (by decide) ?_
            exact ih4 x1_134 x2_134 σ134 _ _ _ Z (lv_sub hl [1, 2, 0] rfl) h
          refine zb_ifne (tgt := 70) hx hb dX12_board_64 (by decide) h (fun h => ?_) (fun h => ?_)
          · refine lv_iload_n hx hb dX12_board_70 rfl (lv_at hl 2 rfl) ?_
            refine lv_istore (lv' := [(4, .int x1_4), (3, .int y0_62), (0, .ref (A0 + 703)), (1, .int x1_4), (2, .int x2_4)]) hx hb dX12_board_71 hl (by decide) rfl (fun ls hl => ?_)
            obtain ⟨k118, ek118, h⟩ := lt_x h
            have hk118 : ∀ (x4_118 : Int32) (σ118 : Mm) (H : Heap) (locs : List Loc) (ls : Array Slot), zh D A0 σ118 GF 740 s.heap H locs → lv_has ls 5 [(0, .ref (A0 + 703)), (1, .int x1_4), (2, .int x2_4), (4, .int x4_118)] → k118 x4_118 σ118 = some σr → W p l e (zR 0 0) s m [.ref (A0 + 703)].toArray below meth c H locs 0 0 (MQ below (zQv D A0 σr GF 740) [.ref (A0 + 703)].toArray s 0 0 (zA A0)) (F0 m 118 ls []) := by
              intro x4_118 σ118 H locs ls Z hl h
              rw [ek118] at h
              try dsimp only at h
              refine lv_aload_n hx hb dX12_board_118 rfl (lv_at hl 0 rfl) ?_
              refine zw_getR F Z zC12 (a := 703) (k := 40) (by decide) zs_703 (by decide) rfl zg_703_40 zq1290 (Or.inl rfl) dX12_board_119 ?_
              refine lv_iload hx hb dX12_board_122 (lv_at hl 3 rfl) ?_
              refine lv_aload_n hx hb dX12_board_124 rfl (lv_at hl 0 rfl) ?_
              refine zw_getR F Z zC12 (a := 703) (k := 36) (by decide) zs_703 (by decide) rfl zg_703_36 zq1286 (Or.inl rfl) dX12_board_125 ?_
              refine lv_iload_n hx hb dX12_board_128 rfl (lv_at hl 2 rfl) ?_
              obtain ⟨hk129, h⟩ := ck_x h
              refine zw_iald F Z (by decide) zs_718 hk129 dX12_board_129 ?_
              obtain ⟨hk130, h⟩ := ck_x h
              refine zw_iast F Z (by decide) zs_722 hk130 dX12_board_130 (fun σ130 _ _ eσ130 Z => ?_)
              replace h := lt_w h eσ130
              obtain ⟨x1_131, ex1_131⟩ : ∃ y : Int32, y = x1_4 + 1 := ⟨_, rfl⟩
              replace h := lt_w h ex1_131
              refine lv_iinc (v := x1_131) (lv' := [(1, .int x1_131), (0, .ref (A0 + 703)), (2, .int x2_4), (4, .int x4_118)]) hx hb dX12_board_131 hl (k := 1) rfl (by rw [ex1_131]; rfl) (by decide) rfl (fun ls hl => ?_)
              exact hj134 x1_131 σ130 _ _ _ Z (lv_sub hl [1, 0, 2] rfl) h
            have hL73 : ∀ (fu73 : Nat) (x4_73 : Int32) (σ73 : Mm) (H : Heap) (locs : List Loc) (ls : Array Slot), zh D A0 σ73 GF 740 s.heap H locs → lv_has ls 5 [(0, .ref (A0 + 703)), (1, .int x1_4), (2, .int x2_4), (4, .int x4_73)] → zfX12_board_L73 k118 x2_4 fu73 x4_73 σ73 = some σr → W p l e (zR 0 0) s m [.ref (A0 + 703)].toArray below meth c H locs 0 0 (MQ below (zQv D A0 σr GF 740) [.ref (A0 + 703)].toArray s 0 0 (zA A0)) (F0 m 73 ls []) := by
              intro fu73
              induction fu73 with
              | zero => intro x4_73 σ73 H locs ls Z hl h; rw [zfX12_board_L73] at h; cases h
              | succ fu73 ih73 =>
                intro x4_73 σ73 H locs ls Z hl h
                rw [zfX12_board_L73] at h
                refine lv_iload hx hb dX12_board_73 (lv_at hl 3 rfl) ?_
                refine zb_ifle (tgt := 118) hx hb dX12_board_75 (by decide) h (fun h => ?_) (fun h => ?_)
                · exact hk118 x4_73 σ73 _ _ _ Z (lv_sub hl [0, 1, 2, 3] rfl) h
                · refine lv_aload_n hx hb dX12_board_78 rfl (lv_at hl 0 rfl) ?_
                  refine zw_getR F Z zC12 (a := 703) (k := 40) (by decide) zs_703 (by decide) rfl zg_703_40 zq1290 (Or.inl rfl) dX12_board_79 ?_
                  refine lv_iload hx hb dX12_board_82 (lv_at hl 3 rfl) ?_
                  refine lv_iconst (v := 1) hx hb dX12_board_84 (by decide) ?_
                  refine lv_isub hx hb dX12_board_85 ?_
                  obtain ⟨hk86, h⟩ := ck_x h
                  refine zw_iald F Z (by decide) zs_722 hk86 dX12_board_86 ?_
                  refine lv_aload_n hx hb dX12_board_87 rfl (lv_at hl 0 rfl) ?_
                  refine zw_getR F Z zC12 (a := 703) (k := 36) (by decide) zs_703 (by decide) rfl zg_703_36 zq1286 (Or.inl rfl) dX12_board_88 ?_
                  refine lv_iload_n hx hb dX12_board_91 rfl (lv_at hl 2 rfl) ?_
                  obtain ⟨hk92, h⟩ := ck_x h
                  refine zw_iald F Z (by decide) zs_718 hk92 dX12_board_92 ?_
                  refine zb_icle (tgt := 118) hx hb dX12_board_93 (by decide) h (fun h => ?_) (fun h => ?_)
                  · exact hk118 x4_73 σ73 _ _ _ Z (lv_sub hl [0, 1, 2, 3] rfl) h
                  · refine lv_aload_n hx hb dX12_board_96 rfl (lv_at hl 0 rfl) ?_
                    refine zw_getR F Z zC12 (a := 703) (k := 40) (by decide) zs_703 (by decide) rfl zg_703_40 zq1290 (Or.inl rfl) dX12_board_97 ?_
                    refine lv_iload hx hb dX12_board_100 (lv_at hl 3 rfl) ?_
                    refine lv_aload_n hx hb dX12_board_102 rfl (lv_at hl 0 rfl) ?_
                    refine zw_getR F Z zC12 (a := 703) (k := 40) (by decide) zs_703 (by decide) rfl zg_703_40 zq1290 (Or.inl rfl) dX12_board_103 ?_
                    refine lv_iload hx hb dX12_board_106 (lv_at hl 3 rfl) ?_
                    refine lv_iconst (v := 1) hx hb dX12_board_108 (by decide) ?_
                    refine lv_isub hx hb dX12_board_109 ?_
                    obtain ⟨hk110, h⟩ := ck_x h
                    refine zw_iald F Z (by decide) zs_722 hk110 dX12_board_110 ?_
                    obtain ⟨hk111, h⟩ := ck_x h
                    refine zw_iast F Z (by decide) zs_722 hk111 dX12_board_111 (fun σ111 _ _ eσ111 Z => ?_)
                    replace h := lt_w h eσ111
                    obtain ⟨x4_112, ex4_112⟩ : ∃ y : Int32, y = x4_73 + (-1) := ⟨_, rfl⟩
                    replace h := lt_w h ex4_112
                    refine lv_iinc (v := x4_112) (lv' := [(4, .int x4_112), (0, .ref (A0 + 703)), (1, .int x1_4), (2, .int x2_4)]) hx hb dX12_board_112 hl (k := 3) rfl (by rw [ex4_112]; rfl) (by decide) rfl (fun ls hl => ?_)
                    refine lv_goto (tgt := 73) hx hb dX12_board_115 (by decide) ?_
                    exact ih73 x4_112 σ111 _ _ _ Z (lv_sub hl [1, 2, 3, 0] rfl) h
            exact hL73 NF x1_4 σ62 _ _ _ Z (lv_sub hl [2, 3, 4, 0] rfl) h
          · refine lv_goto (tgt := 134) hx hb dX12_board_67 (by decide) ?_
            exact hj134 x1_4 σ62 _ _ _ Z (lv_sub hl [1, 2, 3] rfl) h
        refine zb_icne (tgt := 39) hx hb dX12_board_17 (by decide) h (fun h => ?_) (fun h => ?_)
        · refine lv_aload_n hx hb dX12_board_39 rfl (lv_at hl 0 rfl) ?_
          refine zw_getR F Z zC12 (a := 703) (k := 38) (by decide) zs_703 (by decide) rfl zg_703_38 zq1288 (Or.inl rfl) dX12_board_40 ?_
          refine lv_iload_n hx hb dX12_board_43 rfl (lv_at hl 2 rfl) ?_
          obtain ⟨hk44, h⟩ := ck_x h
          refine zw_iald F Z (by decide) zs_720 hk44 dX12_board_44 ?_
          obtain ⟨j61, ej61, h⟩ := lt_x h
          have hj61 : ∀ (σ61 : Mm) (H : Heap) (locs : List Loc) (ls : Array Slot), zh D A0 σ61 GF 740 s.heap H locs → lv_has ls 5 [(0, .ref (A0 + 703)), (1, .int x1_4), (2, .int x2_4)] → j61 σ61 = some σr → W p l e (zR 0 0) s m [.ref (A0 + 703)].toArray below meth c H locs 0 0 (MQ below (zQv D A0 σr GF 740) [.ref (A0 + 703)].toArray s 0 0 (zA A0)) (F0 m 61 ls []) := by
            intro  σ61 H locs ls Z hl h
            rw [ej61] at h
            try dsimp only at h
            refine lv_iconst (v := 0) hx hb dX12_board_61 (by decide) ?_
            exact hj62 0 σ61 _ _ _ Z (lv_sub hl [0, 1, 2] rfl) h
          refine zb_ifle (tgt := 61) hx hb dX12_board_45 (by decide) h (fun h => ?_) (fun h => ?_)
          · exact hj61 σ4 _ _ _ Z (lv_sub hl [0, 1, 2] rfl) h
          · refine lv_aload_n hx hb dX12_board_48 rfl (lv_at hl 0 rfl) ?_
            refine zw_getR F Z zC12 (a := 703) (k := 29) (by decide) zs_703 (by decide) rfl zg_703_29 zq1279 (Or.inl rfl) dX12_board_49 ?_
            refine lv_iload_n hx hb dX12_board_52 rfl (lv_at hl 2 rfl) ?_
            obtain ⟨hk53, h⟩ := ck_x h
            refine zw_iald F Z (by decide) zs_714 hk53 dX12_board_53 ?_
            refine zb_ifle (tgt := 61) hx hb dX12_board_54 (by decide) h (fun h => ?_) (fun h => ?_)
            · exact hj61 σ4 _ _ _ Z (lv_sub hl [0, 1, 2] rfl) h
            · refine lv_iconst (v := 1) hx hb dX12_board_57 (by decide) ?_
              refine lv_goto (tgt := 62) hx hb dX12_board_58 (by decide) ?_
              exact hj62 1 σ4 _ _ _ Z (lv_sub hl [0, 1, 2] rfl) h
        · refine lv_aload_n hx hb dX12_board_20 rfl (lv_at hl 0 rfl) ?_
          refine zw_getI F Z zC12 (a := 703) (k := 43) (by decide) zs_703 (by decide) rfl zq1293 (Or.inl rfl) dX12_board_21 ?_
          refine lv_aload_n hx hb dX12_board_24 rfl (lv_at hl 0 rfl) ?_
          refine zw_getI F Z zC12 (a := 703) (k := 45) (by decide) zs_703 (by decide) rfl zq1295 (Or.inl rfl) dX12_board_25 ?_
          refine zb_icle (tgt := 35) hx hb dX12_board_28 (by decide) h (fun h => ?_) (fun h => ?_)
          · refine lv_iconst (v := 0) hx hb dX12_board_35 (by decide) ?_
            refine lv_goto (tgt := 62) hx hb dX12_board_36 (by decide) ?_
            exact hj62 0 σ4 _ _ _ Z (lv_sub hl [0, 1, 2] rfl) h
          · refine lv_iconst (v := 1) hx hb dX12_board_31 (by decide) ?_
            refine lv_goto (tgt := 62) hx hb dX12_board_32 (by decide) ?_
            exact hj62 1 σ4 _ _ _ Z (lv_sub hl [0, 1, 2] rfl) h
  exact hL4 NF 0 0 σ _ _ _ Z (lv_sub hl [2, 1, 0] rfl) h
set_option maxHeartbeats 4000000 in
set_option maxRecDepth 100000 in
theorem zcX12_goes (l : Launch) (D : va_G) (A0 : Nat) (x1 : Int32) (σ : Mm) (σr : Mm) (h : zfX12_goes x1 σ = some σr) : Met l yX12_goes (zws yX12_goes cX12_goes 4 none) (zR 398 14895) (zPc D A0 σ GF 740 [.ref (A0 + 703), .int x1]) (zQv D A0 σr GF 740) 0 0 (zA A0) := by
  unfold zfX12_goes at h
  refine zmet (own := RX12) (by decide) rfl (Nat.le_of_ble_eq_true rfl) ?_
  intro p e s m below meth c F hr hlocks _ Z ls hl
  have hl : lv_has ls 4 [(0, .ref (A0 + 703)), (1, .int x1)] := hl
  have hx := F.1.1
  have hb := F.1.2.1
  have hown := F.1.2.2.2.1
  have hts := F.1.2.2.2.2
  refine lv_aload_n hx hb dX12_goes_0 rfl (lv_at hl 0 rfl) ?_
  refine lv_iconst (v := 0) hx hb dX12_goes_1 (by decide) ?_
  refine zw_putI F Z zC12 (a := 703) (k := 45) (by decide) zs_703 (by decide) rfl (by decide) zq1295 (Or.inl rfl) rfl ⟨rfl, rfl⟩ dX12_goes_2 (fun σ2 _ _ eσ2 Z => ?_)
  replace h := lt_w h eσ2
  refine lv_iconst (v := 0) hx hb dX12_goes_5 (by decide) ?_
  refine lv_istore_n (lv' := [(2, .int 0), (0, .ref (A0 + 703)), (1, .int x1)]) hx hb dX12_goes_6 rfl hl (by decide) rfl (fun ls hl => ?_)
  obtain ⟨k105, ek105, h⟩ := lt_x h
  have hk105 : ∀ (σ105 : Mm) (H : Heap) (locs : List Loc) (ls : Array Slot), zh D A0 σ105 GF 740 s.heap H locs → lv_has ls 4 [(0, .ref (A0 + 703)), (1, .int x1)] → k105 σ105 = some σr → W p l e (zR 398 14895) s m [.ref (A0 + 703), .int x1].toArray below meth c H locs 0 0 (MQ below (zQv D A0 σr GF 740) [.ref (A0 + 703), .int x1].toArray s 0 0 (zA A0)) (F0 m 105 ls []) := by
    intro  σ105 H locs ls Z hl h
    rw [ek105] at h
    try dsimp only at h
    refine lv_aload_n hx hb dX12_goes_105 rfl (lv_at hl 0 rfl) ?_
    refine zw_getR F Z zC12 (a := 703) (k := 37) (by decide) zs_703 (by decide) rfl zg_703_37 zq1287 (Or.inl rfl) dX12_goes_106 ?_
    refine lv_aload_n hx hb dX12_goes_109 rfl (lv_at hl 0 rfl) ?_
    refine zw_getI F Z zC12 (a := 703) (k := 24) (by decide) zs_703 (by decide) rfl zq1274 (Or.inl rfl) dX12_goes_110 ?_
    refine lv_iconst (v := 0) hx hb dX12_goes_113 (by decide) ?_
    obtain ⟨hk114, h⟩ := ck_x h
    refine zw_iast F Z (by decide) zs_719 hk114 dX12_goes_114 (fun σ114 _ _ eσ114 Z => ?_)
    replace h := lt_w h eσ114
    refine lv_iconst (v := 0) hx hb dX12_goes_115 (by decide) ?_
    refine lv_istore_n (lv' := [(2, .int 0), (0, .ref (A0 + 703)), (1, .int x1)]) hx hb dX12_goes_116 rfl hl (by decide) rfl (fun ls hl => ?_)
    obtain ⟨k209, ek209, h⟩ := lt_x h
    have hk209 : ∀ (σ209 : Mm) (H : Heap) (locs : List Loc) (ls : Array Slot), zh D A0 σ209 GF 740 s.heap H locs → lv_has ls 4 [(0, .ref (A0 + 703))] → k209 σ209 = some σr → W p l e (zR 398 14895) s m [.ref (A0 + 703), .int x1].toArray below meth c H locs 0 0 (MQ below (zQv D A0 σr GF 740) [.ref (A0 + 703), .int x1].toArray s 0 0 (zA A0)) (F0 m 209 ls []) := by
      intro  σ209 H locs ls Z hl h
      rw [ek209] at h
      try dsimp only at h
      refine lv_aload_n hx hb dX12_goes_209 rfl (lv_at hl 0 rfl) ?_
      refine zw_getI F Z zC12 (a := 703) (k := 25) (by decide) zs_703 (by decide) rfl zq1275 (Or.inl rfl) dX12_goes_210 ?_
      refine lv_topi (fun x2_213 ex2_213 => ?_)
      replace h := lt_w h ex2_213
      refine lv_istore_n (lv' := [(2, .int x2_213), (0, .ref (A0 + 703))]) hx hb dX12_goes_213 rfl hl (by decide) rfl (fun ls hl => ?_)
      obtain ⟨k250, ek250, h⟩ := lt_x h
      have hk250 : ∀ (σ250 : Mm) (H : Heap) (locs : List Loc) (ls : Array Slot), zh D A0 σ250 GF 740 s.heap H locs → lv_has ls 4 [(0, .ref (A0 + 703))] → k250 σ250 = some σr → W p l e (zR 398 14895) s m [.ref (A0 + 703), .int x1].toArray below meth c H locs 0 0 (MQ below (zQv D A0 σr GF 740) [.ref (A0 + 703), .int x1].toArray s 0 0 (zA A0)) (F0 m 250 ls []) := by
        intro  σ250 H locs ls Z hl h
        rw [ek250] at h
        try dsimp only at h
        refine lv_iconst (v := 0) hx hb dX12_goes_250 (by decide) ?_
        refine lv_istore_n (lv' := [(2, .int 0), (0, .ref (A0 + 703))]) hx hb dX12_goes_251 rfl hl (by decide) rfl (fun ls hl => ?_)
        obtain ⟨k292, ek292, h⟩ := lt_x h
        have hk292 : ∀ (σ292 : Mm) (H : Heap) (locs : List Loc) (ls : Array Slot), zh D A0 σ292 GF 740 s.heap H locs → lv_has ls 4 [(0, .ref (A0 + 703))] → k292 σ292 = some σr → W p l e (zR 398 14895) s m [.ref (A0 + 703), .int x1].toArray below meth c H locs 0 0 (MQ below (zQv D A0 σr GF 740) [.ref (A0 + 703), .int x1].toArray s 0 0 (zA A0)) (F0 m 292 ls []) := by
          intro  σ292 H locs ls Z hl h
          rw [ek292] at h
          try dsimp only at h
          refine lv_aload_n hx hb dX12_goes_292 rfl (lv_at hl 0 rfl) ?_
          refine zw_getR F Z zC12 (a := 703) (k := 36) (by decide) zs_703 (by decide) rfl zg_703_36 zq1286 (Or.inl rfl) dX12_goes_293 ?_
          refine lv_aload_n hx hb dX12_goes_296 rfl (lv_at hl 0 rfl) ?_
          refine zw_getI F Z zC12 (a := 703) (k := 24) (by decide) zs_703 (by decide) rfl zq1274 (Or.inl rfl) dX12_goes_297 ?_
          refine lv_aload_n hx hb dX12_goes_300 rfl (lv_at hl 0 rfl) ?_
          refine zw_getI F Z zC12 (a := 703) (k := 44) (by decide) zs_703 (by decide) rfl zq1294 (Or.inl rfl) dX12_goes_301 ?_
          obtain ⟨hk304, h⟩ := ck_x h
          refine zw_iast F Z (by decide) zs_718 hk304 dX12_goes_304 (fun σ304 _ _ eσ304 Z => ?_)
          replace h := lt_w h eσ304
          refine lv_aload_n hx hb dX12_goes_305 rfl (lv_at hl 0 rfl) ?_
          obtain ⟨σ306, hc306, h⟩ := bd_x h
          refine zc_v Z (zr_V F Z (a := 703) (As := []) (zcX12_serveAll l D A0 σ304 σ306 hc306) zBX12_serveAll zq1673 (by decide) zs_703 zC12.1 rfl ⟨⟨rfl, rfl⟩, Nat.le_of_ble_eq_true rfl, Nat.le_of_ble_eq_true rfl⟩ hl.1 rfl (Nat.le_of_ble_eq_true rfl) dX12_goes_306 ⟨Nat.le_of_ble_eq_true rfl, Nat.le_of_ble_eq_true rfl⟩) (fun _ _ Z => ?_)
          refine lv_aload_n hx hb dX12_goes_309 rfl (lv_at hl 0 rfl) ?_
          obtain ⟨σ310, hc310, h⟩ := bd_x h
          refine zc_v Z (zr_V F Z (a := 703) (As := []) (zcX12_board l D A0 σ306 σ310 hc310) zBX12_board zq1693 (by decide) zs_703 zC12.1 rfl ⟨⟨rfl, rfl⟩, Nat.le_of_ble_eq_true rfl, Nat.le_of_ble_eq_true rfl⟩ hl.1 rfl (Nat.le_of_ble_eq_true rfl) dX12_goes_310 ⟨Nat.le_of_ble_eq_true rfl, Nat.le_of_ble_eq_true rfl⟩) (fun _ _ Z => ?_)
          refine lv_iconst (v := 0) hx hb dX12_goes_313 (by decide) ?_
          refine lv_istore_n (lv' := [(2, .int 0), (0, .ref (A0 + 703))]) hx hb dX12_goes_314 rfl hl (by decide) rfl (fun ls hl => ?_)
          obtain ⟨k372, ek372, h⟩ := lt_x h
          have hk372 : ∀ (σ372 : Mm) (H : Heap) (locs : List Loc) (ls : Array Slot), zh D A0 σ372 GF 740 s.heap H locs → lv_has ls 4 [(0, .ref (A0 + 703))] → k372 σ372 = some σr → W p l e (zR 398 14895) s m [.ref (A0 + 703), .int x1].toArray below meth c H locs 0 0 (MQ below (zQv D A0 σr GF 740) [.ref (A0 + 703), .int x1].toArray s 0 0 (zA A0)) (F0 m 372 ls []) := by
            intro  σ372 H locs ls Z hl h
            rw [ek372] at h
            try dsimp only at h
            refine lv_aload_n hx hb dX12_goes_372 rfl (lv_at hl 0 rfl) ?_
            refine zw_getR F Z zC12 (a := 703) (k := 29) (by decide) zs_703 (by decide) rfl zg_703_29 zq1279 (Or.inl rfl) dX12_goes_373 ?_
            refine lv_bipush (v := 56) hx hb dX12_goes_376 (by decide) ?_
            refine lv_dup2_11 hx hb dX12_goes_378 rfl rfl ?_
            refine zw_iald F Z (by decide) zs_714 (by decide) dX12_goes_379 ?_
            refine lv_iconst (v := 1) hx hb dX12_goes_380 (by decide) ?_
            refine lv_iadd hx hb dX12_goes_381 ?_
            refine zw_iast F Z (by decide) zs_714 (by decide) dX12_goes_382 (fun σ382 _ _ eσ382 Z => ?_)
            replace h := lt_w h eσ382
            have hq := Option.some.inj h
            exact ze_v F Z hr hlocks hq dX12_goes_383
          have hL315 : ∀ (fu315 : Nat) (x2_315 : Int32) (σ315 : Mm) (H : Heap) (locs : List Loc) (ls : Array Slot), zh D A0 σ315 GF 740 s.heap H locs → lv_has ls 4 [(0, .ref (A0 + 703)), (2, .int x2_315)] → zfX12_goes_L315 k372 fu315 x2_315 σ315 = some σr → W p l e (zR 398 14895) s m [.ref (A0 + 703), .int x1].toArray below meth c H locs 0 0 (MQ below (zQv D A0 σr GF 740) [.ref (A0 + 703), .int x1].toArray s 0 0 (zA A0)) (F0 m 315 ls []) := by
            intro fu315
            induction fu315 with
            | zero => intro x2_315 σ315 H locs ls Z hl h; rw [zfX12_goes_L315] at h; cases h
            | succ fu315 ih315 =>
              intro x2_315 σ315 H locs ls Z hl h
              rw [zfX12_goes_L315] at h
              refine lv_iload_n hx hb dX12_goes_315 rfl (lv_at hl 1 rfl) ?_
              refine lv_aload_n hx hb dX12_goes_316 rfl (lv_at hl 0 rfl) ?_
              refine zw_getI F Z zC12 (a := 703) (k := 24) (by decide) zs_703 (by decide) rfl zq1274 (Or.inl rfl) dX12_goes_317 ?_
              refine zb_icge (tgt := 372) hx hb dX12_goes_320 (by decide) h (fun h => ?_) (fun h => ?_)
              · exact hk372 σ315 _ _ _ Z (lv_sub hl [0] rfl) h
              · refine lv_aload_n hx hb dX12_goes_323 rfl (lv_at hl 0 rfl) ?_
                refine zw_getR F Z zC12 (a := 703) (k := 29) (by decide) zs_703 (by decide) rfl zg_703_29 zq1279 (Or.inl rfl) dX12_goes_324 ?_
                refine lv_bipush (v := 6) hx hb dX12_goes_327 (by decide) ?_
                refine lv_iload_n hx hb dX12_goes_329 rfl (lv_at hl 1 rfl) ?_
                refine lv_iadd hx hb dX12_goes_330 ?_
                refine lv_aload_n hx hb dX12_goes_331 rfl (lv_at hl 0 rfl) ?_
                refine zw_getR F Z zC12 (a := 703) (k := 29) (by decide) zs_703 (by decide) rfl zg_703_29 zq1279 (Or.inl rfl) dX12_goes_332 ?_
                refine lv_iload_n hx hb dX12_goes_335 rfl (lv_at hl 1 rfl) ?_
                obtain ⟨hk336, h⟩ := ck_x h
                refine zw_iald F Z (by decide) zs_714 hk336 dX12_goes_336 ?_
                obtain ⟨hk337, h⟩ := ck_x h
                refine zw_iast F Z (by decide) zs_714 hk337 dX12_goes_337 (fun σ337 _ _ eσ337 Z => ?_)
                replace h := lt_w h eσ337
                refine lv_aload_n hx hb dX12_goes_338 rfl (lv_at hl 0 rfl) ?_
                refine zw_getR F Z zC12 (a := 703) (k := 29) (by decide) zs_703 (by decide) rfl zg_703_29 zq1279 (Or.inl rfl) dX12_goes_339 ?_
                refine lv_iload_n hx hb dX12_goes_342 rfl (lv_at hl 1 rfl) ?_
                refine lv_dup2_11 hx hb dX12_goes_343 rfl rfl ?_
                obtain ⟨hk344, h⟩ := ck_x h
                refine zw_iald F Z (by decide) zs_714 hk344 dX12_goes_344 ?_
                refine lv_aload_n hx hb dX12_goes_345 rfl (lv_at hl 0 rfl) ?_
                refine zw_getR F Z zC12 (a := 703) (k := 29) (by decide) zs_703 (by decide) rfl zg_703_29 zq1279 (Or.inl rfl) dX12_goes_346 ?_
                refine lv_iload_n hx hb dX12_goes_349 rfl (lv_at hl 1 rfl) ?_
                obtain ⟨hk350, h⟩ := ck_x h
                refine zw_iald F Z (by decide) zs_714 hk350 dX12_goes_350 ?_
                refine lv_aload_n hx hb dX12_goes_351 rfl (lv_at hl 0 rfl) ?_
                refine zw_getR F Z zC12 (a := 703) (k := 18) (by decide) zs_703 (by decide) rfl zg_703_18 zq1268 (Or.inl rfl) dX12_goes_352 ?_
                refine lv_iconst (v := 3) hx hb dX12_goes_355 (by decide) ?_
                refine lv_iload_n hx hb dX12_goes_356 rfl (lv_at hl 1 rfl) ?_
                refine lv_imul hx hb dX12_goes_357 ?_
                refine lv_iconst (v := 2) hx hb dX12_goes_358 (by decide) ?_
                refine lv_iadd hx hb dX12_goes_359 ?_
                obtain ⟨hk360, h⟩ := ck_x h
                refine zw_iald F Z (by decide) zs_708 hk360 dX12_goes_360 ?_
                refine zw_zmin F hl.1 zq1667 (Nat.le_of_ble_eq_true rfl) (Nat.le_of_ble_eq_true rfl) (Nat.le_of_ble_eq_true rfl) (Nat.le_of_ble_eq_true rfl) dX12_goes_361 ?_
                refine lv_isub hx hb dX12_goes_364 ?_
                obtain ⟨hk365, h⟩ := ck_x h
                refine zw_iast F Z (by decide) zs_714 hk365 dX12_goes_365 (fun σ365 _ _ eσ365 Z => ?_)
                replace h := lt_w h eσ365
                obtain ⟨x2_366, ex2_366⟩ : ∃ y : Int32, y = x2_315 + 1 := ⟨_, rfl⟩
                replace h := lt_w h ex2_366
                refine lv_iinc (v := x2_366) (lv' := [(2, .int x2_366), (0, .ref (A0 + 703))]) hx hb dX12_goes_366 hl (k := 1) rfl (by rw [ex2_366]; rfl) (by decide) rfl (fun ls hl => ?_)
                refine lv_goto (tgt := 315) hx hb dX12_goes_369 (by decide) ?_
                exact ih315 x2_366 σ365 _ _ _ Z (lv_sub hl [1, 0] rfl) h
          exact hL315 NF 0 σ310 _ _ _ Z (lv_sub hl [1, 0] rfl) h
        have hL252 : ∀ (fu252 : Nat) (x2_252 : Int32) (σ252 : Mm) (H : Heap) (locs : List Loc) (ls : Array Slot), zh D A0 σ252 GF 740 s.heap H locs → lv_has ls 4 [(0, .ref (A0 + 703)), (2, .int x2_252)] → zfX12_goes_L252 k292 fu252 x2_252 σ252 = some σr → W p l e (zR 398 14895) s m [.ref (A0 + 703), .int x1].toArray below meth c H locs 0 0 (MQ below (zQv D A0 σr GF 740) [.ref (A0 + 703), .int x1].toArray s 0 0 (zA A0)) (F0 m 252 ls []) := by
          intro fu252
          induction fu252 with
          | zero => intro x2_252 σ252 H locs ls Z hl h; rw [zfX12_goes_L252] at h; cases h
          | succ fu252 ih252 =>
            intro x2_252 σ252 H locs ls Z hl h
            rw [zfX12_goes_L252] at h
            refine lv_iload_n hx hb dX12_goes_252 rfl (lv_at hl 1 rfl) ?_
            refine lv_aload_n hx hb dX12_goes_253 rfl (lv_at hl 0 rfl) ?_
            refine zw_getI F Z zC12 (a := 703) (k := 24) (by decide) zs_703 (by decide) rfl zq1274 (Or.inl rfl) dX12_goes_254 ?_
            refine zb_icge (tgt := 292) hx hb dX12_goes_257 (by decide) h (fun h => ?_) (fun h => ?_)
            · exact hk292 σ252 _ _ _ Z (lv_sub hl [0] rfl) h
            · refine lv_aload_n hx hb dX12_goes_260 rfl (lv_at hl 0 rfl) ?_
              refine zw_getR F Z zC12 (a := 703) (k := 36) (by decide) zs_703 (by decide) rfl zg_703_36 zq1286 (Or.inl rfl) dX12_goes_261 ?_
              refine lv_iload_n hx hb dX12_goes_264 rfl (lv_at hl 1 rfl) ?_
              refine lv_aload_n hx hb dX12_goes_265 rfl (lv_at hl 0 rfl) ?_
              refine lv_iload_n hx hb dX12_goes_266 rfl (lv_at hl 1 rfl) ?_
              obtain ⟨r267, σ267, hc267, h⟩ := bd2_x h
              refine zc_i Z (zr_V F Z (a := 703) (As := [.int x2_252]) (zcX12_askOf l D A0 x2_252 σ252 r267 σ267 hc267) zBX12_askOf zq1668 (by decide) zs_703 zC12.1 rfl ⟨⟨rfl, rfl⟩, Nat.le_of_ble_eq_true rfl, Nat.le_of_ble_eq_true rfl⟩ hl.1 rfl (Nat.le_of_ble_eq_true rfl) dX12_goes_267 ⟨Nat.le_of_ble_eq_true rfl, Nat.le_of_ble_eq_true rfl⟩) (fun _ _ Z => ?_)
              obtain ⟨hk270, h⟩ := ck_x h
              refine zw_iast F Z (by decide) zs_718 hk270 dX12_goes_270 (fun σ270 _ _ eσ270 Z => ?_)
              replace h := lt_w h eσ270
              refine lv_aload_n hx hb dX12_goes_271 rfl (lv_at hl 0 rfl) ?_
              refine zw_getR F Z zC12 (a := 703) (k := 29) (by decide) zs_703 (by decide) rfl zg_703_29 zq1279 (Or.inl rfl) dX12_goes_272 ?_
              refine lv_bipush (v := 18) hx hb dX12_goes_275 (by decide) ?_
              refine lv_iload_n hx hb dX12_goes_277 rfl (lv_at hl 1 rfl) ?_
              refine lv_iadd hx hb dX12_goes_278 ?_
              refine lv_aload_n hx hb dX12_goes_279 rfl (lv_at hl 0 rfl) ?_
              refine zw_getR F Z zC12 (a := 703) (k := 36) (by decide) zs_703 (by decide) rfl zg_703_36 zq1286 (Or.inl rfl) dX12_goes_280 ?_
              refine lv_iload_n hx hb dX12_goes_283 rfl (lv_at hl 1 rfl) ?_
              obtain ⟨hk284, h⟩ := ck_x h
              refine zw_iald F Z (by decide) zs_718 hk284 dX12_goes_284 ?_
              obtain ⟨hk285, h⟩ := ck_x h
              refine zw_iast F Z (by decide) zs_714 hk285 dX12_goes_285 (fun σ285 _ _ eσ285 Z => ?_)
              replace h := lt_w h eσ285
              obtain ⟨x2_286, ex2_286⟩ : ∃ y : Int32, y = x2_252 + 1 := ⟨_, rfl⟩
              replace h := lt_w h ex2_286
              refine lv_iinc (v := x2_286) (lv' := [(2, .int x2_286), (0, .ref (A0 + 703))]) hx hb dX12_goes_286 hl (k := 1) rfl (by rw [ex2_286]; rfl) (by decide) rfl (fun ls hl => ?_)
              refine lv_goto (tgt := 252) hx hb dX12_goes_289 (by decide) ?_
              exact ih252 x2_286 σ285 _ _ _ Z (lv_sub hl [1, 0] rfl) h
        exact hL252 NF 0 σ250 _ _ _ Z (lv_sub hl [1, 0] rfl) h
      have hL214 : ∀ (fu214 : Nat) (x2_214 : Int32) (σ214 : Mm) (H : Heap) (locs : List Loc) (ls : Array Slot), zh D A0 σ214 GF 740 s.heap H locs → lv_has ls 4 [(0, .ref (A0 + 703)), (2, .int x2_214)] → zfX12_goes_L214 k250 fu214 x2_214 σ214 = some σr → W p l e (zR 398 14895) s m [.ref (A0 + 703), .int x1].toArray below meth c H locs 0 0 (MQ below (zQv D A0 σr GF 740) [.ref (A0 + 703), .int x1].toArray s 0 0 (zA A0)) (F0 m 214 ls []) := by
        intro fu214
        induction fu214 with
        | zero => intro x2_214 σ214 H locs ls Z hl h; rw [zfX12_goes_L214] at h; cases h
        | succ fu214 ih214 =>
          intro x2_214 σ214 H locs ls Z hl h
          rw [zfX12_goes_L214] at h
          refine lv_iload_n hx hb dX12_goes_214 rfl (lv_at hl 1 rfl) ?_
          refine lv_bipush (v := 6) hx hb dX12_goes_215 (by decide) ?_
          refine zb_icge (tgt := 250) hx hb dX12_goes_217 (by decide) h (fun h => ?_) (fun h => ?_)
          · exact hk250 σ214 _ _ _ Z (lv_sub hl [0] rfl) h
          · refine lv_iconst (v := 0) hx hb dX12_goes_220 (by decide) ?_
            refine lv_istore_n (lv' := [(3, .int 0), (0, .ref (A0 + 703)), (2, .int x2_214)]) hx hb dX12_goes_221 rfl hl (by decide) rfl (fun ls hl => ?_)
            obtain ⟨k244, ek244, h⟩ := lt_x h
            have hk244 : ∀ (σ244 : Mm) (H : Heap) (locs : List Loc) (ls : Array Slot), zh D A0 σ244 GF 740 s.heap H locs → lv_has ls 4 [(0, .ref (A0 + 703)), (2, .int x2_214)] → k244 σ244 = some σr → W p l e (zR 398 14895) s m [.ref (A0 + 703), .int x1].toArray below meth c H locs 0 0 (MQ below (zQv D A0 σr GF 740) [.ref (A0 + 703), .int x1].toArray s 0 0 (zA A0)) (F0 m 244 ls []) := by
              intro  σ244 H locs ls Z hl h
              rw [ek244] at h
              try dsimp only at h
              obtain ⟨x2_244, ex2_244⟩ : ∃ y : Int32, y = x2_214 + 1 := ⟨_, rfl⟩
              replace h := lt_w h ex2_244
              refine lv_iinc (v := x2_244) (lv' := [(2, .int x2_244), (0, .ref (A0 + 703))]) hx hb dX12_goes_244 hl (k := 1) rfl (by rw [ex2_244]; rfl) (by decide) rfl (fun ls hl => ?_)
              refine lv_goto (tgt := 214) hx hb dX12_goes_247 (by decide) ?_
              exact ih214 x2_244 σ244 _ _ _ Z (lv_sub hl [1, 0] rfl) h
            have hL222 : ∀ (fu222 : Nat) (x3_222 : Int32) (σ222 : Mm) (H : Heap) (locs : List Loc) (ls : Array Slot), zh D A0 σ222 GF 740 s.heap H locs → lv_has ls 4 [(0, .ref (A0 + 703)), (2, .int x2_214), (3, .int x3_222)] → zfX12_goes_L222 k244 x2_214 fu222 x3_222 σ222 = some σr → W p l e (zR 398 14895) s m [.ref (A0 + 703), .int x1].toArray below meth c H locs 0 0 (MQ below (zQv D A0 σr GF 740) [.ref (A0 + 703), .int x1].toArray s 0 0 (zA A0)) (F0 m 222 ls []) := by
              intro fu222
              induction fu222 with
              | zero => intro x3_222 σ222 H locs ls Z hl h; rw [zfX12_goes_L222] at h; cases h
              | succ fu222 ih222 =>
                intro x3_222 σ222 H locs ls Z hl h
                rw [zfX12_goes_L222] at h
                refine lv_iload_n hx hb dX12_goes_222 rfl (lv_at hl 2 rfl) ?_
                refine lv_iconst (v := 4) hx hb dX12_goes_223 (by decide) ?_
                refine zb_icge (tgt := 244) hx hb dX12_goes_224 (by decide) h (fun h => ?_) (fun h => ?_)
                · exact hk244 σ222 _ _ _ Z (lv_sub hl [0, 1] rfl) h
                · refine lv_aload_n hx hb dX12_goes_227 rfl (lv_at hl 0 rfl) ?_
                  refine zw_getR F Z zC12 (a := 703) (k := 39) (by decide) zs_703 (by decide) rfl zg_703_39 zq1289 (Or.inl rfl) dX12_goes_228 ?_
                  refine lv_iconst (v := 4) hx hb dX12_goes_231 (by decide) ?_
                  refine lv_iload_n hx hb dX12_goes_232 rfl (lv_at hl 1 rfl) ?_
                  refine lv_imul hx hb dX12_goes_233 ?_
                  refine lv_iload_n hx hb dX12_goes_234 rfl (lv_at hl 2 rfl) ?_
                  refine lv_iadd hx hb dX12_goes_235 ?_
                  refine lv_iconst (v := 0) hx hb dX12_goes_236 (by decide) ?_
                  obtain ⟨hk237, h⟩ := ck_x h
                  refine zw_iast F Z (by decide) zs_721 hk237 dX12_goes_237 (fun σ237 _ _ eσ237 Z => ?_)
                  replace h := lt_w h eσ237
                  obtain ⟨x3_238, ex3_238⟩ : ∃ y : Int32, y = x3_222 + 1 := ⟨_, rfl⟩
                  replace h := lt_w h ex3_238
                  refine lv_iinc (v := x3_238) (lv' := [(3, .int x3_238), (0, .ref (A0 + 703)), (2, .int x2_214)]) hx hb dX12_goes_238 hl (k := 2) rfl (by rw [ex3_238]; rfl) (by decide) rfl (fun ls hl => ?_)
                  refine lv_goto (tgt := 222) hx hb dX12_goes_241 (by decide) ?_
                  exact ih222 x3_238 σ237 _ _ _ Z (lv_sub hl [1, 2, 0] rfl) h
            exact hL222 NF 0 σ214 _ _ _ Z (lv_sub hl [1, 2, 0] rfl) h
      exact hL214 NF x2_213 σ209 _ _ _ Z (lv_sub hl [1, 0] rfl) h
    have hL117 : ∀ (fu117 : Nat) (x2_117 : Int32) (σ117 : Mm) (H : Heap) (locs : List Loc) (ls : Array Slot), zh D A0 σ117 GF 740 s.heap H locs → lv_has ls 4 [(0, .ref (A0 + 703)), (1, .int x1), (2, .int x2_117)] → zfX12_goes_L117 k209 x1 fu117 x2_117 σ117 = some σr → W p l e (zR 398 14895) s m [.ref (A0 + 703), .int x1].toArray below meth c H locs 0 0 (MQ below (zQv D A0 σr GF 740) [.ref (A0 + 703), .int x1].toArray s 0 0 (zA A0)) (F0 m 117 ls []) := by
      intro fu117
      induction fu117 with
      | zero => intro x2_117 σ117 H locs ls Z hl h; rw [zfX12_goes_L117] at h; cases h
      | succ fu117 ih117 =>
        intro x2_117 σ117 H locs ls Z hl h
        rw [zfX12_goes_L117] at h
        refine lv_iload_n hx hb dX12_goes_117 rfl (lv_at hl 2 rfl) ?_
        refine lv_aload_n hx hb dX12_goes_118 rfl (lv_at hl 0 rfl) ?_
        refine zw_getI F Z zC12 (a := 703) (k := 25) (by decide) zs_703 (by decide) rfl zq1275 (Or.inl rfl) dX12_goes_119 ?_
        refine zb_icge (tgt := 209) hx hb dX12_goes_122 (by decide) h (fun h => ?_) (fun h => ?_)
        · exact hk209 σ117 _ _ _ Z (lv_sub hl [0] rfl) h
        · refine lv_iconst (v := 0) hx hb dX12_goes_125 (by decide) ?_
          refine lv_istore_n (lv' := [(3, .int 0), (0, .ref (A0 + 703)), (1, .int x1), (2, .int x2_117)]) hx hb dX12_goes_126 rfl hl (by decide) rfl (fun ls hl => ?_)
          obtain ⟨k161, ek161, h⟩ := lt_x h
          have hk161 : ∀ (σ161 : Mm) (H : Heap) (locs : List Loc) (ls : Array Slot), zh D A0 σ161 GF 740 s.heap H locs → lv_has ls 4 [(0, .ref (A0 + 703)), (1, .int x1), (2, .int x2_117)] → k161 σ161 = some σr → W p l e (zR 398 14895) s m [.ref (A0 + 703), .int x1].toArray below meth c H locs 0 0 (MQ below (zQv D A0 σr GF 740) [.ref (A0 + 703), .int x1].toArray s 0 0 (zA A0)) (F0 m 161 ls []) := by
            intro  σ161 H locs ls Z hl h
            rw [ek161] at h
            try dsimp only at h
            refine lv_aload_n hx hb dX12_goes_161 rfl (lv_at hl 0 rfl) ?_
            refine zw_getR F Z zC12 (a := 703) (k := 39) (by decide) zs_703 (by decide) rfl zg_703_39 zq1289 (Or.inl rfl) dX12_goes_162 ?_
            refine lv_iconst (v := 4) hx hb dX12_goes_165 (by decide) ?_
            refine lv_iload_n hx hb dX12_goes_166 rfl (lv_at hl 2 rfl) ?_
            refine lv_imul hx hb dX12_goes_167 ?_
            refine lv_aload_n hx hb dX12_goes_168 rfl (lv_at hl 0 rfl) ?_
            refine zw_getR F Z zC12 (a := 703) (k := 19) (by decide) zs_703 (by decide) rfl zg_703_19 zq1269 (Or.inl rfl) dX12_goes_169 ?_
            refine lv_iconst (v := 3) hx hb dX12_goes_172 (by decide) ?_
            refine lv_iload_n hx hb dX12_goes_173 rfl (lv_at hl 2 rfl) ?_
            refine lv_imul hx hb dX12_goes_174 ?_
            refine lv_iconst (v := 2) hx hb dX12_goes_175 (by decide) ?_
            refine lv_iadd hx hb dX12_goes_176 ?_
            obtain ⟨hk177, h⟩ := ck_x h
            refine zw_iald F Z (by decide) zs_709 hk177 dX12_goes_177 ?_
            refine lv_iadd hx hb dX12_goes_178 ?_
            refine lv_dup2_11 hx hb dX12_goes_179 rfl rfl ?_
            obtain ⟨hk180, h⟩ := ck_x h
            refine zw_iald F Z (by decide) zs_721 hk180 dX12_goes_180 ?_
            refine lv_aload_n hx hb dX12_goes_181 rfl (lv_at hl 0 rfl) ?_
            refine zw_getR F Z zC12 (a := 703) (k := 19) (by decide) zs_703 (by decide) rfl zg_703_19 zq1269 (Or.inl rfl) dX12_goes_182 ?_
            refine lv_iconst (v := 3) hx hb dX12_goes_185 (by decide) ?_
            refine lv_iload_n hx hb dX12_goes_186 rfl (lv_at hl 2 rfl) ?_
            refine lv_imul hx hb dX12_goes_187 ?_
            refine lv_iconst (v := 1) hx hb dX12_goes_188 (by decide) ?_
            refine lv_iadd hx hb dX12_goes_189 ?_
            obtain ⟨hk190, h⟩ := ck_x h
            refine zw_iald F Z (by decide) zs_709 hk190 dX12_goes_190 ?_
            refine lv_iload_n hx hb dX12_goes_191 rfl (lv_at hl 1 rfl) ?_
            obtain ⟨j200, ej200, h⟩ := lt_x h
            have hj200 : ∀ (y0_200 : Int32) (σ200 : Mm) (H : Heap) (locs : List Loc) (ls : Array Slot), zh D A0 σ200 GF 740 s.heap H locs → lv_has ls 4 [(0, .ref (A0 + 703)), (1, .int x1), (2, .int x2_117)] → j200 y0_200 σ200 = some σr → W p l e (zR 398 14895) s m [.ref (A0 + 703), .int x1].toArray below meth c H locs 0 0 (MQ below (zQv D A0 σr GF 740) [.ref (A0 + 703), .int x1].toArray s 0 0 (zA A0)) (F0 m 200 ls [.int y0_200, .int (σ161 709 (ix ((3 * x2_117) + 1))), .int (σ161 721 (ix ((4 * x2_117) + (σ161 709 (ix ((3 * x2_117) + 2)))))), .int ((4 * x2_117) + (σ161 709 (ix ((3 * x2_117) + 2)))), .ref (A0 + 721)]) := by
              intro y0_200 σ200 H locs ls Z hl h
              rw [ej200] at h
              try dsimp only at h
              refine lv_imul hx hb dX12_goes_200 ?_
              refine lv_iadd hx hb dX12_goes_201 ?_
              obtain ⟨hk202, h⟩ := ck_x h
              refine zw_iast F Z (by decide) zs_721 hk202 dX12_goes_202 (fun σ202 _ _ eσ202 Z => ?_)
              replace h := lt_w h eσ202
              obtain ⟨x2_203, ex2_203⟩ : ∃ y : Int32, y = x2_117 + 1 := ⟨_, rfl⟩
              replace h := lt_w h ex2_203
              refine lv_iinc (v := x2_203) (lv' := [(2, .int x2_203), (0, .ref (A0 + 703)), (1, .int x1)]) hx hb dX12_goes_203 hl (k := 2) rfl (by rw [ex2_203]; rfl) (by decide) rfl (fun ls hl => ?_)
              refine lv_goto (tgt := 117) hx hb dX12_goes_206 (by decide) ?_
              exact ih117 x2_203 σ202 _ _ _ Z (lv_sub hl [1, 2, 0] rfl) h
            refine zb_ifeq (tgt := 199) hx hb dX12_goes_192 (by decide) h (fun h => ?_) (fun h => ?_)
            · refine lv_iconst (v := 1) hx hb dX12_goes_199 (by decide) ?_
              exact hj200 1 σ161 _ _ _ Z (lv_sub hl [0, 1, 2] rfl) h
            · refine lv_iconst (v := 2) hx hb dX12_goes_195 (by decide) ?_
              refine lv_goto (tgt := 200) hx hb dX12_goes_196 (by decide) ?_
              exact hj200 2 σ161 _ _ _ Z (lv_sub hl [0, 1, 2] rfl) h
          have hL127 : ∀ (fu127 : Nat) (x3_127 : Int32) (σ127 : Mm) (H : Heap) (locs : List Loc) (ls : Array Slot), zh D A0 σ127 GF 740 s.heap H locs → lv_has ls 4 [(0, .ref (A0 + 703)), (1, .int x1), (2, .int x2_117), (3, .int x3_127)] → zfX12_goes_L127 k161 x2_117 fu127 x3_127 σ127 = some σr → W p l e (zR 398 14895) s m [.ref (A0 + 703), .int x1].toArray below meth c H locs 0 0 (MQ below (zQv D A0 σr GF 740) [.ref (A0 + 703), .int x1].toArray s 0 0 (zA A0)) (F0 m 127 ls []) := by
            intro fu127
            induction fu127 with
            | zero => intro x3_127 σ127 H locs ls Z hl h; rw [zfX12_goes_L127] at h; cases h
            | succ fu127 ih127 =>
              intro x3_127 σ127 H locs ls Z hl h
              rw [zfX12_goes_L127] at h
              refine lv_iload_n hx hb dX12_goes_127 rfl (lv_at hl 3 rfl) ?_
              refine lv_iconst (v := 4) hx hb dX12_goes_128 (by decide) ?_
              refine zb_icge (tgt := 161) hx hb dX12_goes_129 (by decide) h (fun h => ?_) (fun h => ?_)
              · exact hk161 σ127 _ _ _ Z (lv_sub hl [0, 1, 2] rfl) h
              · refine lv_aload_n hx hb dX12_goes_132 rfl (lv_at hl 0 rfl) ?_
                refine zw_getR F Z zC12 (a := 703) (k := 39) (by decide) zs_703 (by decide) rfl zg_703_39 zq1289 (Or.inl rfl) dX12_goes_133 ?_
                refine lv_iconst (v := 4) hx hb dX12_goes_136 (by decide) ?_
                refine lv_iload_n hx hb dX12_goes_137 rfl (lv_at hl 2 rfl) ?_
                refine lv_imul hx hb dX12_goes_138 ?_
                refine lv_iload_n hx hb dX12_goes_139 rfl (lv_at hl 3 rfl) ?_
                refine lv_iadd hx hb dX12_goes_140 ?_
                refine lv_aload_n hx hb dX12_goes_141 rfl (lv_at hl 0 rfl) ?_
                refine zw_getR F Z zC12 (a := 703) (k := 29) (by decide) zs_703 (by decide) rfl zg_703_29 zq1279 (Or.inl rfl) dX12_goes_142 ?_
                refine lv_bipush (v := 30) hx hb dX12_goes_145 (by decide) ?_
                refine lv_iconst (v := 4) hx hb dX12_goes_147 (by decide) ?_
                refine lv_iload_n hx hb dX12_goes_148 rfl (lv_at hl 2 rfl) ?_
                refine lv_imul hx hb dX12_goes_149 ?_
                refine lv_iadd hx hb dX12_goes_150 ?_
                refine lv_iload_n hx hb dX12_goes_151 rfl (lv_at hl 3 rfl) ?_
                refine lv_iadd hx hb dX12_goes_152 ?_
                obtain ⟨hk153, h⟩ := ck_x h
                refine zw_iald F Z (by decide) zs_714 hk153 dX12_goes_153 ?_
                obtain ⟨hk154, h⟩ := ck_x h
                refine zw_iast F Z (by decide) zs_721 hk154 dX12_goes_154 (fun σ154 _ _ eσ154 Z => ?_)
                replace h := lt_w h eσ154
                obtain ⟨x3_155, ex3_155⟩ : ∃ y : Int32, y = x3_127 + 1 := ⟨_, rfl⟩
                replace h := lt_w h ex3_155
                refine lv_iinc (v := x3_155) (lv' := [(3, .int x3_155), (0, .ref (A0 + 703)), (1, .int x1), (2, .int x2_117)]) hx hb dX12_goes_155 hl (k := 3) rfl (by rw [ex3_155]; rfl) (by decide) rfl (fun ls hl => ?_)
                refine lv_goto (tgt := 127) hx hb dX12_goes_158 (by decide) ?_
                exact ih127 x3_155 σ154 _ _ _ Z (lv_sub hl [1, 2, 3, 0] rfl) h
          exact hL127 NF 0 σ117 _ _ _ Z (lv_sub hl [1, 2, 3, 0] rfl) h
    exact hL117 NF 0 σ114 _ _ _ Z (lv_sub hl [1, 2, 0] rfl) h
  have hL7 : ∀ (fu7 : Nat) (x2_7 : Int32) (σ7 : Mm) (H : Heap) (locs : List Loc) (ls : Array Slot), zh D A0 σ7 GF 740 s.heap H locs → lv_has ls 4 [(0, .ref (A0 + 703)), (1, .int x1), (2, .int x2_7)] → zfX12_goes_L7 k105 fu7 x2_7 σ7 = some σr → W p l e (zR 398 14895) s m [.ref (A0 + 703), .int x1].toArray below meth c H locs 0 0 (MQ below (zQv D A0 σr GF 740) [.ref (A0 + 703), .int x1].toArray s 0 0 (zA A0)) (F0 m 7 ls []) := by
    intro fu7
    induction fu7 with
    | zero => intro x2_7 σ7 H locs ls Z hl h; rw [zfX12_goes_L7] at h; cases h
    | succ fu7 ih7 =>
      intro x2_7 σ7 H locs ls Z hl h
      rw [zfX12_goes_L7] at h
      refine lv_iload_n hx hb dX12_goes_7 rfl (lv_at hl 2 rfl) ?_
      refine lv_aload_n hx hb dX12_goes_8 rfl (lv_at hl 0 rfl) ?_
      refine zw_getI F Z zC12 (a := 703) (k := 24) (by decide) zs_703 (by decide) rfl zq1274 (Or.inl rfl) dX12_goes_9 ?_
      refine zb_icge (tgt := 105) hx hb dX12_goes_12 (by decide) h (fun h => ?_) (fun h => ?_)
      · exact hk105 σ7 _ _ _ Z (lv_sub hl [0, 1] rfl) h
      · refine lv_aload_n hx hb dX12_goes_15 rfl (lv_at hl 0 rfl) ?_
        refine zw_getR F Z zC12 (a := 703) (k := 18) (by decide) zs_703 (by decide) rfl zg_703_18 zq1268 (Or.inl rfl) dX12_goes_16 ?_
        refine lv_iconst (v := 3) hx hb dX12_goes_19 (by decide) ?_
        refine lv_iload_n hx hb dX12_goes_20 rfl (lv_at hl 2 rfl) ?_
        refine lv_imul hx hb dX12_goes_21 ?_
        obtain ⟨hk22, h⟩ := ck_x h
        refine zw_iald F Z (by decide) zs_708 hk22 dX12_goes_22 ?_
        refine lv_bipush (v := 99) hx hb dX12_goes_23 (by decide) ?_
        refine lv_aload_n hx hb dX12_goes_25 rfl (lv_at hl 0 rfl) ?_
        refine zw_getR F Z zC12 (a := 703) (k := 29) (by decide) zs_703 (by decide) rfl zg_703_29 zq1279 (Or.inl rfl) dX12_goes_26 ?_
        refine lv_iload_n hx hb dX12_goes_29 rfl (lv_at hl 2 rfl) ?_
        obtain ⟨hk30, h⟩ := ck_x h
        refine zw_iald F Z (by decide) zs_714 hk30 dX12_goes_30 ?_
        refine lv_isub hx hb dX12_goes_31 ?_
        refine zw_zmin F hl.1 zq1667 (Nat.le_of_ble_eq_true rfl) (Nat.le_of_ble_eq_true rfl) (Nat.le_of_ble_eq_true rfl) (Nat.le_of_ble_eq_true rfl) dX12_goes_32 ?_
        refine lv_topi (fun x3_35 ex3_35 => ?_)
        replace h := lt_w h ex3_35
        refine lv_istore_n (lv' := [(3, .int x3_35), (0, .ref (A0 + 703)), (1, .int x1), (2, .int x2_7)]) hx hb dX12_goes_35 rfl hl (by decide) rfl (fun ls hl => ?_)
        refine lv_aload_n hx hb dX12_goes_36 rfl (lv_at hl 1 rfl) ?_
        refine zw_getR F Z zC12 (a := 703) (k := 29) (by decide) zs_703 (by decide) rfl zg_703_29 zq1279 (Or.inl rfl) dX12_goes_37 ?_
        refine lv_iload_n hx hb dX12_goes_40 rfl (lv_at hl 3 rfl) ?_
        refine lv_dup2_11 hx hb dX12_goes_41 rfl rfl ?_
        obtain ⟨hk42, h⟩ := ck_x h
        refine zw_iald F Z (by decide) zs_714 hk42 dX12_goes_42 ?_
        refine lv_iload_n hx hb dX12_goes_43 rfl (lv_at hl 0 rfl) ?_
        refine lv_iadd hx hb dX12_goes_44 ?_
        obtain ⟨hk45, h⟩ := ck_x h
        refine zw_iast F Z (by decide) zs_714 hk45 dX12_goes_45 (fun σ45 _ _ eσ45 Z => ?_)
        replace h := lt_w h eσ45
        refine lv_aload_n hx hb dX12_goes_46 rfl (lv_at hl 1 rfl) ?_
        refine zw_getR F Z zC12 (a := 703) (k := 29) (by decide) zs_703 (by decide) rfl zg_703_29 zq1279 (Or.inl rfl) dX12_goes_47 ?_
        refine lv_bipush (v := 12) hx hb dX12_goes_50 (by decide) ?_
        refine lv_iload_n hx hb dX12_goes_52 rfl (lv_at hl 3 rfl) ?_
        refine lv_iadd hx hb dX12_goes_53 ?_
        refine lv_dup2_11 hx hb dX12_goes_54 rfl rfl ?_
        obtain ⟨hk55, h⟩ := ck_x h
        refine zw_iald F Z (by decide) zs_714 hk55 dX12_goes_55 ?_
        refine lv_iload_n hx hb dX12_goes_56 rfl (lv_at hl 0 rfl) ?_
        refine lv_aload_n hx hb dX12_goes_57 rfl (lv_at hl 1 rfl) ?_
        refine zw_getR F Z zC12 (a := 703) (k := 18) (by decide) zs_703 (by decide) rfl zg_703_18 zq1268 (Or.inl rfl) dX12_goes_58 ?_
        refine lv_iconst (v := 3) hx hb dX12_goes_61 (by decide) ?_
        refine lv_iload_n hx hb dX12_goes_62 rfl (lv_at hl 3 rfl) ?_
        refine lv_imul hx hb dX12_goes_63 ?_
        refine lv_iconst (v := 1) hx hb dX12_goes_64 (by decide) ?_
        refine lv_iadd hx hb dX12_goes_65 ?_
        obtain ⟨hk66, h⟩ := ck_x h
        refine zw_iald F Z (by decide) zs_708 hk66 dX12_goes_66 ?_
        refine lv_imul hx hb dX12_goes_67 ?_
        refine lv_isub hx hb dX12_goes_68 ?_
        obtain ⟨hk69, h⟩ := ck_x h
        refine zw_iast F Z (by decide) zs_714 hk69 dX12_goes_69 (fun σ69 _ _ eσ69 Z => ?_)
        replace h := lt_w h eσ69
        refine lv_aload_n hx hb dX12_goes_70 rfl (lv_at hl 1 rfl) ?_
        refine zw_getR F Z zC12 (a := 703) (k := 38) (by decide) zs_703 (by decide) rfl zg_703_38 zq1288 (Or.inl rfl) dX12_goes_71 ?_
        refine lv_iload_n hx hb dX12_goes_74 rfl (lv_at hl 3 rfl) ?_
        refine lv_aload_n hx hb dX12_goes_75 rfl (lv_at hl 1 rfl) ?_
        refine zw_getR F Z zC12 (a := 703) (k := 29) (by decide) zs_703 (by decide) rfl zg_703_29 zq1279 (Or.inl rfl) dX12_goes_76 ?_
        refine lv_iload_n hx hb dX12_goes_79 rfl (lv_at hl 3 rfl) ?_
        obtain ⟨hk80, h⟩ := ck_x h
        refine zw_iald F Z (by decide) zs_714 hk80 dX12_goes_80 ?_
        obtain ⟨hk81, h⟩ := ck_x h
        refine zw_iast F Z (by decide) zs_720 hk81 dX12_goes_81 (fun σ81 _ _ eσ81 Z => ?_)
        replace h := lt_w h eσ81
        refine lv_aload_n hx hb dX12_goes_82 rfl (lv_at hl 1 rfl) ?_
        refine zw_getR F Z zC12 (a := 703) (k := 29) (by decide) zs_703 (by decide) rfl zg_703_29 zq1279 (Or.inl rfl) dX12_goes_83 ?_
        refine lv_bipush (v := 24) hx hb dX12_goes_86 (by decide) ?_
        refine lv_iload_n hx hb dX12_goes_88 rfl (lv_at hl 3 rfl) ?_
        refine lv_iadd hx hb dX12_goes_89 ?_
        refine lv_iconst (v := 0) hx hb dX12_goes_90 (by decide) ?_
        obtain ⟨hk91, h⟩ := ck_x h
        refine zw_iast F Z (by decide) zs_714 hk91 dX12_goes_91 (fun σ91 _ _ eσ91 Z => ?_)
        replace h := lt_w h eσ91
        refine lv_aload_n hx hb dX12_goes_92 rfl (lv_at hl 1 rfl) ?_
        refine zw_getR F Z zC12 (a := 703) (k := 37) (by decide) zs_703 (by decide) rfl zg_703_37 zq1287 (Or.inl rfl) dX12_goes_93 ?_
        refine lv_iload_n hx hb dX12_goes_96 rfl (lv_at hl 3 rfl) ?_
        refine lv_iconst (v := 0) hx hb dX12_goes_97 (by decide) ?_
        obtain ⟨hk98, h⟩ := ck_x h
        refine zw_iast F Z (by decide) zs_719 hk98 dX12_goes_98 (fun σ98 _ _ eσ98 Z => ?_)
        replace h := lt_w h eσ98
        obtain ⟨x2_99, ex2_99⟩ : ∃ y : Int32, y = x2_7 + 1 := ⟨_, rfl⟩
        replace h := lt_w h ex2_99
        refine lv_iinc (v := x2_99) (lv' := [(2, .int x2_99), (3, .int x3_35), (0, .ref (A0 + 703)), (1, .int x1)]) hx hb dX12_goes_99 hl (k := 3) rfl (by rw [ex2_99]; rfl) (by decide) rfl (fun ls hl => ?_)
        refine lv_goto (tgt := 7) hx hb dX12_goes_102 (by decide) ?_
        exact ih7 x2_99 σ98 _ _ _ Z (lv_sub hl [2, 3, 0] rfl) h
  exact hL7 NF 0 σ2 _ _ _ Z (lv_sub hl [1, 2, 0] rfl) h
set_option maxHeartbeats 4000000 in
set_option maxRecDepth 100000 in
theorem zcX12_plainly (l : Launch) (D : va_G) (A0 : Nat) (σ : Mm) (σr : Mm) (h : zfX12_plainly σ = some σr) : Met l yX12_plainly (zws yX12_plainly cX12_plainly 2 none) (zR 0 0) (zPc D A0 σ GF 740 [.ref (A0 + 703)]) (zQv D A0 σr GF 740) 0 0 (zA A0) := by
  unfold zfX12_plainly at h
  refine zmet (own := RX12) (by decide) rfl (Nat.le_of_ble_eq_true rfl) ?_
  intro p e s m below meth c F hr hlocks _ Z ls hl
  have hl : lv_has ls 2 [(0, .ref (A0 + 703))] := hl
  have hx := F.1.1
  have hb := F.1.2.1
  have hown := F.1.2.2.2.1
  have hts := F.1.2.2.2.2
  refine lv_aload_n hx hb dX12_plainly_0 rfl (lv_at hl 0 rfl) ?_
  refine lv_aload_n hx hb dX12_plainly_1 rfl (lv_at hl 0 rfl) ?_
  refine zw_getI F Z zC12 (a := 703) (k := 32) (by decide) zs_703 (by decide) rfl zq1282 (Or.inl rfl) dX12_plainly_2 ?_
  refine zw_putI F Z zC12 (a := 703) (k := 41) (by decide) zs_703 (by decide) rfl (by decide) zq1291 (Or.inl rfl) rfl ⟨rfl, rfl⟩ dX12_plainly_5 (fun σ5 _ _ eσ5 Z => ?_)
  replace h := lt_w h eσ5
  refine lv_aload_n hx hb dX12_plainly_8 rfl (lv_at hl 0 rfl) ?_
  refine lv_aload_n hx hb dX12_plainly_9 rfl (lv_at hl 0 rfl) ?_
  refine zw_getR F Z zC12 (a := 703) (k := 20) (by decide) zs_703 (by decide) rfl zg_703_20 zq1270 (Or.inl rfl) dX12_plainly_10 ?_
  refine lv_iconst (v := 0) hx hb dX12_plainly_13 (by decide) ?_
  refine zw_iald F Z (by decide) zs_710 (by decide) dX12_plainly_14 ?_
  refine zw_putI F Z zC12 (a := 703) (k := 42) (by decide) zs_703 (by decide) rfl (by decide) zq1292 (Or.inl rfl) rfl ⟨rfl, rfl⟩ dX12_plainly_15 (fun σ15 _ _ eσ15 Z => ?_)
  replace h := lt_w h eσ15
  refine lv_aload_n hx hb dX12_plainly_18 rfl (lv_at hl 0 rfl) ?_
  refine lv_iconst (v := 0) hx hb dX12_plainly_19 (by decide) ?_
  refine zw_putI F Z zC12 (a := 703) (k := 43) (by decide) zs_703 (by decide) rfl (by decide) zq1293 (Or.inl rfl) rfl ⟨rfl, rfl⟩ dX12_plainly_20 (fun σ20 _ _ eσ20 Z => ?_)
  replace h := lt_w h eσ20
  refine lv_iconst (v := 0) hx hb dX12_plainly_23 (by decide) ?_
  refine lv_istore_n (lv' := [(1, .int 0), (0, .ref (A0 + 703))]) hx hb dX12_plainly_24 rfl hl (by decide) rfl (fun ls hl => ?_)
  obtain ⟨k43, ek43, h⟩ := lt_x h
  have hk43 : ∀ (σ43 : Mm) (H : Heap) (locs : List Loc) (ls : Array Slot), zh D A0 σ43 GF 740 s.heap H locs → lv_has ls 2 [] → k43 σ43 = some σr → W p l e (zR 0 0) s m [.ref (A0 + 703)].toArray below meth c H locs 0 0 (MQ below (zQv D A0 σr GF 740) [.ref (A0 + 703)].toArray s 0 0 (zA A0)) (F0 m 43 ls []) := by
    intro  σ43 H locs ls Z hl h
    rw [ek43] at h
    try dsimp only at h
    have hq := Option.some.inj h
    exact ze_v F Z hr hlocks hq dX12_plainly_43
  have hL25 : ∀ (fu25 : Nat) (x1_25 : Int32) (σ25 : Mm) (H : Heap) (locs : List Loc) (ls : Array Slot), zh D A0 σ25 GF 740 s.heap H locs → lv_has ls 2 [(0, .ref (A0 + 703)), (1, .int x1_25)] → zfX12_plainly_L25 k43 fu25 x1_25 σ25 = some σr → W p l e (zR 0 0) s m [.ref (A0 + 703)].toArray below meth c H locs 0 0 (MQ below (zQv D A0 σr GF 740) [.ref (A0 + 703)].toArray s 0 0 (zA A0)) (F0 m 25 ls []) := by
    intro fu25
    induction fu25 with
    | zero => intro x1_25 σ25 H locs ls Z hl h; rw [zfX12_plainly_L25] at h; cases h
    | succ fu25 ih25 =>
      intro x1_25 σ25 H locs ls Z hl h
      rw [zfX12_plainly_L25] at h
      refine lv_iload_n hx hb dX12_plainly_25 rfl (lv_at hl 1 rfl) ?_
      refine lv_iconst (v := 5) hx hb dX12_plainly_26 (by decide) ?_
      refine zb_icge (tgt := 43) hx hb dX12_plainly_27 (by decide) h (fun h => ?_) (fun h => ?_)
      · exact hk43 σ25 _ _ _ Z (lv_sub hl [] rfl) h
      · refine lv_aload_n hx hb dX12_plainly_30 rfl (lv_at hl 0 rfl) ?_
        refine zw_getR F Z zC12 (a := 703) (k := 35) (by decide) zs_703 (by decide) rfl zg_703_35 zq1285 (Or.inl rfl) dX12_plainly_31 ?_
        refine lv_iload_n hx hb dX12_plainly_34 rfl (lv_at hl 1 rfl) ?_
        refine lv_iconst (v := (-1)) hx hb dX12_plainly_35 (by decide) ?_
        obtain ⟨hk36, h⟩ := ck_x h
        refine zw_iast F Z (by decide) zs_717 hk36 dX12_plainly_36 (fun σ36 _ _ eσ36 Z => ?_)
        replace h := lt_w h eσ36
        obtain ⟨x1_37, ex1_37⟩ : ∃ y : Int32, y = x1_25 + 1 := ⟨_, rfl⟩
        replace h := lt_w h ex1_37
        refine lv_iinc (v := x1_37) (lv' := [(1, .int x1_37), (0, .ref (A0 + 703))]) hx hb dX12_plainly_37 hl (k := 1) rfl (by rw [ex1_37]; rfl) (by decide) rfl (fun ls hl => ?_)
        refine lv_goto (tgt := 25) hx hb dX12_plainly_40 (by decide) ?_
        exact ih25 x1_37 σ36 _ _ _ Z (lv_sub hl [1, 0] rfl) h
  exact hL25 NF 0 σ20 _ _ _ Z (lv_sub hl [1, 0] rfl) h
set_option maxHeartbeats 4000000 in
set_option maxRecDepth 100000 in
theorem zcX12_areDays (l : Launch) (D : va_G) (A0 : Nat) (x0 : Int32) (σ : Mm) (r0 : Int32) (h : zfX12_areDays x0 = r0) : Met l yX12_areDays (zws yX12_areDays cX12_areDays 1 (some .boolean)) (zR 1 25) (zPc D A0 σ GF 740 [.int x0]) (zQi D A0 r0 σ GF 740) 0 0 (zA A0) := by
  unfold zfX12_areDays at h
  refine zmet (own := RX12) (by decide) rfl (Nat.le_of_ble_eq_true rfl) ?_
  intro p e s m below meth c F hr hlocks _ Z ls hl
  have hl : lv_has ls 1 [(0, .int x0)] := hl
  have hx := F.1.1
  have hb := F.1.2.1
  have hown := F.1.2.2.2.1
  have hts := F.1.2.2.2.2
  refine lv_iload_n hx hb dX12_areDays_0 rfl (lv_at hl 0 rfl) ?_
  refine lv_i2l hx hb dX12_areDays_1 rfl ?_
  refine lv_lconst (v := 1) hx hb dX12_areDays_2 (by decide) ?_
  refine lv_ldc2 (v := 30) hx hb hown (hts _ zq1656) dX12_areDays_3 ?_
  refine zc_i Z (zr_S F Z (As := [.long (Int32.toInt64 x0), .long 1, .long 30]) (zcX12_isIn l D A0 (Int32.toInt64 x0) 1 30 σ (zfX12_isIn (Int32.toInt64 x0) 1 30) rfl) zBX12_isIn zq1496 rfl ⟨⟨rfl, rfl⟩, Nat.le_of_ble_eq_true rfl, Nat.le_of_ble_eq_true rfl⟩ hl.1 rfl (Nat.le_of_ble_eq_true rfl) dX12_areDays_6 ⟨Nat.le_of_ble_eq_true rfl, Nat.le_of_ble_eq_true rfl⟩) (fun _ _ Z => ?_)
  exact ze_z F Z hr hlocks (by unfold zfX12_isIn; dsimp only [lt]; (repeat' split) <;> decide) h rfl dX12_areDays_9
set_option maxHeartbeats 4000000 in
set_option maxRecDepth 100000 in
theorem zcX12_isReady (l : Launch) (D : va_G) (A0 : Nat) (x1 : Int32) (σ : Mm) (r0 : Int32) (h : zfX12_isReady x1 σ = r0) : Met l yX12_isReady (zws yX12_isReady cX12_isReady 2 (some .boolean)) (zR 2 45) (zPc D A0 σ GF 740 [.ref (A0 + 703), .int x1]) (zQi D A0 r0 σ GF 740) 0 0 (zA A0) := by
  unfold zfX12_isReady at h
  refine zmet (own := RX12) (by decide) rfl (Nat.le_of_ble_eq_true rfl) ?_
  intro p e s m below meth c F hr hlocks _ Z ls hl
  have hl : lv_has ls 2 [(0, .ref (A0 + 703)), (1, .int x1)] := hl
  have hx := F.1.1
  have hb := F.1.2.1
  have hown := F.1.2.2.2.1
  have hts := F.1.2.2.2.2
  refine lv_aload_n hx hb dX12_isReady_0 rfl (lv_at hl 0 rfl) ?_
  refine zw_getI F Z zC12 (a := 703) (k := 24) (by decide) zs_703 (by decide) rfl zq1274 (Or.inl rfl) dX12_isReady_1 ?_
  obtain ⟨j18, ej18, h⟩ := lt_x h
  have hj18 : ∀  (H : Heap) (locs : List Loc) (ls : Array Slot), zh D A0 σ GF 740 s.heap H locs → lv_has ls 2 [] → j18 () = r0 → W p l e (zR 2 45) s m [.ref (A0 + 703), .int x1].toArray below meth c H locs 0 0 (MQ below (zQi D A0 r0 σ GF 740) [.ref (A0 + 703), .int x1].toArray s 0 0 (zA A0)) (F0 m 18 ls []) := by
    intro  H locs ls Z hl h
    rw [ej18] at h
    try dsimp only at h
    refine lv_iconst (v := 0) hx hb dX12_isReady_18 (by decide) ?_
    exact ze_z F Z hr hlocks (by decide) h rfl dX12_isReady_19
  refine zb_ifle (tgt := 18) hx hb dX12_isReady_4 (by decide) h (fun h => ?_) (fun h => ?_)
  · exact hj18  _ _ _ Z (lv_sub hl [] rfl) h
  · refine lv_iload_n hx hb dX12_isReady_7 rfl (lv_at hl 1 rfl) ?_
    refine zc_i Z (zr_S F Z (As := [.int x1]) (zcX12_areDays l D A0 x1 σ (zfX12_areDays x1) rfl) zBX12_areDays zq1653 rfl ⟨⟨rfl, rfl⟩, Nat.le_of_ble_eq_true rfl, Nat.le_of_ble_eq_true rfl⟩ hl.1 rfl (Nat.le_of_ble_eq_true rfl) dX12_isReady_8 ⟨Nat.le_of_ble_eq_true rfl, Nat.le_of_ble_eq_true rfl⟩) (fun _ _ Z => ?_)
    refine zb_ifeq (tgt := 18) hx hb dX12_isReady_11 (by decide) h (fun h => ?_) (fun h => ?_)
    · exact hj18  _ _ _ Z (lv_sub hl [] rfl) h
    · refine lv_iconst (v := 1) hx hb dX12_isReady_14 (by decide) ?_
      refine lv_goto (tgt := 19) hx hb dX12_isReady_15 (by decide) ?_
      exact ze_z F Z hr hlocks (by decide) h rfl dX12_isReady_19
set_option maxHeartbeats 4000000 in
set_option maxRecDepth 100000 in
theorem zcX12_days (l : Launch) (D : va_G) (A0 : Nat) (x1 : Int32) (σ : Mm) (r0 : Int32) (σr : Mm) (h : zfX12_days x1 σ = some (r0, σr)) : Met l yX12_days (zws yX12_days cX12_days 4 (some .int)) (zR 399 14918) (zPc D A0 σ GF 740 [.ref (A0 + 703), .int x1]) (zQi D A0 r0 σr GF 740) 0 0 (zA A0) := by
  unfold zfX12_days at h
  refine zmet (own := RX12) (by decide) rfl (Nat.le_of_ble_eq_true rfl) ?_
  intro p e s m below meth c F hr hlocks _ Z ls hl
  have hl : lv_has ls 4 [(0, .ref (A0 + 703)), (1, .int x1)] := hl
  have hx := F.1.1
  have hb := F.1.2.1
  have hown := F.1.2.2.2.1
  have hts := F.1.2.2.2.2
  refine lv_aload_n hx hb dX12_days_0 rfl (lv_at hl 0 rfl) ?_
  refine lv_iconst (v := 0) hx hb dX12_days_1 (by decide) ?_
  refine zw_putI F Z zC12 (a := 703) (k := 0) (by decide) zs_703 (by decide) rfl (by decide) zq1250 (Or.inl rfl) rfl ⟨rfl, rfl⟩ dX12_days_2 (fun σ2 _ _ eσ2 Z => ?_)
  replace h := lt_w h eσ2
  refine lv_aload_n hx hb dX12_days_5 rfl (lv_at hl 0 rfl) ?_
  refine lv_iload_n hx hb dX12_days_6 rfl (lv_at hl 1 rfl) ?_
  refine zc_i Z (zr_V F Z (a := 703) (As := [.int x1]) (zcX12_isReady l D A0 x1 σ2 (zfX12_isReady x1 σ2) rfl) zBX12_isReady zq1649 (by decide) zs_703 zC12.1 rfl ⟨⟨rfl, rfl⟩, Nat.le_of_ble_eq_true rfl, Nat.le_of_ble_eq_true rfl⟩ hl.1 rfl (Nat.le_of_ble_eq_true rfl) dX12_days_7 ⟨Nat.le_of_ble_eq_true rfl, Nat.le_of_ble_eq_true rfl⟩) (fun _ _ Z => ?_)
  refine zb_ifne (tgt := 15) hx hb dX12_days_10 (by decide) h (fun h => ?_) (fun h => ?_)
  · refine lv_aload_n hx hb dX12_days_15 rfl (lv_at hl 0 rfl) ?_
    obtain ⟨σ16, hc16, h⟩ := bd_x h
    refine zc_v Z (zr_V F Z (a := 703) (As := []) (zcX12_plainly l D A0 σ2 σ16 hc16) zBX12_plainly zq1657 (by decide) zs_703 zC12.1 rfl ⟨⟨rfl, rfl⟩, Nat.le_of_ble_eq_true rfl, Nat.le_of_ble_eq_true rfl⟩ hl.1 rfl (Nat.le_of_ble_eq_true rfl) dX12_days_16 ⟨Nat.le_of_ble_eq_true rfl, Nat.le_of_ble_eq_true rfl⟩) (fun _ _ Z => ?_)
    refine lv_iconst (v := 0) hx hb dX12_days_19 (by decide) ?_
    refine lv_istore_n (lv' := [(2, .int 0), (0, .ref (A0 + 703)), (1, .int x1)]) hx hb dX12_days_20 rfl hl (by decide) rfl (fun ls hl => ?_)
    obtain ⟨k88, ek88, h⟩ := lt_x h
    have hk88 : ∀ (σ88 : Mm) (H : Heap) (locs : List Loc) (ls : Array Slot), zh D A0 σ88 GF 740 s.heap H locs → lv_has ls 4 [(0, .ref (A0 + 703))] → k88 σ88 = some (r0, σr) → W p l e (zR 399 14918) s m [.ref (A0 + 703), .int x1].toArray below meth c H locs 0 0 (MQ below (zQi D A0 r0 σr GF 740) [.ref (A0 + 703), .int x1].toArray s 0 0 (zA A0)) (F0 m 88 ls []) := by
      intro  σ88 H locs ls Z hl h
      rw [ek88] at h
      try dsimp only at h
      refine lv_aload_n hx hb dX12_days_88 rfl (lv_at hl 0 rfl) ?_
      refine zw_getR F Z zC12 (a := 703) (k := 29) (by decide) zs_703 (by decide) rfl zg_703_29 zq1279 (Or.inl rfl) dX12_days_89 ?_
      refine lv_bipush (v := 54) hx hb dX12_days_92 (by decide) ?_
      refine zw_iald F Z (by decide) zs_714 (by decide) dX12_days_94 ?_
      obtain ⟨hq1, hq2⟩ := zpq h
      exact ze_i F Z hr hlocks hq1 hq2 dX12_days_95
    have hL21 : ∀ (fu21 : Nat) (x2_21 : Int32) (σ21 : Mm) (H : Heap) (locs : List Loc) (ls : Array Slot), zh D A0 σ21 GF 740 s.heap H locs → lv_has ls 4 [(0, .ref (A0 + 703)), (1, .int x1), (2, .int x2_21)] → zfX12_days_L21 x1 k88 fu21 x2_21 σ21 = some (r0, σr) → W p l e (zR 399 14918) s m [.ref (A0 + 703), .int x1].toArray below meth c H locs 0 0 (MQ below (zQi D A0 r0 σr GF 740) [.ref (A0 + 703), .int x1].toArray s 0 0 (zA A0)) (F0 m 21 ls []) := by
      intro fu21
      induction fu21 with
      | zero => intro x2_21 σ21 H locs ls Z hl h; rw [zfX12_days_L21] at h; cases h
      | succ fu21 ih21 =>
        intro x2_21 σ21 H locs ls Z hl h
        rw [zfX12_days_L21] at h
        refine lv_iload_n hx hb dX12_days_21 rfl (lv_at hl 2 rfl) ?_
        refine lv_iload_n hx hb dX12_days_22 rfl (lv_at hl 1 rfl) ?_
        refine zb_icge (tgt := 88) hx hb dX12_days_23 (by decide) h (fun h => ?_) (fun h => ?_)
        · exact hk88 σ21 _ _ _ Z (lv_sub hl [0] rfl) h
        · refine lv_iconst (v := 0) hx hb dX12_days_26 (by decide) ?_
          refine lv_istore_n (lv' := [(3, .int 0), (0, .ref (A0 + 703)), (1, .int x1), (2, .int x2_21)]) hx hb dX12_days_27 rfl hl (by decide) rfl (fun ls hl => ?_)
          refine lv_aload_n hx hb dX12_days_28 rfl (lv_at hl 1 rfl) ?_
          refine zw_getI F Z zC12 (a := 703) (k := 33) (by decide) zs_703 (by decide) rfl zq1283 (Or.inl rfl) dX12_days_29 ?_
          obtain ⟨j77, ej77, h⟩ := lt_x h
          have hj77 : ∀ (x3_77 : Int32) (σ77 : Mm) (H : Heap) (locs : List Loc) (ls : Array Slot), zh D A0 σ77 GF 740 s.heap H locs → lv_has ls 4 [(0, .ref (A0 + 703)), (1, .int x1), (2, .int x2_21), (3, .int x3_77)] → j77 x3_77 σ77 = some (r0, σr) → W p l e (zR 399 14918) s m [.ref (A0 + 703), .int x1].toArray below meth c H locs 0 0 (MQ below (zQi D A0 r0 σr GF 740) [.ref (A0 + 703), .int x1].toArray s 0 0 (zA A0)) (F0 m 77 ls []) := by
            intro x3_77 σ77 H locs ls Z hl h
            rw [ej77] at h
            try dsimp only at h
            refine lv_aload_n hx hb dX12_days_77 rfl (lv_at hl 0 rfl) ?_
            refine lv_iload_n hx hb dX12_days_78 rfl (lv_at hl 3 rfl) ?_
            obtain ⟨σ79, hc79, h⟩ := bd_x h
            refine zc_v Z (zr_V F Z (a := 703) (As := [.int x3_77]) (zcX12_goes l D A0 x3_77 σ77 σ79 hc79) zBX12_goes zq1663 (by decide) zs_703 zC12.1 rfl ⟨⟨rfl, rfl⟩, Nat.le_of_ble_eq_true rfl, Nat.le_of_ble_eq_true rfl⟩ hl.1 rfl (Nat.le_of_ble_eq_true rfl) dX12_days_79 ⟨Nat.le_of_ble_eq_true rfl, Nat.le_of_ble_eq_true rfl⟩) (fun _ _ Z => ?_)
            obtain ⟨x2_82, ex2_82⟩ : ∃ y : Int32, y = x2_21 + 1 := ⟨_, rfl⟩
            replace h := lt_w h ex2_82
            refine lv_iinc (v := x2_82) (lv' := [(2, .int x2_82), (0, .ref (A0 + 703)), (1, .int x1), (3, .int x3_77)]) hx hb dX12_days_82 hl (k := 2) rfl (by rw [ex2_82]; rfl) (by decide) rfl (fun ls hl => ?_)
            refine lv_goto (tgt := 21) hx hb dX12_days_85 (by decide) ?_
            exact ih21 x2_82 σ79 _ _ _ Z (lv_sub hl [1, 2, 0] rfl) h
          refine zb_ifle (tgt := 77) hx hb dX12_days_32 (by decide) h (fun h => ?_) (fun h => ?_)
          · exact hj77 0 σ21 _ _ _ Z (lv_sub hl [1, 2, 3, 0] rfl) h
          · refine lv_aload_n hx hb dX12_days_35 rfl (lv_at hl 1 rfl) ?_
            refine lv_aload_n hx hb dX12_days_36 rfl (lv_at hl 1 rfl) ?_
            refine zw_getJ F Z zC12 (a := 703) (k := 34) (by decide) zs_703 (by decide) rfl zq1284 (Or.inl rfl) dX12_days_37 ?_
            refine lv_ldc2 (v := 6364136223846793005) hx hb hown (hts _ zq1661) dX12_days_40 ?_
            refine lv_lmul hx hb dX12_days_43 ?_
            refine lv_ldc2 (v := 1442695040888963407) hx hb hown (hts _ zq1662) dX12_days_44 ?_
            refine lv_ladd hx hb dX12_days_47 ?_
            refine zw_putJ F Z zC12 (a := 703) (k := 34) (by decide) zs_703 (by decide) rfl (by decide) zq1284 (Or.inl rfl) rfl ⟨rfl, rfl⟩ dX12_days_48 (fun σ48 _ _ eσ48 Z => ?_)
            replace h := lt_w h eσ48
            refine lv_aload_n hx hb dX12_days_51 rfl (lv_at hl 1 rfl) ?_
            refine zw_getJ F Z zC12 (a := 703) (k := 34) (by decide) zs_703 (by decide) rfl zq1284 (Or.inl rfl) dX12_days_52 ?_
            refine lv_bipush (v := 33) hx hb dX12_days_55 (by decide) ?_
            refine lv_lushr hx hb dX12_days_57 rfl ?_
            refine lv_ldc2 (v := 100) hx hb hown (hts _ zq1640) dX12_days_58 ?_
            refine lv_lrem hx hb dX12_days_61 (by decide) ?_
            refine lv_aload_n hx hb dX12_days_62 rfl (lv_at hl 1 rfl) ?_
            refine zw_getI F Z zC12 (a := 703) (k := 33) (by decide) zs_703 (by decide) rfl zq1283 (Or.inl rfl) dX12_days_63 ?_
            refine lv_i2l hx hb dX12_days_66 rfl ?_
            refine W.lcmp hx hb dX12_days_67 ?_
            obtain ⟨j76, ej76, h⟩ := lt_x h
            have hj76 : ∀ (y0_76 : Int32) (σ76 : Mm) (H : Heap) (locs : List Loc) (ls : Array Slot), zh D A0 σ76 GF 740 s.heap H locs → lv_has ls 4 [(0, .ref (A0 + 703)), (1, .int x1), (2, .int x2_21)] → j76 y0_76 σ76 = some (r0, σr) → W p l e (zR 399 14918) s m [.ref (A0 + 703), .int x1].toArray below meth c H locs 0 0 (MQ below (zQi D A0 r0 σr GF 740) [.ref (A0 + 703), .int x1].toArray s 0 0 (zA A0)) (F0 m 76 ls [.int y0_76]) := by
              intro y0_76 σ76 H locs ls Z hl h
              rw [ej76] at h
              try dsimp only at h
              refine lv_istore_n (lv' := [(3, .int y0_76), (0, .ref (A0 + 703)), (1, .int x1), (2, .int x2_21)]) hx hb dX12_days_76 rfl hl (by decide) rfl (fun ls hl => ?_)
              exact hj77 y0_76 σ76 _ _ _ Z (lv_sub hl [1, 2, 3, 0] rfl) h
            refine zb_ifge (tgt := 75) hx hb dX12_days_68 (by decide) h (fun h => ?_) (fun h => ?_)
            · refine lv_iconst (v := 0) hx hb dX12_days_75 (by decide) ?_
              exact hj76 0 σ48 _ _ _ Z (lv_sub hl [1, 2, 3] rfl) h
            · refine lv_iconst (v := 1) hx hb dX12_days_71 (by decide) ?_
              refine lv_goto (tgt := 76) hx hb dX12_days_72 (by decide) ?_
              exact hj76 1 σ48 _ _ _ Z (lv_sub hl [1, 2, 3] rfl) h
    exact hL21 NF 0 σ16 _ _ _ Z (lv_sub hl [1, 2, 0] rfl) h
  · refine lv_iconst (v := (-1)) hx hb dX12_days_13 (by decide) ?_
    obtain ⟨hq1, hq2⟩ := zpq h
    exact ze_i F Z hr hlocks hq1 hq2 dX12_days_14
set_option maxHeartbeats 4000000 in
set_option maxRecDepth 100000 in
theorem zcX12_keep (l : Launch) (D : va_G) (A0 : Nat) (σ : Mm) (σr : Mm) (h : zfX12_keep σ = some σr) : Met l yX12_keep (zws yX12_keep cX12_keep 2 none) (zR 1 21) (zPc D A0 σ GF 740 [.ref (A0 + 703)]) (zQv D A0 σr GF 740) 0 0 (zA A0) := by
  unfold zfX12_keep at h
  refine zmet (own := RX12) (by decide) rfl (Nat.le_of_ble_eq_true rfl) ?_
  intro p e s m below meth c F hr hlocks _ Z ls hl
  have hl : lv_has ls 2 [(0, .ref (A0 + 703))] := hl
  have hx := F.1.1
  have hb := F.1.2.1
  have hown := F.1.2.2.2.1
  have hts := F.1.2.2.2.2
  refine lv_iconst (v := 0) hx hb dX12_keep_0 (by decide) ?_
  refine lv_istore_n (lv' := [(1, .int 0), (0, .ref (A0 + 703))]) hx hb dX12_keep_1 rfl hl (by decide) rfl (fun ls hl => ?_)
  obtain ⟨k26, ek26, h⟩ := lt_x h
  have hk26 : ∀ (σ26 : Mm) (H : Heap) (locs : List Loc) (ls : Array Slot), zh D A0 σ26 GF 740 s.heap H locs → lv_has ls 2 [(0, .ref (A0 + 703))] → k26 σ26 = some σr → W p l e (zR 1 21) s m [.ref (A0 + 703)].toArray below meth c H locs 0 0 (MQ below (zQv D A0 σr GF 740) [.ref (A0 + 703)].toArray s 0 0 (zA A0)) (F0 m 26 ls []) := by
    intro  σ26 H locs ls Z hl h
    rw [ek26] at h
    try dsimp only at h
    refine lv_aload_n hx hb dX12_keep_26 rfl (lv_at hl 0 rfl) ?_
    obtain ⟨σ27, hc27, h⟩ := bd_x h
    refine zc_v Z (zr_V F Z (a := 703) (As := []) (zcX12_plainly l D A0 σ26 σ27 hc27) zBX12_plainly zq1657 (by decide) zs_703 zC12.1 rfl ⟨⟨rfl, rfl⟩, Nat.le_of_ble_eq_true rfl, Nat.le_of_ble_eq_true rfl⟩ hl.1 rfl (Nat.le_of_ble_eq_true rfl) dX12_keep_27 ⟨Nat.le_of_ble_eq_true rfl, Nat.le_of_ble_eq_true rfl⟩) (fun _ _ Z => ?_)
    have hq := Option.some.inj h
    exact ze_v F Z hr hlocks hq dX12_keep_30
  have hL2 : ∀ (fu2 : Nat) (x1_2 : Int32) (σ2 : Mm) (H : Heap) (locs : List Loc) (ls : Array Slot), zh D A0 σ2 GF 740 s.heap H locs → lv_has ls 2 [(0, .ref (A0 + 703)), (1, .int x1_2)] → zfX12_keep_L2 k26 fu2 x1_2 σ2 = some σr → W p l e (zR 1 21) s m [.ref (A0 + 703)].toArray below meth c H locs 0 0 (MQ below (zQv D A0 σr GF 740) [.ref (A0 + 703)].toArray s 0 0 (zA A0)) (F0 m 2 ls []) := by
    intro fu2
    induction fu2 with
    | zero => intro x1_2 σ2 H locs ls Z hl h; rw [zfX12_keep_L2] at h; cases h
    | succ fu2 ih2 =>
      intro x1_2 σ2 H locs ls Z hl h
      rw [zfX12_keep_L2] at h
      refine lv_iload_n hx hb dX12_keep_2 rfl (lv_at hl 1 rfl) ?_
      refine lv_bipush (v := 57) hx hb dX12_keep_3 (by decide) ?_
      refine zb_icge (tgt := 26) hx hb dX12_keep_5 (by decide) h (fun h => ?_) (fun h => ?_)
      · exact hk26 σ2 _ _ _ Z (lv_sub hl [0] rfl) h
      · refine lv_aload_n hx hb dX12_keep_8 rfl (lv_at hl 0 rfl) ?_
        refine zw_getR F Z zC12 (a := 703) (k := 30) (by decide) zs_703 (by decide) rfl zg_703_30 zq1280 (Or.inl rfl) dX12_keep_9 ?_
        refine lv_iload_n hx hb dX12_keep_12 rfl (lv_at hl 1 rfl) ?_
        refine lv_aload_n hx hb dX12_keep_13 rfl (lv_at hl 0 rfl) ?_
        refine zw_getR F Z zC12 (a := 703) (k := 29) (by decide) zs_703 (by decide) rfl zg_703_29 zq1279 (Or.inl rfl) dX12_keep_14 ?_
        refine lv_iload_n hx hb dX12_keep_17 rfl (lv_at hl 1 rfl) ?_
        obtain ⟨hk18, h⟩ := ck_x h
        refine zw_iald F Z (by decide) zs_714 hk18 dX12_keep_18 ?_
        obtain ⟨hk19, h⟩ := ck_x h
        refine zw_iast F Z (by decide) zs_715 hk19 dX12_keep_19 (fun σ19 _ _ eσ19 Z => ?_)
        replace h := lt_w h eσ19
        obtain ⟨x1_20, ex1_20⟩ : ∃ y : Int32, y = x1_2 + 1 := ⟨_, rfl⟩
        replace h := lt_w h ex1_20
        refine lv_iinc (v := x1_20) (lv' := [(1, .int x1_20), (0, .ref (A0 + 703))]) hx hb dX12_keep_20 hl (k := 1) rfl (by rw [ex1_20]; rfl) (by decide) rfl (fun ls hl => ?_)
        refine lv_goto (tgt := 2) hx hb dX12_keep_23 (by decide) ?_
        exact ih2 x1_20 σ19 _ _ _ Z (lv_sub hl [1, 0] rfl) h
  exact hL2 NF 0 σ _ _ _ Z (lv_sub hl [1, 0] rfl) h
set_option maxHeartbeats 4000000 in
set_option maxRecDepth 100000 in
theorem zcX12_putBack (l : Launch) (D : va_G) (A0 : Nat) (σ : Mm) (σr : Mm) (h : zfX12_putBack σ = some σr) : Met l yX12_putBack (zws yX12_putBack cX12_putBack 2 none) (zR 0 0) (zPc D A0 σ GF 740 [.ref (A0 + 703)]) (zQv D A0 σr GF 740) 0 0 (zA A0) := by
  unfold zfX12_putBack at h
  refine zmet (own := RX12) (by decide) rfl (Nat.le_of_ble_eq_true rfl) ?_
  intro p e s m below meth c F hr hlocks _ Z ls hl
  have hl : lv_has ls 2 [(0, .ref (A0 + 703))] := hl
  have hx := F.1.1
  have hb := F.1.2.1
  have hown := F.1.2.2.2.1
  have hts := F.1.2.2.2.2
  refine lv_iconst (v := 0) hx hb dX12_putBack_0 (by decide) ?_
  refine lv_istore_n (lv' := [(1, .int 0), (0, .ref (A0 + 703))]) hx hb dX12_putBack_1 rfl hl (by decide) rfl (fun ls hl => ?_)
  obtain ⟨k26, ek26, h⟩ := lt_x h
  have hk26 : ∀ (σ26 : Mm) (H : Heap) (locs : List Loc) (ls : Array Slot), zh D A0 σ26 GF 740 s.heap H locs → lv_has ls 2 [] → k26 σ26 = some σr → W p l e (zR 0 0) s m [.ref (A0 + 703)].toArray below meth c H locs 0 0 (MQ below (zQv D A0 σr GF 740) [.ref (A0 + 703)].toArray s 0 0 (zA A0)) (F0 m 26 ls []) := by
    intro  σ26 H locs ls Z hl h
    rw [ek26] at h
    try dsimp only at h
    have hq := Option.some.inj h
    exact ze_v F Z hr hlocks hq dX12_putBack_26
  have hL2 : ∀ (fu2 : Nat) (x1_2 : Int32) (σ2 : Mm) (H : Heap) (locs : List Loc) (ls : Array Slot), zh D A0 σ2 GF 740 s.heap H locs → lv_has ls 2 [(0, .ref (A0 + 703)), (1, .int x1_2)] → zfX12_putBack_L2 k26 fu2 x1_2 σ2 = some σr → W p l e (zR 0 0) s m [.ref (A0 + 703)].toArray below meth c H locs 0 0 (MQ below (zQv D A0 σr GF 740) [.ref (A0 + 703)].toArray s 0 0 (zA A0)) (F0 m 2 ls []) := by
    intro fu2
    induction fu2 with
    | zero => intro x1_2 σ2 H locs ls Z hl h; rw [zfX12_putBack_L2] at h; cases h
    | succ fu2 ih2 =>
      intro x1_2 σ2 H locs ls Z hl h
      rw [zfX12_putBack_L2] at h
      refine lv_iload_n hx hb dX12_putBack_2 rfl (lv_at hl 1 rfl) ?_
      refine lv_bipush (v := 57) hx hb dX12_putBack_3 (by decide) ?_
      refine zb_icge (tgt := 26) hx hb dX12_putBack_5 (by decide) h (fun h => ?_) (fun h => ?_)
      · exact hk26 σ2 _ _ _ Z (lv_sub hl [] rfl) h
      · refine lv_aload_n hx hb dX12_putBack_8 rfl (lv_at hl 0 rfl) ?_
        refine zw_getR F Z zC12 (a := 703) (k := 29) (by decide) zs_703 (by decide) rfl zg_703_29 zq1279 (Or.inl rfl) dX12_putBack_9 ?_
        refine lv_iload_n hx hb dX12_putBack_12 rfl (lv_at hl 1 rfl) ?_
        refine lv_aload_n hx hb dX12_putBack_13 rfl (lv_at hl 0 rfl) ?_
        refine zw_getR F Z zC12 (a := 703) (k := 30) (by decide) zs_703 (by decide) rfl zg_703_30 zq1280 (Or.inl rfl) dX12_putBack_14 ?_
        refine lv_iload_n hx hb dX12_putBack_17 rfl (lv_at hl 1 rfl) ?_
        obtain ⟨hk18, h⟩ := ck_x h
        refine zw_iald F Z (by decide) zs_715 hk18 dX12_putBack_18 ?_
        obtain ⟨hk19, h⟩ := ck_x h
        refine zw_iast F Z (by decide) zs_714 hk19 dX12_putBack_19 (fun σ19 _ _ eσ19 Z => ?_)
        replace h := lt_w h eσ19
        obtain ⟨x1_20, ex1_20⟩ : ∃ y : Int32, y = x1_2 + 1 := ⟨_, rfl⟩
        replace h := lt_w h ex1_20
        refine lv_iinc (v := x1_20) (lv' := [(1, .int x1_20), (0, .ref (A0 + 703))]) hx hb dX12_putBack_20 hl (k := 1) rfl (by rw [ex1_20]; rfl) (by decide) rfl (fun ls hl => ?_)
        refine lv_goto (tgt := 2) hx hb dX12_putBack_23 (by decide) ?_
        exact ih2 x1_20 σ19 _ _ _ Z (lv_sub hl [1, 0] rfl) h
  exact hL2 NF 0 σ _ _ _ Z (lv_sub hl [1, 0] rfl) h
set_option maxHeartbeats 4000000 in
set_option maxRecDepth 100000 in
theorem zcX12_tries (l : Launch) (D : va_G) (A0 : Nat) (x1 : Int32) (σ : Mm) (σr : Mm) (h : zfX12_tries x1 σ = some σr) : Met l yX12_tries (zws yX12_tries cX12_tries 3 none) (zR 399 14918) (zPc D A0 σ GF 740 [.ref (A0 + 703), .int x1]) (zQv D A0 σr GF 740) 0 0 (zA A0) := by
  unfold zfX12_tries at h
  refine zmet (own := RX12) (by decide) rfl (Nat.le_of_ble_eq_true rfl) ?_
  intro p e s m below meth c F hr hlocks _ Z ls hl
  have hl : lv_has ls 3 [(0, .ref (A0 + 703)), (1, .int x1)] := hl
  have hx := F.1.1
  have hb := F.1.2.1
  have hown := F.1.2.2.2.1
  have hts := F.1.2.2.2.2
  refine lv_aload_n hx hb dX12_tries_0 rfl (lv_at hl 0 rfl) ?_
  refine zw_getR F Z zC12 (a := 703) (k := 49) (by decide) zs_703 (by decide) rfl zg_703_49 zq1299 (Or.inl rfl) dX12_tries_1 ?_
  refine lv_iconst (v := 0) hx hb dX12_tries_4 (by decide) ?_
  refine lv_aload_n hx hb dX12_tries_5 rfl (lv_at hl 0 rfl) ?_
  refine zw_getR F Z zC12 (a := 703) (k := 29) (by decide) zs_703 (by decide) rfl zg_703_29 zq1279 (Or.inl rfl) dX12_tries_6 ?_
  refine lv_bipush (v := 54) hx hb dX12_tries_9 (by decide) ?_
  refine zw_iald F Z (by decide) zs_714 (by decide) dX12_tries_11 ?_
  refine zw_iast F Z (by decide) zs_725 (by decide) dX12_tries_12 (fun σ12 _ _ eσ12 Z => ?_)
  replace h := lt_w h eσ12
  refine lv_aload_n hx hb dX12_tries_13 rfl (lv_at hl 0 rfl) ?_
  refine zw_getR F Z zC12 (a := 703) (k := 50) (by decide) zs_703 (by decide) rfl zg_703_50 zq1300 (Or.inl rfl) dX12_tries_14 ?_
  refine lv_iconst (v := 0) hx hb dX12_tries_17 (by decide) ?_
  refine lv_iconst (v := 0) hx hb dX12_tries_18 (by decide) ?_
  refine zw_zast F Z (by decide) zs_726 (by decide) dX12_tries_19 (fun σ19 _ _ eσ19 Z => ?_)
  replace h := lt_w h eσ19
  refine lv_iconst (v := 1) hx hb dX12_tries_20 (by decide) ?_
  refine lv_istore_n (lv' := [(2, .int 1), (0, .ref (A0 + 703)), (1, .int x1)]) hx hb dX12_tries_21 rfl hl (by decide) rfl (fun ls hl => ?_)
  obtain ⟨k61, ek61, h⟩ := lt_x h
  have hk61 : ∀ (σ61 : Mm) (H : Heap) (locs : List Loc) (ls : Array Slot), zh D A0 σ61 GF 740 s.heap H locs → lv_has ls 3 [] → k61 σ61 = some σr → W p l e (zR 399 14918) s m [.ref (A0 + 703), .int x1].toArray below meth c H locs 0 0 (MQ below (zQv D A0 σr GF 740) [.ref (A0 + 703), .int x1].toArray s 0 0 (zA A0)) (F0 m 61 ls []) := by
    intro  σ61 H locs ls Z hl h
    rw [ek61] at h
    try dsimp only at h
    have hq := Option.some.inj h
    exact ze_v F Z hr hlocks hq dX12_tries_61
  have hL22 : ∀ (fu22 : Nat) (x2_22 : Int32) (σ22 : Mm) (H : Heap) (locs : List Loc) (ls : Array Slot), zh D A0 σ22 GF 740 s.heap H locs → lv_has ls 3 [(0, .ref (A0 + 703)), (1, .int x1), (2, .int x2_22)] → zfX12_tries_L22 x1 k61 fu22 x2_22 σ22 = some σr → W p l e (zR 399 14918) s m [.ref (A0 + 703), .int x1].toArray below meth c H locs 0 0 (MQ below (zQv D A0 σr GF 740) [.ref (A0 + 703), .int x1].toArray s 0 0 (zA A0)) (F0 m 22 ls []) := by
    intro fu22
    induction fu22 with
    | zero => intro x2_22 σ22 H locs ls Z hl h; rw [zfX12_tries_L22] at h; cases h
    | succ fu22 ih22 =>
      intro x2_22 σ22 H locs ls Z hl h
      rw [zfX12_tries_L22] at h
      refine lv_iload_n hx hb dX12_tries_22 rfl (lv_at hl 2 rfl) ?_
      refine lv_iload_n hx hb dX12_tries_23 rfl (lv_at hl 1 rfl) ?_
      refine zb_icgt (tgt := 61) hx hb dX12_tries_24 (by decide) h (fun h => ?_) (fun h => ?_)
      · exact hk61 σ22 _ _ _ Z (lv_sub hl [] rfl) h
      · refine lv_aload_n hx hb dX12_tries_27 rfl (lv_at hl 0 rfl) ?_
        refine lv_iconst (v := 0) hx hb dX12_tries_28 (by decide) ?_
        obtain ⟨σ29, hc29, h⟩ := bd_x h
        refine zc_v Z (zr_V F Z (a := 703) (As := [.int 0]) (zcX12_goes l D A0 0 σ22 σ29 hc29) zBX12_goes zq1663 (by decide) zs_703 zC12.1 rfl ⟨⟨rfl, rfl⟩, Nat.le_of_ble_eq_true rfl, Nat.le_of_ble_eq_true rfl⟩ hl.1 rfl (Nat.le_of_ble_eq_true rfl) dX12_tries_29 ⟨Nat.le_of_ble_eq_true rfl, Nat.le_of_ble_eq_true rfl⟩) (fun _ _ Z => ?_)
        refine lv_aload_n hx hb dX12_tries_32 rfl (lv_at hl 0 rfl) ?_
        refine zw_getR F Z zC12 (a := 703) (k := 49) (by decide) zs_703 (by decide) rfl zg_703_49 zq1299 (Or.inl rfl) dX12_tries_33 ?_
        refine lv_iload_n hx hb dX12_tries_36 rfl (lv_at hl 2 rfl) ?_
        refine lv_aload_n hx hb dX12_tries_37 rfl (lv_at hl 0 rfl) ?_
        refine zw_getR F Z zC12 (a := 703) (k := 29) (by decide) zs_703 (by decide) rfl zg_703_29 zq1279 (Or.inl rfl) dX12_tries_38 ?_
        refine lv_bipush (v := 54) hx hb dX12_tries_41 (by decide) ?_
        refine zw_iald F Z (by decide) zs_714 (by decide) dX12_tries_43 ?_
        obtain ⟨hk44, h⟩ := ck_x h
        refine zw_iast F Z (by decide) zs_725 hk44 dX12_tries_44 (fun σ44 _ _ eσ44 Z => ?_)
        replace h := lt_w h eσ44
        refine lv_aload_n hx hb dX12_tries_45 rfl (lv_at hl 0 rfl) ?_
        refine zw_getR F Z zC12 (a := 703) (k := 50) (by decide) zs_703 (by decide) rfl zg_703_50 zq1300 (Or.inl rfl) dX12_tries_46 ?_
        refine lv_iload_n hx hb dX12_tries_49 rfl (lv_at hl 2 rfl) ?_
        refine lv_aload_n hx hb dX12_tries_50 rfl (lv_at hl 0 rfl) ?_
        refine zw_getI F Z zC12 (a := 703) (k := 46) (by decide) zs_703 (by decide) rfl zq1296 (Or.inl rfl) dX12_tries_51 ?_
        obtain ⟨hk54, h⟩ := ck_x h
        refine zw_zast F Z (by decide) zs_726 hk54 dX12_tries_54 (fun σ54 _ _ eσ54 Z => ?_)
        replace h := lt_w h eσ54
        obtain ⟨x2_55, ex2_55⟩ : ∃ y : Int32, y = x2_22 + 1 := ⟨_, rfl⟩
        replace h := lt_w h ex2_55
        refine lv_iinc (v := x2_55) (lv' := [(2, .int x2_55), (0, .ref (A0 + 703)), (1, .int x1)]) hx hb dX12_tries_55 hl (k := 2) rfl (by rw [ex2_55]; rfl) (by decide) rfl (fun ls hl => ?_)
        refine lv_goto (tgt := 22) hx hb dX12_tries_58 (by decide) ?_
        exact ih22 x2_55 σ54 _ _ _ Z (lv_sub hl [1, 2, 0] rfl) h
  exact hL22 NF 1 σ19 _ _ _ Z (lv_sub hl [1, 2, 0] rfl) h
set_option maxHeartbeats 4000000 in
set_option maxRecDepth 100000 in
theorem zcX12_jumpMany (l : Launch) (D : va_G) (A0 : Nat) (x1 : Int32) (σ : Mm) (r0 : Int32) (h : zfX12_jumpMany x1 σ = some r0) : Met l yX12_jumpMany (zws yX12_jumpMany cX12_jumpMany 4 (some .int)) (zR 0 0) (zPc D A0 σ GF 740 [.ref (A0 + 703), .int x1]) (zQi D A0 r0 σ GF 740) 0 0 (zA A0) := by
  unfold zfX12_jumpMany at h
  refine zmet (own := RX12) (by decide) rfl (Nat.le_of_ble_eq_true rfl) ?_
  intro p e s m below meth c F hr hlocks _ Z ls hl
  have hl : lv_has ls 4 [(0, .ref (A0 + 703)), (1, .int x1)] := hl
  have hx := F.1.1
  have hb := F.1.2.1
  have hown := F.1.2.2.2.1
  have hts := F.1.2.2.2.2
  refine lv_iconst (v := 0) hx hb dX12_jumpMany_0 (by decide) ?_
  refine lv_istore_n (lv' := [(2, .int 0), (0, .ref (A0 + 703)), (1, .int x1)]) hx hb dX12_jumpMany_1 rfl hl (by decide) rfl (fun ls hl => ?_)
  refine lv_iconst (v := 1) hx hb dX12_jumpMany_2 (by decide) ?_
  refine lv_istore_n (lv' := [(3, .int 1), (2, .int 0), (0, .ref (A0 + 703)), (1, .int x1)]) hx hb dX12_jumpMany_3 rfl hl (by decide) rfl (fun ls hl => ?_)
  obtain ⟨k32, ek32, h⟩ := lt_x h
  have hk32 : ∀ (x2_32 : Int32) (H : Heap) (locs : List Loc) (ls : Array Slot), zh D A0 σ GF 740 s.heap H locs → lv_has ls 4 [(2, .int x2_32)] → k32 x2_32 = some r0 → W p l e (zR 0 0) s m [.ref (A0 + 703), .int x1].toArray below meth c H locs 0 0 (MQ below (zQi D A0 r0 σ GF 740) [.ref (A0 + 703), .int x1].toArray s 0 0 (zA A0)) (F0 m 32 ls []) := by
    intro x2_32 H locs ls Z hl h
    rw [ek32] at h
    try dsimp only at h
    refine lv_iload_n hx hb dX12_jumpMany_32 rfl (lv_at hl 0 rfl) ?_
    have hq := Option.some.inj h
    exact ze_i F Z hr hlocks hq rfl dX12_jumpMany_33
  have hL4 : ∀ (fu4 : Nat) (x2_4 : Int32) (x3_4 : Int32) (H : Heap) (locs : List Loc) (ls : Array Slot), zh D A0 σ GF 740 s.heap H locs → lv_has ls 4 [(0, .ref (A0 + 703)), (1, .int x1), (2, .int x2_4), (3, .int x3_4)] → zfX12_jumpMany_L4 x1 k32 σ fu4 x2_4 x3_4 = some r0 → W p l e (zR 0 0) s m [.ref (A0 + 703), .int x1].toArray below meth c H locs 0 0 (MQ below (zQi D A0 r0 σ GF 740) [.ref (A0 + 703), .int x1].toArray s 0 0 (zA A0)) (F0 m 4 ls []) := by
    intro fu4
    induction fu4 with
    | zero => intro x2_4 x3_4 H locs ls Z hl h; rw [zfX12_jumpMany_L4] at h; cases h
    | succ fu4 ih4 =>
      intro x2_4 x3_4 H locs ls Z hl h
      rw [zfX12_jumpMany_L4] at h
      refine lv_iload_n hx hb dX12_jumpMany_4 rfl (lv_at hl 3 rfl) ?_
      refine lv_iload_n hx hb dX12_jumpMany_5 rfl (lv_at hl 1 rfl) ?_
      refine zb_icgt (tgt := 32) hx hb dX12_jumpMany_6 (by decide) h (fun h => ?_) (fun h => ?_)
      · exact hk32 x2_4 _ _ _ Z (lv_sub hl [2] rfl) h
      · refine lv_iload_n hx hb dX12_jumpMany_9 rfl (lv_at hl 2 rfl) ?_
        refine lv_aload_n hx hb dX12_jumpMany_10 rfl (lv_at hl 0 rfl) ?_
        refine zw_getR F Z zC12 (a := 703) (k := 50) (by decide) zs_703 (by decide) rfl zg_703_50 zq1300 (Or.inl rfl) dX12_jumpMany_11 ?_
        refine lv_iload_n hx hb dX12_jumpMany_14 rfl (lv_at hl 3 rfl) ?_
        obtain ⟨hk15, h⟩ := ck_x h
        refine zw_zald F Z (by decide) zs_726 hk15 dX12_jumpMany_15 ?_
        obtain ⟨j24, ej24, h⟩ := lt_x h
        have hj24 : ∀ (y0_24 : Int32) (H : Heap) (locs : List Loc) (ls : Array Slot), zh D A0 σ GF 740 s.heap H locs → lv_has ls 4 [(0, .ref (A0 + 703)), (1, .int x1), (3, .int x3_4)] → j24 y0_24 = some r0 → W p l e (zR 0 0) s m [.ref (A0 + 703), .int x1].toArray below meth c H locs 0 0 (MQ below (zQi D A0 r0 σ GF 740) [.ref (A0 + 703), .int x1].toArray s 0 0 (zA A0)) (F0 m 24 ls [.int y0_24, .int x2_4]) := by
          intro y0_24 H locs ls Z hl h
          rw [ej24] at h
          try dsimp only at h
          refine lv_iadd hx hb dX12_jumpMany_24 ?_
          refine lv_topi (fun x2_25 ex2_25 => ?_)
          replace h := lt_w h ex2_25
          refine lv_istore_n (lv' := [(2, .int x2_25), (0, .ref (A0 + 703)), (1, .int x1), (3, .int x3_4)]) hx hb dX12_jumpMany_25 rfl hl (by decide) rfl (fun ls hl => ?_)
          obtain ⟨x3_26, ex3_26⟩ : ∃ y : Int32, y = x3_4 + 1 := ⟨_, rfl⟩
          replace h := lt_w h ex3_26
          refine lv_iinc (v := x3_26) (lv' := [(3, .int x3_26), (2, .int x2_25), (0, .ref (A0 + 703)), (1, .int x1)]) hx hb dX12_jumpMany_26 hl (k := 3) rfl (by rw [ex3_26]; rfl) (by decide) rfl (fun ls hl => ?_)
          refine lv_goto (tgt := 4) hx hb dX12_jumpMany_29 (by decide) ?_
          exact ih4 x2_25 x3_26 _ _ _ Z (lv_sub hl [2, 3, 1, 0] rfl) h
        refine zb_ifeq (tgt := 23) hx hb dX12_jumpMany_16 (by decide) h (fun h => ?_) (fun h => ?_)
        · refine lv_iconst (v := 0) hx hb dX12_jumpMany_23 (by decide) ?_
          exact hj24 0 _ _ _ Z (lv_sub hl [0, 1, 3] rfl) h
        · refine lv_iconst (v := 1) hx hb dX12_jumpMany_19 (by decide) ?_
          refine lv_goto (tgt := 24) hx hb dX12_jumpMany_20 (by decide) ?_
          exact hj24 1 _ _ _ Z (lv_sub hl [0, 1, 3] rfl) h
  exact hL4 NF 0 1 _ _ _ Z (lv_sub hl [2, 3, 1, 0] rfl) h
set_option maxHeartbeats 4000000 in
set_option maxRecDepth 100000 in
theorem zcX12_ahead (l : Launch) (D : va_G) (A0 : Nat) (x1 : Int32) (σ : Mm) (r0 : Int32) (σr : Mm) (h : zfX12_ahead x1 σ = some (r0, σr)) : Met l yX12_ahead (zws yX12_ahead cX12_ahead 2 (some .int)) (zR 400 14940) (zPc D A0 σ GF 740 [.ref (A0 + 703), .int x1]) (zQi D A0 r0 σr GF 740) 0 0 (zA A0) := by
  unfold zfX12_ahead at h
  refine zmet (own := RX12) (by decide) rfl (Nat.le_of_ble_eq_true rfl) ?_
  intro p e s m below meth c F hr hlocks _ Z ls hl
  have hl : lv_has ls 2 [(0, .ref (A0 + 703)), (1, .int x1)] := hl
  have hx := F.1.1
  have hb := F.1.2.1
  have hown := F.1.2.2.2.1
  have hts := F.1.2.2.2.2
  refine lv_aload_n hx hb dX12_ahead_0 rfl (lv_at hl 0 rfl) ?_
  refine lv_iconst (v := 0) hx hb dX12_ahead_1 (by decide) ?_
  refine zw_putI F Z zC12 (a := 703) (k := 0) (by decide) zs_703 (by decide) rfl (by decide) zq1250 (Or.inl rfl) rfl ⟨rfl, rfl⟩ dX12_ahead_2 (fun σ2 _ _ eσ2 Z => ?_)
  replace h := lt_w h eσ2
  refine lv_aload_n hx hb dX12_ahead_5 rfl (lv_at hl 0 rfl) ?_
  refine lv_iload_n hx hb dX12_ahead_6 rfl (lv_at hl 1 rfl) ?_
  refine zc_i Z (zr_V F Z (a := 703) (As := [.int x1]) (zcX12_isReady l D A0 x1 σ2 (zfX12_isReady x1 σ2) rfl) zBX12_isReady zq1649 (by decide) zs_703 zC12.1 rfl ⟨⟨rfl, rfl⟩, Nat.le_of_ble_eq_true rfl, Nat.le_of_ble_eq_true rfl⟩ hl.1 rfl (Nat.le_of_ble_eq_true rfl) dX12_ahead_7 ⟨Nat.le_of_ble_eq_true rfl, Nat.le_of_ble_eq_true rfl⟩) (fun _ _ Z => ?_)
  refine zb_ifne (tgt := 15) hx hb dX12_ahead_10 (by decide) h (fun h => ?_) (fun h => ?_)
  · refine lv_aload_n hx hb dX12_ahead_15 rfl (lv_at hl 0 rfl) ?_
    obtain ⟨σ16, hc16, h⟩ := bd_x h
    refine zc_v Z (zr_V F Z (a := 703) (As := []) (zcX12_keep l D A0 σ2 σ16 hc16) zBX12_keep zq1701 (by decide) zs_703 zC12.1 rfl ⟨⟨rfl, rfl⟩, Nat.le_of_ble_eq_true rfl, Nat.le_of_ble_eq_true rfl⟩ hl.1 rfl (Nat.le_of_ble_eq_true rfl) dX12_ahead_16 ⟨Nat.le_of_ble_eq_true rfl, Nat.le_of_ble_eq_true rfl⟩) (fun _ _ Z => ?_)
    refine lv_aload_n hx hb dX12_ahead_19 rfl (lv_at hl 0 rfl) ?_
    refine lv_iload_n hx hb dX12_ahead_20 rfl (lv_at hl 1 rfl) ?_
    obtain ⟨σ21, hc21, h⟩ := bd_x h
    refine zc_v Z (zr_V F Z (a := 703) (As := [.int x1]) (zcX12_tries l D A0 x1 σ16 σ21 hc21) zBX12_tries zq1705 (by decide) zs_703 zC12.1 rfl ⟨⟨rfl, rfl⟩, Nat.le_of_ble_eq_true rfl, Nat.le_of_ble_eq_true rfl⟩ hl.1 rfl (Nat.le_of_ble_eq_true rfl) dX12_ahead_21 ⟨Nat.le_of_ble_eq_true rfl, Nat.le_of_ble_eq_true rfl⟩) (fun _ _ Z => ?_)
    refine lv_aload_n hx hb dX12_ahead_24 rfl (lv_at hl 0 rfl) ?_
    obtain ⟨σ25, hc25, h⟩ := bd_x h
    refine zc_v Z (zr_V F Z (a := 703) (As := []) (zcX12_putBack l D A0 σ21 σ25 hc25) zBX12_putBack zq1709 (by decide) zs_703 zC12.1 rfl ⟨⟨rfl, rfl⟩, Nat.le_of_ble_eq_true rfl, Nat.le_of_ble_eq_true rfl⟩ hl.1 rfl (Nat.le_of_ble_eq_true rfl) dX12_ahead_25 ⟨Nat.le_of_ble_eq_true rfl, Nat.le_of_ble_eq_true rfl⟩) (fun _ _ Z => ?_)
    refine lv_aload_n hx hb dX12_ahead_28 rfl (lv_at hl 0 rfl) ?_
    refine zw_getR F Z zC12 (a := 703) (k := 49) (by decide) zs_703 (by decide) rfl zg_703_49 zq1299 (Or.inl rfl) dX12_ahead_29 ?_
    refine lv_iload_n hx hb dX12_ahead_32 rfl (lv_at hl 1 rfl) ?_
    obtain ⟨hk33, h⟩ := ck_x h
    refine zw_iald F Z (by decide) zs_725 hk33 dX12_ahead_33 ?_
    obtain ⟨hq1, hq2⟩ := zpq h
    exact ze_i F Z hr hlocks hq1 hq2 dX12_ahead_34
  · refine lv_iconst (v := (-1)) hx hb dX12_ahead_13 (by decide) ?_
    obtain ⟨hq1, hq2⟩ := zpq h
    exact ze_i F Z hr hlocks hq1 hq2 dX12_ahead_14
set_option maxHeartbeats 4000000 in
set_option maxRecDepth 100000 in
theorem zcX12_falls (l : Launch) (D : va_G) (A0 : Nat) (x1 : Int32) (x2 : Int32) (σ : Mm) (r0 : Int32) (σr : Mm) (h : zfX12_falls x1 x2 σ = some (r0, σr)) : Met l yX12_falls (zws yX12_falls cX12_falls 6 (some .int)) (zR 400 14940) (zPc D A0 σ GF 740 [.ref (A0 + 703), .int x1, .int x2]) (zQi D A0 r0 σr GF 740) 0 0 (zA A0) := by
  unfold zfX12_falls at h
  refine zmet (own := RX12) (by decide) rfl (Nat.le_of_ble_eq_true rfl) ?_
  intro p e s m below meth c F hr hlocks _ Z ls hl
  have hl : lv_has ls 6 [(0, .ref (A0 + 703)), (1, .int x1), (2, .int x2)] := hl
  have hx := F.1.1
  have hb := F.1.2.1
  have hown := F.1.2.2.2.1
  have hts := F.1.2.2.2.2
  refine lv_aload_n hx hb dX12_falls_0 rfl (lv_at hl 0 rfl) ?_
  refine lv_iconst (v := 0) hx hb dX12_falls_1 (by decide) ?_
  refine zw_putI F Z zC12 (a := 703) (k := 0) (by decide) zs_703 (by decide) rfl (by decide) zq1250 (Or.inl rfl) rfl ⟨rfl, rfl⟩ dX12_falls_2 (fun σ2 _ _ eσ2 Z => ?_)
  replace h := lt_w h eσ2
  refine lv_aload_n hx hb dX12_falls_5 rfl (lv_at hl 0 rfl) ?_
  refine lv_iload_n hx hb dX12_falls_6 rfl (lv_at hl 1 rfl) ?_
  refine zc_i Z (zr_V F Z (a := 703) (As := [.int x1]) (zcX12_isReady l D A0 x1 σ2 (zfX12_isReady x1 σ2) rfl) zBX12_isReady zq1649 (by decide) zs_703 zC12.1 rfl ⟨⟨rfl, rfl⟩, Nat.le_of_ble_eq_true rfl, Nat.le_of_ble_eq_true rfl⟩ hl.1 rfl (Nat.le_of_ble_eq_true rfl) dX12_falls_7 ⟨Nat.le_of_ble_eq_true rfl, Nat.le_of_ble_eq_true rfl⟩) (fun _ _ Z => ?_)
  obtain ⟨j23, ej23, h⟩ := lt_x h
  have hj23 : ∀ (σ23 : Mm) (H : Heap) (locs : List Loc) (ls : Array Slot), zh D A0 σ23 GF 740 s.heap H locs → lv_has ls 6 [] → j23 σ23 = some (r0, σr) → W p l e (zR 400 14940) s m [.ref (A0 + 703), .int x1, .int x2].toArray below meth c H locs 0 0 (MQ below (zQi D A0 r0 σr GF 740) [.ref (A0 + 703), .int x1, .int x2].toArray s 0 0 (zA A0)) (F0 m 23 ls []) := by
    intro  σ23 H locs ls Z hl h
    rw [ej23] at h
    try dsimp only at h
    refine lv_iconst (v := (-1)) hx hb dX12_falls_23 (by decide) ?_
    obtain ⟨hq1, hq2⟩ := zpq h
    exact ze_i F Z hr hlocks hq1 hq2 dX12_falls_24
  refine zb_ifeq (tgt := 23) hx hb dX12_falls_10 (by decide) h (fun h => ?_) (fun h => ?_)
  · exact hj23 σ2 _ _ _ Z (lv_sub hl [] rfl) h
  · refine lv_iload_n hx hb dX12_falls_13 rfl (lv_at hl 2 rfl) ?_
    refine lv_i2l hx hb dX12_falls_14 rfl ?_
    refine lv_lconst (v := 0) hx hb dX12_falls_15 (by decide) ?_
    refine lv_lconst (v := 1) hx hb dX12_falls_16 (by decide) ?_
    refine zc_i Z (zr_S F Z (As := [.long (Int32.toInt64 x2), .long 0, .long 1]) (zcX12_isIn l D A0 (Int32.toInt64 x2) 0 1 σ2 (zfX12_isIn (Int32.toInt64 x2) 0 1) rfl) zBX12_isIn zq1496 rfl ⟨⟨rfl, rfl⟩, Nat.le_of_ble_eq_true rfl, Nat.le_of_ble_eq_true rfl⟩ hl.1 rfl (Nat.le_of_ble_eq_true rfl) dX12_falls_17 ⟨Nat.le_of_ble_eq_true rfl, Nat.le_of_ble_eq_true rfl⟩) (fun _ _ Z => ?_)
    refine zb_ifne (tgt := 25) hx hb dX12_falls_20 (by decide) h (fun h => ?_) (fun h => ?_)
    · refine lv_aload_n hx hb dX12_falls_25 rfl (lv_at hl 0 rfl) ?_
      obtain ⟨σ26, hc26, h⟩ := bd_x h
      refine zc_v Z (zr_V F Z (a := 703) (As := []) (zcX12_keep l D A0 σ2 σ26 hc26) zBX12_keep zq1701 (by decide) zs_703 zC12.1 rfl ⟨⟨rfl, rfl⟩, Nat.le_of_ble_eq_true rfl, Nat.le_of_ble_eq_true rfl⟩ hl.1 rfl (Nat.le_of_ble_eq_true rfl) dX12_falls_26 ⟨Nat.le_of_ble_eq_true rfl, Nat.le_of_ble_eq_true rfl⟩) (fun _ _ Z => ?_)
      refine lv_aload_n hx hb dX12_falls_29 rfl (lv_at hl 0 rfl) ?_
      refine lv_iload_n hx hb dX12_falls_30 rfl (lv_at hl 1 rfl) ?_
      obtain ⟨σ31, hc31, h⟩ := bd_x h
      refine zc_v Z (zr_V F Z (a := 703) (As := [.int x1]) (zcX12_tries l D A0 x1 σ26 σ31 hc31) zBX12_tries zq1705 (by decide) zs_703 zC12.1 rfl ⟨⟨rfl, rfl⟩, Nat.le_of_ble_eq_true rfl, Nat.le_of_ble_eq_true rfl⟩ hl.1 rfl (Nat.le_of_ble_eq_true rfl) dX12_falls_31 ⟨Nat.le_of_ble_eq_true rfl, Nat.le_of_ble_eq_true rfl⟩) (fun _ _ Z => ?_)
      refine lv_aload_n hx hb dX12_falls_34 rfl (lv_at hl 0 rfl) ?_
      obtain ⟨σ35, hc35, h⟩ := bd_x h
      refine zc_v Z (zr_V F Z (a := 703) (As := []) (zcX12_putBack l D A0 σ31 σ35 hc35) zBX12_putBack zq1709 (by decide) zs_703 zC12.1 rfl ⟨⟨rfl, rfl⟩, Nat.le_of_ble_eq_true rfl, Nat.le_of_ble_eq_true rfl⟩ hl.1 rfl (Nat.le_of_ble_eq_true rfl) dX12_falls_35 ⟨Nat.le_of_ble_eq_true rfl, Nat.le_of_ble_eq_true rfl⟩) (fun _ _ Z => ?_)
      refine lv_iload_n hx hb dX12_falls_38 rfl (lv_at hl 2 rfl) ?_
      refine zb_ifne (tgt := 48) hx hb dX12_falls_39 (by decide) h (fun h => ?_) (fun h => ?_)
      · refine lv_iconst (v := 0) hx hb dX12_falls_48 (by decide) ?_
        refine lv_istore_n (lv' := [(3, .int 0), (0, .ref (A0 + 703)), (1, .int x1), (2, .int x2)]) hx hb dX12_falls_49 rfl hl (by decide) rfl (fun ls hl => ?_)
        refine lv_iconst (v := 0) hx hb dX12_falls_50 (by decide) ?_
        refine lv_istore (lv' := [(4, .int 0), (3, .int 0), (0, .ref (A0 + 703)), (1, .int x1), (2, .int x2)]) hx hb dX12_falls_51 hl (by decide) rfl (fun ls hl => ?_)
        obtain ⟨k113, ek113, h⟩ := lt_x h
        have hk113 : ∀ (x3_113 : Int32) (σ113 : Mm) (H : Heap) (locs : List Loc) (ls : Array Slot), zh D A0 σ113 GF 740 s.heap H locs → lv_has ls 6 [(3, .int x3_113)] → k113 x3_113 σ113 = some (r0, σr) → W p l e (zR 400 14940) s m [.ref (A0 + 703), .int x1, .int x2].toArray below meth c H locs 0 0 (MQ below (zQi D A0 r0 σr GF 740) [.ref (A0 + 703), .int x1, .int x2].toArray s 0 0 (zA A0)) (F0 m 113 ls []) := by
          intro x3_113 σ113 H locs ls Z hl h
          rw [ek113] at h
          try dsimp only at h
          refine lv_iload_n hx hb dX12_falls_113 rfl (lv_at hl 0 rfl) ?_
          obtain ⟨hq1, hq2⟩ := zpq h
          exact ze_i F Z hr hlocks hq1 hq2 dX12_falls_114
        have hL53 : ∀ (fu53 : Nat) (x3_53 : Int32) (x4_53 : Int32) (σ53 : Mm) (H : Heap) (locs : List Loc) (ls : Array Slot), zh D A0 σ53 GF 740 s.heap H locs → lv_has ls 6 [(0, .ref (A0 + 703)), (1, .int x1), (3, .int x3_53), (4, .int x4_53)] → zfX12_falls_L53 x1 k113 fu53 x3_53 x4_53 σ53 = some (r0, σr) → W p l e (zR 400 14940) s m [.ref (A0 + 703), .int x1, .int x2].toArray below meth c H locs 0 0 (MQ below (zQi D A0 r0 σr GF 740) [.ref (A0 + 703), .int x1, .int x2].toArray s 0 0 (zA A0)) (F0 m 53 ls []) := by
          intro fu53
          induction fu53 with
          | zero => intro x3_53 x4_53 σ53 H locs ls Z hl h; rw [zfX12_falls_L53] at h; cases h
          | succ fu53 ih53 =>
            intro x3_53 x4_53 σ53 H locs ls Z hl h
            rw [zfX12_falls_L53] at h
            refine lv_iload hx hb dX12_falls_53 (lv_at hl 3 rfl) ?_
            refine lv_iload_n hx hb dX12_falls_55 rfl (lv_at hl 1 rfl) ?_
            refine zb_icge (tgt := 113) hx hb dX12_falls_56 (by decide) h (fun h => ?_) (fun h => ?_)
            · exact hk113 x3_53 σ53 _ _ _ Z (lv_sub hl [2] rfl) h
            · refine lv_iload hx hb dX12_falls_59 (lv_at hl 3 rfl) ?_
              refine lv_iconst (v := 1) hx hb dX12_falls_61 (by decide) ?_
              refine lv_iadd hx hb dX12_falls_62 ?_
              refine lv_topi (fun x5_63 ex5_63 => ?_)
              replace h := lt_w h ex5_63
              refine lv_istore (lv' := [(5, .int x5_63), (0, .ref (A0 + 703)), (1, .int x1), (3, .int x3_53), (4, .int x4_53)]) hx hb dX12_falls_63 hl (by decide) rfl (fun ls hl => ?_)
              obtain ⟨k107, ek107, h⟩ := lt_x h
              have hk107 : ∀ (x3_107 : Int32) (σ107 : Mm) (H : Heap) (locs : List Loc) (ls : Array Slot), zh D A0 σ107 GF 740 s.heap H locs → lv_has ls 6 [(0, .ref (A0 + 703)), (1, .int x1), (3, .int x3_107), (4, .int x4_53)] → k107 x3_107 σ107 = some (r0, σr) → W p l e (zR 400 14940) s m [.ref (A0 + 703), .int x1, .int x2].toArray below meth c H locs 0 0 (MQ below (zQi D A0 r0 σr GF 740) [.ref (A0 + 703), .int x1, .int x2].toArray s 0 0 (zA A0)) (F0 m 107 ls []) := by
                intro x3_107 σ107 H locs ls Z hl h
                rw [ek107] at h
                try dsimp only at h
                obtain ⟨x4_107, ex4_107⟩ : ∃ y : Int32, y = x4_53 + 1 := ⟨_, rfl⟩
                replace h := lt_w h ex4_107
                refine lv_iinc (v := x4_107) (lv' := [(4, .int x4_107), (0, .ref (A0 + 703)), (1, .int x1), (3, .int x3_107)]) hx hb dX12_falls_107 hl (k := 3) rfl (by rw [ex4_107]; rfl) (by decide) rfl (fun ls hl => ?_)
                refine lv_goto (tgt := 53) hx hb dX12_falls_110 (by decide) ?_
                exact ih53 x3_107 x4_107 σ107 _ _ _ Z (lv_sub hl [1, 2, 3, 0] rfl) h
              have hL65 : ∀ (fu65 : Nat) (x3_65 : Int32) (x5_65 : Int32) (σ65 : Mm) (H : Heap) (locs : List Loc) (ls : Array Slot), zh D A0 σ65 GF 740 s.heap H locs → lv_has ls 6 [(0, .ref (A0 + 703)), (1, .int x1), (3, .int x3_65), (4, .int x4_53), (5, .int x5_65)] → zfX12_falls_L65 x1 k107 x4_53 fu65 x3_65 x5_65 σ65 = some (r0, σr) → W p l e (zR 400 14940) s m [.ref (A0 + 703), .int x1, .int x2].toArray below meth c H locs 0 0 (MQ below (zQi D A0 r0 σr GF 740) [.ref (A0 + 703), .int x1, .int x2].toArray s 0 0 (zA A0)) (F0 m 65 ls []) := by
                intro fu65
                induction fu65 with
                | zero => intro x3_65 x5_65 σ65 H locs ls Z hl h; rw [zfX12_falls_L65] at h; cases h
                | succ fu65 ih65 =>
                  intro x3_65 x5_65 σ65 H locs ls Z hl h
                  rw [zfX12_falls_L65] at h
                  refine lv_iload hx hb dX12_falls_65 (lv_at hl 4 rfl) ?_
                  refine lv_iload_n hx hb dX12_falls_67 rfl (lv_at hl 1 rfl) ?_
                  refine zb_icgt (tgt := 107) hx hb dX12_falls_68 (by decide) h (fun h => ?_) (fun h => ?_)
                  · exact hk107 x3_65 σ65 _ _ _ Z (lv_sub hl [0, 1, 2, 3] rfl) h
                  · refine lv_aload_n hx hb dX12_falls_71 rfl (lv_at hl 0 rfl) ?_
                    refine zw_getR F Z zC12 (a := 703) (k := 50) (by decide) zs_703 (by decide) rfl zg_703_50 zq1300 (Or.inl rfl) dX12_falls_72 ?_
                    refine lv_iload hx hb dX12_falls_75 (lv_at hl 4 rfl) ?_
                    obtain ⟨hk77, h⟩ := ck_x h
                    refine zw_zald F Z (by decide) zs_726 hk77 dX12_falls_77 ?_
                    refine zb_ifne (tgt := 107) hx hb dX12_falls_78 (by decide) h (fun h => ?_) (fun h => ?_)
                    · exact hk107 x3_65 σ65 _ _ _ Z (lv_sub hl [0, 1, 2, 3] rfl) h
                    · refine lv_iload_n hx hb dX12_falls_81 rfl (lv_at hl 2 rfl) ?_
                      refine lv_aload_n hx hb dX12_falls_82 rfl (lv_at hl 0 rfl) ?_
                      refine zw_getR F Z zC12 (a := 703) (k := 49) (by decide) zs_703 (by decide) rfl zg_703_49 zq1299 (Or.inl rfl) dX12_falls_83 ?_
                      refine lv_iload hx hb dX12_falls_86 (lv_at hl 3 rfl) ?_
                      obtain ⟨hk88, h⟩ := ck_x h
                      refine zw_iald F Z (by decide) zs_725 hk88 dX12_falls_88 ?_
                      refine lv_aload_n hx hb dX12_falls_89 rfl (lv_at hl 0 rfl) ?_
                      refine zw_getR F Z zC12 (a := 703) (k := 49) (by decide) zs_703 (by decide) rfl zg_703_49 zq1299 (Or.inl rfl) dX12_falls_90 ?_
                      refine lv_iload hx hb dX12_falls_93 (lv_at hl 4 rfl) ?_
                      obtain ⟨hk95, h⟩ := ck_x h
                      refine zw_iald F Z (by decide) zs_725 hk95 dX12_falls_95 ?_
                      refine lv_isub hx hb dX12_falls_96 ?_
                      refine zw_zmax F hl.1 zq1672 (Nat.le_of_ble_eq_true rfl) (Nat.le_of_ble_eq_true rfl) (Nat.le_of_ble_eq_true rfl) (Nat.le_of_ble_eq_true rfl) dX12_falls_97 ?_
                      refine lv_topi (fun x3_100 ex3_100 => ?_)
                      replace h := lt_w h ex3_100
                      refine lv_istore_n (lv' := [(3, .int x3_100), (0, .ref (A0 + 703)), (1, .int x1), (4, .int x4_53), (5, .int x5_65)]) hx hb dX12_falls_100 rfl hl (by decide) rfl (fun ls hl => ?_)
                      obtain ⟨x5_101, ex5_101⟩ : ∃ y : Int32, y = x5_65 + 1 := ⟨_, rfl⟩
                      replace h := lt_w h ex5_101
                      refine lv_iinc (v := x5_101) (lv' := [(5, .int x5_101), (3, .int x3_100), (0, .ref (A0 + 703)), (1, .int x1), (4, .int x4_53)]) hx hb dX12_falls_101 hl (k := 4) rfl (by rw [ex5_101]; rfl) (by decide) rfl (fun ls hl => ?_)
                      refine lv_goto (tgt := 65) hx hb dX12_falls_104 (by decide) ?_
                      exact ih65 x3_100 x5_101 σ65 _ _ _ Z (lv_sub hl [2, 3, 1, 4, 0] rfl) h
              exact hL65 NF x3_53 x5_63 σ53 _ _ _ Z (lv_sub hl [1, 2, 3, 4, 0] rfl) h
        exact hL53 NF 0 0 σ35 _ _ _ Z (lv_sub hl [2, 3, 1, 0] rfl) h
      · refine lv_aload_n hx hb dX12_falls_42 rfl (lv_at hl 0 rfl) ?_
        refine lv_iload_n hx hb dX12_falls_43 rfl (lv_at hl 1 rfl) ?_
        obtain ⟨r44, hc44, h⟩ := bd_x h
        refine zc_i Z (zr_V F Z (a := 703) (As := [.int x1]) (zcX12_jumpMany l D A0 x1 σ35 r44 hc44) zBX12_jumpMany zq1717 (by decide) zs_703 zC12.1 rfl ⟨⟨rfl, rfl⟩, Nat.le_of_ble_eq_true rfl, Nat.le_of_ble_eq_true rfl⟩ hl.1 rfl (Nat.le_of_ble_eq_true rfl) dX12_falls_44 ⟨Nat.le_of_ble_eq_true rfl, Nat.le_of_ble_eq_true rfl⟩) (fun _ _ Z => ?_)
        obtain ⟨hq1, hq2⟩ := zpq h
        exact ze_i F Z hr hlocks hq1 hq2 dX12_falls_47
    · exact hj23 σ2 _ _ _ Z (lv_sub hl [] rfl) h
set_option maxHeartbeats 4000000 in
set_option maxRecDepth 100000 in
theorem zcX12_keepState (l : Launch) (D : va_G) (A0 : Nat) (x1 : Int32) (σ : Mm) (σr : Mm) (h : zfX12_keepState x1 σ = some σr) : Met l yX12_keepState (zws yX12_keepState cX12_keepState 4 none) (zR 0 0) (zPc D A0 σ GF 740 [.ref (A0 + 703), .int x1]) (zQv D A0 σr GF 740) 0 0 (zA A0) := by
  unfold zfX12_keepState at h
  refine zmet (own := RX12) (by decide) rfl (Nat.le_of_ble_eq_true rfl) ?_
  intro p e s m below meth c F hr hlocks _ Z ls hl
  have hl : lv_has ls 4 [(0, .ref (A0 + 703)), (1, .int x1)] := hl
  have hx := F.1.1
  have hb := F.1.2.1
  have hown := F.1.2.2.2.1
  have hts := F.1.2.2.2.2
  refine lv_bipush (v := 35) hx hb dX12_keepState_0 (by decide) ?_
  refine lv_iload_n hx hb dX12_keepState_2 rfl (lv_at hl 1 rfl) ?_
  refine lv_imul hx hb dX12_keepState_3 ?_
  refine lv_topi (fun x2_4 ex2_4 => ?_)
  replace h := lt_w h ex2_4
  refine lv_istore_n (lv' := [(2, .int x2_4), (0, .ref (A0 + 703)), (1, .int x1)]) hx hb dX12_keepState_4 rfl hl (by decide) rfl (fun ls hl => ?_)
  refine lv_iconst (v := 0) hx hb dX12_keepState_5 (by decide) ?_
  refine lv_istore_n (lv' := [(3, .int 0), (2, .int x2_4), (0, .ref (A0 + 703)), (1, .int x1)]) hx hb dX12_keepState_6 rfl hl (by decide) rfl (fun ls hl => ?_)
  obtain ⟨k55, ek55, h⟩ := lt_x h
  have hk55 : ∀ (σ55 : Mm) (H : Heap) (locs : List Loc) (ls : Array Slot), zh D A0 σ55 GF 740 s.heap H locs → lv_has ls 4 [(0, .ref (A0 + 703)), (2, .int x2_4)] → k55 σ55 = some σr → W p l e (zR 0 0) s m [.ref (A0 + 703), .int x1].toArray below meth c H locs 0 0 (MQ below (zQv D A0 σr GF 740) [.ref (A0 + 703), .int x1].toArray s 0 0 (zA A0)) (F0 m 55 ls []) := by
    intro  σ55 H locs ls Z hl h
    rw [ek55] at h
    try dsimp only at h
    refine lv_iconst (v := 0) hx hb dX12_keepState_55 (by decide) ?_
    refine lv_istore_n (lv' := [(3, .int 0), (0, .ref (A0 + 703)), (2, .int x2_4)]) hx hb dX12_keepState_56 rfl hl (by decide) rfl (fun ls hl => ?_)
    obtain ⟨k89, ek89, h⟩ := lt_x h
    have hk89 : ∀ (σ89 : Mm) (H : Heap) (locs : List Loc) (ls : Array Slot), zh D A0 σ89 GF 740 s.heap H locs → lv_has ls 4 [(0, .ref (A0 + 703)), (2, .int x2_4)] → k89 σ89 = some σr → W p l e (zR 0 0) s m [.ref (A0 + 703), .int x1].toArray below meth c H locs 0 0 (MQ below (zQv D A0 σr GF 740) [.ref (A0 + 703), .int x1].toArray s 0 0 (zA A0)) (F0 m 89 ls []) := by
      intro  σ89 H locs ls Z hl h
      rw [ek89] at h
      try dsimp only at h
      refine lv_aload_n hx hb dX12_keepState_89 rfl (lv_at hl 0 rfl) ?_
      refine zw_getR F Z zC12 (a := 703) (k := 51) (by decide) zs_703 (by decide) rfl zg_703_51 zq1301 (Or.inl rfl) dX12_keepState_90 ?_
      refine lv_iload_n hx hb dX12_keepState_93 rfl (lv_at hl 1 rfl) ?_
      refine lv_bipush (v := 35) hx hb dX12_keepState_94 (by decide) ?_
      refine lv_iadd hx hb dX12_keepState_96 ?_
      refine lv_iconst (v := 1) hx hb dX12_keepState_97 (by decide) ?_
      refine lv_isub hx hb dX12_keepState_98 ?_
      refine lv_aload_n hx hb dX12_keepState_99 rfl (lv_at hl 0 rfl) ?_
      refine zw_getR F Z zC12 (a := 703) (k := 29) (by decide) zs_703 (by decide) rfl zg_703_29 zq1279 (Or.inl rfl) dX12_keepState_100 ?_
      refine lv_bipush (v := 54) hx hb dX12_keepState_103 (by decide) ?_
      refine zw_iald F Z (by decide) zs_714 (by decide) dX12_keepState_105 ?_
      obtain ⟨hk106, h⟩ := ck_x h
      refine zw_iast F Z (by decide) zs_727 hk106 dX12_keepState_106 (fun σ106 _ _ eσ106 Z => ?_)
      replace h := lt_w h eσ106
      have hq := Option.some.inj h
      exact ze_v F Z hr hlocks hq dX12_keepState_107
    have hL57 : ∀ (fu57 : Nat) (x3_57 : Int32) (σ57 : Mm) (H : Heap) (locs : List Loc) (ls : Array Slot), zh D A0 σ57 GF 740 s.heap H locs → lv_has ls 4 [(0, .ref (A0 + 703)), (2, .int x2_4), (3, .int x3_57)] → zfX12_keepState_L57 k89 x2_4 fu57 x3_57 σ57 = some σr → W p l e (zR 0 0) s m [.ref (A0 + 703), .int x1].toArray below meth c H locs 0 0 (MQ below (zQv D A0 σr GF 740) [.ref (A0 + 703), .int x1].toArray s 0 0 (zA A0)) (F0 m 57 ls []) := by
      intro fu57
      induction fu57 with
      | zero => intro x3_57 σ57 H locs ls Z hl h; rw [zfX12_keepState_L57] at h; cases h
      | succ fu57 ih57 =>
        intro x3_57 σ57 H locs ls Z hl h
        rw [zfX12_keepState_L57] at h
        refine lv_iload_n hx hb dX12_keepState_57 rfl (lv_at hl 2 rfl) ?_
        refine lv_bipush (v := 24) hx hb dX12_keepState_58 (by decide) ?_
        refine zb_icge (tgt := 89) hx hb dX12_keepState_60 (by decide) h (fun h => ?_) (fun h => ?_)
        · exact hk89 σ57 _ _ _ Z (lv_sub hl [0, 1] rfl) h
        · refine lv_aload_n hx hb dX12_keepState_63 rfl (lv_at hl 0 rfl) ?_
          refine zw_getR F Z zC12 (a := 703) (k := 51) (by decide) zs_703 (by decide) rfl zg_703_51 zq1301 (Or.inl rfl) dX12_keepState_64 ?_
          refine lv_iload_n hx hb dX12_keepState_67 rfl (lv_at hl 1 rfl) ?_
          refine lv_bipush (v := 10) hx hb dX12_keepState_68 (by decide) ?_
          refine lv_iadd hx hb dX12_keepState_70 ?_
          refine lv_iload_n hx hb dX12_keepState_71 rfl (lv_at hl 2 rfl) ?_
          refine lv_iadd hx hb dX12_keepState_72 ?_
          refine lv_aload_n hx hb dX12_keepState_73 rfl (lv_at hl 0 rfl) ?_
          refine zw_getR F Z zC12 (a := 703) (k := 29) (by decide) zs_703 (by decide) rfl zg_703_29 zq1279 (Or.inl rfl) dX12_keepState_74 ?_
          refine lv_bipush (v := 30) hx hb dX12_keepState_77 (by decide) ?_
          refine lv_iload_n hx hb dX12_keepState_79 rfl (lv_at hl 2 rfl) ?_
          refine lv_iadd hx hb dX12_keepState_80 ?_
          obtain ⟨hk81, h⟩ := ck_x h
          refine zw_iald F Z (by decide) zs_714 hk81 dX12_keepState_81 ?_
          obtain ⟨hk82, h⟩ := ck_x h
          refine zw_iast F Z (by decide) zs_727 hk82 dX12_keepState_82 (fun σ82 _ _ eσ82 Z => ?_)
          replace h := lt_w h eσ82
          obtain ⟨x3_83, ex3_83⟩ : ∃ y : Int32, y = x3_57 + 1 := ⟨_, rfl⟩
          replace h := lt_w h ex3_83
          refine lv_iinc (v := x3_83) (lv' := [(3, .int x3_83), (0, .ref (A0 + 703)), (2, .int x2_4)]) hx hb dX12_keepState_83 hl (k := 2) rfl (by rw [ex3_83]; rfl) (by decide) rfl (fun ls hl => ?_)
          refine lv_goto (tgt := 57) hx hb dX12_keepState_86 (by decide) ?_
          exact ih57 x3_83 σ82 _ _ _ Z (lv_sub hl [1, 2, 0] rfl) h
    exact hL57 NF 0 σ55 _ _ _ Z (lv_sub hl [1, 2, 0] rfl) h
  have hL7 : ∀ (fu7 : Nat) (x3_7 : Int32) (σ7 : Mm) (H : Heap) (locs : List Loc) (ls : Array Slot), zh D A0 σ7 GF 740 s.heap H locs → lv_has ls 4 [(0, .ref (A0 + 703)), (2, .int x2_4), (3, .int x3_7)] → zfX12_keepState_L7 k55 x2_4 fu7 x3_7 σ7 = some σr → W p l e (zR 0 0) s m [.ref (A0 + 703), .int x1].toArray below meth c H locs 0 0 (MQ below (zQv D A0 σr GF 740) [.ref (A0 + 703), .int x1].toArray s 0 0 (zA A0)) (F0 m 7 ls []) := by
    intro fu7
    induction fu7 with
    | zero => intro x3_7 σ7 H locs ls Z hl h; rw [zfX12_keepState_L7] at h; cases h
    | succ fu7 ih7 =>
      intro x3_7 σ7 H locs ls Z hl h
      rw [zfX12_keepState_L7] at h
      refine lv_iload_n hx hb dX12_keepState_7 rfl (lv_at hl 2 rfl) ?_
      refine lv_iconst (v := 5) hx hb dX12_keepState_8 (by decide) ?_
      refine zb_icge (tgt := 55) hx hb dX12_keepState_9 (by decide) h (fun h => ?_) (fun h => ?_)
      · exact hk55 σ7 _ _ _ Z (lv_sub hl [0, 1] rfl) h
      · refine lv_aload_n hx hb dX12_keepState_12 rfl (lv_at hl 0 rfl) ?_
        refine zw_getR F Z zC12 (a := 703) (k := 51) (by decide) zs_703 (by decide) rfl zg_703_51 zq1301 (Or.inl rfl) dX12_keepState_13 ?_
        refine lv_iload_n hx hb dX12_keepState_16 rfl (lv_at hl 1 rfl) ?_
        refine lv_iconst (v := 2) hx hb dX12_keepState_17 (by decide) ?_
        refine lv_iload_n hx hb dX12_keepState_18 rfl (lv_at hl 2 rfl) ?_
        refine lv_imul hx hb dX12_keepState_19 ?_
        refine lv_iadd hx hb dX12_keepState_20 ?_
        refine lv_aload_n hx hb dX12_keepState_21 rfl (lv_at hl 0 rfl) ?_
        refine zw_getR F Z zC12 (a := 703) (k := 29) (by decide) zs_703 (by decide) rfl zg_703_29 zq1279 (Or.inl rfl) dX12_keepState_22 ?_
        refine lv_iload_n hx hb dX12_keepState_25 rfl (lv_at hl 2 rfl) ?_
        obtain ⟨hk26, h⟩ := ck_x h
        refine zw_iald F Z (by decide) zs_714 hk26 dX12_keepState_26 ?_
        obtain ⟨hk27, h⟩ := ck_x h
        refine zw_iast F Z (by decide) zs_727 hk27 dX12_keepState_27 (fun σ27 _ _ eσ27 Z => ?_)
        replace h := lt_w h eσ27
        refine lv_aload_n hx hb dX12_keepState_28 rfl (lv_at hl 0 rfl) ?_
        refine zw_getR F Z zC12 (a := 703) (k := 51) (by decide) zs_703 (by decide) rfl zg_703_51 zq1301 (Or.inl rfl) dX12_keepState_29 ?_
        refine lv_iload_n hx hb dX12_keepState_32 rfl (lv_at hl 1 rfl) ?_
        refine lv_iconst (v := 2) hx hb dX12_keepState_33 (by decide) ?_
        refine lv_iload_n hx hb dX12_keepState_34 rfl (lv_at hl 2 rfl) ?_
        refine lv_imul hx hb dX12_keepState_35 ?_
        refine lv_iadd hx hb dX12_keepState_36 ?_
        refine lv_iconst (v := 1) hx hb dX12_keepState_37 (by decide) ?_
        refine lv_iadd hx hb dX12_keepState_38 ?_
        refine lv_aload_n hx hb dX12_keepState_39 rfl (lv_at hl 0 rfl) ?_
        refine zw_getR F Z zC12 (a := 703) (k := 29) (by decide) zs_703 (by decide) rfl zg_703_29 zq1279 (Or.inl rfl) dX12_keepState_40 ?_
        refine lv_bipush (v := 6) hx hb dX12_keepState_43 (by decide) ?_
        refine lv_iload_n hx hb dX12_keepState_45 rfl (lv_at hl 2 rfl) ?_
        refine lv_iadd hx hb dX12_keepState_46 ?_
        obtain ⟨hk47, h⟩ := ck_x h
        refine zw_iald F Z (by decide) zs_714 hk47 dX12_keepState_47 ?_
        obtain ⟨hk48, h⟩ := ck_x h
        refine zw_iast F Z (by decide) zs_727 hk48 dX12_keepState_48 (fun σ48 _ _ eσ48 Z => ?_)
        replace h := lt_w h eσ48
        obtain ⟨x3_49, ex3_49⟩ : ∃ y : Int32, y = x3_7 + 1 := ⟨_, rfl⟩
        replace h := lt_w h ex3_49
        refine lv_iinc (v := x3_49) (lv' := [(3, .int x3_49), (0, .ref (A0 + 703)), (2, .int x2_4)]) hx hb dX12_keepState_49 hl (k := 2) rfl (by rw [ex3_49]; rfl) (by decide) rfl (fun ls hl => ?_)
        refine lv_goto (tgt := 7) hx hb dX12_keepState_52 (by decide) ?_
        exact ih7 x3_49 σ48 _ _ _ Z (lv_sub hl [1, 2, 0] rfl) h
  exact hL7 NF 0 σ _ _ _ Z (lv_sub hl [2, 1, 0] rfl) h
set_option maxHeartbeats 4000000 in
set_option maxRecDepth 100000 in
theorem zcX12_areAlike (l : Launch) (D : va_G) (A0 : Nat) (x1 : Int32) (x2 : Int32) (σ : Mm) (r0 : Int32) (h : zfX12_areAlike x1 x2 σ = some r0) : Met l yX12_areAlike (zws yX12_areAlike cX12_areAlike 4 (some .boolean)) (zR 0 0) (zPc D A0 σ GF 740 [.ref (A0 + 703), .int x1, .int x2]) (zQi D A0 r0 σ GF 740) 0 0 (zA A0) := by
  unfold zfX12_areAlike at h
  refine zmet (own := RX12) (by decide) rfl (Nat.le_of_ble_eq_true rfl) ?_
  intro p e s m below meth c F hr hlocks _ Z ls hl
  have hl : lv_has ls 4 [(0, .ref (A0 + 703)), (1, .int x1), (2, .int x2)] := hl
  have hx := F.1.1
  have hb := F.1.2.1
  have hown := F.1.2.2.2.1
  have hts := F.1.2.2.2.2
  refine lv_iconst (v := 0) hx hb dX12_areAlike_0 (by decide) ?_
  refine lv_istore_n (lv' := [(3, .int 0), (0, .ref (A0 + 703)), (1, .int x1), (2, .int x2)]) hx hb dX12_areAlike_1 rfl hl (by decide) rfl (fun ls hl => ?_)
  obtain ⟨k33, ek33, h⟩ := lt_x h
  have hk33 : ∀  (H : Heap) (locs : List Loc) (ls : Array Slot), zh D A0 σ GF 740 s.heap H locs → lv_has ls 4 [] → k33 () = some r0 → W p l e (zR 0 0) s m [.ref (A0 + 703), .int x1, .int x2].toArray below meth c H locs 0 0 (MQ below (zQi D A0 r0 σ GF 740) [.ref (A0 + 703), .int x1, .int x2].toArray s 0 0 (zA A0)) (F0 m 33 ls []) := by
    intro  H locs ls Z hl h
    rw [ek33] at h
    try dsimp only at h
    refine lv_iconst (v := 0) hx hb dX12_areAlike_33 (by decide) ?_
    have hq := Option.some.inj h
    exact ze_z F Z hr hlocks (by decide) hq rfl dX12_areAlike_34
  obtain ⟨k41, ek41, h⟩ := lt_x h
  have hk41 : ∀  (H : Heap) (locs : List Loc) (ls : Array Slot), zh D A0 σ GF 740 s.heap H locs → lv_has ls 4 [] → k41 () = some r0 → W p l e (zR 0 0) s m [.ref (A0 + 703), .int x1, .int x2].toArray below meth c H locs 0 0 (MQ below (zQi D A0 r0 σ GF 740) [.ref (A0 + 703), .int x1, .int x2].toArray s 0 0 (zA A0)) (F0 m 41 ls []) := by
    intro  H locs ls Z hl h
    rw [ek41] at h
    try dsimp only at h
    refine lv_iconst (v := 1) hx hb dX12_areAlike_41 (by decide) ?_
    have hq := Option.some.inj h
    exact ze_z F Z hr hlocks (by decide) hq rfl dX12_areAlike_42
  have hL2 : ∀ (fu2 : Nat) (x3_2 : Int32) (H : Heap) (locs : List Loc) (ls : Array Slot), zh D A0 σ GF 740 s.heap H locs → lv_has ls 4 [(0, .ref (A0 + 703)), (1, .int x1), (2, .int x2), (3, .int x3_2)] → zfX12_areAlike_L2 k41 x1 x2 σ k33 fu2 x3_2 = some r0 → W p l e (zR 0 0) s m [.ref (A0 + 703), .int x1, .int x2].toArray below meth c H locs 0 0 (MQ below (zQi D A0 r0 σ GF 740) [.ref (A0 + 703), .int x1, .int x2].toArray s 0 0 (zA A0)) (F0 m 2 ls []) := by
    intro fu2
    induction fu2 with
    | zero => intro x3_2 H locs ls Z hl h; rw [zfX12_areAlike_L2] at h; cases h
    | succ fu2 ih2 =>
      intro x3_2 H locs ls Z hl h
      rw [zfX12_areAlike_L2] at h
      refine lv_iload_n hx hb dX12_areAlike_2 rfl (lv_at hl 3 rfl) ?_
      refine lv_bipush (v := 35) hx hb dX12_areAlike_3 (by decide) ?_
      refine zb_icge (tgt := 41) hx hb dX12_areAlike_5 (by decide) h (fun h => ?_) (fun h => ?_)
      · exact hk41  _ _ _ Z (lv_sub hl [] rfl) h
      · refine lv_aload_n hx hb dX12_areAlike_8 rfl (lv_at hl 0 rfl) ?_
        refine zw_getR F Z zC12 (a := 703) (k := 51) (by decide) zs_703 (by decide) rfl zg_703_51 zq1301 (Or.inl rfl) dX12_areAlike_9 ?_
        refine lv_bipush (v := 35) hx hb dX12_areAlike_12 (by decide) ?_
        refine lv_iload_n hx hb dX12_areAlike_14 rfl (lv_at hl 1 rfl) ?_
        refine lv_imul hx hb dX12_areAlike_15 ?_
        refine lv_iload_n hx hb dX12_areAlike_16 rfl (lv_at hl 3 rfl) ?_
        refine lv_iadd hx hb dX12_areAlike_17 ?_
        obtain ⟨hk18, h⟩ := ck_x h
        refine zw_iald F Z (by decide) zs_727 hk18 dX12_areAlike_18 ?_
        refine lv_aload_n hx hb dX12_areAlike_19 rfl (lv_at hl 0 rfl) ?_
        refine zw_getR F Z zC12 (a := 703) (k := 51) (by decide) zs_703 (by decide) rfl zg_703_51 zq1301 (Or.inl rfl) dX12_areAlike_20 ?_
        refine lv_bipush (v := 35) hx hb dX12_areAlike_23 (by decide) ?_
        refine lv_iload_n hx hb dX12_areAlike_25 rfl (lv_at hl 2 rfl) ?_
        refine lv_imul hx hb dX12_areAlike_26 ?_
        refine lv_iload_n hx hb dX12_areAlike_27 rfl (lv_at hl 3 rfl) ?_
        refine lv_iadd hx hb dX12_areAlike_28 ?_
        obtain ⟨hk29, h⟩ := ck_x h
        refine zw_iald F Z (by decide) zs_727 hk29 dX12_areAlike_29 ?_
        refine zb_iceq (tgt := 35) hx hb dX12_areAlike_30 (by decide) h (fun h => ?_) (fun h => ?_)
        · obtain ⟨x3_35, ex3_35⟩ : ∃ y : Int32, y = x3_2 + 1 := ⟨_, rfl⟩
          replace h := lt_w h ex3_35
          refine lv_iinc (v := x3_35) (lv' := [(3, .int x3_35), (0, .ref (A0 + 703)), (1, .int x1), (2, .int x2)]) hx hb dX12_areAlike_35 hl (k := 3) rfl (by rw [ex3_35]; rfl) (by decide) rfl (fun ls hl => ?_)
          refine lv_goto (tgt := 2) hx hb dX12_areAlike_38 (by decide) ?_
          exact ih2 x3_35 _ _ _ Z (lv_sub hl [1, 2, 3, 0] rfl) h
        · exact hk33  _ _ _ Z (lv_sub hl [] rfl) h
  exact hL2 NF 0 _ _ _ Z (lv_sub hl [1, 2, 3, 0] rfl) h
