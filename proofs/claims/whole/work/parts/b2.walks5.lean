set_option maxHeartbeats 4000000 in
set_option maxRecDepth 100000 in
theorem zcX12_ring (l : Launch) (D : va_G) (A0 : Nat) (x1 : Int32) (σ : Mm) (r0 : Int32) (σr : Mm) (h : zfX12_ring x1 σ = some (r0, σr)) : Met l yX12_ring (zws yX12_ring cX12_ring 6 (some .int)) (zR 399 14918) (zPc D A0 σ GF 740 [.ref (A0 + 703), .int x1]) (zQi D A0 r0 σr GF 740) 0 0 (zA A0) := by
  unfold zfX12_ring at h
  refine zmet (own := RX12) (by decide) rfl (Nat.le_of_ble_eq_true rfl) ?_
  intro p e s m below meth c F hr hlocks _ Z ls hl
  have hl : lv_has ls 6 [(0, .ref (A0 + 703)), (1, .int x1)] := hl
  have hx := F.1.1
  have hb := F.1.2.1
  have hown := F.1.2.2.2.1
  have hts := F.1.2.2.2.2
  refine lv_aload_n hx hb dX12_ring_0 rfl (lv_at hl 0 rfl) ?_
  refine lv_iconst (v := 0) hx hb dX12_ring_1 (by decide) ?_
  refine zw_putI F Z zC12 (a := 703) (k := 0) (by decide) zs_703 (by decide) rfl (by decide) zq1250 (Or.inl rfl) rfl ⟨rfl, rfl⟩ dX12_ring_2 (fun σ2 _ _ eσ2 Z => ?_)
  replace h := lt_w h eσ2
  refine lv_aload_n hx hb dX12_ring_5 rfl (lv_at hl 0 rfl) ?_
  refine zw_getI F Z zC12 (a := 703) (k := 24) (by decide) zs_703 (by decide) rfl zq1274 (Or.inl rfl) dX12_ring_6 ?_
  obtain ⟨j22, ej22, h⟩ := lt_x h
  have hj22 : ∀ (σ22 : Mm) (H : Heap) (locs : List Loc) (ls : Array Slot), zh D A0 σ22 GF 740 s.heap H locs → lv_has ls 6 [] → j22 σ22 = some (r0, σr) → W p l e (zR 399 14918) s m [.ref (A0 + 703), .int x1].toArray below meth c H locs 0 0 (MQ below (zQi D A0 r0 σr GF 740) [.ref (A0 + 703), .int x1].toArray s 0 0 (zA A0)) (F0 m 22 ls []) := by
    intro  σ22 H locs ls Z hl h
    rw [ej22] at h
    try dsimp only at h
    refine lv_iconst (v := (-1)) hx hb dX12_ring_22 (by decide) ?_
    obtain ⟨hq1, hq2⟩ := zpq h
    exact ze_i F Z hr hlocks hq1 hq2 dX12_ring_23
  refine zb_ifeq (tgt := 22) hx hb dX12_ring_9 (by decide) h (fun h => ?_) (fun h => ?_)
  · exact hj22 σ2 _ _ _ Z (lv_sub hl [] rfl) h
  · refine lv_iload_n hx hb dX12_ring_12 rfl (lv_at hl 1 rfl) ?_
    refine lv_i2l hx hb dX12_ring_13 rfl ?_
    refine lv_lconst (v := 0) hx hb dX12_ring_14 (by decide) ?_
    refine lv_lconst (v := 1) hx hb dX12_ring_15 (by decide) ?_
    refine zc_i Z (zr_S F Z (As := [.long (Int32.toInt64 x1), .long 0, .long 1]) (zcX12_isIn l D A0 (Int32.toInt64 x1) 0 1 σ2 (zfX12_isIn (Int32.toInt64 x1) 0 1) rfl) zBX12_isIn zq1496 rfl ⟨⟨rfl, rfl⟩, Nat.le_of_ble_eq_true rfl, Nat.le_of_ble_eq_true rfl⟩ hl.1 rfl (Nat.le_of_ble_eq_true rfl) dX12_ring_16 ⟨Nat.le_of_ble_eq_true rfl, Nat.le_of_ble_eq_true rfl⟩) (fun _ _ Z => ?_)
    refine zb_ifne (tgt := 24) hx hb dX12_ring_19 (by decide) h (fun h => ?_) (fun h => ?_)
    · refine lv_aload_n hx hb dX12_ring_24 rfl (lv_at hl 0 rfl) ?_
      obtain ⟨σ25, hc25, h⟩ := bd_x h
      refine zc_v Z (zr_V F Z (a := 703) (As := []) (zcX12_keep l D A0 σ2 σ25 hc25) zBX12_keep zq1701 (by decide) zs_703 zC12.1 rfl ⟨⟨rfl, rfl⟩, Nat.le_of_ble_eq_true rfl, Nat.le_of_ble_eq_true rfl⟩ hl.1 rfl (Nat.le_of_ble_eq_true rfl) dX12_ring_25 ⟨Nat.le_of_ble_eq_true rfl, Nat.le_of_ble_eq_true rfl⟩) (fun _ _ Z => ?_)
      refine lv_iconst (v := (-1)) hx hb dX12_ring_28 (by decide) ?_
      refine lv_istore_n (lv' := [(2, .int (-1)), (0, .ref (A0 + 703)), (1, .int x1)]) hx hb dX12_ring_29 rfl hl (by decide) rfl (fun ls hl => ?_)
      refine lv_iconst (v := (-1)) hx hb dX12_ring_30 (by decide) ?_
      refine lv_istore_n (lv' := [(3, .int (-1)), (2, .int (-1)), (0, .ref (A0 + 703)), (1, .int x1)]) hx hb dX12_ring_31 rfl hl (by decide) rfl (fun ls hl => ?_)
      refine lv_iconst (v := 0) hx hb dX12_ring_32 (by decide) ?_
      refine lv_istore (lv' := [(4, .int 0), (3, .int (-1)), (2, .int (-1)), (0, .ref (A0 + 703)), (1, .int x1)]) hx hb dX12_ring_33 hl (by decide) rfl (fun ls hl => ?_)
      obtain ⟨k108, ek108, h⟩ := lt_x h
      have hk108 : ∀ (x2_108 : Int32) (x3_108 : Int32) (σ108 : Mm) (H : Heap) (locs : List Loc) (ls : Array Slot), zh D A0 σ108 GF 740 s.heap H locs → lv_has ls 6 [(0, .ref (A0 + 703)), (1, .int x1), (2, .int x2_108), (3, .int x3_108)] → k108 x2_108 x3_108 σ108 = some (r0, σr) → W p l e (zR 399 14918) s m [.ref (A0 + 703), .int x1].toArray below meth c H locs 0 0 (MQ below (zQi D A0 r0 σr GF 740) [.ref (A0 + 703), .int x1].toArray s 0 0 (zA A0)) (F0 m 108 ls []) := by
        intro x2_108 x3_108 σ108 H locs ls Z hl h
        rw [ek108] at h
        try dsimp only at h
        refine lv_aload_n hx hb dX12_ring_108 rfl (lv_at hl 0 rfl) ?_
        obtain ⟨σ109, hc109, h⟩ := bd_x h
        refine zc_v Z (zr_V F Z (a := 703) (As := []) (zcX12_putBack l D A0 σ108 σ109 hc109) zBX12_putBack zq1709 (by decide) zs_703 zC12.1 rfl ⟨⟨rfl, rfl⟩, Nat.le_of_ble_eq_true rfl, Nat.le_of_ble_eq_true rfl⟩ hl.1 rfl (Nat.le_of_ble_eq_true rfl) dX12_ring_109 ⟨Nat.le_of_ble_eq_true rfl, Nat.le_of_ble_eq_true rfl⟩) (fun _ _ Z => ?_)
        refine lv_iload_n hx hb dX12_ring_112 rfl (lv_at hl 1 rfl) ?_
        refine zb_ifne (tgt := 120) hx hb dX12_ring_113 (by decide) h (fun h => ?_) (fun h => ?_)
        · refine lv_iload_n hx hb dX12_ring_120 rfl (lv_at hl 3 rfl) ?_
          obtain ⟨hq1, hq2⟩ := zpq h
          exact ze_i F Z hr hlocks hq1 hq2 dX12_ring_121
        · refine lv_iload_n hx hb dX12_ring_116 rfl (lv_at hl 2 rfl) ?_
          refine lv_goto (tgt := 121) hx hb dX12_ring_117 (by decide) ?_
          obtain ⟨hq1, hq2⟩ := zpq h
          exact ze_i F Z hr hlocks hq1 hq2 dX12_ring_121
      have hL35 : ∀ (fu35 : Nat) (x2_35 : Int32) (x3_35 : Int32) (x4_35 : Int32) (σ35 : Mm) (H : Heap) (locs : List Loc) (ls : Array Slot), zh D A0 σ35 GF 740 s.heap H locs → lv_has ls 6 [(0, .ref (A0 + 703)), (1, .int x1), (2, .int x2_35), (3, .int x3_35), (4, .int x4_35)] → zfX12_ring_L35 k108 fu35 x2_35 x3_35 x4_35 σ35 = some (r0, σr) → W p l e (zR 399 14918) s m [.ref (A0 + 703), .int x1].toArray below meth c H locs 0 0 (MQ below (zQi D A0 r0 σr GF 740) [.ref (A0 + 703), .int x1].toArray s 0 0 (zA A0)) (F0 m 35 ls []) := by
        intro fu35
        induction fu35 with
        | zero => intro x2_35 x3_35 x4_35 σ35 H locs ls Z hl h; rw [zfX12_ring_L35] at h; cases h
        | succ fu35 ih35 =>
          intro x2_35 x3_35 x4_35 σ35 H locs ls Z hl h
          rw [zfX12_ring_L35] at h
          refine lv_iload hx hb dX12_ring_35 (lv_at hl 4 rfl) ?_
          refine lv_bipush (v := 60) hx hb dX12_ring_37 (by decide) ?_
          refine zb_icgt (tgt := 108) hx hb dX12_ring_39 (by decide) h (fun h => ?_) (fun h => ?_)
          · exact hk108 x2_35 x3_35 σ35 _ _ _ Z (lv_sub hl [0, 1, 2, 3] rfl) h
          · refine lv_iload_n hx hb dX12_ring_42 rfl (lv_at hl 2 rfl) ?_
            refine lv_iconst (v := (-1)) hx hb dX12_ring_43 (by decide) ?_
            refine zb_icne (tgt := 108) hx hb dX12_ring_44 (by decide) h (fun h => ?_) (fun h => ?_)
            · exact hk108 x2_35 x3_35 σ35 _ _ _ Z (lv_sub hl [0, 1, 2, 3] rfl) h
            · refine lv_aload_n hx hb dX12_ring_47 rfl (lv_at hl 0 rfl) ?_
              refine lv_iload hx hb dX12_ring_48 (lv_at hl 4 rfl) ?_
              obtain ⟨σ50, hc50, h⟩ := bd_x h
              refine zc_v Z (zr_V F Z (a := 703) (As := [.int x4_35]) (zcX12_keepState l D A0 x4_35 σ35 σ50 hc50) zBX12_keepState zq1725 (by decide) zs_703 zC12.1 rfl ⟨⟨rfl, rfl⟩, Nat.le_of_ble_eq_true rfl, Nat.le_of_ble_eq_true rfl⟩ hl.1 rfl (Nat.le_of_ble_eq_true rfl) dX12_ring_50 ⟨Nat.le_of_ble_eq_true rfl, Nat.le_of_ble_eq_true rfl⟩) (fun _ _ Z => ?_)
              refine lv_iconst (v := 0) hx hb dX12_ring_53 (by decide) ?_
              refine lv_istore (lv' := [(5, .int 0), (0, .ref (A0 + 703)), (1, .int x1), (2, .int x2_35), (3, .int x3_35), (4, .int x4_35)]) hx hb dX12_ring_54 hl (by decide) rfl (fun ls hl => ?_)
              obtain ⟨k97, ek97, h⟩ := lt_x h
              have hk97 : ∀ (x2_97 : Int32) (x3_97 : Int32) (σ97 : Mm) (H : Heap) (locs : List Loc) (ls : Array Slot), zh D A0 σ97 GF 740 s.heap H locs → lv_has ls 6 [(0, .ref (A0 + 703)), (1, .int x1), (2, .int x2_97), (3, .int x3_97), (4, .int x4_35)] → k97 x2_97 x3_97 σ97 = some (r0, σr) → W p l e (zR 399 14918) s m [.ref (A0 + 703), .int x1].toArray below meth c H locs 0 0 (MQ below (zQi D A0 r0 σr GF 740) [.ref (A0 + 703), .int x1].toArray s 0 0 (zA A0)) (F0 m 97 ls []) := by
                intro x2_97 x3_97 σ97 H locs ls Z hl h
                rw [ek97] at h
                try dsimp only at h
                refine lv_aload_n hx hb dX12_ring_97 rfl (lv_at hl 0 rfl) ?_
                refine lv_iconst (v := 0) hx hb dX12_ring_98 (by decide) ?_
                obtain ⟨σ99, hc99, h⟩ := bd_x h
                refine zc_v Z (zr_V F Z (a := 703) (As := [.int 0]) (zcX12_goes l D A0 0 σ97 σ99 hc99) zBX12_goes zq1663 (by decide) zs_703 zC12.1 rfl ⟨⟨rfl, rfl⟩, Nat.le_of_ble_eq_true rfl, Nat.le_of_ble_eq_true rfl⟩ hl.1 rfl (Nat.le_of_ble_eq_true rfl) dX12_ring_99 ⟨Nat.le_of_ble_eq_true rfl, Nat.le_of_ble_eq_true rfl⟩) (fun _ _ Z => ?_)
                obtain ⟨x4_102, ex4_102⟩ : ∃ y : Int32, y = x4_35 + 1 := ⟨_, rfl⟩
                replace h := lt_w h ex4_102
                refine lv_iinc (v := x4_102) (lv' := [(4, .int x4_102), (0, .ref (A0 + 703)), (1, .int x1), (2, .int x2_97), (3, .int x3_97)]) hx hb dX12_ring_102 hl (k := 4) rfl (by rw [ex4_102]; rfl) (by decide) rfl (fun ls hl => ?_)
                refine lv_goto (tgt := 35) hx hb dX12_ring_105 (by decide) ?_
                exact ih35 x2_97 x3_97 x4_102 σ99 _ _ _ Z (lv_sub hl [1, 2, 3, 4, 0] rfl) h
              have hL56 : ∀ (fu56 : Nat) (x2_56 : Int32) (x3_56 : Int32) (x5_56 : Int32) (σ56 : Mm) (H : Heap) (locs : List Loc) (ls : Array Slot), zh D A0 σ56 GF 740 s.heap H locs → lv_has ls 6 [(0, .ref (A0 + 703)), (1, .int x1), (2, .int x2_56), (3, .int x3_56), (4, .int x4_35), (5, .int x5_56)] → zfX12_ring_L56 x4_35 k97 fu56 x2_56 x3_56 x5_56 σ56 = some (r0, σr) → W p l e (zR 399 14918) s m [.ref (A0 + 703), .int x1].toArray below meth c H locs 0 0 (MQ below (zQi D A0 r0 σr GF 740) [.ref (A0 + 703), .int x1].toArray s 0 0 (zA A0)) (F0 m 56 ls []) := by
                intro fu56
                induction fu56 with
                | zero => intro x2_56 x3_56 x5_56 σ56 H locs ls Z hl h; rw [zfX12_ring_L56] at h; cases h
                | succ fu56 ih56 =>
                  intro x2_56 x3_56 x5_56 σ56 H locs ls Z hl h
                  rw [zfX12_ring_L56] at h
                  refine lv_iload hx hb dX12_ring_56 (lv_at hl 5 rfl) ?_
                  refine lv_iload hx hb dX12_ring_58 (lv_at hl 4 rfl) ?_
                  refine zb_icge (tgt := 97) hx hb dX12_ring_60 (by decide) h (fun h => ?_) (fun h => ?_)
                  · exact hk97 x2_56 x3_56 σ56 _ _ _ Z (lv_sub hl [0, 1, 2, 3, 4] rfl) h
                  · refine lv_iload_n hx hb dX12_ring_63 rfl (lv_at hl 2 rfl) ?_
                    refine lv_iconst (v := (-1)) hx hb dX12_ring_64 (by decide) ?_
                    refine zb_icne (tgt := 97) hx hb dX12_ring_65 (by decide) h (fun h => ?_) (fun h => ?_)
                    · exact hk97 x2_56 x3_56 σ56 _ _ _ Z (lv_sub hl [0, 1, 2, 3, 4] rfl) h
                    · refine lv_aload_n hx hb dX12_ring_68 rfl (lv_at hl 0 rfl) ?_
                      refine lv_iload hx hb dX12_ring_69 (lv_at hl 5 rfl) ?_
                      refine lv_iload hx hb dX12_ring_71 (lv_at hl 4 rfl) ?_
                      obtain ⟨r73, hc73, h⟩ := bd_x h
                      refine zc_i Z (zr_V F Z (a := 703) (As := [.int x5_56, .int x4_35]) (zcX12_areAlike l D A0 x5_56 x4_35 σ56 r73 hc73) zBX12_areAlike zq1729 (by decide) zs_703 zC12.1 rfl ⟨⟨rfl, rfl⟩, Nat.le_of_ble_eq_true rfl, Nat.le_of_ble_eq_true rfl⟩ hl.1 rfl (Nat.le_of_ble_eq_true rfl) dX12_ring_73 ⟨Nat.le_of_ble_eq_true rfl, Nat.le_of_ble_eq_true rfl⟩) (fun _ _ Z => ?_)
                      obtain ⟨j91, ej91, h⟩ := lt_x h
                      have hj91 : ∀ (x2_91 : Int32) (x3_91 : Int32) (σ91 : Mm) (H : Heap) (locs : List Loc) (ls : Array Slot), zh D A0 σ91 GF 740 s.heap H locs → lv_has ls 6 [(0, .ref (A0 + 703)), (1, .int x1), (2, .int x2_91), (3, .int x3_91), (4, .int x4_35), (5, .int x5_56)] → j91 x2_91 x3_91 σ91 = some (r0, σr) → W p l e (zR 399 14918) s m [.ref (A0 + 703), .int x1].toArray below meth c H locs 0 0 (MQ below (zQi D A0 r0 σr GF 740) [.ref (A0 + 703), .int x1].toArray s 0 0 (zA A0)) (F0 m 91 ls []) := by
                        intro x2_91 x3_91 σ91 H locs ls Z hl h
                        rw [ej91] at h
                        try dsimp only at h
                        obtain ⟨x5_91, ex5_91⟩ : ∃ y : Int32, y = x5_56 + 1 := ⟨_, rfl⟩
                        replace h := lt_w h ex5_91
                        refine lv_iinc (v := x5_91) (lv' := [(5, .int x5_91), (0, .ref (A0 + 703)), (1, .int x1), (2, .int x2_91), (3, .int x3_91), (4, .int x4_35)]) hx hb dX12_ring_91 hl (k := 5) rfl (by rw [ex5_91]; rfl) (by decide) rfl (fun ls hl => ?_)
                        refine lv_goto (tgt := 56) hx hb dX12_ring_94 (by decide) ?_
                        exact ih56 x2_91 x3_91 x5_91 σ91 _ _ _ Z (lv_sub hl [1, 2, 3, 4, 5, 0] rfl) h
                      refine zb_ifne (tgt := 82) hx hb dX12_ring_76 (by decide) h (fun h => ?_) (fun h => ?_)
                      · refine lv_iload hx hb dX12_ring_82 (lv_at hl 5 rfl) ?_
                        refine lv_istore_n (lv' := [(2, .int x5_56), (0, .ref (A0 + 703)), (1, .int x1), (3, .int x3_56), (4, .int x4_35), (5, .int x5_56)]) hx hb dX12_ring_84 rfl hl (by decide) rfl (fun ls hl => ?_)
                        refine lv_iload hx hb dX12_ring_85 (lv_at hl 4 rfl) ?_
                        refine lv_iload hx hb dX12_ring_87 (lv_at hl 5 rfl) ?_
                        refine lv_isub hx hb dX12_ring_89 ?_
                        refine lv_topi (fun x3_90 ex3_90 => ?_)
                        replace h := lt_w h ex3_90
                        refine lv_istore_n (lv' := [(3, .int x3_90), (2, .int x5_56), (0, .ref (A0 + 703)), (1, .int x1), (4, .int x4_35), (5, .int x5_56)]) hx hb dX12_ring_90 rfl hl (by decide) rfl (fun ls hl => ?_)
                        exact hj91 x5_56 x3_90 σ56 _ _ _ Z (lv_sub hl [2, 3, 1, 0, 4, 5] rfl) h
                      · refine lv_goto (tgt := 91) hx hb dX12_ring_79 (by decide) ?_
                        exact hj91 x2_56 x3_56 σ56 _ _ _ Z (lv_sub hl [0, 1, 2, 3, 4, 5] rfl) h
              exact hL56 NF x2_35 x3_35 0 σ50 _ _ _ Z (lv_sub hl [1, 2, 3, 4, 5, 0] rfl) h
      exact hL35 NF (-1) (-1) 0 σ25 _ _ _ Z (lv_sub hl [3, 4, 2, 1, 0] rfl) h
    · exact hj22 σ2 _ _ _ Z (lv_sub hl [] rfl) h
set_option maxHeartbeats 4000000 in
set_option maxRecDepth 100000 in
theorem zcX12_goBest (l : Launch) (D : va_G) (A0 : Nat) : ∀ (dd : Nat) (x1 : Int32) (x2 : Int32) (x3 : Int32) (σ : Mm) (σr : Mm) (h : zfX12_goBest dd x1 x2 x3 σ = some σr), Met l yX12_goBest (zws yX12_goBest cX12_goBest 7 none) (zR (10 * dd + 700) (400 * dd + 24000)) (zPc D A0 σ GF 740 [.ref (A0 + 703), .int x1, .int x2, .int x3]) (zQv D A0 σr GF 740) 0 0 (zA A0) := by
  intro dd
  induction dd with
  | zero => intro x1 x2 x3 σ σr h; rw [zfX12_goBest] at h; cases h
  | succ dd hrec =>
  intro x1 x2 x3 σ σr h
  rw [zfX12_goBest] at h
  refine zmet (own := RX12) (by decide) rfl (Nat.le_of_ble_eq_true rfl) ?_
  intro p e s m below meth c F hr hlocks _ Z ls hl
  have hl : lv_has ls 7 [(0, .ref (A0 + 703)), (1, .int x1), (2, .int x2), (3, .int x3)] := hl
  have hx := F.1.1
  have hb := F.1.2.1
  have hown := F.1.2.2.2.1
  have hts := F.1.2.2.2.2
  refine lv_iload_n hx hb dX12_goBest_0 rfl (lv_at hl 2 rfl) ?_
  refine zb_ifne (tgt := 55) hx hb dX12_goBest_1 (by decide) h (fun h => ?_) (fun h => ?_)
  · refine lv_iload_n hx hb dX12_goBest_55 rfl (lv_at hl 2 rfl) ?_
    refine lv_iconst (v := 1) hx hb dX12_goBest_56 (by decide) ?_
    obtain ⟨j83, ej83, h⟩ := lt_x h
    have hj83 : ∀ (q83_s0 : Nat) (σ83 : Mm) (H : Heap) (locs : List Loc) (ls : Array Slot), zh D A0 σ83 GF 740 s.heap H locs → lv_has ls 7 [(0, .ref (A0 + 703)), (1, .int x1), (2, .int x2), (3, .int x3)] → j83 q83_s0 σ83 = some σr → W p l e (zR (10 * (dd + 1) + 700) (400 * (dd + 1) + 24000)) s m [.ref (A0 + 703), .int x1, .int x2, .int x3].toArray below meth c H locs 0 0 (MQ below (zQv D A0 σr GF 740) [.ref (A0 + 703), .int x1, .int x2, .int x3].toArray s 0 0 (zA A0)) (F0 m 83 ls [.ref (A0 + q83_s0)]) := by
      intro q83_s0 σ83 H locs ls Z hl h
      rw [ej83] at h
      try dsimp only at h
      refine lv_astore (lv' := [(4, .ref (A0 + q83_s0)), (0, .ref (A0 + 703)), (1, .int x1), (2, .int x2), (3, .int x3)]) hx hb dX12_goBest_83 hl (by decide) rfl (fun ls hl => ?_)
      refine lv_iconst (v := 0) hx hb dX12_goBest_85 (by decide) ?_
      refine lv_istore (lv' := [(5, .int 0), (4, .ref (A0 + q83_s0)), (0, .ref (A0 + 703)), (1, .int x1), (2, .int x2), (3, .int x3)]) hx hb dX12_goBest_86 hl (by decide) rfl (fun ls hl => ?_)
      obtain ⟨k113, ek113, h⟩ := lt_x h
      have hk113 : ∀ (σ113 : Mm) (H : Heap) (locs : List Loc) (ls : Array Slot), zh D A0 σ113 GF 740 s.heap H locs → lv_has ls 7 [(0, .ref (A0 + 703)), (1, .int x1), (2, .int x2), (3, .int x3), (4, .ref (A0 + q83_s0))] → k113 σ113 = some σr → W p l e (zR (10 * (dd + 1) + 700) (400 * (dd + 1) + 24000)) s m [.ref (A0 + 703), .int x1, .int x2, .int x3].toArray below meth c H locs 0 0 (MQ below (zQv D A0 σr GF 740) [.ref (A0 + 703), .int x1, .int x2, .int x3].toArray s 0 0 (zA A0)) (F0 m 113 ls []) := by
        intro  σ113 H locs ls Z hl h
        rw [ek113] at h
        try dsimp only at h
        refine lv_iconst (v := 0) hx hb dX12_goBest_113 (by decide) ?_
        refine lv_istore (lv' := [(5, .int 0), (0, .ref (A0 + 703)), (1, .int x1), (2, .int x2), (3, .int x3), (4, .ref (A0 + q83_s0))]) hx hb dX12_goBest_114 hl (by decide) rfl (fun ls hl => ?_)
        obtain ⟨k188, ek188, h⟩ := lt_x h
        have hk188 : ∀ (σ188 : Mm) (H : Heap) (locs : List Loc) (ls : Array Slot), zh D A0 σ188 GF 740 s.heap H locs → lv_has ls 7 [] → k188 σ188 = some σr → W p l e (zR (10 * (dd + 1) + 700) (400 * (dd + 1) + 24000)) s m [.ref (A0 + 703), .int x1, .int x2, .int x3].toArray below meth c H locs 0 0 (MQ below (zQv D A0 σr GF 740) [.ref (A0 + 703), .int x1, .int x2, .int x3].toArray s 0 0 (zA A0)) (F0 m 188 ls []) := by
          intro  σ188 H locs ls Z hl h
          rw [ek188] at h
          try dsimp only at h
          have hq := Option.some.inj h
          exact ze_v F Z hr hlocks hq dX12_goBest_188
        have hL116 : ∀ (fu116 : Nat) (x5_116 : Int32) (σ116 : Mm) (H : Heap) (locs : List Loc) (ls : Array Slot), zh D A0 σ116 GF 740 s.heap H locs → lv_has ls 7 [(0, .ref (A0 + 703)), (1, .int x1), (2, .int x2), (3, .int x3), (4, .ref (A0 + q83_s0)), (5, .int x5_116)] → zfX12_goBest_L116 q83_s0 k188 x1 (zfX12_goBest dd) x2 x3 fu116 x5_116 σ116 = some σr → W p l e (zR (10 * (dd + 1) + 700) (400 * (dd + 1) + 24000)) s m [.ref (A0 + 703), .int x1, .int x2, .int x3].toArray below meth c H locs 0 0 (MQ below (zQv D A0 σr GF 740) [.ref (A0 + 703), .int x1, .int x2, .int x3].toArray s 0 0 (zA A0)) (F0 m 116 ls []) := by
          intro fu116
          induction fu116 with
          | zero => intro x5_116 σ116 H locs ls Z hl h; rw [zfX12_goBest_L116] at h; cases h
          | succ fu116 ih116 =>
            intro x5_116 σ116 H locs ls Z hl h
            rw [zfX12_goBest_L116] at h
            refine lv_iload hx hb dX12_goBest_116 (lv_at hl 5 rfl) ?_
            refine lv_aload hx hb dX12_goBest_118 (lv_at hl 4 rfl) ?_
            refine lv_bipush (v := 54) hx hb dX12_goBest_120 (by decide) ?_
            obtain ⟨hp122, h⟩ := ck_x h
            obtain ⟨hk122, h⟩ := ck_x h
            refine zw_iald F Z (hp122).2 (zsI hp122) hk122 dX12_goBest_122 ?_
            refine zb_icgt (tgt := 188) hx hb dX12_goBest_123 (by decide) h (fun h => ?_) (fun h => ?_)
            · exact hk188 σ116 _ _ _ Z (lv_sub hl [] rfl) h
            · refine lv_aload_n hx hb dX12_goBest_126 rfl (lv_at hl 0 rfl) ?_
              refine zw_getR F Z zC12 (a := 703) (k := 35) (by decide) zs_703 (by decide) rfl zg_703_35 zq1285 (Or.inl rfl) dX12_goBest_127 ?_
              refine lv_iload_n hx hb dX12_goBest_130 rfl (lv_at hl 1 rfl) ?_
              refine lv_iload hx hb dX12_goBest_131 (lv_at hl 5 rfl) ?_
              obtain ⟨hk133, h⟩ := ck_x h
              refine zw_iast F Z (by decide) zs_717 hk133 dX12_goBest_133 (fun σ133 _ _ eσ133 Z => ?_)
              replace h := lt_w h eσ133
              refine lv_aload_n hx hb dX12_goBest_134 rfl (lv_at hl 0 rfl) ?_
              refine lv_iconst (v := 0) hx hb dX12_goBest_135 (by decide) ?_
              obtain ⟨σ136, hc136, h⟩ := bd_x h
              refine zc_v Z (zr_V F Z (a := 703) (As := [.int 0]) (zcX12_goes l D A0 0 σ133 σ136 hc136) zBX12_goes zq1663 (by decide) zs_703 zC12.1 rfl ⟨⟨rfl, rfl⟩, by dsimp only [zR, RD]; omega, by dsimp only [zR, RD]; omega⟩ hl.1 rfl (Nat.le_of_ble_eq_true rfl) dX12_goBest_136 ⟨Nat.le_of_ble_eq_true rfl, Nat.le_of_ble_eq_true rfl⟩) (fun _ _ Z => ?_)
              refine lv_aload_n hx hb dX12_goBest_139 rfl (lv_at hl 0 rfl) ?_
              refine lv_iload_n hx hb dX12_goBest_140 rfl (lv_at hl 1 rfl) ?_
              refine lv_iload_n hx hb dX12_goBest_141 rfl (lv_at hl 2 rfl) ?_
              refine lv_iconst (v := 1) hx hb dX12_goBest_142 (by decide) ?_
              refine lv_isub hx hb dX12_goBest_143 ?_
              refine lv_bipush (v := 100) hx hb dX12_goBest_144 (by decide) ?_
              refine lv_iload_n hx hb dX12_goBest_146 rfl (lv_at hl 3 rfl) ?_
              refine lv_imul hx hb dX12_goBest_147 ?_
              refine lv_iload hx hb dX12_goBest_148 (lv_at hl 5 rfl) ?_
              refine lv_iadd hx hb dX12_goBest_150 ?_
              obtain ⟨σ151, hc151, h⟩ := bd_x h
              refine zc_v Z (zr_V F Z (a := 703) (As := [.int x1, .int (x2 - 1), .int ((100 * x3) + x5_116)]) (hrec x1 (x2 - 1) ((100 * x3) + x5_116) σ136 σ151 hc151) zBX12_goBest zq1738 (by decide) zs_703 zC12.1 rfl ⟨⟨rfl, rfl⟩, by dsimp only [zR, RD]; omega, by dsimp only [zR, RD]; omega⟩ hl.1 rfl (Nat.le_of_ble_eq_true rfl) dX12_goBest_151 ⟨Nat.le_of_ble_eq_true rfl, Nat.le_of_ble_eq_true rfl⟩) (fun _ _ Z => ?_)
              refine lv_iconst (v := 0) hx hb dX12_goBest_154 (by decide) ?_
              refine lv_istore (lv' := [(6, .int 0), (0, .ref (A0 + 703)), (1, .int x1), (2, .int x2), (3, .int x3), (4, .ref (A0 + q83_s0)), (5, .int x5_116)]) hx hb dX12_goBest_155 hl (by decide) rfl (fun ls hl => ?_)
              obtain ⟨k182, ek182, h⟩ := lt_x h
              have hk182 : ∀ (σ182 : Mm) (H : Heap) (locs : List Loc) (ls : Array Slot), zh D A0 σ182 GF 740 s.heap H locs → lv_has ls 7 [(0, .ref (A0 + 703)), (1, .int x1), (2, .int x2), (3, .int x3), (4, .ref (A0 + q83_s0)), (5, .int x5_116)] → k182 σ182 = some σr → W p l e (zR (10 * (dd + 1) + 700) (400 * (dd + 1) + 24000)) s m [.ref (A0 + 703), .int x1, .int x2, .int x3].toArray below meth c H locs 0 0 (MQ below (zQv D A0 σr GF 740) [.ref (A0 + 703), .int x1, .int x2, .int x3].toArray s 0 0 (zA A0)) (F0 m 182 ls []) := by
                intro  σ182 H locs ls Z hl h
                rw [ek182] at h
                try dsimp only at h
                obtain ⟨x5_182, ex5_182⟩ : ∃ y : Int32, y = x5_116 + 1 := ⟨_, rfl⟩
                replace h := lt_w h ex5_182
                refine lv_iinc (v := x5_182) (lv' := [(5, .int x5_182), (0, .ref (A0 + 703)), (1, .int x1), (2, .int x2), (3, .int x3), (4, .ref (A0 + q83_s0))]) hx hb dX12_goBest_182 hl (k := 5) rfl (by rw [ex5_182]; rfl) (by decide) rfl (fun ls hl => ?_)
                refine lv_goto (tgt := 116) hx hb dX12_goBest_185 (by decide) ?_
                exact ih116 x5_182 σ182 _ _ _ Z (lv_sub hl [1, 2, 3, 4, 5, 0] rfl) h
              have hL157 : ∀ (fu157 : Nat) (x6_157 : Int32) (σ157 : Mm) (H : Heap) (locs : List Loc) (ls : Array Slot), zh D A0 σ157 GF 740 s.heap H locs → lv_has ls 7 [(0, .ref (A0 + 703)), (1, .int x1), (2, .int x2), (3, .int x3), (4, .ref (A0 + q83_s0)), (5, .int x5_116), (6, .int x6_157)] → zfX12_goBest_L157 k182 q83_s0 fu157 x6_157 σ157 = some σr → W p l e (zR (10 * (dd + 1) + 700) (400 * (dd + 1) + 24000)) s m [.ref (A0 + 703), .int x1, .int x2, .int x3].toArray below meth c H locs 0 0 (MQ below (zQv D A0 σr GF 740) [.ref (A0 + 703), .int x1, .int x2, .int x3].toArray s 0 0 (zA A0)) (F0 m 157 ls []) := by
                intro fu157
                induction fu157 with
                | zero => intro x6_157 σ157 H locs ls Z hl h; rw [zfX12_goBest_L157] at h; cases h
                | succ fu157 ih157 =>
                  intro x6_157 σ157 H locs ls Z hl h
                  rw [zfX12_goBest_L157] at h
                  refine lv_iload hx hb dX12_goBest_157 (lv_at hl 6 rfl) ?_
                  refine lv_bipush (v := 57) hx hb dX12_goBest_159 (by decide) ?_
                  refine zb_icge (tgt := 182) hx hb dX12_goBest_161 (by decide) h (fun h => ?_) (fun h => ?_)
                  · exact hk182 σ157 _ _ _ Z (lv_sub hl [0, 1, 2, 3, 4, 5] rfl) h
                  · refine lv_aload_n hx hb dX12_goBest_164 rfl (lv_at hl 0 rfl) ?_
                    refine zw_getR F Z zC12 (a := 703) (k := 29) (by decide) zs_703 (by decide) rfl zg_703_29 zq1279 (Or.inl rfl) dX12_goBest_165 ?_
                    refine lv_iload hx hb dX12_goBest_168 (lv_at hl 6 rfl) ?_
                    refine lv_aload hx hb dX12_goBest_170 (lv_at hl 4 rfl) ?_
                    refine lv_iload hx hb dX12_goBest_172 (lv_at hl 6 rfl) ?_
                    obtain ⟨hp174, h⟩ := ck_x h
                    obtain ⟨hk174, h⟩ := ck_x h
                    refine zw_iald F Z (hp174).2 (zsI hp174) hk174 dX12_goBest_174 ?_
                    obtain ⟨hk175, h⟩ := ck_x h
                    refine zw_iast F Z (by decide) zs_714 hk175 dX12_goBest_175 (fun σ175 _ _ eσ175 Z => ?_)
                    replace h := lt_w h eσ175
                    obtain ⟨x6_176, ex6_176⟩ : ∃ y : Int32, y = x6_157 + 1 := ⟨_, rfl⟩
                    replace h := lt_w h ex6_176
                    refine lv_iinc (v := x6_176) (lv' := [(6, .int x6_176), (0, .ref (A0 + 703)), (1, .int x1), (2, .int x2), (3, .int x3), (4, .ref (A0 + q83_s0)), (5, .int x5_116)]) hx hb dX12_goBest_176 hl (k := 6) rfl (by rw [ex6_176]; rfl) (by decide) rfl (fun ls hl => ?_)
                    refine lv_goto (tgt := 157) hx hb dX12_goBest_179 (by decide) ?_
                    exact ih157 x6_176 σ175 _ _ _ Z (lv_sub hl [1, 2, 3, 4, 5, 6, 0] rfl) h
              exact hL157 NF 0 σ151 _ _ _ Z (lv_sub hl [1, 2, 3, 4, 5, 6, 0] rfl) h
        exact hL116 NF 0 σ113 _ _ _ Z (lv_sub hl [1, 2, 3, 4, 5, 0] rfl) h
      have hL88 : ∀ (fu88 : Nat) (x5_88 : Int32) (σ88 : Mm) (H : Heap) (locs : List Loc) (ls : Array Slot), zh D A0 σ88 GF 740 s.heap H locs → lv_has ls 7 [(0, .ref (A0 + 703)), (1, .int x1), (2, .int x2), (3, .int x3), (4, .ref (A0 + q83_s0)), (5, .int x5_88)] → zfX12_goBest_L88 k113 q83_s0 fu88 x5_88 σ88 = some σr → W p l e (zR (10 * (dd + 1) + 700) (400 * (dd + 1) + 24000)) s m [.ref (A0 + 703), .int x1, .int x2, .int x3].toArray below meth c H locs 0 0 (MQ below (zQv D A0 σr GF 740) [.ref (A0 + 703), .int x1, .int x2, .int x3].toArray s 0 0 (zA A0)) (F0 m 88 ls []) := by
        intro fu88
        induction fu88 with
        | zero => intro x5_88 σ88 H locs ls Z hl h; rw [zfX12_goBest_L88] at h; cases h
        | succ fu88 ih88 =>
          intro x5_88 σ88 H locs ls Z hl h
          rw [zfX12_goBest_L88] at h
          refine lv_iload hx hb dX12_goBest_88 (lv_at hl 5 rfl) ?_
          refine lv_bipush (v := 57) hx hb dX12_goBest_90 (by decide) ?_
          refine zb_icge (tgt := 113) hx hb dX12_goBest_92 (by decide) h (fun h => ?_) (fun h => ?_)
          · exact hk113 σ88 _ _ _ Z (lv_sub hl [0, 1, 2, 3, 4] rfl) h
          · refine lv_aload hx hb dX12_goBest_95 (lv_at hl 4 rfl) ?_
            refine lv_iload hx hb dX12_goBest_97 (lv_at hl 5 rfl) ?_
            refine lv_aload_n hx hb dX12_goBest_99 rfl (lv_at hl 0 rfl) ?_
            refine zw_getR F Z zC12 (a := 703) (k := 29) (by decide) zs_703 (by decide) rfl zg_703_29 zq1279 (Or.inl rfl) dX12_goBest_100 ?_
            refine lv_iload hx hb dX12_goBest_103 (lv_at hl 5 rfl) ?_
            obtain ⟨hk105, h⟩ := ck_x h
            refine zw_iald F Z (by decide) zs_714 hk105 dX12_goBest_105 ?_
            obtain ⟨hp106, h⟩ := ck_x h
            obtain ⟨hk106, h⟩ := ck_x h
            refine zw_iast F Z (hp106).2 (zsI hp106) hk106 dX12_goBest_106 (fun σ106 _ _ eσ106 Z => ?_)
            replace h := lt_w h eσ106
            obtain ⟨x5_107, ex5_107⟩ : ∃ y : Int32, y = x5_88 + 1 := ⟨_, rfl⟩
            replace h := lt_w h ex5_107
            refine lv_iinc (v := x5_107) (lv' := [(5, .int x5_107), (0, .ref (A0 + 703)), (1, .int x1), (2, .int x2), (3, .int x3), (4, .ref (A0 + q83_s0))]) hx hb dX12_goBest_107 hl (k := 5) rfl (by rw [ex5_107]; rfl) (by decide) rfl (fun ls hl => ?_)
            refine lv_goto (tgt := 88) hx hb dX12_goBest_110 (by decide) ?_
            exact ih88 x5_107 σ106 _ _ _ Z (lv_sub hl [1, 2, 3, 4, 5, 0] rfl) h
      exact hL88 NF 0 σ83 _ _ _ Z (lv_sub hl [2, 3, 4, 5, 1, 0] rfl) h
    refine zb_icne (tgt := 67) hx hb dX12_goBest_57 (by decide) h (fun h => ?_) (fun h => ?_)
    · refine lv_iload_n hx hb dX12_goBest_67 rfl (lv_at hl 2 rfl) ?_
      refine lv_iconst (v := 2) hx hb dX12_goBest_68 (by decide) ?_
      refine zb_icne (tgt := 79) hx hb dX12_goBest_69 (by decide) h (fun h => ?_) (fun h => ?_)
      · refine lv_aload_n hx hb dX12_goBest_79 rfl (lv_at hl 0 rfl) ?_
        refine zw_getR F Z zC12 (a := 703) (k := 56) (by decide) zs_703 (by decide) rfl zg_703_56 zq1306 (Or.inl rfl) dX12_goBest_80 ?_
        exact hj83 730 σ _ _ _ Z (lv_sub hl [0, 1, 2, 3] rfl) h
      · refine lv_aload_n hx hb dX12_goBest_72 rfl (lv_at hl 0 rfl) ?_
        refine zw_getR F Z zC12 (a := 703) (k := 55) (by decide) zs_703 (by decide) rfl zg_703_55 zq1305 (Or.inl rfl) dX12_goBest_73 ?_
        refine lv_goto (tgt := 83) hx hb dX12_goBest_76 (by decide) ?_
        exact hj83 729 σ _ _ _ Z (lv_sub hl [0, 1, 2, 3] rfl) h
    · refine lv_aload_n hx hb dX12_goBest_60 rfl (lv_at hl 0 rfl) ?_
      refine zw_getR F Z zC12 (a := 703) (k := 54) (by decide) zs_703 (by decide) rfl zg_703_54 zq1304 (Or.inl rfl) dX12_goBest_61 ?_
      refine lv_goto (tgt := 83) hx hb dX12_goBest_64 (by decide) ?_
      exact hj83 728 σ _ _ _ Z (lv_sub hl [0, 1, 2, 3] rfl) h
  · refine lv_aload_n hx hb dX12_goBest_4 rfl (lv_at hl 0 rfl) ?_
    refine zw_getR F Z zC12 (a := 703) (k := 29) (by decide) zs_703 (by decide) rfl zg_703_29 zq1279 (Or.inl rfl) dX12_goBest_5 ?_
    refine lv_bipush (v := 12) hx hb dX12_goBest_8 (by decide) ?_
    refine lv_iload_n hx hb dX12_goBest_10 rfl (lv_at hl 1 rfl) ?_
    refine lv_iadd hx hb dX12_goBest_11 ?_
    obtain ⟨hk12, h⟩ := ck_x h
    refine zw_iald F Z (by decide) zs_714 hk12 dX12_goBest_12 ?_
    refine lv_aload_n hx hb dX12_goBest_13 rfl (lv_at hl 0 rfl) ?_
    refine zw_getR F Z zC12 (a := 703) (k := 30) (by decide) zs_703 (by decide) rfl zg_703_30 zq1280 (Or.inl rfl) dX12_goBest_14 ?_
    refine lv_bipush (v := 12) hx hb dX12_goBest_17 (by decide) ?_
    refine lv_iload_n hx hb dX12_goBest_19 rfl (lv_at hl 1 rfl) ?_
    refine lv_iadd hx hb dX12_goBest_20 ?_
    obtain ⟨hk21, h⟩ := ck_x h
    refine zw_iald F Z (by decide) zs_715 hk21 dX12_goBest_21 ?_
    refine lv_isub hx hb dX12_goBest_22 ?_
    refine lv_topi (fun x4_23 ex4_23 => ?_)
    replace h := lt_w h ex4_23
    refine lv_istore (lv' := [(4, .int x4_23), (0, .ref (A0 + 703)), (1, .int x1), (2, .int x2), (3, .int x3)]) hx hb dX12_goBest_23 hl (by decide) rfl (fun ls hl => ?_)
    refine lv_aload_n hx hb dX12_goBest_25 rfl (lv_at hl 1 rfl) ?_
    refine zw_getI F Z zC12 (a := 703) (k := 52) (by decide) zs_703 (by decide) rfl zq1302 (Or.inl rfl) dX12_goBest_26 ?_
    refine lv_iconst (v := (-1)) hx hb dX12_goBest_29 (by decide) ?_
    obtain ⟨j43, ej43, h⟩ := lt_x h
    have hj43 : ∀ (σ43 : Mm) (H : Heap) (locs : List Loc) (ls : Array Slot), zh D A0 σ43 GF 740 s.heap H locs → lv_has ls 7 [(0, .ref (A0 + 703)), (3, .int x3), (4, .int x4_23)] → j43 σ43 = some σr → W p l e (zR (10 * (dd + 1) + 700) (400 * (dd + 1) + 24000)) s m [.ref (A0 + 703), .int x1, .int x2, .int x3].toArray below meth c H locs 0 0 (MQ below (zQv D A0 σr GF 740) [.ref (A0 + 703), .int x1, .int x2, .int x3].toArray s 0 0 (zA A0)) (F0 m 43 ls []) := by
      intro  σ43 H locs ls Z hl h
      rw [ej43] at h
      try dsimp only at h
      refine lv_aload_n hx hb dX12_goBest_43 rfl (lv_at hl 0 rfl) ?_
      refine lv_iload_n hx hb dX12_goBest_44 rfl (lv_at hl 1 rfl) ?_
      refine zw_putI F Z zC12 (a := 703) (k := 52) (by decide) zs_703 (by decide) rfl (by decide) zq1302 (Or.inl rfl) rfl ⟨rfl, rfl⟩ dX12_goBest_45 (fun σ45 _ _ eσ45 Z => ?_)
      replace h := lt_w h eσ45
      refine lv_aload_n hx hb dX12_goBest_48 rfl (lv_at hl 0 rfl) ?_
      refine lv_iload hx hb dX12_goBest_49 (lv_at hl 2 rfl) ?_
      refine zw_putI F Z zC12 (a := 703) (k := 53) (by decide) zs_703 (by decide) rfl (by decide) zq1303 (Or.inl rfl) rfl ⟨rfl, rfl⟩ dX12_goBest_51 (fun σ51 _ _ eσ51 Z => ?_)
      replace h := lt_w h eσ51
      have hq := Option.some.inj h
      exact ze_v F Z hr hlocks hq dX12_goBest_54
    refine zb_iceq (tgt := 43) hx hb dX12_goBest_30 (by decide) h (fun h => ?_) (fun h => ?_)
    · exact hj43 σ _ _ _ Z (lv_sub hl [1, 4, 0] rfl) h
    · refine lv_iload hx hb dX12_goBest_33 (lv_at hl 0 rfl) ?_
      refine lv_aload_n hx hb dX12_goBest_35 rfl (lv_at hl 1 rfl) ?_
      refine zw_getI F Z zC12 (a := 703) (k := 53) (by decide) zs_703 (by decide) rfl zq1303 (Or.inl rfl) dX12_goBest_36 ?_
      refine zb_icgt (tgt := 43) hx hb dX12_goBest_39 (by decide) h (fun h => ?_) (fun h => ?_)
      · exact hj43 σ _ _ _ Z (lv_sub hl [1, 4, 0] rfl) h
      · have hq := Option.some.inj h
        exact ze_v F Z hr hlocks hq dX12_goBest_42
set_option maxHeartbeats 4000000 in
set_option maxRecDepth 100000 in
theorem zcX12_best (l : Launch) (D : va_G) (A0 : Nat) (x1 : Int32) (x2 : Int32) (x3 : Int32) (σ : Mm) (r0 : Int32) (σr : Mm) (h : zfX12_best x1 x2 x3 σ = some (r0, σr)) : Met l yX12_best (zws yX12_best cX12_best 4 (some .int)) (zR 841 29626) (zPc D A0 σ GF 740 [.ref (A0 + 703), .int x1, .int x2, .int x3]) (zQi D A0 r0 σr GF 740) 0 0 (zA A0) := by
  unfold zfX12_best at h
  refine zmet (own := RX12) (by decide) rfl (Nat.le_of_ble_eq_true rfl) ?_
  intro p e s m below meth c F hr hlocks _ Z ls hl
  have hl : lv_has ls 4 [(0, .ref (A0 + 703)), (1, .int x1), (2, .int x2), (3, .int x3)] := hl
  have hx := F.1.1
  have hb := F.1.2.1
  have hown := F.1.2.2.2.1
  have hts := F.1.2.2.2.2
  refine lv_aload_n hx hb dX12_best_0 rfl (lv_at hl 0 rfl) ?_
  refine lv_iconst (v := 0) hx hb dX12_best_1 (by decide) ?_
  refine zw_putI F Z zC12 (a := 703) (k := 0) (by decide) zs_703 (by decide) rfl (by decide) zq1250 (Or.inl rfl) rfl ⟨rfl, rfl⟩ dX12_best_2 (fun σ2 _ _ eσ2 Z => ?_)
  replace h := lt_w h eσ2
  refine lv_aload_n hx hb dX12_best_5 rfl (lv_at hl 0 rfl) ?_
  refine lv_iload_n hx hb dX12_best_6 rfl (lv_at hl 1 rfl) ?_
  refine zc_i Z (zr_V F Z (a := 703) (As := [.int x1]) (zcX12_isSeller l D A0 x1 σ2 (zfX12_isSeller x1 σ2) rfl) zBX12_isSeller zq1614 (by decide) zs_703 zC12.1 rfl ⟨⟨rfl, rfl⟩, Nat.le_of_ble_eq_true rfl, Nat.le_of_ble_eq_true rfl⟩ hl.1 rfl (Nat.le_of_ble_eq_true rfl) dX12_best_7 ⟨Nat.le_of_ble_eq_true rfl, Nat.le_of_ble_eq_true rfl⟩) (fun _ _ Z => ?_)
  obtain ⟨j35, ej35, h⟩ := lt_x h
  have hj35 : ∀ (σ35 : Mm) (H : Heap) (locs : List Loc) (ls : Array Slot), zh D A0 σ35 GF 740 s.heap H locs → lv_has ls 4 [] → j35 σ35 = some (r0, σr) → W p l e (zR 841 29626) s m [.ref (A0 + 703), .int x1, .int x2, .int x3].toArray below meth c H locs 0 0 (MQ below (zQi D A0 r0 σr GF 740) [.ref (A0 + 703), .int x1, .int x2, .int x3].toArray s 0 0 (zA A0)) (F0 m 35 ls []) := by
    intro  σ35 H locs ls Z hl h
    rw [ej35] at h
    try dsimp only at h
    refine lv_ldcw (v := (-1000000)) hx hb hown (hts _ zq1737) dX12_best_35 ?_
    obtain ⟨hq1, hq2⟩ := zpq h
    exact ze_i F Z hr hlocks hq1 hq2 dX12_best_38
  refine zb_ifeq (tgt := 35) hx hb dX12_best_10 (by decide) h (fun h => ?_) (fun h => ?_)
  · exact hj35 σ2 _ _ _ Z (lv_sub hl [] rfl) h
  · refine lv_iload_n hx hb dX12_best_13 rfl (lv_at hl 2 rfl) ?_
    refine lv_i2l hx hb dX12_best_14 rfl ?_
    refine lv_lconst (v := 1) hx hb dX12_best_15 (by decide) ?_
    refine lv_ldc2 (v := 3) hx hb hown (hts _ zq1623) dX12_best_16 ?_
    refine zc_i Z (zr_S F Z (As := [.long (Int32.toInt64 x2), .long 1, .long 3]) (zcX12_isIn l D A0 (Int32.toInt64 x2) 1 3 σ2 (zfX12_isIn (Int32.toInt64 x2) 1 3) rfl) zBX12_isIn zq1496 rfl ⟨⟨rfl, rfl⟩, Nat.le_of_ble_eq_true rfl, Nat.le_of_ble_eq_true rfl⟩ hl.1 rfl (Nat.le_of_ble_eq_true rfl) dX12_best_19 ⟨Nat.le_of_ble_eq_true rfl, Nat.le_of_ble_eq_true rfl⟩) (fun _ _ Z => ?_)
    refine zb_ifeq (tgt := 35) hx hb dX12_best_22 (by decide) h (fun h => ?_) (fun h => ?_)
    · exact hj35 σ2 _ _ _ Z (lv_sub hl [] rfl) h
    · refine lv_iload_n hx hb dX12_best_25 rfl (lv_at hl 3 rfl) ?_
      refine lv_i2l hx hb dX12_best_26 rfl ?_
      refine lv_lconst (v := 0) hx hb dX12_best_27 (by decide) ?_
      refine lv_lconst (v := 1) hx hb dX12_best_28 (by decide) ?_
      refine zc_i Z (zr_S F Z (As := [.long (Int32.toInt64 x3), .long 0, .long 1]) (zcX12_isIn l D A0 (Int32.toInt64 x3) 0 1 σ2 (zfX12_isIn (Int32.toInt64 x3) 0 1) rfl) zBX12_isIn zq1496 rfl ⟨⟨rfl, rfl⟩, Nat.le_of_ble_eq_true rfl, Nat.le_of_ble_eq_true rfl⟩ hl.1 rfl (Nat.le_of_ble_eq_true rfl) dX12_best_29 ⟨Nat.le_of_ble_eq_true rfl, Nat.le_of_ble_eq_true rfl⟩) (fun _ _ Z => ?_)
      refine zb_ifne (tgt := 39) hx hb dX12_best_32 (by decide) h (fun h => ?_) (fun h => ?_)
      · refine lv_aload_n hx hb dX12_best_39 rfl (lv_at hl 0 rfl) ?_
        obtain ⟨σ40, hc40, h⟩ := bd_x h
        refine zc_v Z (zr_V F Z (a := 703) (As := []) (zcX12_keep l D A0 σ2 σ40 hc40) zBX12_keep zq1701 (by decide) zs_703 zC12.1 rfl ⟨⟨rfl, rfl⟩, Nat.le_of_ble_eq_true rfl, Nat.le_of_ble_eq_true rfl⟩ hl.1 rfl (Nat.le_of_ble_eq_true rfl) dX12_best_40 ⟨Nat.le_of_ble_eq_true rfl, Nat.le_of_ble_eq_true rfl⟩) (fun _ _ Z => ?_)
        refine lv_aload_n hx hb dX12_best_43 rfl (lv_at hl 0 rfl) ?_
        refine lv_dup hx hb dX12_best_44 rfl ?_
        refine zw_getI F Z zC12 (a := 703) (k := 41) (by decide) zs_703 (by decide) rfl zq1291 (Or.inl rfl) dX12_best_45 ?_
        refine lv_iconst (v := 1) hx hb dX12_best_48 (by decide) ?_
        refine lv_iload_n hx hb dX12_best_49 rfl (lv_at hl 1 rfl) ?_
        refine lv_ishl hx hb dX12_best_50 ?_
        refine lv_iconst (v := (-1)) hx hb dX12_best_51 (by decide) ?_
        refine lv_ixor hx hb dX12_best_52 ?_
        refine lv_iand hx hb dX12_best_53 ?_
        refine zw_putI F Z zC12 (a := 703) (k := 41) (by decide) zs_703 (by decide) rfl (by decide) zq1291 (Or.inl rfl) rfl ⟨rfl, rfl⟩ dX12_best_54 (fun σ54 _ _ eσ54 Z => ?_)
        replace h := lt_w h eσ54
        refine lv_aload_n hx hb dX12_best_57 rfl (lv_at hl 0 rfl) ?_
        refine lv_iconst (v := (-1)) hx hb dX12_best_58 (by decide) ?_
        refine zw_putI F Z zC12 (a := 703) (k := 52) (by decide) zs_703 (by decide) rfl (by decide) zq1302 (Or.inl rfl) rfl ⟨rfl, rfl⟩ dX12_best_59 (fun σ59 _ _ eσ59 Z => ?_)
        replace h := lt_w h eσ59
        refine lv_aload_n hx hb dX12_best_62 rfl (lv_at hl 0 rfl) ?_
        refine lv_iload_n hx hb dX12_best_63 rfl (lv_at hl 1 rfl) ?_
        refine lv_iload_n hx hb dX12_best_64 rfl (lv_at hl 2 rfl) ?_
        refine lv_iconst (v := 0) hx hb dX12_best_65 (by decide) ?_
        obtain ⟨σ66, hc66, h⟩ := bd_x h
        refine zc_v Z (zr_V F Z (a := 703) (As := [.int x1, .int x2, .int 0]) (zcX12_goBest l D A0 RD x1 x2 0 σ59 σ66 hc66) zBX12_goBest zq1738 (by decide) zs_703 zC12.1 rfl ⟨⟨rfl, rfl⟩, Nat.le_of_ble_eq_true rfl, Nat.le_of_ble_eq_true rfl⟩ hl.1 rfl (Nat.le_of_ble_eq_true rfl) dX12_best_66 ⟨Nat.le_of_ble_eq_true rfl, Nat.le_of_ble_eq_true rfl⟩) (fun _ _ Z => ?_)
        refine lv_aload_n hx hb dX12_best_69 rfl (lv_at hl 0 rfl) ?_
        obtain ⟨σ70, hc70, h⟩ := bd_x h
        refine zc_v Z (zr_V F Z (a := 703) (As := []) (zcX12_putBack l D A0 σ66 σ70 hc70) zBX12_putBack zq1709 (by decide) zs_703 zC12.1 rfl ⟨⟨rfl, rfl⟩, Nat.le_of_ble_eq_true rfl, Nat.le_of_ble_eq_true rfl⟩ hl.1 rfl (Nat.le_of_ble_eq_true rfl) dX12_best_70 ⟨Nat.le_of_ble_eq_true rfl, Nat.le_of_ble_eq_true rfl⟩) (fun _ _ Z => ?_)
        refine lv_aload_n hx hb dX12_best_73 rfl (lv_at hl 0 rfl) ?_
        obtain ⟨σ74, hc74, h⟩ := bd_x h
        refine zc_v Z (zr_V F Z (a := 703) (As := []) (zcX12_plainly l D A0 σ70 σ74 hc74) zBX12_plainly zq1657 (by decide) zs_703 zC12.1 rfl ⟨⟨rfl, rfl⟩, Nat.le_of_ble_eq_true rfl, Nat.le_of_ble_eq_true rfl⟩ hl.1 rfl (Nat.le_of_ble_eq_true rfl) dX12_best_74 ⟨Nat.le_of_ble_eq_true rfl, Nat.le_of_ble_eq_true rfl⟩) (fun _ _ Z => ?_)
        refine lv_iload_n hx hb dX12_best_77 rfl (lv_at hl 3 rfl) ?_
        refine zb_ifne (tgt := 88) hx hb dX12_best_78 (by decide) h (fun h => ?_) (fun h => ?_)
        · refine lv_aload_n hx hb dX12_best_88 rfl (lv_at hl 0 rfl) ?_
          refine zw_getI F Z zC12 (a := 703) (k := 53) (by decide) zs_703 (by decide) rfl zq1303 (Or.inl rfl) dX12_best_89 ?_
          obtain ⟨hq1, hq2⟩ := zpq h
          exact ze_i F Z hr hlocks hq1 hq2 dX12_best_92
        · refine lv_aload_n hx hb dX12_best_81 rfl (lv_at hl 0 rfl) ?_
          refine zw_getI F Z zC12 (a := 703) (k := 52) (by decide) zs_703 (by decide) rfl zq1302 (Or.inl rfl) dX12_best_82 ?_
          refine lv_goto (tgt := 92) hx hb dX12_best_85 (by decide) ?_
          obtain ⟨hq1, hq2⟩ := zpq h
          exact ze_i F Z hr hlocks hq1 hq2 dX12_best_92
      · exact hj35 σ2 _ _ _ Z (lv_sub hl [] rfl) h
set_option maxHeartbeats 4000000 in
set_option maxRecDepth 100000 in
theorem zcX12_takenBy (l : Launch) (D : va_G) (A0 : Nat) (x1 : Int32) (σ : Mm) (r0 : Int32) (σr : Mm) (h : zfX12_takenBy x1 σ = some (r0, σr)) : Met l yX12_takenBy (zws yX12_takenBy cX12_takenBy 3 (some .int)) (zR 399 14918) (zPc D A0 σ GF 740 [.ref (A0 + 703), .int x1]) (zQi D A0 r0 σr GF 740) 0 0 (zA A0) := by
  unfold zfX12_takenBy at h
  refine zmet (own := RX12) (by decide) rfl (Nat.le_of_ble_eq_true rfl) ?_
  intro p e s m below meth c F hr hlocks _ Z ls hl
  have hl : lv_has ls 3 [(0, .ref (A0 + 703)), (1, .int x1)] := hl
  have hx := F.1.1
  have hb := F.1.2.1
  have hown := F.1.2.2.2.1
  have hts := F.1.2.2.2.2
  refine lv_aload_n hx hb dX12_takenBy_0 rfl (lv_at hl 0 rfl) ?_
  refine lv_iconst (v := 0) hx hb dX12_takenBy_1 (by decide) ?_
  obtain ⟨σ2, hc2, h⟩ := bd_x h
  refine zc_v Z (zr_V F Z (a := 703) (As := [.int 0]) (zcX12_goes l D A0 0 σ σ2 hc2) zBX12_goes zq1663 (by decide) zs_703 zC12.1 rfl ⟨⟨rfl, rfl⟩, Nat.le_of_ble_eq_true rfl, Nat.le_of_ble_eq_true rfl⟩ hl.1 rfl (Nat.le_of_ble_eq_true rfl) dX12_takenBy_2 ⟨Nat.le_of_ble_eq_true rfl, Nat.le_of_ble_eq_true rfl⟩) (fun _ _ Z => ?_)
  refine lv_aload_n hx hb dX12_takenBy_5 rfl (lv_at hl 0 rfl) ?_
  refine zw_getR F Z zC12 (a := 703) (k := 37) (by decide) zs_703 (by decide) rfl zg_703_37 zq1287 (Or.inl rfl) dX12_takenBy_6 ?_
  refine lv_iload_n hx hb dX12_takenBy_9 rfl (lv_at hl 1 rfl) ?_
  obtain ⟨hk10, h⟩ := ck_x h
  refine zw_iald F Z (by decide) zs_719 hk10 dX12_takenBy_10 ?_
  refine lv_topi (fun x2_11 ex2_11 => ?_)
  replace h := lt_w h ex2_11
  refine lv_istore_n (lv' := [(2, .int x2_11), (0, .ref (A0 + 703)), (1, .int x1)]) hx hb dX12_takenBy_11 rfl hl (by decide) rfl (fun ls hl => ?_)
  refine lv_aload_n hx hb dX12_takenBy_12 rfl (lv_at hl 1 rfl) ?_
  obtain ⟨σ13, hc13, h⟩ := bd_x h
  refine zc_v Z (zr_V F Z (a := 703) (As := []) (zcX12_putBack l D A0 σ2 σ13 hc13) zBX12_putBack zq1709 (by decide) zs_703 zC12.1 rfl ⟨⟨rfl, rfl⟩, Nat.le_of_ble_eq_true rfl, Nat.le_of_ble_eq_true rfl⟩ hl.1 rfl (Nat.le_of_ble_eq_true rfl) dX12_takenBy_13 ⟨Nat.le_of_ble_eq_true rfl, Nat.le_of_ble_eq_true rfl⟩) (fun _ _ Z => ?_)
  refine lv_iload_n hx hb dX12_takenBy_16 rfl (lv_at hl 0 rfl) ?_
  obtain ⟨hq1, hq2⟩ := zpq h
  exact ze_i F Z hr hlocks hq1 hq2 dX12_takenBy_17
set_option maxHeartbeats 4000000 in
set_option maxRecDepth 100000 in
theorem zcX12_isRest (l : Launch) (D : va_G) (A0 : Nat) (σ : Mm) (r0 : Int32) (σr : Mm) (h : zfX12_isRest σ = some (r0, σr)) : Met l yX12_isRest (zws yX12_isRest cX12_isRest 6 (some .boolean)) (zR 400 14940) (zPc D A0 σ GF 740 [.ref (A0 + 703)]) (zQi D A0 r0 σr GF 740) 0 0 (zA A0) := by
  unfold zfX12_isRest at h
  refine zmet (own := RX12) (by decide) rfl (Nat.le_of_ble_eq_true rfl) ?_
  intro p e s m below meth c F hr hlocks _ Z ls hl
  have hl : lv_has ls 6 [(0, .ref (A0 + 703))] := hl
  have hx := F.1.1
  have hb := F.1.2.1
  have hown := F.1.2.2.2.1
  have hts := F.1.2.2.2.2
  refine lv_iconst (v := 0) hx hb dX12_isRest_0 (by decide) ?_
  refine lv_istore_n (lv' := [(1, .int 0), (0, .ref (A0 + 703))]) hx hb dX12_isRest_1 rfl hl (by decide) rfl (fun ls hl => ?_)
  obtain ⟨k102, ek102, h⟩ := lt_x h
  have hk102 : ∀ (σ102 : Mm) (H : Heap) (locs : List Loc) (ls : Array Slot), zh D A0 σ102 GF 740 s.heap H locs → lv_has ls 6 [] → k102 σ102 = some (r0, σr) → W p l e (zR 400 14940) s m [.ref (A0 + 703)].toArray below meth c H locs 0 0 (MQ below (zQi D A0 r0 σr GF 740) [.ref (A0 + 703)].toArray s 0 0 (zA A0)) (F0 m 102 ls []) := by
    intro  σ102 H locs ls Z hl h
    rw [ek102] at h
    try dsimp only at h
    refine lv_iconst (v := 0) hx hb dX12_isRest_102 (by decide) ?_
    obtain ⟨hq1, hq2⟩ := zpq h
    exact ze_z F Z hr hlocks (by decide) hq1 hq2 dX12_isRest_103
  obtain ⟨k110, ek110, h⟩ := lt_x h
  have hk110 : ∀ (σ110 : Mm) (H : Heap) (locs : List Loc) (ls : Array Slot), zh D A0 σ110 GF 740 s.heap H locs → lv_has ls 6 [] → k110 σ110 = some (r0, σr) → W p l e (zR 400 14940) s m [.ref (A0 + 703)].toArray below meth c H locs 0 0 (MQ below (zQi D A0 r0 σr GF 740) [.ref (A0 + 703)].toArray s 0 0 (zA A0)) (F0 m 110 ls []) := by
    intro  σ110 H locs ls Z hl h
    rw [ek110] at h
    try dsimp only at h
    refine lv_iconst (v := 1) hx hb dX12_isRest_110 (by decide) ?_
    obtain ⟨hq1, hq2⟩ := zpq h
    exact ze_z F Z hr hlocks (by decide) hq1 hq2 dX12_isRest_111
  have hL2 : ∀ (fu2 : Nat) (x1_2 : Int32) (σ2 : Mm) (H : Heap) (locs : List Loc) (ls : Array Slot), zh D A0 σ2 GF 740 s.heap H locs → lv_has ls 6 [(0, .ref (A0 + 703)), (1, .int x1_2)] → zfX12_isRest_L2 k110 k102 fu2 x1_2 σ2 = some (r0, σr) → W p l e (zR 400 14940) s m [.ref (A0 + 703)].toArray below meth c H locs 0 0 (MQ below (zQi D A0 r0 σr GF 740) [.ref (A0 + 703)].toArray s 0 0 (zA A0)) (F0 m 2 ls []) := by
    intro fu2
    induction fu2 with
    | zero => intro x1_2 σ2 H locs ls Z hl h; rw [zfX12_isRest_L2] at h; cases h
    | succ fu2 ih2 =>
      intro x1_2 σ2 H locs ls Z hl h
      rw [zfX12_isRest_L2] at h
      refine lv_iload_n hx hb dX12_isRest_2 rfl (lv_at hl 1 rfl) ?_
      refine lv_aload_n hx hb dX12_isRest_3 rfl (lv_at hl 0 rfl) ?_
      refine zw_getI F Z zC12 (a := 703) (k := 24) (by decide) zs_703 (by decide) rfl zq1274 (Or.inl rfl) dX12_isRest_4 ?_
      refine zb_icge (tgt := 110) hx hb dX12_isRest_7 (by decide) h (fun h => ?_) (fun h => ?_)
      · exact hk110 σ2 _ _ _ Z (lv_sub hl [] rfl) h
      · refine lv_aload_n hx hb dX12_isRest_10 rfl (lv_at hl 0 rfl) ?_
        refine zw_getI F Z zC12 (a := 703) (k := 41) (by decide) zs_703 (by decide) rfl zq1291 (Or.inl rfl) dX12_isRest_11 ?_
        refine lv_iload_n hx hb dX12_isRest_14 rfl (lv_at hl 1 rfl) ?_
        refine zc_i Z (zr_S F Z (As := [.int (σ2 703 41), .int x1_2]) (zcX12_has l D A0 (σ2 703 41) x1_2 σ2 (zfX12_has (σ2 703 41) x1_2) rfl) zBX12_has zq1530 rfl ⟨⟨rfl, rfl⟩, Nat.le_of_ble_eq_true rfl, Nat.le_of_ble_eq_true rfl⟩ hl.1 rfl (Nat.le_of_ble_eq_true rfl) dX12_isRest_15 ⟨Nat.le_of_ble_eq_true rfl, Nat.le_of_ble_eq_true rfl⟩) (fun _ _ Z => ?_)
        obtain ⟨j104, ej104, h⟩ := lt_x h
        have hj104 : ∀ (σ104 : Mm) (H : Heap) (locs : List Loc) (ls : Array Slot), zh D A0 σ104 GF 740 s.heap H locs → lv_has ls 6 [(0, .ref (A0 + 703)), (1, .int x1_2)] → j104 σ104 = some (r0, σr) → W p l e (zR 400 14940) s m [.ref (A0 + 703)].toArray below meth c H locs 0 0 (MQ below (zQi D A0 r0 σr GF 740) [.ref (A0 + 703)].toArray s 0 0 (zA A0)) (F0 m 104 ls []) := by
          intro  σ104 H locs ls Z hl h
          rw [ej104] at h
          try dsimp only at h
          obtain ⟨x1_104, ex1_104⟩ : ∃ y : Int32, y = x1_2 + 1 := ⟨_, rfl⟩
          replace h := lt_w h ex1_104
          refine lv_iinc (v := x1_104) (lv' := [(1, .int x1_104), (0, .ref (A0 + 703))]) hx hb dX12_isRest_104 hl (k := 1) rfl (by rw [ex1_104]; rfl) (by decide) rfl (fun ls hl => ?_)
          refine lv_goto (tgt := 2) hx hb dX12_isRest_107 (by decide) ?_
          exact ih2 x1_104 σ104 _ _ _ Z (lv_sub hl [1, 0] rfl) h
        refine zb_ifeq (tgt := 24) hx hb dX12_isRest_18 (by decide) h (fun h => ?_) (fun h => ?_)
        · refine lv_aload_n hx hb dX12_isRest_24 rfl (lv_at hl 0 rfl) ?_
          refine zw_getR F Z zC12 (a := 703) (k := 35) (by decide) zs_703 (by decide) rfl zg_703_35 zq1285 (Or.inl rfl) dX12_isRest_25 ?_
          refine lv_iload_n hx hb dX12_isRest_28 rfl (lv_at hl 1 rfl) ?_
          obtain ⟨hk29, h⟩ := ck_x h
          refine zw_iald F Z (by decide) zs_717 hk29 dX12_isRest_29 ?_
          refine lv_topi (fun x2_30 ex2_30 => ?_)
          replace h := lt_w h ex2_30
          refine lv_istore_n (lv' := [(2, .int x2_30), (0, .ref (A0 + 703)), (1, .int x1_2)]) hx hb dX12_isRest_30 rfl hl (by decide) rfl (fun ls hl => ?_)
          refine lv_aload_n hx hb dX12_isRest_31 rfl (lv_at hl 1 rfl) ?_
          refine lv_iload_n hx hb dX12_isRest_32 rfl (lv_at hl 2 rfl) ?_
          obtain ⟨r33, σ33, hc33, h⟩ := bd2_x h
          refine zc_i Z (zr_V F Z (a := 703) (As := [.int x1_2]) (zcX12_takenBy l D A0 x1_2 σ2 r33 σ33 hc33) zBX12_takenBy zq1754 (by decide) zs_703 zC12.1 rfl ⟨⟨rfl, rfl⟩, Nat.le_of_ble_eq_true rfl, Nat.le_of_ble_eq_true rfl⟩ hl.1 rfl (Nat.le_of_ble_eq_true rfl) dX12_isRest_33 ⟨Nat.le_of_ble_eq_true rfl, Nat.le_of_ble_eq_true rfl⟩) (fun _ _ Z => ?_)
          refine lv_istore_n (lv' := [(3, .int r33), (2, .int x2_30), (0, .ref (A0 + 703)), (1, .int x1_2)]) hx hb dX12_isRest_36 rfl hl (by decide) rfl (fun ls hl => ?_)
          refine lv_iconst (v := 0) hx hb dX12_isRest_37 (by decide) ?_
          refine lv_istore (lv' := [(4, .int 0), (3, .int r33), (2, .int x2_30), (0, .ref (A0 + 703)), (1, .int x1_2)]) hx hb dX12_isRest_38 hl (by decide) rfl (fun ls hl => ?_)
          refine lv_iconst (v := 0) hx hb dX12_isRest_40 (by decide) ?_
          refine lv_istore (lv' := [(5, .int 0), (4, .int 0), (3, .int r33), (2, .int x2_30), (0, .ref (A0 + 703)), (1, .int x1_2)]) hx hb dX12_isRest_41 hl (by decide) rfl (fun ls hl => ?_)
          obtain ⟨k90, ek90, h⟩ := lt_x h
          have hk90 : ∀ (x4_90 : Int32) (σ90 : Mm) (H : Heap) (locs : List Loc) (ls : Array Slot), zh D A0 σ90 GF 740 s.heap H locs → lv_has ls 6 [(0, .ref (A0 + 703)), (1, .int x1_2), (2, .int x2_30), (4, .int x4_90)] → k90 x4_90 σ90 = some (r0, σr) → W p l e (zR 400 14940) s m [.ref (A0 + 703)].toArray below meth c H locs 0 0 (MQ below (zQi D A0 r0 σr GF 740) [.ref (A0 + 703)].toArray s 0 0 (zA A0)) (F0 m 90 ls []) := by
            intro x4_90 σ90 H locs ls Z hl h
            rw [ek90] at h
            try dsimp only at h
            refine lv_aload_n hx hb dX12_isRest_90 rfl (lv_at hl 0 rfl) ?_
            refine zw_getR F Z zC12 (a := 703) (k := 35) (by decide) zs_703 (by decide) rfl zg_703_35 zq1285 (Or.inl rfl) dX12_isRest_91 ?_
            refine lv_iload_n hx hb dX12_isRest_94 rfl (lv_at hl 1 rfl) ?_
            refine lv_iload_n hx hb dX12_isRest_95 rfl (lv_at hl 2 rfl) ?_
            obtain ⟨hk96, h⟩ := ck_x h
            refine zw_iast F Z (by decide) zs_717 hk96 dX12_isRest_96 (fun σ96 _ _ eσ96 Z => ?_)
            replace h := lt_w h eσ96
            refine lv_iload hx hb dX12_isRest_97 (lv_at hl 3 rfl) ?_
            refine zb_ifeq (tgt := 104) hx hb dX12_isRest_99 (by decide) h (fun h => ?_) (fun h => ?_)
            · exact hj104 σ96 _ _ _ Z (lv_sub hl [0, 1] rfl) h
            · exact hk102 σ96 _ _ _ Z (lv_sub hl [] rfl) h
          have hL43 : ∀ (fu43 : Nat) (x4_43 : Int32) (x5_43 : Int32) (σ43 : Mm) (H : Heap) (locs : List Loc) (ls : Array Slot), zh D A0 σ43 GF 740 s.heap H locs → lv_has ls 6 [(0, .ref (A0 + 703)), (1, .int x1_2), (2, .int x2_30), (3, .int r33), (4, .int x4_43), (5, .int x5_43)] → zfX12_isRest_L43 k90 x1_2 r33 fu43 x4_43 x5_43 σ43 = some (r0, σr) → W p l e (zR 400 14940) s m [.ref (A0 + 703)].toArray below meth c H locs 0 0 (MQ below (zQi D A0 r0 σr GF 740) [.ref (A0 + 703)].toArray s 0 0 (zA A0)) (F0 m 43 ls []) := by
            intro fu43
            induction fu43 with
            | zero => intro x4_43 x5_43 σ43 H locs ls Z hl h; rw [zfX12_isRest_L43] at h; cases h
            | succ fu43 ih43 =>
              intro x4_43 x5_43 σ43 H locs ls Z hl h
              rw [zfX12_isRest_L43] at h
              refine lv_iload hx hb dX12_isRest_43 (lv_at hl 5 rfl) ?_
              refine lv_aload_n hx hb dX12_isRest_45 rfl (lv_at hl 0 rfl) ?_
              refine zw_getR F Z zC12 (a := 703) (k := 30) (by decide) zs_703 (by decide) rfl zg_703_30 zq1280 (Or.inl rfl) dX12_isRest_46 ?_
              refine lv_bipush (v := 54) hx hb dX12_isRest_49 (by decide) ?_
              refine zw_iald F Z (by decide) zs_715 (by decide) dX12_isRest_51 ?_
              refine zb_icgt (tgt := 90) hx hb dX12_isRest_52 (by decide) h (fun h => ?_) (fun h => ?_)
              · exact hk90 x4_43 σ43 _ _ _ Z (lv_sub hl [0, 1, 2, 4] rfl) h
              · refine lv_iload hx hb dX12_isRest_55 (lv_at hl 4 rfl) ?_
                refine zb_ifne (tgt := 90) hx hb dX12_isRest_57 (by decide) h (fun h => ?_) (fun h => ?_)
                · exact hk90 x4_43 σ43 _ _ _ Z (lv_sub hl [0, 1, 2, 4] rfl) h
                · refine lv_aload_n hx hb dX12_isRest_60 rfl (lv_at hl 0 rfl) ?_
                  refine zw_getR F Z zC12 (a := 703) (k := 35) (by decide) zs_703 (by decide) rfl zg_703_35 zq1285 (Or.inl rfl) dX12_isRest_61 ?_
                  refine lv_iload_n hx hb dX12_isRest_64 rfl (lv_at hl 1 rfl) ?_
                  refine lv_iload hx hb dX12_isRest_65 (lv_at hl 5 rfl) ?_
                  obtain ⟨hk67, h⟩ := ck_x h
                  refine zw_iast F Z (by decide) zs_717 hk67 dX12_isRest_67 (fun σ67 _ _ eσ67 Z => ?_)
                  replace h := lt_w h eσ67
                  refine lv_aload_n hx hb dX12_isRest_68 rfl (lv_at hl 0 rfl) ?_
                  refine lv_iload_n hx hb dX12_isRest_69 rfl (lv_at hl 1 rfl) ?_
                  obtain ⟨r70, σ70, hc70, h⟩ := bd2_x h
                  refine zc_i Z (zr_V F Z (a := 703) (As := [.int x1_2]) (zcX12_takenBy l D A0 x1_2 σ67 r70 σ70 hc70) zBX12_takenBy zq1754 (by decide) zs_703 zC12.1 rfl ⟨⟨rfl, rfl⟩, Nat.le_of_ble_eq_true rfl, Nat.le_of_ble_eq_true rfl⟩ hl.1 rfl (Nat.le_of_ble_eq_true rfl) dX12_isRest_70 ⟨Nat.le_of_ble_eq_true rfl, Nat.le_of_ble_eq_true rfl⟩) (fun _ _ Z => ?_)
                  refine lv_iload_n hx hb dX12_isRest_73 rfl (lv_at hl 3 rfl) ?_
                  obtain ⟨j82, ej82, h⟩ := lt_x h
                  have hj82 : ∀ (y0_82 : Int32) (σ82 : Mm) (H : Heap) (locs : List Loc) (ls : Array Slot), zh D A0 σ82 GF 740 s.heap H locs → lv_has ls 6 [(0, .ref (A0 + 703)), (1, .int x1_2), (2, .int x2_30), (3, .int r33), (5, .int x5_43)] → j82 y0_82 σ82 = some (r0, σr) → W p l e (zR 400 14940) s m [.ref (A0 + 703)].toArray below meth c H locs 0 0 (MQ below (zQi D A0 r0 σr GF 740) [.ref (A0 + 703)].toArray s 0 0 (zA A0)) (F0 m 82 ls [.int y0_82]) := by
                    intro y0_82 σ82 H locs ls Z hl h
                    rw [ej82] at h
                    try dsimp only at h
                    refine lv_istore (lv' := [(4, .int y0_82), (0, .ref (A0 + 703)), (1, .int x1_2), (2, .int x2_30), (3, .int r33), (5, .int x5_43)]) hx hb dX12_isRest_82 hl (by decide) rfl (fun ls hl => ?_)
                    obtain ⟨x5_84, ex5_84⟩ : ∃ y : Int32, y = x5_43 + 1 := ⟨_, rfl⟩
                    replace h := lt_w h ex5_84
                    refine lv_iinc (v := x5_84) (lv' := [(5, .int x5_84), (4, .int y0_82), (0, .ref (A0 + 703)), (1, .int x1_2), (2, .int x2_30), (3, .int r33)]) hx hb dX12_isRest_84 hl (k := 5) rfl (by rw [ex5_84]; rfl) (by decide) rfl (fun ls hl => ?_)
                    refine lv_goto (tgt := 43) hx hb dX12_isRest_87 (by decide) ?_
                    exact ih43 y0_82 x5_84 σ82 _ _ _ Z (lv_sub hl [2, 3, 4, 5, 1, 0] rfl) h
                  refine zb_icle (tgt := 81) hx hb dX12_isRest_74 (by decide) h (fun h => ?_) (fun h => ?_)
                  · refine lv_iconst (v := 0) hx hb dX12_isRest_81 (by decide) ?_
                    exact hj82 0 σ70 _ _ _ Z (lv_sub hl [0, 1, 2, 3, 5] rfl) h
                  · refine lv_iconst (v := 1) hx hb dX12_isRest_77 (by decide) ?_
                    refine lv_goto (tgt := 82) hx hb dX12_isRest_78 (by decide) ?_
                    exact hj82 1 σ70 _ _ _ Z (lv_sub hl [0, 1, 2, 3, 5] rfl) h
          exact hL43 NF 0 0 σ33 _ _ _ Z (lv_sub hl [4, 5, 3, 2, 1, 0] rfl) h
        · refine lv_goto (tgt := 104) hx hb dX12_isRest_21 (by decide) ?_
          exact hj104 σ2 _ _ _ Z (lv_sub hl [0, 1] rfl) h
  exact hL2 NF 0 σ _ _ _ Z (lv_sub hl [1, 0] rfl) h
set_option maxHeartbeats 4000000 in
set_option maxRecDepth 100000 in
theorem zcX12_goRests (l : Launch) (D : va_G) (A0 : Nat) : ∀ (dd : Nat) (x1 : Int32) (x2 : Int32) (σ : Mm) (σr : Mm) (h : zfX12_goRests dd x1 x2 σ = some σr), Met l yX12_goRests (zws yX12_goRests cX12_goRests 4 none) (zR (10 * dd + 700) (400 * dd + 24000)) (zPc D A0 σ GF 740 [.ref (A0 + 703), .int x1, .int x2]) (zQv D A0 σr GF 740) 0 0 (zA A0) := by
  intro dd
  induction dd with
  | zero => intro x1 x2 σ σr h; rw [zfX12_goRests] at h; cases h
  | succ dd hrec =>
  intro x1 x2 σ σr h
  rw [zfX12_goRests] at h
  refine zmet (own := RX12) (by decide) rfl (Nat.le_of_ble_eq_true rfl) ?_
  intro p e s m below meth c F hr hlocks _ Z ls hl
  have hl : lv_has ls 4 [(0, .ref (A0 + 703)), (1, .int x1), (2, .int x2)] := hl
  have hx := F.1.1
  have hb := F.1.2.1
  have hown := F.1.2.2.2.1
  have hts := F.1.2.2.2.2
  refine lv_iload_n hx hb dX12_goRests_0 rfl (lv_at hl 1 rfl) ?_
  refine lv_aload_n hx hb dX12_goRests_1 rfl (lv_at hl 0 rfl) ?_
  refine zw_getI F Z zC12 (a := 703) (k := 24) (by decide) zs_703 (by decide) rfl zq1274 (Or.inl rfl) dX12_goRests_2 ?_
  refine zb_icne (tgt := 43) hx hb dX12_goRests_5 (by decide) h (fun h => ?_) (fun h => ?_)
  · refine lv_aload_n hx hb dX12_goRests_43 rfl (lv_at hl 0 rfl) ?_
    refine zw_getI F Z zC12 (a := 703) (k := 41) (by decide) zs_703 (by decide) rfl zq1291 (Or.inl rfl) dX12_goRests_44 ?_
    refine lv_iload_n hx hb dX12_goRests_47 rfl (lv_at hl 1 rfl) ?_
    refine zc_i Z (zr_S F Z (As := [.int (σ 703 41), .int x1]) (zcX12_has l D A0 (σ 703 41) x1 σ (zfX12_has (σ 703 41) x1) rfl) zBX12_has zq1530 rfl ⟨⟨rfl, rfl⟩, by dsimp only [zR, RD]; omega, by dsimp only [zR, RD]; omega⟩ hl.1 rfl (Nat.le_of_ble_eq_true rfl) dX12_goRests_48 ⟨Nat.le_of_ble_eq_true rfl, Nat.le_of_ble_eq_true rfl⟩) (fun _ _ Z => ?_)
    obtain ⟨j65, ej65, h⟩ := lt_x h
    have hj65 : ∀ (y0_65 : Int32) (σ65 : Mm) (H : Heap) (locs : List Loc) (ls : Array Slot), zh D A0 σ65 GF 740 s.heap H locs → lv_has ls 4 [(0, .ref (A0 + 703)), (1, .int x1), (2, .int x2)] → j65 y0_65 σ65 = some σr → W p l e (zR (10 * (dd + 1) + 700) (400 * (dd + 1) + 24000)) s m [.ref (A0 + 703), .int x1, .int x2].toArray below meth c H locs 0 0 (MQ below (zQv D A0 σr GF 740) [.ref (A0 + 703), .int x1, .int x2].toArray s 0 0 (zA A0)) (F0 m 65 ls [.int y0_65]) := by
      intro y0_65 σ65 H locs ls Z hl h
      rw [ej65] at h
      try dsimp only at h
      refine lv_istore_n (lv' := [(3, .int y0_65), (0, .ref (A0 + 703)), (1, .int x1), (2, .int x2)]) hx hb dX12_goRests_65 rfl hl (by decide) rfl (fun ls hl => ?_)
      obtain ⟨k103, ek103, h⟩ := lt_x h
      have hk103 : ∀ (σ103 : Mm) (H : Heap) (locs : List Loc) (ls : Array Slot), zh D A0 σ103 GF 740 s.heap H locs → lv_has ls 4 [] → k103 σ103 = some σr → W p l e (zR (10 * (dd + 1) + 700) (400 * (dd + 1) + 24000)) s m [.ref (A0 + 703), .int x1, .int x2].toArray below meth c H locs 0 0 (MQ below (zQv D A0 σr GF 740) [.ref (A0 + 703), .int x1, .int x2].toArray s 0 0 (zA A0)) (F0 m 103 ls []) := by
        intro  σ103 H locs ls Z hl h
        rw [ek103] at h
        try dsimp only at h
        have hq := Option.some.inj h
        exact ze_v F Z hr hlocks hq dX12_goRests_103
      have hL66 : ∀ (fu66 : Nat) (x3_66 : Int32) (σ66 : Mm) (H : Heap) (locs : List Loc) (ls : Array Slot), zh D A0 σ66 GF 740 s.heap H locs → lv_has ls 4 [(0, .ref (A0 + 703)), (1, .int x1), (2, .int x2), (3, .int x3_66)] → zfX12_goRests_L66 k103 x1 (zfX12_goRests dd) x2 fu66 x3_66 σ66 = some σr → W p l e (zR (10 * (dd + 1) + 700) (400 * (dd + 1) + 24000)) s m [.ref (A0 + 703), .int x1, .int x2].toArray below meth c H locs 0 0 (MQ below (zQv D A0 σr GF 740) [.ref (A0 + 703), .int x1, .int x2].toArray s 0 0 (zA A0)) (F0 m 66 ls []) := by
        intro fu66
        induction fu66 with
        | zero => intro x3_66 σ66 H locs ls Z hl h; rw [zfX12_goRests_L66] at h; cases h
        | succ fu66 ih66 =>
          intro x3_66 σ66 H locs ls Z hl h
          rw [zfX12_goRests_L66] at h
          refine lv_iload_n hx hb dX12_goRests_66 rfl (lv_at hl 3 rfl) ?_
          refine lv_aload_n hx hb dX12_goRests_67 rfl (lv_at hl 0 rfl) ?_
          refine zw_getR F Z zC12 (a := 703) (k := 30) (by decide) zs_703 (by decide) rfl zg_703_30 zq1280 (Or.inl rfl) dX12_goRests_68 ?_
          refine lv_bipush (v := 54) hx hb dX12_goRests_71 (by decide) ?_
          refine zw_iald F Z (by decide) zs_715 (by decide) dX12_goRests_73 ?_
          refine zb_icgt (tgt := 103) hx hb dX12_goRests_74 (by decide) h (fun h => ?_) (fun h => ?_)
          · exact hk103 σ66 _ _ _ Z (lv_sub hl [] rfl) h
          · refine lv_aload_n hx hb dX12_goRests_77 rfl (lv_at hl 0 rfl) ?_
            refine zw_getR F Z zC12 (a := 703) (k := 35) (by decide) zs_703 (by decide) rfl zg_703_35 zq1285 (Or.inl rfl) dX12_goRests_78 ?_
            refine lv_iload_n hx hb dX12_goRests_81 rfl (lv_at hl 1 rfl) ?_
            refine lv_iload_n hx hb dX12_goRests_82 rfl (lv_at hl 3 rfl) ?_
            obtain ⟨hk83, h⟩ := ck_x h
            refine zw_iast F Z (by decide) zs_717 hk83 dX12_goRests_83 (fun σ83 _ _ eσ83 Z => ?_)
            replace h := lt_w h eσ83
            refine lv_aload_n hx hb dX12_goRests_84 rfl (lv_at hl 0 rfl) ?_
            refine lv_iload_n hx hb dX12_goRests_85 rfl (lv_at hl 1 rfl) ?_
            refine lv_iconst (v := 1) hx hb dX12_goRests_86 (by decide) ?_
            refine lv_iadd hx hb dX12_goRests_87 ?_
            refine lv_bipush (v := 100) hx hb dX12_goRests_88 (by decide) ?_
            refine lv_iload_n hx hb dX12_goRests_90 rfl (lv_at hl 2 rfl) ?_
            refine lv_imul hx hb dX12_goRests_91 ?_
            refine lv_iload_n hx hb dX12_goRests_92 rfl (lv_at hl 3 rfl) ?_
            refine lv_iadd hx hb dX12_goRests_93 ?_
            obtain ⟨σ94, hc94, h⟩ := bd_x h
            refine zc_v Z (zr_V F Z (a := 703) (As := [.int (x1 + 1), .int ((100 * x2) + x3_66)]) (hrec (x1 + 1) ((100 * x2) + x3_66) σ83 σ94 hc94) zBX12_goRests zq1746 (by decide) zs_703 zC12.1 rfl ⟨⟨rfl, rfl⟩, by dsimp only [zR, RD]; omega, by dsimp only [zR, RD]; omega⟩ hl.1 rfl (Nat.le_of_ble_eq_true rfl) dX12_goRests_94 ⟨Nat.le_of_ble_eq_true rfl, Nat.le_of_ble_eq_true rfl⟩) (fun _ _ Z => ?_)
            obtain ⟨x3_97, ex3_97⟩ : ∃ y : Int32, y = x3_66 + 1 := ⟨_, rfl⟩
            replace h := lt_w h ex3_97
            refine lv_iinc (v := x3_97) (lv' := [(3, .int x3_97), (0, .ref (A0 + 703)), (1, .int x1), (2, .int x2)]) hx hb dX12_goRests_97 hl (k := 3) rfl (by rw [ex3_97]; rfl) (by decide) rfl (fun ls hl => ?_)
            refine lv_goto (tgt := 66) hx hb dX12_goRests_100 (by decide) ?_
            exact ih66 x3_97 σ94 _ _ _ Z (lv_sub hl [1, 2, 3, 0] rfl) h
      exact hL66 NF y0_65 σ65 _ _ _ Z (lv_sub hl [1, 2, 3, 0] rfl) h
    refine zb_ifeq (tgt := 64) hx hb dX12_goRests_51 (by decide) h (fun h => ?_) (fun h => ?_)
    · refine lv_iconst (v := 0) hx hb dX12_goRests_64 (by decide) ?_
      exact hj65 0 σ _ _ _ Z (lv_sub hl [0, 1, 2] rfl) h
    · refine lv_aload_n hx hb dX12_goRests_54 rfl (lv_at hl 0 rfl) ?_
      refine zw_getR F Z zC12 (a := 703) (k := 30) (by decide) zs_703 (by decide) rfl zg_703_30 zq1280 (Or.inl rfl) dX12_goRests_55 ?_
      refine lv_bipush (v := 54) hx hb dX12_goRests_58 (by decide) ?_
      refine zw_iald F Z (by decide) zs_715 (by decide) dX12_goRests_60 ?_
      refine lv_goto (tgt := 65) hx hb dX12_goRests_61 (by decide) ?_
      exact hj65 (σ 715 (ix 54)) σ _ _ _ Z (lv_sub hl [0, 1, 2] rfl) h
  · refine lv_aload_n hx hb dX12_goRests_8 rfl (lv_at hl 0 rfl) ?_
    obtain ⟨r9, σ9, hc9, h⟩ := bd2_x h
    refine zc_i Z (zr_V F Z (a := 703) (As := []) (zcX12_isRest l D A0 σ r9 σ9 hc9) zBX12_isRest zq1750 (by decide) zs_703 zC12.1 rfl ⟨⟨rfl, rfl⟩, by dsimp only [zR, RD]; omega, by dsimp only [zR, RD]; omega⟩ hl.1 rfl (Nat.le_of_ble_eq_true rfl) dX12_goRests_9 ⟨Nat.le_of_ble_eq_true rfl, Nat.le_of_ble_eq_true rfl⟩) (fun _ _ Z => ?_)
    refine zb_ifne (tgt := 16) hx hb dX12_goRests_12 (by decide) h (fun h => ?_) (fun h => ?_)
    · refine lv_aload_n hx hb dX12_goRests_16 rfl (lv_at hl 0 rfl) ?_
      refine zw_getI F Z zC12 (a := 703) (k := 57) (by decide) zs_703 (by decide) rfl zq1307 (Or.inl rfl) dX12_goRests_17 ?_
      refine lv_aload_n hx hb dX12_goRests_20 rfl (lv_at hl 0 rfl) ?_
      refine zw_getI F Z zC12 (a := 703) (k := 58) (by decide) zs_703 (by decide) rfl zq1308 (Or.inl rfl) dX12_goRests_21 ?_
      obtain ⟨j32, ej32, h⟩ := lt_x h
      have hj32 : ∀ (σ32 : Mm) (H : Heap) (locs : List Loc) (ls : Array Slot), zh D A0 σ32 GF 740 s.heap H locs → lv_has ls 4 [(0, .ref (A0 + 703))] → j32 σ32 = some σr → W p l e (zR (10 * (dd + 1) + 700) (400 * (dd + 1) + 24000)) s m [.ref (A0 + 703), .int x1, .int x2].toArray below meth c H locs 0 0 (MQ below (zQv D A0 σr GF 740) [.ref (A0 + 703), .int x1, .int x2].toArray s 0 0 (zA A0)) (F0 m 32 ls []) := by
        intro  σ32 H locs ls Z hl h
        rw [ej32] at h
        try dsimp only at h
        refine lv_aload_n hx hb dX12_goRests_32 rfl (lv_at hl 0 rfl) ?_
        refine lv_dup hx hb dX12_goRests_33 rfl ?_
        refine zw_getI F Z zC12 (a := 703) (k := 57) (by decide) zs_703 (by decide) rfl zq1307 (Or.inl rfl) dX12_goRests_34 ?_
        refine lv_iconst (v := 1) hx hb dX12_goRests_37 (by decide) ?_
        refine lv_iadd hx hb dX12_goRests_38 ?_
        refine zw_putI F Z zC12 (a := 703) (k := 57) (by decide) zs_703 (by decide) rfl (by decide) zq1307 (Or.inl rfl) rfl ⟨rfl, rfl⟩ dX12_goRests_39 (fun σ39 _ _ eσ39 Z => ?_)
        replace h := lt_w h eσ39
        have hq := Option.some.inj h
        exact ze_v F Z hr hlocks hq dX12_goRests_42
      refine zb_icne (tgt := 32) hx hb dX12_goRests_24 (by decide) h (fun h => ?_) (fun h => ?_)
      · exact hj32 σ9 _ _ _ Z (lv_sub hl [0] rfl) h
      · refine lv_aload_n hx hb dX12_goRests_27 rfl (lv_at hl 0 rfl) ?_
        refine lv_iload_n hx hb dX12_goRests_28 rfl (lv_at hl 2 rfl) ?_
        refine zw_putI F Z zC12 (a := 703) (k := 59) (by decide) zs_703 (by decide) rfl (by decide) zq1309 (Or.inl rfl) rfl ⟨rfl, rfl⟩ dX12_goRests_29 (fun σ29 _ _ eσ29 Z => ?_)
        replace h := lt_w h eσ29
        exact hj32 σ29 _ _ _ Z (lv_sub hl [0] rfl) h
    · have hq := Option.some.inj h
      exact ze_v F Z hr hlocks hq dX12_goRests_15
set_option maxHeartbeats 4000000 in
set_option maxRecDepth 100000 in
theorem zcX12_rest (l : Launch) (D : va_G) (A0 : Nat) (x1 : Int32) (σ : Mm) (r0 : Int32) (σr : Mm) (h : zfX12_rest x1 σ = some (r0, σr)) : Met l yX12_rest (zws yX12_rest cX12_rest 2 (some .int)) (zR 841 29623) (zPc D A0 σ GF 740 [.ref (A0 + 703), .int x1]) (zQi D A0 r0 σr GF 740) 0 0 (zA A0) := by
  unfold zfX12_rest at h
  refine zmet (own := RX12) (by decide) rfl (Nat.le_of_ble_eq_true rfl) ?_
  intro p e s m below meth c F hr hlocks _ Z ls hl
  have hl : lv_has ls 2 [(0, .ref (A0 + 703)), (1, .int x1)] := hl
  have hx := F.1.1
  have hb := F.1.2.1
  have hown := F.1.2.2.2.1
  have hts := F.1.2.2.2.2
  refine lv_aload_n hx hb dX12_rest_0 rfl (lv_at hl 0 rfl) ?_
  refine lv_iconst (v := 0) hx hb dX12_rest_1 (by decide) ?_
  refine zw_putI F Z zC12 (a := 703) (k := 0) (by decide) zs_703 (by decide) rfl (by decide) zq1250 (Or.inl rfl) rfl ⟨rfl, rfl⟩ dX12_rest_2 (fun σ2 _ _ eσ2 Z => ?_)
  replace h := lt_w h eσ2
  refine lv_aload_n hx hb dX12_rest_5 rfl (lv_at hl 0 rfl) ?_
  refine zw_getI F Z zC12 (a := 703) (k := 24) (by decide) zs_703 (by decide) rfl zq1274 (Or.inl rfl) dX12_rest_6 ?_
  obtain ⟨j20, ej20, h⟩ := lt_x h
  have hj20 : ∀ (σ20 : Mm) (H : Heap) (locs : List Loc) (ls : Array Slot), zh D A0 σ20 GF 740 s.heap H locs → lv_has ls 2 [] → j20 σ20 = some (r0, σr) → W p l e (zR 841 29623) s m [.ref (A0 + 703), .int x1].toArray below meth c H locs 0 0 (MQ below (zQi D A0 r0 σr GF 740) [.ref (A0 + 703), .int x1].toArray s 0 0 (zA A0)) (F0 m 20 ls []) := by
    intro  σ20 H locs ls Z hl h
    rw [ej20] at h
    try dsimp only at h
    refine lv_ldcw (v := (-1000000)) hx hb hown (hts _ zq1737) dX12_rest_20 ?_
    obtain ⟨hq1, hq2⟩ := zpq h
    exact ze_i F Z hr hlocks hq1 hq2 dX12_rest_23
  refine zb_ifeq (tgt := 20) hx hb dX12_rest_9 (by decide) h (fun h => ?_) (fun h => ?_)
  · exact hj20 σ2 _ _ _ Z (lv_sub hl [] rfl) h
  · refine lv_aload_n hx hb dX12_rest_12 rfl (lv_at hl 0 rfl) ?_
    refine zw_getI F Z zC12 (a := 703) (k := 24) (by decide) zs_703 (by decide) rfl zq1274 (Or.inl rfl) dX12_rest_13 ?_
    refine lv_iconst (v := 3) hx hb dX12_rest_16 (by decide) ?_
    refine zb_icle (tgt := 24) hx hb dX12_rest_17 (by decide) h (fun h => ?_) (fun h => ?_)
    · refine lv_iload_n hx hb dX12_rest_24 rfl (lv_at hl 1 rfl) ?_
      refine lv_iconst (v := (-1)) hx hb dX12_rest_25 (by decide) ?_
      refine zb_icge (tgt := 31) hx hb dX12_rest_26 (by decide) h (fun h => ?_) (fun h => ?_)
      · refine lv_aload_n hx hb dX12_rest_31 rfl (lv_at hl 0 rfl) ?_
        obtain ⟨σ32, hc32, h⟩ := bd_x h
        refine zc_v Z (zr_V F Z (a := 703) (As := []) (zcX12_keep l D A0 σ2 σ32 hc32) zBX12_keep zq1701 (by decide) zs_703 zC12.1 rfl ⟨⟨rfl, rfl⟩, Nat.le_of_ble_eq_true rfl, Nat.le_of_ble_eq_true rfl⟩ hl.1 rfl (Nat.le_of_ble_eq_true rfl) dX12_rest_32 ⟨Nat.le_of_ble_eq_true rfl, Nat.le_of_ble_eq_true rfl⟩) (fun _ _ Z => ?_)
        refine lv_aload_n hx hb dX12_rest_35 rfl (lv_at hl 0 rfl) ?_
        refine lv_iconst (v := 0) hx hb dX12_rest_36 (by decide) ?_
        refine zw_putI F Z zC12 (a := 703) (k := 57) (by decide) zs_703 (by decide) rfl (by decide) zq1307 (Or.inl rfl) rfl ⟨rfl, rfl⟩ dX12_rest_37 (fun σ37 _ _ eσ37 Z => ?_)
        replace h := lt_w h eσ37
        refine lv_aload_n hx hb dX12_rest_40 rfl (lv_at hl 0 rfl) ?_
        refine lv_iload_n hx hb dX12_rest_41 rfl (lv_at hl 1 rfl) ?_
        refine zw_putI F Z zC12 (a := 703) (k := 58) (by decide) zs_703 (by decide) rfl (by decide) zq1308 (Or.inl rfl) rfl ⟨rfl, rfl⟩ dX12_rest_42 (fun σ42 _ _ eσ42 Z => ?_)
        replace h := lt_w h eσ42
        refine lv_aload_n hx hb dX12_rest_45 rfl (lv_at hl 0 rfl) ?_
        refine lv_iconst (v := (-1)) hx hb dX12_rest_46 (by decide) ?_
        refine zw_putI F Z zC12 (a := 703) (k := 59) (by decide) zs_703 (by decide) rfl (by decide) zq1309 (Or.inl rfl) rfl ⟨rfl, rfl⟩ dX12_rest_47 (fun σ47 _ _ eσ47 Z => ?_)
        replace h := lt_w h eσ47
        refine lv_aload_n hx hb dX12_rest_50 rfl (lv_at hl 0 rfl) ?_
        refine lv_iconst (v := 0) hx hb dX12_rest_51 (by decide) ?_
        refine lv_iconst (v := 0) hx hb dX12_rest_52 (by decide) ?_
        obtain ⟨σ53, hc53, h⟩ := bd_x h
        refine zc_v Z (zr_V F Z (a := 703) (As := [.int 0, .int 0]) (zcX12_goRests l D A0 RD 0 0 σ47 σ53 hc53) zBX12_goRests zq1746 (by decide) zs_703 zC12.1 rfl ⟨⟨rfl, rfl⟩, Nat.le_of_ble_eq_true rfl, Nat.le_of_ble_eq_true rfl⟩ hl.1 rfl (Nat.le_of_ble_eq_true rfl) dX12_rest_53 ⟨Nat.le_of_ble_eq_true rfl, Nat.le_of_ble_eq_true rfl⟩) (fun _ _ Z => ?_)
        refine lv_aload_n hx hb dX12_rest_56 rfl (lv_at hl 0 rfl) ?_
        obtain ⟨σ57, hc57, h⟩ := bd_x h
        refine zc_v Z (zr_V F Z (a := 703) (As := []) (zcX12_putBack l D A0 σ53 σ57 hc57) zBX12_putBack zq1709 (by decide) zs_703 zC12.1 rfl ⟨⟨rfl, rfl⟩, Nat.le_of_ble_eq_true rfl, Nat.le_of_ble_eq_true rfl⟩ hl.1 rfl (Nat.le_of_ble_eq_true rfl) dX12_rest_57 ⟨Nat.le_of_ble_eq_true rfl, Nat.le_of_ble_eq_true rfl⟩) (fun _ _ Z => ?_)
        refine lv_aload_n hx hb dX12_rest_60 rfl (lv_at hl 0 rfl) ?_
        obtain ⟨σ61, hc61, h⟩ := bd_x h
        refine zc_v Z (zr_V F Z (a := 703) (As := []) (zcX12_plainly l D A0 σ57 σ61 hc61) zBX12_plainly zq1657 (by decide) zs_703 zC12.1 rfl ⟨⟨rfl, rfl⟩, Nat.le_of_ble_eq_true rfl, Nat.le_of_ble_eq_true rfl⟩ hl.1 rfl (Nat.le_of_ble_eq_true rfl) dX12_rest_61 ⟨Nat.le_of_ble_eq_true rfl, Nat.le_of_ble_eq_true rfl⟩) (fun _ _ Z => ?_)
        refine lv_iload_n hx hb dX12_rest_64 rfl (lv_at hl 1 rfl) ?_
        refine lv_iconst (v := (-1)) hx hb dX12_rest_65 (by decide) ?_
        refine zb_icne (tgt := 76) hx hb dX12_rest_66 (by decide) h (fun h => ?_) (fun h => ?_)
        · refine lv_aload_n hx hb dX12_rest_76 rfl (lv_at hl 0 rfl) ?_
          refine zw_getI F Z zC12 (a := 703) (k := 59) (by decide) zs_703 (by decide) rfl zq1309 (Or.inl rfl) dX12_rest_77 ?_
          obtain ⟨hq1, hq2⟩ := zpq h
          exact ze_i F Z hr hlocks hq1 hq2 dX12_rest_80
        · refine lv_aload_n hx hb dX12_rest_69 rfl (lv_at hl 0 rfl) ?_
          refine zw_getI F Z zC12 (a := 703) (k := 57) (by decide) zs_703 (by decide) rfl zq1307 (Or.inl rfl) dX12_rest_70 ?_
          refine lv_goto (tgt := 80) hx hb dX12_rest_73 (by decide) ?_
          obtain ⟨hq1, hq2⟩ := zpq h
          exact ze_i F Z hr hlocks hq1 hq2 dX12_rest_80
      · refine lv_iconst (v := (-1)) hx hb dX12_rest_29 (by decide) ?_
        obtain ⟨hq1, hq2⟩ := zpq h
        exact ze_i F Z hr hlocks hq1 hq2 dX12_rest_30
    · exact hj20 σ2 _ _ _ Z (lv_sub hl [] rfl) h
set_option maxHeartbeats 4000000 in
set_option maxRecDepth 100000 in
theorem zcX12_gainsBy (l : Launch) (D : va_G) (A0 : Nat) (x1 : Int32) (x2 : Int32) (x3 : Int32) (x4 : Int32) (σ : Mm) (r0 : Int32) (σr : Mm) (h : zfX12_gainsBy x1 x2 x3 x4 σ = some (r0, σr)) : Met l yX12_gainsBy (zws yX12_gainsBy cX12_gainsBy 7 (some .int)) (zR 400 14940) (zPc D A0 σ GF 740 [.ref (A0 + 703), .int x1, .int x2, .int x3, .int x4]) (zQi D A0 r0 σr GF 740) 0 0 (zA A0) := by
  unfold zfX12_gainsBy at h
  refine zmet (own := RX12) (by decide) rfl (Nat.le_of_ble_eq_true rfl) ?_
  intro p e s m below meth c F hr hlocks _ Z ls hl
  have hl : lv_has ls 7 [(0, .ref (A0 + 703)), (1, .int x1), (2, .int x2), (3, .int x3), (4, .int x4)] := hl
  have hx := F.1.1
  have hb := F.1.2.1
  have hown := F.1.2.2.2.1
  have hts := F.1.2.2.2.2
  refine lv_aload_n hx hb dX12_gainsBy_0 rfl (lv_at hl 0 rfl) ?_
  obtain ⟨σ1, hc1, h⟩ := bd_x h
  refine zc_v Z (zr_V F Z (a := 703) (As := []) (zcX12_putBack l D A0 σ σ1 hc1) zBX12_putBack zq1709 (by decide) zs_703 zC12.1 rfl ⟨⟨rfl, rfl⟩, Nat.le_of_ble_eq_true rfl, Nat.le_of_ble_eq_true rfl⟩ hl.1 rfl (Nat.le_of_ble_eq_true rfl) dX12_gainsBy_1 ⟨Nat.le_of_ble_eq_true rfl, Nat.le_of_ble_eq_true rfl⟩) (fun _ _ Z => ?_)
  refine lv_aload_n hx hb dX12_gainsBy_4 rfl (lv_at hl 0 rfl) ?_
  refine lv_iload_n hx hb dX12_gainsBy_5 rfl (lv_at hl 1 rfl) ?_
  refine zw_putI F Z zC12 (a := 703) (k := 41) (by decide) zs_703 (by decide) rfl (by decide) zq1291 (Or.inl rfl) rfl ⟨rfl, rfl⟩ dX12_gainsBy_6 (fun σ6 _ _ eσ6 Z => ?_)
  replace h := lt_w h eσ6
  refine lv_aload_n hx hb dX12_gainsBy_9 rfl (lv_at hl 0 rfl) ?_
  refine lv_iload_n hx hb dX12_gainsBy_10 rfl (lv_at hl 2 rfl) ?_
  obtain ⟨σ11, hc11, h⟩ := bd_x h
  refine zc_v Z (zr_V F Z (a := 703) (As := [.int x2]) (zcX12_tries l D A0 x2 σ6 σ11 hc11) zBX12_tries zq1705 (by decide) zs_703 zC12.1 rfl ⟨⟨rfl, rfl⟩, Nat.le_of_ble_eq_true rfl, Nat.le_of_ble_eq_true rfl⟩ hl.1 rfl (Nat.le_of_ble_eq_true rfl) dX12_gainsBy_11 ⟨Nat.le_of_ble_eq_true rfl, Nat.le_of_ble_eq_true rfl⟩) (fun _ _ Z => ?_)
  refine lv_iconst (v := 0) hx hb dX12_gainsBy_14 (by decide) ?_
  refine lv_istore (lv' := [(5, .int 0), (0, .ref (A0 + 703)), (1, .int x1), (2, .int x2), (3, .int x3), (4, .int x4)]) hx hb dX12_gainsBy_15 hl (by decide) rfl (fun ls hl => ?_)
  refine lv_iconst (v := 0) hx hb dX12_gainsBy_17 (by decide) ?_
  refine lv_istore (lv' := [(6, .int 0), (5, .int 0), (0, .ref (A0 + 703)), (1, .int x1), (2, .int x2), (3, .int x3), (4, .int x4)]) hx hb dX12_gainsBy_18 hl (by decide) rfl (fun ls hl => ?_)
  obtain ⟨k70, ek70, h⟩ := lt_x h
  have hk70 : ∀ (x5_70 : Int32) (σ70 : Mm) (H : Heap) (locs : List Loc) (ls : Array Slot), zh D A0 σ70 GF 740 s.heap H locs → lv_has ls 7 [(0, .ref (A0 + 703)), (5, .int x5_70)] → k70 x5_70 σ70 = some (r0, σr) → W p l e (zR 400 14940) s m [.ref (A0 + 703), .int x1, .int x2, .int x3, .int x4].toArray below meth c H locs 0 0 (MQ below (zQi D A0 r0 σr GF 740) [.ref (A0 + 703), .int x1, .int x2, .int x3, .int x4].toArray s 0 0 (zA A0)) (F0 m 70 ls []) := by
    intro x5_70 σ70 H locs ls Z hl h
    rw [ek70] at h
    try dsimp only at h
    refine lv_aload_n hx hb dX12_gainsBy_70 rfl (lv_at hl 0 rfl) ?_
    obtain ⟨σ71, hc71, h⟩ := bd_x h
    refine zc_v Z (zr_V F Z (a := 703) (As := []) (zcX12_putBack l D A0 σ70 σ71 hc71) zBX12_putBack zq1709 (by decide) zs_703 zC12.1 rfl ⟨⟨rfl, rfl⟩, Nat.le_of_ble_eq_true rfl, Nat.le_of_ble_eq_true rfl⟩ hl.1 rfl (Nat.le_of_ble_eq_true rfl) dX12_gainsBy_71 ⟨Nat.le_of_ble_eq_true rfl, Nat.le_of_ble_eq_true rfl⟩) (fun _ _ Z => ?_)
    refine lv_iload hx hb dX12_gainsBy_74 (lv_at hl 1 rfl) ?_
    obtain ⟨hq1, hq2⟩ := zpq h
    exact ze_i F Z hr hlocks hq1 hq2 dX12_gainsBy_76
  have hL20 : ∀ (fu20 : Nat) (x5_20 : Int32) (x6_20 : Int32) (σ20 : Mm) (H : Heap) (locs : List Loc) (ls : Array Slot), zh D A0 σ20 GF 740 s.heap H locs → lv_has ls 7 [(0, .ref (A0 + 703)), (3, .int x3), (4, .int x4), (5, .int x5_20), (6, .int x6_20)] → zfX12_gainsBy_L20 k70 x4 x3 fu20 x5_20 x6_20 σ20 = some (r0, σr) → W p l e (zR 400 14940) s m [.ref (A0 + 703), .int x1, .int x2, .int x3, .int x4].toArray below meth c H locs 0 0 (MQ below (zQi D A0 r0 σr GF 740) [.ref (A0 + 703), .int x1, .int x2, .int x3, .int x4].toArray s 0 0 (zA A0)) (F0 m 20 ls []) := by
    intro fu20
    induction fu20 with
    | zero => intro x5_20 x6_20 σ20 H locs ls Z hl h; rw [zfX12_gainsBy_L20] at h; cases h
    | succ fu20 ih20 =>
      intro x5_20 x6_20 σ20 H locs ls Z hl h
      rw [zfX12_gainsBy_L20] at h
      refine lv_iload hx hb dX12_gainsBy_20 (lv_at hl 4 rfl) ?_
      refine lv_aload_n hx hb dX12_gainsBy_22 rfl (lv_at hl 0 rfl) ?_
      refine zw_getI F Z zC12 (a := 703) (k := 24) (by decide) zs_703 (by decide) rfl zq1274 (Or.inl rfl) dX12_gainsBy_23 ?_
      refine zb_icge (tgt := 70) hx hb dX12_gainsBy_26 (by decide) h (fun h => ?_) (fun h => ?_)
      · exact hk70 x5_20 σ20 _ _ _ Z (lv_sub hl [0, 3] rfl) h
      · refine lv_iload hx hb dX12_gainsBy_29 (lv_at hl 3 rfl) ?_
        refine lv_iload hx hb dX12_gainsBy_31 (lv_at hl 4 rfl) ?_
        refine lv_iload_n hx hb dX12_gainsBy_33 rfl (lv_at hl 1 rfl) ?_
        obtain ⟨j42, ej42, h⟩ := lt_x h
        have hj42 : ∀ (y0_42 : Int32) (σ42 : Mm) (H : Heap) (locs : List Loc) (ls : Array Slot), zh D A0 σ42 GF 740 s.heap H locs → lv_has ls 7 [(0, .ref (A0 + 703)), (3, .int x3), (4, .int x4), (6, .int x6_20)] → j42 y0_42 σ42 = some (r0, σr) → W p l e (zR 400 14940) s m [.ref (A0 + 703), .int x1, .int x2, .int x3, .int x4].toArray below meth c H locs 0 0 (MQ below (zQi D A0 r0 σr GF 740) [.ref (A0 + 703), .int x1, .int x2, .int x3, .int x4].toArray s 0 0 (zA A0)) (F0 m 42 ls [.int y0_42, .int x5_20]) := by
          intro y0_42 σ42 H locs ls Z hl h
          rw [ej42] at h
          try dsimp only at h
          refine lv_iload hx hb dX12_gainsBy_42 (lv_at hl 2 rfl) ?_
          obtain ⟨j61, ej61, h⟩ := lt_x h
          have hj61 : ∀ (y0_61 : Int32) (σ61 : Mm) (H : Heap) (locs : List Loc) (ls : Array Slot), zh D A0 σ61 GF 740 s.heap H locs → lv_has ls 7 [(0, .ref (A0 + 703)), (3, .int x3), (4, .int x4), (6, .int x6_20)] → j61 y0_61 σ61 = some (r0, σr) → W p l e (zR 400 14940) s m [.ref (A0 + 703), .int x1, .int x2, .int x3, .int x4].toArray below meth c H locs 0 0 (MQ below (zQi D A0 r0 σr GF 740) [.ref (A0 + 703), .int x1, .int x2, .int x3, .int x4].toArray s 0 0 (zA A0)) (F0 m 61 ls [.int y0_61, .int x5_20]) := by
            intro y0_61 σ61 H locs ls Z hl h
            rw [ej61] at h
            try dsimp only at h
            refine lv_iadd hx hb dX12_gainsBy_61 ?_
            refine lv_topi (fun x5_62 ex5_62 => ?_)
            replace h := lt_w h ex5_62
            refine lv_istore (lv' := [(5, .int x5_62), (0, .ref (A0 + 703)), (3, .int x3), (4, .int x4), (6, .int x6_20)]) hx hb dX12_gainsBy_62 hl (by decide) rfl (fun ls hl => ?_)
            obtain ⟨x6_64, ex6_64⟩ : ∃ y : Int32, y = x6_20 + 1 := ⟨_, rfl⟩
            replace h := lt_w h ex6_64
            refine lv_iinc (v := x6_64) (lv' := [(6, .int x6_64), (5, .int x5_62), (0, .ref (A0 + 703)), (3, .int x3), (4, .int x4)]) hx hb dX12_gainsBy_64 hl (k := 4) rfl (by rw [ex6_64]; rfl) (by decide) rfl (fun ls hl => ?_)
            refine lv_goto (tgt := 20) hx hb dX12_gainsBy_67 (by decide) ?_
            exact ih20 x5_62 x6_64 σ61 _ _ _ Z (lv_sub hl [2, 3, 4, 1, 0] rfl) h
          refine zb_iceq (tgt := 60) hx hb dX12_gainsBy_44 (by decide) h (fun h => ?_) (fun h => ?_)
          · refine lv_iconst (v := 0) hx hb dX12_gainsBy_60 (by decide) ?_
            exact hj61 0 σ42 _ _ _ Z (lv_sub hl [0, 1, 2, 3] rfl) h
          · refine lv_aload_n hx hb dX12_gainsBy_47 rfl (lv_at hl 0 rfl) ?_
            refine zw_getR F Z zC12 (a := 703) (k := 29) (by decide) zs_703 (by decide) rfl zg_703_29 zq1279 (Or.inl rfl) dX12_gainsBy_48 ?_
            refine lv_bipush (v := 12) hx hb dX12_gainsBy_51 (by decide) ?_
            refine lv_iload hx hb dX12_gainsBy_53 (lv_at hl 3 rfl) ?_
            refine lv_iadd hx hb dX12_gainsBy_55 ?_
            obtain ⟨hk56, h⟩ := ck_x h
            refine zw_iald F Z (by decide) zs_714 hk56 dX12_gainsBy_56 ?_
            refine lv_goto (tgt := 61) hx hb dX12_gainsBy_57 (by decide) ?_
            exact hj61 (σ42 714 (ix (12 + x6_20))) σ42 _ _ _ Z (lv_sub hl [0, 1, 2, 3] rfl) h
        refine zb_icne (tgt := 41) hx hb dX12_gainsBy_34 (by decide) h (fun h => ?_) (fun h => ?_)
        · refine lv_iconst (v := 0) hx hb dX12_gainsBy_41 (by decide) ?_
          exact hj42 0 σ20 _ _ _ Z (lv_sub hl [0, 1, 2, 4] rfl) h
        · refine lv_iconst (v := 1) hx hb dX12_gainsBy_37 (by decide) ?_
          refine lv_goto (tgt := 42) hx hb dX12_gainsBy_38 (by decide) ?_
          exact hj42 1 σ20 _ _ _ Z (lv_sub hl [0, 1, 2, 4] rfl) h
  exact hL20 NF 0 0 σ11 _ _ _ Z (lv_sub hl [2, 5, 6, 1, 0] rfl) h
set_option maxHeartbeats 4000000 in
set_option maxRecDepth 100000 in
theorem zcX12_fool (l : Launch) (D : va_G) (A0 : Nat) (x1 : Int32) (x2 : Int32) (x3 : Int32) (σ : Mm) (r0 : Int32) (σr : Mm) (h : zfX12_fool x1 x2 x3 σ = some (r0, σr)) : Met l yX12_fool (zws yX12_fool cX12_fool 6 (some .int)) (zR 401 14966) (zPc D A0 σ GF 740 [.ref (A0 + 703), .int x1, .int x2, .int x3]) (zQi D A0 r0 σr GF 740) 0 0 (zA A0) := by
  unfold zfX12_fool at h
  refine zmet (own := RX12) (by decide) rfl (Nat.le_of_ble_eq_true rfl) ?_
  intro p e s m below meth c F hr hlocks _ Z ls hl
  have hl : lv_has ls 6 [(0, .ref (A0 + 703)), (1, .int x1), (2, .int x2), (3, .int x3)] := hl
  have hx := F.1.1
  have hb := F.1.2.1
  have hown := F.1.2.2.2.1
  have hts := F.1.2.2.2.2
  refine lv_aload_n hx hb dX12_fool_0 rfl (lv_at hl 0 rfl) ?_
  refine lv_iconst (v := 0) hx hb dX12_fool_1 (by decide) ?_
  refine zw_putI F Z zC12 (a := 703) (k := 0) (by decide) zs_703 (by decide) rfl (by decide) zq1250 (Or.inl rfl) rfl ⟨rfl, rfl⟩ dX12_fool_2 (fun σ2 _ _ eσ2 Z => ?_)
  replace h := lt_w h eσ2
  refine lv_aload_n hx hb dX12_fool_5 rfl (lv_at hl 0 rfl) ?_
  refine lv_iload_n hx hb dX12_fool_6 rfl (lv_at hl 1 rfl) ?_
  refine zc_i Z (zr_V F Z (a := 703) (As := [.int x1]) (zcX12_isSeller l D A0 x1 σ2 (zfX12_isSeller x1 σ2) rfl) zBX12_isSeller zq1614 (by decide) zs_703 zC12.1 rfl ⟨⟨rfl, rfl⟩, Nat.le_of_ble_eq_true rfl, Nat.le_of_ble_eq_true rfl⟩ hl.1 rfl (Nat.le_of_ble_eq_true rfl) dX12_fool_7 ⟨Nat.le_of_ble_eq_true rfl, Nat.le_of_ble_eq_true rfl⟩) (fun _ _ Z => ?_)
  obtain ⟨j30, ej30, h⟩ := lt_x h
  have hj30 : ∀ (σ30 : Mm) (H : Heap) (locs : List Loc) (ls : Array Slot), zh D A0 σ30 GF 740 s.heap H locs → lv_has ls 6 [] → j30 σ30 = some (r0, σr) → W p l e (zR 401 14966) s m [.ref (A0 + 703), .int x1, .int x2, .int x3].toArray below meth c H locs 0 0 (MQ below (zQi D A0 r0 σr GF 740) [.ref (A0 + 703), .int x1, .int x2, .int x3].toArray s 0 0 (zA A0)) (F0 m 30 ls []) := by
    intro  σ30 H locs ls Z hl h
    rw [ej30] at h
    try dsimp only at h
    refine lv_ldcw (v := (-1000000)) hx hb hown (hts _ zq1737) dX12_fool_30 ?_
    obtain ⟨hq1, hq2⟩ := zpq h
    exact ze_i F Z hr hlocks hq1 hq2 dX12_fool_33
  refine zb_ifeq (tgt := 30) hx hb dX12_fool_10 (by decide) h (fun h => ?_) (fun h => ?_)
  · exact hj30 σ2 _ _ _ Z (lv_sub hl [] rfl) h
  · refine lv_iload_n hx hb dX12_fool_13 rfl (lv_at hl 2 rfl) ?_
    refine zc_i Z (zr_S F Z (As := [.int x2]) (zcX12_areDays l D A0 x2 σ2 (zfX12_areDays x2) rfl) zBX12_areDays zq1653 rfl ⟨⟨rfl, rfl⟩, Nat.le_of_ble_eq_true rfl, Nat.le_of_ble_eq_true rfl⟩ hl.1 rfl (Nat.le_of_ble_eq_true rfl) dX12_fool_14 ⟨Nat.le_of_ble_eq_true rfl, Nat.le_of_ble_eq_true rfl⟩) (fun _ _ Z => ?_)
    refine zb_ifeq (tgt := 30) hx hb dX12_fool_17 (by decide) h (fun h => ?_) (fun h => ?_)
    · exact hj30 σ2 _ _ _ Z (lv_sub hl [] rfl) h
    · refine lv_iload_n hx hb dX12_fool_20 rfl (lv_at hl 3 rfl) ?_
      refine lv_i2l hx hb dX12_fool_21 rfl ?_
      refine lv_lconst (v := 0) hx hb dX12_fool_22 (by decide) ?_
      refine lv_lconst (v := 1) hx hb dX12_fool_23 (by decide) ?_
      refine zc_i Z (zr_S F Z (As := [.long (Int32.toInt64 x3), .long 0, .long 1]) (zcX12_isIn l D A0 (Int32.toInt64 x3) 0 1 σ2 (zfX12_isIn (Int32.toInt64 x3) 0 1) rfl) zBX12_isIn zq1496 rfl ⟨⟨rfl, rfl⟩, Nat.le_of_ble_eq_true rfl, Nat.le_of_ble_eq_true rfl⟩ hl.1 rfl (Nat.le_of_ble_eq_true rfl) dX12_fool_24 ⟨Nat.le_of_ble_eq_true rfl, Nat.le_of_ble_eq_true rfl⟩) (fun _ _ Z => ?_)
      refine zb_ifne (tgt := 34) hx hb dX12_fool_27 (by decide) h (fun h => ?_) (fun h => ?_)
      · refine lv_aload_n hx hb dX12_fool_34 rfl (lv_at hl 0 rfl) ?_
        obtain ⟨σ35, hc35, h⟩ := bd_x h
        refine zc_v Z (zr_V F Z (a := 703) (As := []) (zcX12_keep l D A0 σ2 σ35 hc35) zBX12_keep zq1701 (by decide) zs_703 zC12.1 rfl ⟨⟨rfl, rfl⟩, Nat.le_of_ble_eq_true rfl, Nat.le_of_ble_eq_true rfl⟩ hl.1 rfl (Nat.le_of_ble_eq_true rfl) dX12_fool_35 ⟨Nat.le_of_ble_eq_true rfl, Nat.le_of_ble_eq_true rfl⟩) (fun _ _ Z => ?_)
        refine lv_aload_n hx hb dX12_fool_38 rfl (lv_at hl 0 rfl) ?_
        refine lv_aload_n hx hb dX12_fool_39 rfl (lv_at hl 0 rfl) ?_
        refine zw_getI F Z zC12 (a := 703) (k := 32) (by decide) zs_703 (by decide) rfl zq1282 (Or.inl rfl) dX12_fool_40 ?_
        refine lv_iconst (v := 1) hx hb dX12_fool_43 (by decide) ?_
        refine lv_iload_n hx hb dX12_fool_44 rfl (lv_at hl 1 rfl) ?_
        refine lv_ishl hx hb dX12_fool_45 ?_
        refine lv_ior hx hb dX12_fool_46 ?_
        refine lv_iload_n hx hb dX12_fool_47 rfl (lv_at hl 2 rfl) ?_
        refine lv_iload_n hx hb dX12_fool_48 rfl (lv_at hl 1 rfl) ?_
        refine lv_iload_n hx hb dX12_fool_49 rfl (lv_at hl 3 rfl) ?_
        refine lv_iconst (v := 1) hx hb dX12_fool_50 (by decide) ?_
        obtain ⟨j59, ej59, h⟩ := lt_x h
        have hj59 : ∀ (y0_59 : Int32) (σ59 : Mm) (H : Heap) (locs : List Loc) (ls : Array Slot), zh D A0 σ59 GF 740 s.heap H locs → lv_has ls 6 [(0, .ref (A0 + 703)), (1, .int x1), (2, .int x2), (3, .int x3)] → j59 y0_59 σ59 = some (r0, σr) → W p l e (zR 401 14966) s m [.ref (A0 + 703), .int x1, .int x2, .int x3].toArray below meth c H locs 0 0 (MQ below (zQi D A0 r0 σr GF 740) [.ref (A0 + 703), .int x1, .int x2, .int x3].toArray s 0 0 (zA A0)) (F0 m 59 ls [.int y0_59, .int x1, .int x2, .int ((σ35 703 32) ||| ((1 : Int32) <<< (x1 &&& 31))), .ref (A0 + 703)]) := by
          intro y0_59 σ59 H locs ls Z hl h
          rw [ej59] at h
          try dsimp only at h
          obtain ⟨r59, σ59_1, hc59, h⟩ := bd2_x h
          refine zc_i Z (zr_V F Z (a := 703) (As := [.int ((σ35 703 32) ||| ((1 : Int32) <<< (x1 &&& 31))), .int x2, .int x1, .int y0_59]) (zcX12_gainsBy l D A0 ((σ35 703 32) ||| ((1 : Int32) <<< (x1 &&& 31))) x2 x1 y0_59 σ59 r59 σ59_1 hc59) zBX12_gainsBy zq1762 (by decide) zs_703 zC12.1 rfl ⟨⟨rfl, rfl⟩, Nat.le_of_ble_eq_true rfl, Nat.le_of_ble_eq_true rfl⟩ hl.1 rfl (Nat.le_of_ble_eq_true rfl) dX12_fool_59 ⟨Nat.le_of_ble_eq_true rfl, Nat.le_of_ble_eq_true rfl⟩) (fun _ _ Z => ?_)
          refine lv_istore (lv' := [(4, .int r59), (0, .ref (A0 + 703)), (1, .int x1), (2, .int x2), (3, .int x3)]) hx hb dX12_fool_62 hl (by decide) rfl (fun ls hl => ?_)
          refine lv_aload_n hx hb dX12_fool_64 rfl (lv_at hl 1 rfl) ?_
          refine lv_aload_n hx hb dX12_fool_65 rfl (lv_at hl 1 rfl) ?_
          refine zw_getI F Z zC12 (a := 703) (k := 32) (by decide) zs_703 (by decide) rfl zq1282 (Or.inl rfl) dX12_fool_66 ?_
          refine lv_iconst (v := 1) hx hb dX12_fool_69 (by decide) ?_
          refine lv_iload_n hx hb dX12_fool_70 rfl (lv_at hl 2 rfl) ?_
          refine lv_ishl hx hb dX12_fool_71 ?_
          refine lv_iconst (v := (-1)) hx hb dX12_fool_72 (by decide) ?_
          refine lv_ixor hx hb dX12_fool_73 ?_
          refine lv_iand hx hb dX12_fool_74 ?_
          refine lv_iload_n hx hb dX12_fool_75 rfl (lv_at hl 3 rfl) ?_
          refine lv_iload_n hx hb dX12_fool_76 rfl (lv_at hl 2 rfl) ?_
          refine lv_iload_n hx hb dX12_fool_77 rfl (lv_at hl 4 rfl) ?_
          refine lv_iconst (v := 1) hx hb dX12_fool_78 (by decide) ?_
          obtain ⟨j87, ej87, h⟩ := lt_x h
          have hj87 : ∀ (y0_87 : Int32) (σ87 : Mm) (H : Heap) (locs : List Loc) (ls : Array Slot), zh D A0 σ87 GF 740 s.heap H locs → lv_has ls 6 [(3, .int x3), (4, .int r59)] → j87 y0_87 σ87 = some (r0, σr) → W p l e (zR 401 14966) s m [.ref (A0 + 703), .int x1, .int x2, .int x3].toArray below meth c H locs 0 0 (MQ below (zQi D A0 r0 σr GF 740) [.ref (A0 + 703), .int x1, .int x2, .int x3].toArray s 0 0 (zA A0)) (F0 m 87 ls [.int y0_87, .int x1, .int x2, .int ((σ59_1 703 32) &&& (((1 : Int32) <<< (x1 &&& 31)) ^^^ (-1))), .ref (A0 + 703)]) := by
            intro y0_87 σ87 H locs ls Z hl h
            rw [ej87] at h
            try dsimp only at h
            obtain ⟨r87, σ87_1, hc87, h⟩ := bd2_x h
            refine zc_i Z (zr_V F Z (a := 703) (As := [.int ((σ59_1 703 32) &&& (((1 : Int32) <<< (x1 &&& 31)) ^^^ (-1))), .int x2, .int x1, .int y0_87]) (zcX12_gainsBy l D A0 ((σ59_1 703 32) &&& (((1 : Int32) <<< (x1 &&& 31)) ^^^ (-1))) x2 x1 y0_87 σ87 r87 σ87_1 hc87) zBX12_gainsBy zq1762 (by decide) zs_703 zC12.1 rfl ⟨⟨rfl, rfl⟩, Nat.le_of_ble_eq_true rfl, Nat.le_of_ble_eq_true rfl⟩ hl.1 rfl (Nat.le_of_ble_eq_true rfl) dX12_fool_87 ⟨Nat.le_of_ble_eq_true rfl, Nat.le_of_ble_eq_true rfl⟩) (fun _ _ Z => ?_)
            refine lv_istore (lv' := [(5, .int r87), (3, .int x3), (4, .int r59)]) hx hb dX12_fool_90 hl (by decide) rfl (fun ls hl => ?_)
            refine lv_iload_n hx hb dX12_fool_92 rfl (lv_at hl 1 rfl) ?_
            refine zb_ifne (tgt := 104) hx hb dX12_fool_93 (by decide) h (fun h => ?_) (fun h => ?_)
            · refine lv_iload hx hb dX12_fool_104 (lv_at hl 2 rfl) ?_
              refine lv_iload hx hb dX12_fool_106 (lv_at hl 0 rfl) ?_
              refine lv_isub hx hb dX12_fool_108 ?_
              obtain ⟨hq1, hq2⟩ := zpq h
              exact ze_i F Z hr hlocks hq1 hq2 dX12_fool_109
            · refine lv_iload hx hb dX12_fool_96 (lv_at hl 0 rfl) ?_
              refine lv_iload hx hb dX12_fool_98 (lv_at hl 2 rfl) ?_
              refine lv_isub hx hb dX12_fool_100 ?_
              refine lv_goto (tgt := 109) hx hb dX12_fool_101 (by decide) ?_
              obtain ⟨hq1, hq2⟩ := zpq h
              exact ze_i F Z hr hlocks hq1 hq2 dX12_fool_109
          refine zb_icne (tgt := 86) hx hb dX12_fool_79 (by decide) h (fun h => ?_) (fun h => ?_)
          · refine lv_iconst (v := 0) hx hb dX12_fool_86 (by decide) ?_
            exact hj87 0 σ59_1 _ _ _ Z (lv_sub hl [4, 0] rfl) h
          · refine lv_iconst (v := 1) hx hb dX12_fool_82 (by decide) ?_
            refine lv_goto (tgt := 87) hx hb dX12_fool_83 (by decide) ?_
            exact hj87 1 σ59_1 _ _ _ Z (lv_sub hl [4, 0] rfl) h
        refine zb_icne (tgt := 58) hx hb dX12_fool_51 (by decide) h (fun h => ?_) (fun h => ?_)
        · refine lv_iconst (v := 0) hx hb dX12_fool_58 (by decide) ?_
          exact hj59 0 σ35 _ _ _ Z (lv_sub hl [0, 1, 2, 3] rfl) h
        · refine lv_iconst (v := 1) hx hb dX12_fool_54 (by decide) ?_
          refine lv_goto (tgt := 59) hx hb dX12_fool_55 (by decide) ?_
          exact hj59 1 σ35 _ _ _ Z (lv_sub hl [0, 1, 2, 3] rfl) h
      · exact hj30 σ2 _ _ _ Z (lv_sub hl [] rfl) h
set_option maxHeartbeats 4000000 in
set_option maxRecDepth 100000 in
theorem zcX12_up (l : Launch) (D : va_G) (A0 : Nat) (x1 : Int32) (x2 : Int32) (σ : Mm) (r0 : Int32) (σr : Mm) (h : zfX12_up x1 x2 σ = some (r0, σr)) : Met l yX12_up (zws yX12_up cX12_up 5 (some .int)) (zR 400 14940) (zPc D A0 σ GF 740 [.ref (A0 + 703), .int x1, .int x2]) (zQi D A0 r0 σr GF 740) 0 0 (zA A0) := by
  unfold zfX12_up at h
  refine zmet (own := RX12) (by decide) rfl (Nat.le_of_ble_eq_true rfl) ?_
  intro p e s m below meth c F hr hlocks _ Z ls hl
  have hl : lv_has ls 5 [(0, .ref (A0 + 703)), (1, .int x1), (2, .int x2)] := hl
  have hx := F.1.1
  have hb := F.1.2.1
  have hown := F.1.2.2.2.1
  have hts := F.1.2.2.2.2
  refine lv_aload_n hx hb dX12_up_0 rfl (lv_at hl 0 rfl) ?_
  refine lv_iconst (v := 0) hx hb dX12_up_1 (by decide) ?_
  refine zw_putI F Z zC12 (a := 703) (k := 0) (by decide) zs_703 (by decide) rfl (by decide) zq1250 (Or.inl rfl) rfl ⟨rfl, rfl⟩ dX12_up_2 (fun σ2 _ _ eσ2 Z => ?_)
  replace h := lt_w h eσ2
  refine lv_aload_n hx hb dX12_up_5 rfl (lv_at hl 0 rfl) ?_
  refine lv_iload_n hx hb dX12_up_6 rfl (lv_at hl 1 rfl) ?_
  refine zc_i Z (zr_V F Z (a := 703) (As := [.int x1]) (zcX12_isReady l D A0 x1 σ2 (zfX12_isReady x1 σ2) rfl) zBX12_isReady zq1649 (by decide) zs_703 zC12.1 rfl ⟨⟨rfl, rfl⟩, Nat.le_of_ble_eq_true rfl, Nat.le_of_ble_eq_true rfl⟩ hl.1 rfl (Nat.le_of_ble_eq_true rfl) dX12_up_7 ⟨Nat.le_of_ble_eq_true rfl, Nat.le_of_ble_eq_true rfl⟩) (fun _ _ Z => ?_)
  obtain ⟨j25, ej25, h⟩ := lt_x h
  have hj25 : ∀ (σ25 : Mm) (H : Heap) (locs : List Loc) (ls : Array Slot), zh D A0 σ25 GF 740 s.heap H locs → lv_has ls 5 [] → j25 σ25 = some (r0, σr) → W p l e (zR 400 14940) s m [.ref (A0 + 703), .int x1, .int x2].toArray below meth c H locs 0 0 (MQ below (zQi D A0 r0 σr GF 740) [.ref (A0 + 703), .int x1, .int x2].toArray s 0 0 (zA A0)) (F0 m 25 ls []) := by
    intro  σ25 H locs ls Z hl h
    rw [ej25] at h
    try dsimp only at h
    refine lv_iconst (v := (-1)) hx hb dX12_up_25 (by decide) ?_
    obtain ⟨hq1, hq2⟩ := zpq h
    exact ze_i F Z hr hlocks hq1 hq2 dX12_up_26
  refine zb_ifeq (tgt := 25) hx hb dX12_up_10 (by decide) h (fun h => ?_) (fun h => ?_)
  · exact hj25 σ2 _ _ _ Z (lv_sub hl [] rfl) h
  · refine lv_iload_n hx hb dX12_up_13 rfl (lv_at hl 2 rfl) ?_
    refine lv_i2l hx hb dX12_up_14 rfl ?_
    refine lv_lconst (v := 0) hx hb dX12_up_15 (by decide) ?_
    refine lv_ldc2 (v := 20) hx hb hown (hts _ zq1770) dX12_up_16 ?_
    refine zc_i Z (zr_S F Z (As := [.long (Int32.toInt64 x2), .long 0, .long 20]) (zcX12_isIn l D A0 (Int32.toInt64 x2) 0 20 σ2 (zfX12_isIn (Int32.toInt64 x2) 0 20) rfl) zBX12_isIn zq1496 rfl ⟨⟨rfl, rfl⟩, Nat.le_of_ble_eq_true rfl, Nat.le_of_ble_eq_true rfl⟩ hl.1 rfl (Nat.le_of_ble_eq_true rfl) dX12_up_19 ⟨Nat.le_of_ble_eq_true rfl, Nat.le_of_ble_eq_true rfl⟩) (fun _ _ Z => ?_)
    refine zb_ifne (tgt := 27) hx hb dX12_up_22 (by decide) h (fun h => ?_) (fun h => ?_)
    · refine lv_aload_n hx hb dX12_up_27 rfl (lv_at hl 0 rfl) ?_
      obtain ⟨σ28, hc28, h⟩ := bd_x h
      refine zc_v Z (zr_V F Z (a := 703) (As := []) (zcX12_keep l D A0 σ2 σ28 hc28) zBX12_keep zq1701 (by decide) zs_703 zC12.1 rfl ⟨⟨rfl, rfl⟩, Nat.le_of_ble_eq_true rfl, Nat.le_of_ble_eq_true rfl⟩ hl.1 rfl (Nat.le_of_ble_eq_true rfl) dX12_up_28 ⟨Nat.le_of_ble_eq_true rfl, Nat.le_of_ble_eq_true rfl⟩) (fun _ _ Z => ?_)
      refine lv_iconst (v := (-1)) hx hb dX12_up_31 (by decide) ?_
      refine lv_istore_n (lv' := [(3, .int (-1)), (0, .ref (A0 + 703)), (1, .int x1), (2, .int x2)]) hx hb dX12_up_32 rfl hl (by decide) rfl (fun ls hl => ?_)
      refine lv_iconst (v := 0) hx hb dX12_up_33 (by decide) ?_
      refine lv_istore (lv' := [(4, .int 0), (3, .int (-1)), (0, .ref (A0 + 703)), (1, .int x1), (2, .int x2)]) hx hb dX12_up_34 hl (by decide) rfl (fun ls hl => ?_)
      obtain ⟨k101, ek101, h⟩ := lt_x h
      have hk101 : ∀ (x3_101 : Int32) (σ101 : Mm) (H : Heap) (locs : List Loc) (ls : Array Slot), zh D A0 σ101 GF 740 s.heap H locs → lv_has ls 5 [(3, .int x3_101)] → k101 x3_101 σ101 = some (r0, σr) → W p l e (zR 400 14940) s m [.ref (A0 + 703), .int x1, .int x2].toArray below meth c H locs 0 0 (MQ below (zQi D A0 r0 σr GF 740) [.ref (A0 + 703), .int x1, .int x2].toArray s 0 0 (zA A0)) (F0 m 101 ls []) := by
        intro x3_101 σ101 H locs ls Z hl h
        rw [ek101] at h
        try dsimp only at h
        refine lv_iload_n hx hb dX12_up_101 rfl (lv_at hl 0 rfl) ?_
        obtain ⟨hq1, hq2⟩ := zpq h
        exact ze_i F Z hr hlocks hq1 hq2 dX12_up_102
      have hL36 : ∀ (fu36 : Nat) (x3_36 : Int32) (x4_36 : Int32) (σ36 : Mm) (H : Heap) (locs : List Loc) (ls : Array Slot), zh D A0 σ36 GF 740 s.heap H locs → lv_has ls 5 [(0, .ref (A0 + 703)), (1, .int x1), (2, .int x2), (3, .int x3_36), (4, .int x4_36)] → zfX12_up_L36 k101 x1 x2 fu36 x3_36 x4_36 σ36 = some (r0, σr) → W p l e (zR 400 14940) s m [.ref (A0 + 703), .int x1, .int x2].toArray below meth c H locs 0 0 (MQ below (zQi D A0 r0 σr GF 740) [.ref (A0 + 703), .int x1, .int x2].toArray s 0 0 (zA A0)) (F0 m 36 ls []) := by
        intro fu36
        induction fu36 with
        | zero => intro x3_36 x4_36 σ36 H locs ls Z hl h; rw [zfX12_up_L36] at h; cases h
        | succ fu36 ih36 =>
          intro x3_36 x4_36 σ36 H locs ls Z hl h
          rw [zfX12_up_L36] at h
          refine lv_iload hx hb dX12_up_36 (lv_at hl 4 rfl) ?_
          refine lv_iconst (v := 1) hx hb dX12_up_38 (by decide) ?_
          refine lv_aload_n hx hb dX12_up_39 rfl (lv_at hl 0 rfl) ?_
          refine zw_getI F Z zC12 (a := 703) (k := 24) (by decide) zs_703 (by decide) rfl zq1274 (Or.inl rfl) dX12_up_40 ?_
          refine lv_ishl hx hb dX12_up_43 ?_
          refine zb_icge (tgt := 101) hx hb dX12_up_44 (by decide) h (fun h => ?_) (fun h => ?_)
          · exact hk101 x3_36 σ36 _ _ _ Z (lv_sub hl [3] rfl) h
          · refine lv_iload_n hx hb dX12_up_47 rfl (lv_at hl 3 rfl) ?_
            refine lv_iconst (v := (-1)) hx hb dX12_up_48 (by decide) ?_
            obtain ⟨j95, ej95, h⟩ := lt_x h
            have hj95 : ∀ (x3_95 : Int32) (σ95 : Mm) (H : Heap) (locs : List Loc) (ls : Array Slot), zh D A0 σ95 GF 740 s.heap H locs → lv_has ls 5 [(0, .ref (A0 + 703)), (1, .int x1), (2, .int x2), (3, .int x3_95), (4, .int x4_36)] → j95 x3_95 σ95 = some (r0, σr) → W p l e (zR 400 14940) s m [.ref (A0 + 703), .int x1, .int x2].toArray below meth c H locs 0 0 (MQ below (zQi D A0 r0 σr GF 740) [.ref (A0 + 703), .int x1, .int x2].toArray s 0 0 (zA A0)) (F0 m 95 ls []) := by
              intro x3_95 σ95 H locs ls Z hl h
              rw [ej95] at h
              try dsimp only at h
              obtain ⟨x4_95, ex4_95⟩ : ∃ y : Int32, y = x4_36 + 1 := ⟨_, rfl⟩
              replace h := lt_w h ex4_95
              refine lv_iinc (v := x4_95) (lv' := [(4, .int x4_95), (0, .ref (A0 + 703)), (1, .int x1), (2, .int x2), (3, .int x3_95)]) hx hb dX12_up_95 hl (k := 4) rfl (by rw [ex4_95]; rfl) (by decide) rfl (fun ls hl => ?_)
              refine lv_goto (tgt := 36) hx hb dX12_up_98 (by decide) ?_
              exact ih36 x3_95 x4_95 σ95 _ _ _ Z (lv_sub hl [1, 2, 3, 4, 0] rfl) h
            obtain ⟨j67, ej67, h⟩ := lt_x h
            have hj67 : ∀ (σ67 : Mm) (H : Heap) (locs : List Loc) (ls : Array Slot), zh D A0 σ67 GF 740 s.heap H locs → lv_has ls 5 [(0, .ref (A0 + 703)), (1, .int x1), (2, .int x2), (3, .int x3_36), (4, .int x4_36)] → j67 σ67 = some (r0, σr) → W p l e (zR 400 14940) s m [.ref (A0 + 703), .int x1, .int x2].toArray below meth c H locs 0 0 (MQ below (zQi D A0 r0 σr GF 740) [.ref (A0 + 703), .int x1, .int x2].toArray s 0 0 (zA A0)) (F0 m 67 ls []) := by
              intro  σ67 H locs ls Z hl h
              rw [ej67] at h
              try dsimp only at h
              refine lv_aload_n hx hb dX12_up_67 rfl (lv_at hl 0 rfl) ?_
              refine lv_iload hx hb dX12_up_68 (lv_at hl 4 rfl) ?_
              refine zw_putI F Z zC12 (a := 703) (k := 41) (by decide) zs_703 (by decide) rfl (by decide) zq1291 (Or.inl rfl) rfl ⟨rfl, rfl⟩ dX12_up_70 (fun σ70 _ _ eσ70 Z => ?_)
              replace h := lt_w h eσ70
              refine lv_aload_n hx hb dX12_up_73 rfl (lv_at hl 0 rfl) ?_
              refine lv_iload_n hx hb dX12_up_74 rfl (lv_at hl 1 rfl) ?_
              obtain ⟨σ75, hc75, h⟩ := bd_x h
              refine zc_v Z (zr_V F Z (a := 703) (As := [.int x1]) (zcX12_tries l D A0 x1 σ70 σ75 hc75) zBX12_tries zq1705 (by decide) zs_703 zC12.1 rfl ⟨⟨rfl, rfl⟩, Nat.le_of_ble_eq_true rfl, Nat.le_of_ble_eq_true rfl⟩ hl.1 rfl (Nat.le_of_ble_eq_true rfl) dX12_up_75 ⟨Nat.le_of_ble_eq_true rfl, Nat.le_of_ble_eq_true rfl⟩) (fun _ _ Z => ?_)
              refine lv_aload_n hx hb dX12_up_78 rfl (lv_at hl 0 rfl) ?_
              obtain ⟨σ79, hc79, h⟩ := bd_x h
              refine zc_v Z (zr_V F Z (a := 703) (As := []) (zcX12_putBack l D A0 σ75 σ79 hc79) zBX12_putBack zq1709 (by decide) zs_703 zC12.1 rfl ⟨⟨rfl, rfl⟩, Nat.le_of_ble_eq_true rfl, Nat.le_of_ble_eq_true rfl⟩ hl.1 rfl (Nat.le_of_ble_eq_true rfl) dX12_up_79 ⟨Nat.le_of_ble_eq_true rfl, Nat.le_of_ble_eq_true rfl⟩) (fun _ _ Z => ?_)
              refine lv_aload_n hx hb dX12_up_82 rfl (lv_at hl 0 rfl) ?_
              refine zw_getR F Z zC12 (a := 703) (k := 49) (by decide) zs_703 (by decide) rfl zg_703_49 zq1299 (Or.inl rfl) dX12_up_83 ?_
              refine lv_iload_n hx hb dX12_up_86 rfl (lv_at hl 1 rfl) ?_
              obtain ⟨hk87, h⟩ := ck_x h
              refine zw_iald F Z (by decide) zs_725 hk87 dX12_up_87 ?_
              refine lv_iload_n hx hb dX12_up_88 rfl (lv_at hl 2 rfl) ?_
              refine zb_iclt (tgt := 95) hx hb dX12_up_89 (by decide) h (fun h => ?_) (fun h => ?_)
              · exact hj95 x3_36 σ79 _ _ _ Z (lv_sub hl [0, 1, 2, 3, 4] rfl) h
              · refine lv_iload hx hb dX12_up_92 (lv_at hl 4 rfl) ?_
                refine lv_istore_n (lv' := [(3, .int x4_36), (0, .ref (A0 + 703)), (1, .int x1), (2, .int x2), (4, .int x4_36)]) hx hb dX12_up_94 rfl hl (by decide) rfl (fun ls hl => ?_)
                exact hj95 x4_36 σ79 _ _ _ Z (lv_sub hl [1, 2, 3, 0, 4] rfl) h
            refine zb_iceq (tgt := 67) hx hb dX12_up_49 (by decide) h (fun h => ?_) (fun h => ?_)
            · exact hj67 σ36 _ _ _ Z (lv_sub hl [0, 1, 2, 3, 4] rfl) h
            · refine lv_iload hx hb dX12_up_52 (lv_at hl 4 rfl) ?_
              refine zc_i Z (zr_S F Z (As := [.int x4_36]) (zcJ6_bitCount_0f7a4 l D A0 x4_36 σ36 (zfJ6_bitCount_0f7a4 x4_36) rfl) zBJ6_bitCount_0f7a4 zq1771 rfl ⟨⟨rfl, rfl⟩, Nat.le_of_ble_eq_true rfl, Nat.le_of_ble_eq_true rfl⟩ hl.1 rfl (Nat.le_of_ble_eq_true rfl) dX12_up_54 ⟨Nat.le_of_ble_eq_true rfl, Nat.le_of_ble_eq_true rfl⟩) (fun _ _ Z => ?_)
              refine lv_iload_n hx hb dX12_up_57 rfl (lv_at hl 3 rfl) ?_
              refine zc_i Z (zr_S F Z (As := [.int x3_36]) (zcJ6_bitCount_0f7a4 l D A0 x3_36 σ36 (zfJ6_bitCount_0f7a4 x3_36) rfl) zBJ6_bitCount_0f7a4 zq1771 rfl ⟨⟨rfl, rfl⟩, Nat.le_of_ble_eq_true rfl, Nat.le_of_ble_eq_true rfl⟩ hl.1 rfl (Nat.le_of_ble_eq_true rfl) dX12_up_58 ⟨Nat.le_of_ble_eq_true rfl, Nat.le_of_ble_eq_true rfl⟩) (fun _ _ Z => ?_)
              refine zb_iclt (tgt := 67) hx hb dX12_up_61 (by decide) h (fun h => ?_) (fun h => ?_)
              · exact hj67 σ36 _ _ _ Z (lv_sub hl [0, 1, 2, 3, 4] rfl) h
              · refine lv_goto (tgt := 95) hx hb dX12_up_64 (by decide) ?_
                exact hj95 x3_36 σ36 _ _ _ Z (lv_sub hl [0, 1, 2, 3, 4] rfl) h
      exact hL36 NF (-1) 0 σ28 _ _ _ Z (lv_sub hl [2, 3, 4, 1, 0] rfl) h
    · exact hj25 σ2 _ _ _ Z (lv_sub hl [] rfl) h
set_option maxHeartbeats 4000000 in
set_option maxRecDepth 100000 in
theorem zcX12_when (l : Launch) (D : va_G) (A0 : Nat) (x1 : Int32) (x2 : Int32) (σ : Mm) (r0 : Int32) (σr : Mm) (h : zfX12_when x1 x2 σ = some (r0, σr)) : Met l yX12_when (zws yX12_when cX12_when 7 (some .int)) (zR 399 14918) (zPc D A0 σ GF 740 [.ref (A0 + 703), .int x1, .int x2]) (zQi D A0 r0 σr GF 740) 0 0 (zA A0) := by
  unfold zfX12_when at h
  refine zmet (own := RX12) (by decide) rfl (Nat.le_of_ble_eq_true rfl) ?_
  intro p e s m below meth c F hr hlocks _ Z ls hl
  have hl : lv_has ls 7 [(0, .ref (A0 + 703)), (1, .int x1), (2, .int x2)] := hl
  have hx := F.1.1
  have hb := F.1.2.1
  have hown := F.1.2.2.2.1
  have hts := F.1.2.2.2.2
  refine lv_aload_n hx hb dX12_when_0 rfl (lv_at hl 0 rfl) ?_
  refine lv_iconst (v := 0) hx hb dX12_when_1 (by decide) ?_
  refine zw_putI F Z zC12 (a := 703) (k := 0) (by decide) zs_703 (by decide) rfl (by decide) zq1250 (Or.inl rfl) rfl ⟨rfl, rfl⟩ dX12_when_2 (fun σ2 _ _ eσ2 Z => ?_)
  replace h := lt_w h eσ2
  refine lv_aload_n hx hb dX12_when_5 rfl (lv_at hl 0 rfl) ?_
  refine lv_iload_n hx hb dX12_when_6 rfl (lv_at hl 1 rfl) ?_
  refine zc_i Z (zr_V F Z (a := 703) (As := [.int x1]) (zcX12_isReady l D A0 x1 σ2 (zfX12_isReady x1 σ2) rfl) zBX12_isReady zq1649 (by decide) zs_703 zC12.1 rfl ⟨⟨rfl, rfl⟩, Nat.le_of_ble_eq_true rfl, Nat.le_of_ble_eq_true rfl⟩ hl.1 rfl (Nat.le_of_ble_eq_true rfl) dX12_when_7 ⟨Nat.le_of_ble_eq_true rfl, Nat.le_of_ble_eq_true rfl⟩) (fun _ _ Z => ?_)
  obtain ⟨j23, ej23, h⟩ := lt_x h
  have hj23 : ∀ (σ23 : Mm) (H : Heap) (locs : List Loc) (ls : Array Slot), zh D A0 σ23 GF 740 s.heap H locs → lv_has ls 7 [] → j23 σ23 = some (r0, σr) → W p l e (zR 399 14918) s m [.ref (A0 + 703), .int x1, .int x2].toArray below meth c H locs 0 0 (MQ below (zQi D A0 r0 σr GF 740) [.ref (A0 + 703), .int x1, .int x2].toArray s 0 0 (zA A0)) (F0 m 23 ls []) := by
    intro  σ23 H locs ls Z hl h
    rw [ej23] at h
    try dsimp only at h
    refine lv_iconst (v := (-1)) hx hb dX12_when_23 (by decide) ?_
    obtain ⟨hq1, hq2⟩ := zpq h
    exact ze_i F Z hr hlocks hq1 hq2 dX12_when_24
  refine zb_ifeq (tgt := 23) hx hb dX12_when_10 (by decide) h (fun h => ?_) (fun h => ?_)
  · exact hj23 σ2 _ _ _ Z (lv_sub hl [] rfl) h
  · refine lv_iload_n hx hb dX12_when_13 rfl (lv_at hl 2 rfl) ?_
    refine lv_i2l hx hb dX12_when_14 rfl ?_
    refine lv_lconst (v := 0) hx hb dX12_when_15 (by decide) ?_
    refine lv_lconst (v := 1) hx hb dX12_when_16 (by decide) ?_
    refine zc_i Z (zr_S F Z (As := [.long (Int32.toInt64 x2), .long 0, .long 1]) (zcX12_isIn l D A0 (Int32.toInt64 x2) 0 1 σ2 (zfX12_isIn (Int32.toInt64 x2) 0 1) rfl) zBX12_isIn zq1496 rfl ⟨⟨rfl, rfl⟩, Nat.le_of_ble_eq_true rfl, Nat.le_of_ble_eq_true rfl⟩ hl.1 rfl (Nat.le_of_ble_eq_true rfl) dX12_when_17 ⟨Nat.le_of_ble_eq_true rfl, Nat.le_of_ble_eq_true rfl⟩) (fun _ _ Z => ?_)
    refine zb_ifne (tgt := 25) hx hb dX12_when_20 (by decide) h (fun h => ?_) (fun h => ?_)
    · refine lv_aload_n hx hb dX12_when_25 rfl (lv_at hl 0 rfl) ?_
      obtain ⟨σ26, hc26, h⟩ := bd_x h
      refine zc_v Z (zr_V F Z (a := 703) (As := []) (zcX12_keep l D A0 σ2 σ26 hc26) zBX12_keep zq1701 (by decide) zs_703 zC12.1 rfl ⟨⟨rfl, rfl⟩, Nat.le_of_ble_eq_true rfl, Nat.le_of_ble_eq_true rfl⟩ hl.1 rfl (Nat.le_of_ble_eq_true rfl) dX12_when_26 ⟨Nat.le_of_ble_eq_true rfl, Nat.le_of_ble_eq_true rfl⟩) (fun _ _ Z => ?_)
      refine lv_iconst (v := (-1)) hx hb dX12_when_29 (by decide) ?_
      refine lv_istore_n (lv' := [(3, .int (-1)), (0, .ref (A0 + 703)), (1, .int x1), (2, .int x2)]) hx hb dX12_when_30 rfl hl (by decide) rfl (fun ls hl => ?_)
      refine lv_iconst (v := 0) hx hb dX12_when_31 (by decide) ?_
      refine lv_istore (lv' := [(4, .int 0), (3, .int (-1)), (0, .ref (A0 + 703)), (1, .int x1), (2, .int x2)]) hx hb dX12_when_32 hl (by decide) rfl (fun ls hl => ?_)
      refine lv_iconst (v := 0) hx hb dX12_when_34 (by decide) ?_
      refine lv_istore (lv' := [(5, .int 0), (4, .int 0), (3, .int (-1)), (0, .ref (A0 + 703)), (1, .int x1), (2, .int x2)]) hx hb dX12_when_35 hl (by decide) rfl (fun ls hl => ?_)
      obtain ⟨k126, ek126, h⟩ := lt_x h
      have hk126 : ∀ (x3_126 : Int32) (x4_126 : Int32) (σ126 : Mm) (H : Heap) (locs : List Loc) (ls : Array Slot), zh D A0 σ126 GF 740 s.heap H locs → lv_has ls 7 [(0, .ref (A0 + 703)), (2, .int x2), (3, .int x3_126), (4, .int x4_126)] → k126 x3_126 x4_126 σ126 = some (r0, σr) → W p l e (zR 399 14918) s m [.ref (A0 + 703), .int x1, .int x2].toArray below meth c H locs 0 0 (MQ below (zQi D A0 r0 σr GF 740) [.ref (A0 + 703), .int x1, .int x2].toArray s 0 0 (zA A0)) (F0 m 126 ls []) := by
        intro x3_126 x4_126 σ126 H locs ls Z hl h
        rw [ek126] at h
        try dsimp only at h
        refine lv_aload_n hx hb dX12_when_126 rfl (lv_at hl 0 rfl) ?_
        obtain ⟨σ127, hc127, h⟩ := bd_x h
        refine zc_v Z (zr_V F Z (a := 703) (As := []) (zcX12_putBack l D A0 σ126 σ127 hc127) zBX12_putBack zq1709 (by decide) zs_703 zC12.1 rfl ⟨⟨rfl, rfl⟩, Nat.le_of_ble_eq_true rfl, Nat.le_of_ble_eq_true rfl⟩ hl.1 rfl (Nat.le_of_ble_eq_true rfl) dX12_when_127 ⟨Nat.le_of_ble_eq_true rfl, Nat.le_of_ble_eq_true rfl⟩) (fun _ _ Z => ?_)
        refine lv_iload_n hx hb dX12_when_130 rfl (lv_at hl 2 rfl) ?_
        refine lv_iconst (v := (-1)) hx hb dX12_when_131 (by decide) ?_
        refine zb_icne (tgt := 139) hx hb dX12_when_132 (by decide) h (fun h => ?_) (fun h => ?_)
        · refine lv_iload_n hx hb dX12_when_139 rfl (lv_at hl 1 rfl) ?_
          refine zb_ifne (tgt := 147) hx hb dX12_when_140 (by decide) h (fun h => ?_) (fun h => ?_)
          · refine lv_iload hx hb dX12_when_147 (lv_at hl 3 rfl) ?_
            obtain ⟨hq1, hq2⟩ := zpq h
            exact ze_i F Z hr hlocks hq1 hq2 dX12_when_149
          · refine lv_iload_n hx hb dX12_when_143 rfl (lv_at hl 2 rfl) ?_
            refine lv_goto (tgt := 149) hx hb dX12_when_144 (by decide) ?_
            obtain ⟨hq1, hq2⟩ := zpq h
            exact ze_i F Z hr hlocks hq1 hq2 dX12_when_149
        · refine lv_iconst (v := (-1)) hx hb dX12_when_135 (by decide) ?_
          refine lv_goto (tgt := 149) hx hb dX12_when_136 (by decide) ?_
          obtain ⟨hq1, hq2⟩ := zpq h
          exact ze_i F Z hr hlocks hq1 hq2 dX12_when_149
      have hL37 : ∀ (fu37 : Nat) (x3_37 : Int32) (x4_37 : Int32) (x5_37 : Int32) (σ37 : Mm) (H : Heap) (locs : List Loc) (ls : Array Slot), zh D A0 σ37 GF 740 s.heap H locs → lv_has ls 7 [(0, .ref (A0 + 703)), (1, .int x1), (2, .int x2), (3, .int x3_37), (4, .int x4_37), (5, .int x5_37)] → zfX12_when_L37 x1 k126 fu37 x3_37 x4_37 x5_37 σ37 = some (r0, σr) → W p l e (zR 399 14918) s m [.ref (A0 + 703), .int x1, .int x2].toArray below meth c H locs 0 0 (MQ below (zQi D A0 r0 σr GF 740) [.ref (A0 + 703), .int x1, .int x2].toArray s 0 0 (zA A0)) (F0 m 37 ls []) := by
        intro fu37
        induction fu37 with
        | zero => intro x3_37 x4_37 x5_37 σ37 H locs ls Z hl h; rw [zfX12_when_L37] at h; cases h
        | succ fu37 ih37 =>
          intro x3_37 x4_37 x5_37 σ37 H locs ls Z hl h
          rw [zfX12_when_L37] at h
          refine lv_iload hx hb dX12_when_37 (lv_at hl 5 rfl) ?_
          refine lv_iload_n hx hb dX12_when_39 rfl (lv_at hl 1 rfl) ?_
          refine zb_icge (tgt := 126) hx hb dX12_when_40 (by decide) h (fun h => ?_) (fun h => ?_)
          · exact hk126 x3_37 x4_37 σ37 _ _ _ Z (lv_sub hl [0, 2, 3, 4] rfl) h
          · refine lv_aload_n hx hb dX12_when_43 rfl (lv_at hl 0 rfl) ?_
            refine lv_iconst (v := 0) hx hb dX12_when_44 (by decide) ?_
            obtain ⟨σ45, hc45, h⟩ := bd_x h
            refine zc_v Z (zr_V F Z (a := 703) (As := [.int 0]) (zcX12_goes l D A0 0 σ37 σ45 hc45) zBX12_goes zq1663 (by decide) zs_703 zC12.1 rfl ⟨⟨rfl, rfl⟩, Nat.le_of_ble_eq_true rfl, Nat.le_of_ble_eq_true rfl⟩ hl.1 rfl (Nat.le_of_ble_eq_true rfl) dX12_when_45 ⟨Nat.le_of_ble_eq_true rfl, Nat.le_of_ble_eq_true rfl⟩) (fun _ _ Z => ?_)
            refine lv_iconst (v := 0) hx hb dX12_when_48 (by decide) ?_
            refine lv_istore (lv' := [(6, .int 0), (0, .ref (A0 + 703)), (1, .int x1), (2, .int x2), (3, .int x3_37), (4, .int x4_37), (5, .int x5_37)]) hx hb dX12_when_49 hl (by decide) rfl (fun ls hl => ?_)
            obtain ⟨k120, ek120, h⟩ := lt_x h
            have hk120 : ∀ (x3_120 : Int32) (x4_120 : Int32) (σ120 : Mm) (H : Heap) (locs : List Loc) (ls : Array Slot), zh D A0 σ120 GF 740 s.heap H locs → lv_has ls 7 [(0, .ref (A0 + 703)), (1, .int x1), (2, .int x2), (3, .int x3_120), (4, .int x4_120), (5, .int x5_37)] → k120 x3_120 x4_120 σ120 = some (r0, σr) → W p l e (zR 399 14918) s m [.ref (A0 + 703), .int x1, .int x2].toArray below meth c H locs 0 0 (MQ below (zQi D A0 r0 σr GF 740) [.ref (A0 + 703), .int x1, .int x2].toArray s 0 0 (zA A0)) (F0 m 120 ls []) := by
              intro x3_120 x4_120 σ120 H locs ls Z hl h
              rw [ek120] at h
              try dsimp only at h
              obtain ⟨x5_120, ex5_120⟩ : ∃ y : Int32, y = x5_37 + 1 := ⟨_, rfl⟩
              replace h := lt_w h ex5_120
              refine lv_iinc (v := x5_120) (lv' := [(5, .int x5_120), (0, .ref (A0 + 703)), (1, .int x1), (2, .int x2), (3, .int x3_120), (4, .int x4_120)]) hx hb dX12_when_120 hl (k := 5) rfl (by rw [ex5_120]; rfl) (by decide) rfl (fun ls hl => ?_)
              refine lv_goto (tgt := 37) hx hb dX12_when_123 (by decide) ?_
              exact ih37 x3_120 x4_120 x5_120 σ120 _ _ _ Z (lv_sub hl [1, 2, 3, 4, 5, 0] rfl) h
            have hL51 : ∀ (fu51 : Nat) (x3_51 : Int32) (x4_51 : Int32) (x6_51 : Int32) (σ51 : Mm) (H : Heap) (locs : List Loc) (ls : Array Slot), zh D A0 σ51 GF 740 s.heap H locs → lv_has ls 7 [(0, .ref (A0 + 703)), (1, .int x1), (2, .int x2), (3, .int x3_51), (4, .int x4_51), (5, .int x5_37), (6, .int x6_51)] → zfX12_when_L51 k120 x5_37 fu51 x3_51 x4_51 x6_51 σ51 = some (r0, σr) → W p l e (zR 399 14918) s m [.ref (A0 + 703), .int x1, .int x2].toArray below meth c H locs 0 0 (MQ below (zQi D A0 r0 σr GF 740) [.ref (A0 + 703), .int x1, .int x2].toArray s 0 0 (zA A0)) (F0 m 51 ls []) := by
              intro fu51
              induction fu51 with
              | zero => intro x3_51 x4_51 x6_51 σ51 H locs ls Z hl h; rw [zfX12_when_L51] at h; cases h
              | succ fu51 ih51 =>
                intro x3_51 x4_51 x6_51 σ51 H locs ls Z hl h
                rw [zfX12_when_L51] at h
                refine lv_iload hx hb dX12_when_51 (lv_at hl 6 rfl) ?_
                refine lv_aload_n hx hb dX12_when_53 rfl (lv_at hl 0 rfl) ?_
                refine zw_getI F Z zC12 (a := 703) (k := 24) (by decide) zs_703 (by decide) rfl zq1274 (Or.inl rfl) dX12_when_54 ?_
                refine zb_icge (tgt := 120) hx hb dX12_when_57 (by decide) h (fun h => ?_) (fun h => ?_)
                · exact hk120 x3_51 x4_51 σ51 _ _ _ Z (lv_sub hl [0, 1, 2, 3, 4, 5] rfl) h
                · refine lv_aload_n hx hb dX12_when_60 rfl (lv_at hl 0 rfl) ?_
                  refine zw_getR F Z zC12 (a := 703) (k := 38) (by decide) zs_703 (by decide) rfl zg_703_38 zq1288 (Or.inl rfl) dX12_when_61 ?_
                  refine lv_iload hx hb dX12_when_64 (lv_at hl 6 rfl) ?_
                  obtain ⟨hk66, h⟩ := ck_x h
                  refine zw_iald F Z (by decide) zs_720 hk66 dX12_when_66 ?_
                  obtain ⟨j114, ej114, h⟩ := lt_x h
                  have hj114 : ∀ (x3_114 : Int32) (x4_114 : Int32) (σ114 : Mm) (H : Heap) (locs : List Loc) (ls : Array Slot), zh D A0 σ114 GF 740 s.heap H locs → lv_has ls 7 [(0, .ref (A0 + 703)), (1, .int x1), (2, .int x2), (3, .int x3_114), (4, .int x4_114), (5, .int x5_37), (6, .int x6_51)] → j114 x3_114 x4_114 σ114 = some (r0, σr) → W p l e (zR 399 14918) s m [.ref (A0 + 703), .int x1, .int x2].toArray below meth c H locs 0 0 (MQ below (zQi D A0 r0 σr GF 740) [.ref (A0 + 703), .int x1, .int x2].toArray s 0 0 (zA A0)) (F0 m 114 ls []) := by
                    intro x3_114 x4_114 σ114 H locs ls Z hl h
                    rw [ej114] at h
                    try dsimp only at h
                    obtain ⟨x6_114, ex6_114⟩ : ∃ y : Int32, y = x6_51 + 1 := ⟨_, rfl⟩
                    replace h := lt_w h ex6_114
                    refine lv_iinc (v := x6_114) (lv' := [(6, .int x6_114), (0, .ref (A0 + 703)), (1, .int x1), (2, .int x2), (3, .int x3_114), (4, .int x4_114), (5, .int x5_37)]) hx hb dX12_when_114 hl (k := 6) rfl (by rw [ex6_114]; rfl) (by decide) rfl (fun ls hl => ?_)
                    refine lv_goto (tgt := 51) hx hb dX12_when_117 (by decide) ?_
                    exact ih51 x3_114 x4_114 x6_114 σ114 _ _ _ Z (lv_sub hl [1, 2, 3, 4, 5, 6, 0] rfl) h
                  refine zb_ifeq (tgt := 114) hx hb dX12_when_67 (by decide) h (fun h => ?_) (fun h => ?_)
                  · exact hj114 x3_51 x4_51 σ51 _ _ _ Z (lv_sub hl [0, 1, 2, 3, 4, 5, 6] rfl) h
                  · refine lv_aload_n hx hb dX12_when_70 rfl (lv_at hl 0 rfl) ?_
                    refine zw_getI F Z zC12 (a := 703) (k := 41) (by decide) zs_703 (by decide) rfl zq1291 (Or.inl rfl) dX12_when_71 ?_
                    refine lv_iload hx hb dX12_when_74 (lv_at hl 6 rfl) ?_
                    refine zc_i Z (zr_S F Z (As := [.int (σ51 703 41), .int x6_51]) (zcX12_has l D A0 (σ51 703 41) x6_51 σ51 (zfX12_has (σ51 703 41) x6_51) rfl) zBX12_has zq1530 rfl ⟨⟨rfl, rfl⟩, Nat.le_of_ble_eq_true rfl, Nat.le_of_ble_eq_true rfl⟩ hl.1 rfl (Nat.le_of_ble_eq_true rfl) dX12_when_76 ⟨Nat.le_of_ble_eq_true rfl, Nat.le_of_ble_eq_true rfl⟩) (fun _ _ Z => ?_)
                    refine zb_ifne (tgt := 114) hx hb dX12_when_79 (by decide) h (fun h => ?_) (fun h => ?_)
                    · exact hj114 x3_51 x4_51 σ51 _ _ _ Z (lv_sub hl [0, 1, 2, 3, 4, 5, 6] rfl) h
                    · refine lv_iload_n hx hb dX12_when_82 rfl (lv_at hl 3 rfl) ?_
                      refine lv_iconst (v := (-1)) hx hb dX12_when_83 (by decide) ?_
                      obtain ⟨j102, ej102, h⟩ := lt_x h
                      have hj102 : ∀ (σ102 : Mm) (H : Heap) (locs : List Loc) (ls : Array Slot), zh D A0 σ102 GF 740 s.heap H locs → lv_has ls 7 [(0, .ref (A0 + 703)), (1, .int x1), (2, .int x2), (5, .int x5_37), (6, .int x6_51)] → j102 σ102 = some (r0, σr) → W p l e (zR 399 14918) s m [.ref (A0 + 703), .int x1, .int x2].toArray below meth c H locs 0 0 (MQ below (zQi D A0 r0 σr GF 740) [.ref (A0 + 703), .int x1, .int x2].toArray s 0 0 (zA A0)) (F0 m 102 ls []) := by
                        intro  σ102 H locs ls Z hl h
                        rw [ej102] at h
                        try dsimp only at h
                        refine lv_iload hx hb dX12_when_102 (lv_at hl 3 rfl) ?_
                        refine lv_istore_n (lv' := [(3, .int x5_37), (0, .ref (A0 + 703)), (1, .int x1), (2, .int x2), (5, .int x5_37), (6, .int x6_51)]) hx hb dX12_when_104 rfl hl (by decide) rfl (fun ls hl => ?_)
                        refine lv_aload_n hx hb dX12_when_105 rfl (lv_at hl 1 rfl) ?_
                        refine zw_getR F Z zC12 (a := 703) (k := 36) (by decide) zs_703 (by decide) rfl zg_703_36 zq1286 (Or.inl rfl) dX12_when_106 ?_
                        refine lv_iload hx hb dX12_when_109 (lv_at hl 5 rfl) ?_
                        obtain ⟨hk111, h⟩ := ck_x h
                        refine zw_iald F Z (by decide) zs_718 hk111 dX12_when_111 ?_
                        refine lv_topi (fun x4_112 ex4_112 => ?_)
                        replace h := lt_w h ex4_112
                        refine lv_istore (lv' := [(4, .int x4_112), (3, .int x5_37), (0, .ref (A0 + 703)), (1, .int x1), (2, .int x2), (5, .int x5_37), (6, .int x6_51)]) hx hb dX12_when_112 hl (by decide) rfl (fun ls hl => ?_)
                        exact hj114 x5_37 x4_112 σ102 _ _ _ Z (lv_sub hl [2, 3, 4, 1, 0, 5, 6] rfl) h
                      refine zb_iceq (tgt := 102) hx hb dX12_when_84 (by decide) h (fun h => ?_) (fun h => ?_)
                      · exact hj102 σ51 _ _ _ Z (lv_sub hl [0, 1, 2, 5, 6] rfl) h
                      · refine lv_aload_n hx hb dX12_when_87 rfl (lv_at hl 0 rfl) ?_
                        refine zw_getR F Z zC12 (a := 703) (k := 36) (by decide) zs_703 (by decide) rfl zg_703_36 zq1286 (Or.inl rfl) dX12_when_88 ?_
                        refine lv_iload hx hb dX12_when_91 (lv_at hl 6 rfl) ?_
                        obtain ⟨hk93, h⟩ := ck_x h
                        refine zw_iald F Z (by decide) zs_718 hk93 dX12_when_93 ?_
                        refine lv_iload hx hb dX12_when_94 (lv_at hl 4 rfl) ?_
                        refine zb_iclt (tgt := 102) hx hb dX12_when_96 (by decide) h (fun h => ?_) (fun h => ?_)
                        · exact hj102 σ51 _ _ _ Z (lv_sub hl [0, 1, 2, 5, 6] rfl) h
                        · refine lv_goto (tgt := 114) hx hb dX12_when_99 (by decide) ?_
                          exact hj114 x3_51 x4_51 σ51 _ _ _ Z (lv_sub hl [0, 1, 2, 3, 4, 5, 6] rfl) h
            exact hL51 NF x3_37 x4_37 0 σ45 _ _ _ Z (lv_sub hl [1, 2, 3, 4, 5, 6, 0] rfl) h
      exact hL37 NF (-1) 0 0 σ26 _ _ _ Z (lv_sub hl [3, 4, 5, 2, 1, 0] rfl) h
    · exact hj23 σ2 _ _ _ Z (lv_sub hl [] rfl) h
set_option maxHeartbeats 4000000 in
set_option maxRecDepth 100000 in
theorem zcX12_takenByAll (l : Launch) (D : va_G) (A0 : Nat) (σ : Mm) (r0 : Int32) (h : zfX12_takenByAll σ = some r0) : Met l yX12_takenByAll (zws yX12_takenByAll cX12_takenByAll 3 (some .int)) (zR 0 0) (zPc D A0 σ GF 740 [.ref (A0 + 703)]) (zQi D A0 r0 σ GF 740) 0 0 (zA A0) := by
  unfold zfX12_takenByAll at h
  refine zmet (own := RX12) (by decide) rfl (Nat.le_of_ble_eq_true rfl) ?_
  intro p e s m below meth c F hr hlocks _ Z ls hl
  have hl : lv_has ls 3 [(0, .ref (A0 + 703))] := hl
  have hx := F.1.1
  have hb := F.1.2.1
  have hown := F.1.2.2.2.1
  have hts := F.1.2.2.2.2
  refine lv_iconst (v := 0) hx hb dX12_takenByAll_0 (by decide) ?_
  refine lv_istore_n (lv' := [(1, .int 0), (0, .ref (A0 + 703))]) hx hb dX12_takenByAll_1 rfl hl (by decide) rfl (fun ls hl => ?_)
  refine lv_iconst (v := 0) hx hb dX12_takenByAll_2 (by decide) ?_
  refine lv_istore_n (lv' := [(2, .int 0), (1, .int 0), (0, .ref (A0 + 703))]) hx hb dX12_takenByAll_3 rfl hl (by decide) rfl (fun ls hl => ?_)
  obtain ⟨k27, ek27, h⟩ := lt_x h
  have hk27 : ∀ (x1_27 : Int32) (H : Heap) (locs : List Loc) (ls : Array Slot), zh D A0 σ GF 740 s.heap H locs → lv_has ls 3 [(1, .int x1_27)] → k27 x1_27 = some r0 → W p l e (zR 0 0) s m [.ref (A0 + 703)].toArray below meth c H locs 0 0 (MQ below (zQi D A0 r0 σ GF 740) [.ref (A0 + 703)].toArray s 0 0 (zA A0)) (F0 m 27 ls []) := by
    intro x1_27 H locs ls Z hl h
    rw [ek27] at h
    try dsimp only at h
    refine lv_iload_n hx hb dX12_takenByAll_27 rfl (lv_at hl 0 rfl) ?_
    have hq := Option.some.inj h
    exact ze_i F Z hr hlocks hq rfl dX12_takenByAll_28
  have hL4 : ∀ (fu4 : Nat) (x1_4 : Int32) (x2_4 : Int32) (H : Heap) (locs : List Loc) (ls : Array Slot), zh D A0 σ GF 740 s.heap H locs → lv_has ls 3 [(0, .ref (A0 + 703)), (1, .int x1_4), (2, .int x2_4)] → zfX12_takenByAll_L4 σ k27 fu4 x1_4 x2_4 = some r0 → W p l e (zR 0 0) s m [.ref (A0 + 703)].toArray below meth c H locs 0 0 (MQ below (zQi D A0 r0 σ GF 740) [.ref (A0 + 703)].toArray s 0 0 (zA A0)) (F0 m 4 ls []) := by
    intro fu4
    induction fu4 with
    | zero => intro x1_4 x2_4 H locs ls Z hl h; rw [zfX12_takenByAll_L4] at h; cases h
    | succ fu4 ih4 =>
      intro x1_4 x2_4 H locs ls Z hl h
      rw [zfX12_takenByAll_L4] at h
      refine lv_iload_n hx hb dX12_takenByAll_4 rfl (lv_at hl 2 rfl) ?_
      refine lv_aload_n hx hb dX12_takenByAll_5 rfl (lv_at hl 0 rfl) ?_
      refine zw_getI F Z zC12 (a := 703) (k := 24) (by decide) zs_703 (by decide) rfl zq1274 (Or.inl rfl) dX12_takenByAll_6 ?_
      refine zb_icge (tgt := 27) hx hb dX12_takenByAll_9 (by decide) h (fun h => ?_) (fun h => ?_)
      · exact hk27 x1_4 _ _ _ Z (lv_sub hl [1] rfl) h
      · refine lv_iload_n hx hb dX12_takenByAll_12 rfl (lv_at hl 1 rfl) ?_
        refine lv_aload_n hx hb dX12_takenByAll_13 rfl (lv_at hl 0 rfl) ?_
        refine zw_getR F Z zC12 (a := 703) (k := 37) (by decide) zs_703 (by decide) rfl zg_703_37 zq1287 (Or.inl rfl) dX12_takenByAll_14 ?_
        refine lv_iload_n hx hb dX12_takenByAll_17 rfl (lv_at hl 2 rfl) ?_
        obtain ⟨hk18, h⟩ := ck_x h
        refine zw_iald F Z (by decide) zs_719 hk18 dX12_takenByAll_18 ?_
        refine lv_iadd hx hb dX12_takenByAll_19 ?_
        refine lv_topi (fun x1_20 ex1_20 => ?_)
        replace h := lt_w h ex1_20
        refine lv_istore_n (lv' := [(1, .int x1_20), (0, .ref (A0 + 703)), (2, .int x2_4)]) hx hb dX12_takenByAll_20 rfl hl (by decide) rfl (fun ls hl => ?_)
        obtain ⟨x2_21, ex2_21⟩ : ∃ y : Int32, y = x2_4 + 1 := ⟨_, rfl⟩
        replace h := lt_w h ex2_21
        refine lv_iinc (v := x2_21) (lv' := [(2, .int x2_21), (1, .int x1_20), (0, .ref (A0 + 703))]) hx hb dX12_takenByAll_21 hl (k := 2) rfl (by rw [ex2_21]; rfl) (by decide) rfl (fun ls hl => ?_)
        refine lv_goto (tgt := 4) hx hb dX12_takenByAll_24 (by decide) ?_
        exact ih4 x1_20 x2_21 _ _ _ Z (lv_sub hl [2, 1, 0] rfl) h
  exact hL4 NF 0 0 _ _ _ Z (lv_sub hl [2, 1, 0] rfl) h
set_option maxHeartbeats 4000000 in
set_option maxRecDepth 100000 in
theorem zcX12_stranger (l : Launch) (D : va_G) (A0 : Nat) (x1 : Int32) (x2 : Int32) (x3 : Int32) (σ : Mm) (r0 : Int32) (σr : Mm) (h : zfX12_stranger x1 x2 x3 σ = some (r0, σr)) : Met l yX12_stranger (zws yX12_stranger cX12_stranger 7 (some .int)) (zR 399 14918) (zPc D A0 σ GF 740 [.ref (A0 + 703), .int x1, .int x2, .int x3]) (zQi D A0 r0 σr GF 740) 0 0 (zA A0) := by
  unfold zfX12_stranger at h
  refine zmet (own := RX12) (by decide) rfl (Nat.le_of_ble_eq_true rfl) ?_
  intro p e s m below meth c F hr hlocks _ Z ls hl
  have hl : lv_has ls 7 [(0, .ref (A0 + 703)), (1, .int x1), (2, .int x2), (3, .int x3)] := hl
  have hx := F.1.1
  have hb := F.1.2.1
  have hown := F.1.2.2.2.1
  have hts := F.1.2.2.2.2
  refine lv_aload_n hx hb dX12_stranger_0 rfl (lv_at hl 0 rfl) ?_
  refine lv_iconst (v := 0) hx hb dX12_stranger_1 (by decide) ?_
  refine zw_putI F Z zC12 (a := 703) (k := 0) (by decide) zs_703 (by decide) rfl (by decide) zq1250 (Or.inl rfl) rfl ⟨rfl, rfl⟩ dX12_stranger_2 (fun σ2 _ _ eσ2 Z => ?_)
  replace h := lt_w h eσ2
  refine lv_aload_n hx hb dX12_stranger_5 rfl (lv_at hl 0 rfl) ?_
  refine zw_getI F Z zC12 (a := 703) (k := 24) (by decide) zs_703 (by decide) rfl zq1274 (Or.inl rfl) dX12_stranger_6 ?_
  obtain ⟨j48, ej48, h⟩ := lt_x h
  have hj48 : ∀ (σ48 : Mm) (H : Heap) (locs : List Loc) (ls : Array Slot), zh D A0 σ48 GF 740 s.heap H locs → lv_has ls 7 [] → j48 σ48 = some (r0, σr) → W p l e (zR 399 14918) s m [.ref (A0 + 703), .int x1, .int x2, .int x3].toArray below meth c H locs 0 0 (MQ below (zQi D A0 r0 σr GF 740) [.ref (A0 + 703), .int x1, .int x2, .int x3].toArray s 0 0 (zA A0)) (F0 m 48 ls []) := by
    intro  σ48 H locs ls Z hl h
    rw [ej48] at h
    try dsimp only at h
    refine lv_ldcw (v := (-1000000)) hx hb hown (hts _ zq1737) dX12_stranger_48 ?_
    obtain ⟨hq1, hq2⟩ := zpq h
    exact ze_i F Z hr hlocks hq1 hq2 dX12_stranger_51
  refine zb_ifeq (tgt := 48) hx hb dX12_stranger_9 (by decide) h (fun h => ?_) (fun h => ?_)
  · exact hj48 σ2 _ _ _ Z (lv_sub hl [] rfl) h
  · refine lv_iload_n hx hb dX12_stranger_12 rfl (lv_at hl 1 rfl) ?_
    refine lv_i2l hx hb dX12_stranger_13 rfl ?_
    refine lv_lconst (v := 1) hx hb dX12_stranger_14 (by decide) ?_
    refine lv_ldc2 (v := 99) hx hb hown (hts _ zq1780) dX12_stranger_15 ?_
    refine zc_i Z (zr_S F Z (As := [.long (Int32.toInt64 x1), .long 1, .long 99]) (zcX12_isIn l D A0 (Int32.toInt64 x1) 1 99 σ2 (zfX12_isIn (Int32.toInt64 x1) 1 99) rfl) zBX12_isIn zq1496 rfl ⟨⟨rfl, rfl⟩, Nat.le_of_ble_eq_true rfl, Nat.le_of_ble_eq_true rfl⟩ hl.1 rfl (Nat.le_of_ble_eq_true rfl) dX12_stranger_18 ⟨Nat.le_of_ble_eq_true rfl, Nat.le_of_ble_eq_true rfl⟩) (fun _ _ Z => ?_)
    refine zb_ifeq (tgt := 48) hx hb dX12_stranger_21 (by decide) h (fun h => ?_) (fun h => ?_)
    · exact hj48 σ2 _ _ _ Z (lv_sub hl [] rfl) h
    · refine lv_iload_n hx hb dX12_stranger_24 rfl (lv_at hl 2 rfl) ?_
      refine lv_i2l hx hb dX12_stranger_25 rfl ?_
      refine lv_lconst (v := 0) hx hb dX12_stranger_26 (by decide) ?_
      refine lv_ldc2 (v := 20) hx hb hown (hts _ zq1770) dX12_stranger_27 ?_
      refine zc_i Z (zr_S F Z (As := [.long (Int32.toInt64 x2), .long 0, .long 20]) (zcX12_isIn l D A0 (Int32.toInt64 x2) 0 20 σ2 (zfX12_isIn (Int32.toInt64 x2) 0 20) rfl) zBX12_isIn zq1496 rfl ⟨⟨rfl, rfl⟩, Nat.le_of_ble_eq_true rfl, Nat.le_of_ble_eq_true rfl⟩ hl.1 rfl (Nat.le_of_ble_eq_true rfl) dX12_stranger_30 ⟨Nat.le_of_ble_eq_true rfl, Nat.le_of_ble_eq_true rfl⟩) (fun _ _ Z => ?_)
      refine zb_ifeq (tgt := 48) hx hb dX12_stranger_33 (by decide) h (fun h => ?_) (fun h => ?_)
      · exact hj48 σ2 _ _ _ Z (lv_sub hl [] rfl) h
      · refine lv_iload_n hx hb dX12_stranger_36 rfl (lv_at hl 3 rfl) ?_
        refine lv_i2l hx hb dX12_stranger_37 rfl ?_
        refine lv_lconst (v := 0) hx hb dX12_stranger_38 (by decide) ?_
        refine lv_ldc2 (v := 2) hx hb hown (hts _ zq1781) dX12_stranger_39 ?_
        refine zc_i Z (zr_S F Z (As := [.long (Int32.toInt64 x3), .long 0, .long 2]) (zcX12_isIn l D A0 (Int32.toInt64 x3) 0 2 σ2 (zfX12_isIn (Int32.toInt64 x3) 0 2) rfl) zBX12_isIn zq1496 rfl ⟨⟨rfl, rfl⟩, Nat.le_of_ble_eq_true rfl, Nat.le_of_ble_eq_true rfl⟩ hl.1 rfl (Nat.le_of_ble_eq_true rfl) dX12_stranger_42 ⟨Nat.le_of_ble_eq_true rfl, Nat.le_of_ble_eq_true rfl⟩) (fun _ _ Z => ?_)
        refine zb_ifne (tgt := 52) hx hb dX12_stranger_45 (by decide) h (fun h => ?_) (fun h => ?_)
        · refine lv_aload_n hx hb dX12_stranger_52 rfl (lv_at hl 0 rfl) ?_
          obtain ⟨σ53, hc53, h⟩ := bd_x h
          refine zc_v Z (zr_V F Z (a := 703) (As := []) (zcX12_keep l D A0 σ2 σ53 hc53) zBX12_keep zq1701 (by decide) zs_703 zC12.1 rfl ⟨⟨rfl, rfl⟩, Nat.le_of_ble_eq_true rfl, Nat.le_of_ble_eq_true rfl⟩ hl.1 rfl (Nat.le_of_ble_eq_true rfl) dX12_stranger_53 ⟨Nat.le_of_ble_eq_true rfl, Nat.le_of_ble_eq_true rfl⟩) (fun _ _ Z => ?_)
          refine lv_aload_n hx hb dX12_stranger_56 rfl (lv_at hl 0 rfl) ?_
          refine lv_iconst (v := 0) hx hb dX12_stranger_57 (by decide) ?_
          obtain ⟨σ58, hc58, h⟩ := bd_x h
          refine zc_v Z (zr_V F Z (a := 703) (As := [.int 0]) (zcX12_goes l D A0 0 σ53 σ58 hc58) zBX12_goes zq1663 (by decide) zs_703 zC12.1 rfl ⟨⟨rfl, rfl⟩, Nat.le_of_ble_eq_true rfl, Nat.le_of_ble_eq_true rfl⟩ hl.1 rfl (Nat.le_of_ble_eq_true rfl) dX12_stranger_58 ⟨Nat.le_of_ble_eq_true rfl, Nat.le_of_ble_eq_true rfl⟩) (fun _ _ Z => ?_)
          refine lv_aload_n hx hb dX12_stranger_61 rfl (lv_at hl 0 rfl) ?_
          obtain ⟨r62, hc62, h⟩ := bd_x h
          refine zc_i Z (zr_V F Z (a := 703) (As := []) (zcX12_takenByAll l D A0 σ58 r62 hc62) zBX12_takenByAll zq1782 (by decide) zs_703 zC12.1 rfl ⟨⟨rfl, rfl⟩, Nat.le_of_ble_eq_true rfl, Nat.le_of_ble_eq_true rfl⟩ hl.1 rfl (Nat.le_of_ble_eq_true rfl) dX12_stranger_62 ⟨Nat.le_of_ble_eq_true rfl, Nat.le_of_ble_eq_true rfl⟩) (fun _ _ Z => ?_)
          refine lv_istore (lv' := [(4, .int r62), (0, .ref (A0 + 703)), (1, .int x1), (2, .int x2), (3, .int x3)]) hx hb dX12_stranger_65 hl (by decide) rfl (fun ls hl => ?_)
          refine lv_aload_n hx hb dX12_stranger_67 rfl (lv_at hl 1 rfl) ?_
          obtain ⟨σ68, hc68, h⟩ := bd_x h
          refine zc_v Z (zr_V F Z (a := 703) (As := []) (zcX12_putBack l D A0 σ58 σ68 hc68) zBX12_putBack zq1709 (by decide) zs_703 zC12.1 rfl ⟨⟨rfl, rfl⟩, Nat.le_of_ble_eq_true rfl, Nat.le_of_ble_eq_true rfl⟩ hl.1 rfl (Nat.le_of_ble_eq_true rfl) dX12_stranger_68 ⟨Nat.le_of_ble_eq_true rfl, Nat.le_of_ble_eq_true rfl⟩) (fun _ _ Z => ?_)
          refine lv_aload_n hx hb dX12_stranger_71 rfl (lv_at hl 1 rfl) ?_
          refine lv_iload_n hx hb dX12_stranger_72 rfl (lv_at hl 2 rfl) ?_
          refine zw_putI F Z zC12 (a := 703) (k := 43) (by decide) zs_703 (by decide) rfl (by decide) zq1293 (Or.inl rfl) rfl ⟨rfl, rfl⟩ dX12_stranger_73 (fun σ73 _ _ eσ73 Z => ?_)
          replace h := lt_w h eσ73
          refine lv_aload_n hx hb dX12_stranger_76 rfl (lv_at hl 1 rfl) ?_
          refine lv_iload_n hx hb dX12_stranger_77 rfl (lv_at hl 3 rfl) ?_
          refine zw_putI F Z zC12 (a := 703) (k := 44) (by decide) zs_703 (by decide) rfl (by decide) zq1294 (Or.inl rfl) rfl ⟨rfl, rfl⟩ dX12_stranger_78 (fun σ78 _ _ eσ78 Z => ?_)
          replace h := lt_w h eσ78
          refine lv_aload_n hx hb dX12_stranger_81 rfl (lv_at hl 1 rfl) ?_
          refine lv_iconst (v := 0) hx hb dX12_stranger_82 (by decide) ?_
          obtain ⟨σ83, hc83, h⟩ := bd_x h
          refine zc_v Z (zr_V F Z (a := 703) (As := [.int 0]) (zcX12_goes l D A0 0 σ78 σ83 hc83) zBX12_goes zq1663 (by decide) zs_703 zC12.1 rfl ⟨⟨rfl, rfl⟩, Nat.le_of_ble_eq_true rfl, Nat.le_of_ble_eq_true rfl⟩ hl.1 rfl (Nat.le_of_ble_eq_true rfl) dX12_stranger_83 ⟨Nat.le_of_ble_eq_true rfl, Nat.le_of_ble_eq_true rfl⟩) (fun _ _ Z => ?_)
          refine lv_aload_n hx hb dX12_stranger_86 rfl (lv_at hl 1 rfl) ?_
          refine zw_getR F Z zC12 (a := 703) (k := 29) (by decide) zs_703 (by decide) rfl zg_703_29 zq1279 (Or.inl rfl) dX12_stranger_87 ?_
          refine lv_bipush (v := 54) hx hb dX12_stranger_90 (by decide) ?_
          refine zw_iald F Z (by decide) zs_714 (by decide) dX12_stranger_92 ?_
          refine lv_topi (fun x5_93 ex5_93 => ?_)
          replace h := lt_w h ex5_93
          refine lv_istore (lv' := [(5, .int x5_93), (4, .int r62), (0, .ref (A0 + 703)), (1, .int x1), (2, .int x2), (3, .int x3)]) hx hb dX12_stranger_93 hl (by decide) rfl (fun ls hl => ?_)
          refine lv_iload hx hb dX12_stranger_95 (lv_at hl 1 rfl) ?_
          refine lv_aload_n hx hb dX12_stranger_97 rfl (lv_at hl 2 rfl) ?_
          obtain ⟨r98, hc98, h⟩ := bd_x h
          refine zc_i Z (zr_V F Z (a := 703) (As := []) (zcX12_takenByAll l D A0 σ83 r98 hc98) zBX12_takenByAll zq1782 (by decide) zs_703 zC12.1 rfl ⟨⟨rfl, rfl⟩, Nat.le_of_ble_eq_true rfl, Nat.le_of_ble_eq_true rfl⟩ hl.1 rfl (Nat.le_of_ble_eq_true rfl) dX12_stranger_98 ⟨Nat.le_of_ble_eq_true rfl, Nat.le_of_ble_eq_true rfl⟩) (fun _ _ Z => ?_)
          refine lv_isub hx hb dX12_stranger_101 ?_
          refine lv_topi (fun x6_102 ex6_102 => ?_)
          replace h := lt_w h ex6_102
          refine lv_istore (lv' := [(6, .int x6_102), (5, .int x5_93), (4, .int r62), (0, .ref (A0 + 703)), (1, .int x1), (2, .int x2), (3, .int x3)]) hx hb dX12_stranger_102 hl (by decide) rfl (fun ls hl => ?_)
          refine lv_aload_n hx hb dX12_stranger_104 rfl (lv_at hl 3 rfl) ?_
          obtain ⟨σ105, hc105, h⟩ := bd_x h
          refine zc_v Z (zr_V F Z (a := 703) (As := []) (zcX12_putBack l D A0 σ83 σ105 hc105) zBX12_putBack zq1709 (by decide) zs_703 zC12.1 rfl ⟨⟨rfl, rfl⟩, Nat.le_of_ble_eq_true rfl, Nat.le_of_ble_eq_true rfl⟩ hl.1 rfl (Nat.le_of_ble_eq_true rfl) dX12_stranger_105 ⟨Nat.le_of_ble_eq_true rfl, Nat.le_of_ble_eq_true rfl⟩) (fun _ _ Z => ?_)
          refine lv_aload_n hx hb dX12_stranger_108 rfl (lv_at hl 3 rfl) ?_
          refine lv_iconst (v := 0) hx hb dX12_stranger_109 (by decide) ?_
          refine zw_putI F Z zC12 (a := 703) (k := 43) (by decide) zs_703 (by decide) rfl (by decide) zq1293 (Or.inl rfl) rfl ⟨rfl, rfl⟩ dX12_stranger_110 (fun σ110 _ _ eσ110 Z => ?_)
          replace h := lt_w h eσ110
          refine lv_iload_n hx hb dX12_stranger_113 rfl (lv_at hl 6 rfl) ?_
          refine zb_ifne (tgt := 122) hx hb dX12_stranger_114 (by decide) h (fun h => ?_) (fun h => ?_)
          · refine lv_iload_n hx hb dX12_stranger_122 rfl (lv_at hl 6 rfl) ?_
            refine lv_iconst (v := 1) hx hb dX12_stranger_123 (by decide) ?_
            refine zb_icne (tgt := 134) hx hb dX12_stranger_124 (by decide) h (fun h => ?_) (fun h => ?_)
            · refine lv_iload hx hb dX12_stranger_134 (lv_at hl 0 rfl) ?_
              obtain ⟨hq1, hq2⟩ := zpq h
              exact ze_i F Z hr hlocks hq1 hq2 dX12_stranger_136
            · refine lv_aload_n hx hb dX12_stranger_127 rfl (lv_at hl 3 rfl) ?_
              refine zw_getI F Z zC12 (a := 703) (k := 45) (by decide) zs_703 (by decide) rfl zq1295 (Or.inl rfl) dX12_stranger_128 ?_
              refine lv_goto (tgt := 136) hx hb dX12_stranger_131 (by decide) ?_
              obtain ⟨hq1, hq2⟩ := zpq h
              exact ze_i F Z hr hlocks hq1 hq2 dX12_stranger_136
          · refine lv_iload hx hb dX12_stranger_117 (lv_at hl 1 rfl) ?_
            refine lv_goto (tgt := 136) hx hb dX12_stranger_119 (by decide) ?_
            obtain ⟨hq1, hq2⟩ := zpq h
            exact ze_i F Z hr hlocks hq1 hq2 dX12_stranger_136
        · exact hj48 σ2 _ _ _ Z (lv_sub hl [] rfl) h
set_option maxHeartbeats 4000000 in
set_option maxRecDepth 100000 in
theorem zcX12_see (l : Launch) (D : va_G) (A0 : Nat) (x1 : Int32) (x2 : Int32) (σ : Mm) (r0 : Int32) (σr : Mm) (h : zfX12_see x1 x2 σ = some (r0, σr)) : Met l yX12_see (zws yX12_see cX12_see 3 (some .int)) (zR 2 45) (zPc D A0 σ GF 740 [.ref (A0 + 703), .int x1, .int x2]) (zQi D A0 r0 σr GF 740) 0 0 (zA A0) := by
  unfold zfX12_see at h
  refine zmet (own := RX12) (by decide) rfl (Nat.le_of_ble_eq_true rfl) ?_
  intro p e s m below meth c F hr hlocks _ Z ls hl
  have hl : lv_has ls 3 [(0, .ref (A0 + 703)), (1, .int x1), (2, .int x2)] := hl
  have hx := F.1.1
  have hb := F.1.2.1
  have hown := F.1.2.2.2.1
  have hts := F.1.2.2.2.2
  refine lv_aload_n hx hb dX12_see_0 rfl (lv_at hl 0 rfl) ?_
  refine lv_iconst (v := 0) hx hb dX12_see_1 (by decide) ?_
  refine zw_putI F Z zC12 (a := 703) (k := 0) (by decide) zs_703 (by decide) rfl (by decide) zq1250 (Or.inl rfl) rfl ⟨rfl, rfl⟩ dX12_see_2 (fun σ2 _ _ eσ2 Z => ?_)
  replace h := lt_w h eσ2
  refine lv_aload_n hx hb dX12_see_5 rfl (lv_at hl 0 rfl) ?_
  refine zw_getI F Z zC12 (a := 703) (k := 24) (by decide) zs_703 (by decide) rfl zq1274 (Or.inl rfl) dX12_see_6 ?_
  obtain ⟨j40, ej40, h⟩ := lt_x h
  have hj40 : ∀ (σ40 : Mm) (H : Heap) (locs : List Loc) (ls : Array Slot), zh D A0 σ40 GF 740 s.heap H locs → lv_has ls 3 [] → j40 σ40 = some (r0, σr) → W p l e (zR 2 45) s m [.ref (A0 + 703), .int x1, .int x2].toArray below meth c H locs 0 0 (MQ below (zQi D A0 r0 σr GF 740) [.ref (A0 + 703), .int x1, .int x2].toArray s 0 0 (zA A0)) (F0 m 40 ls []) := by
    intro  σ40 H locs ls Z hl h
    rw [ej40] at h
    try dsimp only at h
    refine lv_iconst (v := (-1)) hx hb dX12_see_40 (by decide) ?_
    obtain ⟨hq1, hq2⟩ := zpq h
    exact ze_i F Z hr hlocks hq1 hq2 dX12_see_41
  refine zb_ifeq (tgt := 40) hx hb dX12_see_9 (by decide) h (fun h => ?_) (fun h => ?_)
  · exact hj40 σ2 _ _ _ Z (lv_sub hl [] rfl) h
  · refine lv_aload_n hx hb dX12_see_12 rfl (lv_at hl 0 rfl) ?_
    refine zw_getI F Z zC12 (a := 703) (k := 62) (by decide) zs_703 (by decide) rfl zq1312 (Or.inl rfl) dX12_see_13 ?_
    refine lv_bipush (v := 20) hx hb dX12_see_16 (by decide) ?_
    refine zb_iceq (tgt := 40) hx hb dX12_see_18 (by decide) h (fun h => ?_) (fun h => ?_)
    · exact hj40 σ2 _ _ _ Z (lv_sub hl [] rfl) h
    · refine lv_iload_n hx hb dX12_see_21 rfl (lv_at hl 1 rfl) ?_
      refine zc_i Z (zr_S F Z (As := [.int x1]) (zcX12_areDays l D A0 x1 σ2 (zfX12_areDays x1) rfl) zBX12_areDays zq1653 rfl ⟨⟨rfl, rfl⟩, Nat.le_of_ble_eq_true rfl, Nat.le_of_ble_eq_true rfl⟩ hl.1 rfl (Nat.le_of_ble_eq_true rfl) dX12_see_22 ⟨Nat.le_of_ble_eq_true rfl, Nat.le_of_ble_eq_true rfl⟩) (fun _ _ Z => ?_)
      refine zb_ifeq (tgt := 40) hx hb dX12_see_25 (by decide) h (fun h => ?_) (fun h => ?_)
      · exact hj40 σ2 _ _ _ Z (lv_sub hl [] rfl) h
      · refine lv_iload_n hx hb dX12_see_28 rfl (lv_at hl 2 rfl) ?_
        refine lv_i2l hx hb dX12_see_29 rfl ?_
        refine lv_lconst (v := 0) hx hb dX12_see_30 (by decide) ?_
        refine lv_ldc2 (v := 20) hx hb hown (hts _ zq1770) dX12_see_31 ?_
        refine zc_i Z (zr_S F Z (As := [.long (Int32.toInt64 x2), .long 0, .long 20]) (zcX12_isIn l D A0 (Int32.toInt64 x2) 0 20 σ2 (zfX12_isIn (Int32.toInt64 x2) 0 20) rfl) zBX12_isIn zq1496 rfl ⟨⟨rfl, rfl⟩, Nat.le_of_ble_eq_true rfl, Nat.le_of_ble_eq_true rfl⟩ hl.1 rfl (Nat.le_of_ble_eq_true rfl) dX12_see_34 ⟨Nat.le_of_ble_eq_true rfl, Nat.le_of_ble_eq_true rfl⟩) (fun _ _ Z => ?_)
        refine zb_ifne (tgt := 42) hx hb dX12_see_37 (by decide) h (fun h => ?_) (fun h => ?_)
        · refine lv_aload_n hx hb dX12_see_42 rfl (lv_at hl 0 rfl) ?_
          refine zw_getR F Z zC12 (a := 703) (k := 60) (by decide) zs_703 (by decide) rfl zg_703_60 zq1310 (Or.inl rfl) dX12_see_43 ?_
          refine lv_aload_n hx hb dX12_see_46 rfl (lv_at hl 0 rfl) ?_
          refine zw_getI F Z zC12 (a := 703) (k := 62) (by decide) zs_703 (by decide) rfl zq1312 (Or.inl rfl) dX12_see_47 ?_
          refine lv_iload_n hx hb dX12_see_50 rfl (lv_at hl 1 rfl) ?_
          obtain ⟨hk51, h⟩ := ck_x h
          refine zw_iast F Z (by decide) zs_731 hk51 dX12_see_51 (fun σ51 _ _ eσ51 Z => ?_)
          replace h := lt_w h eσ51
          refine lv_aload_n hx hb dX12_see_52 rfl (lv_at hl 0 rfl) ?_
          refine zw_getR F Z zC12 (a := 703) (k := 61) (by decide) zs_703 (by decide) rfl zg_703_61 zq1311 (Or.inl rfl) dX12_see_53 ?_
          refine lv_aload_n hx hb dX12_see_56 rfl (lv_at hl 0 rfl) ?_
          refine zw_getI F Z zC12 (a := 703) (k := 62) (by decide) zs_703 (by decide) rfl zq1312 (Or.inl rfl) dX12_see_57 ?_
          refine lv_iload_n hx hb dX12_see_60 rfl (lv_at hl 2 rfl) ?_
          obtain ⟨hk61, h⟩ := ck_x h
          refine zw_iast F Z (by decide) zs_732 hk61 dX12_see_61 (fun σ61 _ _ eσ61 Z => ?_)
          replace h := lt_w h eσ61
          refine lv_aload_n hx hb dX12_see_62 rfl (lv_at hl 0 rfl) ?_
          refine lv_dup hx hb dX12_see_63 rfl ?_
          refine zw_getI F Z zC12 (a := 703) (k := 62) (by decide) zs_703 (by decide) rfl zq1312 (Or.inl rfl) dX12_see_64 ?_
          refine lv_iconst (v := 1) hx hb dX12_see_67 (by decide) ?_
          refine lv_iadd hx hb dX12_see_68 ?_
          refine zw_putI F Z zC12 (a := 703) (k := 62) (by decide) zs_703 (by decide) rfl (by decide) zq1312 (Or.inl rfl) rfl ⟨rfl, rfl⟩ dX12_see_69 (fun σ69 _ _ eσ69 Z => ?_)
          replace h := lt_w h eσ69
          refine lv_aload_n hx hb dX12_see_72 rfl (lv_at hl 0 rfl) ?_
          refine zw_getI F Z zC12 (a := 703) (k := 62) (by decide) zs_703 (by decide) rfl zq1312 (Or.inl rfl) dX12_see_73 ?_
          obtain ⟨hq1, hq2⟩ := zpq h
          exact ze_i F Z hr hlocks hq1 hq2 dX12_see_76
        · exact hj40 σ2 _ _ _ Z (lv_sub hl [] rfl) h
set_option maxHeartbeats 4000000 in
set_option maxRecDepth 100000 in
theorem zcX12_fits (l : Launch) (D : va_G) (A0 : Nat) (x1 : Int32) (σ : Mm) (r0 : Int32) (σr : Mm) (h : zfX12_fits x1 σ = some (r0, σr)) : Met l yX12_fits (zws yX12_fits cX12_fits 7 (some .int)) (zR 400 14940) (zPc D A0 σ GF 740 [.ref (A0 + 703), .int x1]) (zQi D A0 r0 σr GF 740) 0 0 (zA A0) := by
  unfold zfX12_fits at h
  refine zmet (own := RX12) (by decide) rfl (Nat.le_of_ble_eq_true rfl) ?_
  intro p e s m below meth c F hr hlocks _ Z ls hl
  have hl : lv_has ls 7 [(0, .ref (A0 + 703)), (1, .int x1)] := hl
  have hx := F.1.1
  have hb := F.1.2.1
  have hown := F.1.2.2.2.1
  have hts := F.1.2.2.2.2
  refine lv_aload_n hx hb dX12_fits_0 rfl (lv_at hl 0 rfl) ?_
  refine lv_iconst (v := 0) hx hb dX12_fits_1 (by decide) ?_
  refine zw_putI F Z zC12 (a := 703) (k := 0) (by decide) zs_703 (by decide) rfl (by decide) zq1250 (Or.inl rfl) rfl ⟨rfl, rfl⟩ dX12_fits_2 (fun σ2 _ _ eσ2 Z => ?_)
  replace h := lt_w h eσ2
  refine lv_aload_n hx hb dX12_fits_5 rfl (lv_at hl 0 rfl) ?_
  refine zw_getI F Z zC12 (a := 703) (k := 24) (by decide) zs_703 (by decide) rfl zq1274 (Or.inl rfl) dX12_fits_6 ?_
  obtain ⟨j17, ej17, h⟩ := lt_x h
  have hj17 : ∀ (σ17 : Mm) (H : Heap) (locs : List Loc) (ls : Array Slot), zh D A0 σ17 GF 740 s.heap H locs → lv_has ls 7 [] → j17 σ17 = some (r0, σr) → W p l e (zR 400 14940) s m [.ref (A0 + 703), .int x1].toArray below meth c H locs 0 0 (MQ below (zQi D A0 r0 σr GF 740) [.ref (A0 + 703), .int x1].toArray s 0 0 (zA A0)) (F0 m 17 ls []) := by
    intro  σ17 H locs ls Z hl h
    rw [ej17] at h
    try dsimp only at h
    refine lv_iconst (v := (-1)) hx hb dX12_fits_17 (by decide) ?_
    obtain ⟨hq1, hq2⟩ := zpq h
    exact ze_i F Z hr hlocks hq1 hq2 dX12_fits_18
  refine zb_ifeq (tgt := 17) hx hb dX12_fits_9 (by decide) h (fun h => ?_) (fun h => ?_)
  · exact hj17 σ2 _ _ _ Z (lv_sub hl [] rfl) h
  · refine lv_iload_n hx hb dX12_fits_12 rfl (lv_at hl 1 rfl) ?_
    refine lv_iconst (v := (-1)) hx hb dX12_fits_13 (by decide) ?_
    refine zb_icge (tgt := 19) hx hb dX12_fits_14 (by decide) h (fun h => ?_) (fun h => ?_)
    · refine lv_aload_n hx hb dX12_fits_19 rfl (lv_at hl 0 rfl) ?_
      obtain ⟨σ20, hc20, h⟩ := bd_x h
      refine zc_v Z (zr_V F Z (a := 703) (As := []) (zcX12_keep l D A0 σ2 σ20 hc20) zBX12_keep zq1701 (by decide) zs_703 zC12.1 rfl ⟨⟨rfl, rfl⟩, Nat.le_of_ble_eq_true rfl, Nat.le_of_ble_eq_true rfl⟩ hl.1 rfl (Nat.le_of_ble_eq_true rfl) dX12_fits_20 ⟨Nat.le_of_ble_eq_true rfl, Nat.le_of_ble_eq_true rfl⟩) (fun _ _ Z => ?_)
      refine lv_iconst (v := 0) hx hb dX12_fits_23 (by decide) ?_
      refine lv_istore_n (lv' := [(2, .int 0), (0, .ref (A0 + 703)), (1, .int x1)]) hx hb dX12_fits_24 rfl hl (by decide) rfl (fun ls hl => ?_)
      refine lv_iconst (v := (-1)) hx hb dX12_fits_25 (by decide) ?_
      refine lv_istore_n (lv' := [(3, .int (-1)), (2, .int 0), (0, .ref (A0 + 703)), (1, .int x1)]) hx hb dX12_fits_26 rfl hl (by decide) rfl (fun ls hl => ?_)
      refine lv_iconst (v := 0) hx hb dX12_fits_27 (by decide) ?_
      refine lv_istore (lv' := [(4, .int 0), (3, .int (-1)), (2, .int 0), (0, .ref (A0 + 703)), (1, .int x1)]) hx hb dX12_fits_28 hl (by decide) rfl (fun ls hl => ?_)
      obtain ⟨k137, ek137, h⟩ := lt_x h
      have hk137 : ∀ (x2_137 : Int32) (x3_137 : Int32) (σ137 : Mm) (H : Heap) (locs : List Loc) (ls : Array Slot), zh D A0 σ137 GF 740 s.heap H locs → lv_has ls 7 [(1, .int x1), (2, .int x2_137), (3, .int x3_137)] → k137 x2_137 x3_137 σ137 = some (r0, σr) → W p l e (zR 400 14940) s m [.ref (A0 + 703), .int x1].toArray below meth c H locs 0 0 (MQ below (zQi D A0 r0 σr GF 740) [.ref (A0 + 703), .int x1].toArray s 0 0 (zA A0)) (F0 m 137 ls []) := by
        intro x2_137 x3_137 σ137 H locs ls Z hl h
        rw [ek137] at h
        try dsimp only at h
        refine lv_iload_n hx hb dX12_fits_137 rfl (lv_at hl 0 rfl) ?_
        refine lv_iconst (v := (-1)) hx hb dX12_fits_138 (by decide) ?_
        refine zb_icne (tgt := 146) hx hb dX12_fits_139 (by decide) h (fun h => ?_) (fun h => ?_)
        · refine lv_iload_n hx hb dX12_fits_146 rfl (lv_at hl 2 rfl) ?_
          obtain ⟨hq1, hq2⟩ := zpq h
          exact ze_i F Z hr hlocks hq1 hq2 dX12_fits_147
        · refine lv_iload_n hx hb dX12_fits_142 rfl (lv_at hl 1 rfl) ?_
          refine lv_goto (tgt := 147) hx hb dX12_fits_143 (by decide) ?_
          obtain ⟨hq1, hq2⟩ := zpq h
          exact ze_i F Z hr hlocks hq1 hq2 dX12_fits_147
      have hL30 : ∀ (fu30 : Nat) (x2_30 : Int32) (x3_30 : Int32) (x4_30 : Int32) (σ30 : Mm) (H : Heap) (locs : List Loc) (ls : Array Slot), zh D A0 σ30 GF 740 s.heap H locs → lv_has ls 7 [(0, .ref (A0 + 703)), (1, .int x1), (2, .int x2_30), (3, .int x3_30), (4, .int x4_30)] → zfX12_fits_L30 k137 x1 fu30 x2_30 x3_30 x4_30 σ30 = some (r0, σr) → W p l e (zR 400 14940) s m [.ref (A0 + 703), .int x1].toArray below meth c H locs 0 0 (MQ below (zQi D A0 r0 σr GF 740) [.ref (A0 + 703), .int x1].toArray s 0 0 (zA A0)) (F0 m 30 ls []) := by
        intro fu30
        induction fu30 with
        | zero => intro x2_30 x3_30 x4_30 σ30 H locs ls Z hl h; rw [zfX12_fits_L30] at h; cases h
        | succ fu30 ih30 =>
          intro x2_30 x3_30 x4_30 σ30 H locs ls Z hl h
          rw [zfX12_fits_L30] at h
          refine lv_iload hx hb dX12_fits_30 (lv_at hl 4 rfl) ?_
          refine lv_iconst (v := 1) hx hb dX12_fits_32 (by decide) ?_
          refine lv_aload_n hx hb dX12_fits_33 rfl (lv_at hl 0 rfl) ?_
          refine zw_getI F Z zC12 (a := 703) (k := 24) (by decide) zs_703 (by decide) rfl zq1274 (Or.inl rfl) dX12_fits_34 ?_
          refine lv_ishl hx hb dX12_fits_37 ?_
          refine zb_icge (tgt := 137) hx hb dX12_fits_38 (by decide) h (fun h => ?_) (fun h => ?_)
          · exact hk137 x2_30 x3_30 σ30 _ _ _ Z (lv_sub hl [1, 2, 3] rfl) h
          · refine lv_aload_n hx hb dX12_fits_41 rfl (lv_at hl 0 rfl) ?_
            refine lv_iload hx hb dX12_fits_42 (lv_at hl 4 rfl) ?_
            refine zw_putI F Z zC12 (a := 703) (k := 41) (by decide) zs_703 (by decide) rfl (by decide) zq1291 (Or.inl rfl) rfl ⟨rfl, rfl⟩ dX12_fits_44 (fun σ44 _ _ eσ44 Z => ?_)
            replace h := lt_w h eσ44
            refine lv_aload_n hx hb dX12_fits_47 rfl (lv_at hl 0 rfl) ?_
            refine lv_bipush (v := 30) hx hb dX12_fits_48 (by decide) ?_
            obtain ⟨σ50, hc50, h⟩ := bd_x h
            refine zc_v Z (zr_V F Z (a := 703) (As := [.int 30]) (zcX12_tries l D A0 30 σ44 σ50 hc50) zBX12_tries zq1705 (by decide) zs_703 zC12.1 rfl ⟨⟨rfl, rfl⟩, Nat.le_of_ble_eq_true rfl, Nat.le_of_ble_eq_true rfl⟩ hl.1 rfl (Nat.le_of_ble_eq_true rfl) dX12_fits_50 ⟨Nat.le_of_ble_eq_true rfl, Nat.le_of_ble_eq_true rfl⟩) (fun _ _ Z => ?_)
            refine lv_aload_n hx hb dX12_fits_53 rfl (lv_at hl 0 rfl) ?_
            obtain ⟨σ54, hc54, h⟩ := bd_x h
            refine zc_v Z (zr_V F Z (a := 703) (As := []) (zcX12_putBack l D A0 σ50 σ54 hc54) zBX12_putBack zq1709 (by decide) zs_703 zC12.1 rfl ⟨⟨rfl, rfl⟩, Nat.le_of_ble_eq_true rfl, Nat.le_of_ble_eq_true rfl⟩ hl.1 rfl (Nat.le_of_ble_eq_true rfl) dX12_fits_54 ⟨Nat.le_of_ble_eq_true rfl, Nat.le_of_ble_eq_true rfl⟩) (fun _ _ Z => ?_)
            refine lv_iconst (v := 1) hx hb dX12_fits_57 (by decide) ?_
            refine lv_istore (lv' := [(5, .int 1), (0, .ref (A0 + 703)), (1, .int x1), (2, .int x2_30), (3, .int x3_30), (4, .int x4_30)]) hx hb dX12_fits_58 hl (by decide) rfl (fun ls hl => ?_)
            refine lv_iconst (v := 0) hx hb dX12_fits_60 (by decide) ?_
            refine lv_istore (lv' := [(6, .int 0), (5, .int 1), (0, .ref (A0 + 703)), (1, .int x1), (2, .int x2_30), (3, .int x3_30), (4, .int x4_30)]) hx hb dX12_fits_61 hl (by decide) rfl (fun ls hl => ?_)
            obtain ⟨k112, ek112, h⟩ := lt_x h
            have hk112 : ∀ (x5_112 : Int32) (σ112 : Mm) (H : Heap) (locs : List Loc) (ls : Array Slot), zh D A0 σ112 GF 740 s.heap H locs → lv_has ls 7 [(0, .ref (A0 + 703)), (1, .int x1), (2, .int x2_30), (3, .int x3_30), (4, .int x4_30), (5, .int x5_112)] → k112 x5_112 σ112 = some (r0, σr) → W p l e (zR 400 14940) s m [.ref (A0 + 703), .int x1].toArray below meth c H locs 0 0 (MQ below (zQi D A0 r0 σr GF 740) [.ref (A0 + 703), .int x1].toArray s 0 0 (zA A0)) (F0 m 112 ls []) := by
              intro x5_112 σ112 H locs ls Z hl h
              rw [ek112] at h
              try dsimp only at h
              refine lv_iload hx hb dX12_fits_112 (lv_at hl 5 rfl) ?_
              obtain ⟨j131, ej131, h⟩ := lt_x h
              have hj131 : ∀ (x2_131 : Int32) (x3_131 : Int32) (σ131 : Mm) (H : Heap) (locs : List Loc) (ls : Array Slot), zh D A0 σ131 GF 740 s.heap H locs → lv_has ls 7 [(0, .ref (A0 + 703)), (1, .int x1), (2, .int x2_131), (3, .int x3_131), (4, .int x4_30)] → j131 x2_131 x3_131 σ131 = some (r0, σr) → W p l e (zR 400 14940) s m [.ref (A0 + 703), .int x1].toArray below meth c H locs 0 0 (MQ below (zQi D A0 r0 σr GF 740) [.ref (A0 + 703), .int x1].toArray s 0 0 (zA A0)) (F0 m 131 ls []) := by
                intro x2_131 x3_131 σ131 H locs ls Z hl h
                rw [ej131] at h
                try dsimp only at h
                obtain ⟨x4_131, ex4_131⟩ : ∃ y : Int32, y = x4_30 + 1 := ⟨_, rfl⟩
                replace h := lt_w h ex4_131
                refine lv_iinc (v := x4_131) (lv' := [(4, .int x4_131), (0, .ref (A0 + 703)), (1, .int x1), (2, .int x2_131), (3, .int x3_131)]) hx hb dX12_fits_131 hl (k := 4) rfl (by rw [ex4_131]; rfl) (by decide) rfl (fun ls hl => ?_)
                refine lv_goto (tgt := 30) hx hb dX12_fits_134 (by decide) ?_
                exact ih30 x2_131 x3_131 x4_131 σ131 _ _ _ Z (lv_sub hl [1, 2, 3, 4, 0] rfl) h
              refine zb_ifne (tgt := 120) hx hb dX12_fits_114 (by decide) h (fun h => ?_) (fun h => ?_)
              · refine lv_iload_n hx hb dX12_fits_120 rfl (lv_at hl 2 rfl) ?_
                refine lv_iload_n hx hb dX12_fits_121 rfl (lv_at hl 1 rfl) ?_
                obtain ⟨j128, ej128, h⟩ := lt_x h
                have hj128 : ∀ (x3_128 : Int32) (σ128 : Mm) (H : Heap) (locs : List Loc) (ls : Array Slot), zh D A0 σ128 GF 740 s.heap H locs → lv_has ls 7 [(0, .ref (A0 + 703)), (1, .int x1), (2, .int x2_30), (3, .int x3_128), (4, .int x4_30)] → j128 x3_128 σ128 = some (r0, σr) → W p l e (zR 400 14940) s m [.ref (A0 + 703), .int x1].toArray below meth c H locs 0 0 (MQ below (zQi D A0 r0 σr GF 740) [.ref (A0 + 703), .int x1].toArray s 0 0 (zA A0)) (F0 m 128 ls []) := by
                  intro x3_128 σ128 H locs ls Z hl h
                  rw [ej128] at h
                  try dsimp only at h
                  obtain ⟨x2_128, ex2_128⟩ : ∃ y : Int32, y = x2_30 + 1 := ⟨_, rfl⟩
                  replace h := lt_w h ex2_128
                  refine lv_iinc (v := x2_128) (lv' := [(2, .int x2_128), (0, .ref (A0 + 703)), (1, .int x1), (3, .int x3_128), (4, .int x4_30)]) hx hb dX12_fits_128 hl (k := 2) rfl (by rw [ex2_128]; rfl) (by decide) rfl (fun ls hl => ?_)
                  exact hj131 x2_128 x3_128 σ128 _ _ _ Z (lv_sub hl [1, 2, 0, 3, 4] rfl) h
                refine zb_icne (tgt := 128) hx hb dX12_fits_122 (by decide) h (fun h => ?_) (fun h => ?_)
                · exact hj128 x3_30 σ112 _ _ _ Z (lv_sub hl [0, 1, 2, 3, 4] rfl) h
                · refine lv_iload hx hb dX12_fits_125 (lv_at hl 4 rfl) ?_
                  refine lv_istore_n (lv' := [(3, .int x4_30), (0, .ref (A0 + 703)), (1, .int x1), (2, .int x2_30), (4, .int x4_30), (5, .int x5_112)]) hx hb dX12_fits_127 rfl hl (by decide) rfl (fun ls hl => ?_)
                  exact hj128 x4_30 σ112 _ _ _ Z (lv_sub hl [1, 2, 3, 0, 4] rfl) h
              · refine lv_goto (tgt := 131) hx hb dX12_fits_117 (by decide) ?_
                exact hj131 x2_30 x3_30 σ112 _ _ _ Z (lv_sub hl [0, 1, 2, 3, 4] rfl) h
            have hL63 : ∀ (fu63 : Nat) (x5_63 : Int32) (x6_63 : Int32) (σ63 : Mm) (H : Heap) (locs : List Loc) (ls : Array Slot), zh D A0 σ63 GF 740 s.heap H locs → lv_has ls 7 [(0, .ref (A0 + 703)), (1, .int x1), (2, .int x2_30), (3, .int x3_30), (4, .int x4_30), (5, .int x5_63), (6, .int x6_63)] → zfX12_fits_L63 k112 fu63 x5_63 x6_63 σ63 = some (r0, σr) → W p l e (zR 400 14940) s m [.ref (A0 + 703), .int x1].toArray below meth c H locs 0 0 (MQ below (zQi D A0 r0 σr GF 740) [.ref (A0 + 703), .int x1].toArray s 0 0 (zA A0)) (F0 m 63 ls []) := by
              intro fu63
              induction fu63 with
              | zero => intro x5_63 x6_63 σ63 H locs ls Z hl h; rw [zfX12_fits_L63] at h; cases h
              | succ fu63 ih63 =>
                intro x5_63 x6_63 σ63 H locs ls Z hl h
                rw [zfX12_fits_L63] at h
                refine lv_iload hx hb dX12_fits_63 (lv_at hl 6 rfl) ?_
                refine lv_aload_n hx hb dX12_fits_65 rfl (lv_at hl 0 rfl) ?_
                refine zw_getI F Z zC12 (a := 703) (k := 62) (by decide) zs_703 (by decide) rfl zq1312 (Or.inl rfl) dX12_fits_66 ?_
                refine zb_icge (tgt := 112) hx hb dX12_fits_69 (by decide) h (fun h => ?_) (fun h => ?_)
                · exact hk112 x5_63 σ63 _ _ _ Z (lv_sub hl [0, 1, 2, 3, 4, 5] rfl) h
                · refine lv_iload hx hb dX12_fits_72 (lv_at hl 5 rfl) ?_
                  obtain ⟨j104, ej104, h⟩ := lt_x h
                  have hj104 : ∀ (y0_104 : Int32) (σ104 : Mm) (H : Heap) (locs : List Loc) (ls : Array Slot), zh D A0 σ104 GF 740 s.heap H locs → lv_has ls 7 [(0, .ref (A0 + 703)), (1, .int x1), (2, .int x2_30), (3, .int x3_30), (4, .int x4_30), (6, .int x6_63)] → j104 y0_104 σ104 = some (r0, σr) → W p l e (zR 400 14940) s m [.ref (A0 + 703), .int x1].toArray below meth c H locs 0 0 (MQ below (zQi D A0 r0 σr GF 740) [.ref (A0 + 703), .int x1].toArray s 0 0 (zA A0)) (F0 m 104 ls [.int y0_104]) := by
                    intro y0_104 σ104 H locs ls Z hl h
                    rw [ej104] at h
                    try dsimp only at h
                    refine lv_istore (lv' := [(5, .int y0_104), (0, .ref (A0 + 703)), (1, .int x1), (2, .int x2_30), (3, .int x3_30), (4, .int x4_30), (6, .int x6_63)]) hx hb dX12_fits_104 hl (by decide) rfl (fun ls hl => ?_)
                    obtain ⟨x6_106, ex6_106⟩ : ∃ y : Int32, y = x6_63 + 1 := ⟨_, rfl⟩
                    replace h := lt_w h ex6_106
                    refine lv_iinc (v := x6_106) (lv' := [(6, .int x6_106), (5, .int y0_104), (0, .ref (A0 + 703)), (1, .int x1), (2, .int x2_30), (3, .int x3_30), (4, .int x4_30)]) hx hb dX12_fits_106 hl (k := 6) rfl (by rw [ex6_106]; rfl) (by decide) rfl (fun ls hl => ?_)
                    refine lv_goto (tgt := 63) hx hb dX12_fits_109 (by decide) ?_
                    exact ih63 y0_104 x6_106 σ104 _ _ _ Z (lv_sub hl [2, 3, 4, 5, 6, 1, 0] rfl) h
                  obtain ⟨j103, ej103, h⟩ := lt_x h
                  have hj103 : ∀ (σ103 : Mm) (H : Heap) (locs : List Loc) (ls : Array Slot), zh D A0 σ103 GF 740 s.heap H locs → lv_has ls 7 [(0, .ref (A0 + 703)), (1, .int x1), (2, .int x2_30), (3, .int x3_30), (4, .int x4_30), (6, .int x6_63)] → j103 σ103 = some (r0, σr) → W p l e (zR 400 14940) s m [.ref (A0 + 703), .int x1].toArray below meth c H locs 0 0 (MQ below (zQi D A0 r0 σr GF 740) [.ref (A0 + 703), .int x1].toArray s 0 0 (zA A0)) (F0 m 103 ls []) := by
                    intro  σ103 H locs ls Z hl h
                    rw [ej103] at h
                    try dsimp only at h
                    refine lv_iconst (v := 0) hx hb dX12_fits_103 (by decide) ?_
                    exact hj104 0 σ103 _ _ _ Z (lv_sub hl [0, 1, 2, 3, 4, 5] rfl) h
                  refine zb_ifeq (tgt := 103) hx hb dX12_fits_74 (by decide) h (fun h => ?_) (fun h => ?_)
                  · exact hj103 σ63 _ _ _ Z (lv_sub hl [0, 1, 2, 3, 4, 6] rfl) h
                  · refine lv_aload_n hx hb dX12_fits_77 rfl (lv_at hl 0 rfl) ?_
                    refine zw_getR F Z zC12 (a := 703) (k := 49) (by decide) zs_703 (by decide) rfl zg_703_49 zq1299 (Or.inl rfl) dX12_fits_78 ?_
                    refine lv_aload_n hx hb dX12_fits_81 rfl (lv_at hl 0 rfl) ?_
                    refine zw_getR F Z zC12 (a := 703) (k := 60) (by decide) zs_703 (by decide) rfl zg_703_60 zq1310 (Or.inl rfl) dX12_fits_82 ?_
                    refine lv_iload hx hb dX12_fits_85 (lv_at hl 6 rfl) ?_
                    obtain ⟨hk87, h⟩ := ck_x h
                    refine zw_iald F Z (by decide) zs_731 hk87 dX12_fits_87 ?_
                    obtain ⟨hk88, h⟩ := ck_x h
                    refine zw_iald F Z (by decide) zs_725 hk88 dX12_fits_88 ?_
                    refine lv_aload_n hx hb dX12_fits_89 rfl (lv_at hl 0 rfl) ?_
                    refine zw_getR F Z zC12 (a := 703) (k := 61) (by decide) zs_703 (by decide) rfl zg_703_61 zq1311 (Or.inl rfl) dX12_fits_90 ?_
                    refine lv_iload hx hb dX12_fits_93 (lv_at hl 6 rfl) ?_
                    obtain ⟨hk95, h⟩ := ck_x h
                    refine zw_iald F Z (by decide) zs_732 hk95 dX12_fits_95 ?_
                    refine zb_icne (tgt := 103) hx hb dX12_fits_96 (by decide) h (fun h => ?_) (fun h => ?_)
                    · exact hj103 σ63 _ _ _ Z (lv_sub hl [0, 1, 2, 3, 4, 6] rfl) h
                    · refine lv_iconst (v := 1) hx hb dX12_fits_99 (by decide) ?_
                      refine lv_goto (tgt := 104) hx hb dX12_fits_100 (by decide) ?_
                      exact hj104 1 σ63 _ _ _ Z (lv_sub hl [0, 1, 2, 3, 4, 6] rfl) h
            exact hL63 NF 1 0 σ54 _ _ _ Z (lv_sub hl [2, 3, 4, 5, 6, 1, 0] rfl) h
      exact hL30 NF 0 (-1) 0 σ20 _ _ _ Z (lv_sub hl [3, 4, 2, 1, 0] rfl) h
    · exact hj17 σ2 _ _ _ Z (lv_sub hl [] rfl) h
set_option maxHeartbeats 4000000 in
set_option maxRecDepth 100000 in
theorem zcX12_other (l : Launch) (D : va_G) (A0 : Nat) (x1 : Int32) (x2 : Int32) (x3 : Int32) (σ : Mm) (r0 : Int32) (σr : Mm) (h : zfX12_other x1 x2 x3 σ = some (r0, σr)) : Met l yX12_other (zws yX12_other cX12_other 6 (some .int)) (zR 400 14940) (zPc D A0 σ GF 740 [.ref (A0 + 703), .int x1, .int x2, .int x3]) (zQi D A0 r0 σr GF 740) 0 0 (zA A0) := by
  unfold zfX12_other at h
  refine zmet (own := RX12) (by decide) rfl (Nat.le_of_ble_eq_true rfl) ?_
  intro p e s m below meth c F hr hlocks _ Z ls hl
  have hl : lv_has ls 6 [(0, .ref (A0 + 703)), (1, .int x1), (2, .int x2), (3, .int x3)] := hl
  have hx := F.1.1
  have hb := F.1.2.1
  have hown := F.1.2.2.2.1
  have hts := F.1.2.2.2.2
  refine lv_aload_n hx hb dX12_other_0 rfl (lv_at hl 0 rfl) ?_
  refine lv_iconst (v := 0) hx hb dX12_other_1 (by decide) ?_
  refine zw_putI F Z zC12 (a := 703) (k := 0) (by decide) zs_703 (by decide) rfl (by decide) zq1250 (Or.inl rfl) rfl ⟨rfl, rfl⟩ dX12_other_2 (fun σ2 _ _ eσ2 Z => ?_)
  replace h := lt_w h eσ2
  refine lv_aload_n hx hb dX12_other_5 rfl (lv_at hl 0 rfl) ?_
  refine lv_iload_n hx hb dX12_other_6 rfl (lv_at hl 2 rfl) ?_
  refine zc_i Z (zr_V F Z (a := 703) (As := [.int x2]) (zcX12_isReady l D A0 x2 σ2 (zfX12_isReady x2 σ2) rfl) zBX12_isReady zq1649 (by decide) zs_703 zC12.1 rfl ⟨⟨rfl, rfl⟩, Nat.le_of_ble_eq_true rfl, Nat.le_of_ble_eq_true rfl⟩ hl.1 rfl (Nat.le_of_ble_eq_true rfl) dX12_other_7 ⟨Nat.le_of_ble_eq_true rfl, Nat.le_of_ble_eq_true rfl⟩) (fun _ _ Z => ?_)
  obtain ⟨j37, ej37, h⟩ := lt_x h
  have hj37 : ∀ (σ37 : Mm) (H : Heap) (locs : List Loc) (ls : Array Slot), zh D A0 σ37 GF 740 s.heap H locs → lv_has ls 6 [] → j37 σ37 = some (r0, σr) → W p l e (zR 400 14940) s m [.ref (A0 + 703), .int x1, .int x2, .int x3].toArray below meth c H locs 0 0 (MQ below (zQi D A0 r0 σr GF 740) [.ref (A0 + 703), .int x1, .int x2, .int x3].toArray s 0 0 (zA A0)) (F0 m 37 ls []) := by
    intro  σ37 H locs ls Z hl h
    rw [ej37] at h
    try dsimp only at h
    refine lv_ldcw (v := (-1000000)) hx hb hown (hts _ zq1737) dX12_other_37 ?_
    obtain ⟨hq1, hq2⟩ := zpq h
    exact ze_i F Z hr hlocks hq1 hq2 dX12_other_40
  refine zb_ifeq (tgt := 37) hx hb dX12_other_10 (by decide) h (fun h => ?_) (fun h => ?_)
  · exact hj37 σ2 _ _ _ Z (lv_sub hl [] rfl) h
  · refine lv_iload_n hx hb dX12_other_13 rfl (lv_at hl 1 rfl) ?_
    refine lv_i2l hx hb dX12_other_14 rfl ?_
    refine lv_lconst (v := 0) hx hb dX12_other_15 (by decide) ?_
    refine lv_ldc2 (v := 2) hx hb hown (hts _ zq1781) dX12_other_16 ?_
    refine zc_i Z (zr_S F Z (As := [.long (Int32.toInt64 x1), .long 0, .long 2]) (zcX12_isIn l D A0 (Int32.toInt64 x1) 0 2 σ2 (zfX12_isIn (Int32.toInt64 x1) 0 2) rfl) zBX12_isIn zq1496 rfl ⟨⟨rfl, rfl⟩, Nat.le_of_ble_eq_true rfl, Nat.le_of_ble_eq_true rfl⟩ hl.1 rfl (Nat.le_of_ble_eq_true rfl) dX12_other_19 ⟨Nat.le_of_ble_eq_true rfl, Nat.le_of_ble_eq_true rfl⟩) (fun _ _ Z => ?_)
    refine zb_ifeq (tgt := 37) hx hb dX12_other_22 (by decide) h (fun h => ?_) (fun h => ?_)
    · exact hj37 σ2 _ _ _ Z (lv_sub hl [] rfl) h
    · refine lv_iload_n hx hb dX12_other_25 rfl (lv_at hl 3 rfl) ?_
      refine lv_i2l hx hb dX12_other_26 rfl ?_
      refine lv_lconst (v := 0) hx hb dX12_other_27 (by decide) ?_
      refine lv_ldc2 (v := 2) hx hb hown (hts _ zq1781) dX12_other_28 ?_
      refine zc_i Z (zr_S F Z (As := [.long (Int32.toInt64 x3), .long 0, .long 2]) (zcX12_isIn l D A0 (Int32.toInt64 x3) 0 2 σ2 (zfX12_isIn (Int32.toInt64 x3) 0 2) rfl) zBX12_isIn zq1496 rfl ⟨⟨rfl, rfl⟩, Nat.le_of_ble_eq_true rfl, Nat.le_of_ble_eq_true rfl⟩ hl.1 rfl (Nat.le_of_ble_eq_true rfl) dX12_other_31 ⟨Nat.le_of_ble_eq_true rfl, Nat.le_of_ble_eq_true rfl⟩) (fun _ _ Z => ?_)
      refine zb_ifne (tgt := 41) hx hb dX12_other_34 (by decide) h (fun h => ?_) (fun h => ?_)
      · refine lv_aload_n hx hb dX12_other_41 rfl (lv_at hl 0 rfl) ?_
        obtain ⟨σ42, hc42, h⟩ := bd_x h
        refine zc_v Z (zr_V F Z (a := 703) (As := []) (zcX12_keep l D A0 σ2 σ42 hc42) zBX12_keep zq1701 (by decide) zs_703 zC12.1 rfl ⟨⟨rfl, rfl⟩, Nat.le_of_ble_eq_true rfl, Nat.le_of_ble_eq_true rfl⟩ hl.1 rfl (Nat.le_of_ble_eq_true rfl) dX12_other_42 ⟨Nat.le_of_ble_eq_true rfl, Nat.le_of_ble_eq_true rfl⟩) (fun _ _ Z => ?_)
        refine lv_aload_n hx hb dX12_other_45 rfl (lv_at hl 0 rfl) ?_
        refine lv_iload_n hx hb dX12_other_46 rfl (lv_at hl 1 rfl) ?_
        refine zw_putI F Z zC12 (a := 703) (k := 42) (by decide) zs_703 (by decide) rfl (by decide) zq1292 (Or.inl rfl) rfl ⟨rfl, rfl⟩ dX12_other_47 (fun σ47 _ _ eσ47 Z => ?_)
        replace h := lt_w h eσ47
        refine lv_aload_n hx hb dX12_other_50 rfl (lv_at hl 0 rfl) ?_
        refine lv_iload_n hx hb dX12_other_51 rfl (lv_at hl 2 rfl) ?_
        obtain ⟨σ52, hc52, h⟩ := bd_x h
        refine zc_v Z (zr_V F Z (a := 703) (As := [.int x2]) (zcX12_tries l D A0 x2 σ47 σ52 hc52) zBX12_tries zq1705 (by decide) zs_703 zC12.1 rfl ⟨⟨rfl, rfl⟩, Nat.le_of_ble_eq_true rfl, Nat.le_of_ble_eq_true rfl⟩ hl.1 rfl (Nat.le_of_ble_eq_true rfl) dX12_other_52 ⟨Nat.le_of_ble_eq_true rfl, Nat.le_of_ble_eq_true rfl⟩) (fun _ _ Z => ?_)
        refine lv_iconst (v := 0) hx hb dX12_other_55 (by decide) ?_
        refine lv_istore (lv' := [(4, .int 0), (0, .ref (A0 + 703)), (1, .int x1), (2, .int x2), (3, .int x3)]) hx hb dX12_other_56 hl (by decide) rfl (fun ls hl => ?_)
        refine lv_iconst (v := 0) hx hb dX12_other_58 (by decide) ?_
        refine lv_istore (lv' := [(5, .int 0), (4, .int 0), (0, .ref (A0 + 703)), (1, .int x1), (2, .int x2), (3, .int x3)]) hx hb dX12_other_59 hl (by decide) rfl (fun ls hl => ?_)
        obtain ⟨k102, ek102, h⟩ := lt_x h
        have hk102 : ∀ (x4_102 : Int32) (σ102 : Mm) (H : Heap) (locs : List Loc) (ls : Array Slot), zh D A0 σ102 GF 740 s.heap H locs → lv_has ls 6 [(0, .ref (A0 + 703)), (2, .int x2), (3, .int x3), (4, .int x4_102)] → k102 x4_102 σ102 = some (r0, σr) → W p l e (zR 400 14940) s m [.ref (A0 + 703), .int x1, .int x2, .int x3].toArray below meth c H locs 0 0 (MQ below (zQi D A0 r0 σr GF 740) [.ref (A0 + 703), .int x1, .int x2, .int x3].toArray s 0 0 (zA A0)) (F0 m 102 ls []) := by
          intro x4_102 σ102 H locs ls Z hl h
          rw [ek102] at h
          try dsimp only at h
          refine lv_aload_n hx hb dX12_other_102 rfl (lv_at hl 0 rfl) ?_
          refine zw_getR F Z zC12 (a := 703) (k := 29) (by decide) zs_703 (by decide) rfl zg_703_29 zq1279 (Or.inl rfl) dX12_other_103 ?_
          refine lv_bipush (v := 55) hx hb dX12_other_106 (by decide) ?_
          refine zw_iald F Z (by decide) zs_714 (by decide) dX12_other_108 ?_
          refine lv_aload_n hx hb dX12_other_109 rfl (lv_at hl 0 rfl) ?_
          refine zw_getR F Z zC12 (a := 703) (k := 30) (by decide) zs_703 (by decide) rfl zg_703_30 zq1280 (Or.inl rfl) dX12_other_110 ?_
          refine lv_bipush (v := 55) hx hb dX12_other_113 (by decide) ?_
          refine zw_iald F Z (by decide) zs_715 (by decide) dX12_other_115 ?_
          refine lv_isub hx hb dX12_other_116 ?_
          refine lv_topi (fun x5_117 ex5_117 => ?_)
          replace h := lt_w h ex5_117
          refine lv_istore (lv' := [(5, .int x5_117), (0, .ref (A0 + 703)), (2, .int x2), (3, .int x3), (4, .int x4_102)]) hx hb dX12_other_117 hl (by decide) rfl (fun ls hl => ?_)
          refine lv_aload_n hx hb dX12_other_119 rfl (lv_at hl 1 rfl) ?_
          obtain ⟨σ120, hc120, h⟩ := bd_x h
          refine zc_v Z (zr_V F Z (a := 703) (As := []) (zcX12_putBack l D A0 σ102 σ120 hc120) zBX12_putBack zq1709 (by decide) zs_703 zC12.1 rfl ⟨⟨rfl, rfl⟩, Nat.le_of_ble_eq_true rfl, Nat.le_of_ble_eq_true rfl⟩ hl.1 rfl (Nat.le_of_ble_eq_true rfl) dX12_other_120 ⟨Nat.le_of_ble_eq_true rfl, Nat.le_of_ble_eq_true rfl⟩) (fun _ _ Z => ?_)
          refine lv_iload_n hx hb dX12_other_123 rfl (lv_at hl 3 rfl) ?_
          refine zb_ifne (tgt := 132) hx hb dX12_other_124 (by decide) h (fun h => ?_) (fun h => ?_)
          · refine lv_iload_n hx hb dX12_other_132 rfl (lv_at hl 3 rfl) ?_
            refine lv_iconst (v := 1) hx hb dX12_other_133 (by decide) ?_
            refine zb_icne (tgt := 142) hx hb dX12_other_134 (by decide) h (fun h => ?_) (fun h => ?_)
            · refine lv_aload_n hx hb dX12_other_142 rfl (lv_at hl 1 rfl) ?_
              refine lv_iload_n hx hb dX12_other_143 rfl (lv_at hl 2 rfl) ?_
              obtain ⟨r144, hc144, h⟩ := bd_x h
              refine zc_i Z (zr_V F Z (a := 703) (As := [.int x2]) (zcX12_jumpMany l D A0 x2 σ120 r144 hc144) zBX12_jumpMany zq1717 (by decide) zs_703 zC12.1 rfl ⟨⟨rfl, rfl⟩, Nat.le_of_ble_eq_true rfl, Nat.le_of_ble_eq_true rfl⟩ hl.1 rfl (Nat.le_of_ble_eq_true rfl) dX12_other_144 ⟨Nat.le_of_ble_eq_true rfl, Nat.le_of_ble_eq_true rfl⟩) (fun _ _ Z => ?_)
              obtain ⟨hq1, hq2⟩ := zpq h
              exact ze_i F Z hr hlocks hq1 hq2 dX12_other_147
            · refine lv_iload hx hb dX12_other_137 (lv_at hl 0 rfl) ?_
              refine lv_goto (tgt := 147) hx hb dX12_other_139 (by decide) ?_
              obtain ⟨hq1, hq2⟩ := zpq h
              exact ze_i F Z hr hlocks hq1 hq2 dX12_other_147
          · refine lv_iload hx hb dX12_other_127 (lv_at hl 4 rfl) ?_
            refine lv_goto (tgt := 147) hx hb dX12_other_129 (by decide) ?_
            obtain ⟨hq1, hq2⟩ := zpq h
            exact ze_i F Z hr hlocks hq1 hq2 dX12_other_147
        have hL61 : ∀ (fu61 : Nat) (x4_61 : Int32) (x5_61 : Int32) (σ61 : Mm) (H : Heap) (locs : List Loc) (ls : Array Slot), zh D A0 σ61 GF 740 s.heap H locs → lv_has ls 6 [(0, .ref (A0 + 703)), (2, .int x2), (3, .int x3), (4, .int x4_61), (5, .int x5_61)] → zfX12_other_L61 k102 fu61 x4_61 x5_61 σ61 = some (r0, σr) → W p l e (zR 400 14940) s m [.ref (A0 + 703), .int x1, .int x2, .int x3].toArray below meth c H locs 0 0 (MQ below (zQi D A0 r0 σr GF 740) [.ref (A0 + 703), .int x1, .int x2, .int x3].toArray s 0 0 (zA A0)) (F0 m 61 ls []) := by
          intro fu61
          induction fu61 with
          | zero => intro x4_61 x5_61 σ61 H locs ls Z hl h; rw [zfX12_other_L61] at h; cases h
          | succ fu61 ih61 =>
            intro x4_61 x5_61 σ61 H locs ls Z hl h
            rw [zfX12_other_L61] at h
            refine lv_iload hx hb dX12_other_61 (lv_at hl 4 rfl) ?_
            refine lv_aload_n hx hb dX12_other_63 rfl (lv_at hl 0 rfl) ?_
            refine zw_getI F Z zC12 (a := 703) (k := 24) (by decide) zs_703 (by decide) rfl zq1274 (Or.inl rfl) dX12_other_64 ?_
            refine zb_icge (tgt := 102) hx hb dX12_other_67 (by decide) h (fun h => ?_) (fun h => ?_)
            · exact hk102 x4_61 σ61 _ _ _ Z (lv_sub hl [0, 1, 2, 3] rfl) h
            · refine lv_iload hx hb dX12_other_70 (lv_at hl 3 rfl) ?_
              refine lv_aload_n hx hb dX12_other_72 rfl (lv_at hl 0 rfl) ?_
              refine zw_getR F Z zC12 (a := 703) (k := 29) (by decide) zs_703 (by decide) rfl zg_703_29 zq1279 (Or.inl rfl) dX12_other_73 ?_
              refine lv_bipush (v := 12) hx hb dX12_other_76 (by decide) ?_
              refine lv_iload hx hb dX12_other_78 (lv_at hl 4 rfl) ?_
              refine lv_iadd hx hb dX12_other_80 ?_
              obtain ⟨hk81, h⟩ := ck_x h
              refine zw_iald F Z (by decide) zs_714 hk81 dX12_other_81 ?_
              refine lv_aload_n hx hb dX12_other_82 rfl (lv_at hl 0 rfl) ?_
              refine zw_getR F Z zC12 (a := 703) (k := 30) (by decide) zs_703 (by decide) rfl zg_703_30 zq1280 (Or.inl rfl) dX12_other_83 ?_
              refine lv_bipush (v := 12) hx hb dX12_other_86 (by decide) ?_
              refine lv_iload hx hb dX12_other_88 (lv_at hl 4 rfl) ?_
              refine lv_iadd hx hb dX12_other_90 ?_
              obtain ⟨hk91, h⟩ := ck_x h
              refine zw_iald F Z (by decide) zs_715 hk91 dX12_other_91 ?_
              refine lv_isub hx hb dX12_other_92 ?_
              refine lv_iadd hx hb dX12_other_93 ?_
              refine lv_topi (fun x4_94 ex4_94 => ?_)
              replace h := lt_w h ex4_94
              refine lv_istore (lv' := [(4, .int x4_94), (0, .ref (A0 + 703)), (2, .int x2), (3, .int x3), (5, .int x5_61)]) hx hb dX12_other_94 hl (by decide) rfl (fun ls hl => ?_)
              obtain ⟨x5_96, ex5_96⟩ : ∃ y : Int32, y = x5_61 + 1 := ⟨_, rfl⟩
              replace h := lt_w h ex5_96
              refine lv_iinc (v := x5_96) (lv' := [(5, .int x5_96), (4, .int x4_94), (0, .ref (A0 + 703)), (2, .int x2), (3, .int x3)]) hx hb dX12_other_96 hl (k := 4) rfl (by rw [ex5_96]; rfl) (by decide) rfl (fun ls hl => ?_)
              refine lv_goto (tgt := 61) hx hb dX12_other_99 (by decide) ?_
              exact ih61 x4_94 x5_96 σ61 _ _ _ Z (lv_sub hl [2, 3, 4, 1, 0] rfl) h
        exact hL61 NF 0 0 σ52 _ _ _ Z (lv_sub hl [2, 4, 5, 1, 0] rfl) h
      · exact hj37 σ2 _ _ _ Z (lv_sub hl [] rfl) h
set_option maxHeartbeats 4000000 in
set_option maxRecDepth 100000 in
theorem zcX12_ask (l : Launch) (D : va_G) (A0 : Nat) (x1 : Int32) (x2 : Int32) (x3 : Int32) (σ : Mm) (r0 : Int32) (σr : Mm) (h : zfX12_ask x1 x2 x3 σ = some (r0, σr)) : Met l yX12_ask (zws yX12_ask cX12_ask 4 (some .int)) (zR 1 25) (zPc D A0 σ GF 740 [.ref (A0 + 703), .int x1, .int x2, .int x3]) (zQi D A0 r0 σr GF 740) 0 0 (zA A0) := by
  unfold zfX12_ask at h
  refine zmet (own := RX12) (by decide) rfl (Nat.le_of_ble_eq_true rfl) ?_
  intro p e s m below meth c F hr hlocks _ Z ls hl
  have hl : lv_has ls 4 [(0, .ref (A0 + 703)), (1, .int x1), (2, .int x2), (3, .int x3)] := hl
  have hx := F.1.1
  have hb := F.1.2.1
  have hown := F.1.2.2.2.1
  have hts := F.1.2.2.2.2
  refine lv_aload_n hx hb dX12_ask_0 rfl (lv_at hl 0 rfl) ?_
  refine lv_iconst (v := 0) hx hb dX12_ask_1 (by decide) ?_
  refine zw_putI F Z zC12 (a := 703) (k := 0) (by decide) zs_703 (by decide) rfl (by decide) zq1250 (Or.inl rfl) rfl ⟨rfl, rfl⟩ dX12_ask_2 (fun σ2 _ _ eσ2 Z => ?_)
  replace h := lt_w h eσ2
  refine lv_aload_n hx hb dX12_ask_5 rfl (lv_at hl 0 rfl) ?_
  refine zw_getI F Z zC12 (a := 703) (k := 66) (by decide) zs_703 (by decide) rfl zq1316 (Or.inl rfl) dX12_ask_6 ?_
  refine lv_bipush (v := 60) hx hb dX12_ask_9 (by decide) ?_
  obtain ⟨j46, ej46, h⟩ := lt_x h
  have hj46 : ∀ (σ46 : Mm) (H : Heap) (locs : List Loc) (ls : Array Slot), zh D A0 σ46 GF 740 s.heap H locs → lv_has ls 4 [] → j46 σ46 = some (r0, σr) → W p l e (zR 1 25) s m [.ref (A0 + 703), .int x1, .int x2, .int x3].toArray below meth c H locs 0 0 (MQ below (zQi D A0 r0 σr GF 740) [.ref (A0 + 703), .int x1, .int x2, .int x3].toArray s 0 0 (zA A0)) (F0 m 46 ls []) := by
    intro  σ46 H locs ls Z hl h
    rw [ej46] at h
    try dsimp only at h
    refine lv_iconst (v := (-1)) hx hb dX12_ask_46 (by decide) ?_
    obtain ⟨hq1, hq2⟩ := zpq h
    exact ze_i F Z hr hlocks hq1 hq2 dX12_ask_47
  refine zb_iceq (tgt := 46) hx hb dX12_ask_11 (by decide) h (fun h => ?_) (fun h => ?_)
  · exact hj46 σ2 _ _ _ Z (lv_sub hl [] rfl) h
  · refine lv_aload_n hx hb dX12_ask_14 rfl (lv_at hl 0 rfl) ?_
    refine lv_iload_n hx hb dX12_ask_15 rfl (lv_at hl 1 rfl) ?_
    refine zc_i Z (zr_V F Z (a := 703) (As := [.int x1]) (zcX12_isSeller l D A0 x1 σ2 (zfX12_isSeller x1 σ2) rfl) zBX12_isSeller zq1614 (by decide) zs_703 zC12.1 rfl ⟨⟨rfl, rfl⟩, Nat.le_of_ble_eq_true rfl, Nat.le_of_ble_eq_true rfl⟩ hl.1 rfl (Nat.le_of_ble_eq_true rfl) dX12_ask_16 ⟨Nat.le_of_ble_eq_true rfl, Nat.le_of_ble_eq_true rfl⟩) (fun _ _ Z => ?_)
    refine zb_ifeq (tgt := 46) hx hb dX12_ask_19 (by decide) h (fun h => ?_) (fun h => ?_)
    · exact hj46 σ2 _ _ _ Z (lv_sub hl [] rfl) h
    · refine lv_iload_n hx hb dX12_ask_22 rfl (lv_at hl 2 rfl) ?_
      refine lv_i2l hx hb dX12_ask_23 rfl ?_
      refine lv_lconst (v := 0) hx hb dX12_ask_24 (by decide) ?_
      refine lv_ldc2 (v := 29) hx hb hown (hts _ zq1802) dX12_ask_25 ?_
      refine zc_i Z (zr_S F Z (As := [.long (Int32.toInt64 x2), .long 0, .long 29]) (zcX12_isIn l D A0 (Int32.toInt64 x2) 0 29 σ2 (zfX12_isIn (Int32.toInt64 x2) 0 29) rfl) zBX12_isIn zq1496 rfl ⟨⟨rfl, rfl⟩, Nat.le_of_ble_eq_true rfl, Nat.le_of_ble_eq_true rfl⟩ hl.1 rfl (Nat.le_of_ble_eq_true rfl) dX12_ask_28 ⟨Nat.le_of_ble_eq_true rfl, Nat.le_of_ble_eq_true rfl⟩) (fun _ _ Z => ?_)
      refine zb_ifeq (tgt := 46) hx hb dX12_ask_31 (by decide) h (fun h => ?_) (fun h => ?_)
      · exact hj46 σ2 _ _ _ Z (lv_sub hl [] rfl) h
      · refine lv_iload_n hx hb dX12_ask_34 rfl (lv_at hl 3 rfl) ?_
        refine lv_i2l hx hb dX12_ask_35 rfl ?_
        refine lv_lconst (v := 0) hx hb dX12_ask_36 (by decide) ?_
        refine lv_ldc2 (v := 20) hx hb hown (hts _ zq1770) dX12_ask_37 ?_
        refine zc_i Z (zr_S F Z (As := [.long (Int32.toInt64 x3), .long 0, .long 20]) (zcX12_isIn l D A0 (Int32.toInt64 x3) 0 20 σ2 (zfX12_isIn (Int32.toInt64 x3) 0 20) rfl) zBX12_isIn zq1496 rfl ⟨⟨rfl, rfl⟩, Nat.le_of_ble_eq_true rfl, Nat.le_of_ble_eq_true rfl⟩ hl.1 rfl (Nat.le_of_ble_eq_true rfl) dX12_ask_40 ⟨Nat.le_of_ble_eq_true rfl, Nat.le_of_ble_eq_true rfl⟩) (fun _ _ Z => ?_)
        refine zb_ifne (tgt := 48) hx hb dX12_ask_43 (by decide) h (fun h => ?_) (fun h => ?_)
        · refine lv_aload_n hx hb dX12_ask_48 rfl (lv_at hl 0 rfl) ?_
          refine zw_getR F Z zC12 (a := 703) (k := 63) (by decide) zs_703 (by decide) rfl zg_703_63 zq1313 (Or.inl rfl) dX12_ask_49 ?_
          refine lv_aload_n hx hb dX12_ask_52 rfl (lv_at hl 0 rfl) ?_
          refine zw_getI F Z zC12 (a := 703) (k := 66) (by decide) zs_703 (by decide) rfl zq1316 (Or.inl rfl) dX12_ask_53 ?_
          refine lv_iload_n hx hb dX12_ask_56 rfl (lv_at hl 1 rfl) ?_
          obtain ⟨hk57, h⟩ := ck_x h
          refine zw_iast F Z (by decide) zs_733 hk57 dX12_ask_57 (fun σ57 _ _ eσ57 Z => ?_)
          replace h := lt_w h eσ57
          refine lv_aload_n hx hb dX12_ask_58 rfl (lv_at hl 0 rfl) ?_
          refine zw_getR F Z zC12 (a := 703) (k := 64) (by decide) zs_703 (by decide) rfl zg_703_64 zq1314 (Or.inl rfl) dX12_ask_59 ?_
          refine lv_aload_n hx hb dX12_ask_62 rfl (lv_at hl 0 rfl) ?_
          refine zw_getI F Z zC12 (a := 703) (k := 66) (by decide) zs_703 (by decide) rfl zq1316 (Or.inl rfl) dX12_ask_63 ?_
          refine lv_iload_n hx hb dX12_ask_66 rfl (lv_at hl 2 rfl) ?_
          obtain ⟨hk67, h⟩ := ck_x h
          refine zw_iast F Z (by decide) zs_734 hk67 dX12_ask_67 (fun σ67 _ _ eσ67 Z => ?_)
          replace h := lt_w h eσ67
          refine lv_aload_n hx hb dX12_ask_68 rfl (lv_at hl 0 rfl) ?_
          refine zw_getR F Z zC12 (a := 703) (k := 65) (by decide) zs_703 (by decide) rfl zg_703_65 zq1315 (Or.inl rfl) dX12_ask_69 ?_
          refine lv_aload_n hx hb dX12_ask_72 rfl (lv_at hl 0 rfl) ?_
          refine zw_getI F Z zC12 (a := 703) (k := 66) (by decide) zs_703 (by decide) rfl zq1316 (Or.inl rfl) dX12_ask_73 ?_
          refine lv_iload_n hx hb dX12_ask_76 rfl (lv_at hl 3 rfl) ?_
          obtain ⟨hk77, h⟩ := ck_x h
          refine zw_iast F Z (by decide) zs_735 hk77 dX12_ask_77 (fun σ77 _ _ eσ77 Z => ?_)
          replace h := lt_w h eσ77
          refine lv_aload_n hx hb dX12_ask_78 rfl (lv_at hl 0 rfl) ?_
          refine lv_dup hx hb dX12_ask_79 rfl ?_
          refine zw_getI F Z zC12 (a := 703) (k := 66) (by decide) zs_703 (by decide) rfl zq1316 (Or.inl rfl) dX12_ask_80 ?_
          refine lv_iconst (v := 1) hx hb dX12_ask_83 (by decide) ?_
          refine lv_iadd hx hb dX12_ask_84 ?_
          refine zw_putI F Z zC12 (a := 703) (k := 66) (by decide) zs_703 (by decide) rfl (by decide) zq1316 (Or.inl rfl) rfl ⟨rfl, rfl⟩ dX12_ask_85 (fun σ85 _ _ eσ85 Z => ?_)
          replace h := lt_w h eσ85
          refine lv_aload_n hx hb dX12_ask_88 rfl (lv_at hl 0 rfl) ?_
          refine zw_getI F Z zC12 (a := 703) (k := 66) (by decide) zs_703 (by decide) rfl zq1316 (Or.inl rfl) dX12_ask_89 ?_
          obtain ⟨hq1, hq2⟩ := zpq h
          exact ze_i F Z hr hlocks hq1 hq2 dX12_ask_92
        · exact hj46 σ2 _ _ _ Z (lv_sub hl [] rfl) h
set_option maxHeartbeats 4000000 in
set_option maxRecDepth 100000 in
theorem zcX12_month (l : Launch) (D : va_G) (A0 : Nat) (x1 : Int32) (x2 : Int32) (σ : Mm) (r0 : Int32) (σr : Mm) (h : zfX12_month x1 x2 σ = some (r0, σr)) : Met l yX12_month (zws yX12_month cX12_month 8 (some .int)) (zR 399 14918) (zPc D A0 σ GF 740 [.ref (A0 + 703), .int x1, .int x2]) (zQi D A0 r0 σr GF 740) 0 0 (zA A0) := by
  unfold zfX12_month at h
  refine zmet (own := RX12) (by decide) rfl (Nat.le_of_ble_eq_true rfl) ?_
  intro p e s m below meth c F hr hlocks _ Z ls hl
  have hl : lv_has ls 8 [(0, .ref (A0 + 703)), (1, .int x1), (2, .int x2)] := hl
  have hx := F.1.1
  have hb := F.1.2.1
  have hown := F.1.2.2.2.1
  have hts := F.1.2.2.2.2
  refine lv_aload_n hx hb dX12_month_0 rfl (lv_at hl 0 rfl) ?_
  refine lv_iconst (v := 0) hx hb dX12_month_1 (by decide) ?_
  refine zw_putI F Z zC12 (a := 703) (k := 0) (by decide) zs_703 (by decide) rfl (by decide) zq1250 (Or.inl rfl) rfl ⟨rfl, rfl⟩ dX12_month_2 (fun σ2 _ _ eσ2 Z => ?_)
  replace h := lt_w h eσ2
  refine lv_aload_n hx hb dX12_month_5 rfl (lv_at hl 0 rfl) ?_
  refine lv_iload_n hx hb dX12_month_6 rfl (lv_at hl 1 rfl) ?_
  refine zc_i Z (zr_V F Z (a := 703) (As := [.int x1]) (zcX12_isReady l D A0 x1 σ2 (zfX12_isReady x1 σ2) rfl) zBX12_isReady zq1649 (by decide) zs_703 zC12.1 rfl ⟨⟨rfl, rfl⟩, Nat.le_of_ble_eq_true rfl, Nat.le_of_ble_eq_true rfl⟩ hl.1 rfl (Nat.le_of_ble_eq_true rfl) dX12_month_7 ⟨Nat.le_of_ble_eq_true rfl, Nat.le_of_ble_eq_true rfl⟩) (fun _ _ Z => ?_)
  obtain ⟨j23, ej23, h⟩ := lt_x h
  have hj23 : ∀ (σ23 : Mm) (H : Heap) (locs : List Loc) (ls : Array Slot), zh D A0 σ23 GF 740 s.heap H locs → lv_has ls 8 [] → j23 σ23 = some (r0, σr) → W p l e (zR 399 14918) s m [.ref (A0 + 703), .int x1, .int x2].toArray below meth c H locs 0 0 (MQ below (zQi D A0 r0 σr GF 740) [.ref (A0 + 703), .int x1, .int x2].toArray s 0 0 (zA A0)) (F0 m 23 ls []) := by
    intro  σ23 H locs ls Z hl h
    rw [ej23] at h
    try dsimp only at h
    refine lv_iconst (v := (-1)) hx hb dX12_month_23 (by decide) ?_
    obtain ⟨hq1, hq2⟩ := zpq h
    exact ze_i F Z hr hlocks hq1 hq2 dX12_month_24
  refine zb_ifeq (tgt := 23) hx hb dX12_month_10 (by decide) h (fun h => ?_) (fun h => ?_)
  · exact hj23 σ2 _ _ _ Z (lv_sub hl [] rfl) h
  · refine lv_iload_n hx hb dX12_month_13 rfl (lv_at hl 2 rfl) ?_
    refine lv_i2l hx hb dX12_month_14 rfl ?_
    refine lv_lconst (v := 0) hx hb dX12_month_15 (by decide) ?_
    refine lv_lconst (v := 1) hx hb dX12_month_16 (by decide) ?_
    refine zc_i Z (zr_S F Z (As := [.long (Int32.toInt64 x2), .long 0, .long 1]) (zcX12_isIn l D A0 (Int32.toInt64 x2) 0 1 σ2 (zfX12_isIn (Int32.toInt64 x2) 0 1) rfl) zBX12_isIn zq1496 rfl ⟨⟨rfl, rfl⟩, Nat.le_of_ble_eq_true rfl, Nat.le_of_ble_eq_true rfl⟩ hl.1 rfl (Nat.le_of_ble_eq_true rfl) dX12_month_17 ⟨Nat.le_of_ble_eq_true rfl, Nat.le_of_ble_eq_true rfl⟩) (fun _ _ Z => ?_)
    refine zb_ifne (tgt := 25) hx hb dX12_month_20 (by decide) h (fun h => ?_) (fun h => ?_)
    · refine lv_aload_n hx hb dX12_month_25 rfl (lv_at hl 0 rfl) ?_
      obtain ⟨σ26, hc26, h⟩ := bd_x h
      refine zc_v Z (zr_V F Z (a := 703) (As := []) (zcX12_keep l D A0 σ2 σ26 hc26) zBX12_keep zq1701 (by decide) zs_703 zC12.1 rfl ⟨⟨rfl, rfl⟩, Nat.le_of_ble_eq_true rfl, Nat.le_of_ble_eq_true rfl⟩ hl.1 rfl (Nat.le_of_ble_eq_true rfl) dX12_month_26 ⟨Nat.le_of_ble_eq_true rfl, Nat.le_of_ble_eq_true rfl⟩) (fun _ _ Z => ?_)
      refine lv_iconst (v := (-1)) hx hb dX12_month_29 (by decide) ?_
      refine lv_istore_n (lv' := [(3, .int (-1)), (0, .ref (A0 + 703)), (1, .int x1), (2, .int x2)]) hx hb dX12_month_30 rfl hl (by decide) rfl (fun ls hl => ?_)
      refine lv_iconst (v := (-1)) hx hb dX12_month_31 (by decide) ?_
      refine lv_istore (lv' := [(4, .int (-1)), (3, .int (-1)), (0, .ref (A0 + 703)), (1, .int x1), (2, .int x2)]) hx hb dX12_month_32 hl (by decide) rfl (fun ls hl => ?_)
      refine lv_iconst (v := 0) hx hb dX12_month_34 (by decide) ?_
      refine lv_istore (lv' := [(5, .int 0), (4, .int (-1)), (3, .int (-1)), (0, .ref (A0 + 703)), (1, .int x1), (2, .int x2)]) hx hb dX12_month_35 hl (by decide) rfl (fun ls hl => ?_)
      obtain ⟨k181, ek181, h⟩ := lt_x h
      have hk181 : ∀ (x3_181 : Int32) (x4_181 : Int32) (σ181 : Mm) (H : Heap) (locs : List Loc) (ls : Array Slot), zh D A0 σ181 GF 740 s.heap H locs → lv_has ls 8 [(0, .ref (A0 + 703)), (2, .int x2), (3, .int x3_181), (4, .int x4_181)] → k181 x3_181 x4_181 σ181 = some (r0, σr) → W p l e (zR 399 14918) s m [.ref (A0 + 703), .int x1, .int x2].toArray below meth c H locs 0 0 (MQ below (zQi D A0 r0 σr GF 740) [.ref (A0 + 703), .int x1, .int x2].toArray s 0 0 (zA A0)) (F0 m 181 ls []) := by
        intro x3_181 x4_181 σ181 H locs ls Z hl h
        rw [ek181] at h
        try dsimp only at h
        refine lv_aload_n hx hb dX12_month_181 rfl (lv_at hl 0 rfl) ?_
        obtain ⟨σ182, hc182, h⟩ := bd_x h
        refine zc_v Z (zr_V F Z (a := 703) (As := []) (zcX12_putBack l D A0 σ181 σ182 hc182) zBX12_putBack zq1709 (by decide) zs_703 zC12.1 rfl ⟨⟨rfl, rfl⟩, Nat.le_of_ble_eq_true rfl, Nat.le_of_ble_eq_true rfl⟩ hl.1 rfl (Nat.le_of_ble_eq_true rfl) dX12_month_182 ⟨Nat.le_of_ble_eq_true rfl, Nat.le_of_ble_eq_true rfl⟩) (fun _ _ Z => ?_)
        refine lv_aload_n hx hb dX12_month_185 rfl (lv_at hl 0 rfl) ?_
        obtain ⟨σ186, hc186, h⟩ := bd_x h
        refine zc_v Z (zr_V F Z (a := 703) (As := []) (zcX12_plainly l D A0 σ182 σ186 hc186) zBX12_plainly zq1657 (by decide) zs_703 zC12.1 rfl ⟨⟨rfl, rfl⟩, Nat.le_of_ble_eq_true rfl, Nat.le_of_ble_eq_true rfl⟩ hl.1 rfl (Nat.le_of_ble_eq_true rfl) dX12_month_186 ⟨Nat.le_of_ble_eq_true rfl, Nat.le_of_ble_eq_true rfl⟩) (fun _ _ Z => ?_)
        refine lv_iload_n hx hb dX12_month_189 rfl (lv_at hl 1 rfl) ?_
        refine zb_ifne (tgt := 197) hx hb dX12_month_190 (by decide) h (fun h => ?_) (fun h => ?_)
        · refine lv_iload hx hb dX12_month_197 (lv_at hl 3 rfl) ?_
          obtain ⟨hq1, hq2⟩ := zpq h
          exact ze_i F Z hr hlocks hq1 hq2 dX12_month_199
        · refine lv_iload_n hx hb dX12_month_193 rfl (lv_at hl 2 rfl) ?_
          refine lv_goto (tgt := 199) hx hb dX12_month_194 (by decide) ?_
          obtain ⟨hq1, hq2⟩ := zpq h
          exact ze_i F Z hr hlocks hq1 hq2 dX12_month_199
      have hL37 : ∀ (fu37 : Nat) (x3_37 : Int32) (x4_37 : Int32) (x5_37 : Int32) (σ37 : Mm) (H : Heap) (locs : List Loc) (ls : Array Slot), zh D A0 σ37 GF 740 s.heap H locs → lv_has ls 8 [(0, .ref (A0 + 703)), (1, .int x1), (2, .int x2), (3, .int x3_37), (4, .int x4_37), (5, .int x5_37)] → zfX12_month_L37 x1 k181 fu37 x3_37 x4_37 x5_37 σ37 = some (r0, σr) → W p l e (zR 399 14918) s m [.ref (A0 + 703), .int x1, .int x2].toArray below meth c H locs 0 0 (MQ below (zQi D A0 r0 σr GF 740) [.ref (A0 + 703), .int x1, .int x2].toArray s 0 0 (zA A0)) (F0 m 37 ls []) := by
        intro fu37
        induction fu37 with
        | zero => intro x3_37 x4_37 x5_37 σ37 H locs ls Z hl h; rw [zfX12_month_L37] at h; cases h
        | succ fu37 ih37 =>
          intro x3_37 x4_37 x5_37 σ37 H locs ls Z hl h
          rw [zfX12_month_L37] at h
          refine lv_iload hx hb dX12_month_37 (lv_at hl 5 rfl) ?_
          refine lv_iload_n hx hb dX12_month_39 rfl (lv_at hl 1 rfl) ?_
          refine zb_icge (tgt := 181) hx hb dX12_month_40 (by decide) h (fun h => ?_) (fun h => ?_)
          · exact hk181 x3_37 x4_37 σ37 _ _ _ Z (lv_sub hl [0, 2, 3, 4] rfl) h
          · refine lv_iload_n hx hb dX12_month_43 rfl (lv_at hl 3 rfl) ?_
            refine lv_iconst (v := (-1)) hx hb dX12_month_44 (by decide) ?_
            refine zb_icne (tgt := 181) hx hb dX12_month_45 (by decide) h (fun h => ?_) (fun h => ?_)
            · exact hk181 x3_37 x4_37 σ37 _ _ _ Z (lv_sub hl [0, 2, 3, 4] rfl) h
            · refine lv_iconst (v := 0) hx hb dX12_month_48 (by decide) ?_
              refine lv_istore (lv' := [(6, .int 0), (0, .ref (A0 + 703)), (1, .int x1), (2, .int x2), (3, .int x3_37), (4, .int x4_37), (5, .int x5_37)]) hx hb dX12_month_49 hl (by decide) rfl (fun ls hl => ?_)
              obtain ⟨k71, ek71, h⟩ := lt_x h
              have hk71 : ∀ (σ71 : Mm) (H : Heap) (locs : List Loc) (ls : Array Slot), zh D A0 σ71 GF 740 s.heap H locs → lv_has ls 8 [(0, .ref (A0 + 703)), (1, .int x1), (2, .int x2), (3, .int x3_37), (4, .int x4_37), (5, .int x5_37)] → k71 σ71 = some (r0, σr) → W p l e (zR 399 14918) s m [.ref (A0 + 703), .int x1, .int x2].toArray below meth c H locs 0 0 (MQ below (zQi D A0 r0 σr GF 740) [.ref (A0 + 703), .int x1, .int x2].toArray s 0 0 (zA A0)) (F0 m 71 ls []) := by
                intro  σ71 H locs ls Z hl h
                rw [ek71] at h
                try dsimp only at h
                refine lv_iconst (v := 0) hx hb dX12_month_71 (by decide) ?_
                refine lv_istore (lv' := [(6, .int 0), (0, .ref (A0 + 703)), (1, .int x1), (2, .int x2), (3, .int x3_37), (4, .int x4_37), (5, .int x5_37)]) hx hb dX12_month_72 hl (by decide) rfl (fun ls hl => ?_)
                obtain ⟨k120, ek120, h⟩ := lt_x h
                have hk120 : ∀ (σ120 : Mm) (H : Heap) (locs : List Loc) (ls : Array Slot), zh D A0 σ120 GF 740 s.heap H locs → lv_has ls 8 [(0, .ref (A0 + 703)), (1, .int x1), (2, .int x2), (3, .int x3_37), (4, .int x4_37), (5, .int x5_37)] → k120 σ120 = some (r0, σr) → W p l e (zR 399 14918) s m [.ref (A0 + 703), .int x1, .int x2].toArray below meth c H locs 0 0 (MQ below (zQi D A0 r0 σr GF 740) [.ref (A0 + 703), .int x1, .int x2].toArray s 0 0 (zA A0)) (F0 m 120 ls []) := by
                  intro  σ120 H locs ls Z hl h
                  rw [ek120] at h
                  try dsimp only at h
                  refine lv_aload_n hx hb dX12_month_120 rfl (lv_at hl 0 rfl) ?_
                  refine zw_getR F Z zC12 (a := 703) (k := 29) (by decide) zs_703 (by decide) rfl zg_703_29 zq1279 (Or.inl rfl) dX12_month_121 ?_
                  refine lv_bipush (v := 54) hx hb dX12_month_124 (by decide) ?_
                  refine zw_iald F Z (by decide) zs_714 (by decide) dX12_month_126 ?_
                  refine lv_topi (fun x6_127 ex6_127 => ?_)
                  replace h := lt_w h ex6_127
                  refine lv_istore (lv' := [(6, .int x6_127), (0, .ref (A0 + 703)), (1, .int x1), (2, .int x2), (3, .int x3_37), (4, .int x4_37), (5, .int x5_37)]) hx hb dX12_month_127 hl (by decide) rfl (fun ls hl => ?_)
                  refine lv_aload_n hx hb dX12_month_129 rfl (lv_at hl 1 rfl) ?_
                  refine lv_iconst (v := 0) hx hb dX12_month_130 (by decide) ?_
                  obtain ⟨σ131, hc131, h⟩ := bd_x h
                  refine zc_v Z (zr_V F Z (a := 703) (As := [.int 0]) (zcX12_goes l D A0 0 σ120 σ131 hc131) zBX12_goes zq1663 (by decide) zs_703 zC12.1 rfl ⟨⟨rfl, rfl⟩, Nat.le_of_ble_eq_true rfl, Nat.le_of_ble_eq_true rfl⟩ hl.1 rfl (Nat.le_of_ble_eq_true rfl) dX12_month_131 ⟨Nat.le_of_ble_eq_true rfl, Nat.le_of_ble_eq_true rfl⟩) (fun _ _ Z => ?_)
                  refine lv_aload_n hx hb dX12_month_134 rfl (lv_at hl 1 rfl) ?_
                  refine zw_getI F Z zC12 (a := 703) (k := 24) (by decide) zs_703 (by decide) rfl zq1274 (Or.inl rfl) dX12_month_135 ?_
                  refine lv_iconst (v := 1) hx hb dX12_month_138 (by decide) ?_
                  refine lv_isub hx hb dX12_month_139 ?_
                  refine lv_topi (fun x7_140 ex7_140 => ?_)
                  replace h := lt_w h ex7_140
                  refine lv_istore (lv' := [(7, .int x7_140), (6, .int x6_127), (0, .ref (A0 + 703)), (1, .int x1), (2, .int x2), (3, .int x3_37), (4, .int x4_37), (5, .int x5_37)]) hx hb dX12_month_140 hl (by decide) rfl (fun ls hl => ?_)
                  obtain ⟨k175, ek175, h⟩ := lt_x h
                  have hk175 : ∀ (x3_175 : Int32) (x4_175 : Int32) (σ175 : Mm) (H : Heap) (locs : List Loc) (ls : Array Slot), zh D A0 σ175 GF 740 s.heap H locs → lv_has ls 8 [(0, .ref (A0 + 703)), (1, .int x1), (2, .int x2), (3, .int x3_175), (4, .int x4_175), (5, .int x5_37)] → k175 x3_175 x4_175 σ175 = some (r0, σr) → W p l e (zR 399 14918) s m [.ref (A0 + 703), .int x1, .int x2].toArray below meth c H locs 0 0 (MQ below (zQi D A0 r0 σr GF 740) [.ref (A0 + 703), .int x1, .int x2].toArray s 0 0 (zA A0)) (F0 m 175 ls []) := by
                    intro x3_175 x4_175 σ175 H locs ls Z hl h
                    rw [ek175] at h
                    try dsimp only at h
                    obtain ⟨x5_175, ex5_175⟩ : ∃ y : Int32, y = x5_37 + 1 := ⟨_, rfl⟩
                    replace h := lt_w h ex5_175
                    refine lv_iinc (v := x5_175) (lv' := [(5, .int x5_175), (0, .ref (A0 + 703)), (1, .int x1), (2, .int x2), (3, .int x3_175), (4, .int x4_175)]) hx hb dX12_month_175 hl (k := 5) rfl (by rw [ex5_175]; rfl) (by decide) rfl (fun ls hl => ?_)
                    refine lv_goto (tgt := 37) hx hb dX12_month_178 (by decide) ?_
                    exact ih37 x3_175 x4_175 x5_175 σ175 _ _ _ Z (lv_sub hl [1, 2, 3, 4, 5, 0] rfl) h
                  have hL142 : ∀ (fu142 : Nat) (x3_142 : Int32) (x4_142 : Int32) (x7_142 : Int32) (σ142 : Mm) (H : Heap) (locs : List Loc) (ls : Array Slot), zh D A0 σ142 GF 740 s.heap H locs → lv_has ls 8 [(0, .ref (A0 + 703)), (1, .int x1), (2, .int x2), (3, .int x3_142), (4, .int x4_142), (5, .int x5_37), (6, .int x6_127), (7, .int x7_142)] → zfX12_month_L142 k175 x6_127 x5_37 fu142 x3_142 x4_142 x7_142 σ142 = some (r0, σr) → W p l e (zR 399 14918) s m [.ref (A0 + 703), .int x1, .int x2].toArray below meth c H locs 0 0 (MQ below (zQi D A0 r0 σr GF 740) [.ref (A0 + 703), .int x1, .int x2].toArray s 0 0 (zA A0)) (F0 m 142 ls []) := by
                    intro fu142
                    induction fu142 with
                    | zero => intro x3_142 x4_142 x7_142 σ142 H locs ls Z hl h; rw [zfX12_month_L142] at h; cases h
                    | succ fu142 ih142 =>
                      intro x3_142 x4_142 x7_142 σ142 H locs ls Z hl h
                      rw [zfX12_month_L142] at h
                      refine lv_iload hx hb dX12_month_142 (lv_at hl 7 rfl) ?_
                      refine zb_iflt (tgt := 175) hx hb dX12_month_144 (by decide) h (fun h => ?_) (fun h => ?_)
                      · exact hk175 x3_142 x4_142 σ142 _ _ _ Z (lv_sub hl [0, 1, 2, 3, 4, 5] rfl) h
                      · refine lv_aload_n hx hb dX12_month_147 rfl (lv_at hl 0 rfl) ?_
                        refine zw_getR F Z zC12 (a := 703) (k := 36) (by decide) zs_703 (by decide) rfl zg_703_36 zq1286 (Or.inl rfl) dX12_month_148 ?_
                        refine lv_iload hx hb dX12_month_151 (lv_at hl 7 rfl) ?_
                        obtain ⟨hk153, h⟩ := ck_x h
                        refine zw_iald F Z (by decide) zs_718 hk153 dX12_month_153 ?_
                        refine lv_iload hx hb dX12_month_154 (lv_at hl 6 rfl) ?_
                        obtain ⟨j169, ej169, h⟩ := lt_x h
                        have hj169 : ∀ (x3_169 : Int32) (x4_169 : Int32) (σ169 : Mm) (H : Heap) (locs : List Loc) (ls : Array Slot), zh D A0 σ169 GF 740 s.heap H locs → lv_has ls 8 [(0, .ref (A0 + 703)), (1, .int x1), (2, .int x2), (3, .int x3_169), (4, .int x4_169), (5, .int x5_37), (6, .int x6_127), (7, .int x7_142)] → j169 x3_169 x4_169 σ169 = some (r0, σr) → W p l e (zR 399 14918) s m [.ref (A0 + 703), .int x1, .int x2].toArray below meth c H locs 0 0 (MQ below (zQi D A0 r0 σr GF 740) [.ref (A0 + 703), .int x1, .int x2].toArray s 0 0 (zA A0)) (F0 m 169 ls []) := by
                          intro x3_169 x4_169 σ169 H locs ls Z hl h
                          rw [ej169] at h
                          try dsimp only at h
                          obtain ⟨x7_169, ex7_169⟩ : ∃ y : Int32, y = x7_142 + (-1) := ⟨_, rfl⟩
                          replace h := lt_w h ex7_169
                          refine lv_iinc (v := x7_169) (lv' := [(7, .int x7_169), (0, .ref (A0 + 703)), (1, .int x1), (2, .int x2), (3, .int x3_169), (4, .int x4_169), (5, .int x5_37), (6, .int x6_127)]) hx hb dX12_month_169 hl (k := 7) rfl (by rw [ex7_169]; rfl) (by decide) rfl (fun ls hl => ?_)
                          refine lv_goto (tgt := 142) hx hb dX12_month_172 (by decide) ?_
                          exact ih142 x3_169 x4_169 x7_169 σ169 _ _ _ Z (lv_sub hl [1, 2, 3, 4, 5, 6, 7, 0] rfl) h
                        refine zb_icgt (tgt := 162) hx hb dX12_month_156 (by decide) h (fun h => ?_) (fun h => ?_)
                        · refine lv_iload hx hb dX12_month_162 (lv_at hl 5 rfl) ?_
                          refine lv_istore_n (lv' := [(3, .int x5_37), (0, .ref (A0 + 703)), (1, .int x1), (2, .int x2), (4, .int x4_142), (5, .int x5_37), (6, .int x6_127), (7, .int x7_142)]) hx hb dX12_month_164 rfl hl (by decide) rfl (fun ls hl => ?_)
                          refine lv_iload hx hb dX12_month_165 (lv_at hl 7 rfl) ?_
                          refine lv_istore (lv' := [(4, .int x7_142), (3, .int x5_37), (0, .ref (A0 + 703)), (1, .int x1), (2, .int x2), (5, .int x5_37), (6, .int x6_127), (7, .int x7_142)]) hx hb dX12_month_167 hl (by decide) rfl (fun ls hl => ?_)
                          exact hj169 x5_37 x7_142 σ142 _ _ _ Z (lv_sub hl [2, 3, 4, 1, 0, 5, 6, 7] rfl) h
                        · refine lv_goto (tgt := 169) hx hb dX12_month_159 (by decide) ?_
                          exact hj169 x3_142 x4_142 σ142 _ _ _ Z (lv_sub hl [0, 1, 2, 3, 4, 5, 6, 7] rfl) h
                  exact hL142 NF x3_37 x4_37 x7_140 σ131 _ _ _ Z (lv_sub hl [2, 3, 4, 5, 6, 7, 1, 0] rfl) h
                have hL74 : ∀ (fu74 : Nat) (x6_74 : Int32) (σ74 : Mm) (H : Heap) (locs : List Loc) (ls : Array Slot), zh D A0 σ74 GF 740 s.heap H locs → lv_has ls 8 [(0, .ref (A0 + 703)), (1, .int x1), (2, .int x2), (3, .int x3_37), (4, .int x4_37), (5, .int x5_37), (6, .int x6_74)] → zfX12_month_L74 k120 x5_37 fu74 x6_74 σ74 = some (r0, σr) → W p l e (zR 399 14918) s m [.ref (A0 + 703), .int x1, .int x2].toArray below meth c H locs 0 0 (MQ below (zQi D A0 r0 σr GF 740) [.ref (A0 + 703), .int x1, .int x2].toArray s 0 0 (zA A0)) (F0 m 74 ls []) := by
                  intro fu74
                  induction fu74 with
                  | zero => intro x6_74 σ74 H locs ls Z hl h; rw [zfX12_month_L74] at h; cases h
                  | succ fu74 ih74 =>
                    intro x6_74 σ74 H locs ls Z hl h
                    rw [zfX12_month_L74] at h
                    refine lv_iload hx hb dX12_month_74 (lv_at hl 6 rfl) ?_
                    refine lv_aload_n hx hb dX12_month_76 rfl (lv_at hl 0 rfl) ?_
                    refine zw_getI F Z zC12 (a := 703) (k := 66) (by decide) zs_703 (by decide) rfl zq1316 (Or.inl rfl) dX12_month_77 ?_
                    refine zb_icge (tgt := 120) hx hb dX12_month_80 (by decide) h (fun h => ?_) (fun h => ?_)
                    · exact hk120 σ74 _ _ _ Z (lv_sub hl [0, 1, 2, 3, 4, 5] rfl) h
                    · refine lv_aload_n hx hb dX12_month_83 rfl (lv_at hl 0 rfl) ?_
                      refine zw_getR F Z zC12 (a := 703) (k := 64) (by decide) zs_703 (by decide) rfl zg_703_64 zq1314 (Or.inl rfl) dX12_month_84 ?_
                      refine lv_iload hx hb dX12_month_87 (lv_at hl 6 rfl) ?_
                      obtain ⟨hk89, h⟩ := ck_x h
                      refine zw_iald F Z (by decide) zs_734 hk89 dX12_month_89 ?_
                      refine lv_iload hx hb dX12_month_90 (lv_at hl 5 rfl) ?_
                      obtain ⟨j114, ej114, h⟩ := lt_x h
                      have hj114 : ∀ (σ114 : Mm) (H : Heap) (locs : List Loc) (ls : Array Slot), zh D A0 σ114 GF 740 s.heap H locs → lv_has ls 8 [(0, .ref (A0 + 703)), (1, .int x1), (2, .int x2), (3, .int x3_37), (4, .int x4_37), (5, .int x5_37), (6, .int x6_74)] → j114 σ114 = some (r0, σr) → W p l e (zR 399 14918) s m [.ref (A0 + 703), .int x1, .int x2].toArray below meth c H locs 0 0 (MQ below (zQi D A0 r0 σr GF 740) [.ref (A0 + 703), .int x1, .int x2].toArray s 0 0 (zA A0)) (F0 m 114 ls []) := by
                        intro  σ114 H locs ls Z hl h
                        rw [ej114] at h
                        try dsimp only at h
                        obtain ⟨x6_114, ex6_114⟩ : ∃ y : Int32, y = x6_74 + 1 := ⟨_, rfl⟩
                        replace h := lt_w h ex6_114
                        refine lv_iinc (v := x6_114) (lv' := [(6, .int x6_114), (0, .ref (A0 + 703)), (1, .int x1), (2, .int x2), (3, .int x3_37), (4, .int x4_37), (5, .int x5_37)]) hx hb dX12_month_114 hl (k := 6) rfl (by rw [ex6_114]; rfl) (by decide) rfl (fun ls hl => ?_)
                        refine lv_goto (tgt := 74) hx hb dX12_month_117 (by decide) ?_
                        exact ih74 x6_114 σ114 _ _ _ Z (lv_sub hl [1, 2, 3, 4, 5, 6, 0] rfl) h
                      refine zb_icne (tgt := 114) hx hb dX12_month_92 (by decide) h (fun h => ?_) (fun h => ?_)
                      · exact hj114 σ74 _ _ _ Z (lv_sub hl [0, 1, 2, 3, 4, 5, 6] rfl) h
                      · refine lv_aload_n hx hb dX12_month_95 rfl (lv_at hl 0 rfl) ?_
                        refine zw_getR F Z zC12 (a := 703) (k := 35) (by decide) zs_703 (by decide) rfl zg_703_35 zq1285 (Or.inl rfl) dX12_month_96 ?_
                        refine lv_aload_n hx hb dX12_month_99 rfl (lv_at hl 0 rfl) ?_
                        refine zw_getR F Z zC12 (a := 703) (k := 63) (by decide) zs_703 (by decide) rfl zg_703_63 zq1313 (Or.inl rfl) dX12_month_100 ?_
                        refine lv_iload hx hb dX12_month_103 (lv_at hl 6 rfl) ?_
                        obtain ⟨hk105, h⟩ := ck_x h
                        refine zw_iald F Z (by decide) zs_733 hk105 dX12_month_105 ?_
                        refine lv_aload_n hx hb dX12_month_106 rfl (lv_at hl 0 rfl) ?_
                        refine zw_getR F Z zC12 (a := 703) (k := 65) (by decide) zs_703 (by decide) rfl zg_703_65 zq1315 (Or.inl rfl) dX12_month_107 ?_
                        refine lv_iload hx hb dX12_month_110 (lv_at hl 6 rfl) ?_
                        obtain ⟨hk112, h⟩ := ck_x h
                        refine zw_iald F Z (by decide) zs_735 hk112 dX12_month_112 ?_
                        obtain ⟨hk113, h⟩ := ck_x h
                        refine zw_iast F Z (by decide) zs_717 hk113 dX12_month_113 (fun σ113 _ _ eσ113 Z => ?_)
                        replace h := lt_w h eσ113
                        exact hj114 σ113 _ _ _ Z (lv_sub hl [0, 1, 2, 3, 4, 5, 6] rfl) h
                exact hL74 NF 0 σ71 _ _ _ Z (lv_sub hl [1, 2, 3, 4, 5, 6, 0] rfl) h
              have hL51 : ∀ (fu51 : Nat) (x6_51 : Int32) (σ51 : Mm) (H : Heap) (locs : List Loc) (ls : Array Slot), zh D A0 σ51 GF 740 s.heap H locs → lv_has ls 8 [(0, .ref (A0 + 703)), (1, .int x1), (2, .int x2), (3, .int x3_37), (4, .int x4_37), (5, .int x5_37), (6, .int x6_51)] → zfX12_month_L51 k71 fu51 x6_51 σ51 = some (r0, σr) → W p l e (zR 399 14918) s m [.ref (A0 + 703), .int x1, .int x2].toArray below meth c H locs 0 0 (MQ below (zQi D A0 r0 σr GF 740) [.ref (A0 + 703), .int x1, .int x2].toArray s 0 0 (zA A0)) (F0 m 51 ls []) := by
                intro fu51
                induction fu51 with
                | zero => intro x6_51 σ51 H locs ls Z hl h; rw [zfX12_month_L51] at h; cases h
                | succ fu51 ih51 =>
                  intro x6_51 σ51 H locs ls Z hl h
                  rw [zfX12_month_L51] at h
                  refine lv_iload hx hb dX12_month_51 (lv_at hl 6 rfl) ?_
                  refine lv_iconst (v := 5) hx hb dX12_month_53 (by decide) ?_
                  refine zb_icge (tgt := 71) hx hb dX12_month_54 (by decide) h (fun h => ?_) (fun h => ?_)
                  · exact hk71 σ51 _ _ _ Z (lv_sub hl [0, 1, 2, 3, 4, 5] rfl) h
                  · refine lv_aload_n hx hb dX12_month_57 rfl (lv_at hl 0 rfl) ?_
                    refine zw_getR F Z zC12 (a := 703) (k := 35) (by decide) zs_703 (by decide) rfl zg_703_35 zq1285 (Or.inl rfl) dX12_month_58 ?_
                    refine lv_iload hx hb dX12_month_61 (lv_at hl 6 rfl) ?_
                    refine lv_iconst (v := (-1)) hx hb dX12_month_63 (by decide) ?_
                    obtain ⟨hk64, h⟩ := ck_x h
                    refine zw_iast F Z (by decide) zs_717 hk64 dX12_month_64 (fun σ64 _ _ eσ64 Z => ?_)
                    replace h := lt_w h eσ64
                    obtain ⟨x6_65, ex6_65⟩ : ∃ y : Int32, y = x6_51 + 1 := ⟨_, rfl⟩
                    replace h := lt_w h ex6_65
                    refine lv_iinc (v := x6_65) (lv' := [(6, .int x6_65), (0, .ref (A0 + 703)), (1, .int x1), (2, .int x2), (3, .int x3_37), (4, .int x4_37), (5, .int x5_37)]) hx hb dX12_month_65 hl (k := 6) rfl (by rw [ex6_65]; rfl) (by decide) rfl (fun ls hl => ?_)
                    refine lv_goto (tgt := 51) hx hb dX12_month_68 (by decide) ?_
                    exact ih51 x6_65 σ64 _ _ _ Z (lv_sub hl [1, 2, 3, 4, 5, 6, 0] rfl) h
              exact hL51 NF 0 σ37 _ _ _ Z (lv_sub hl [1, 2, 3, 4, 5, 6, 0] rfl) h
      exact hL37 NF (-1) (-1) 0 σ26 _ _ _ Z (lv_sub hl [3, 4, 5, 2, 1, 0] rfl) h
    · exact hj23 σ2 _ _ _ Z (lv_sub hl [] rfl) h
set_option maxHeartbeats 4000000 in
set_option maxRecDepth 100000 in
theorem zcX12_inTurn (l : Launch) (D : va_G) (A0 : Nat) (x1 : Int32) (x2 : Int32) (σ : Mm) (r0 : Int32) (σr : Mm) (h : zfX12_inTurn x1 x2 σ = some (r0, σr)) : Met l yX12_inTurn (zws yX12_inTurn cX12_inTurn 7 (some .int)) (zR 399 14918) (zPc D A0 σ GF 740 [.ref (A0 + 703), .int x1, .int x2]) (zQi D A0 r0 σr GF 740) 0 0 (zA A0) := by
  unfold zfX12_inTurn at h
  refine zmet (own := RX12) (by decide) rfl (Nat.le_of_ble_eq_true rfl) ?_
  intro p e s m below meth c F hr hlocks _ Z ls hl
  have hl : lv_has ls 7 [(0, .ref (A0 + 703)), (1, .int x1), (2, .int x2)] := hl
  have hx := F.1.1
  have hb := F.1.2.1
  have hown := F.1.2.2.2.1
  have hts := F.1.2.2.2.2
  refine lv_aload_n hx hb dX12_inTurn_0 rfl (lv_at hl 0 rfl) ?_
  refine lv_iconst (v := 0) hx hb dX12_inTurn_1 (by decide) ?_
  refine zw_putI F Z zC12 (a := 703) (k := 0) (by decide) zs_703 (by decide) rfl (by decide) zq1250 (Or.inl rfl) rfl ⟨rfl, rfl⟩ dX12_inTurn_2 (fun σ2 _ _ eσ2 Z => ?_)
  replace h := lt_w h eσ2
  refine lv_aload_n hx hb dX12_inTurn_5 rfl (lv_at hl 0 rfl) ?_
  refine lv_iload_n hx hb dX12_inTurn_6 rfl (lv_at hl 1 rfl) ?_
  refine zc_i Z (zr_V F Z (a := 703) (As := [.int x1]) (zcX12_isReady l D A0 x1 σ2 (zfX12_isReady x1 σ2) rfl) zBX12_isReady zq1649 (by decide) zs_703 zC12.1 rfl ⟨⟨rfl, rfl⟩, Nat.le_of_ble_eq_true rfl, Nat.le_of_ble_eq_true rfl⟩ hl.1 rfl (Nat.le_of_ble_eq_true rfl) dX12_inTurn_7 ⟨Nat.le_of_ble_eq_true rfl, Nat.le_of_ble_eq_true rfl⟩) (fun _ _ Z => ?_)
  obtain ⟨j25, ej25, h⟩ := lt_x h
  have hj25 : ∀ (σ25 : Mm) (H : Heap) (locs : List Loc) (ls : Array Slot), zh D A0 σ25 GF 740 s.heap H locs → lv_has ls 7 [] → j25 σ25 = some (r0, σr) → W p l e (zR 399 14918) s m [.ref (A0 + 703), .int x1, .int x2].toArray below meth c H locs 0 0 (MQ below (zQi D A0 r0 σr GF 740) [.ref (A0 + 703), .int x1, .int x2].toArray s 0 0 (zA A0)) (F0 m 25 ls []) := by
    intro  σ25 H locs ls Z hl h
    rw [ej25] at h
    try dsimp only at h
    refine lv_ldcw (v := (-1000000)) hx hb hown (hts _ zq1737) dX12_inTurn_25 ?_
    obtain ⟨hq1, hq2⟩ := zpq h
    exact ze_i F Z hr hlocks hq1 hq2 dX12_inTurn_28
  refine zb_ifeq (tgt := 25) hx hb dX12_inTurn_10 (by decide) h (fun h => ?_) (fun h => ?_)
  · exact hj25 σ2 _ _ _ Z (lv_sub hl [] rfl) h
  · refine lv_iload_n hx hb dX12_inTurn_13 rfl (lv_at hl 2 rfl) ?_
    refine lv_i2l hx hb dX12_inTurn_14 rfl ?_
    refine lv_lconst (v := 0) hx hb dX12_inTurn_15 (by decide) ?_
    refine lv_ldc2 (v := 2) hx hb hown (hts _ zq1781) dX12_inTurn_16 ?_
    refine zc_i Z (zr_S F Z (As := [.long (Int32.toInt64 x2), .long 0, .long 2]) (zcX12_isIn l D A0 (Int32.toInt64 x2) 0 2 σ2 (zfX12_isIn (Int32.toInt64 x2) 0 2) rfl) zBX12_isIn zq1496 rfl ⟨⟨rfl, rfl⟩, Nat.le_of_ble_eq_true rfl, Nat.le_of_ble_eq_true rfl⟩ hl.1 rfl (Nat.le_of_ble_eq_true rfl) dX12_inTurn_19 ⟨Nat.le_of_ble_eq_true rfl, Nat.le_of_ble_eq_true rfl⟩) (fun _ _ Z => ?_)
    refine zb_ifne (tgt := 29) hx hb dX12_inTurn_22 (by decide) h (fun h => ?_) (fun h => ?_)
    · refine lv_aload_n hx hb dX12_inTurn_29 rfl (lv_at hl 0 rfl) ?_
      obtain ⟨σ30, hc30, h⟩ := bd_x h
      refine zc_v Z (zr_V F Z (a := 703) (As := []) (zcX12_keep l D A0 σ2 σ30 hc30) zBX12_keep zq1701 (by decide) zs_703 zC12.1 rfl ⟨⟨rfl, rfl⟩, Nat.le_of_ble_eq_true rfl, Nat.le_of_ble_eq_true rfl⟩ hl.1 rfl (Nat.le_of_ble_eq_true rfl) dX12_inTurn_30 ⟨Nat.le_of_ble_eq_true rfl, Nat.le_of_ble_eq_true rfl⟩) (fun _ _ Z => ?_)
      refine lv_iconst (v := 0) hx hb dX12_inTurn_33 (by decide) ?_
      refine lv_istore_n (lv' := [(3, .int 0), (0, .ref (A0 + 703)), (1, .int x1), (2, .int x2)]) hx hb dX12_inTurn_34 rfl hl (by decide) rfl (fun ls hl => ?_)
      obtain ⟨k63, ek63, h⟩ := lt_x h
      have hk63 : ∀ (σ63 : Mm) (H : Heap) (locs : List Loc) (ls : Array Slot), zh D A0 σ63 GF 740 s.heap H locs → lv_has ls 7 [(0, .ref (A0 + 703)), (2, .int x2)] → k63 σ63 = some (r0, σr) → W p l e (zR 399 14918) s m [.ref (A0 + 703), .int x1, .int x2].toArray below meth c H locs 0 0 (MQ below (zQi D A0 r0 σr GF 740) [.ref (A0 + 703), .int x1, .int x2].toArray s 0 0 (zA A0)) (F0 m 63 ls []) := by
        intro  σ63 H locs ls Z hl h
        rw [ek63] at h
        try dsimp only at h
        refine lv_aload_n hx hb dX12_inTurn_63 rfl (lv_at hl 0 rfl) ?_
        refine zw_getR F Z zC12 (a := 703) (k := 29) (by decide) zs_703 (by decide) rfl zg_703_29 zq1279 (Or.inl rfl) dX12_inTurn_64 ?_
        refine lv_bipush (v := 54) hx hb dX12_inTurn_67 (by decide) ?_
        refine zw_iald F Z (by decide) zs_714 (by decide) dX12_inTurn_69 ?_
        refine lv_topi (fun x3_70 ex3_70 => ?_)
        replace h := lt_w h ex3_70
        refine lv_istore_n (lv' := [(3, .int x3_70), (0, .ref (A0 + 703)), (2, .int x2)]) hx hb dX12_inTurn_70 rfl hl (by decide) rfl (fun ls hl => ?_)
        refine lv_iconst (v := 0) hx hb dX12_inTurn_71 (by decide) ?_
        refine lv_istore (lv' := [(4, .int 0), (3, .int x3_70), (0, .ref (A0 + 703)), (2, .int x2)]) hx hb dX12_inTurn_72 hl (by decide) rfl (fun ls hl => ?_)
        refine lv_iconst (v := 0) hx hb dX12_inTurn_74 (by decide) ?_
        refine lv_istore (lv' := [(5, .int 0), (4, .int 0), (3, .int x3_70), (0, .ref (A0 + 703)), (2, .int x2)]) hx hb dX12_inTurn_75 hl (by decide) rfl (fun ls hl => ?_)
        refine lv_iconst (v := 0) hx hb dX12_inTurn_77 (by decide) ?_
        refine lv_istore (lv' := [(6, .int 0), (5, .int 0), (4, .int 0), (3, .int x3_70), (0, .ref (A0 + 703)), (2, .int x2)]) hx hb dX12_inTurn_78 hl (by decide) rfl (fun ls hl => ?_)
        obtain ⟨k175, ek175, h⟩ := lt_x h
        have hk175 : ∀ (x4_175 : Int32) (x5_175 : Int32) (σ175 : Mm) (H : Heap) (locs : List Loc) (ls : Array Slot), zh D A0 σ175 GF 740 s.heap H locs → lv_has ls 7 [(0, .ref (A0 + 703)), (2, .int x2), (3, .int x3_70), (4, .int x4_175), (5, .int x5_175)] → k175 x4_175 x5_175 σ175 = some (r0, σr) → W p l e (zR 399 14918) s m [.ref (A0 + 703), .int x1, .int x2].toArray below meth c H locs 0 0 (MQ below (zQi D A0 r0 σr GF 740) [.ref (A0 + 703), .int x1, .int x2].toArray s 0 0 (zA A0)) (F0 m 175 ls []) := by
          intro x4_175 x5_175 σ175 H locs ls Z hl h
          rw [ek175] at h
          try dsimp only at h
          refine lv_aload_n hx hb dX12_inTurn_175 rfl (lv_at hl 0 rfl) ?_
          obtain ⟨σ176, hc176, h⟩ := bd_x h
          refine zc_v Z (zr_V F Z (a := 703) (As := []) (zcX12_putBack l D A0 σ175 σ176 hc176) zBX12_putBack zq1709 (by decide) zs_703 zC12.1 rfl ⟨⟨rfl, rfl⟩, Nat.le_of_ble_eq_true rfl, Nat.le_of_ble_eq_true rfl⟩ hl.1 rfl (Nat.le_of_ble_eq_true rfl) dX12_inTurn_176 ⟨Nat.le_of_ble_eq_true rfl, Nat.le_of_ble_eq_true rfl⟩) (fun _ _ Z => ?_)
          refine lv_iload_n hx hb dX12_inTurn_179 rfl (lv_at hl 1 rfl) ?_
          refine zb_ifne (tgt := 187) hx hb dX12_inTurn_180 (by decide) h (fun h => ?_) (fun h => ?_)
          · refine lv_iload_n hx hb dX12_inTurn_187 rfl (lv_at hl 1 rfl) ?_
            refine lv_iconst (v := 1) hx hb dX12_inTurn_188 (by decide) ?_
            refine zb_icne (tgt := 197) hx hb dX12_inTurn_189 (by decide) h (fun h => ?_) (fun h => ?_)
            · refine lv_iload hx hb dX12_inTurn_197 (lv_at hl 4 rfl) ?_
              obtain ⟨hq1, hq2⟩ := zpq h
              exact ze_i F Z hr hlocks hq1 hq2 dX12_inTurn_199
            · refine lv_iload hx hb dX12_inTurn_192 (lv_at hl 3 rfl) ?_
              refine lv_goto (tgt := 199) hx hb dX12_inTurn_194 (by decide) ?_
              obtain ⟨hq1, hq2⟩ := zpq h
              exact ze_i F Z hr hlocks hq1 hq2 dX12_inTurn_199
          · refine lv_iload_n hx hb dX12_inTurn_183 rfl (lv_at hl 2 rfl) ?_
            refine lv_goto (tgt := 199) hx hb dX12_inTurn_184 (by decide) ?_
            obtain ⟨hq1, hq2⟩ := zpq h
            exact ze_i F Z hr hlocks hq1 hq2 dX12_inTurn_199
        have hL80 : ∀ (fu80 : Nat) (x4_80 : Int32) (x5_80 : Int32) (x6_80 : Int32) (σ80 : Mm) (H : Heap) (locs : List Loc) (ls : Array Slot), zh D A0 σ80 GF 740 s.heap H locs → lv_has ls 7 [(0, .ref (A0 + 703)), (2, .int x2), (3, .int x3_70), (4, .int x4_80), (5, .int x5_80), (6, .int x6_80)] → zfX12_inTurn_L80 k175 fu80 x4_80 x5_80 x6_80 σ80 = some (r0, σr) → W p l e (zR 399 14918) s m [.ref (A0 + 703), .int x1, .int x2].toArray below meth c H locs 0 0 (MQ below (zQi D A0 r0 σr GF 740) [.ref (A0 + 703), .int x1, .int x2].toArray s 0 0 (zA A0)) (F0 m 80 ls []) := by
          intro fu80
          induction fu80 with
          | zero => intro x4_80 x5_80 x6_80 σ80 H locs ls Z hl h; rw [zfX12_inTurn_L80] at h; cases h
          | succ fu80 ih80 =>
            intro x4_80 x5_80 x6_80 σ80 H locs ls Z hl h
            rw [zfX12_inTurn_L80] at h
            refine lv_iload hx hb dX12_inTurn_80 (lv_at hl 5 rfl) ?_
            refine lv_aload_n hx hb dX12_inTurn_82 rfl (lv_at hl 0 rfl) ?_
            refine zw_getI F Z zC12 (a := 703) (k := 24) (by decide) zs_703 (by decide) rfl zq1274 (Or.inl rfl) dX12_inTurn_83 ?_
            refine zb_icge (tgt := 175) hx hb dX12_inTurn_86 (by decide) h (fun h => ?_) (fun h => ?_)
            · exact hk175 x4_80 x5_80 σ80 _ _ _ Z (lv_sub hl [0, 1, 2, 3, 4] rfl) h
            · refine lv_iload hx hb dX12_inTurn_89 (lv_at hl 3 rfl) ?_
              refine lv_aload_n hx hb dX12_inTurn_91 rfl (lv_at hl 0 rfl) ?_
              refine zw_getR F Z zC12 (a := 703) (k := 29) (by decide) zs_703 (by decide) rfl zg_703_29 zq1279 (Or.inl rfl) dX12_inTurn_92 ?_
              refine lv_bipush (v := 12) hx hb dX12_inTurn_95 (by decide) ?_
              refine lv_iload hx hb dX12_inTurn_97 (lv_at hl 5 rfl) ?_
              refine lv_iadd hx hb dX12_inTurn_99 ?_
              obtain ⟨hk100, h⟩ := ck_x h
              refine zw_iald F Z (by decide) zs_714 hk100 dX12_inTurn_100 ?_
              refine lv_aload_n hx hb dX12_inTurn_101 rfl (lv_at hl 0 rfl) ?_
              refine zw_getR F Z zC12 (a := 703) (k := 30) (by decide) zs_703 (by decide) rfl zg_703_30 zq1280 (Or.inl rfl) dX12_inTurn_102 ?_
              refine lv_bipush (v := 12) hx hb dX12_inTurn_105 (by decide) ?_
              refine lv_iload hx hb dX12_inTurn_107 (lv_at hl 5 rfl) ?_
              refine lv_iadd hx hb dX12_inTurn_109 ?_
              obtain ⟨hk110, h⟩ := ck_x h
              refine zw_iald F Z (by decide) zs_715 hk110 dX12_inTurn_110 ?_
              refine lv_isub hx hb dX12_inTurn_111 ?_
              refine lv_iadd hx hb dX12_inTurn_112 ?_
              refine lv_topi (fun x4_113 ex4_113 => ?_)
              replace h := lt_w h ex4_113
              refine lv_istore (lv' := [(4, .int x4_113), (0, .ref (A0 + 703)), (2, .int x2), (3, .int x3_70), (5, .int x5_80), (6, .int x6_80)]) hx hb dX12_inTurn_113 hl (by decide) rfl (fun ls hl => ?_)
              refine lv_aload_n hx hb dX12_inTurn_115 rfl (lv_at hl 1 rfl) ?_
              refine zw_getR F Z zC12 (a := 703) (k := 29) (by decide) zs_703 (by decide) rfl zg_703_29 zq1279 (Or.inl rfl) dX12_inTurn_116 ?_
              refine lv_bipush (v := 12) hx hb dX12_inTurn_119 (by decide) ?_
              refine lv_iload hx hb dX12_inTurn_121 (lv_at hl 5 rfl) ?_
              refine lv_iadd hx hb dX12_inTurn_123 ?_
              obtain ⟨hk124, h⟩ := ck_x h
              refine zw_iald F Z (by decide) zs_714 hk124 dX12_inTurn_124 ?_
              refine lv_aload_n hx hb dX12_inTurn_125 rfl (lv_at hl 1 rfl) ?_
              refine zw_getR F Z zC12 (a := 703) (k := 30) (by decide) zs_703 (by decide) rfl zg_703_30 zq1280 (Or.inl rfl) dX12_inTurn_126 ?_
              refine lv_bipush (v := 12) hx hb dX12_inTurn_129 (by decide) ?_
              refine lv_iload hx hb dX12_inTurn_131 (lv_at hl 5 rfl) ?_
              refine lv_iadd hx hb dX12_inTurn_133 ?_
              obtain ⟨hk134, h⟩ := ck_x h
              refine zw_iald F Z (by decide) zs_715 hk134 dX12_inTurn_134 ?_
              refine lv_isub hx hb dX12_inTurn_135 ?_
              refine lv_aload_n hx hb dX12_inTurn_136 rfl (lv_at hl 1 rfl) ?_
              refine zw_getR F Z zC12 (a := 703) (k := 29) (by decide) zs_703 (by decide) rfl zg_703_29 zq1279 (Or.inl rfl) dX12_inTurn_137 ?_
              refine lv_bipush (v := 12) hx hb dX12_inTurn_140 (by decide) ?_
              refine lv_iload hx hb dX12_inTurn_142 (lv_at hl 4 rfl) ?_
              refine lv_iadd hx hb dX12_inTurn_144 ?_
              obtain ⟨hk145, h⟩ := ck_x h
              refine zw_iald F Z (by decide) zs_714 hk145 dX12_inTurn_145 ?_
              refine lv_aload_n hx hb dX12_inTurn_146 rfl (lv_at hl 1 rfl) ?_
              refine zw_getR F Z zC12 (a := 703) (k := 30) (by decide) zs_703 (by decide) rfl zg_703_30 zq1280 (Or.inl rfl) dX12_inTurn_147 ?_
              refine lv_bipush (v := 12) hx hb dX12_inTurn_150 (by decide) ?_
              refine lv_iload hx hb dX12_inTurn_152 (lv_at hl 4 rfl) ?_
              refine lv_iadd hx hb dX12_inTurn_154 ?_
              obtain ⟨hk155, h⟩ := ck_x h
              refine zw_iald F Z (by decide) zs_715 hk155 dX12_inTurn_155 ?_
              refine lv_isub hx hb dX12_inTurn_156 ?_
              obtain ⟨j167, ej167, h⟩ := lt_x h
              have hj167 : ∀ (y0_167 : Int32) (σ167 : Mm) (H : Heap) (locs : List Loc) (ls : Array Slot), zh D A0 σ167 GF 740 s.heap H locs → lv_has ls 7 [(0, .ref (A0 + 703)), (2, .int x2), (3, .int x3_70), (4, .int x4_113), (6, .int x6_80)] → j167 y0_167 σ167 = some (r0, σr) → W p l e (zR 399 14918) s m [.ref (A0 + 703), .int x1, .int x2].toArray below meth c H locs 0 0 (MQ below (zQi D A0 r0 σr GF 740) [.ref (A0 + 703), .int x1, .int x2].toArray s 0 0 (zA A0)) (F0 m 167 ls [.int y0_167]) := by
                intro y0_167 σ167 H locs ls Z hl h
                rw [ej167] at h
                try dsimp only at h
                refine lv_istore (lv' := [(5, .int y0_167), (0, .ref (A0 + 703)), (2, .int x2), (3, .int x3_70), (4, .int x4_113), (6, .int x6_80)]) hx hb dX12_inTurn_167 hl (by decide) rfl (fun ls hl => ?_)
                obtain ⟨x6_169, ex6_169⟩ : ∃ y : Int32, y = x6_80 + 1 := ⟨_, rfl⟩
                replace h := lt_w h ex6_169
                refine lv_iinc (v := x6_169) (lv' := [(6, .int x6_169), (5, .int y0_167), (0, .ref (A0 + 703)), (2, .int x2), (3, .int x3_70), (4, .int x4_113)]) hx hb dX12_inTurn_169 hl (k := 5) rfl (by rw [ex6_169]; rfl) (by decide) rfl (fun ls hl => ?_)
                refine lv_goto (tgt := 80) hx hb dX12_inTurn_172 (by decide) ?_
                exact ih80 x4_113 y0_167 x6_169 σ167 _ _ _ Z (lv_sub hl [2, 3, 4, 5, 1, 0] rfl) h
              refine zb_icge (tgt := 165) hx hb dX12_inTurn_157 (by decide) h (fun h => ?_) (fun h => ?_)
              · refine lv_iload hx hb dX12_inTurn_165 (lv_at hl 4 rfl) ?_
                exact hj167 x5_80 σ80 _ _ _ Z (lv_sub hl [1, 2, 3, 0, 5] rfl) h
              · refine lv_iload hx hb dX12_inTurn_160 (lv_at hl 5 rfl) ?_
                refine lv_goto (tgt := 167) hx hb dX12_inTurn_162 (by decide) ?_
                exact hj167 x6_80 σ80 _ _ _ Z (lv_sub hl [1, 2, 3, 0, 5] rfl) h
        exact hL80 NF 0 0 0 σ63 _ _ _ Z (lv_sub hl [4, 5, 3, 2, 1, 0] rfl) h
      have hL35 : ∀ (fu35 : Nat) (x3_35 : Int32) (σ35 : Mm) (H : Heap) (locs : List Loc) (ls : Array Slot), zh D A0 σ35 GF 740 s.heap H locs → lv_has ls 7 [(0, .ref (A0 + 703)), (1, .int x1), (2, .int x2), (3, .int x3_35)] → zfX12_inTurn_L35 x1 k63 fu35 x3_35 σ35 = some (r0, σr) → W p l e (zR 399 14918) s m [.ref (A0 + 703), .int x1, .int x2].toArray below meth c H locs 0 0 (MQ below (zQi D A0 r0 σr GF 740) [.ref (A0 + 703), .int x1, .int x2].toArray s 0 0 (zA A0)) (F0 m 35 ls []) := by
        intro fu35
        induction fu35 with
        | zero => intro x3_35 σ35 H locs ls Z hl h; rw [zfX12_inTurn_L35] at h; cases h
        | succ fu35 ih35 =>
          intro x3_35 σ35 H locs ls Z hl h
          rw [zfX12_inTurn_L35] at h
          refine lv_iload_n hx hb dX12_inTurn_35 rfl (lv_at hl 3 rfl) ?_
          refine lv_iload_n hx hb dX12_inTurn_36 rfl (lv_at hl 1 rfl) ?_
          refine zb_icge (tgt := 63) hx hb dX12_inTurn_37 (by decide) h (fun h => ?_) (fun h => ?_)
          · exact hk63 σ35 _ _ _ Z (lv_sub hl [0, 2] rfl) h
          · refine lv_aload_n hx hb dX12_inTurn_40 rfl (lv_at hl 0 rfl) ?_
            refine lv_iconst (v := 1) hx hb dX12_inTurn_41 (by decide) ?_
            refine lv_iload_n hx hb dX12_inTurn_42 rfl (lv_at hl 3 rfl) ?_
            refine lv_aload_n hx hb dX12_inTurn_43 rfl (lv_at hl 0 rfl) ?_
            refine zw_getI F Z zC12 (a := 703) (k := 24) (by decide) zs_703 (by decide) rfl zq1274 (Or.inl rfl) dX12_inTurn_44 ?_
            obtain ⟨hk47, h⟩ := ck_x h
            refine lv_irem hx hb dX12_inTurn_47 hk47 ?_
            refine lv_ishl hx hb dX12_inTurn_48 ?_
            refine zw_putI F Z zC12 (a := 703) (k := 41) (by decide) zs_703 (by decide) rfl (by decide) zq1291 (Or.inl rfl) rfl ⟨rfl, rfl⟩ dX12_inTurn_49 (fun σ49 _ _ eσ49 Z => ?_)
            replace h := lt_w h eσ49
            refine lv_aload_n hx hb dX12_inTurn_52 rfl (lv_at hl 0 rfl) ?_
            refine lv_iconst (v := 0) hx hb dX12_inTurn_53 (by decide) ?_
            obtain ⟨σ54, hc54, h⟩ := bd_x h
            refine zc_v Z (zr_V F Z (a := 703) (As := [.int 0]) (zcX12_goes l D A0 0 σ49 σ54 hc54) zBX12_goes zq1663 (by decide) zs_703 zC12.1 rfl ⟨⟨rfl, rfl⟩, Nat.le_of_ble_eq_true rfl, Nat.le_of_ble_eq_true rfl⟩ hl.1 rfl (Nat.le_of_ble_eq_true rfl) dX12_inTurn_54 ⟨Nat.le_of_ble_eq_true rfl, Nat.le_of_ble_eq_true rfl⟩) (fun _ _ Z => ?_)
            obtain ⟨x3_57, ex3_57⟩ : ∃ y : Int32, y = x3_35 + 1 := ⟨_, rfl⟩
            replace h := lt_w h ex3_57
            refine lv_iinc (v := x3_57) (lv' := [(3, .int x3_57), (0, .ref (A0 + 703)), (1, .int x1), (2, .int x2)]) hx hb dX12_inTurn_57 hl (k := 3) rfl (by rw [ex3_57]; rfl) (by decide) rfl (fun ls hl => ?_)
            refine lv_goto (tgt := 35) hx hb dX12_inTurn_60 (by decide) ?_
            exact ih35 x3_57 σ54 _ _ _ Z (lv_sub hl [1, 2, 3, 0] rfl) h
      exact hL35 NF 0 σ30 _ _ _ Z (lv_sub hl [1, 2, 3, 0] rfl) h
    · exact hj25 σ2 _ _ _ Z (lv_sub hl [] rfl) h
set_option maxHeartbeats 4000000 in
set_option maxRecDepth 100000 in
theorem zcX12_bribe (l : Launch) (D : va_G) (A0 : Nat) (x1 : Int32) (x2 : Int32) (σ : Mm) (r0 : Int32) (σr : Mm) (h : zfX12_bribe x1 x2 σ = some (r0, σr)) : Met l yX12_bribe (zws yX12_bribe cX12_bribe 7 (some .int)) (zR 401 14966) (zPc D A0 σ GF 740 [.ref (A0 + 703), .int x1, .int x2]) (zQi D A0 r0 σr GF 740) 0 0 (zA A0) := by
  unfold zfX12_bribe at h
  refine zmet (own := RX12) (by decide) rfl (Nat.le_of_ble_eq_true rfl) ?_
  intro p e s m below meth c F hr hlocks _ Z ls hl
  have hl : lv_has ls 7 [(0, .ref (A0 + 703)), (1, .int x1), (2, .int x2)] := hl
  have hx := F.1.1
  have hb := F.1.2.1
  have hown := F.1.2.2.2.1
  have hts := F.1.2.2.2.2
  refine lv_aload_n hx hb dX12_bribe_0 rfl (lv_at hl 0 rfl) ?_
  refine lv_iconst (v := 0) hx hb dX12_bribe_1 (by decide) ?_
  refine zw_putI F Z zC12 (a := 703) (k := 0) (by decide) zs_703 (by decide) rfl (by decide) zq1250 (Or.inl rfl) rfl ⟨rfl, rfl⟩ dX12_bribe_2 (fun σ2 _ _ eσ2 Z => ?_)
  replace h := lt_w h eσ2
  refine lv_aload_n hx hb dX12_bribe_5 rfl (lv_at hl 0 rfl) ?_
  refine lv_iload_n hx hb dX12_bribe_6 rfl (lv_at hl 1 rfl) ?_
  refine zc_i Z (zr_V F Z (a := 703) (As := [.int x1]) (zcX12_isReady l D A0 x1 σ2 (zfX12_isReady x1 σ2) rfl) zBX12_isReady zq1649 (by decide) zs_703 zC12.1 rfl ⟨⟨rfl, rfl⟩, Nat.le_of_ble_eq_true rfl, Nat.le_of_ble_eq_true rfl⟩ hl.1 rfl (Nat.le_of_ble_eq_true rfl) dX12_bribe_7 ⟨Nat.le_of_ble_eq_true rfl, Nat.le_of_ble_eq_true rfl⟩) (fun _ _ Z => ?_)
  obtain ⟨j23, ej23, h⟩ := lt_x h
  have hj23 : ∀ (σ23 : Mm) (H : Heap) (locs : List Loc) (ls : Array Slot), zh D A0 σ23 GF 740 s.heap H locs → lv_has ls 7 [] → j23 σ23 = some (r0, σr) → W p l e (zR 401 14966) s m [.ref (A0 + 703), .int x1, .int x2].toArray below meth c H locs 0 0 (MQ below (zQi D A0 r0 σr GF 740) [.ref (A0 + 703), .int x1, .int x2].toArray s 0 0 (zA A0)) (F0 m 23 ls []) := by
    intro  σ23 H locs ls Z hl h
    rw [ej23] at h
    try dsimp only at h
    refine lv_ldcw (v := (-1000000)) hx hb hown (hts _ zq1737) dX12_bribe_23 ?_
    obtain ⟨hq1, hq2⟩ := zpq h
    exact ze_i F Z hr hlocks hq1 hq2 dX12_bribe_26
  refine zb_ifeq (tgt := 23) hx hb dX12_bribe_10 (by decide) h (fun h => ?_) (fun h => ?_)
  · exact hj23 σ2 _ _ _ Z (lv_sub hl [] rfl) h
  · refine lv_iload_n hx hb dX12_bribe_13 rfl (lv_at hl 2 rfl) ?_
    refine lv_i2l hx hb dX12_bribe_14 rfl ?_
    refine lv_lconst (v := 0) hx hb dX12_bribe_15 (by decide) ?_
    refine lv_lconst (v := 1) hx hb dX12_bribe_16 (by decide) ?_
    refine zc_i Z (zr_S F Z (As := [.long (Int32.toInt64 x2), .long 0, .long 1]) (zcX12_isIn l D A0 (Int32.toInt64 x2) 0 1 σ2 (zfX12_isIn (Int32.toInt64 x2) 0 1) rfl) zBX12_isIn zq1496 rfl ⟨⟨rfl, rfl⟩, Nat.le_of_ble_eq_true rfl, Nat.le_of_ble_eq_true rfl⟩ hl.1 rfl (Nat.le_of_ble_eq_true rfl) dX12_bribe_17 ⟨Nat.le_of_ble_eq_true rfl, Nat.le_of_ble_eq_true rfl⟩) (fun _ _ Z => ?_)
    refine zb_ifne (tgt := 27) hx hb dX12_bribe_20 (by decide) h (fun h => ?_) (fun h => ?_)
    · refine lv_aload_n hx hb dX12_bribe_27 rfl (lv_at hl 0 rfl) ?_
      obtain ⟨σ28, hc28, h⟩ := bd_x h
      refine zc_v Z (zr_V F Z (a := 703) (As := []) (zcX12_keep l D A0 σ2 σ28 hc28) zBX12_keep zq1701 (by decide) zs_703 zC12.1 rfl ⟨⟨rfl, rfl⟩, Nat.le_of_ble_eq_true rfl, Nat.le_of_ble_eq_true rfl⟩ hl.1 rfl (Nat.le_of_ble_eq_true rfl) dX12_bribe_28 ⟨Nat.le_of_ble_eq_true rfl, Nat.le_of_ble_eq_true rfl⟩) (fun _ _ Z => ?_)
      refine lv_iconst (v := (-1)) hx hb dX12_bribe_31 (by decide) ?_
      refine lv_istore_n (lv' := [(3, .int (-1)), (0, .ref (A0 + 703)), (1, .int x1), (2, .int x2)]) hx hb dX12_bribe_32 rfl hl (by decide) rfl (fun ls hl => ?_)
      refine lv_iconst (v := 0) hx hb dX12_bribe_33 (by decide) ?_
      refine lv_istore (lv' := [(4, .int 0), (3, .int (-1)), (0, .ref (A0 + 703)), (1, .int x1), (2, .int x2)]) hx hb dX12_bribe_34 hl (by decide) rfl (fun ls hl => ?_)
      refine lv_iconst (v := 0) hx hb dX12_bribe_36 (by decide) ?_
      refine lv_istore (lv' := [(5, .int 0), (4, .int 0), (3, .int (-1)), (0, .ref (A0 + 703)), (1, .int x1), (2, .int x2)]) hx hb dX12_bribe_37 hl (by decide) rfl (fun ls hl => ?_)
      obtain ⟨k123, ek123, h⟩ := lt_x h
      have hk123 : ∀ (x3_123 : Int32) (x4_123 : Int32) (σ123 : Mm) (H : Heap) (locs : List Loc) (ls : Array Slot), zh D A0 σ123 GF 740 s.heap H locs → lv_has ls 7 [(2, .int x2), (3, .int x3_123), (4, .int x4_123)] → k123 x3_123 x4_123 σ123 = some (r0, σr) → W p l e (zR 401 14966) s m [.ref (A0 + 703), .int x1, .int x2].toArray below meth c H locs 0 0 (MQ below (zQi D A0 r0 σr GF 740) [.ref (A0 + 703), .int x1, .int x2].toArray s 0 0 (zA A0)) (F0 m 123 ls []) := by
        intro x3_123 x4_123 σ123 H locs ls Z hl h
        rw [ek123] at h
        try dsimp only at h
        refine lv_iload_n hx hb dX12_bribe_123 rfl (lv_at hl 0 rfl) ?_
        refine zb_ifne (tgt := 131) hx hb dX12_bribe_124 (by decide) h (fun h => ?_) (fun h => ?_)
        · refine lv_iload_n hx hb dX12_bribe_131 rfl (lv_at hl 1 rfl) ?_
          refine lv_iconst (v := (-1)) hx hb dX12_bribe_132 (by decide) ?_
          refine zb_icne (tgt := 142) hx hb dX12_bribe_133 (by decide) h (fun h => ?_) (fun h => ?_)
          · refine lv_iload hx hb dX12_bribe_142 (lv_at hl 2 rfl) ?_
            obtain ⟨hq1, hq2⟩ := zpq h
            exact ze_i F Z hr hlocks hq1 hq2 dX12_bribe_144
          · refine lv_ldcw (v := (-1000000)) hx hb hown (hts _ zq1737) dX12_bribe_136 ?_
            refine lv_goto (tgt := 144) hx hb dX12_bribe_139 (by decide) ?_
            obtain ⟨hq1, hq2⟩ := zpq h
            exact ze_i F Z hr hlocks hq1 hq2 dX12_bribe_144
        · refine lv_iload_n hx hb dX12_bribe_127 rfl (lv_at hl 1 rfl) ?_
          refine lv_goto (tgt := 144) hx hb dX12_bribe_128 (by decide) ?_
          obtain ⟨hq1, hq2⟩ := zpq h
          exact ze_i F Z hr hlocks hq1 hq2 dX12_bribe_144
      have hL39 : ∀ (fu39 : Nat) (x3_39 : Int32) (x4_39 : Int32) (x5_39 : Int32) (σ39 : Mm) (H : Heap) (locs : List Loc) (ls : Array Slot), zh D A0 σ39 GF 740 s.heap H locs → lv_has ls 7 [(0, .ref (A0 + 703)), (1, .int x1), (2, .int x2), (3, .int x3_39), (4, .int x4_39), (5, .int x5_39)] → zfX12_bribe_L39 k123 x1 fu39 x3_39 x4_39 x5_39 σ39 = some (r0, σr) → W p l e (zR 401 14966) s m [.ref (A0 + 703), .int x1, .int x2].toArray below meth c H locs 0 0 (MQ below (zQi D A0 r0 σr GF 740) [.ref (A0 + 703), .int x1, .int x2].toArray s 0 0 (zA A0)) (F0 m 39 ls []) := by
        intro fu39
        induction fu39 with
        | zero => intro x3_39 x4_39 x5_39 σ39 H locs ls Z hl h; rw [zfX12_bribe_L39] at h; cases h
        | succ fu39 ih39 =>
          intro x3_39 x4_39 x5_39 σ39 H locs ls Z hl h
          rw [zfX12_bribe_L39] at h
          refine lv_iload hx hb dX12_bribe_39 (lv_at hl 5 rfl) ?_
          refine lv_aload_n hx hb dX12_bribe_41 rfl (lv_at hl 0 rfl) ?_
          refine zw_getI F Z zC12 (a := 703) (k := 24) (by decide) zs_703 (by decide) rfl zq1274 (Or.inl rfl) dX12_bribe_42 ?_
          refine zb_icge (tgt := 123) hx hb dX12_bribe_45 (by decide) h (fun h => ?_) (fun h => ?_)
          · exact hk123 x3_39 x4_39 σ39 _ _ _ Z (lv_sub hl [2, 3, 4] rfl) h
          · refine lv_aload_n hx hb dX12_bribe_48 rfl (lv_at hl 0 rfl) ?_
            refine zw_getI F Z zC12 (a := 703) (k := 32) (by decide) zs_703 (by decide) rfl zq1282 (Or.inl rfl) dX12_bribe_49 ?_
            refine lv_iload hx hb dX12_bribe_52 (lv_at hl 5 rfl) ?_
            refine zc_i Z (zr_S F Z (As := [.int (σ39 703 32), .int x5_39]) (zcX12_has l D A0 (σ39 703 32) x5_39 σ39 (zfX12_has (σ39 703 32) x5_39) rfl) zBX12_has zq1530 rfl ⟨⟨rfl, rfl⟩, Nat.le_of_ble_eq_true rfl, Nat.le_of_ble_eq_true rfl⟩ hl.1 rfl (Nat.le_of_ble_eq_true rfl) dX12_bribe_54 ⟨Nat.le_of_ble_eq_true rfl, Nat.le_of_ble_eq_true rfl⟩) (fun _ _ Z => ?_)
            obtain ⟨j117, ej117, h⟩ := lt_x h
            have hj117 : ∀ (x3_117 : Int32) (x4_117 : Int32) (σ117 : Mm) (H : Heap) (locs : List Loc) (ls : Array Slot), zh D A0 σ117 GF 740 s.heap H locs → lv_has ls 7 [(0, .ref (A0 + 703)), (1, .int x1), (2, .int x2), (3, .int x3_117), (4, .int x4_117), (5, .int x5_39)] → j117 x3_117 x4_117 σ117 = some (r0, σr) → W p l e (zR 401 14966) s m [.ref (A0 + 703), .int x1, .int x2].toArray below meth c H locs 0 0 (MQ below (zQi D A0 r0 σr GF 740) [.ref (A0 + 703), .int x1, .int x2].toArray s 0 0 (zA A0)) (F0 m 117 ls []) := by
              intro x3_117 x4_117 σ117 H locs ls Z hl h
              rw [ej117] at h
              try dsimp only at h
              obtain ⟨x5_117, ex5_117⟩ : ∃ y : Int32, y = x5_39 + 1 := ⟨_, rfl⟩
              replace h := lt_w h ex5_117
              refine lv_iinc (v := x5_117) (lv' := [(5, .int x5_117), (0, .ref (A0 + 703)), (1, .int x1), (2, .int x2), (3, .int x3_117), (4, .int x4_117)]) hx hb dX12_bribe_117 hl (k := 5) rfl (by rw [ex5_117]; rfl) (by decide) rfl (fun ls hl => ?_)
              refine lv_goto (tgt := 39) hx hb dX12_bribe_120 (by decide) ?_
              exact ih39 x3_117 x4_117 x5_117 σ117 _ _ _ Z (lv_sub hl [1, 2, 3, 4, 5, 0] rfl) h
            refine zb_ifeq (tgt := 63) hx hb dX12_bribe_57 (by decide) h (fun h => ?_) (fun h => ?_)
            · refine lv_aload_n hx hb dX12_bribe_63 rfl (lv_at hl 0 rfl) ?_
              refine lv_aload_n hx hb dX12_bribe_64 rfl (lv_at hl 0 rfl) ?_
              refine zw_getI F Z zC12 (a := 703) (k := 32) (by decide) zs_703 (by decide) rfl zq1282 (Or.inl rfl) dX12_bribe_65 ?_
              refine lv_iload_n hx hb dX12_bribe_68 rfl (lv_at hl 1 rfl) ?_
              refine lv_iload hx hb dX12_bribe_69 (lv_at hl 5 rfl) ?_
              refine lv_iconst (v := 0) hx hb dX12_bribe_71 (by decide) ?_
              obtain ⟨r72, σ72, hc72, h⟩ := bd2_x h
              refine zc_i Z (zr_V F Z (a := 703) (As := [.int (σ39 703 32), .int x1, .int x5_39, .int 0]) (zcX12_gainsBy l D A0 (σ39 703 32) x1 x5_39 0 σ39 r72 σ72 hc72) zBX12_gainsBy zq1762 (by decide) zs_703 zC12.1 rfl ⟨⟨rfl, rfl⟩, Nat.le_of_ble_eq_true rfl, Nat.le_of_ble_eq_true rfl⟩ hl.1 rfl (Nat.le_of_ble_eq_true rfl) dX12_bribe_72 ⟨Nat.le_of_ble_eq_true rfl, Nat.le_of_ble_eq_true rfl⟩) (fun _ _ Z => ?_)
              refine lv_aload_n hx hb dX12_bribe_75 rfl (lv_at hl 0 rfl) ?_
              refine lv_aload_n hx hb dX12_bribe_76 rfl (lv_at hl 0 rfl) ?_
              refine zw_getI F Z zC12 (a := 703) (k := 32) (by decide) zs_703 (by decide) rfl zq1282 (Or.inl rfl) dX12_bribe_77 ?_
              refine lv_iconst (v := 1) hx hb dX12_bribe_80 (by decide) ?_
              refine lv_iload hx hb dX12_bribe_81 (lv_at hl 5 rfl) ?_
              refine lv_ishl hx hb dX12_bribe_83 ?_
              refine lv_ior hx hb dX12_bribe_84 ?_
              refine lv_iload_n hx hb dX12_bribe_85 rfl (lv_at hl 1 rfl) ?_
              refine lv_iload hx hb dX12_bribe_86 (lv_at hl 5 rfl) ?_
              refine lv_iconst (v := 0) hx hb dX12_bribe_88 (by decide) ?_
              obtain ⟨r89, σ89, hc89, h⟩ := bd2_x h
              refine zc_i Z (zr_V F Z (a := 703) (As := [.int ((σ72 703 32) ||| ((1 : Int32) <<< (x5_39 &&& 31))), .int x1, .int x5_39, .int 0]) (zcX12_gainsBy l D A0 ((σ72 703 32) ||| ((1 : Int32) <<< (x5_39 &&& 31))) x1 x5_39 0 σ72 r89 σ89 hc89) zBX12_gainsBy zq1762 (by decide) zs_703 zC12.1 rfl ⟨⟨rfl, rfl⟩, Nat.le_of_ble_eq_true rfl, Nat.le_of_ble_eq_true rfl⟩ hl.1 rfl (Nat.le_of_ble_eq_true rfl) dX12_bribe_89 ⟨Nat.le_of_ble_eq_true rfl, Nat.le_of_ble_eq_true rfl⟩) (fun _ _ Z => ?_)
              refine lv_isub hx hb dX12_bribe_92 ?_
              refine lv_topi (fun x6_93 ex6_93 => ?_)
              replace h := lt_w h ex6_93
              refine lv_istore (lv' := [(6, .int x6_93), (0, .ref (A0 + 703)), (1, .int x1), (2, .int x2), (3, .int x3_39), (4, .int x4_39), (5, .int x5_39)]) hx hb dX12_bribe_93 hl (by decide) rfl (fun ls hl => ?_)
              refine lv_iload_n hx hb dX12_bribe_95 rfl (lv_at hl 4 rfl) ?_
              refine lv_iconst (v := (-1)) hx hb dX12_bribe_96 (by decide) ?_
              obtain ⟨j110, ej110, h⟩ := lt_x h
              have hj110 : ∀ (σ110 : Mm) (H : Heap) (locs : List Loc) (ls : Array Slot), zh D A0 σ110 GF 740 s.heap H locs → lv_has ls 7 [(0, .ref (A0 + 703)), (1, .int x1), (2, .int x2), (5, .int x5_39), (6, .int x6_93)] → j110 σ110 = some (r0, σr) → W p l e (zR 401 14966) s m [.ref (A0 + 703), .int x1, .int x2].toArray below meth c H locs 0 0 (MQ below (zQi D A0 r0 σr GF 740) [.ref (A0 + 703), .int x1, .int x2].toArray s 0 0 (zA A0)) (F0 m 110 ls []) := by
                intro  σ110 H locs ls Z hl h
                rw [ej110] at h
                try dsimp only at h
                refine lv_iload hx hb dX12_bribe_110 (lv_at hl 3 rfl) ?_
                refine lv_istore_n (lv' := [(3, .int x5_39), (0, .ref (A0 + 703)), (1, .int x1), (2, .int x2), (5, .int x5_39), (6, .int x6_93)]) hx hb dX12_bribe_112 rfl hl (by decide) rfl (fun ls hl => ?_)
                refine lv_iload hx hb dX12_bribe_113 (lv_at hl 5 rfl) ?_
                refine lv_istore (lv' := [(4, .int x6_93), (3, .int x5_39), (0, .ref (A0 + 703)), (1, .int x1), (2, .int x2), (5, .int x5_39), (6, .int x6_93)]) hx hb dX12_bribe_115 hl (by decide) rfl (fun ls hl => ?_)
                exact hj117 x5_39 x6_93 σ110 _ _ _ Z (lv_sub hl [2, 3, 4, 1, 0, 5] rfl) h
              refine zb_iceq (tgt := 110) hx hb dX12_bribe_97 (by decide) h (fun h => ?_) (fun h => ?_)
              · exact hj110 σ89 _ _ _ Z (lv_sub hl [1, 2, 3, 6, 0] rfl) h
              · refine lv_iload hx hb dX12_bribe_100 (lv_at hl 0 rfl) ?_
                refine lv_iload hx hb dX12_bribe_102 (lv_at hl 5 rfl) ?_
                refine zb_iclt (tgt := 110) hx hb dX12_bribe_104 (by decide) h (fun h => ?_) (fun h => ?_)
                · exact hj110 σ89 _ _ _ Z (lv_sub hl [1, 2, 3, 6, 0] rfl) h
                · refine lv_goto (tgt := 117) hx hb dX12_bribe_107 (by decide) ?_
                  exact hj117 x3_39 x4_39 σ89 _ _ _ Z (lv_sub hl [1, 2, 3, 4, 5, 6] rfl) h
            · refine lv_goto (tgt := 117) hx hb dX12_bribe_60 (by decide) ?_
              exact hj117 x3_39 x4_39 σ39 _ _ _ Z (lv_sub hl [0, 1, 2, 3, 4, 5] rfl) h
      exact hL39 NF (-1) 0 0 σ28 _ _ _ Z (lv_sub hl [3, 4, 5, 2, 1, 0] rfl) h
    · exact hj23 σ2 _ _ _ Z (lv_sub hl [] rfl) h
set_option maxHeartbeats 4000000 in
set_option maxRecDepth 100000 in
theorem zcX12_spread (l : Launch) (D : va_G) (A0 : Nat) (x1 : Int32) (x2 : Int32) (σ : Mm) (r0 : Int32) (σr : Mm) (h : zfX12_spread x1 x2 σ = some (r0, σr)) : Met l yX12_spread (zws yX12_spread cX12_spread 7 (some .int)) (zR 400 14940) (zPc D A0 σ GF 740 [.ref (A0 + 703), .int x1, .int x2]) (zQi D A0 r0 σr GF 740) 0 0 (zA A0) := by
  unfold zfX12_spread at h
  refine zmet (own := RX12) (by decide) rfl (Nat.le_of_ble_eq_true rfl) ?_
  intro p e s m below meth c F hr hlocks _ Z ls hl
  have hl : lv_has ls 7 [(0, .ref (A0 + 703)), (1, .int x1), (2, .int x2)] := hl
  have hx := F.1.1
  have hb := F.1.2.1
  have hown := F.1.2.2.2.1
  have hts := F.1.2.2.2.2
  refine lv_aload_n hx hb dX12_spread_0 rfl (lv_at hl 0 rfl) ?_
  refine lv_iconst (v := 0) hx hb dX12_spread_1 (by decide) ?_
  refine zw_putI F Z zC12 (a := 703) (k := 0) (by decide) zs_703 (by decide) rfl (by decide) zq1250 (Or.inl rfl) rfl ⟨rfl, rfl⟩ dX12_spread_2 (fun σ2 _ _ eσ2 Z => ?_)
  replace h := lt_w h eσ2
  refine lv_aload_n hx hb dX12_spread_5 rfl (lv_at hl 0 rfl) ?_
  refine lv_iload_n hx hb dX12_spread_6 rfl (lv_at hl 1 rfl) ?_
  refine zc_i Z (zr_V F Z (a := 703) (As := [.int x1]) (zcX12_isReady l D A0 x1 σ2 (zfX12_isReady x1 σ2) rfl) zBX12_isReady zq1649 (by decide) zs_703 zC12.1 rfl ⟨⟨rfl, rfl⟩, Nat.le_of_ble_eq_true rfl, Nat.le_of_ble_eq_true rfl⟩ hl.1 rfl (Nat.le_of_ble_eq_true rfl) dX12_spread_7 ⟨Nat.le_of_ble_eq_true rfl, Nat.le_of_ble_eq_true rfl⟩) (fun _ _ Z => ?_)
  obtain ⟨j23, ej23, h⟩ := lt_x h
  have hj23 : ∀ (σ23 : Mm) (H : Heap) (locs : List Loc) (ls : Array Slot), zh D A0 σ23 GF 740 s.heap H locs → lv_has ls 7 [] → j23 σ23 = some (r0, σr) → W p l e (zR 400 14940) s m [.ref (A0 + 703), .int x1, .int x2].toArray below meth c H locs 0 0 (MQ below (zQi D A0 r0 σr GF 740) [.ref (A0 + 703), .int x1, .int x2].toArray s 0 0 (zA A0)) (F0 m 23 ls []) := by
    intro  σ23 H locs ls Z hl h
    rw [ej23] at h
    try dsimp only at h
    refine lv_iconst (v := (-1)) hx hb dX12_spread_23 (by decide) ?_
    obtain ⟨hq1, hq2⟩ := zpq h
    exact ze_i F Z hr hlocks hq1 hq2 dX12_spread_24
  refine zb_ifeq (tgt := 23) hx hb dX12_spread_10 (by decide) h (fun h => ?_) (fun h => ?_)
  · exact hj23 σ2 _ _ _ Z (lv_sub hl [] rfl) h
  · refine lv_iload_n hx hb dX12_spread_13 rfl (lv_at hl 2 rfl) ?_
    refine lv_i2l hx hb dX12_spread_14 rfl ?_
    refine lv_lconst (v := 0) hx hb dX12_spread_15 (by decide) ?_
    refine lv_lconst (v := 1) hx hb dX12_spread_16 (by decide) ?_
    refine zc_i Z (zr_S F Z (As := [.long (Int32.toInt64 x2), .long 0, .long 1]) (zcX12_isIn l D A0 (Int32.toInt64 x2) 0 1 σ2 (zfX12_isIn (Int32.toInt64 x2) 0 1) rfl) zBX12_isIn zq1496 rfl ⟨⟨rfl, rfl⟩, Nat.le_of_ble_eq_true rfl, Nat.le_of_ble_eq_true rfl⟩ hl.1 rfl (Nat.le_of_ble_eq_true rfl) dX12_spread_17 ⟨Nat.le_of_ble_eq_true rfl, Nat.le_of_ble_eq_true rfl⟩) (fun _ _ Z => ?_)
    refine zb_ifne (tgt := 25) hx hb dX12_spread_20 (by decide) h (fun h => ?_) (fun h => ?_)
    · refine lv_aload_n hx hb dX12_spread_25 rfl (lv_at hl 0 rfl) ?_
      obtain ⟨σ26, hc26, h⟩ := bd_x h
      refine zc_v Z (zr_V F Z (a := 703) (As := []) (zcX12_keep l D A0 σ2 σ26 hc26) zBX12_keep zq1701 (by decide) zs_703 zC12.1 rfl ⟨⟨rfl, rfl⟩, Nat.le_of_ble_eq_true rfl, Nat.le_of_ble_eq_true rfl⟩ hl.1 rfl (Nat.le_of_ble_eq_true rfl) dX12_spread_26 ⟨Nat.le_of_ble_eq_true rfl, Nat.le_of_ble_eq_true rfl⟩) (fun _ _ Z => ?_)
      refine lv_aload_n hx hb dX12_spread_29 rfl (lv_at hl 0 rfl) ?_
      refine lv_iload_n hx hb dX12_spread_30 rfl (lv_at hl 1 rfl) ?_
      obtain ⟨σ31, hc31, h⟩ := bd_x h
      refine zc_v Z (zr_V F Z (a := 703) (As := [.int x1]) (zcX12_tries l D A0 x1 σ26 σ31 hc31) zBX12_tries zq1705 (by decide) zs_703 zC12.1 rfl ⟨⟨rfl, rfl⟩, Nat.le_of_ble_eq_true rfl, Nat.le_of_ble_eq_true rfl⟩ hl.1 rfl (Nat.le_of_ble_eq_true rfl) dX12_spread_31 ⟨Nat.le_of_ble_eq_true rfl, Nat.le_of_ble_eq_true rfl⟩) (fun _ _ Z => ?_)
      refine lv_aload_n hx hb dX12_spread_34 rfl (lv_at hl 0 rfl) ?_
      obtain ⟨σ35, hc35, h⟩ := bd_x h
      refine zc_v Z (zr_V F Z (a := 703) (As := []) (zcX12_putBack l D A0 σ31 σ35 hc35) zBX12_putBack zq1709 (by decide) zs_703 zC12.1 rfl ⟨⟨rfl, rfl⟩, Nat.le_of_ble_eq_true rfl, Nat.le_of_ble_eq_true rfl⟩ hl.1 rfl (Nat.le_of_ble_eq_true rfl) dX12_spread_35 ⟨Nat.le_of_ble_eq_true rfl, Nat.le_of_ble_eq_true rfl⟩) (fun _ _ Z => ?_)
      refine lv_aload_n hx hb dX12_spread_38 rfl (lv_at hl 0 rfl) ?_
      refine zw_getR F Z zC12 (a := 703) (k := 49) (by decide) zs_703 (by decide) rfl zg_703_49 zq1299 (Or.inl rfl) dX12_spread_39 ?_
      refine lv_iconst (v := 0) hx hb dX12_spread_42 (by decide) ?_
      refine zw_iald F Z (by decide) zs_725 (by decide) dX12_spread_43 ?_
      refine lv_topi (fun x3_44 ex3_44 => ?_)
      replace h := lt_w h ex3_44
      refine lv_istore_n (lv' := [(3, .int x3_44), (0, .ref (A0 + 703)), (1, .int x1), (2, .int x2)]) hx hb dX12_spread_44 rfl hl (by decide) rfl (fun ls hl => ?_)
      refine lv_aload_n hx hb dX12_spread_45 rfl (lv_at hl 1 rfl) ?_
      refine zw_getR F Z zC12 (a := 703) (k := 49) (by decide) zs_703 (by decide) rfl zg_703_49 zq1299 (Or.inl rfl) dX12_spread_46 ?_
      refine lv_iconst (v := 0) hx hb dX12_spread_49 (by decide) ?_
      refine zw_iald F Z (by decide) zs_725 (by decide) dX12_spread_50 ?_
      refine lv_topi (fun x4_51 ex4_51 => ?_)
      replace h := lt_w h ex4_51
      refine lv_istore (lv' := [(4, .int x4_51), (3, .int x3_44), (0, .ref (A0 + 703)), (1, .int x1), (2, .int x2)]) hx hb dX12_spread_51 hl (by decide) rfl (fun ls hl => ?_)
      refine lv_iconst (v := 0) hx hb dX12_spread_53 (by decide) ?_
      refine lv_istore (lv' := [(5, .int 0), (4, .int x4_51), (3, .int x3_44), (0, .ref (A0 + 703)), (1, .int x1), (2, .int x2)]) hx hb dX12_spread_54 hl (by decide) rfl (fun ls hl => ?_)
      refine lv_iconst (v := 1) hx hb dX12_spread_56 (by decide) ?_
      refine lv_istore (lv' := [(6, .int 1), (5, .int 0), (4, .int x4_51), (3, .int x3_44), (0, .ref (A0 + 703)), (1, .int x1), (2, .int x2)]) hx hb dX12_spread_57 hl (by decide) rfl (fun ls hl => ?_)
      obtain ⟨k109, ek109, h⟩ := lt_x h
      have hk109 : ∀ (x3_109 : Int32) (x4_109 : Int32) (x5_109 : Int32) (σ109 : Mm) (H : Heap) (locs : List Loc) (ls : Array Slot), zh D A0 σ109 GF 740 s.heap H locs → lv_has ls 7 [(2, .int x2), (3, .int x3_109), (4, .int x4_109), (5, .int x5_109)] → k109 x3_109 x4_109 x5_109 σ109 = some (r0, σr) → W p l e (zR 400 14940) s m [.ref (A0 + 703), .int x1, .int x2].toArray below meth c H locs 0 0 (MQ below (zQi D A0 r0 σr GF 740) [.ref (A0 + 703), .int x1, .int x2].toArray s 0 0 (zA A0)) (F0 m 109 ls []) := by
        intro x3_109 x4_109 x5_109 σ109 H locs ls Z hl h
        rw [ek109] at h
        try dsimp only at h
        refine lv_iload_n hx hb dX12_spread_109 rfl (lv_at hl 0 rfl) ?_
        refine zb_ifne (tgt := 120) hx hb dX12_spread_110 (by decide) h (fun h => ?_) (fun h => ?_)
        · refine lv_iload hx hb dX12_spread_120 (lv_at hl 3 rfl) ?_
          obtain ⟨hq1, hq2⟩ := zpq h
          exact ze_i F Z hr hlocks hq1 hq2 dX12_spread_122
        · refine lv_iload hx hb dX12_spread_113 (lv_at hl 2 rfl) ?_
          refine lv_iload_n hx hb dX12_spread_115 rfl (lv_at hl 1 rfl) ?_
          refine lv_isub hx hb dX12_spread_116 ?_
          refine lv_goto (tgt := 122) hx hb dX12_spread_117 (by decide) ?_
          obtain ⟨hq1, hq2⟩ := zpq h
          exact ze_i F Z hr hlocks hq1 hq2 dX12_spread_122
      have hL59 : ∀ (fu59 : Nat) (x3_59 : Int32) (x4_59 : Int32) (x5_59 : Int32) (x6_59 : Int32) (σ59 : Mm) (H : Heap) (locs : List Loc) (ls : Array Slot), zh D A0 σ59 GF 740 s.heap H locs → lv_has ls 7 [(0, .ref (A0 + 703)), (1, .int x1), (2, .int x2), (3, .int x3_59), (4, .int x4_59), (5, .int x5_59), (6, .int x6_59)] → zfX12_spread_L59 x1 k109 fu59 x3_59 x4_59 x5_59 x6_59 σ59 = some (r0, σr) → W p l e (zR 400 14940) s m [.ref (A0 + 703), .int x1, .int x2].toArray below meth c H locs 0 0 (MQ below (zQi D A0 r0 σr GF 740) [.ref (A0 + 703), .int x1, .int x2].toArray s 0 0 (zA A0)) (F0 m 59 ls []) := by
        intro fu59
        induction fu59 with
        | zero => intro x3_59 x4_59 x5_59 x6_59 σ59 H locs ls Z hl h; rw [zfX12_spread_L59] at h; cases h
        | succ fu59 ih59 =>
          intro x3_59 x4_59 x5_59 x6_59 σ59 H locs ls Z hl h
          rw [zfX12_spread_L59] at h
          refine lv_iload hx hb dX12_spread_59 (lv_at hl 6 rfl) ?_
          refine lv_iload_n hx hb dX12_spread_61 rfl (lv_at hl 1 rfl) ?_
          refine zb_icgt (tgt := 109) hx hb dX12_spread_62 (by decide) h (fun h => ?_) (fun h => ?_)
          · exact hk109 x3_59 x4_59 x5_59 σ59 _ _ _ Z (lv_sub hl [2, 3, 4, 5] rfl) h
          · refine lv_iload_n hx hb dX12_spread_65 rfl (lv_at hl 3 rfl) ?_
            refine lv_aload_n hx hb dX12_spread_66 rfl (lv_at hl 0 rfl) ?_
            refine zw_getR F Z zC12 (a := 703) (k := 49) (by decide) zs_703 (by decide) rfl zg_703_49 zq1299 (Or.inl rfl) dX12_spread_67 ?_
            refine lv_iload hx hb dX12_spread_70 (lv_at hl 6 rfl) ?_
            obtain ⟨hk72, h⟩ := ck_x h
            refine zw_iald F Z (by decide) zs_725 hk72 dX12_spread_72 ?_
            refine zw_zmin F hl.1 zq1667 (Nat.le_of_ble_eq_true rfl) (Nat.le_of_ble_eq_true rfl) (Nat.le_of_ble_eq_true rfl) (Nat.le_of_ble_eq_true rfl) dX12_spread_73 ?_
            refine lv_topi (fun x3_76 ex3_76 => ?_)
            replace h := lt_w h ex3_76
            refine lv_istore_n (lv' := [(3, .int x3_76), (0, .ref (A0 + 703)), (1, .int x1), (2, .int x2), (4, .int x4_59), (5, .int x5_59), (6, .int x6_59)]) hx hb dX12_spread_76 rfl hl (by decide) rfl (fun ls hl => ?_)
            refine lv_iload hx hb dX12_spread_77 (lv_at hl 4 rfl) ?_
            refine lv_aload_n hx hb dX12_spread_79 rfl (lv_at hl 1 rfl) ?_
            refine zw_getR F Z zC12 (a := 703) (k := 49) (by decide) zs_703 (by decide) rfl zg_703_49 zq1299 (Or.inl rfl) dX12_spread_80 ?_
            refine lv_iload hx hb dX12_spread_83 (lv_at hl 6 rfl) ?_
            obtain ⟨hk85, h⟩ := ck_x h
            refine zw_iald F Z (by decide) zs_725 hk85 dX12_spread_85 ?_
            refine zw_zmax F hl.1 zq1672 (Nat.le_of_ble_eq_true rfl) (Nat.le_of_ble_eq_true rfl) (Nat.le_of_ble_eq_true rfl) (Nat.le_of_ble_eq_true rfl) dX12_spread_86 ?_
            refine lv_topi (fun x4_89 ex4_89 => ?_)
            replace h := lt_w h ex4_89
            refine lv_istore (lv' := [(4, .int x4_89), (3, .int x3_76), (0, .ref (A0 + 703)), (1, .int x1), (2, .int x2), (5, .int x5_59), (6, .int x6_59)]) hx hb dX12_spread_89 hl (by decide) rfl (fun ls hl => ?_)
            refine lv_iload hx hb dX12_spread_91 (lv_at hl 5 rfl) ?_
            refine lv_aload_n hx hb dX12_spread_93 rfl (lv_at hl 2 rfl) ?_
            refine zw_getR F Z zC12 (a := 703) (k := 49) (by decide) zs_703 (by decide) rfl zg_703_49 zq1299 (Or.inl rfl) dX12_spread_94 ?_
            refine lv_iload hx hb dX12_spread_97 (lv_at hl 6 rfl) ?_
            obtain ⟨hk99, h⟩ := ck_x h
            refine zw_iald F Z (by decide) zs_725 hk99 dX12_spread_99 ?_
            refine lv_iadd hx hb dX12_spread_100 ?_
            refine lv_topi (fun x5_101 ex5_101 => ?_)
            replace h := lt_w h ex5_101
            refine lv_istore (lv' := [(5, .int x5_101), (4, .int x4_89), (3, .int x3_76), (0, .ref (A0 + 703)), (1, .int x1), (2, .int x2), (6, .int x6_59)]) hx hb dX12_spread_101 hl (by decide) rfl (fun ls hl => ?_)
            obtain ⟨x6_103, ex6_103⟩ : ∃ y : Int32, y = x6_59 + 1 := ⟨_, rfl⟩
            replace h := lt_w h ex6_103
            refine lv_iinc (v := x6_103) (lv' := [(6, .int x6_103), (5, .int x5_101), (4, .int x4_89), (3, .int x3_76), (0, .ref (A0 + 703)), (1, .int x1), (2, .int x2)]) hx hb dX12_spread_103 hl (k := 6) rfl (by rw [ex6_103]; rfl) (by decide) rfl (fun ls hl => ?_)
            refine lv_goto (tgt := 59) hx hb dX12_spread_106 (by decide) ?_
            exact ih59 x3_76 x4_89 x5_101 x6_103 σ59 _ _ _ Z (lv_sub hl [4, 5, 6, 3, 2, 1, 0] rfl) h
      exact hL59 NF x3_44 x4_51 0 1 σ35 _ _ _ Z (lv_sub hl [4, 5, 6, 3, 2, 1, 0] rfl) h
    · exact hj23 σ2 _ _ _ Z (lv_sub hl [] rfl) h
set_option maxHeartbeats 4000000 in
set_option maxRecDepth 100000 in
theorem zcX12_served (l : Launch) (D : va_G) (A0 : Nat) (x1 : Int32) (x2 : Int32) (x3 : Int32) (σ : Mm) (r0 : Int32) (σr : Mm) (h : zfX12_served x1 x2 x3 σ = some (r0, σr)) : Met l yX12_served (zws yX12_served cX12_served 4 (some .int)) (zR 400 14940) (zPc D A0 σ GF 740 [.ref (A0 + 703), .int x1, .int x2, .int x3]) (zQi D A0 r0 σr GF 740) 0 0 (zA A0) := by
  unfold zfX12_served at h
  refine zmet (own := RX12) (by decide) rfl (Nat.le_of_ble_eq_true rfl) ?_
  intro p e s m below meth c F hr hlocks _ Z ls hl
  have hl : lv_has ls 4 [(0, .ref (A0 + 703)), (1, .int x1), (2, .int x2), (3, .int x3)] := hl
  have hx := F.1.1
  have hb := F.1.2.1
  have hown := F.1.2.2.2.1
  have hts := F.1.2.2.2.2
  refine lv_aload_n hx hb dX12_served_0 rfl (lv_at hl 0 rfl) ?_
  refine lv_iconst (v := 0) hx hb dX12_served_1 (by decide) ?_
  refine zw_putI F Z zC12 (a := 703) (k := 0) (by decide) zs_703 (by decide) rfl (by decide) zq1250 (Or.inl rfl) rfl ⟨rfl, rfl⟩ dX12_served_2 (fun σ2 _ _ eσ2 Z => ?_)
  replace h := lt_w h eσ2
  refine lv_aload_n hx hb dX12_served_5 rfl (lv_at hl 0 rfl) ?_
  refine lv_iload_n hx hb dX12_served_6 rfl (lv_at hl 2 rfl) ?_
  refine zc_i Z (zr_V F Z (a := 703) (As := [.int x2]) (zcX12_isReady l D A0 x2 σ2 (zfX12_isReady x2 σ2) rfl) zBX12_isReady zq1649 (by decide) zs_703 zC12.1 rfl ⟨⟨rfl, rfl⟩, Nat.le_of_ble_eq_true rfl, Nat.le_of_ble_eq_true rfl⟩ hl.1 rfl (Nat.le_of_ble_eq_true rfl) dX12_served_7 ⟨Nat.le_of_ble_eq_true rfl, Nat.le_of_ble_eq_true rfl⟩) (fun _ _ Z => ?_)
  obtain ⟨j39, ej39, h⟩ := lt_x h
  have hj39 : ∀ (σ39 : Mm) (H : Heap) (locs : List Loc) (ls : Array Slot), zh D A0 σ39 GF 740 s.heap H locs → lv_has ls 4 [] → j39 σ39 = some (r0, σr) → W p l e (zR 400 14940) s m [.ref (A0 + 703), .int x1, .int x2, .int x3].toArray below meth c H locs 0 0 (MQ below (zQi D A0 r0 σr GF 740) [.ref (A0 + 703), .int x1, .int x2, .int x3].toArray s 0 0 (zA A0)) (F0 m 39 ls []) := by
    intro  σ39 H locs ls Z hl h
    rw [ej39] at h
    try dsimp only at h
    refine lv_iconst (v := (-1)) hx hb dX12_served_39 (by decide) ?_
    obtain ⟨hq1, hq2⟩ := zpq h
    exact ze_i F Z hr hlocks hq1 hq2 dX12_served_40
  refine zb_ifeq (tgt := 39) hx hb dX12_served_10 (by decide) h (fun h => ?_) (fun h => ?_)
  · exact hj39 σ2 _ _ _ Z (lv_sub hl [] rfl) h
  · refine lv_iload_n hx hb dX12_served_13 rfl (lv_at hl 1 rfl) ?_
    refine lv_i2l hx hb dX12_served_14 rfl ?_
    refine lv_lconst (v := 0) hx hb dX12_served_15 (by decide) ?_
    refine lv_aload_n hx hb dX12_served_16 rfl (lv_at hl 0 rfl) ?_
    refine zw_getI F Z zC12 (a := 703) (k := 25) (by decide) zs_703 (by decide) rfl zq1275 (Or.inl rfl) dX12_served_17 ?_
    refine lv_iconst (v := 1) hx hb dX12_served_20 (by decide) ?_
    refine lv_isub hx hb dX12_served_21 ?_
    refine lv_i2l hx hb dX12_served_22 rfl ?_
    refine zc_i Z (zr_S F Z (As := [.long (Int32.toInt64 x1), .long 0, .long (Int32.toInt64 ((σ2 703 25) - 1))]) (zcX12_isIn l D A0 (Int32.toInt64 x1) 0 (Int32.toInt64 ((σ2 703 25) - 1)) σ2 (zfX12_isIn (Int32.toInt64 x1) 0 (Int32.toInt64 ((σ2 703 25) - 1))) rfl) zBX12_isIn zq1496 rfl ⟨⟨rfl, rfl⟩, Nat.le_of_ble_eq_true rfl, Nat.le_of_ble_eq_true rfl⟩ hl.1 rfl (Nat.le_of_ble_eq_true rfl) dX12_served_23 ⟨Nat.le_of_ble_eq_true rfl, Nat.le_of_ble_eq_true rfl⟩) (fun _ _ Z => ?_)
    refine zb_ifeq (tgt := 39) hx hb dX12_served_26 (by decide) h (fun h => ?_) (fun h => ?_)
    · exact hj39 σ2 _ _ _ Z (lv_sub hl [] rfl) h
    · refine lv_iload_n hx hb dX12_served_29 rfl (lv_at hl 3 rfl) ?_
      refine lv_i2l hx hb dX12_served_30 rfl ?_
      refine lv_lconst (v := 0) hx hb dX12_served_31 (by decide) ?_
      refine lv_lconst (v := 1) hx hb dX12_served_32 (by decide) ?_
      refine zc_i Z (zr_S F Z (As := [.long (Int32.toInt64 x3), .long 0, .long 1]) (zcX12_isIn l D A0 (Int32.toInt64 x3) 0 1 σ2 (zfX12_isIn (Int32.toInt64 x3) 0 1) rfl) zBX12_isIn zq1496 rfl ⟨⟨rfl, rfl⟩, Nat.le_of_ble_eq_true rfl, Nat.le_of_ble_eq_true rfl⟩ hl.1 rfl (Nat.le_of_ble_eq_true rfl) dX12_served_33 ⟨Nat.le_of_ble_eq_true rfl, Nat.le_of_ble_eq_true rfl⟩) (fun _ _ Z => ?_)
      refine zb_ifne (tgt := 41) hx hb dX12_served_36 (by decide) h (fun h => ?_) (fun h => ?_)
      · refine lv_aload_n hx hb dX12_served_41 rfl (lv_at hl 0 rfl) ?_
        obtain ⟨σ42, hc42, h⟩ := bd_x h
        refine zc_v Z (zr_V F Z (a := 703) (As := []) (zcX12_keep l D A0 σ2 σ42 hc42) zBX12_keep zq1701 (by decide) zs_703 zC12.1 rfl ⟨⟨rfl, rfl⟩, Nat.le_of_ble_eq_true rfl, Nat.le_of_ble_eq_true rfl⟩ hl.1 rfl (Nat.le_of_ble_eq_true rfl) dX12_served_42 ⟨Nat.le_of_ble_eq_true rfl, Nat.le_of_ble_eq_true rfl⟩) (fun _ _ Z => ?_)
        refine lv_aload_n hx hb dX12_served_45 rfl (lv_at hl 0 rfl) ?_
        refine zw_getR F Z zC12 (a := 703) (k := 47) (by decide) zs_703 (by decide) rfl zg_703_47 zq1297 (Or.inl rfl) dX12_served_46 ?_
        refine lv_iload_n hx hb dX12_served_49 rfl (lv_at hl 1 rfl) ?_
        refine lv_iconst (v := 0) hx hb dX12_served_50 (by decide) ?_
        obtain ⟨hk51, h⟩ := ck_x h
        refine zw_iast F Z (by decide) zs_723 hk51 dX12_served_51 (fun σ51 _ _ eσ51 Z => ?_)
        replace h := lt_w h eσ51
        refine lv_aload_n hx hb dX12_served_52 rfl (lv_at hl 0 rfl) ?_
        refine zw_getR F Z zC12 (a := 703) (k := 48) (by decide) zs_703 (by decide) rfl zg_703_48 zq1298 (Or.inl rfl) dX12_served_53 ?_
        refine lv_iload_n hx hb dX12_served_56 rfl (lv_at hl 1 rfl) ?_
        refine lv_iconst (v := 0) hx hb dX12_served_57 (by decide) ?_
        obtain ⟨hk58, h⟩ := ck_x h
        refine zw_iast F Z (by decide) zs_724 hk58 dX12_served_58 (fun σ58 _ _ eσ58 Z => ?_)
        replace h := lt_w h eσ58
        refine lv_aload_n hx hb dX12_served_59 rfl (lv_at hl 0 rfl) ?_
        refine lv_iload_n hx hb dX12_served_60 rfl (lv_at hl 2 rfl) ?_
        obtain ⟨σ61, hc61, h⟩ := bd_x h
        refine zc_v Z (zr_V F Z (a := 703) (As := [.int x2]) (zcX12_tries l D A0 x2 σ58 σ61 hc61) zBX12_tries zq1705 (by decide) zs_703 zC12.1 rfl ⟨⟨rfl, rfl⟩, Nat.le_of_ble_eq_true rfl, Nat.le_of_ble_eq_true rfl⟩ hl.1 rfl (Nat.le_of_ble_eq_true rfl) dX12_served_61 ⟨Nat.le_of_ble_eq_true rfl, Nat.le_of_ble_eq_true rfl⟩) (fun _ _ Z => ?_)
        refine lv_aload_n hx hb dX12_served_64 rfl (lv_at hl 0 rfl) ?_
        obtain ⟨σ65, hc65, h⟩ := bd_x h
        refine zc_v Z (zr_V F Z (a := 703) (As := []) (zcX12_putBack l D A0 σ61 σ65 hc65) zBX12_putBack zq1709 (by decide) zs_703 zC12.1 rfl ⟨⟨rfl, rfl⟩, Nat.le_of_ble_eq_true rfl, Nat.le_of_ble_eq_true rfl⟩ hl.1 rfl (Nat.le_of_ble_eq_true rfl) dX12_served_65 ⟨Nat.le_of_ble_eq_true rfl, Nat.le_of_ble_eq_true rfl⟩) (fun _ _ Z => ?_)
        refine lv_iload_n hx hb dX12_served_68 rfl (lv_at hl 3 rfl) ?_
        refine zb_ifne (tgt := 81) hx hb dX12_served_69 (by decide) h (fun h => ?_) (fun h => ?_)
        · refine lv_aload_n hx hb dX12_served_81 rfl (lv_at hl 0 rfl) ?_
          refine zw_getR F Z zC12 (a := 703) (k := 48) (by decide) zs_703 (by decide) rfl zg_703_48 zq1298 (Or.inl rfl) dX12_served_82 ?_
          refine lv_iload_n hx hb dX12_served_85 rfl (lv_at hl 1 rfl) ?_
          obtain ⟨hk86, h⟩ := ck_x h
          refine zw_iald F Z (by decide) zs_724 hk86 dX12_served_86 ?_
          obtain ⟨hq1, hq2⟩ := zpq h
          exact ze_i F Z hr hlocks hq1 hq2 dX12_served_87
        · refine lv_aload_n hx hb dX12_served_72 rfl (lv_at hl 0 rfl) ?_
          refine zw_getR F Z zC12 (a := 703) (k := 47) (by decide) zs_703 (by decide) rfl zg_703_47 zq1297 (Or.inl rfl) dX12_served_73 ?_
          refine lv_iload_n hx hb dX12_served_76 rfl (lv_at hl 1 rfl) ?_
          obtain ⟨hk77, h⟩ := ck_x h
          refine zw_iald F Z (by decide) zs_723 hk77 dX12_served_77 ?_
          refine lv_goto (tgt := 87) hx hb dX12_served_78 (by decide) ?_
          obtain ⟨hq1, hq2⟩ := zpq h
          exact ze_i F Z hr hlocks hq1 hq2 dX12_served_87
      · exact hj39 σ2 _ _ _ Z (lv_sub hl [] rfl) h
set_option maxHeartbeats 4000000 in
set_option maxRecDepth 100000 in
theorem zcX12_goOdds (l : Launch) (D : va_G) (A0 : Nat) : ∀ (dd : Nat) (x1 : Int32) (x2 : Int32) (x3 : Int32) (σ : Mm) (σr : Mm) (h : zfX12_goOdds dd x1 x2 x3 σ = some σr), Met l yX12_goOdds (zws yX12_goOdds cX12_goOdds 7 none) (zR (10 * dd + 700) (400 * dd + 24000)) (zPc D A0 σ GF 740 [.ref (A0 + 703), .int x1, .int x2, .int x3]) (zQv D A0 σr GF 740) 0 0 (zA A0) := by
  intro dd
  induction dd with
  | zero => intro x1 x2 x3 σ σr h; rw [zfX12_goOdds] at h; cases h
  | succ dd hrec =>
  intro x1 x2 x3 σ σr h
  rw [zfX12_goOdds] at h
  refine zmet (own := RX12) (by decide) rfl (Nat.le_of_ble_eq_true rfl) ?_
  intro p e s m below meth c F hr hlocks _ Z ls hl
  have hl : lv_has ls 7 [(0, .ref (A0 + 703)), (1, .int x1), (2, .int x2), (3, .int x3)] := hl
  have hx := F.1.1
  have hb := F.1.2.1
  have hown := F.1.2.2.2.1
  have hts := F.1.2.2.2.2
  refine lv_iload_n hx hb dX12_goOdds_0 rfl (lv_at hl 2 rfl) ?_
  refine zb_ifne (tgt := 5) hx hb dX12_goOdds_1 (by decide) h (fun h => ?_) (fun h => ?_)
  · refine lv_iload_n hx hb dX12_goOdds_5 rfl (lv_at hl 1 rfl) ?_
    refine zb_ifne (tgt := 35) hx hb dX12_goOdds_6 (by decide) h (fun h => ?_) (fun h => ?_)
    · refine lv_iconst (v := 0) hx hb dX12_goOdds_35 (by decide) ?_
      refine lv_istore (lv' := [(4, .int 0), (0, .ref (A0 + 703)), (1, .int x1), (2, .int x2), (3, .int x3)]) hx hb dX12_goOdds_36 hl (by decide) rfl (fun ls hl => ?_)
      obtain ⟨k70, ek70, h⟩ := lt_x h
      have hk70 : ∀ (σ70 : Mm) (H : Heap) (locs : List Loc) (ls : Array Slot), zh D A0 σ70 GF 740 s.heap H locs → lv_has ls 7 [(0, .ref (A0 + 703)), (1, .int x1), (2, .int x2), (3, .int x3)] → k70 σ70 = some σr → W p l e (zR (10 * (dd + 1) + 700) (400 * (dd + 1) + 24000)) s m [.ref (A0 + 703), .int x1, .int x2, .int x3].toArray below meth c H locs 0 0 (MQ below (zQv D A0 σr GF 740) [.ref (A0 + 703), .int x1, .int x2, .int x3].toArray s 0 0 (zA A0)) (F0 m 70 ls []) := by
        intro  σ70 H locs ls Z hl h
        rw [ek70] at h
        try dsimp only at h
        refine lv_iload_n hx hb dX12_goOdds_70 rfl (lv_at hl 2 rfl) ?_
        refine lv_i2l hx hb dX12_goOdds_71 rfl ?_
        refine lv_aload_n hx hb dX12_goOdds_72 rfl (lv_at hl 0 rfl) ?_
        refine zw_getI F Z zC12 (a := 703) (k := 33) (by decide) zs_703 (by decide) rfl zq1283 (Or.inl rfl) dX12_goOdds_73 ?_
        refine lv_i2l hx hb dX12_goOdds_76 rfl ?_
        refine lv_lmul hx hb dX12_goOdds_77 ?_
        refine lv_ldc2 (v := 100) hx hb hown (hts _ zq1640) dX12_goOdds_78 ?_
        refine lv_ldiv hx hb dX12_goOdds_81 (by decide) ?_
        refine lv_l2i hx hb dX12_goOdds_82 rfl ?_
        refine lv_topi (fun x4_83 ex4_83 => ?_)
        replace h := lt_w h ex4_83
        refine lv_istore (lv' := [(4, .int x4_83), (0, .ref (A0 + 703)), (1, .int x1), (2, .int x2), (3, .int x3)]) hx hb dX12_goOdds_83 hl (by decide) rfl (fun ls hl => ?_)
        refine lv_iconst (v := 0) hx hb dX12_goOdds_85 (by decide) ?_
        refine lv_istore (lv' := [(5, .int 0), (4, .int x4_83), (0, .ref (A0 + 703)), (1, .int x1), (2, .int x2), (3, .int x3)]) hx hb dX12_goOdds_86 hl (by decide) rfl (fun ls hl => ?_)
        obtain ⟨k171, ek171, h⟩ := lt_x h
        have hk171 : ∀ (σ171 : Mm) (H : Heap) (locs : List Loc) (ls : Array Slot), zh D A0 σ171 GF 740 s.heap H locs → lv_has ls 7 [] → k171 σ171 = some σr → W p l e (zR (10 * (dd + 1) + 700) (400 * (dd + 1) + 24000)) s m [.ref (A0 + 703), .int x1, .int x2, .int x3].toArray below meth c H locs 0 0 (MQ below (zQv D A0 σr GF 740) [.ref (A0 + 703), .int x1, .int x2, .int x3].toArray s 0 0 (zA A0)) (F0 m 171 ls []) := by
          intro  σ171 H locs ls Z hl h
          rw [ek171] at h
          try dsimp only at h
          have hq := Option.some.inj h
          exact ze_v F Z hr hlocks hq dX12_goOdds_171
        have hL88 : ∀ (fu88 : Nat) (x5_88 : Int32) (σ88 : Mm) (H : Heap) (locs : List Loc) (ls : Array Slot), zh D A0 σ88 GF 740 s.heap H locs → lv_has ls 7 [(0, .ref (A0 + 703)), (1, .int x1), (2, .int x2), (3, .int x3), (4, .int x4_83), (5, .int x5_88)] → zfX12_goOdds_L88 k171 (zfX12_goOdds dd) x1 x3 x4_83 x2 fu88 x5_88 σ88 = some σr → W p l e (zR (10 * (dd + 1) + 700) (400 * (dd + 1) + 24000)) s m [.ref (A0 + 703), .int x1, .int x2, .int x3].toArray below meth c H locs 0 0 (MQ below (zQv D A0 σr GF 740) [.ref (A0 + 703), .int x1, .int x2, .int x3].toArray s 0 0 (zA A0)) (F0 m 88 ls []) := by
          intro fu88
          induction fu88 with
          | zero => intro x5_88 σ88 H locs ls Z hl h; rw [zfX12_goOdds_L88] at h; cases h
          | succ fu88 ih88 =>
            intro x5_88 σ88 H locs ls Z hl h
            rw [zfX12_goOdds_L88] at h
            refine lv_iload hx hb dX12_goOdds_88 (lv_at hl 5 rfl) ?_
            refine lv_iconst (v := 2) hx hb dX12_goOdds_90 (by decide) ?_
            refine zb_icge (tgt := 171) hx hb dX12_goOdds_91 (by decide) h (fun h => ?_) (fun h => ?_)
            · exact hk171 σ88 _ _ _ Z (lv_sub hl [] rfl) h
            · refine lv_aload_n hx hb dX12_goOdds_94 rfl (lv_at hl 0 rfl) ?_
              refine lv_iload hx hb dX12_goOdds_95 (lv_at hl 5 rfl) ?_
              obtain ⟨j105, ej105, h⟩ := lt_x h
              have hj105 : ∀ (y0_105 : Int32) (σ105 : Mm) (H : Heap) (locs : List Loc) (ls : Array Slot), zh D A0 σ105 GF 740 s.heap H locs → lv_has ls 7 [(0, .ref (A0 + 703)), (1, .int x1), (2, .int x2), (3, .int x3), (4, .int x4_83), (5, .int x5_88)] → j105 y0_105 σ105 = some σr → W p l e (zR (10 * (dd + 1) + 700) (400 * (dd + 1) + 24000)) s m [.ref (A0 + 703), .int x1, .int x2, .int x3].toArray below meth c H locs 0 0 (MQ below (zQv D A0 σr GF 740) [.ref (A0 + 703), .int x1, .int x2, .int x3].toArray s 0 0 (zA A0)) (F0 m 105 ls [.int y0_105, .ref (A0 + 703)]) := by
                intro y0_105 σ105 H locs ls Z hl h
                rw [ej105] at h
                try dsimp only at h
                obtain ⟨σ105_1, hc105, h⟩ := bd_x h
                refine zc_v Z (zr_V F Z (a := 703) (As := [.int y0_105]) (zcX12_goes l D A0 y0_105 σ105 σ105_1 hc105) zBX12_goes zq1663 (by decide) zs_703 zC12.1 rfl ⟨⟨rfl, rfl⟩, by dsimp only [zR, RD]; omega, by dsimp only [zR, RD]; omega⟩ hl.1 rfl (Nat.le_of_ble_eq_true rfl) dX12_goOdds_105 ⟨Nat.le_of_ble_eq_true rfl, Nat.le_of_ble_eq_true rfl⟩) (fun _ _ Z => ?_)
                refine lv_aload_n hx hb dX12_goOdds_108 rfl (lv_at hl 0 rfl) ?_
                refine lv_iload_n hx hb dX12_goOdds_109 rfl (lv_at hl 1 rfl) ?_
                refine lv_iconst (v := 1) hx hb dX12_goOdds_110 (by decide) ?_
                refine lv_isub hx hb dX12_goOdds_111 ?_
                refine lv_iload hx hb dX12_goOdds_112 (lv_at hl 5 rfl) ?_
                obtain ⟨j126, ej126, h⟩ := lt_x h
                have hj126 : ∀ (y0_126 : Int32) (σ126 : Mm) (H : Heap) (locs : List Loc) (ls : Array Slot), zh D A0 σ126 GF 740 s.heap H locs → lv_has ls 7 [(0, .ref (A0 + 703)), (1, .int x1), (2, .int x2), (3, .int x3), (4, .int x4_83), (5, .int x5_88)] → j126 y0_126 σ126 = some σr → W p l e (zR (10 * (dd + 1) + 700) (400 * (dd + 1) + 24000)) s m [.ref (A0 + 703), .int x1, .int x2, .int x3].toArray below meth c H locs 0 0 (MQ below (zQv D A0 σr GF 740) [.ref (A0 + 703), .int x1, .int x2, .int x3].toArray s 0 0 (zA A0)) (F0 m 126 ls [.int y0_126, .int (x1 - 1), .ref (A0 + 703)]) := by
                  intro y0_126 σ126 H locs ls Z hl h
                  rw [ej126] at h
                  try dsimp only at h
                  refine lv_iload_n hx hb dX12_goOdds_126 rfl (lv_at hl 3 rfl) ?_
                  obtain ⟨σ127, hc127, h⟩ := bd_x h
                  refine zc_v Z (zr_V F Z (a := 703) (As := [.int (x1 - 1), .int y0_126, .int x3]) (hrec (x1 - 1) y0_126 x3 σ126 σ127 hc127) zBX12_goOdds zq1829 (by decide) zs_703 zC12.1 rfl ⟨⟨rfl, rfl⟩, by dsimp only [zR, RD]; omega, by dsimp only [zR, RD]; omega⟩ hl.1 rfl (Nat.le_of_ble_eq_true rfl) dX12_goOdds_127 ⟨Nat.le_of_ble_eq_true rfl, Nat.le_of_ble_eq_true rfl⟩) (fun _ _ Z => ?_)
                  refine lv_iconst (v := 0) hx hb dX12_goOdds_130 (by decide) ?_
                  refine lv_istore (lv' := [(6, .int 0), (0, .ref (A0 + 703)), (1, .int x1), (2, .int x2), (3, .int x3), (4, .int x4_83), (5, .int x5_88)]) hx hb dX12_goOdds_131 hl (by decide) rfl (fun ls hl => ?_)
                  obtain ⟨k165, ek165, h⟩ := lt_x h
                  have hk165 : ∀ (σ165 : Mm) (H : Heap) (locs : List Loc) (ls : Array Slot), zh D A0 σ165 GF 740 s.heap H locs → lv_has ls 7 [(0, .ref (A0 + 703)), (1, .int x1), (2, .int x2), (3, .int x3), (4, .int x4_83), (5, .int x5_88)] → k165 σ165 = some σr → W p l e (zR (10 * (dd + 1) + 700) (400 * (dd + 1) + 24000)) s m [.ref (A0 + 703), .int x1, .int x2, .int x3].toArray below meth c H locs 0 0 (MQ below (zQv D A0 σr GF 740) [.ref (A0 + 703), .int x1, .int x2, .int x3].toArray s 0 0 (zA A0)) (F0 m 165 ls []) := by
                    intro  σ165 H locs ls Z hl h
                    rw [ek165] at h
                    try dsimp only at h
                    obtain ⟨x5_165, ex5_165⟩ : ∃ y : Int32, y = x5_88 + 1 := ⟨_, rfl⟩
                    replace h := lt_w h ex5_165
                    refine lv_iinc (v := x5_165) (lv' := [(5, .int x5_165), (0, .ref (A0 + 703)), (1, .int x1), (2, .int x2), (3, .int x3), (4, .int x4_83)]) hx hb dX12_goOdds_165 hl (k := 5) rfl (by rw [ex5_165]; rfl) (by decide) rfl (fun ls hl => ?_)
                    refine lv_goto (tgt := 88) hx hb dX12_goOdds_168 (by decide) ?_
                    exact ih88 x5_165 σ165 _ _ _ Z (lv_sub hl [1, 2, 3, 4, 5, 0] rfl) h
                  have hL133 : ∀ (fu133 : Nat) (x6_133 : Int32) (σ133 : Mm) (H : Heap) (locs : List Loc) (ls : Array Slot), zh D A0 σ133 GF 740 s.heap H locs → lv_has ls 7 [(0, .ref (A0 + 703)), (1, .int x1), (2, .int x2), (3, .int x3), (4, .int x4_83), (5, .int x5_88), (6, .int x6_133)] → zfX12_goOdds_L133 k165 x1 fu133 x6_133 σ133 = some σr → W p l e (zR (10 * (dd + 1) + 700) (400 * (dd + 1) + 24000)) s m [.ref (A0 + 703), .int x1, .int x2, .int x3].toArray below meth c H locs 0 0 (MQ below (zQv D A0 σr GF 740) [.ref (A0 + 703), .int x1, .int x2, .int x3].toArray s 0 0 (zA A0)) (F0 m 133 ls []) := by
                    intro fu133
                    induction fu133 with
                    | zero => intro x6_133 σ133 H locs ls Z hl h; rw [zfX12_goOdds_L133] at h; cases h
                    | succ fu133 ih133 =>
                      intro x6_133 σ133 H locs ls Z hl h
                      rw [zfX12_goOdds_L133] at h
                      refine lv_iload hx hb dX12_goOdds_133 (lv_at hl 6 rfl) ?_
                      refine lv_bipush (v := 57) hx hb dX12_goOdds_135 (by decide) ?_
                      refine zb_icge (tgt := 165) hx hb dX12_goOdds_137 (by decide) h (fun h => ?_) (fun h => ?_)
                      · exact hk165 σ133 _ _ _ Z (lv_sub hl [0, 1, 2, 3, 4, 5] rfl) h
                      · refine lv_aload_n hx hb dX12_goOdds_140 rfl (lv_at hl 0 rfl) ?_
                        refine zw_getR F Z zC12 (a := 703) (k := 29) (by decide) zs_703 (by decide) rfl zg_703_29 zq1279 (Or.inl rfl) dX12_goOdds_141 ?_
                        refine lv_iload hx hb dX12_goOdds_144 (lv_at hl 6 rfl) ?_
                        refine lv_aload_n hx hb dX12_goOdds_146 rfl (lv_at hl 0 rfl) ?_
                        refine zw_getR F Z zC12 (a := 703) (k := 68) (by decide) zs_703 (by decide) rfl zg_703_68 zq1318 (Or.inl rfl) dX12_goOdds_147 ?_
                        refine lv_bipush (v := 57) hx hb dX12_goOdds_150 (by decide) ?_
                        refine lv_iload_n hx hb dX12_goOdds_152 rfl (lv_at hl 1 rfl) ?_
                        refine lv_imul hx hb dX12_goOdds_153 ?_
                        refine lv_iload hx hb dX12_goOdds_154 (lv_at hl 6 rfl) ?_
                        refine lv_iadd hx hb dX12_goOdds_156 ?_
                        obtain ⟨hk157, h⟩ := ck_x h
                        refine zw_iald F Z (by decide) zs_736 hk157 dX12_goOdds_157 ?_
                        obtain ⟨hk158, h⟩ := ck_x h
                        refine zw_iast F Z (by decide) zs_714 hk158 dX12_goOdds_158 (fun σ158 _ _ eσ158 Z => ?_)
                        replace h := lt_w h eσ158
                        obtain ⟨x6_159, ex6_159⟩ : ∃ y : Int32, y = x6_133 + 1 := ⟨_, rfl⟩
                        replace h := lt_w h ex6_159
                        refine lv_iinc (v := x6_159) (lv' := [(6, .int x6_159), (0, .ref (A0 + 703)), (1, .int x1), (2, .int x2), (3, .int x3), (4, .int x4_83), (5, .int x5_88)]) hx hb dX12_goOdds_159 hl (k := 6) rfl (by rw [ex6_159]; rfl) (by decide) rfl (fun ls hl => ?_)
                        refine lv_goto (tgt := 133) hx hb dX12_goOdds_162 (by decide) ?_
                        exact ih133 x6_159 σ158 _ _ _ Z (lv_sub hl [1, 2, 3, 4, 5, 6, 0] rfl) h
                  exact hL133 NF 0 σ127 _ _ _ Z (lv_sub hl [1, 2, 3, 4, 5, 6, 0] rfl) h
                refine zb_ifne (tgt := 122) hx hb dX12_goOdds_114 (by decide) h (fun h => ?_) (fun h => ?_)
                · refine lv_iload_n hx hb dX12_goOdds_122 rfl (lv_at hl 2 rfl) ?_
                  refine lv_iload hx hb dX12_goOdds_123 (lv_at hl 4 rfl) ?_
                  refine lv_isub hx hb dX12_goOdds_125 ?_
                  exact hj126 (x2 - x4_83) σ105_1 _ _ _ Z (lv_sub hl [0, 1, 2, 3, 4, 5] rfl) h
                · refine lv_iload hx hb dX12_goOdds_117 (lv_at hl 4 rfl) ?_
                  refine lv_goto (tgt := 126) hx hb dX12_goOdds_119 (by decide) ?_
                  exact hj126 x4_83 σ105_1 _ _ _ Z (lv_sub hl [0, 1, 2, 3, 4, 5] rfl) h
              refine zb_ifne (tgt := 104) hx hb dX12_goOdds_97 (by decide) h (fun h => ?_) (fun h => ?_)
              · refine lv_iconst (v := 0) hx hb dX12_goOdds_104 (by decide) ?_
                exact hj105 0 σ88 _ _ _ Z (lv_sub hl [0, 1, 2, 3, 4, 5] rfl) h
              · refine lv_iconst (v := 1) hx hb dX12_goOdds_100 (by decide) ?_
                refine lv_goto (tgt := 105) hx hb dX12_goOdds_101 (by decide) ?_
                exact hj105 1 σ88 _ _ _ Z (lv_sub hl [0, 1, 2, 3, 4, 5] rfl) h
        exact hL88 NF 0 σ70 _ _ _ Z (lv_sub hl [2, 3, 4, 5, 1, 0] rfl) h
      have hL38 : ∀ (fu38 : Nat) (x4_38 : Int32) (σ38 : Mm) (H : Heap) (locs : List Loc) (ls : Array Slot), zh D A0 σ38 GF 740 s.heap H locs → lv_has ls 7 [(0, .ref (A0 + 703)), (1, .int x1), (2, .int x2), (3, .int x3), (4, .int x4_38)] → zfX12_goOdds_L38 k70 x1 fu38 x4_38 σ38 = some σr → W p l e (zR (10 * (dd + 1) + 700) (400 * (dd + 1) + 24000)) s m [.ref (A0 + 703), .int x1, .int x2, .int x3].toArray below meth c H locs 0 0 (MQ below (zQv D A0 σr GF 740) [.ref (A0 + 703), .int x1, .int x2, .int x3].toArray s 0 0 (zA A0)) (F0 m 38 ls []) := by
        intro fu38
        induction fu38 with
        | zero => intro x4_38 σ38 H locs ls Z hl h; rw [zfX12_goOdds_L38] at h; cases h
        | succ fu38 ih38 =>
          intro x4_38 σ38 H locs ls Z hl h
          rw [zfX12_goOdds_L38] at h
          refine lv_iload hx hb dX12_goOdds_38 (lv_at hl 4 rfl) ?_
          refine lv_bipush (v := 57) hx hb dX12_goOdds_40 (by decide) ?_
          refine zb_icge (tgt := 70) hx hb dX12_goOdds_42 (by decide) h (fun h => ?_) (fun h => ?_)
          · exact hk70 σ38 _ _ _ Z (lv_sub hl [0, 1, 2, 3] rfl) h
          · refine lv_aload_n hx hb dX12_goOdds_45 rfl (lv_at hl 0 rfl) ?_
            refine zw_getR F Z zC12 (a := 703) (k := 68) (by decide) zs_703 (by decide) rfl zg_703_68 zq1318 (Or.inl rfl) dX12_goOdds_46 ?_
            refine lv_bipush (v := 57) hx hb dX12_goOdds_49 (by decide) ?_
            refine lv_iload_n hx hb dX12_goOdds_51 rfl (lv_at hl 1 rfl) ?_
            refine lv_imul hx hb dX12_goOdds_52 ?_
            refine lv_iload hx hb dX12_goOdds_53 (lv_at hl 4 rfl) ?_
            refine lv_iadd hx hb dX12_goOdds_55 ?_
            refine lv_aload_n hx hb dX12_goOdds_56 rfl (lv_at hl 0 rfl) ?_
            refine zw_getR F Z zC12 (a := 703) (k := 29) (by decide) zs_703 (by decide) rfl zg_703_29 zq1279 (Or.inl rfl) dX12_goOdds_57 ?_
            refine lv_iload hx hb dX12_goOdds_60 (lv_at hl 4 rfl) ?_
            obtain ⟨hk62, h⟩ := ck_x h
            refine zw_iald F Z (by decide) zs_714 hk62 dX12_goOdds_62 ?_
            obtain ⟨hk63, h⟩ := ck_x h
            refine zw_iast F Z (by decide) zs_736 hk63 dX12_goOdds_63 (fun σ63 _ _ eσ63 Z => ?_)
            replace h := lt_w h eσ63
            obtain ⟨x4_64, ex4_64⟩ : ∃ y : Int32, y = x4_38 + 1 := ⟨_, rfl⟩
            replace h := lt_w h ex4_64
            refine lv_iinc (v := x4_64) (lv' := [(4, .int x4_64), (0, .ref (A0 + 703)), (1, .int x1), (2, .int x2), (3, .int x3)]) hx hb dX12_goOdds_64 hl (k := 4) rfl (by rw [ex4_64]; rfl) (by decide) rfl (fun ls hl => ?_)
            refine lv_goto (tgt := 38) hx hb dX12_goOdds_67 (by decide) ?_
            exact ih38 x4_64 σ63 _ _ _ Z (lv_sub hl [1, 2, 3, 4, 0] rfl) h
      exact hL38 NF 0 σ _ _ _ Z (lv_sub hl [1, 2, 3, 4, 0] rfl) h
    · refine lv_aload_n hx hb dX12_goOdds_9 rfl (lv_at hl 0 rfl) ?_
      refine lv_dup hx hb dX12_goOdds_10 rfl ?_
      refine zw_getI F Z zC12 (a := 703) (k := 67) (by decide) zs_703 (by decide) rfl zq1317 (Or.inl rfl) dX12_goOdds_11 ?_
      refine lv_aload_n hx hb dX12_goOdds_14 rfl (lv_at hl 0 rfl) ?_
      refine zw_getR F Z zC12 (a := 703) (k := 29) (by decide) zs_703 (by decide) rfl zg_703_29 zq1279 (Or.inl rfl) dX12_goOdds_15 ?_
      refine lv_bipush (v := 54) hx hb dX12_goOdds_18 (by decide) ?_
      refine zw_iald F Z (by decide) zs_714 (by decide) dX12_goOdds_20 ?_
      refine lv_iload_n hx hb dX12_goOdds_21 rfl (lv_at hl 3 rfl) ?_
      obtain ⟨j30, ej30, h⟩ := lt_x h
      have hj30 : ∀ (y0_30 : Int32) (σ30 : Mm) (H : Heap) (locs : List Loc) (ls : Array Slot), zh D A0 σ30 GF 740 s.heap H locs → lv_has ls 7 [] → j30 y0_30 σ30 = some σr → W p l e (zR (10 * (dd + 1) + 700) (400 * (dd + 1) + 24000)) s m [.ref (A0 + 703), .int x1, .int x2, .int x3].toArray below meth c H locs 0 0 (MQ below (zQv D A0 σr GF 740) [.ref (A0 + 703), .int x1, .int x2, .int x3].toArray s 0 0 (zA A0)) (F0 m 30 ls [.int y0_30, .int (σ 703 67), .ref (A0 + 703)]) := by
        intro y0_30 σ30 H locs ls Z hl h
        rw [ej30] at h
        try dsimp only at h
        refine lv_iadd hx hb dX12_goOdds_30 ?_
        refine zw_putI F Z zC12 (a := 703) (k := 67) (by decide) zs_703 (by decide) rfl (by decide) zq1317 (Or.inl rfl) rfl ⟨rfl, rfl⟩ dX12_goOdds_31 (fun σ31 _ _ eσ31 Z => ?_)
        replace h := lt_w h eσ31
        have hq := Option.some.inj h
        exact ze_v F Z hr hlocks hq dX12_goOdds_34
      refine zb_iclt (tgt := 29) hx hb dX12_goOdds_22 (by decide) h (fun h => ?_) (fun h => ?_)
      · refine lv_iconst (v := 0) hx hb dX12_goOdds_29 (by decide) ?_
        exact hj30 0 σ _ _ _ Z (lv_sub hl [] rfl) h
      · refine lv_iload_n hx hb dX12_goOdds_25 rfl (lv_at hl 2 rfl) ?_
        refine lv_goto (tgt := 30) hx hb dX12_goOdds_26 (by decide) ?_
        exact hj30 x2 σ _ _ _ Z (lv_sub hl [] rfl) h
  · have hq := Option.some.inj h
    exact ze_v F Z hr hlocks hq dX12_goOdds_4
set_option maxHeartbeats 4000000 in
set_option maxRecDepth 100000 in
theorem zcX12_odds (l : Launch) (D : va_G) (A0 : Nat) (x1 : Int32) (x2 : Int32) (σ : Mm) (r0 : Int32) (σr : Mm) (h : zfX12_odds x1 x2 σ = some (r0, σr)) : Met l yX12_odds (zws yX12_odds cX12_odds 3 (some .int)) (zR 841 29626) (zPc D A0 σ GF 740 [.ref (A0 + 703), .int x1, .int x2]) (zQi D A0 r0 σr GF 740) 0 0 (zA A0) := by
  unfold zfX12_odds at h
  refine zmet (own := RX12) (by decide) rfl (Nat.le_of_ble_eq_true rfl) ?_
  intro p e s m below meth c F hr hlocks _ Z ls hl
  have hl : lv_has ls 3 [(0, .ref (A0 + 703)), (1, .int x1), (2, .int x2)] := hl
  have hx := F.1.1
  have hb := F.1.2.1
  have hown := F.1.2.2.2.1
  have hts := F.1.2.2.2.2
  refine lv_aload_n hx hb dX12_odds_0 rfl (lv_at hl 0 rfl) ?_
  refine lv_iconst (v := 0) hx hb dX12_odds_1 (by decide) ?_
  refine zw_putI F Z zC12 (a := 703) (k := 0) (by decide) zs_703 (by decide) rfl (by decide) zq1250 (Or.inl rfl) rfl ⟨rfl, rfl⟩ dX12_odds_2 (fun σ2 _ _ eσ2 Z => ?_)
  replace h := lt_w h eσ2
  refine lv_aload_n hx hb dX12_odds_5 rfl (lv_at hl 0 rfl) ?_
  refine zw_getI F Z zC12 (a := 703) (k := 24) (by decide) zs_703 (by decide) rfl zq1274 (Or.inl rfl) dX12_odds_6 ?_
  obtain ⟨j36, ej36, h⟩ := lt_x h
  have hj36 : ∀ (σ36 : Mm) (H : Heap) (locs : List Loc) (ls : Array Slot), zh D A0 σ36 GF 740 s.heap H locs → lv_has ls 3 [] → j36 σ36 = some (r0, σr) → W p l e (zR 841 29626) s m [.ref (A0 + 703), .int x1, .int x2].toArray below meth c H locs 0 0 (MQ below (zQi D A0 r0 σr GF 740) [.ref (A0 + 703), .int x1, .int x2].toArray s 0 0 (zA A0)) (F0 m 36 ls []) := by
    intro  σ36 H locs ls Z hl h
    rw [ej36] at h
    try dsimp only at h
    refine lv_iconst (v := (-1)) hx hb dX12_odds_36 (by decide) ?_
    obtain ⟨hq1, hq2⟩ := zpq h
    exact ze_i F Z hr hlocks hq1 hq2 dX12_odds_37
  refine zb_ifeq (tgt := 36) hx hb dX12_odds_9 (by decide) h (fun h => ?_) (fun h => ?_)
  · exact hj36 σ2 _ _ _ Z (lv_sub hl [] rfl) h
  · refine lv_iload_n hx hb dX12_odds_12 rfl (lv_at hl 1 rfl) ?_
    refine lv_i2l hx hb dX12_odds_13 rfl ?_
    refine lv_lconst (v := 1) hx hb dX12_odds_14 (by decide) ?_
    refine lv_ldc2 (v := 10) hx hb hown (hts _ zq1827) dX12_odds_15 ?_
    refine zc_i Z (zr_S F Z (As := [.long (Int32.toInt64 x1), .long 1, .long 10]) (zcX12_isIn l D A0 (Int32.toInt64 x1) 1 10 σ2 (zfX12_isIn (Int32.toInt64 x1) 1 10) rfl) zBX12_isIn zq1496 rfl ⟨⟨rfl, rfl⟩, Nat.le_of_ble_eq_true rfl, Nat.le_of_ble_eq_true rfl⟩ hl.1 rfl (Nat.le_of_ble_eq_true rfl) dX12_odds_18 ⟨Nat.le_of_ble_eq_true rfl, Nat.le_of_ble_eq_true rfl⟩) (fun _ _ Z => ?_)
    refine zb_ifeq (tgt := 36) hx hb dX12_odds_21 (by decide) h (fun h => ?_) (fun h => ?_)
    · exact hj36 σ2 _ _ _ Z (lv_sub hl [] rfl) h
    · refine lv_iload_n hx hb dX12_odds_24 rfl (lv_at hl 2 rfl) ?_
      refine lv_i2l hx hb dX12_odds_25 rfl ?_
      refine lv_lconst (v := 0) hx hb dX12_odds_26 (by decide) ?_
      refine lv_ldc2 (v := 20) hx hb hown (hts _ zq1770) dX12_odds_27 ?_
      refine zc_i Z (zr_S F Z (As := [.long (Int32.toInt64 x2), .long 0, .long 20]) (zcX12_isIn l D A0 (Int32.toInt64 x2) 0 20 σ2 (zfX12_isIn (Int32.toInt64 x2) 0 20) rfl) zBX12_isIn zq1496 rfl ⟨⟨rfl, rfl⟩, Nat.le_of_ble_eq_true rfl, Nat.le_of_ble_eq_true rfl⟩ hl.1 rfl (Nat.le_of_ble_eq_true rfl) dX12_odds_30 ⟨Nat.le_of_ble_eq_true rfl, Nat.le_of_ble_eq_true rfl⟩) (fun _ _ Z => ?_)
      refine zb_ifne (tgt := 38) hx hb dX12_odds_33 (by decide) h (fun h => ?_) (fun h => ?_)
      · refine lv_aload_n hx hb dX12_odds_38 rfl (lv_at hl 0 rfl) ?_
        obtain ⟨σ39, hc39, h⟩ := bd_x h
        refine zc_v Z (zr_V F Z (a := 703) (As := []) (zcX12_keep l D A0 σ2 σ39 hc39) zBX12_keep zq1701 (by decide) zs_703 zC12.1 rfl ⟨⟨rfl, rfl⟩, Nat.le_of_ble_eq_true rfl, Nat.le_of_ble_eq_true rfl⟩ hl.1 rfl (Nat.le_of_ble_eq_true rfl) dX12_odds_39 ⟨Nat.le_of_ble_eq_true rfl, Nat.le_of_ble_eq_true rfl⟩) (fun _ _ Z => ?_)
        refine lv_aload_n hx hb dX12_odds_42 rfl (lv_at hl 0 rfl) ?_
        refine lv_iconst (v := 0) hx hb dX12_odds_43 (by decide) ?_
        refine zw_putI F Z zC12 (a := 703) (k := 67) (by decide) zs_703 (by decide) rfl (by decide) zq1317 (Or.inl rfl) rfl ⟨rfl, rfl⟩ dX12_odds_44 (fun σ44 _ _ eσ44 Z => ?_)
        replace h := lt_w h eσ44
        refine lv_aload_n hx hb dX12_odds_47 rfl (lv_at hl 0 rfl) ?_
        refine lv_iload_n hx hb dX12_odds_48 rfl (lv_at hl 1 rfl) ?_
        refine lv_ldcw (v := 1000000000) hx hb hown (hts _ zq1828) dX12_odds_49 ?_
        refine lv_iload_n hx hb dX12_odds_52 rfl (lv_at hl 2 rfl) ?_
        obtain ⟨σ53, hc53, h⟩ := bd_x h
        refine zc_v Z (zr_V F Z (a := 703) (As := [.int x1, .int 1000000000, .int x2]) (zcX12_goOdds l D A0 RD x1 1000000000 x2 σ44 σ53 hc53) zBX12_goOdds zq1829 (by decide) zs_703 zC12.1 rfl ⟨⟨rfl, rfl⟩, Nat.le_of_ble_eq_true rfl, Nat.le_of_ble_eq_true rfl⟩ hl.1 rfl (Nat.le_of_ble_eq_true rfl) dX12_odds_53 ⟨Nat.le_of_ble_eq_true rfl, Nat.le_of_ble_eq_true rfl⟩) (fun _ _ Z => ?_)
        refine lv_aload_n hx hb dX12_odds_56 rfl (lv_at hl 0 rfl) ?_
        obtain ⟨σ57, hc57, h⟩ := bd_x h
        refine zc_v Z (zr_V F Z (a := 703) (As := []) (zcX12_putBack l D A0 σ53 σ57 hc57) zBX12_putBack zq1709 (by decide) zs_703 zC12.1 rfl ⟨⟨rfl, rfl⟩, Nat.le_of_ble_eq_true rfl, Nat.le_of_ble_eq_true rfl⟩ hl.1 rfl (Nat.le_of_ble_eq_true rfl) dX12_odds_57 ⟨Nat.le_of_ble_eq_true rfl, Nat.le_of_ble_eq_true rfl⟩) (fun _ _ Z => ?_)
        refine lv_aload_n hx hb dX12_odds_60 rfl (lv_at hl 0 rfl) ?_
        refine zw_getI F Z zC12 (a := 703) (k := 67) (by decide) zs_703 (by decide) rfl zq1317 (Or.inl rfl) dX12_odds_61 ?_
        obtain ⟨hq1, hq2⟩ := zpq h
        exact ze_i F Z hr hlocks hq1 hq2 dX12_odds_64
      · exact hj36 σ2 _ _ _ Z (lv_sub hl [] rfl) h
set_option maxHeartbeats 4000000 in
set_option maxRecDepth 100000 in
theorem zcX12_lone (l : Launch) (D : va_G) (A0 : Nat) (x1 : Int32) (x2 : Int32) (σ : Mm) (r0 : Int32) (σr : Mm) (h : zfX12_lone x1 x2 σ = some (r0, σr)) : Met l yX12_lone (zws yX12_lone cX12_lone 7 (some .int)) (zR 400 14940) (zPc D A0 σ GF 740 [.ref (A0 + 703), .int x1, .int x2]) (zQi D A0 r0 σr GF 740) 0 0 (zA A0) := by
  unfold zfX12_lone at h
  refine zmet (own := RX12) (by decide) rfl (Nat.le_of_ble_eq_true rfl) ?_
  intro p e s m below meth c F hr hlocks _ Z ls hl
  have hl : lv_has ls 7 [(0, .ref (A0 + 703)), (1, .int x1), (2, .int x2)] := hl
  have hx := F.1.1
  have hb := F.1.2.1
  have hown := F.1.2.2.2.1
  have hts := F.1.2.2.2.2
  refine lv_aload_n hx hb dX12_lone_0 rfl (lv_at hl 0 rfl) ?_
  refine lv_iconst (v := 0) hx hb dX12_lone_1 (by decide) ?_
  refine zw_putI F Z zC12 (a := 703) (k := 0) (by decide) zs_703 (by decide) rfl (by decide) zq1250 (Or.inl rfl) rfl ⟨rfl, rfl⟩ dX12_lone_2 (fun σ2 _ _ eσ2 Z => ?_)
  replace h := lt_w h eσ2
  refine lv_aload_n hx hb dX12_lone_5 rfl (lv_at hl 0 rfl) ?_
  refine lv_iload_n hx hb dX12_lone_6 rfl (lv_at hl 1 rfl) ?_
  refine zc_i Z (zr_V F Z (a := 703) (As := [.int x1]) (zcX12_isSeller l D A0 x1 σ2 (zfX12_isSeller x1 σ2) rfl) zBX12_isSeller zq1614 (by decide) zs_703 zC12.1 rfl ⟨⟨rfl, rfl⟩, Nat.le_of_ble_eq_true rfl, Nat.le_of_ble_eq_true rfl⟩ hl.1 rfl (Nat.le_of_ble_eq_true rfl) dX12_lone_7 ⟨Nat.le_of_ble_eq_true rfl, Nat.le_of_ble_eq_true rfl⟩) (fun _ _ Z => ?_)
  obtain ⟨j23, ej23, h⟩ := lt_x h
  have hj23 : ∀ (σ23 : Mm) (H : Heap) (locs : List Loc) (ls : Array Slot), zh D A0 σ23 GF 740 s.heap H locs → lv_has ls 7 [] → j23 σ23 = some (r0, σr) → W p l e (zR 400 14940) s m [.ref (A0 + 703), .int x1, .int x2].toArray below meth c H locs 0 0 (MQ below (zQi D A0 r0 σr GF 740) [.ref (A0 + 703), .int x1, .int x2].toArray s 0 0 (zA A0)) (F0 m 23 ls []) := by
    intro  σ23 H locs ls Z hl h
    rw [ej23] at h
    try dsimp only at h
    refine lv_iconst (v := (-1)) hx hb dX12_lone_23 (by decide) ?_
    obtain ⟨hq1, hq2⟩ := zpq h
    exact ze_i F Z hr hlocks hq1 hq2 dX12_lone_24
  refine zb_ifeq (tgt := 23) hx hb dX12_lone_10 (by decide) h (fun h => ?_) (fun h => ?_)
  · exact hj23 σ2 _ _ _ Z (lv_sub hl [] rfl) h
  · refine lv_iload_n hx hb dX12_lone_13 rfl (lv_at hl 2 rfl) ?_
    refine lv_i2l hx hb dX12_lone_14 rfl ?_
    refine lv_lconst (v := 0) hx hb dX12_lone_15 (by decide) ?_
    refine lv_lconst (v := 1) hx hb dX12_lone_16 (by decide) ?_
    refine zc_i Z (zr_S F Z (As := [.long (Int32.toInt64 x2), .long 0, .long 1]) (zcX12_isIn l D A0 (Int32.toInt64 x2) 0 1 σ2 (zfX12_isIn (Int32.toInt64 x2) 0 1) rfl) zBX12_isIn zq1496 rfl ⟨⟨rfl, rfl⟩, Nat.le_of_ble_eq_true rfl, Nat.le_of_ble_eq_true rfl⟩ hl.1 rfl (Nat.le_of_ble_eq_true rfl) dX12_lone_17 ⟨Nat.le_of_ble_eq_true rfl, Nat.le_of_ble_eq_true rfl⟩) (fun _ _ Z => ?_)
    refine zb_ifne (tgt := 25) hx hb dX12_lone_20 (by decide) h (fun h => ?_) (fun h => ?_)
    · refine lv_aload_n hx hb dX12_lone_25 rfl (lv_at hl 0 rfl) ?_
      obtain ⟨σ26, hc26, h⟩ := bd_x h
      refine zc_v Z (zr_V F Z (a := 703) (As := []) (zcX12_keep l D A0 σ2 σ26 hc26) zBX12_keep zq1701 (by decide) zs_703 zC12.1 rfl ⟨⟨rfl, rfl⟩, Nat.le_of_ble_eq_true rfl, Nat.le_of_ble_eq_true rfl⟩ hl.1 rfl (Nat.le_of_ble_eq_true rfl) dX12_lone_26 ⟨Nat.le_of_ble_eq_true rfl, Nat.le_of_ble_eq_true rfl⟩) (fun _ _ Z => ?_)
      refine lv_aload_n hx hb dX12_lone_29 rfl (lv_at hl 0 rfl) ?_
      refine lv_iconst (v := 1) hx hb dX12_lone_30 (by decide) ?_
      refine lv_aload_n hx hb dX12_lone_31 rfl (lv_at hl 0 rfl) ?_
      refine zw_getI F Z zC12 (a := 703) (k := 24) (by decide) zs_703 (by decide) rfl zq1274 (Or.inl rfl) dX12_lone_32 ?_
      refine lv_ishl hx hb dX12_lone_35 ?_
      refine lv_iconst (v := 1) hx hb dX12_lone_36 (by decide) ?_
      refine lv_isub hx hb dX12_lone_37 ?_
      refine lv_iconst (v := 1) hx hb dX12_lone_38 (by decide) ?_
      refine lv_iload_n hx hb dX12_lone_39 rfl (lv_at hl 1 rfl) ?_
      refine lv_ishl hx hb dX12_lone_40 ?_
      refine lv_iconst (v := (-1)) hx hb dX12_lone_41 (by decide) ?_
      refine lv_ixor hx hb dX12_lone_42 ?_
      refine lv_iand hx hb dX12_lone_43 ?_
      refine zw_putI F Z zC12 (a := 703) (k := 41) (by decide) zs_703 (by decide) rfl (by decide) zq1291 (Or.inl rfl) rfl ⟨rfl, rfl⟩ dX12_lone_44 (fun σ44 _ _ eσ44 Z => ?_)
      replace h := lt_w h eσ44
      refine lv_iconst (v := (-1)) hx hb dX12_lone_47 (by decide) ?_
      refine lv_istore_n (lv' := [(3, .int (-1)), (0, .ref (A0 + 703)), (1, .int x1), (2, .int x2)]) hx hb dX12_lone_48 rfl hl (by decide) rfl (fun ls hl => ?_)
      refine lv_iconst (v := 0) hx hb dX12_lone_49 (by decide) ?_
      refine lv_istore (lv' := [(4, .int 0), (3, .int (-1)), (0, .ref (A0 + 703)), (1, .int x1), (2, .int x2)]) hx hb dX12_lone_50 hl (by decide) rfl (fun ls hl => ?_)
      refine lv_iconst (v := 0) hx hb dX12_lone_52 (by decide) ?_
      refine lv_istore (lv' := [(5, .int 0), (4, .int 0), (3, .int (-1)), (0, .ref (A0 + 703)), (1, .int x1), (2, .int x2)]) hx hb dX12_lone_53 hl (by decide) rfl (fun ls hl => ?_)
      obtain ⟨k110, ek110, h⟩ := lt_x h
      have hk110 : ∀ (x3_110 : Int32) (x4_110 : Int32) (σ110 : Mm) (H : Heap) (locs : List Loc) (ls : Array Slot), zh D A0 σ110 GF 740 s.heap H locs → lv_has ls 7 [(0, .ref (A0 + 703)), (2, .int x2), (3, .int x3_110), (4, .int x4_110)] → k110 x3_110 x4_110 σ110 = some (r0, σr) → W p l e (zR 400 14940) s m [.ref (A0 + 703), .int x1, .int x2].toArray below meth c H locs 0 0 (MQ below (zQi D A0 r0 σr GF 740) [.ref (A0 + 703), .int x1, .int x2].toArray s 0 0 (zA A0)) (F0 m 110 ls []) := by
        intro x3_110 x4_110 σ110 H locs ls Z hl h
        rw [ek110] at h
        try dsimp only at h
        refine lv_aload_n hx hb dX12_lone_110 rfl (lv_at hl 0 rfl) ?_
        obtain ⟨σ111, hc111, h⟩ := bd_x h
        refine zc_v Z (zr_V F Z (a := 703) (As := []) (zcX12_plainly l D A0 σ110 σ111 hc111) zBX12_plainly zq1657 (by decide) zs_703 zC12.1 rfl ⟨⟨rfl, rfl⟩, Nat.le_of_ble_eq_true rfl, Nat.le_of_ble_eq_true rfl⟩ hl.1 rfl (Nat.le_of_ble_eq_true rfl) dX12_lone_111 ⟨Nat.le_of_ble_eq_true rfl, Nat.le_of_ble_eq_true rfl⟩) (fun _ _ Z => ?_)
        refine lv_iload_n hx hb dX12_lone_114 rfl (lv_at hl 1 rfl) ?_
        refine zb_ifne (tgt := 122) hx hb dX12_lone_115 (by decide) h (fun h => ?_) (fun h => ?_)
        · refine lv_iload hx hb dX12_lone_122 (lv_at hl 3 rfl) ?_
          obtain ⟨hq1, hq2⟩ := zpq h
          exact ze_i F Z hr hlocks hq1 hq2 dX12_lone_124
        · refine lv_iload_n hx hb dX12_lone_118 rfl (lv_at hl 2 rfl) ?_
          refine lv_goto (tgt := 124) hx hb dX12_lone_119 (by decide) ?_
          obtain ⟨hq1, hq2⟩ := zpq h
          exact ze_i F Z hr hlocks hq1 hq2 dX12_lone_124
      have hL55 : ∀ (fu55 : Nat) (x3_55 : Int32) (x4_55 : Int32) (x5_55 : Int32) (σ55 : Mm) (H : Heap) (locs : List Loc) (ls : Array Slot), zh D A0 σ55 GF 740 s.heap H locs → lv_has ls 7 [(0, .ref (A0 + 703)), (1, .int x1), (2, .int x2), (3, .int x3_55), (4, .int x4_55), (5, .int x5_55)] → zfX12_lone_L55 k110 x1 fu55 x3_55 x4_55 x5_55 σ55 = some (r0, σr) → W p l e (zR 400 14940) s m [.ref (A0 + 703), .int x1, .int x2].toArray below meth c H locs 0 0 (MQ below (zQi D A0 r0 σr GF 740) [.ref (A0 + 703), .int x1, .int x2].toArray s 0 0 (zA A0)) (F0 m 55 ls []) := by
        intro fu55
        induction fu55 with
        | zero => intro x3_55 x4_55 x5_55 σ55 H locs ls Z hl h; rw [zfX12_lone_L55] at h; cases h
        | succ fu55 ih55 =>
          intro x3_55 x4_55 x5_55 σ55 H locs ls Z hl h
          rw [zfX12_lone_L55] at h
          refine lv_iload hx hb dX12_lone_55 (lv_at hl 5 rfl) ?_
          refine lv_aload_n hx hb dX12_lone_57 rfl (lv_at hl 0 rfl) ?_
          refine zw_getR F Z zC12 (a := 703) (k := 30) (by decide) zs_703 (by decide) rfl zg_703_30 zq1280 (Or.inl rfl) dX12_lone_58 ?_
          refine lv_bipush (v := 54) hx hb dX12_lone_61 (by decide) ?_
          refine zw_iald F Z (by decide) zs_715 (by decide) dX12_lone_63 ?_
          refine zb_icgt (tgt := 110) hx hb dX12_lone_64 (by decide) h (fun h => ?_) (fun h => ?_)
          · exact hk110 x3_55 x4_55 σ55 _ _ _ Z (lv_sub hl [0, 2, 3, 4] rfl) h
          · refine lv_aload_n hx hb dX12_lone_67 rfl (lv_at hl 0 rfl) ?_
            refine zw_getR F Z zC12 (a := 703) (k := 35) (by decide) zs_703 (by decide) rfl zg_703_35 zq1285 (Or.inl rfl) dX12_lone_68 ?_
            refine lv_iload_n hx hb dX12_lone_71 rfl (lv_at hl 1 rfl) ?_
            refine lv_iload hx hb dX12_lone_72 (lv_at hl 5 rfl) ?_
            obtain ⟨hk74, h⟩ := ck_x h
            refine zw_iast F Z (by decide) zs_717 hk74 dX12_lone_74 (fun σ74 _ _ eσ74 Z => ?_)
            replace h := lt_w h eσ74
            refine lv_aload_n hx hb dX12_lone_75 rfl (lv_at hl 0 rfl) ?_
            refine lv_iload_n hx hb dX12_lone_76 rfl (lv_at hl 1 rfl) ?_
            obtain ⟨r77, σ77, hc77, h⟩ := bd2_x h
            refine zc_i Z (zr_V F Z (a := 703) (As := [.int x1]) (zcX12_takenBy l D A0 x1 σ74 r77 σ77 hc77) zBX12_takenBy zq1754 (by decide) zs_703 zC12.1 rfl ⟨⟨rfl, rfl⟩, Nat.le_of_ble_eq_true rfl, Nat.le_of_ble_eq_true rfl⟩ hl.1 rfl (Nat.le_of_ble_eq_true rfl) dX12_lone_77 ⟨Nat.le_of_ble_eq_true rfl, Nat.le_of_ble_eq_true rfl⟩) (fun _ _ Z => ?_)
            refine lv_istore (lv' := [(6, .int r77), (0, .ref (A0 + 703)), (1, .int x1), (2, .int x2), (3, .int x3_55), (4, .int x4_55), (5, .int x5_55)]) hx hb dX12_lone_80 hl (by decide) rfl (fun ls hl => ?_)
            refine lv_iload_n hx hb dX12_lone_82 rfl (lv_at hl 4 rfl) ?_
            refine lv_iconst (v := (-1)) hx hb dX12_lone_83 (by decide) ?_
            obtain ⟨j104, ej104, h⟩ := lt_x h
            have hj104 : ∀ (x3_104 : Int32) (x4_104 : Int32) (σ104 : Mm) (H : Heap) (locs : List Loc) (ls : Array Slot), zh D A0 σ104 GF 740 s.heap H locs → lv_has ls 7 [(0, .ref (A0 + 703)), (1, .int x1), (2, .int x2), (3, .int x3_104), (4, .int x4_104), (5, .int x5_55)] → j104 x3_104 x4_104 σ104 = some (r0, σr) → W p l e (zR 400 14940) s m [.ref (A0 + 703), .int x1, .int x2].toArray below meth c H locs 0 0 (MQ below (zQi D A0 r0 σr GF 740) [.ref (A0 + 703), .int x1, .int x2].toArray s 0 0 (zA A0)) (F0 m 104 ls []) := by
              intro x3_104 x4_104 σ104 H locs ls Z hl h
              rw [ej104] at h
              try dsimp only at h
              obtain ⟨x5_104, ex5_104⟩ : ∃ y : Int32, y = x5_55 + 1 := ⟨_, rfl⟩
              replace h := lt_w h ex5_104
              refine lv_iinc (v := x5_104) (lv' := [(5, .int x5_104), (0, .ref (A0 + 703)), (1, .int x1), (2, .int x2), (3, .int x3_104), (4, .int x4_104)]) hx hb dX12_lone_104 hl (k := 5) rfl (by rw [ex5_104]; rfl) (by decide) rfl (fun ls hl => ?_)
              refine lv_goto (tgt := 55) hx hb dX12_lone_107 (by decide) ?_
              exact ih55 x3_104 x4_104 x5_104 σ104 _ _ _ Z (lv_sub hl [1, 2, 3, 4, 5, 0] rfl) h
            obtain ⟨j97, ej97, h⟩ := lt_x h
            have hj97 : ∀ (σ97 : Mm) (H : Heap) (locs : List Loc) (ls : Array Slot), zh D A0 σ97 GF 740 s.heap H locs → lv_has ls 7 [(0, .ref (A0 + 703)), (1, .int x1), (2, .int x2), (5, .int x5_55), (6, .int r77)] → j97 σ97 = some (r0, σr) → W p l e (zR 400 14940) s m [.ref (A0 + 703), .int x1, .int x2].toArray below meth c H locs 0 0 (MQ below (zQi D A0 r0 σr GF 740) [.ref (A0 + 703), .int x1, .int x2].toArray s 0 0 (zA A0)) (F0 m 97 ls []) := by
              intro  σ97 H locs ls Z hl h
              rw [ej97] at h
              try dsimp only at h
              refine lv_iload hx hb dX12_lone_97 (lv_at hl 3 rfl) ?_
              refine lv_istore_n (lv' := [(3, .int x5_55), (0, .ref (A0 + 703)), (1, .int x1), (2, .int x2), (5, .int x5_55), (6, .int r77)]) hx hb dX12_lone_99 rfl hl (by decide) rfl (fun ls hl => ?_)
              refine lv_iload hx hb dX12_lone_100 (lv_at hl 5 rfl) ?_
              refine lv_istore (lv' := [(4, .int r77), (3, .int x5_55), (0, .ref (A0 + 703)), (1, .int x1), (2, .int x2), (5, .int x5_55), (6, .int r77)]) hx hb dX12_lone_102 hl (by decide) rfl (fun ls hl => ?_)
              exact hj104 x5_55 r77 σ97 _ _ _ Z (lv_sub hl [2, 3, 4, 1, 0, 5] rfl) h
            refine zb_iceq (tgt := 97) hx hb dX12_lone_84 (by decide) h (fun h => ?_) (fun h => ?_)
            · exact hj97 σ77 _ _ _ Z (lv_sub hl [1, 2, 3, 6, 0] rfl) h
            · refine lv_iload hx hb dX12_lone_87 (lv_at hl 0 rfl) ?_
              refine lv_iload hx hb dX12_lone_89 (lv_at hl 5 rfl) ?_
              refine zb_icgt (tgt := 97) hx hb dX12_lone_91 (by decide) h (fun h => ?_) (fun h => ?_)
              · exact hj97 σ77 _ _ _ Z (lv_sub hl [1, 2, 3, 6, 0] rfl) h
              · refine lv_goto (tgt := 104) hx hb dX12_lone_94 (by decide) ?_
                exact hj104 x3_55 x4_55 σ77 _ _ _ Z (lv_sub hl [1, 2, 3, 4, 5, 6] rfl) h
      exact hL55 NF (-1) 0 0 σ44 _ _ _ Z (lv_sub hl [3, 4, 5, 2, 1, 0] rfl) h
    · exact hj23 σ2 _ _ _ Z (lv_sub hl [] rfl) h
set_option maxHeartbeats 4000000 in
set_option maxRecDepth 100000 in
theorem zcX12_glut (l : Launch) (D : va_G) (A0 : Nat) (x1 : Int32) (x2 : Int32) (σ : Mm) (r0 : Int32) (σr : Mm) (h : zfX12_glut x1 x2 σ = some (r0, σr)) : Met l yX12_glut (zws yX12_glut cX12_glut 7 (some .int)) (zR 399 14918) (zPc D A0 σ GF 740 [.ref (A0 + 703), .int x1, .int x2]) (zQi D A0 r0 σr GF 740) 0 0 (zA A0) := by
  unfold zfX12_glut at h
  refine zmet (own := RX12) (by decide) rfl (Nat.le_of_ble_eq_true rfl) ?_
  intro p e s m below meth c F hr hlocks _ Z ls hl
  have hl : lv_has ls 7 [(0, .ref (A0 + 703)), (1, .int x1), (2, .int x2)] := hl
  have hx := F.1.1
  have hb := F.1.2.1
  have hown := F.1.2.2.2.1
  have hts := F.1.2.2.2.2
  refine lv_aload_n hx hb dX12_glut_0 rfl (lv_at hl 0 rfl) ?_
  refine lv_iconst (v := 0) hx hb dX12_glut_1 (by decide) ?_
  refine zw_putI F Z zC12 (a := 703) (k := 0) (by decide) zs_703 (by decide) rfl (by decide) zq1250 (Or.inl rfl) rfl ⟨rfl, rfl⟩ dX12_glut_2 (fun σ2 _ _ eσ2 Z => ?_)
  replace h := lt_w h eσ2
  refine lv_aload_n hx hb dX12_glut_5 rfl (lv_at hl 0 rfl) ?_
  refine lv_iload_n hx hb dX12_glut_6 rfl (lv_at hl 1 rfl) ?_
  refine zc_i Z (zr_V F Z (a := 703) (As := [.int x1]) (zcX12_isReady l D A0 x1 σ2 (zfX12_isReady x1 σ2) rfl) zBX12_isReady zq1649 (by decide) zs_703 zC12.1 rfl ⟨⟨rfl, rfl⟩, Nat.le_of_ble_eq_true rfl, Nat.le_of_ble_eq_true rfl⟩ hl.1 rfl (Nat.le_of_ble_eq_true rfl) dX12_glut_7 ⟨Nat.le_of_ble_eq_true rfl, Nat.le_of_ble_eq_true rfl⟩) (fun _ _ Z => ?_)
  obtain ⟨j23, ej23, h⟩ := lt_x h
  have hj23 : ∀ (σ23 : Mm) (H : Heap) (locs : List Loc) (ls : Array Slot), zh D A0 σ23 GF 740 s.heap H locs → lv_has ls 7 [] → j23 σ23 = some (r0, σr) → W p l e (zR 399 14918) s m [.ref (A0 + 703), .int x1, .int x2].toArray below meth c H locs 0 0 (MQ below (zQi D A0 r0 σr GF 740) [.ref (A0 + 703), .int x1, .int x2].toArray s 0 0 (zA A0)) (F0 m 23 ls []) := by
    intro  σ23 H locs ls Z hl h
    rw [ej23] at h
    try dsimp only at h
    refine lv_iconst (v := (-1)) hx hb dX12_glut_23 (by decide) ?_
    obtain ⟨hq1, hq2⟩ := zpq h
    exact ze_i F Z hr hlocks hq1 hq2 dX12_glut_24
  refine zb_ifeq (tgt := 23) hx hb dX12_glut_10 (by decide) h (fun h => ?_) (fun h => ?_)
  · exact hj23 σ2 _ _ _ Z (lv_sub hl [] rfl) h
  · refine lv_iload_n hx hb dX12_glut_13 rfl (lv_at hl 2 rfl) ?_
    refine lv_i2l hx hb dX12_glut_14 rfl ?_
    refine lv_lconst (v := 0) hx hb dX12_glut_15 (by decide) ?_
    refine lv_lconst (v := 1) hx hb dX12_glut_16 (by decide) ?_
    refine zc_i Z (zr_S F Z (As := [.long (Int32.toInt64 x2), .long 0, .long 1]) (zcX12_isIn l D A0 (Int32.toInt64 x2) 0 1 σ2 (zfX12_isIn (Int32.toInt64 x2) 0 1) rfl) zBX12_isIn zq1496 rfl ⟨⟨rfl, rfl⟩, Nat.le_of_ble_eq_true rfl, Nat.le_of_ble_eq_true rfl⟩ hl.1 rfl (Nat.le_of_ble_eq_true rfl) dX12_glut_17 ⟨Nat.le_of_ble_eq_true rfl, Nat.le_of_ble_eq_true rfl⟩) (fun _ _ Z => ?_)
    refine zb_ifne (tgt := 25) hx hb dX12_glut_20 (by decide) h (fun h => ?_) (fun h => ?_)
    · refine lv_aload_n hx hb dX12_glut_25 rfl (lv_at hl 0 rfl) ?_
      obtain ⟨σ26, hc26, h⟩ := bd_x h
      refine zc_v Z (zr_V F Z (a := 703) (As := []) (zcX12_keep l D A0 σ2 σ26 hc26) zBX12_keep zq1701 (by decide) zs_703 zC12.1 rfl ⟨⟨rfl, rfl⟩, Nat.le_of_ble_eq_true rfl, Nat.le_of_ble_eq_true rfl⟩ hl.1 rfl (Nat.le_of_ble_eq_true rfl) dX12_glut_26 ⟨Nat.le_of_ble_eq_true rfl, Nat.le_of_ble_eq_true rfl⟩) (fun _ _ Z => ?_)
      refine lv_iconst (v := 0) hx hb dX12_glut_29 (by decide) ?_
      refine lv_istore_n (lv' := [(3, .int 0), (0, .ref (A0 + 703)), (1, .int x1), (2, .int x2)]) hx hb dX12_glut_30 rfl hl (by decide) rfl (fun ls hl => ?_)
      refine lv_iconst (v := 0) hx hb dX12_glut_31 (by decide) ?_
      refine lv_istore (lv' := [(4, .int 0), (3, .int 0), (0, .ref (A0 + 703)), (1, .int x1), (2, .int x2)]) hx hb dX12_glut_32 hl (by decide) rfl (fun ls hl => ?_)
      obtain ⟨k119, ek119, h⟩ := lt_x h
      have hk119 : ∀ (x3_119 : Int32) (σ119 : Mm) (H : Heap) (locs : List Loc) (ls : Array Slot), zh D A0 σ119 GF 740 s.heap H locs → lv_has ls 7 [(0, .ref (A0 + 703)), (2, .int x2), (3, .int x3_119)] → k119 x3_119 σ119 = some (r0, σr) → W p l e (zR 399 14918) s m [.ref (A0 + 703), .int x1, .int x2].toArray below meth c H locs 0 0 (MQ below (zQi D A0 r0 σr GF 740) [.ref (A0 + 703), .int x1, .int x2].toArray s 0 0 (zA A0)) (F0 m 119 ls []) := by
        intro x3_119 σ119 H locs ls Z hl h
        rw [ek119] at h
        try dsimp only at h
        refine lv_iconst (v := 0) hx hb dX12_glut_119 (by decide) ?_
        refine lv_istore (lv' := [(4, .int 0), (0, .ref (A0 + 703)), (2, .int x2), (3, .int x3_119)]) hx hb dX12_glut_120 hl (by decide) rfl (fun ls hl => ?_)
        refine lv_iconst (v := 1) hx hb dX12_glut_122 (by decide) ?_
        refine lv_istore (lv' := [(5, .int 1), (4, .int 0), (0, .ref (A0 + 703)), (2, .int x2), (3, .int x3_119)]) hx hb dX12_glut_123 hl (by decide) rfl (fun ls hl => ?_)
        obtain ⟨k166, ek166, h⟩ := lt_x h
        have hk166 : ∀ (x4_166 : Int32) (σ166 : Mm) (H : Heap) (locs : List Loc) (ls : Array Slot), zh D A0 σ166 GF 740 s.heap H locs → lv_has ls 7 [(0, .ref (A0 + 703)), (2, .int x2), (3, .int x3_119), (4, .int x4_166)] → k166 x4_166 σ166 = some (r0, σr) → W p l e (zR 399 14918) s m [.ref (A0 + 703), .int x1, .int x2].toArray below meth c H locs 0 0 (MQ below (zQi D A0 r0 σr GF 740) [.ref (A0 + 703), .int x1, .int x2].toArray s 0 0 (zA A0)) (F0 m 166 ls []) := by
          intro x4_166 σ166 H locs ls Z hl h
          rw [ek166] at h
          try dsimp only at h
          refine lv_aload_n hx hb dX12_glut_166 rfl (lv_at hl 0 rfl) ?_
          obtain ⟨σ167, hc167, h⟩ := bd_x h
          refine zc_v Z (zr_V F Z (a := 703) (As := []) (zcX12_putBack l D A0 σ166 σ167 hc167) zBX12_putBack zq1709 (by decide) zs_703 zC12.1 rfl ⟨⟨rfl, rfl⟩, Nat.le_of_ble_eq_true rfl, Nat.le_of_ble_eq_true rfl⟩ hl.1 rfl (Nat.le_of_ble_eq_true rfl) dX12_glut_167 ⟨Nat.le_of_ble_eq_true rfl, Nat.le_of_ble_eq_true rfl⟩) (fun _ _ Z => ?_)
          refine lv_iload_n hx hb dX12_glut_170 rfl (lv_at hl 1 rfl) ?_
          refine zb_ifne (tgt := 178) hx hb dX12_glut_171 (by decide) h (fun h => ?_) (fun h => ?_)
          · refine lv_iload hx hb dX12_glut_178 (lv_at hl 3 rfl) ?_
            obtain ⟨hq1, hq2⟩ := zpq h
            exact ze_i F Z hr hlocks hq1 hq2 dX12_glut_180
          · refine lv_iload_n hx hb dX12_glut_174 rfl (lv_at hl 2 rfl) ?_
            refine lv_goto (tgt := 180) hx hb dX12_glut_175 (by decide) ?_
            obtain ⟨hq1, hq2⟩ := zpq h
            exact ze_i F Z hr hlocks hq1 hq2 dX12_glut_180
        have hL125 : ∀ (fu125 : Nat) (x4_125 : Int32) (x5_125 : Int32) (σ125 : Mm) (H : Heap) (locs : List Loc) (ls : Array Slot), zh D A0 σ125 GF 740 s.heap H locs → lv_has ls 7 [(0, .ref (A0 + 703)), (2, .int x2), (3, .int x3_119), (4, .int x4_125), (5, .int x5_125)] → zfX12_glut_L125 k166 fu125 x4_125 x5_125 σ125 = some (r0, σr) → W p l e (zR 399 14918) s m [.ref (A0 + 703), .int x1, .int x2].toArray below meth c H locs 0 0 (MQ below (zQi D A0 r0 σr GF 740) [.ref (A0 + 703), .int x1, .int x2].toArray s 0 0 (zA A0)) (F0 m 125 ls []) := by
          intro fu125
          induction fu125 with
          | zero => intro x4_125 x5_125 σ125 H locs ls Z hl h; rw [zfX12_glut_L125] at h; cases h
          | succ fu125 ih125 =>
            intro x4_125 x5_125 σ125 H locs ls Z hl h
            rw [zfX12_glut_L125] at h
            refine lv_iload hx hb dX12_glut_125 (lv_at hl 4 rfl) ?_
            refine lv_aload_n hx hb dX12_glut_127 rfl (lv_at hl 0 rfl) ?_
            refine zw_getI F Z zC12 (a := 703) (k := 24) (by decide) zs_703 (by decide) rfl zq1274 (Or.inl rfl) dX12_glut_128 ?_
            refine zb_icge (tgt := 166) hx hb dX12_glut_131 (by decide) h (fun h => ?_) (fun h => ?_)
            · exact hk166 x4_125 σ125 _ _ _ Z (lv_sub hl [0, 1, 2, 3] rfl) h
            · refine lv_aload_n hx hb dX12_glut_134 rfl (lv_at hl 0 rfl) ?_
              refine zw_getR F Z zC12 (a := 703) (k := 29) (by decide) zs_703 (by decide) rfl zg_703_29 zq1279 (Or.inl rfl) dX12_glut_135 ?_
              refine lv_iload hx hb dX12_glut_138 (lv_at hl 4 rfl) ?_
              obtain ⟨hk140, h⟩ := ck_x h
              refine zw_iald F Z (by decide) zs_714 hk140 dX12_glut_140 ?_
              refine lv_aload_n hx hb dX12_glut_141 rfl (lv_at hl 0 rfl) ?_
              refine zw_getR F Z zC12 (a := 703) (k := 29) (by decide) zs_703 (by decide) rfl zg_703_29 zq1279 (Or.inl rfl) dX12_glut_142 ?_
              refine lv_iload hx hb dX12_glut_145 (lv_at hl 3 rfl) ?_
              obtain ⟨hk147, h⟩ := ck_x h
              refine zw_iald F Z (by decide) zs_714 hk147 dX12_glut_147 ?_
              obtain ⟨j158, ej158, h⟩ := lt_x h
              have hj158 : ∀ (y0_158 : Int32) (σ158 : Mm) (H : Heap) (locs : List Loc) (ls : Array Slot), zh D A0 σ158 GF 740 s.heap H locs → lv_has ls 7 [(0, .ref (A0 + 703)), (2, .int x2), (3, .int x3_119), (5, .int x5_125)] → j158 y0_158 σ158 = some (r0, σr) → W p l e (zR 399 14918) s m [.ref (A0 + 703), .int x1, .int x2].toArray below meth c H locs 0 0 (MQ below (zQi D A0 r0 σr GF 740) [.ref (A0 + 703), .int x1, .int x2].toArray s 0 0 (zA A0)) (F0 m 158 ls [.int y0_158]) := by
                intro y0_158 σ158 H locs ls Z hl h
                rw [ej158] at h
                try dsimp only at h
                refine lv_istore (lv' := [(4, .int y0_158), (0, .ref (A0 + 703)), (2, .int x2), (3, .int x3_119), (5, .int x5_125)]) hx hb dX12_glut_158 hl (by decide) rfl (fun ls hl => ?_)
                obtain ⟨x5_160, ex5_160⟩ : ∃ y : Int32, y = x5_125 + 1 := ⟨_, rfl⟩
                replace h := lt_w h ex5_160
                refine lv_iinc (v := x5_160) (lv' := [(5, .int x5_160), (4, .int y0_158), (0, .ref (A0 + 703)), (2, .int x2), (3, .int x3_119)]) hx hb dX12_glut_160 hl (k := 4) rfl (by rw [ex5_160]; rfl) (by decide) rfl (fun ls hl => ?_)
                refine lv_goto (tgt := 125) hx hb dX12_glut_163 (by decide) ?_
                exact ih125 y0_158 x5_160 σ158 _ _ _ Z (lv_sub hl [2, 3, 4, 1, 0] rfl) h
              refine zb_icle (tgt := 156) hx hb dX12_glut_148 (by decide) h (fun h => ?_) (fun h => ?_)
              · refine lv_iload hx hb dX12_glut_156 (lv_at hl 3 rfl) ?_
                exact hj158 x4_125 σ125 _ _ _ Z (lv_sub hl [0, 1, 2, 4] rfl) h
              · refine lv_iload hx hb dX12_glut_151 (lv_at hl 4 rfl) ?_
                refine lv_goto (tgt := 158) hx hb dX12_glut_153 (by decide) ?_
                exact hj158 x5_125 σ125 _ _ _ Z (lv_sub hl [0, 1, 2, 4] rfl) h
        exact hL125 NF 0 1 σ119 _ _ _ Z (lv_sub hl [2, 3, 4, 1, 0] rfl) h
      have hL34 : ∀ (fu34 : Nat) (x3_34 : Int32) (x4_34 : Int32) (σ34 : Mm) (H : Heap) (locs : List Loc) (ls : Array Slot), zh D A0 σ34 GF 740 s.heap H locs → lv_has ls 7 [(0, .ref (A0 + 703)), (1, .int x1), (2, .int x2), (3, .int x3_34), (4, .int x4_34)] → zfX12_glut_L34 x1 k119 fu34 x3_34 x4_34 σ34 = some (r0, σr) → W p l e (zR 399 14918) s m [.ref (A0 + 703), .int x1, .int x2].toArray below meth c H locs 0 0 (MQ below (zQi D A0 r0 σr GF 740) [.ref (A0 + 703), .int x1, .int x2].toArray s 0 0 (zA A0)) (F0 m 34 ls []) := by
        intro fu34
        induction fu34 with
        | zero => intro x3_34 x4_34 σ34 H locs ls Z hl h; rw [zfX12_glut_L34] at h; cases h
        | succ fu34 ih34 =>
          intro x3_34 x4_34 σ34 H locs ls Z hl h
          rw [zfX12_glut_L34] at h
          refine lv_iload hx hb dX12_glut_34 (lv_at hl 4 rfl) ?_
          refine lv_iload_n hx hb dX12_glut_36 rfl (lv_at hl 1 rfl) ?_
          refine zb_icge (tgt := 119) hx hb dX12_glut_37 (by decide) h (fun h => ?_) (fun h => ?_)
          · exact hk119 x3_34 σ34 _ _ _ Z (lv_sub hl [0, 2, 3] rfl) h
          · refine lv_aload_n hx hb dX12_glut_40 rfl (lv_at hl 0 rfl) ?_
            refine lv_iconst (v := 0) hx hb dX12_glut_41 (by decide) ?_
            obtain ⟨σ42, hc42, h⟩ := bd_x h
            refine zc_v Z (zr_V F Z (a := 703) (As := [.int 0]) (zcX12_goes l D A0 0 σ34 σ42 hc42) zBX12_goes zq1663 (by decide) zs_703 zC12.1 rfl ⟨⟨rfl, rfl⟩, Nat.le_of_ble_eq_true rfl, Nat.le_of_ble_eq_true rfl⟩ hl.1 rfl (Nat.le_of_ble_eq_true rfl) dX12_glut_42 ⟨Nat.le_of_ble_eq_true rfl, Nat.le_of_ble_eq_true rfl⟩) (fun _ _ Z => ?_)
            refine lv_iconst (v := 0) hx hb dX12_glut_45 (by decide) ?_
            refine lv_istore (lv' := [(5, .int 0), (0, .ref (A0 + 703)), (1, .int x1), (2, .int x2), (3, .int x3_34), (4, .int x4_34)]) hx hb dX12_glut_46 hl (by decide) rfl (fun ls hl => ?_)
            refine lv_iconst (v := 0) hx hb dX12_glut_48 (by decide) ?_
            refine lv_istore (lv' := [(6, .int 0), (5, .int 0), (0, .ref (A0 + 703)), (1, .int x1), (2, .int x2), (3, .int x3_34), (4, .int x4_34)]) hx hb dX12_glut_49 hl (by decide) rfl (fun ls hl => ?_)
            obtain ⟨k100, ek100, h⟩ := lt_x h
            have hk100 : ∀ (x5_100 : Int32) (σ100 : Mm) (H : Heap) (locs : List Loc) (ls : Array Slot), zh D A0 σ100 GF 740 s.heap H locs → lv_has ls 7 [(0, .ref (A0 + 703)), (1, .int x1), (2, .int x2), (3, .int x3_34), (4, .int x4_34), (5, .int x5_100)] → k100 x5_100 σ100 = some (r0, σr) → W p l e (zR 399 14918) s m [.ref (A0 + 703), .int x1, .int x2].toArray below meth c H locs 0 0 (MQ below (zQi D A0 r0 σr GF 740) [.ref (A0 + 703), .int x1, .int x2].toArray s 0 0 (zA A0)) (F0 m 100 ls []) := by
              intro x5_100 σ100 H locs ls Z hl h
              rw [ek100] at h
              try dsimp only at h
              refine lv_iload_n hx hb dX12_glut_100 rfl (lv_at hl 3 rfl) ?_
              refine lv_iload hx hb dX12_glut_101 (lv_at hl 5 rfl) ?_
              obtain ⟨j111, ej111, h⟩ := lt_x h
              have hj111 : ∀ (y0_111 : Int32) (σ111 : Mm) (H : Heap) (locs : List Loc) (ls : Array Slot), zh D A0 σ111 GF 740 s.heap H locs → lv_has ls 7 [(0, .ref (A0 + 703)), (1, .int x1), (2, .int x2), (4, .int x4_34)] → j111 y0_111 σ111 = some (r0, σr) → W p l e (zR 399 14918) s m [.ref (A0 + 703), .int x1, .int x2].toArray below meth c H locs 0 0 (MQ below (zQi D A0 r0 σr GF 740) [.ref (A0 + 703), .int x1, .int x2].toArray s 0 0 (zA A0)) (F0 m 111 ls [.int y0_111, .int x3_34]) := by
                intro y0_111 σ111 H locs ls Z hl h
                rw [ej111] at h
                try dsimp only at h
                refine lv_iadd hx hb dX12_glut_111 ?_
                refine lv_topi (fun x3_112 ex3_112 => ?_)
                replace h := lt_w h ex3_112
                refine lv_istore_n (lv' := [(3, .int x3_112), (0, .ref (A0 + 703)), (1, .int x1), (2, .int x2), (4, .int x4_34)]) hx hb dX12_glut_112 rfl hl (by decide) rfl (fun ls hl => ?_)
                obtain ⟨x4_113, ex4_113⟩ : ∃ y : Int32, y = x4_34 + 1 := ⟨_, rfl⟩
                replace h := lt_w h ex4_113
                refine lv_iinc (v := x4_113) (lv' := [(4, .int x4_113), (3, .int x3_112), (0, .ref (A0 + 703)), (1, .int x1), (2, .int x2)]) hx hb dX12_glut_113 hl (k := 4) rfl (by rw [ex4_113]; rfl) (by decide) rfl (fun ls hl => ?_)
                refine lv_goto (tgt := 34) hx hb dX12_glut_116 (by decide) ?_
                exact ih34 x3_112 x4_113 σ111 _ _ _ Z (lv_sub hl [2, 3, 4, 1, 0] rfl) h
              refine zb_ifeq (tgt := 110) hx hb dX12_glut_103 (by decide) h (fun h => ?_) (fun h => ?_)
              · refine lv_iconst (v := 0) hx hb dX12_glut_110 (by decide) ?_
                exact hj111 0 σ100 _ _ _ Z (lv_sub hl [0, 1, 2, 4] rfl) h
              · refine lv_iconst (v := 1) hx hb dX12_glut_106 (by decide) ?_
                refine lv_goto (tgt := 111) hx hb dX12_glut_107 (by decide) ?_
                exact hj111 1 σ100 _ _ _ Z (lv_sub hl [0, 1, 2, 4] rfl) h
            have hL51 : ∀ (fu51 : Nat) (x5_51 : Int32) (x6_51 : Int32) (σ51 : Mm) (H : Heap) (locs : List Loc) (ls : Array Slot), zh D A0 σ51 GF 740 s.heap H locs → lv_has ls 7 [(0, .ref (A0 + 703)), (1, .int x1), (2, .int x2), (3, .int x3_34), (4, .int x4_34), (5, .int x5_51), (6, .int x6_51)] → zfX12_glut_L51 k100 fu51 x5_51 x6_51 σ51 = some (r0, σr) → W p l e (zR 399 14918) s m [.ref (A0 + 703), .int x1, .int x2].toArray below meth c H locs 0 0 (MQ below (zQi D A0 r0 σr GF 740) [.ref (A0 + 703), .int x1, .int x2].toArray s 0 0 (zA A0)) (F0 m 51 ls []) := by
              intro fu51
              induction fu51 with
              | zero => intro x5_51 x6_51 σ51 H locs ls Z hl h; rw [zfX12_glut_L51] at h; cases h
              | succ fu51 ih51 =>
                intro x5_51 x6_51 σ51 H locs ls Z hl h
                rw [zfX12_glut_L51] at h
                refine lv_iload hx hb dX12_glut_51 (lv_at hl 6 rfl) ?_
                refine lv_aload_n hx hb dX12_glut_53 rfl (lv_at hl 0 rfl) ?_
                refine zw_getI F Z zC12 (a := 703) (k := 24) (by decide) zs_703 (by decide) rfl zq1274 (Or.inl rfl) dX12_glut_54 ?_
                refine zb_icge (tgt := 100) hx hb dX12_glut_57 (by decide) h (fun h => ?_) (fun h => ?_)
                · exact hk100 x5_51 σ51 _ _ _ Z (lv_sub hl [0, 1, 2, 3, 4, 5] rfl) h
                · refine lv_iload hx hb dX12_glut_60 (lv_at hl 5 rfl) ?_
                  obtain ⟨j92, ej92, h⟩ := lt_x h
                  have hj92 : ∀ (y0_92 : Int32) (σ92 : Mm) (H : Heap) (locs : List Loc) (ls : Array Slot), zh D A0 σ92 GF 740 s.heap H locs → lv_has ls 7 [(0, .ref (A0 + 703)), (1, .int x1), (2, .int x2), (3, .int x3_34), (4, .int x4_34), (6, .int x6_51)] → j92 y0_92 σ92 = some (r0, σr) → W p l e (zR 399 14918) s m [.ref (A0 + 703), .int x1, .int x2].toArray below meth c H locs 0 0 (MQ below (zQi D A0 r0 σr GF 740) [.ref (A0 + 703), .int x1, .int x2].toArray s 0 0 (zA A0)) (F0 m 92 ls [.int y0_92]) := by
                    intro y0_92 σ92 H locs ls Z hl h
                    rw [ej92] at h
                    try dsimp only at h
                    refine lv_istore (lv' := [(5, .int y0_92), (0, .ref (A0 + 703)), (1, .int x1), (2, .int x2), (3, .int x3_34), (4, .int x4_34), (6, .int x6_51)]) hx hb dX12_glut_92 hl (by decide) rfl (fun ls hl => ?_)
                    obtain ⟨x6_94, ex6_94⟩ : ∃ y : Int32, y = x6_51 + 1 := ⟨_, rfl⟩
                    replace h := lt_w h ex6_94
                    refine lv_iinc (v := x6_94) (lv' := [(6, .int x6_94), (5, .int y0_92), (0, .ref (A0 + 703)), (1, .int x1), (2, .int x2), (3, .int x3_34), (4, .int x4_34)]) hx hb dX12_glut_94 hl (k := 6) rfl (by rw [ex6_94]; rfl) (by decide) rfl (fun ls hl => ?_)
                    refine lv_goto (tgt := 51) hx hb dX12_glut_97 (by decide) ?_
                    exact ih51 y0_92 x6_94 σ92 _ _ _ Z (lv_sub hl [2, 3, 4, 5, 6, 1, 0] rfl) h
                  obtain ⟨j87, ej87, h⟩ := lt_x h
                  have hj87 : ∀ (σ87 : Mm) (H : Heap) (locs : List Loc) (ls : Array Slot), zh D A0 σ87 GF 740 s.heap H locs → lv_has ls 7 [(0, .ref (A0 + 703)), (1, .int x1), (2, .int x2), (3, .int x3_34), (4, .int x4_34), (6, .int x6_51)] → j87 σ87 = some (r0, σr) → W p l e (zR 399 14918) s m [.ref (A0 + 703), .int x1, .int x2].toArray below meth c H locs 0 0 (MQ below (zQi D A0 r0 σr GF 740) [.ref (A0 + 703), .int x1, .int x2].toArray s 0 0 (zA A0)) (F0 m 87 ls []) := by
                    intro  σ87 H locs ls Z hl h
                    rw [ej87] at h
                    try dsimp only at h
                    refine lv_iconst (v := 1) hx hb dX12_glut_87 (by decide) ?_
                    refine lv_goto (tgt := 92) hx hb dX12_glut_88 (by decide) ?_
                    exact hj92 1 σ87 _ _ _ Z (lv_sub hl [0, 1, 2, 3, 4, 5] rfl) h
                  refine zb_ifne (tgt := 87) hx hb dX12_glut_62 (by decide) h (fun h => ?_) (fun h => ?_)
                  · exact hj87 σ51 _ _ _ Z (lv_sub hl [0, 1, 2, 3, 4, 6] rfl) h
                  · refine lv_aload_n hx hb dX12_glut_65 rfl (lv_at hl 0 rfl) ?_
                    refine zw_getR F Z zC12 (a := 703) (k := 29) (by decide) zs_703 (by decide) rfl zg_703_29 zq1279 (Or.inl rfl) dX12_glut_66 ?_
                    refine lv_bipush (v := 6) hx hb dX12_glut_69 (by decide) ?_
                    refine lv_iload hx hb dX12_glut_71 (lv_at hl 6 rfl) ?_
                    refine lv_iadd hx hb dX12_glut_73 ?_
                    obtain ⟨hk74, h⟩ := ck_x h
                    refine zw_iald F Z (by decide) zs_714 hk74 dX12_glut_74 ?_
                    refine lv_aload_n hx hb dX12_glut_75 rfl (lv_at hl 0 rfl) ?_
                    refine zw_getR F Z zC12 (a := 703) (k := 18) (by decide) zs_703 (by decide) rfl zg_703_18 zq1268 (Or.inl rfl) dX12_glut_76 ?_
                    refine lv_iconst (v := 3) hx hb dX12_glut_79 (by decide) ?_
                    refine lv_iload hx hb dX12_glut_80 (lv_at hl 6 rfl) ?_
                    refine lv_imul hx hb dX12_glut_82 ?_
                    obtain ⟨hk83, h⟩ := ck_x h
                    refine zw_iald F Z (by decide) zs_708 hk83 dX12_glut_83 ?_
                    refine zb_icle (tgt := 91) hx hb dX12_glut_84 (by decide) h (fun h => ?_) (fun h => ?_)
                    · refine lv_iconst (v := 0) hx hb dX12_glut_91 (by decide) ?_
                      exact hj92 0 σ51 _ _ _ Z (lv_sub hl [0, 1, 2, 3, 4, 6] rfl) h
                    · exact hj87 σ51 _ _ _ Z (lv_sub hl [0, 1, 2, 3, 4, 6] rfl) h
            exact hL51 NF 0 0 σ42 _ _ _ Z (lv_sub hl [2, 3, 4, 5, 6, 1, 0] rfl) h
      exact hL34 NF 0 0 σ26 _ _ _ Z (lv_sub hl [2, 3, 4, 1, 0] rfl) h
    · exact hj23 σ2 _ _ _ Z (lv_sub hl [] rfl) h
set_option maxHeartbeats 4000000 in
set_option maxRecDepth 100000 in
theorem zcX12_image (l : Launch) (D : va_G) (A0 : Nat) (σ : Mm) (r0 : Int32) (σr : Mm) (h : zfX12_image σ = some (r0, σr)) : Met l yX12_image (zws yX12_image cX12_image 2 (some .int)) (zR 0 0) (zPc D A0 σ GF 740 [.ref (A0 + 703)]) (zQi D A0 r0 σr GF 740) 0 0 (zA A0) := by
  unfold zfX12_image at h
  refine zmet (own := RX12) (by decide) rfl (Nat.le_of_ble_eq_true rfl) ?_
  intro p e s m below meth c F hr hlocks _ Z ls hl
  have hl : lv_has ls 2 [(0, .ref (A0 + 703))] := hl
  have hx := F.1.1
  have hb := F.1.2.1
  have hown := F.1.2.2.2.1
  have hts := F.1.2.2.2.2
  refine lv_aload_n hx hb dX12_image_0 rfl (lv_at hl 0 rfl) ?_
  refine lv_iconst (v := 0) hx hb dX12_image_1 (by decide) ?_
  refine zw_putI F Z zC12 (a := 703) (k := 0) (by decide) zs_703 (by decide) rfl (by decide) zq1250 (Or.inl rfl) rfl ⟨rfl, rfl⟩ dX12_image_2 (fun σ2 _ _ eσ2 Z => ?_)
  replace h := lt_w h eσ2
  refine lv_aload_n hx hb dX12_image_5 rfl (lv_at hl 0 rfl) ?_
  refine zw_getI F Z zC12 (a := 703) (k := 24) (by decide) zs_703 (by decide) rfl zq1274 (Or.inl rfl) dX12_image_6 ?_
  refine zb_ifne (tgt := 14) hx hb dX12_image_9 (by decide) h (fun h => ?_) (fun h => ?_)
  · refine lv_iconst (v := 0) hx hb dX12_image_14 (by decide) ?_
    refine lv_istore_n (lv' := [(1, .int 0), (0, .ref (A0 + 703))]) hx hb dX12_image_15 rfl hl (by decide) rfl (fun ls hl => ?_)
    obtain ⟨k40, ek40, h⟩ := lt_x h
    have hk40 : ∀ (σ40 : Mm) (H : Heap) (locs : List Loc) (ls : Array Slot), zh D A0 σ40 GF 740 s.heap H locs → lv_has ls 2 [(0, .ref (A0 + 703))] → k40 σ40 = some (r0, σr) → W p l e (zR 0 0) s m [.ref (A0 + 703)].toArray below meth c H locs 0 0 (MQ below (zQi D A0 r0 σr GF 740) [.ref (A0 + 703)].toArray s 0 0 (zA A0)) (F0 m 40 ls []) := by
      intro  σ40 H locs ls Z hl h
      rw [ek40] at h
      try dsimp only at h
      refine lv_iconst (v := 0) hx hb dX12_image_40 (by decide) ?_
      refine lv_istore_n (lv' := [(1, .int 0), (0, .ref (A0 + 703))]) hx hb dX12_image_41 rfl hl (by decide) rfl (fun ls hl => ?_)
      obtain ⟨k65, ek65, h⟩ := lt_x h
      have hk65 : ∀ (σ65 : Mm) (H : Heap) (locs : List Loc) (ls : Array Slot), zh D A0 σ65 GF 740 s.heap H locs → lv_has ls 2 [(0, .ref (A0 + 703))] → k65 σ65 = some (r0, σr) → W p l e (zR 0 0) s m [.ref (A0 + 703)].toArray below meth c H locs 0 0 (MQ below (zQi D A0 r0 σr GF 740) [.ref (A0 + 703)].toArray s 0 0 (zA A0)) (F0 m 65 ls []) := by
        intro  σ65 H locs ls Z hl h
        rw [ek65] at h
        try dsimp only at h
        refine lv_aload_n hx hb dX12_image_65 rfl (lv_at hl 0 rfl) ?_
        refine lv_aload_n hx hb dX12_image_66 rfl (lv_at hl 0 rfl) ?_
        refine zw_getI F Z zC12 (a := 703) (k := 32) (by decide) zs_703 (by decide) rfl zq1282 (Or.inl rfl) dX12_image_67 ?_
        refine zw_putI F Z zC12 (a := 703) (k := 71) (by decide) zs_703 (by decide) rfl (by decide) zq1321 (Or.inl rfl) rfl ⟨rfl, rfl⟩ dX12_image_70 (fun σ70 _ _ eσ70 Z => ?_)
        replace h := lt_w h eσ70
        refine lv_aload_n hx hb dX12_image_73 rfl (lv_at hl 0 rfl) ?_
        refine lv_aload_n hx hb dX12_image_74 rfl (lv_at hl 0 rfl) ?_
        refine zw_getJ F Z zC12 (a := 703) (k := 34) (by decide) zs_703 (by decide) rfl zq1284 (Or.inl rfl) dX12_image_75 ?_
        refine zw_putJ F Z zC12 (a := 703) (k := 72) (by decide) zs_703 (by decide) rfl (by decide) zq1322 (Or.inl rfl) rfl ⟨rfl, rfl⟩ dX12_image_78 (fun σ78 _ _ eσ78 Z => ?_)
        replace h := lt_w h eσ78
        refine lv_aload_n hx hb dX12_image_81 rfl (lv_at hl 0 rfl) ?_
        refine lv_iconst (v := 1) hx hb dX12_image_82 (by decide) ?_
        refine zw_putI F Z zC12 (a := 703) (k := 73) (by decide) zs_703 (by decide) rfl (by decide) zq1323 (Or.inl rfl) rfl (z_nb (by decide)) dX12_image_83 (fun σ83 _ _ eσ83 Z => ?_)
        replace h := lt_w h eσ83
        refine lv_aload_n hx hb dX12_image_86 rfl (lv_at hl 0 rfl) ?_
        refine zw_getR F Z zC12 (a := 703) (k := 29) (by decide) zs_703 (by decide) rfl zg_703_29 zq1279 (Or.inl rfl) dX12_image_87 ?_
        refine lv_bipush (v := 56) hx hb dX12_image_90 (by decide) ?_
        refine zw_iald F Z (by decide) zs_714 (by decide) dX12_image_92 ?_
        obtain ⟨hq1, hq2⟩ := zpq h
        exact ze_i F Z hr hlocks hq1 hq2 dX12_image_93
      have hL42 : ∀ (fu42 : Nat) (x1_42 : Int32) (σ42 : Mm) (H : Heap) (locs : List Loc) (ls : Array Slot), zh D A0 σ42 GF 740 s.heap H locs → lv_has ls 2 [(0, .ref (A0 + 703)), (1, .int x1_42)] → zfX12_image_L42 k65 fu42 x1_42 σ42 = some (r0, σr) → W p l e (zR 0 0) s m [.ref (A0 + 703)].toArray below meth c H locs 0 0 (MQ below (zQi D A0 r0 σr GF 740) [.ref (A0 + 703)].toArray s 0 0 (zA A0)) (F0 m 42 ls []) := by
        intro fu42
        induction fu42 with
        | zero => intro x1_42 σ42 H locs ls Z hl h; rw [zfX12_image_L42] at h; cases h
        | succ fu42 ih42 =>
          intro x1_42 σ42 H locs ls Z hl h
          rw [zfX12_image_L42] at h
          refine lv_iload_n hx hb dX12_image_42 rfl (lv_at hl 1 rfl) ?_
          refine lv_iconst (v := 5) hx hb dX12_image_43 (by decide) ?_
          refine zb_icge (tgt := 65) hx hb dX12_image_44 (by decide) h (fun h => ?_) (fun h => ?_)
          · exact hk65 σ42 _ _ _ Z (lv_sub hl [0] rfl) h
          · refine lv_aload_n hx hb dX12_image_47 rfl (lv_at hl 0 rfl) ?_
            refine zw_getR F Z zC12 (a := 703) (k := 70) (by decide) zs_703 (by decide) rfl zg_703_70 zq1320 (Or.inl rfl) dX12_image_48 ?_
            refine lv_iload_n hx hb dX12_image_51 rfl (lv_at hl 1 rfl) ?_
            refine lv_aload_n hx hb dX12_image_52 rfl (lv_at hl 0 rfl) ?_
            refine zw_getR F Z zC12 (a := 703) (k := 31) (by decide) zs_703 (by decide) rfl zg_703_31 zq1281 (Or.inl rfl) dX12_image_53 ?_
            refine lv_iload_n hx hb dX12_image_56 rfl (lv_at hl 1 rfl) ?_
            obtain ⟨hk57, h⟩ := ck_x h
            refine zw_iald F Z (by decide) zs_716 hk57 dX12_image_57 ?_
            obtain ⟨hk58, h⟩ := ck_x h
            refine zw_iast F Z (by decide) zs_738 hk58 dX12_image_58 (fun σ58 _ _ eσ58 Z => ?_)
            replace h := lt_w h eσ58
            obtain ⟨x1_59, ex1_59⟩ : ∃ y : Int32, y = x1_42 + 1 := ⟨_, rfl⟩
            replace h := lt_w h ex1_59
            refine lv_iinc (v := x1_59) (lv' := [(1, .int x1_59), (0, .ref (A0 + 703))]) hx hb dX12_image_59 hl (k := 1) rfl (by rw [ex1_59]; rfl) (by decide) rfl (fun ls hl => ?_)
            refine lv_goto (tgt := 42) hx hb dX12_image_62 (by decide) ?_
            exact ih42 x1_59 σ58 _ _ _ Z (lv_sub hl [1, 0] rfl) h
      exact hL42 NF 0 σ40 _ _ _ Z (lv_sub hl [1, 0] rfl) h
    have hL16 : ∀ (fu16 : Nat) (x1_16 : Int32) (σ16 : Mm) (H : Heap) (locs : List Loc) (ls : Array Slot), zh D A0 σ16 GF 740 s.heap H locs → lv_has ls 2 [(0, .ref (A0 + 703)), (1, .int x1_16)] → zfX12_image_L16 k40 fu16 x1_16 σ16 = some (r0, σr) → W p l e (zR 0 0) s m [.ref (A0 + 703)].toArray below meth c H locs 0 0 (MQ below (zQi D A0 r0 σr GF 740) [.ref (A0 + 703)].toArray s 0 0 (zA A0)) (F0 m 16 ls []) := by
      intro fu16
      induction fu16 with
      | zero => intro x1_16 σ16 H locs ls Z hl h; rw [zfX12_image_L16] at h; cases h
      | succ fu16 ih16 =>
        intro x1_16 σ16 H locs ls Z hl h
        rw [zfX12_image_L16] at h
        refine lv_iload_n hx hb dX12_image_16 rfl (lv_at hl 1 rfl) ?_
        refine lv_bipush (v := 57) hx hb dX12_image_17 (by decide) ?_
        refine zb_icge (tgt := 40) hx hb dX12_image_19 (by decide) h (fun h => ?_) (fun h => ?_)
        · exact hk40 σ16 _ _ _ Z (lv_sub hl [0] rfl) h
        · refine lv_aload_n hx hb dX12_image_22 rfl (lv_at hl 0 rfl) ?_
          refine zw_getR F Z zC12 (a := 703) (k := 69) (by decide) zs_703 (by decide) rfl zg_703_69 zq1319 (Or.inl rfl) dX12_image_23 ?_
          refine lv_iload_n hx hb dX12_image_26 rfl (lv_at hl 1 rfl) ?_
          refine lv_aload_n hx hb dX12_image_27 rfl (lv_at hl 0 rfl) ?_
          refine zw_getR F Z zC12 (a := 703) (k := 29) (by decide) zs_703 (by decide) rfl zg_703_29 zq1279 (Or.inl rfl) dX12_image_28 ?_
          refine lv_iload_n hx hb dX12_image_31 rfl (lv_at hl 1 rfl) ?_
          obtain ⟨hk32, h⟩ := ck_x h
          refine zw_iald F Z (by decide) zs_714 hk32 dX12_image_32 ?_
          obtain ⟨hk33, h⟩ := ck_x h
          refine zw_iast F Z (by decide) zs_737 hk33 dX12_image_33 (fun σ33 _ _ eσ33 Z => ?_)
          replace h := lt_w h eσ33
          obtain ⟨x1_34, ex1_34⟩ : ∃ y : Int32, y = x1_16 + 1 := ⟨_, rfl⟩
          replace h := lt_w h ex1_34
          refine lv_iinc (v := x1_34) (lv' := [(1, .int x1_34), (0, .ref (A0 + 703))]) hx hb dX12_image_34 hl (k := 1) rfl (by rw [ex1_34]; rfl) (by decide) rfl (fun ls hl => ?_)
          refine lv_goto (tgt := 16) hx hb dX12_image_37 (by decide) ?_
          exact ih16 x1_34 σ33 _ _ _ Z (lv_sub hl [1, 0] rfl) h
    exact hL16 NF 0 σ2 _ _ _ Z (lv_sub hl [1, 0] rfl) h
  · refine lv_iconst (v := (-1)) hx hb dX12_image_12 (by decide) ?_
    obtain ⟨hq1, hq2⟩ := zpq h
    exact ze_i F Z hr hlocks hq1 hq2 dX12_image_13
set_option maxHeartbeats 4000000 in
set_option maxRecDepth 100000 in
theorem zcX12_back (l : Launch) (D : va_G) (A0 : Nat) (σ : Mm) (r0 : Int32) (σr : Mm) (h : zfX12_back σ = some (r0, σr)) : Met l yX12_back (zws yX12_back cX12_back 2 (some .int)) (zR 0 0) (zPc D A0 σ GF 740 [.ref (A0 + 703)]) (zQi D A0 r0 σr GF 740) 0 0 (zA A0) := by
  unfold zfX12_back at h
  refine zmet (own := RX12) (by decide) rfl (Nat.le_of_ble_eq_true rfl) ?_
  intro p e s m below meth c F hr hlocks _ Z ls hl
  have hl : lv_has ls 2 [(0, .ref (A0 + 703))] := hl
  have hx := F.1.1
  have hb := F.1.2.1
  have hown := F.1.2.2.2.1
  have hts := F.1.2.2.2.2
  refine lv_aload_n hx hb dX12_back_0 rfl (lv_at hl 0 rfl) ?_
  refine lv_iconst (v := 0) hx hb dX12_back_1 (by decide) ?_
  refine zw_putI F Z zC12 (a := 703) (k := 0) (by decide) zs_703 (by decide) rfl (by decide) zq1250 (Or.inl rfl) rfl ⟨rfl, rfl⟩ dX12_back_2 (fun σ2 _ _ eσ2 Z => ?_)
  replace h := lt_w h eσ2
  refine lv_aload_n hx hb dX12_back_5 rfl (lv_at hl 0 rfl) ?_
  refine zw_getI F Z zC12 (a := 703) (k := 73) (by decide) zs_703 (by decide) rfl zq1323 (Or.inl rfl) dX12_back_6 ?_
  refine zb_ifne (tgt := 14) hx hb dX12_back_9 (by decide) h (fun h => ?_) (fun h => ?_)
  · refine lv_iconst (v := 0) hx hb dX12_back_14 (by decide) ?_
    refine lv_istore_n (lv' := [(1, .int 0), (0, .ref (A0 + 703))]) hx hb dX12_back_15 rfl hl (by decide) rfl (fun ls hl => ?_)
    obtain ⟨k40, ek40, h⟩ := lt_x h
    have hk40 : ∀ (σ40 : Mm) (H : Heap) (locs : List Loc) (ls : Array Slot), zh D A0 σ40 GF 740 s.heap H locs → lv_has ls 2 [(0, .ref (A0 + 703))] → k40 σ40 = some (r0, σr) → W p l e (zR 0 0) s m [.ref (A0 + 703)].toArray below meth c H locs 0 0 (MQ below (zQi D A0 r0 σr GF 740) [.ref (A0 + 703)].toArray s 0 0 (zA A0)) (F0 m 40 ls []) := by
      intro  σ40 H locs ls Z hl h
      rw [ek40] at h
      try dsimp only at h
      refine lv_iconst (v := 0) hx hb dX12_back_40 (by decide) ?_
      refine lv_istore_n (lv' := [(1, .int 0), (0, .ref (A0 + 703))]) hx hb dX12_back_41 rfl hl (by decide) rfl (fun ls hl => ?_)
      obtain ⟨k65, ek65, h⟩ := lt_x h
      have hk65 : ∀ (σ65 : Mm) (H : Heap) (locs : List Loc) (ls : Array Slot), zh D A0 σ65 GF 740 s.heap H locs → lv_has ls 2 [(0, .ref (A0 + 703))] → k65 σ65 = some (r0, σr) → W p l e (zR 0 0) s m [.ref (A0 + 703)].toArray below meth c H locs 0 0 (MQ below (zQi D A0 r0 σr GF 740) [.ref (A0 + 703)].toArray s 0 0 (zA A0)) (F0 m 65 ls []) := by
        intro  σ65 H locs ls Z hl h
        rw [ek65] at h
        try dsimp only at h
        refine lv_aload_n hx hb dX12_back_65 rfl (lv_at hl 0 rfl) ?_
        refine lv_aload_n hx hb dX12_back_66 rfl (lv_at hl 0 rfl) ?_
        refine zw_getI F Z zC12 (a := 703) (k := 71) (by decide) zs_703 (by decide) rfl zq1321 (Or.inl rfl) dX12_back_67 ?_
        refine zw_putI F Z zC12 (a := 703) (k := 32) (by decide) zs_703 (by decide) rfl (by decide) zq1282 (Or.inl rfl) rfl ⟨rfl, rfl⟩ dX12_back_70 (fun σ70 _ _ eσ70 Z => ?_)
        replace h := lt_w h eσ70
        refine lv_aload_n hx hb dX12_back_73 rfl (lv_at hl 0 rfl) ?_
        refine lv_aload_n hx hb dX12_back_74 rfl (lv_at hl 0 rfl) ?_
        refine zw_getJ F Z zC12 (a := 703) (k := 72) (by decide) zs_703 (by decide) rfl zq1322 (Or.inl rfl) dX12_back_75 ?_
        refine zw_putJ F Z zC12 (a := 703) (k := 34) (by decide) zs_703 (by decide) rfl (by decide) zq1284 (Or.inl rfl) rfl ⟨rfl, rfl⟩ dX12_back_78 (fun σ78 _ _ eσ78 Z => ?_)
        replace h := lt_w h eσ78
        refine lv_aload_n hx hb dX12_back_81 rfl (lv_at hl 0 rfl) ?_
        refine zw_getR F Z zC12 (a := 703) (k := 29) (by decide) zs_703 (by decide) rfl zg_703_29 zq1279 (Or.inl rfl) dX12_back_82 ?_
        refine lv_bipush (v := 56) hx hb dX12_back_85 (by decide) ?_
        refine zw_iald F Z (by decide) zs_714 (by decide) dX12_back_87 ?_
        obtain ⟨hq1, hq2⟩ := zpq h
        exact ze_i F Z hr hlocks hq1 hq2 dX12_back_88
      have hL42 : ∀ (fu42 : Nat) (x1_42 : Int32) (σ42 : Mm) (H : Heap) (locs : List Loc) (ls : Array Slot), zh D A0 σ42 GF 740 s.heap H locs → lv_has ls 2 [(0, .ref (A0 + 703)), (1, .int x1_42)] → zfX12_back_L42 k65 fu42 x1_42 σ42 = some (r0, σr) → W p l e (zR 0 0) s m [.ref (A0 + 703)].toArray below meth c H locs 0 0 (MQ below (zQi D A0 r0 σr GF 740) [.ref (A0 + 703)].toArray s 0 0 (zA A0)) (F0 m 42 ls []) := by
        intro fu42
        induction fu42 with
        | zero => intro x1_42 σ42 H locs ls Z hl h; rw [zfX12_back_L42] at h; cases h
        | succ fu42 ih42 =>
          intro x1_42 σ42 H locs ls Z hl h
          rw [zfX12_back_L42] at h
          refine lv_iload_n hx hb dX12_back_42 rfl (lv_at hl 1 rfl) ?_
          refine lv_iconst (v := 5) hx hb dX12_back_43 (by decide) ?_
          refine zb_icge (tgt := 65) hx hb dX12_back_44 (by decide) h (fun h => ?_) (fun h => ?_)
          · exact hk65 σ42 _ _ _ Z (lv_sub hl [0] rfl) h
          · refine lv_aload_n hx hb dX12_back_47 rfl (lv_at hl 0 rfl) ?_
            refine zw_getR F Z zC12 (a := 703) (k := 31) (by decide) zs_703 (by decide) rfl zg_703_31 zq1281 (Or.inl rfl) dX12_back_48 ?_
            refine lv_iload_n hx hb dX12_back_51 rfl (lv_at hl 1 rfl) ?_
            refine lv_aload_n hx hb dX12_back_52 rfl (lv_at hl 0 rfl) ?_
            refine zw_getR F Z zC12 (a := 703) (k := 70) (by decide) zs_703 (by decide) rfl zg_703_70 zq1320 (Or.inl rfl) dX12_back_53 ?_
            refine lv_iload_n hx hb dX12_back_56 rfl (lv_at hl 1 rfl) ?_
            obtain ⟨hk57, h⟩ := ck_x h
            refine zw_iald F Z (by decide) zs_738 hk57 dX12_back_57 ?_
            obtain ⟨hk58, h⟩ := ck_x h
            refine zw_iast F Z (by decide) zs_716 hk58 dX12_back_58 (fun σ58 _ _ eσ58 Z => ?_)
            replace h := lt_w h eσ58
            obtain ⟨x1_59, ex1_59⟩ : ∃ y : Int32, y = x1_42 + 1 := ⟨_, rfl⟩
            replace h := lt_w h ex1_59
            refine lv_iinc (v := x1_59) (lv' := [(1, .int x1_59), (0, .ref (A0 + 703))]) hx hb dX12_back_59 hl (k := 1) rfl (by rw [ex1_59]; rfl) (by decide) rfl (fun ls hl => ?_)
            refine lv_goto (tgt := 42) hx hb dX12_back_62 (by decide) ?_
            exact ih42 x1_59 σ58 _ _ _ Z (lv_sub hl [1, 0] rfl) h
      exact hL42 NF 0 σ40 _ _ _ Z (lv_sub hl [1, 0] rfl) h
    have hL16 : ∀ (fu16 : Nat) (x1_16 : Int32) (σ16 : Mm) (H : Heap) (locs : List Loc) (ls : Array Slot), zh D A0 σ16 GF 740 s.heap H locs → lv_has ls 2 [(0, .ref (A0 + 703)), (1, .int x1_16)] → zfX12_back_L16 k40 fu16 x1_16 σ16 = some (r0, σr) → W p l e (zR 0 0) s m [.ref (A0 + 703)].toArray below meth c H locs 0 0 (MQ below (zQi D A0 r0 σr GF 740) [.ref (A0 + 703)].toArray s 0 0 (zA A0)) (F0 m 16 ls []) := by
      intro fu16
      induction fu16 with
      | zero => intro x1_16 σ16 H locs ls Z hl h; rw [zfX12_back_L16] at h; cases h
      | succ fu16 ih16 =>
        intro x1_16 σ16 H locs ls Z hl h
        rw [zfX12_back_L16] at h
        refine lv_iload_n hx hb dX12_back_16 rfl (lv_at hl 1 rfl) ?_
        refine lv_bipush (v := 57) hx hb dX12_back_17 (by decide) ?_
        refine zb_icge (tgt := 40) hx hb dX12_back_19 (by decide) h (fun h => ?_) (fun h => ?_)
        · exact hk40 σ16 _ _ _ Z (lv_sub hl [0] rfl) h
        · refine lv_aload_n hx hb dX12_back_22 rfl (lv_at hl 0 rfl) ?_
          refine zw_getR F Z zC12 (a := 703) (k := 29) (by decide) zs_703 (by decide) rfl zg_703_29 zq1279 (Or.inl rfl) dX12_back_23 ?_
          refine lv_iload_n hx hb dX12_back_26 rfl (lv_at hl 1 rfl) ?_
          refine lv_aload_n hx hb dX12_back_27 rfl (lv_at hl 0 rfl) ?_
          refine zw_getR F Z zC12 (a := 703) (k := 69) (by decide) zs_703 (by decide) rfl zg_703_69 zq1319 (Or.inl rfl) dX12_back_28 ?_
          refine lv_iload_n hx hb dX12_back_31 rfl (lv_at hl 1 rfl) ?_
          obtain ⟨hk32, h⟩ := ck_x h
          refine zw_iald F Z (by decide) zs_737 hk32 dX12_back_32 ?_
          obtain ⟨hk33, h⟩ := ck_x h
          refine zw_iast F Z (by decide) zs_714 hk33 dX12_back_33 (fun σ33 _ _ eσ33 Z => ?_)
          replace h := lt_w h eσ33
          obtain ⟨x1_34, ex1_34⟩ : ∃ y : Int32, y = x1_16 + 1 := ⟨_, rfl⟩
          replace h := lt_w h ex1_34
          refine lv_iinc (v := x1_34) (lv' := [(1, .int x1_34), (0, .ref (A0 + 703))]) hx hb dX12_back_34 hl (k := 1) rfl (by rw [ex1_34]; rfl) (by decide) rfl (fun ls hl => ?_)
          refine lv_goto (tgt := 16) hx hb dX12_back_37 (by decide) ?_
          exact ih16 x1_34 σ33 _ _ _ Z (lv_sub hl [1, 0] rfl) h
    exact hL16 NF 0 σ2 _ _ _ Z (lv_sub hl [1, 0] rfl) h
  · refine lv_iconst (v := (-1)) hx hb dX12_back_12 (by decide) ?_
    obtain ⟨hq1, hq2⟩ := zpq h
    exact ze_i F Z hr hlocks hq1 hq2 dX12_back_13
set_option maxHeartbeats 4000000 in
set_option maxRecDepth 100000 in
theorem zcX12_count (l : Launch) (D : va_G) (A0 : Nat) (x1 : Int32) (σ : Mm) (r0 : Int32) (σr : Mm) (h : zfX12_count x1 σ = some (r0, σr)) : Met l yX12_count (zws yX12_count cX12_count 2 (some .int)) (zR 0 0) (zPc D A0 σ GF 740 [.ref (A0 + 703), .int x1]) (zQi D A0 r0 σr GF 740) 0 0 (zA A0) := by
  unfold zfX12_count at h
  refine zmet (own := RX12) (by decide) rfl (Nat.le_of_ble_eq_true rfl) ?_
  intro p e s m below meth c F hr hlocks _ Z ls hl
  have hl : lv_has ls 2 [(0, .ref (A0 + 703)), (1, .int x1)] := hl
  have hx := F.1.1
  have hb := F.1.2.1
  have hown := F.1.2.2.2.1
  have hts := F.1.2.2.2.2
  refine lv_aload_n hx hb dX12_count_0 rfl (lv_at hl 0 rfl) ?_
  refine lv_iconst (v := 0) hx hb dX12_count_1 (by decide) ?_
  refine zw_putI F Z zC12 (a := 703) (k := 0) (by decide) zs_703 (by decide) rfl (by decide) zq1250 (Or.inl rfl) rfl ⟨rfl, rfl⟩ dX12_count_2 (fun σ2 _ _ eσ2 Z => ?_)
  replace h := lt_w h eσ2
  refine lv_iload_n hx hb dX12_count_5 rfl (lv_at hl 1 rfl) ?_
  refine zsp h (fun hs6_0 h => ?_) (fun hs6_0 h => ?_)
  · refine lv_tableIn (tgt := 64) (off := 58) hx hb dX12_count_6 (by rw [hs6_0]; decide) (by rw [hs6_0]; decide) (by first | (rw [hs6_0]; done) | (rw [hs6_0]; rfl)) (by decide) ?_
    refine lv_aload_n hx hb dX12_count_64 rfl (lv_at hl 0 rfl) ?_
    refine zw_getI F Z zC12 (a := 703) (k := 24) (by decide) zs_703 (by decide) rfl zq1274 (Or.inl rfl) dX12_count_65 ?_
    obtain ⟨hq1, hq2⟩ := zpq h
    exact ze_i F Z hr hlocks hq1 hq2 dX12_count_68
  · refine zsp h (fun hs6_1 h => ?_) (fun hs6_1 h => ?_)
    · refine lv_tableIn (tgt := 69) (off := 63) hx hb dX12_count_6 (by rw [hs6_1]; decide) (by rw [hs6_1]; decide) (by first | (rw [hs6_1]; done) | (rw [hs6_1]; rfl)) (by decide) ?_
      refine lv_aload_n hx hb dX12_count_69 rfl (lv_at hl 0 rfl) ?_
      refine zw_getI F Z zC12 (a := 703) (k := 25) (by decide) zs_703 (by decide) rfl zq1275 (Or.inl rfl) dX12_count_70 ?_
      obtain ⟨hq1, hq2⟩ := zpq h
      exact ze_i F Z hr hlocks hq1 hq2 dX12_count_73
    · refine zsp h (fun hs6_2 h => ?_) (fun hs6_2 h => ?_)
      · refine lv_tableIn (tgt := 74) (off := 68) hx hb dX12_count_6 (by rw [hs6_2]; decide) (by rw [hs6_2]; decide) (by first | (rw [hs6_2]; done) | (rw [hs6_2]; rfl)) (by decide) ?_
        refine lv_aload_n hx hb dX12_count_74 rfl (lv_at hl 0 rfl) ?_
        refine zw_getI F Z zC12 (a := 703) (k := 7) (by decide) zs_703 (by decide) rfl zq1257 (Or.inl rfl) dX12_count_75 ?_
        obtain ⟨hq1, hq2⟩ := zpq h
        exact ze_i F Z hr hlocks hq1 hq2 dX12_count_78
      · refine zsp h (fun hs6_3 h => ?_) (fun hs6_3 h => ?_)
        · refine lv_tableIn (tgt := 79) (off := 73) hx hb dX12_count_6 (by rw [hs6_3]; decide) (by rw [hs6_3]; decide) (by first | (rw [hs6_3]; done) | (rw [hs6_3]; rfl)) (by decide) ?_
          refine lv_aload_n hx hb dX12_count_79 rfl (lv_at hl 0 rfl) ?_
          refine zw_getI F Z zC12 (a := 703) (k := 6) (by decide) zs_703 (by decide) rfl zq1256 (Or.inl rfl) dX12_count_80 ?_
          obtain ⟨hq1, hq2⟩ := zpq h
          exact ze_i F Z hr hlocks hq1 hq2 dX12_count_83
        · refine zsp h (fun hs6_4 h => ?_) (fun hs6_4 h => ?_)
          · refine lv_tableIn (tgt := 84) (off := 78) hx hb dX12_count_6 (by rw [hs6_4]; decide) (by rw [hs6_4]; decide) (by first | (rw [hs6_4]; done) | (rw [hs6_4]; rfl)) (by decide) ?_
            refine lv_aload_n hx hb dX12_count_84 rfl (lv_at hl 0 rfl) ?_
            refine zw_getR F Z zC12 (a := 703) (k := 29) (by decide) zs_703 (by decide) rfl zg_703_29 zq1279 (Or.inl rfl) dX12_count_85 ?_
            refine lv_bipush (v := 56) hx hb dX12_count_88 (by decide) ?_
            refine zw_iald F Z (by decide) zs_714 (by decide) dX12_count_90 ?_
            obtain ⟨hq1, hq2⟩ := zpq h
            exact ze_i F Z hr hlocks hq1 hq2 dX12_count_91
          · refine zsp h (fun hs6_5 h => ?_) (fun hs6_5 h => ?_)
            · refine lv_tableIn (tgt := 92) (off := 86) hx hb dX12_count_6 (by rw [hs6_5]; decide) (by rw [hs6_5]; decide) (by first | (rw [hs6_5]; done) | (rw [hs6_5]; rfl)) (by decide) ?_
              refine lv_aload_n hx hb dX12_count_92 rfl (lv_at hl 0 rfl) ?_
              refine zw_getR F Z zC12 (a := 703) (k := 29) (by decide) zs_703 (by decide) rfl zg_703_29 zq1279 (Or.inl rfl) dX12_count_93 ?_
              refine lv_bipush (v := 54) hx hb dX12_count_96 (by decide) ?_
              refine zw_iald F Z (by decide) zs_714 (by decide) dX12_count_98 ?_
              obtain ⟨hq1, hq2⟩ := zpq h
              exact ze_i F Z hr hlocks hq1 hq2 dX12_count_99
            · refine zsp h (fun hs6_6 h => ?_) (fun hs6_6 h => ?_)
              · refine lv_tableIn (tgt := 100) (off := 94) hx hb dX12_count_6 (by rw [hs6_6]; decide) (by rw [hs6_6]; decide) (by first | (rw [hs6_6]; done) | (rw [hs6_6]; rfl)) (by decide) ?_
                refine lv_aload_n hx hb dX12_count_100 rfl (lv_at hl 0 rfl) ?_
                refine zw_getR F Z zC12 (a := 703) (k := 29) (by decide) zs_703 (by decide) rfl zg_703_29 zq1279 (Or.inl rfl) dX12_count_101 ?_
                refine lv_bipush (v := 55) hx hb dX12_count_104 (by decide) ?_
                refine zw_iald F Z (by decide) zs_714 (by decide) dX12_count_106 ?_
                obtain ⟨hq1, hq2⟩ := zpq h
                exact ze_i F Z hr hlocks hq1 hq2 dX12_count_107
              · refine zsp h (fun hs6_7 h => ?_) (fun hs6_7 h => ?_)
                · refine lv_tableIn (tgt := 108) (off := 102) hx hb dX12_count_6 (by rw [hs6_7]; decide) (by rw [hs6_7]; decide) (by first | (rw [hs6_7]; done) | (rw [hs6_7]; rfl)) (by decide) ?_
                  refine lv_aload_n hx hb dX12_count_108 rfl (lv_at hl 0 rfl) ?_
                  refine zw_getI F Z zC12 (a := 703) (k := 62) (by decide) zs_703 (by decide) rfl zq1312 (Or.inl rfl) dX12_count_109 ?_
                  obtain ⟨hq1, hq2⟩ := zpq h
                  exact ze_i F Z hr hlocks hq1 hq2 dX12_count_112
                · refine zsp h (fun hs6_8 h => ?_) (fun hs6_8 h => ?_)
                  · refine lv_tableIn (tgt := 113) (off := 107) hx hb dX12_count_6 (by rw [hs6_8]; decide) (by rw [hs6_8]; decide) (by first | (rw [hs6_8]; done) | (rw [hs6_8]; rfl)) (by decide) ?_
                    refine lv_aload_n hx hb dX12_count_113 rfl (lv_at hl 0 rfl) ?_
                    refine zw_getI F Z zC12 (a := 703) (k := 66) (by decide) zs_703 (by decide) rfl zq1316 (Or.inl rfl) dX12_count_114 ?_
                    obtain ⟨hq1, hq2⟩ := zpq h
                    exact ze_i F Z hr hlocks hq1 hq2 dX12_count_117
                  · refine zsp h (fun hs6_9 h => ?_) (fun hs6_9 h => ?_)
                    · refine lv_tableIn (tgt := 118) (off := 112) hx hb dX12_count_6 (by rw [hs6_9]; decide) (by rw [hs6_9]; decide) (by first | (rw [hs6_9]; done) | (rw [hs6_9]; rfl)) (by decide) ?_
                      refine lv_aload_n hx hb dX12_count_118 rfl (lv_at hl 0 rfl) ?_
                      refine zw_getR F Z zC12 (a := 703) (k := 20) (by decide) zs_703 (by decide) rfl zg_703_20 zq1270 (Or.inl rfl) dX12_count_119 ?_
                      refine lv_iconst (v := 1) hx hb dX12_count_122 (by decide) ?_
                      refine zw_iald F Z (by decide) zs_710 (by decide) dX12_count_123 ?_
                      obtain ⟨hq1, hq2⟩ := zpq h
                      exact ze_i F Z hr hlocks hq1 hq2 dX12_count_124
                    · refine zsp h (fun hs6_10 h => ?_) (fun hs6_10 h => ?_)
                      · refine lv_tableIn (tgt := 125) (off := 119) hx hb dX12_count_6 (by rw [hs6_10]; decide) (by rw [hs6_10]; decide) (by first | (rw [hs6_10]; done) | (rw [hs6_10]; rfl)) (by decide) ?_
                        refine lv_aload_n hx hb dX12_count_125 rfl (lv_at hl 0 rfl) ?_
                        refine zw_getR F Z zC12 (a := 703) (k := 20) (by decide) zs_703 (by decide) rfl zg_703_20 zq1270 (Or.inl rfl) dX12_count_126 ?_
                        refine lv_iconst (v := 0) hx hb dX12_count_129 (by decide) ?_
                        refine zw_iald F Z (by decide) zs_710 (by decide) dX12_count_130 ?_
                        obtain ⟨hq1, hq2⟩ := zpq h
                        exact ze_i F Z hr hlocks hq1 hq2 dX12_count_131
                      · refine lv_tableOut (tgt := 132) hx hb dX12_count_6 (by have n0 := lv_neT hs6_0 (a := 0) (by decide); have n1 := lv_neT hs6_1 (a := 1) (by decide); have n2 := lv_neT hs6_2 (a := 2) (by decide); have n3 := lv_neT hs6_3 (a := 3) (by decide); have n4 := lv_neT hs6_4 (a := 4) (by decide); have n5 := lv_neT hs6_5 (a := 5) (by decide); have n6 := lv_neT hs6_6 (a := 6) (by decide); have n7 := lv_neT hs6_7 (a := 7) (by decide); have n8 := lv_neT hs6_8 (a := 8) (by decide); have n9 := lv_neT hs6_9 (a := 9) (by decide); have n10 := lv_neT hs6_10 (a := 10) (by decide); omega) (by decide) ?_
                        refine lv_ldcw (v := (-1000000)) hx hb hown (hts _ zq1737) dX12_count_132 ?_
                        obtain ⟨hq1, hq2⟩ := zpq h
                        exact ze_i F Z hr hlocks hq1 hq2 dX12_count_135
