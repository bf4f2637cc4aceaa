set_option maxHeartbeats 4000000 in
set_option maxRecDepth 100000 in
theorem zcX4_joined (l : Launch) (D : va_G) (A0 : Nat) (x0 : Int32) (x1 : Int32) (x2 : Int32) (σ : Mm) (r0 : Int32) (h : zfX4_joined x0 x1 x2 = some r0) : Met l yX4_joined (zws yX4_joined cX4_joined 5 (some .int)) (zR 1 40) (zPc D A0 σ GF 740 [.int x0, .int x1, .int x2]) (zQi D A0 r0 σ GF 740) 0 0 (zA A0) := by
  unfold zfX4_joined at h
  refine zmet (own := RX4) (by decide) rfl (Nat.le_of_ble_eq_true rfl) ?_
  intro p e s m below meth c F hr hlocks _ Z ls hl
  have hl : lv_has ls 5 [(0, .int x0), (1, .int x1), (2, .int x2)] := hl
  have hx := F.1.1
  have hb := F.1.2.1
  have hown := F.1.2.2.2.1
  have hts := F.1.2.2.2.2
  refine lv_iload_n hx hb dX4_joined_0 rfl (lv_at hl 0 rfl) ?_
  obtain ⟨j214, ej214, h⟩ := lt_x h
  have hj214 : ∀ (x3_214 : Int64) (H : Heap) (locs : List Loc) (ls : Array Slot), zh D A0 σ GF 740 s.heap H locs → lv_has ls 5 [(3, .long x3_214)] → j214 x3_214 = some r0 → W p l e (zR 1 40) s m [.int x0, .int x1, .int x2].toArray below meth c H locs 0 0 (MQ below (zQi D A0 r0 σ GF 740) [.int x0, .int x1, .int x2].toArray s 0 0 (zA A0)) (F0 m 214 ls []) := by
    intro x3_214 H locs ls Z hl h
    rw [ej214] at h
    try dsimp only at h
    refine lv_ldc2 (v := (-1000000)) hx hb hown (hts _ zq898) dX4_joined_214 ?_
    refine lv_ldc2 (v := 1000000) hx hb hown (hts _ zq899) dX4_joined_217 ?_
    refine lv_lload_n hx hb dX4_joined_220 rfl (lv_at hl 0 rfl) ?_
    refine zw_zminL F hl.1 zq900 (Nat.le_of_ble_eq_true rfl) (Nat.le_of_ble_eq_true rfl) (Nat.le_of_ble_eq_true rfl) (Nat.le_of_ble_eq_true rfl) dX4_joined_221 ?_
    refine zw_zmaxL F hl.1 zq903 (Nat.le_of_ble_eq_true rfl) (Nat.le_of_ble_eq_true rfl) (Nat.le_of_ble_eq_true rfl) (Nat.le_of_ble_eq_true rfl) dX4_joined_224 ?_
    refine lv_l2i hx hb dX4_joined_227 rfl ?_
    have hq := Option.some.inj h
    exact ze_i F Z hr hlocks hq rfl dX4_joined_228
  refine zsp h (fun hs1_0 h => ?_) (fun hs1_0 h => ?_)
  · refine lv_tableIn (tgt := 201) (off := 200) hx hb dX4_joined_1 (by rw [hs1_0]; decide) (by rw [hs1_0]; decide) (by first | (rw [hs1_0]; done) | (rw [hs1_0]; rfl)) (by decide) ?_
    refine lv_iload_n hx hb dX4_joined_201 rfl (lv_at hl 1 rfl) ?_
    refine lv_iload_n hx hb dX4_joined_202 rfl (lv_at hl 2 rfl) ?_
    refine lv_iand hx hb dX4_joined_203 ?_
    refine lv_i2l hx hb dX4_joined_204 rfl ?_
    refine lv_topl (fun x3_205 ex3_205 => ?_)
    replace h := lt_w h ex3_205
    refine lv_lstore_n (lv' := [(3, .long x3_205), (0, .int x0), (1, .int x1), (2, .int x2)]) hx hb dX4_joined_205 rfl hl (by decide) rfl (fun ls hl => ?_)
    refine lv_goto (tgt := 214) hx hb dX4_joined_206 (by decide) ?_
    exact hj214 x3_205 _ _ _ Z (lv_sub hl [0] rfl) h
  · refine zsp h (fun hs1_1 h => ?_) (fun hs1_1 h => ?_)
    · refine lv_tableIn (tgt := 209) (off := 208) hx hb dX4_joined_1 (by rw [hs1_1]; decide) (by rw [hs1_1]; decide) (by first | (rw [hs1_1]; done) | (rw [hs1_1]; rfl)) (by decide) ?_
      refine lv_iload_n hx hb dX4_joined_209 rfl (lv_at hl 1 rfl) ?_
      refine lv_iload_n hx hb dX4_joined_210 rfl (lv_at hl 2 rfl) ?_
      refine lv_ior hx hb dX4_joined_211 ?_
      refine lv_i2l hx hb dX4_joined_212 rfl ?_
      refine lv_topl (fun x3_213 ex3_213 => ?_)
      replace h := lt_w h ex3_213
      refine lv_lstore_n (lv' := [(3, .long x3_213), (0, .int x0), (1, .int x1), (2, .int x2)]) hx hb dX4_joined_213 rfl hl (by decide) rfl (fun ls hl => ?_)
      exact hj214 x3_213 _ _ _ Z (lv_sub hl [0] rfl) h
    · refine zsp h (fun hs1_2 h => ?_) (fun hs1_2 h => ?_)
      · refine lv_tableIn (tgt := 209) (off := 208) hx hb dX4_joined_1 (by rw [hs1_2]; decide) (by rw [hs1_2]; decide) (by first | (rw [hs1_2]; done) | (rw [hs1_2]; rfl)) (by decide) ?_
        refine lv_iload_n hx hb dX4_joined_209 rfl (lv_at hl 1 rfl) ?_
        refine lv_iload_n hx hb dX4_joined_210 rfl (lv_at hl 2 rfl) ?_
        refine lv_ior hx hb dX4_joined_211 ?_
        refine lv_i2l hx hb dX4_joined_212 rfl ?_
        refine lv_topl (fun x3_213_1 ex3_213_1 => ?_)
        replace h := lt_w h ex3_213_1
        refine lv_lstore_n (lv' := [(3, .long x3_213_1), (0, .int x0), (1, .int x1), (2, .int x2)]) hx hb dX4_joined_213 rfl hl (by decide) rfl (fun ls hl => ?_)
        exact hj214 x3_213_1 _ _ _ Z (lv_sub hl [0] rfl) h
      · refine zsp h (fun hs1_3 h => ?_) (fun hs1_3 h => ?_)
        · refine lv_tableIn (tgt := 209) (off := 208) hx hb dX4_joined_1 (by rw [hs1_3]; decide) (by rw [hs1_3]; decide) (by first | (rw [hs1_3]; done) | (rw [hs1_3]; rfl)) (by decide) ?_
          refine lv_iload_n hx hb dX4_joined_209 rfl (lv_at hl 1 rfl) ?_
          refine lv_iload_n hx hb dX4_joined_210 rfl (lv_at hl 2 rfl) ?_
          refine lv_ior hx hb dX4_joined_211 ?_
          refine lv_i2l hx hb dX4_joined_212 rfl ?_
          refine lv_topl (fun x3_213_2 ex3_213_2 => ?_)
          replace h := lt_w h ex3_213_2
          refine lv_lstore_n (lv' := [(3, .long x3_213_2), (0, .int x0), (1, .int x1), (2, .int x2)]) hx hb dX4_joined_213 rfl hl (by decide) rfl (fun ls hl => ?_)
          exact hj214 x3_213_2 _ _ _ Z (lv_sub hl [0] rfl) h
        · refine zsp h (fun hs1_4 h => ?_) (fun hs1_4 h => ?_)
          · refine lv_tableIn (tgt := 134) (off := 133) hx hb dX4_joined_1 (by rw [hs1_4]; decide) (by rw [hs1_4]; decide) (by first | (rw [hs1_4]; done) | (rw [hs1_4]; rfl)) (by decide) ?_
            refine lv_iload_n hx hb dX4_joined_134 rfl (lv_at hl 1 rfl) ?_
            refine lv_i2l hx hb dX4_joined_135 rfl ?_
            refine lv_iload_n hx hb dX4_joined_136 rfl (lv_at hl 2 rfl) ?_
            refine lv_i2l hx hb dX4_joined_137 rfl ?_
            refine lv_lmul hx hb dX4_joined_138 ?_
            refine lv_topl (fun x3_139 ex3_139 => ?_)
            replace h := lt_w h ex3_139
            refine lv_lstore_n (lv' := [(3, .long x3_139), (0, .int x0), (1, .int x1), (2, .int x2)]) hx hb dX4_joined_139 rfl hl (by decide) rfl (fun ls hl => ?_)
            refine lv_goto (tgt := 214) hx hb dX4_joined_140 (by decide) ?_
            exact hj214 x3_139 _ _ _ Z (lv_sub hl [0] rfl) h
          · refine zsp h (fun hs1_5 h => ?_) (fun hs1_5 h => ?_)
            · refine lv_tableIn (tgt := 116) (off := 115) hx hb dX4_joined_1 (by rw [hs1_5]; decide) (by rw [hs1_5]; decide) (by first | (rw [hs1_5]; done) | (rw [hs1_5]; rfl)) (by decide) ?_
              refine lv_iload_n hx hb dX4_joined_116 rfl (lv_at hl 1 rfl) ?_
              refine lv_i2l hx hb dX4_joined_117 rfl ?_
              refine lv_iload_n hx hb dX4_joined_118 rfl (lv_at hl 2 rfl) ?_
              refine lv_i2l hx hb dX4_joined_119 rfl ?_
              refine lv_ladd hx hb dX4_joined_120 ?_
              refine lv_topl (fun x3_121 ex3_121 => ?_)
              replace h := lt_w h ex3_121
              refine lv_lstore_n (lv' := [(3, .long x3_121), (0, .int x0), (1, .int x1), (2, .int x2)]) hx hb dX4_joined_121 rfl hl (by decide) rfl (fun ls hl => ?_)
              refine lv_goto (tgt := 214) hx hb dX4_joined_122 (by decide) ?_
              exact hj214 x3_121 _ _ _ Z (lv_sub hl [0] rfl) h
            · refine zsp h (fun hs1_6 h => ?_) (fun hs1_6 h => ?_)
              · refine lv_tableIn (tgt := 209) (off := 208) hx hb dX4_joined_1 (by rw [hs1_6]; decide) (by rw [hs1_6]; decide) (by first | (rw [hs1_6]; done) | (rw [hs1_6]; rfl)) (by decide) ?_
                refine lv_iload_n hx hb dX4_joined_209 rfl (lv_at hl 1 rfl) ?_
                refine lv_iload_n hx hb dX4_joined_210 rfl (lv_at hl 2 rfl) ?_
                refine lv_ior hx hb dX4_joined_211 ?_
                refine lv_i2l hx hb dX4_joined_212 rfl ?_
                refine lv_topl (fun x3_213_3 ex3_213_3 => ?_)
                replace h := lt_w h ex3_213_3
                refine lv_lstore_n (lv' := [(3, .long x3_213_3), (0, .int x0), (1, .int x1), (2, .int x2)]) hx hb dX4_joined_213 rfl hl (by decide) rfl (fun ls hl => ?_)
                exact hj214 x3_213_3 _ _ _ Z (lv_sub hl [0] rfl) h
              · refine zsp h (fun hs1_7 h => ?_) (fun hs1_7 h => ?_)
                · refine lv_tableIn (tgt := 125) (off := 124) hx hb dX4_joined_1 (by rw [hs1_7]; decide) (by rw [hs1_7]; decide) (by first | (rw [hs1_7]; done) | (rw [hs1_7]; rfl)) (by decide) ?_
                  refine lv_iload_n hx hb dX4_joined_125 rfl (lv_at hl 1 rfl) ?_
                  refine lv_i2l hx hb dX4_joined_126 rfl ?_
                  refine lv_iload_n hx hb dX4_joined_127 rfl (lv_at hl 2 rfl) ?_
                  refine lv_i2l hx hb dX4_joined_128 rfl ?_
                  refine lv_lsub hx hb dX4_joined_129 ?_
                  refine lv_topl (fun x3_130 ex3_130 => ?_)
                  replace h := lt_w h ex3_130
                  refine lv_lstore_n (lv' := [(3, .long x3_130), (0, .int x0), (1, .int x1), (2, .int x2)]) hx hb dX4_joined_130 rfl hl (by decide) rfl (fun ls hl => ?_)
                  refine lv_goto (tgt := 214) hx hb dX4_joined_131 (by decide) ?_
                  exact hj214 x3_130 _ _ _ Z (lv_sub hl [0] rfl) h
                · refine zsp h (fun hs1_8 h => ?_) (fun hs1_8 h => ?_)
                  · refine lv_tableIn (tgt := 209) (off := 208) hx hb dX4_joined_1 (by rw [hs1_8]; decide) (by rw [hs1_8]; decide) (by first | (rw [hs1_8]; done) | (rw [hs1_8]; rfl)) (by decide) ?_
                    refine lv_iload_n hx hb dX4_joined_209 rfl (lv_at hl 1 rfl) ?_
                    refine lv_iload_n hx hb dX4_joined_210 rfl (lv_at hl 2 rfl) ?_
                    refine lv_ior hx hb dX4_joined_211 ?_
                    refine lv_i2l hx hb dX4_joined_212 rfl ?_
                    refine lv_topl (fun x3_213_4 ex3_213_4 => ?_)
                    replace h := lt_w h ex3_213_4
                    refine lv_lstore_n (lv' := [(3, .long x3_213_4), (0, .int x0), (1, .int x1), (2, .int x2)]) hx hb dX4_joined_213 rfl hl (by decide) rfl (fun ls hl => ?_)
                    exact hj214 x3_213_4 _ _ _ Z (lv_sub hl [0] rfl) h
                  · refine zsp h (fun hs1_9 h => ?_) (fun hs1_9 h => ?_)
                    · refine lv_tableIn (tgt := 143) (off := 142) hx hb dX4_joined_1 (by rw [hs1_9]; decide) (by rw [hs1_9]; decide) (by first | (rw [hs1_9]; done) | (rw [hs1_9]; rfl)) (by decide) ?_
                      refine lv_iload_n hx hb dX4_joined_143 rfl (lv_at hl 2 rfl) ?_
                      obtain ⟨j155, ej155, h⟩ := lt_x h
                      have hj155 : ∀ (y0_155 : Int64) (H : Heap) (locs : List Loc) (ls : Array Slot), zh D A0 σ GF 740 s.heap H locs → lv_has ls 5 [] → j155 y0_155 = some r0 → W p l e (zR 1 40) s m [.int x0, .int x1, .int x2].toArray below meth c H locs 0 0 (MQ below (zQi D A0 r0 σ GF 740) [.int x0, .int x1, .int x2].toArray s 0 0 (zA A0)) (F0 m 155 ls [.long y0_155]) := by
                        intro y0_155 H locs ls Z hl h
                        rw [ej155] at h
                        try dsimp only at h
                        refine lv_lstore_n (lv' := [(3, .long y0_155)]) hx hb dX4_joined_155 rfl hl (by decide) rfl (fun ls hl => ?_)
                        refine lv_goto (tgt := 214) hx hb dX4_joined_156 (by decide) ?_
                        exact hj214 y0_155 _ _ _ Z (lv_sub hl [0] rfl) h
                      refine zb_ifne (tgt := 151) hx hb dX4_joined_144 (by decide) h (fun h => ?_) (fun h => ?_)
                      · refine lv_iload_n hx hb dX4_joined_151 rfl (lv_at hl 1 rfl) ?_
                        refine lv_iload_n hx hb dX4_joined_152 rfl (lv_at hl 2 rfl) ?_
                        obtain ⟨hk153, h⟩ := ck_x h
                        refine lv_idiv hx hb dX4_joined_153 hk153 ?_
                        refine lv_i2l hx hb dX4_joined_154 rfl ?_
                        exact hj155 (Int32.toInt64 (x1 / x2)) _ _ _ Z (lv_sub hl [] rfl) h
                      · refine lv_lconst (v := 0) hx hb dX4_joined_147 (by decide) ?_
                        refine lv_goto (tgt := 155) hx hb dX4_joined_148 (by decide) ?_
                        exact hj155 0 _ _ _ Z (lv_sub hl [] rfl) h
                    · refine zsp h (fun hs1_10 h => ?_) (fun hs1_10 h => ?_)
                      · refine lv_tableIn (tgt := 209) (off := 208) hx hb dX4_joined_1 (by rw [hs1_10]; decide) (by rw [hs1_10]; decide) (by first | (rw [hs1_10]; done) | (rw [hs1_10]; rfl)) (by decide) ?_
                        refine lv_iload_n hx hb dX4_joined_209 rfl (lv_at hl 1 rfl) ?_
                        refine lv_iload_n hx hb dX4_joined_210 rfl (lv_at hl 2 rfl) ?_
                        refine lv_ior hx hb dX4_joined_211 ?_
                        refine lv_i2l hx hb dX4_joined_212 rfl ?_
                        refine lv_topl (fun x3_213_5 ex3_213_5 => ?_)
                        replace h := lt_w h ex3_213_5
                        refine lv_lstore_n (lv' := [(3, .long x3_213_5), (0, .int x0), (1, .int x1), (2, .int x2)]) hx hb dX4_joined_213 rfl hl (by decide) rfl (fun ls hl => ?_)
                        exact hj214 x3_213_5 _ _ _ Z (lv_sub hl [0] rfl) h
                      · refine zsp h (fun hs1_11 h => ?_) (fun hs1_11 h => ?_)
                        · refine lv_tableIn (tgt := 209) (off := 208) hx hb dX4_joined_1 (by rw [hs1_11]; decide) (by rw [hs1_11]; decide) (by first | (rw [hs1_11]; done) | (rw [hs1_11]; rfl)) (by decide) ?_
                          refine lv_iload_n hx hb dX4_joined_209 rfl (lv_at hl 1 rfl) ?_
                          refine lv_iload_n hx hb dX4_joined_210 rfl (lv_at hl 2 rfl) ?_
                          refine lv_ior hx hb dX4_joined_211 ?_
                          refine lv_i2l hx hb dX4_joined_212 rfl ?_
                          refine lv_topl (fun x3_213_6 ex3_213_6 => ?_)
                          replace h := lt_w h ex3_213_6
                          refine lv_lstore_n (lv' := [(3, .long x3_213_6), (0, .int x0), (1, .int x1), (2, .int x2)]) hx hb dX4_joined_213 rfl hl (by decide) rfl (fun ls hl => ?_)
                          exact hj214 x3_213_6 _ _ _ Z (lv_sub hl [0] rfl) h
                        · refine zsp h (fun hs1_12 h => ?_) (fun hs1_12 h => ?_)
                          · refine lv_tableIn (tgt := 209) (off := 208) hx hb dX4_joined_1 (by rw [hs1_12]; decide) (by rw [hs1_12]; decide) (by first | (rw [hs1_12]; done) | (rw [hs1_12]; rfl)) (by decide) ?_
                            refine lv_iload_n hx hb dX4_joined_209 rfl (lv_at hl 1 rfl) ?_
                            refine lv_iload_n hx hb dX4_joined_210 rfl (lv_at hl 2 rfl) ?_
                            refine lv_ior hx hb dX4_joined_211 ?_
                            refine lv_i2l hx hb dX4_joined_212 rfl ?_
                            refine lv_topl (fun x3_213_7 ex3_213_7 => ?_)
                            replace h := lt_w h ex3_213_7
                            refine lv_lstore_n (lv' := [(3, .long x3_213_7), (0, .int x0), (1, .int x1), (2, .int x2)]) hx hb dX4_joined_213 rfl hl (by decide) rfl (fun ls hl => ?_)
                            exact hj214 x3_213_7 _ _ _ Z (lv_sub hl [0] rfl) h
                          · refine zsp h (fun hs1_13 h => ?_) (fun hs1_13 h => ?_)
                            · refine lv_tableIn (tgt := 209) (off := 208) hx hb dX4_joined_1 (by rw [hs1_13]; decide) (by rw [hs1_13]; decide) (by first | (rw [hs1_13]; done) | (rw [hs1_13]; rfl)) (by decide) ?_
                              refine lv_iload_n hx hb dX4_joined_209 rfl (lv_at hl 1 rfl) ?_
                              refine lv_iload_n hx hb dX4_joined_210 rfl (lv_at hl 2 rfl) ?_
                              refine lv_ior hx hb dX4_joined_211 ?_
                              refine lv_i2l hx hb dX4_joined_212 rfl ?_
                              refine lv_topl (fun x3_213_8 ex3_213_8 => ?_)
                              replace h := lt_w h ex3_213_8
                              refine lv_lstore_n (lv' := [(3, .long x3_213_8), (0, .int x0), (1, .int x1), (2, .int x2)]) hx hb dX4_joined_213 rfl hl (by decide) rfl (fun ls hl => ?_)
                              exact hj214 x3_213_8 _ _ _ Z (lv_sub hl [0] rfl) h
                            · refine zsp h (fun hs1_14 h => ?_) (fun hs1_14 h => ?_)
                              · refine lv_tableIn (tgt := 209) (off := 208) hx hb dX4_joined_1 (by rw [hs1_14]; decide) (by rw [hs1_14]; decide) (by first | (rw [hs1_14]; done) | (rw [hs1_14]; rfl)) (by decide) ?_
                                refine lv_iload_n hx hb dX4_joined_209 rfl (lv_at hl 1 rfl) ?_
                                refine lv_iload_n hx hb dX4_joined_210 rfl (lv_at hl 2 rfl) ?_
                                refine lv_ior hx hb dX4_joined_211 ?_
                                refine lv_i2l hx hb dX4_joined_212 rfl ?_
                                refine lv_topl (fun x3_213_9 ex3_213_9 => ?_)
                                replace h := lt_w h ex3_213_9
                                refine lv_lstore_n (lv' := [(3, .long x3_213_9), (0, .int x0), (1, .int x1), (2, .int x2)]) hx hb dX4_joined_213 rfl hl (by decide) rfl (fun ls hl => ?_)
                                exact hj214 x3_213_9 _ _ _ Z (lv_sub hl [0] rfl) h
                              · refine zsp h (fun hs1_15 h => ?_) (fun hs1_15 h => ?_)
                                · refine lv_tableIn (tgt := 209) (off := 208) hx hb dX4_joined_1 (by rw [hs1_15]; decide) (by rw [hs1_15]; decide) (by first | (rw [hs1_15]; done) | (rw [hs1_15]; rfl)) (by decide) ?_
                                  refine lv_iload_n hx hb dX4_joined_209 rfl (lv_at hl 1 rfl) ?_
                                  refine lv_iload_n hx hb dX4_joined_210 rfl (lv_at hl 2 rfl) ?_
                                  refine lv_ior hx hb dX4_joined_211 ?_
                                  refine lv_i2l hx hb dX4_joined_212 rfl ?_
                                  refine lv_topl (fun x3_213_10 ex3_213_10 => ?_)
                                  replace h := lt_w h ex3_213_10
                                  refine lv_lstore_n (lv' := [(3, .long x3_213_10), (0, .int x0), (1, .int x1), (2, .int x2)]) hx hb dX4_joined_213 rfl hl (by decide) rfl (fun ls hl => ?_)
                                  exact hj214 x3_213_10 _ _ _ Z (lv_sub hl [0] rfl) h
                                · refine zsp h (fun hs1_16 h => ?_) (fun hs1_16 h => ?_)
                                  · refine lv_tableIn (tgt := 209) (off := 208) hx hb dX4_joined_1 (by rw [hs1_16]; decide) (by rw [hs1_16]; decide) (by first | (rw [hs1_16]; done) | (rw [hs1_16]; rfl)) (by decide) ?_
                                    refine lv_iload_n hx hb dX4_joined_209 rfl (lv_at hl 1 rfl) ?_
                                    refine lv_iload_n hx hb dX4_joined_210 rfl (lv_at hl 2 rfl) ?_
                                    refine lv_ior hx hb dX4_joined_211 ?_
                                    refine lv_i2l hx hb dX4_joined_212 rfl ?_
                                    refine lv_topl (fun x3_213_11 ex3_213_11 => ?_)
                                    replace h := lt_w h ex3_213_11
                                    refine lv_lstore_n (lv' := [(3, .long x3_213_11), (0, .int x0), (1, .int x1), (2, .int x2)]) hx hb dX4_joined_213 rfl hl (by decide) rfl (fun ls hl => ?_)
                                    exact hj214 x3_213_11 _ _ _ Z (lv_sub hl [0] rfl) h
                                  · refine zsp h (fun hs1_17 h => ?_) (fun hs1_17 h => ?_)
                                    · refine lv_tableIn (tgt := 209) (off := 208) hx hb dX4_joined_1 (by rw [hs1_17]; decide) (by rw [hs1_17]; decide) (by first | (rw [hs1_17]; done) | (rw [hs1_17]; rfl)) (by decide) ?_
                                      refine lv_iload_n hx hb dX4_joined_209 rfl (lv_at hl 1 rfl) ?_
                                      refine lv_iload_n hx hb dX4_joined_210 rfl (lv_at hl 2 rfl) ?_
                                      refine lv_ior hx hb dX4_joined_211 ?_
                                      refine lv_i2l hx hb dX4_joined_212 rfl ?_
                                      refine lv_topl (fun x3_213_12 ex3_213_12 => ?_)
                                      replace h := lt_w h ex3_213_12
                                      refine lv_lstore_n (lv' := [(3, .long x3_213_12), (0, .int x0), (1, .int x1), (2, .int x2)]) hx hb dX4_joined_213 rfl hl (by decide) rfl (fun ls hl => ?_)
                                      exact hj214 x3_213_12 _ _ _ Z (lv_sub hl [0] rfl) h
                                    · refine zsp h (fun hs1_18 h => ?_) (fun hs1_18 h => ?_)
                                      · refine lv_tableIn (tgt := 209) (off := 208) hx hb dX4_joined_1 (by rw [hs1_18]; decide) (by rw [hs1_18]; decide) (by first | (rw [hs1_18]; done) | (rw [hs1_18]; rfl)) (by decide) ?_
                                        refine lv_iload_n hx hb dX4_joined_209 rfl (lv_at hl 1 rfl) ?_
                                        refine lv_iload_n hx hb dX4_joined_210 rfl (lv_at hl 2 rfl) ?_
                                        refine lv_ior hx hb dX4_joined_211 ?_
                                        refine lv_i2l hx hb dX4_joined_212 rfl ?_
                                        refine lv_topl (fun x3_213_13 ex3_213_13 => ?_)
                                        replace h := lt_w h ex3_213_13
                                        refine lv_lstore_n (lv' := [(3, .long x3_213_13), (0, .int x0), (1, .int x1), (2, .int x2)]) hx hb dX4_joined_213 rfl hl (by decide) rfl (fun ls hl => ?_)
                                        exact hj214 x3_213_13 _ _ _ Z (lv_sub hl [0] rfl) h
                                      · refine zsp h (fun hs1_19 h => ?_) (fun hs1_19 h => ?_)
                                        · refine lv_tableIn (tgt := 209) (off := 208) hx hb dX4_joined_1 (by rw [hs1_19]; decide) (by rw [hs1_19]; decide) (by first | (rw [hs1_19]; done) | (rw [hs1_19]; rfl)) (by decide) ?_
                                          refine lv_iload_n hx hb dX4_joined_209 rfl (lv_at hl 1 rfl) ?_
                                          refine lv_iload_n hx hb dX4_joined_210 rfl (lv_at hl 2 rfl) ?_
                                          refine lv_ior hx hb dX4_joined_211 ?_
                                          refine lv_i2l hx hb dX4_joined_212 rfl ?_
                                          refine lv_topl (fun x3_213_14 ex3_213_14 => ?_)
                                          replace h := lt_w h ex3_213_14
                                          refine lv_lstore_n (lv' := [(3, .long x3_213_14), (0, .int x0), (1, .int x1), (2, .int x2)]) hx hb dX4_joined_213 rfl hl (by decide) rfl (fun ls hl => ?_)
                                          exact hj214 x3_213_14 _ _ _ Z (lv_sub hl [0] rfl) h
                                        · refine zsp h (fun hs1_20 h => ?_) (fun hs1_20 h => ?_)
                                          · refine lv_tableIn (tgt := 209) (off := 208) hx hb dX4_joined_1 (by rw [hs1_20]; decide) (by rw [hs1_20]; decide) (by first | (rw [hs1_20]; done) | (rw [hs1_20]; rfl)) (by decide) ?_
                                            refine lv_iload_n hx hb dX4_joined_209 rfl (lv_at hl 1 rfl) ?_
                                            refine lv_iload_n hx hb dX4_joined_210 rfl (lv_at hl 2 rfl) ?_
                                            refine lv_ior hx hb dX4_joined_211 ?_
                                            refine lv_i2l hx hb dX4_joined_212 rfl ?_
                                            refine lv_topl (fun x3_213_15 ex3_213_15 => ?_)
                                            replace h := lt_w h ex3_213_15
                                            refine lv_lstore_n (lv' := [(3, .long x3_213_15), (0, .int x0), (1, .int x1), (2, .int x2)]) hx hb dX4_joined_213 rfl hl (by decide) rfl (fun ls hl => ?_)
                                            exact hj214 x3_213_15 _ _ _ Z (lv_sub hl [0] rfl) h
                                          · refine zsp h (fun hs1_21 h => ?_) (fun hs1_21 h => ?_)
                                            · refine lv_tableIn (tgt := 209) (off := 208) hx hb dX4_joined_1 (by rw [hs1_21]; decide) (by rw [hs1_21]; decide) (by first | (rw [hs1_21]; done) | (rw [hs1_21]; rfl)) (by decide) ?_
                                              refine lv_iload_n hx hb dX4_joined_209 rfl (lv_at hl 1 rfl) ?_
                                              refine lv_iload_n hx hb dX4_joined_210 rfl (lv_at hl 2 rfl) ?_
                                              refine lv_ior hx hb dX4_joined_211 ?_
                                              refine lv_i2l hx hb dX4_joined_212 rfl ?_
                                              refine lv_topl (fun x3_213_16 ex3_213_16 => ?_)
                                              replace h := lt_w h ex3_213_16
                                              refine lv_lstore_n (lv' := [(3, .long x3_213_16), (0, .int x0), (1, .int x1), (2, .int x2)]) hx hb dX4_joined_213 rfl hl (by decide) rfl (fun ls hl => ?_)
                                              exact hj214 x3_213_16 _ _ _ Z (lv_sub hl [0] rfl) h
                                            · refine zsp h (fun hs1_22 h => ?_) (fun hs1_22 h => ?_)
                                              · refine lv_tableIn (tgt := 173) (off := 172) hx hb dX4_joined_1 (by rw [hs1_22]; decide) (by rw [hs1_22]; decide) (by first | (rw [hs1_22]; done) | (rw [hs1_22]; rfl)) (by decide) ?_
                                                refine lv_iload_n hx hb dX4_joined_173 rfl (lv_at hl 1 rfl) ?_
                                                refine lv_iload_n hx hb dX4_joined_174 rfl (lv_at hl 2 rfl) ?_
                                                obtain ⟨j183, ej183, h⟩ := lt_x h
                                                have hj183 : ∀ (y0_183 : Int64) (H : Heap) (locs : List Loc) (ls : Array Slot), zh D A0 σ GF 740 s.heap H locs → lv_has ls 5 [] → j183 y0_183 = some r0 → W p l e (zR 1 40) s m [.int x0, .int x1, .int x2].toArray below meth c H locs 0 0 (MQ below (zQi D A0 r0 σ GF 740) [.int x0, .int x1, .int x2].toArray s 0 0 (zA A0)) (F0 m 183 ls [.long y0_183]) := by
                                                  intro y0_183 H locs ls Z hl h
                                                  rw [ej183] at h
                                                  try dsimp only at h
                                                  refine lv_lstore_n (lv' := [(3, .long y0_183)]) hx hb dX4_joined_183 rfl hl (by decide) rfl (fun ls hl => ?_)
                                                  refine lv_goto (tgt := 214) hx hb dX4_joined_184 (by decide) ?_
                                                  exact hj214 y0_183 _ _ _ Z (lv_sub hl [0] rfl) h
                                                refine zb_icge (tgt := 182) hx hb dX4_joined_175 (by decide) h (fun h => ?_) (fun h => ?_)
                                                · refine lv_lconst (v := 0) hx hb dX4_joined_182 (by decide) ?_
                                                  exact hj183 0 _ _ _ Z (lv_sub hl [] rfl) h
                                                · refine lv_lconst (v := 1) hx hb dX4_joined_178 (by decide) ?_
                                                  refine lv_goto (tgt := 183) hx hb dX4_joined_179 (by decide) ?_
                                                  exact hj183 1 _ _ _ Z (lv_sub hl [] rfl) h
                                              · refine zsp h (fun hs1_23 h => ?_) (fun hs1_23 h => ?_)
                                                · refine lv_tableIn (tgt := 159) (off := 158) hx hb dX4_joined_1 (by rw [hs1_23]; decide) (by rw [hs1_23]; decide) (by first | (rw [hs1_23]; done) | (rw [hs1_23]; rfl)) (by decide) ?_
                                                  refine lv_iload_n hx hb dX4_joined_159 rfl (lv_at hl 1 rfl) ?_
                                                  refine lv_iload_n hx hb dX4_joined_160 rfl (lv_at hl 2 rfl) ?_
                                                  obtain ⟨j169, ej169, h⟩ := lt_x h
                                                  have hj169 : ∀ (y0_169 : Int64) (H : Heap) (locs : List Loc) (ls : Array Slot), zh D A0 σ GF 740 s.heap H locs → lv_has ls 5 [] → j169 y0_169 = some r0 → W p l e (zR 1 40) s m [.int x0, .int x1, .int x2].toArray below meth c H locs 0 0 (MQ below (zQi D A0 r0 σ GF 740) [.int x0, .int x1, .int x2].toArray s 0 0 (zA A0)) (F0 m 169 ls [.long y0_169]) := by
                                                    intro y0_169 H locs ls Z hl h
                                                    rw [ej169] at h
                                                    try dsimp only at h
                                                    refine lv_lstore_n (lv' := [(3, .long y0_169)]) hx hb dX4_joined_169 rfl hl (by decide) rfl (fun ls hl => ?_)
                                                    refine lv_goto (tgt := 214) hx hb dX4_joined_170 (by decide) ?_
                                                    exact hj214 y0_169 _ _ _ Z (lv_sub hl [0] rfl) h
                                                  refine zb_icne (tgt := 168) hx hb dX4_joined_161 (by decide) h (fun h => ?_) (fun h => ?_)
                                                  · refine lv_lconst (v := 0) hx hb dX4_joined_168 (by decide) ?_
                                                    exact hj169 0 _ _ _ Z (lv_sub hl [] rfl) h
                                                  · refine lv_lconst (v := 1) hx hb dX4_joined_164 (by decide) ?_
                                                    refine lv_goto (tgt := 169) hx hb dX4_joined_165 (by decide) ?_
                                                    exact hj169 1 _ _ _ Z (lv_sub hl [] rfl) h
                                                · refine zsp h (fun hs1_24 h => ?_) (fun hs1_24 h => ?_)
                                                  · refine lv_tableIn (tgt := 187) (off := 186) hx hb dX4_joined_1 (by rw [hs1_24]; decide) (by rw [hs1_24]; decide) (by first | (rw [hs1_24]; done) | (rw [hs1_24]; rfl)) (by decide) ?_
                                                    refine lv_iload_n hx hb dX4_joined_187 rfl (lv_at hl 1 rfl) ?_
                                                    refine lv_iload_n hx hb dX4_joined_188 rfl (lv_at hl 2 rfl) ?_
                                                    obtain ⟨j197, ej197, h⟩ := lt_x h
                                                    have hj197 : ∀ (y0_197 : Int64) (H : Heap) (locs : List Loc) (ls : Array Slot), zh D A0 σ GF 740 s.heap H locs → lv_has ls 5 [] → j197 y0_197 = some r0 → W p l e (zR 1 40) s m [.int x0, .int x1, .int x2].toArray below meth c H locs 0 0 (MQ below (zQi D A0 r0 σ GF 740) [.int x0, .int x1, .int x2].toArray s 0 0 (zA A0)) (F0 m 197 ls [.long y0_197]) := by
                                                      intro y0_197 H locs ls Z hl h
                                                      rw [ej197] at h
                                                      try dsimp only at h
                                                      refine lv_lstore_n (lv' := [(3, .long y0_197)]) hx hb dX4_joined_197 rfl hl (by decide) rfl (fun ls hl => ?_)
                                                      refine lv_goto (tgt := 214) hx hb dX4_joined_198 (by decide) ?_
                                                      exact hj214 y0_197 _ _ _ Z (lv_sub hl [0] rfl) h
                                                    refine zb_icle (tgt := 196) hx hb dX4_joined_189 (by decide) h (fun h => ?_) (fun h => ?_)
                                                    · refine lv_lconst (v := 0) hx hb dX4_joined_196 (by decide) ?_
                                                      exact hj197 0 _ _ _ Z (lv_sub hl [] rfl) h
                                                    · refine lv_lconst (v := 1) hx hb dX4_joined_192 (by decide) ?_
                                                      refine lv_goto (tgt := 197) hx hb dX4_joined_193 (by decide) ?_
                                                      exact hj197 1 _ _ _ Z (lv_sub hl [] rfl) h
                                                  · refine lv_tableOut (tgt := 209) hx hb dX4_joined_1 (by have n0 := lv_neT hs1_0 (a := 38) (by decide); have n1 := lv_neT hs1_1 (a := 39) (by decide); have n2 := lv_neT hs1_2 (a := 40) (by decide); have n3 := lv_neT hs1_3 (a := 41) (by decide); have n4 := lv_neT hs1_4 (a := 42) (by decide); have n5 := lv_neT hs1_5 (a := 43) (by decide); have n6 := lv_neT hs1_6 (a := 44) (by decide); have n7 := lv_neT hs1_7 (a := 45) (by decide); have n8 := lv_neT hs1_8 (a := 46) (by decide); have n9 := lv_neT hs1_9 (a := 47) (by decide); have n10 := lv_neT hs1_10 (a := 48) (by decide); have n11 := lv_neT hs1_11 (a := 49) (by decide); have n12 := lv_neT hs1_12 (a := 50) (by decide); have n13 := lv_neT hs1_13 (a := 51) (by decide); have n14 := lv_neT hs1_14 (a := 52) (by decide); have n15 := lv_neT hs1_15 (a := 53) (by decide); have n16 := lv_neT hs1_16 (a := 54) (by decide); have n17 := lv_neT hs1_17 (a := 55) (by decide); have n18 := lv_neT hs1_18 (a := 56) (by decide); have n19 := lv_neT hs1_19 (a := 57) (by decide); have n20 := lv_neT hs1_20 (a := 58) (by decide); have n21 := lv_neT hs1_21 (a := 59) (by decide); have n22 := lv_neT hs1_22 (a := 60) (by decide); have n23 := lv_neT hs1_23 (a := 61) (by decide); have n24 := lv_neT hs1_24 (a := 62) (by decide); omega) (by decide) ?_
                                                    refine lv_iload_n hx hb dX4_joined_209 rfl (lv_at hl 1 rfl) ?_
                                                    refine lv_iload_n hx hb dX4_joined_210 rfl (lv_at hl 2 rfl) ?_
                                                    refine lv_ior hx hb dX4_joined_211 ?_
                                                    refine lv_i2l hx hb dX4_joined_212 rfl ?_
                                                    refine lv_topl (fun x3_213_17 ex3_213_17 => ?_)
                                                    replace h := lt_w h ex3_213_17
                                                    refine lv_lstore_n (lv' := [(3, .long x3_213_17), (0, .int x0), (1, .int x1), (2, .int x2)]) hx hb dX4_joined_213 rfl hl (by decide) rfl (fun ls hl => ?_)
                                                    exact hj214 x3_213_17 _ _ _ Z (lv_sub hl [0] rfl) h
set_option maxHeartbeats 4000000 in
set_option maxRecDepth 100000 in
theorem zcX4_worth (l : Launch) (D : va_G) (A0 : Nat) (q0 : Nat) (hq0 : zIsR q0) (σ : Mm) (r0 : Int32) (σr : Mm) (h : zfX4_worth q0 σ = some (r0, σr)) : Met l yX4_worth (zws yX4_worth cX4_worth 6 (some .int)) (zR 2 64) (zPc D A0 σ GF 740 [.ref (A0 + q0), .ref (A0 + 42)]) (zQi D A0 r0 σr GF 740) 0 0 (zA A0) := by
  unfold zfX4_worth at h
  refine zmet (own := RX4) (by decide) rfl (Nat.le_of_ble_eq_true rfl) ?_
  intro p e s m below meth c F hr hlocks _ Z ls hl
  have hl : lv_has ls 6 [(0, .ref (A0 + q0)), (1, .ref (A0 + 42))] := hl
  have hx := F.1.1
  have hb := F.1.2.1
  have hown := F.1.2.2.2.1
  have hts := F.1.2.2.2.2
  refine lv_iconst (v := 0) hx hb dX4_worth_0 (by decide) ?_
  refine lv_istore_n (lv' := [(2, .int 0), (0, .ref (A0 + q0)), (1, .ref (A0 + 42))]) hx hb dX4_worth_1 rfl hl (by decide) rfl (fun ls hl => ?_)
  refine lv_iconst (v := 0) hx hb dX4_worth_2 (by decide) ?_
  refine lv_istore_n (lv' := [(3, .int 0), (2, .int 0), (0, .ref (A0 + q0)), (1, .ref (A0 + 42))]) hx hb dX4_worth_3 rfl hl (by decide) rfl (fun ls hl => ?_)
  obtain ⟨k61, ek61, h⟩ := lt_x h
  have hk61 : ∀ (σ61 : Mm) (H : Heap) (locs : List Loc) (ls : Array Slot), zh D A0 σ61 GF 740 s.heap H locs → lv_has ls 6 [] → k61 σ61 = some (r0, σr) → W p l e (zR 2 64) s m [.ref (A0 + q0), .ref (A0 + 42)].toArray below meth c H locs 0 0 (MQ below (zQi D A0 r0 σr GF 740) [.ref (A0 + q0), .ref (A0 + 42)].toArray s 0 0 (zA A0)) (F0 m 61 ls []) := by
    intro  σ61 H locs ls Z hl h
    rw [ek61] at h
    try dsimp only at h
    refine lv_iconst (v := 0) hx hb dX4_worth_61 (by decide) ?_
    obtain ⟨hq1, hq2⟩ := zpq h
    exact ze_i F Z hr hlocks hq1 hq2 dX4_worth_62
  obtain ⟨k115, ek115, h⟩ := lt_x h
  have hk115 : ∀ (σ115 : Mm) (H : Heap) (locs : List Loc) (ls : Array Slot), zh D A0 σ115 GF 740 s.heap H locs → lv_has ls 6 [] → k115 σ115 = some (r0, σr) → W p l e (zR 2 64) s m [.ref (A0 + q0), .ref (A0 + 42)].toArray below meth c H locs 0 0 (MQ below (zQi D A0 r0 σr GF 740) [.ref (A0 + q0), .ref (A0 + 42)].toArray s 0 0 (zA A0)) (F0 m 115 ls []) := by
    intro  σ115 H locs ls Z hl h
    rw [ek115] at h
    try dsimp only at h
    refine lv_iconst (v := 0) hx hb dX4_worth_115 (by decide) ?_
    obtain ⟨hq1, hq2⟩ := zpq h
    exact ze_i F Z hr hlocks hq1 hq2 dX4_worth_116
  obtain ⟨k124, ek124, h⟩ := lt_x h
  have hk124 : ∀ (x2_124 : Int32) (σ124 : Mm) (H : Heap) (locs : List Loc) (ls : Array Slot), zh D A0 σ124 GF 740 s.heap H locs → lv_has ls 6 [(0, .ref (A0 + q0)), (2, .int x2_124)] → k124 x2_124 σ124 = some (r0, σr) → W p l e (zR 2 64) s m [.ref (A0 + q0), .ref (A0 + 42)].toArray below meth c H locs 0 0 (MQ below (zQi D A0 r0 σr GF 740) [.ref (A0 + q0), .ref (A0 + 42)].toArray s 0 0 (zA A0)) (F0 m 124 ls []) := by
    intro x2_124 σ124 H locs ls Z hl h
    rw [ek124] at h
    try dsimp only at h
    refine lv_aload_n hx hb dX4_worth_124 rfl (lv_at hl 0 rfl) ?_
    refine zw_getR F Z zC4 (a := q0) (k := 1) (zltR_0 hq0) (zsR_0 hq0) (by decide) rfl (zgR_1 hq0) zq202 (Or.inl rfl) dX4_worth_125 ?_
    refine lv_iload_n hx hb dX4_worth_128 rfl (lv_at hl 1 rfl) ?_
    refine lv_iconst (v := 1) hx hb dX4_worth_129 (by decide) ?_
    refine lv_isub hx hb dX4_worth_130 ?_
    obtain ⟨hk131, h⟩ := ck_x h
    refine zw_iald F Z (zltR_2 hq0) (zsR_2 hq0) hk131 dX4_worth_131 ?_
    obtain ⟨hq1, hq2⟩ := zpq h
    exact ze_i F Z hr hlocks hq1 hq2 dX4_worth_132
  obtain ⟨k244, ek244, h⟩ := lt_x h
  have hk244 : ∀ (σ244 : Mm) (H : Heap) (locs : List Loc) (ls : Array Slot), zh D A0 σ244 GF 740 s.heap H locs → lv_has ls 6 [] → k244 σ244 = some (r0, σr) → W p l e (zR 2 64) s m [.ref (A0 + q0), .ref (A0 + 42)].toArray below meth c H locs 0 0 (MQ below (zQi D A0 r0 σr GF 740) [.ref (A0 + q0), .ref (A0 + 42)].toArray s 0 0 (zA A0)) (F0 m 244 ls []) := by
    intro  σ244 H locs ls Z hl h
    rw [ek244] at h
    try dsimp only at h
    refine lv_iconst (v := 0) hx hb dX4_worth_244 (by decide) ?_
    obtain ⟨hq1, hq2⟩ := zpq h
    exact ze_i F Z hr hlocks hq1 hq2 dX4_worth_245
  have hL4 : ∀ (fu4 : Nat) (x2_4 : Int32) (x3_4 : Int32) (σ4 : Mm) (H : Heap) (locs : List Loc) (ls : Array Slot), zh D A0 σ4 GF 740 s.heap H locs → lv_has ls 6 [(0, .ref (A0 + q0)), (1, .ref (A0 + 42)), (2, .int x2_4), (3, .int x3_4)] → zfX4_worth_L4 q0 k244 k115 k124 k61 fu4 x2_4 x3_4 σ4 = some (r0, σr) → W p l e (zR 2 64) s m [.ref (A0 + q0), .ref (A0 + 42)].toArray below meth c H locs 0 0 (MQ below (zQi D A0 r0 σr GF 740) [.ref (A0 + q0), .ref (A0 + 42)].toArray s 0 0 (zA A0)) (F0 m 4 ls []) := by
    intro fu4
    induction fu4 with
    | zero => intro x2_4 x3_4 σ4 H locs ls Z hl h; rw [zfX4_worth_L4] at h; cases h
    | succ fu4 ih4 =>
      intro x2_4 x3_4 σ4 H locs ls Z hl h
      rw [zfX4_worth_L4] at h
      refine lv_iload_n hx hb dX4_worth_4 rfl (lv_at hl 3 rfl) ?_
      refine lv_aload_n hx hb dX4_worth_5 rfl (lv_at hl 0 rfl) ?_
      refine zw_getI F Z zC4 (a := q0) (k := 2) (zltR_0 hq0) (zsR_0 hq0) (by decide) rfl zq203 (Or.inl rfl) dX4_worth_6 ?_
      refine zb_icge (tgt := 244) hx hb dX4_worth_9 (by decide) h (fun h => ?_) (fun h => ?_)
      · exact hk244 σ4 _ _ _ Z (lv_sub hl [] rfl) h
      · refine lv_iload_n hx hb dX4_worth_12 rfl (lv_at hl 3 rfl) ?_
        refine lv_aload_n hx hb dX4_worth_13 rfl (lv_at hl 0 rfl) ?_
        refine zw_getR F Z zC4 (a := q0) (k := 0) (zltR_0 hq0) (zsR_0 hq0) (by decide) rfl (zgR_0 hq0) zq201 (Or.inl rfl) dX4_worth_14 ?_
        refine zw_alen F Z (ty := 0) (v := 320) (zltR_1 hq0) (zsR_1 hq0) rfl rfl dX4_worth_17 ?_
        refine zb_icge (tgt := 244) hx hb dX4_worth_18 (by decide) h (fun h => ?_) (fun h => ?_)
        · exact hk244 σ4 _ _ _ Z (lv_sub hl [] rfl) h
        · refine lv_aload_n hx hb dX4_worth_21 rfl (lv_at hl 0 rfl) ?_
          refine zw_getR F Z zC4 (a := q0) (k := 0) (zltR_0 hq0) (zsR_0 hq0) (by decide) rfl (zgR_0 hq0) zq201 (Or.inl rfl) dX4_worth_22 ?_
          refine lv_iload_n hx hb dX4_worth_25 rfl (lv_at hl 3 rfl) ?_
          obtain ⟨hk26, h⟩ := ck_x h
          refine zw_iald F Z (zltR_1 hq0) (zsR_1 hq0) hk26 dX4_worth_26 ?_
          refine lv_topi (fun x4_27 ex4_27 => ?_)
          replace h := lt_w h ex4_27
          refine lv_istore (lv' := [(4, .int x4_27), (0, .ref (A0 + q0)), (1, .ref (A0 + 42)), (2, .int x2_4), (3, .int x3_4)]) hx hb dX4_worth_27 hl (by decide) rfl (fun ls hl => ?_)
          refine lv_iload hx hb dX4_worth_29 (lv_at hl 0 rfl) ?_
          refine lv_sipush (v := 20000) hx hb dX4_worth_31 (by decide) ?_
          obtain ⟨j238, ej238, h⟩ := lt_x h
          have hj238 : ∀ (x2_238 : Int32) (x3_238 : Int32) (σ238 : Mm) (H : Heap) (locs : List Loc) (ls : Array Slot), zh D A0 σ238 GF 740 s.heap H locs → lv_has ls 6 [(0, .ref (A0 + q0)), (1, .ref (A0 + 42)), (2, .int x2_238), (3, .int x3_238)] → j238 x2_238 x3_238 σ238 = some (r0, σr) → W p l e (zR 2 64) s m [.ref (A0 + q0), .ref (A0 + 42)].toArray below meth c H locs 0 0 (MQ below (zQi D A0 r0 σr GF 740) [.ref (A0 + q0), .ref (A0 + 42)].toArray s 0 0 (zA A0)) (F0 m 238 ls []) := by
            intro x2_238 x3_238 σ238 H locs ls Z hl h
            rw [ej238] at h
            try dsimp only at h
            obtain ⟨x3_238_1, ex3_238_1⟩ : ∃ y : Int32, y = x3_238 + 1 := ⟨_, rfl⟩
            replace h := lt_w h ex3_238_1
            refine lv_iinc (v := x3_238_1) (lv' := [(3, .int x3_238_1), (0, .ref (A0 + q0)), (1, .ref (A0 + 42)), (2, .int x2_238)]) hx hb dX4_worth_238 hl (k := 3) rfl (by rw [ex3_238_1]; rfl) (by decide) rfl (fun ls hl => ?_)
            refine lv_goto (tgt := 4) hx hb dX4_worth_241 (by decide) ?_
            exact ih4 x2_238 x3_238_1 σ238 _ _ _ Z (lv_sub hl [1, 2, 3, 0] rfl) h
          refine zb_icge (tgt := 89) hx hb dX4_worth_34 (by decide) h (fun h => ?_) (fun h => ?_)
          · refine lv_iload hx hb dX4_worth_89 (lv_at hl 0 rfl) ?_
            refine lv_sipush (v := 20000) hx hb dX4_worth_91 (by decide) ?_
            refine lv_isub hx hb dX4_worth_94 ?_
            refine lv_topi (fun x5_95 ex5_95 => ?_)
            replace h := lt_w h ex5_95
            refine lv_istore (lv' := [(5, .int x5_95), (4, .int x4_27), (0, .ref (A0 + q0)), (1, .ref (A0 + 42)), (2, .int x2_4), (3, .int x3_4)]) hx hb dX4_worth_95 hl (by decide) rfl (fun ls hl => ?_)
            refine lv_iload_n hx hb dX4_worth_97 rfl (lv_at hl 4 rfl) ?_
            refine lv_iconst (v := 1) hx hb dX4_worth_98 (by decide) ?_
            refine zb_iclt (tgt := 115) hx hb dX4_worth_99 (by decide) h (fun h => ?_) (fun h => ?_)
            · exact hk115 σ4 _ _ _ Z (lv_sub hl [] rfl) h
            · refine lv_iload_n hx hb dX4_worth_102 rfl (lv_at hl 4 rfl) ?_
              refine lv_iconst (v := 2) hx hb dX4_worth_103 (by decide) ?_
              obtain ⟨j117, ej117, h⟩ := lt_x h
              have hj117 : ∀ (σ117 : Mm) (H : Heap) (locs : List Loc) (ls : Array Slot), zh D A0 σ117 GF 740 s.heap H locs → lv_has ls 6 [(0, .ref (A0 + q0)), (1, .ref (A0 + 42)), (2, .int x2_4), (3, .int x3_4), (5, .int x5_95)] → j117 σ117 = some (r0, σr) → W p l e (zR 2 64) s m [.ref (A0 + q0), .ref (A0 + 42)].toArray below meth c H locs 0 0 (MQ below (zQi D A0 r0 σr GF 740) [.ref (A0 + q0), .ref (A0 + 42)].toArray s 0 0 (zA A0)) (F0 m 117 ls []) := by
                intro  σ117 H locs ls Z hl h
                rw [ej117] at h
                try dsimp only at h
                refine lv_iload hx hb dX4_worth_117 (lv_at hl 4 rfl) ?_
                refine lv_bipush (v := 59) hx hb dX4_worth_119 (by decide) ?_
                refine zb_icne (tgt := 133) hx hb dX4_worth_121 (by decide) h (fun h => ?_) (fun h => ?_)
                · refine lv_iload hx hb dX4_worth_133 (lv_at hl 4 rfl) ?_
                  refine lv_bipush (v := 33) hx hb dX4_worth_135 (by decide) ?_
                  refine zb_icne (tgt := 161) hx hb dX4_worth_137 (by decide) h (fun h => ?_) (fun h => ?_)
                  · refine lv_iload hx hb dX4_worth_161 (lv_at hl 4 rfl) ?_
                    refine lv_bipush (v := 63) hx hb dX4_worth_163 (by decide) ?_
                    refine zb_icne (tgt := 208) hx hb dX4_worth_165 (by decide) h (fun h => ?_) (fun h => ?_)
                    · obtain ⟨x2_208, ex2_208⟩ : ∃ y : Int32, y = x2_4 + (-1) := ⟨_, rfl⟩
                      replace h := lt_w h ex2_208
                      refine lv_iinc (v := x2_208) (lv' := [(2, .int x2_208), (0, .ref (A0 + q0)), (1, .ref (A0 + 42)), (3, .int x3_4), (5, .int x5_95)]) hx hb dX4_worth_208 hl (k := 2) rfl (by rw [ex2_208]; rfl) (by decide) rfl (fun ls hl => ?_)
                      refine lv_aload_n hx hb dX4_worth_211 rfl (lv_at hl 1 rfl) ?_
                      refine zw_getR F Z zC4 (a := q0) (k := 1) (zltR_0 hq0) (zsR_0 hq0) (by decide) rfl (zgR_1 hq0) zq202 (Or.inl rfl) dX4_worth_212 ?_
                      refine lv_iload_n hx hb dX4_worth_215 rfl (lv_at hl 0 rfl) ?_
                      refine lv_iconst (v := 1) hx hb dX4_worth_216 (by decide) ?_
                      refine lv_isub hx hb dX4_worth_217 ?_
                      refine lv_iload hx hb dX4_worth_218 (lv_at hl 4 rfl) ?_
                      refine lv_aload_n hx hb dX4_worth_220 rfl (lv_at hl 1 rfl) ?_
                      refine zw_getR F Z zC4 (a := q0) (k := 1) (zltR_0 hq0) (zsR_0 hq0) (by decide) rfl (zgR_1 hq0) zq202 (Or.inl rfl) dX4_worth_221 ?_
                      refine lv_iload_n hx hb dX4_worth_224 rfl (lv_at hl 0 rfl) ?_
                      refine lv_iconst (v := 1) hx hb dX4_worth_225 (by decide) ?_
                      refine lv_isub hx hb dX4_worth_226 ?_
                      obtain ⟨hk227, h⟩ := ck_x h
                      refine zw_iald F Z (zltR_2 hq0) (zsR_2 hq0) hk227 dX4_worth_227 ?_
                      refine lv_aload_n hx hb dX4_worth_228 rfl (lv_at hl 1 rfl) ?_
                      refine zw_getR F Z zC4 (a := q0) (k := 1) (zltR_0 hq0) (zsR_0 hq0) (by decide) rfl (zgR_1 hq0) zq202 (Or.inl rfl) dX4_worth_229 ?_
                      refine lv_iload_n hx hb dX4_worth_232 rfl (lv_at hl 0 rfl) ?_
                      obtain ⟨hk233, h⟩ := ck_x h
                      refine zw_iald F Z (zltR_2 hq0) (zsR_2 hq0) hk233 dX4_worth_233 ?_
                      obtain ⟨r234, hc234, h⟩ := bd_x h
                      refine zc_i Z (zr_S F Z (As := [.int x5_95, .int (σ117 (q0 + 2) (ix (x2_208 - 1))), .int (σ117 (q0 + 2) (ix x2_208))]) (zcX4_joined l D A0 x5_95 (σ117 (q0 + 2) (ix (x2_208 - 1))) (σ117 (q0 + 2) (ix x2_208)) σ117 r234 hc234) zBX4_joined zq895 rfl ⟨⟨rfl, rfl⟩, Nat.le_of_ble_eq_true rfl, Nat.le_of_ble_eq_true rfl⟩ hl.1 rfl (Nat.le_of_ble_eq_true rfl) dX4_worth_234 ⟨Nat.le_of_ble_eq_true rfl, Nat.le_of_ble_eq_true rfl⟩) (fun _ _ Z => ?_)
                      obtain ⟨hk237, h⟩ := ck_x h
                      refine zw_iast F Z (zltR_2 hq0) (zsR_2 hq0) hk237 dX4_worth_237 (fun σ237 _ _ eσ237 Z => ?_)
                      replace h := lt_w h eσ237
                      exact hj238 x2_208 x3_4 σ237 _ _ _ Z (lv_sub hl [1, 2, 0, 3] rfl) h
                    · obtain ⟨x2_168, ex2_168⟩ : ∃ y : Int32, y = x2_4 + (-1) := ⟨_, rfl⟩
                      replace h := lt_w h ex2_168
                      refine lv_iinc (v := x2_168) (lv' := [(2, .int x2_168), (0, .ref (A0 + q0)), (1, .ref (A0 + 42)), (3, .int x3_4), (5, .int x5_95)]) hx hb dX4_worth_168 hl (k := 2) rfl (by rw [ex2_168]; rfl) (by decide) rfl (fun ls hl => ?_)
                      obtain ⟨x3_171, ex3_171⟩ : ∃ y : Int32, y = x3_4 + 1 := ⟨_, rfl⟩
                      replace h := lt_w h ex3_171
                      refine lv_iinc (v := x3_171) (lv' := [(3, .int x3_171), (2, .int x2_168), (0, .ref (A0 + q0)), (1, .ref (A0 + 42)), (5, .int x5_95)]) hx hb dX4_worth_171 hl (k := 3) rfl (by rw [ex3_171]; rfl) (by decide) rfl (fun ls hl => ?_)
                      refine lv_aload_n hx hb dX4_worth_174 rfl (lv_at hl 2 rfl) ?_
                      refine zw_getR F Z zC4 (a := q0) (k := 1) (zltR_0 hq0) (zsR_0 hq0) (by decide) rfl (zgR_1 hq0) zq202 (Or.inl rfl) dX4_worth_175 ?_
                      refine lv_iload_n hx hb dX4_worth_178 rfl (lv_at hl 1 rfl) ?_
                      obtain ⟨hk179, h⟩ := ck_x h
                      refine zw_iald F Z (zltR_2 hq0) (zsR_2 hq0) hk179 dX4_worth_179 ?_
                      refine zb_ifne (tgt := 238) hx hb dX4_worth_180 (by decide) h (fun h => ?_) (fun h => ?_)
                      · exact hj238 x2_168 x3_171 σ117 _ _ _ Z (lv_sub hl [2, 3, 1, 0] rfl) h
                      · refine lv_iload_n hx hb dX4_worth_183 rfl (lv_at hl 0 rfl) ?_
                        refine lv_aload_n hx hb dX4_worth_184 rfl (lv_at hl 2 rfl) ?_
                        refine zw_getR F Z zC4 (a := q0) (k := 0) (zltR_0 hq0) (zsR_0 hq0) (by decide) rfl (zgR_0 hq0) zq201 (Or.inl rfl) dX4_worth_185 ?_
                        refine zw_alen F Z (ty := 0) (v := 320) (zltR_1 hq0) (zsR_1 hq0) rfl rfl dX4_worth_188 ?_
                        refine zb_icge (tgt := 238) hx hb dX4_worth_189 (by decide) h (fun h => ?_) (fun h => ?_)
                        · exact hj238 x2_168 x3_171 σ117 _ _ _ Z (lv_sub hl [2, 3, 1, 0] rfl) h
                        · refine lv_iload_n hx hb dX4_worth_192 rfl (lv_at hl 0 rfl) ?_
                          refine lv_aload_n hx hb dX4_worth_193 rfl (lv_at hl 2 rfl) ?_
                          refine zw_getR F Z zC4 (a := q0) (k := 0) (zltR_0 hq0) (zsR_0 hq0) (by decide) rfl (zgR_0 hq0) zq201 (Or.inl rfl) dX4_worth_194 ?_
                          refine lv_iload_n hx hb dX4_worth_197 rfl (lv_at hl 0 rfl) ?_
                          obtain ⟨hk198, h⟩ := ck_x h
                          refine zw_iald F Z (zltR_1 hq0) (zsR_1 hq0) hk198 dX4_worth_198 ?_
                          refine lv_iconst (v := 1) hx hb dX4_worth_199 (by decide) ?_
                          refine lv_isub hx hb dX4_worth_200 ?_
                          refine zw_zmax F hl.1 zq894 (Nat.le_of_ble_eq_true rfl) (Nat.le_of_ble_eq_true rfl) (Nat.le_of_ble_eq_true rfl) (Nat.le_of_ble_eq_true rfl) dX4_worth_201 ?_
                          refine lv_topi (fun x3_204 ex3_204 => ?_)
                          replace h := lt_w h ex3_204
                          refine lv_istore_n (lv' := [(3, .int x3_204), (2, .int x2_168), (0, .ref (A0 + q0)), (1, .ref (A0 + 42)), (5, .int x5_95)]) hx hb dX4_worth_204 rfl hl (by decide) rfl (fun ls hl => ?_)
                          refine lv_goto (tgt := 238) hx hb dX4_worth_205 (by decide) ?_
                          exact hj238 x2_168 x3_204 σ117 _ _ _ Z (lv_sub hl [2, 3, 1, 0] rfl) h
                  · refine lv_aload_n hx hb dX4_worth_140 rfl (lv_at hl 0 rfl) ?_
                    refine zw_getR F Z zC4 (a := q0) (k := 1) (zltR_0 hq0) (zsR_0 hq0) (by decide) rfl (zgR_1 hq0) zq202 (Or.inl rfl) dX4_worth_141 ?_
                    refine lv_iload_n hx hb dX4_worth_144 rfl (lv_at hl 2 rfl) ?_
                    refine lv_iconst (v := 1) hx hb dX4_worth_145 (by decide) ?_
                    refine lv_isub hx hb dX4_worth_146 ?_
                    refine lv_iconst (v := 1) hx hb dX4_worth_147 (by decide) ?_
                    refine lv_aload_n hx hb dX4_worth_148 rfl (lv_at hl 0 rfl) ?_
                    refine zw_getR F Z zC4 (a := q0) (k := 1) (zltR_0 hq0) (zsR_0 hq0) (by decide) rfl (zgR_1 hq0) zq202 (Or.inl rfl) dX4_worth_149 ?_
                    refine lv_iload_n hx hb dX4_worth_152 rfl (lv_at hl 2 rfl) ?_
                    refine lv_iconst (v := 1) hx hb dX4_worth_153 (by decide) ?_
                    refine lv_isub hx hb dX4_worth_154 ?_
                    obtain ⟨hk155, h⟩ := ck_x h
                    refine zw_iald F Z (zltR_2 hq0) (zsR_2 hq0) hk155 dX4_worth_155 ?_
                    refine lv_isub hx hb dX4_worth_156 ?_
                    obtain ⟨hk157, h⟩ := ck_x h
                    refine zw_iast F Z (zltR_2 hq0) (zsR_2 hq0) hk157 dX4_worth_157 (fun σ157 _ _ eσ157 Z => ?_)
                    replace h := lt_w h eσ157
                    refine lv_goto (tgt := 238) hx hb dX4_worth_158 (by decide) ?_
                    exact hj238 x2_4 x3_4 σ157 _ _ _ Z (lv_sub hl [0, 1, 2, 3] rfl) h
                · exact hk124 x2_4 σ117 _ _ _ Z (lv_sub hl [0, 2] rfl) h
              refine zb_icge (tgt := 117) hx hb dX4_worth_104 (by decide) h (fun h => ?_) (fun h => ?_)
              · exact hj117 σ4 _ _ _ Z (lv_sub hl [2, 3, 4, 5, 0] rfl) h
              · refine lv_iload hx hb dX4_worth_107 (lv_at hl 0 rfl) ?_
                refine zc_i Z (zr_S F Z (As := [.int x5_95]) (zcX4_isBetweenTwo l D A0 x5_95 σ4 (zfX4_isBetweenTwo x5_95) rfl) zBX4_isBetweenTwo zq891 rfl ⟨⟨rfl, rfl⟩, Nat.le_of_ble_eq_true rfl, Nat.le_of_ble_eq_true rfl⟩ hl.1 rfl (Nat.le_of_ble_eq_true rfl) dX4_worth_109 ⟨Nat.le_of_ble_eq_true rfl, Nat.le_of_ble_eq_true rfl⟩) (fun _ _ Z => ?_)
                refine zb_ifeq (tgt := 117) hx hb dX4_worth_112 (by decide) h (fun h => ?_) (fun h => ?_)
                · exact hj117 σ4 _ _ _ Z (lv_sub hl [2, 3, 4, 5, 0] rfl) h
                · exact hk115 σ4 _ _ _ Z (lv_sub hl [] rfl) h
          · refine lv_iload hx hb dX4_worth_37 (lv_at hl 0 rfl) ?_
            refine lv_sipush (v := 10000) hx hb dX4_worth_39 (by decide) ?_
            refine lv_isub hx hb dX4_worth_42 ?_
            refine lv_topi (fun x5_43 ex5_43 => ?_)
            replace h := lt_w h ex5_43
            refine lv_istore (lv' := [(5, .int x5_43), (4, .int x4_27), (0, .ref (A0 + q0)), (1, .ref (A0 + 42)), (2, .int x2_4), (3, .int x3_4)]) hx hb dX4_worth_43 hl (by decide) rfl (fun ls hl => ?_)
            refine lv_iload_n hx hb dX4_worth_45 rfl (lv_at hl 4 rfl) ?_
            refine lv_aload_n hx hb dX4_worth_46 rfl (lv_at hl 2 rfl) ?_
            refine zw_getR F Z zC4 (a := q0) (k := 1) (zltR_0 hq0) (zsR_0 hq0) (by decide) rfl (zgR_1 hq0) zq202 (Or.inl rfl) dX4_worth_47 ?_
            refine zw_alen F Z (ty := 0) (v := 160) (zltR_2 hq0) (zsR_2 hq0) rfl rfl dX4_worth_50 ?_
            refine zb_icge (tgt := 61) hx hb dX4_worth_51 (by decide) h (fun h => ?_) (fun h => ?_)
            · exact hk61 σ4 _ _ _ Z (lv_sub hl [] rfl) h
            · refine lv_iload hx hb dX4_worth_54 (lv_at hl 0 rfl) ?_
              refine lv_aload_n hx hb dX4_worth_56 rfl (lv_at hl 3 rfl) ?_
              refine zw_alen F Z (ty := 0) (v := 6) (by decide) zs_42 rfl rfl dX4_worth_57 ?_
              refine zb_iclt (tgt := 63) hx hb dX4_worth_58 (by decide) h (fun h => ?_) (fun h => ?_)
              · refine lv_aload_n hx hb dX4_worth_63 rfl (lv_at hl 2 rfl) ?_
                refine zw_getR F Z zC4 (a := q0) (k := 1) (zltR_0 hq0) (zsR_0 hq0) (by decide) rfl (zgR_1 hq0) zq202 (Or.inl rfl) dX4_worth_64 ?_
                refine lv_iload_n hx hb dX4_worth_67 rfl (lv_at hl 4 rfl) ?_
                refine lv_iload hx hb dX4_worth_68 (lv_at hl 0 rfl) ?_
                obtain ⟨j82, ej82, h⟩ := lt_x h
                have hj82 : ∀ (y0_82 : Int32) (σ82 : Mm) (H : Heap) (locs : List Loc) (ls : Array Slot), zh D A0 σ82 GF 740 s.heap H locs → lv_has ls 6 [(0, .ref (A0 + q0)), (1, .ref (A0 + 42)), (2, .int x2_4), (3, .int x3_4)] → j82 y0_82 σ82 = some (r0, σr) → W p l e (zR 2 64) s m [.ref (A0 + q0), .ref (A0 + 42)].toArray below meth c H locs 0 0 (MQ below (zQi D A0 r0 σr GF 740) [.ref (A0 + q0), .ref (A0 + 42)].toArray s 0 0 (zA A0)) (F0 m 82 ls [.int y0_82, .int x2_4, .ref (A0 + (q0 + 2))]) := by
                  intro y0_82 σ82 H locs ls Z hl h
                  rw [ej82] at h
                  try dsimp only at h
                  obtain ⟨hk82, h⟩ := ck_x h
                  refine zw_iast F Z (zltR_2 hq0) (zsR_2 hq0) hk82 dX4_worth_82 (fun σ82_1 _ _ eσ82_1 Z => ?_)
                  replace h := lt_w h eσ82_1
                  obtain ⟨x2_83, ex2_83⟩ : ∃ y : Int32, y = x2_4 + 1 := ⟨_, rfl⟩
                  replace h := lt_w h ex2_83
                  refine lv_iinc (v := x2_83) (lv' := [(2, .int x2_83), (0, .ref (A0 + q0)), (1, .ref (A0 + 42)), (3, .int x3_4)]) hx hb dX4_worth_83 hl (k := 2) rfl (by rw [ex2_83]; rfl) (by decide) rfl (fun ls hl => ?_)
                  refine lv_goto (tgt := 238) hx hb dX4_worth_86 (by decide) ?_
                  exact hj238 x2_83 x3_4 σ82_1 _ _ _ Z (lv_sub hl [1, 2, 0, 3] rfl) h
                refine zb_ifge (tgt := 78) hx hb dX4_worth_70 (by decide) h (fun h => ?_) (fun h => ?_)
                · refine lv_aload_n hx hb dX4_worth_78 rfl (lv_at hl 3 rfl) ?_
                  refine lv_iload hx hb dX4_worth_79 (lv_at hl 0 rfl) ?_
                  obtain ⟨hk81, h⟩ := ck_x h
                  refine zw_iald F Z (by decide) zs_42 hk81 dX4_worth_81 ?_
                  exact hj82 (σ4 42 (ix x5_43)) σ4 _ _ _ Z (lv_sub hl [2, 3, 4, 5] rfl) h
                · refine lv_iload hx hb dX4_worth_73 (lv_at hl 1 rfl) ?_
                  refine lv_goto (tgt := 82) hx hb dX4_worth_75 (by decide) ?_
                  exact hj82 x4_27 σ4 _ _ _ Z (lv_sub hl [2, 3, 4, 5] rfl) h
              · exact hk61 σ4 _ _ _ Z (lv_sub hl [] rfl) h
  exact hL4 NF 0 0 σ _ _ _ Z (lv_sub hl [2, 3, 1, 0] rfl) h
set_option maxHeartbeats 4000000 in
set_option maxRecDepth 100000 in
theorem zcX6_setAskings (l : Launch) (D : va_G) (A0 : Nat) (q1 : Nat) (x2 : Int32) (hq1 : zIsS q1) (σ : Mm) (σr : Mm) (h : zfX6_setAskings q1 x2 σ = some σr) : Met l yX6_setAskings (zws yX6_setAskings cX6_setAskings 6 none) (zR 3 89) (zPc D A0 σ GF 740 [.ref (A0 + 37), .ref (A0 + q1), .int x2]) (zQv D A0 σr GF 740) 0 0 (zA A0) := by
  unfold zfX6_setAskings at h
  refine zmet (own := RX6) (by decide) rfl (Nat.le_of_ble_eq_true rfl) ?_
  intro p e s m below meth c F hr hlocks _ Z ls hl
  have hl : lv_has ls 6 [(0, .ref (A0 + 37)), (1, .ref (A0 + q1)), (2, .int x2)] := hl
  have hx := F.1.1
  have hb := F.1.2.1
  have hown := F.1.2.2.2.1
  have hts := F.1.2.2.2.2
  refine lv_aload_n hx hb dX6_setAskings_0 rfl (lv_at hl 0 rfl) ?_
  refine zw_getR F Z zC6 (a := 37) (k := 10) (by decide) zs_37 (by decide) rfl zg_37_10 zq318 (Or.inl rfl) dX6_setAskings_1 ?_
  refine lv_iconst (v := 0) hx hb dX6_setAskings_4 (by decide) ?_
  refine lv_aload_n hx hb dX6_setAskings_5 rfl (lv_at hl 1 rfl) ?_
  refine zw_getI F Z zC8 (a := q1) (k := 0) (zltS_0 hq1) (zsS_0 hq1) (by decide) rfl zq220 (Or.inl rfl) dX6_setAskings_6 ?_
  refine zw_iast F Z (by decide) zs_42 (by decide) dX6_setAskings_9 (fun σ9 _ _ eσ9 Z => ?_)
  replace h := lt_w h eσ9
  refine lv_aload_n hx hb dX6_setAskings_10 rfl (lv_at hl 0 rfl) ?_
  refine zw_getR F Z zC6 (a := 37) (k := 10) (by decide) zs_37 (by decide) rfl zg_37_10 zq318 (Or.inl rfl) dX6_setAskings_11 ?_
  refine lv_iconst (v := 3) hx hb dX6_setAskings_14 (by decide) ?_
  refine lv_aload_n hx hb dX6_setAskings_15 rfl (lv_at hl 1 rfl) ?_
  refine zw_getI F Z zC8 (a := q1) (k := 1) (zltS_0 hq1) (zsS_0 hq1) (by decide) rfl zq224 (Or.inl rfl) dX6_setAskings_16 ?_
  refine zw_iast F Z (by decide) zs_42 (by decide) dX6_setAskings_19 (fun σ19 _ _ eσ19 Z => ?_)
  replace h := lt_w h eσ19
  refine lv_aload_n hx hb dX6_setAskings_20 rfl (lv_at hl 0 rfl) ?_
  refine zw_getR F Z zC6 (a := 37) (k := 10) (by decide) zs_37 (by decide) rfl zg_37_10 zq318 (Or.inl rfl) dX6_setAskings_21 ?_
  refine lv_iconst (v := 5) hx hb dX6_setAskings_24 (by decide) ?_
  refine lv_iload_n hx hb dX6_setAskings_25 rfl (lv_at hl 2 rfl) ?_
  refine zw_iast F Z (by decide) zs_42 (by decide) dX6_setAskings_26 (fun σ26 _ _ eσ26 Z => ?_)
  replace h := lt_w h eσ26
  refine lv_iconst (v := 0) hx hb dX6_setAskings_27 (by decide) ?_
  refine lv_istore_n (lv' := [(3, .int 0), (0, .ref (A0 + 37)), (1, .ref (A0 + q1)), (2, .int x2)]) hx hb dX6_setAskings_28 rfl hl (by decide) rfl (fun ls hl => ?_)
  obtain ⟨k196, ek196, h⟩ := lt_x h
  have hk196 : ∀ (σ196 : Mm) (H : Heap) (locs : List Loc) (ls : Array Slot), zh D A0 σ196 GF 740 s.heap H locs → lv_has ls 6 [] → k196 σ196 = some σr → W p l e (zR 3 89) s m [.ref (A0 + 37), .ref (A0 + q1), .int x2].toArray below meth c H locs 0 0 (MQ below (zQv D A0 σr GF 740) [.ref (A0 + 37), .ref (A0 + q1), .int x2].toArray s 0 0 (zA A0)) (F0 m 196 ls []) := by
    intro  σ196 H locs ls Z hl h
    rw [ek196] at h
    try dsimp only at h
    have hq := Option.some.inj h
    exact ze_v F Z hr hlocks hq dX6_setAskings_196
  have hL29 : ∀ (fu29 : Nat) (x3_29 : Int32) (σ29 : Mm) (H : Heap) (locs : List Loc) (ls : Array Slot), zh D A0 σ29 GF 740 s.heap H locs → lv_has ls 6 [(0, .ref (A0 + 37)), (1, .ref (A0 + q1)), (3, .int x3_29)] → zfX6_setAskings_L29 k196 q1 fu29 x3_29 σ29 = some σr → W p l e (zR 3 89) s m [.ref (A0 + 37), .ref (A0 + q1), .int x2].toArray below meth c H locs 0 0 (MQ below (zQv D A0 σr GF 740) [.ref (A0 + 37), .ref (A0 + q1), .int x2].toArray s 0 0 (zA A0)) (F0 m 29 ls []) := by
    intro fu29
    induction fu29 with
    | zero => intro x3_29 σ29 H locs ls Z hl h; rw [zfX6_setAskings_L29] at h; cases h
    | succ fu29 ih29 =>
      intro x3_29 σ29 H locs ls Z hl h
      rw [zfX6_setAskings_L29] at h
      refine lv_iload_n hx hb dX6_setAskings_29 rfl (lv_at hl 2 rfl) ?_
      refine lv_aload_n hx hb dX6_setAskings_30 rfl (lv_at hl 0 rfl) ?_
      refine zw_getI F Z zC6 (a := 37) (k := 5) (by decide) zs_37 (by decide) rfl zq311 (Or.inl rfl) dX6_setAskings_31 ?_
      refine zb_icge (tgt := 196) hx hb dX6_setAskings_34 (by decide) h (fun h => ?_) (fun h => ?_)
      · exact hk196 σ29 _ _ _ Z (lv_sub hl [] rfl) h
      · refine lv_aload_n hx hb dX6_setAskings_37 rfl (lv_at hl 1 rfl) ?_
        refine zw_getR F Z zC8 (a := q1) (k := 10) (zltS_0 hq1) (zsS_0 hq1) (by decide) rfl (zgS_10 hq1) zq256 (Or.inl rfl) dX6_setAskings_38 ?_
        refine lv_iload_n hx hb dX6_setAskings_41 rfl (lv_at hl 2 rfl) ?_
        obtain ⟨hk42, h⟩ := ck_x h
        refine zw_iald F Z (zltS_6 hq1) (zsS_6 hq1) hk42 dX6_setAskings_42 ?_
        refine lv_topi (fun x4_43 ex4_43 => ?_)
        replace h := lt_w h ex4_43
        refine lv_istore (lv' := [(4, .int x4_43), (0, .ref (A0 + 37)), (1, .ref (A0 + q1)), (3, .int x3_29)]) hx hb dX6_setAskings_43 hl (by decide) rfl (fun ls hl => ?_)
        refine lv_aload_n hx hb dX6_setAskings_45 rfl (lv_at hl 1 rfl) ?_
        refine zw_getR F Z zC6 (a := 37) (k := 2) (by decide) zs_37 (by decide) rfl zg_37_2 zq303 (Or.inl rfl) dX6_setAskings_46 ?_
        refine lv_iload_n hx hb dX6_setAskings_49 rfl (lv_at hl 3 rfl) ?_
        obtain ⟨hk50, h⟩ := ck_x h
        refine zw_iald F Z (by decide) zs_38 hk50 dX6_setAskings_50 ?_
        refine lv_iconst (v := (-1)) hx hb dX6_setAskings_51 (by decide) ?_
        obtain ⟨j190, ej190, h⟩ := lt_x h
        have hj190 : ∀ (σ190 : Mm) (H : Heap) (locs : List Loc) (ls : Array Slot), zh D A0 σ190 GF 740 s.heap H locs → lv_has ls 6 [(0, .ref (A0 + 37)), (1, .ref (A0 + q1)), (3, .int x3_29)] → j190 σ190 = some σr → W p l e (zR 3 89) s m [.ref (A0 + 37), .ref (A0 + q1), .int x2].toArray below meth c H locs 0 0 (MQ below (zQv D A0 σr GF 740) [.ref (A0 + 37), .ref (A0 + q1), .int x2].toArray s 0 0 (zA A0)) (F0 m 190 ls []) := by
          intro  σ190 H locs ls Z hl h
          rw [ej190] at h
          try dsimp only at h
          obtain ⟨x3_190, ex3_190⟩ : ∃ y : Int32, y = x3_29 + 1 := ⟨_, rfl⟩
          replace h := lt_w h ex3_190
          refine lv_iinc (v := x3_190) (lv' := [(3, .int x3_190), (0, .ref (A0 + 37)), (1, .ref (A0 + q1))]) hx hb dX6_setAskings_190 hl (k := 2) rfl (by rw [ex3_190]; rfl) (by decide) rfl (fun ls hl => ?_)
          refine lv_goto (tgt := 29) hx hb dX6_setAskings_193 (by decide) ?_
          exact ih29 x3_190 σ190 _ _ _ Z (lv_sub hl [1, 2, 0] rfl) h
        refine zb_iceq (tgt := 70) hx hb dX6_setAskings_52 (by decide) h (fun h => ?_) (fun h => ?_)
        · refine lv_aload_n hx hb dX6_setAskings_70 rfl (lv_at hl 2 rfl) ?_
          refine lv_iload_n hx hb dX6_setAskings_71 rfl (lv_at hl 3 rfl) ?_
          refine zc_i Z (zr_V F Z (a := q1) (As := [.int x3_29]) (zcX8_isHolding l D A0 q1 x3_29 hq1 σ29 (zfX8_isHolding q1 x3_29 σ29) rfl) zBX8_isHolding zq886 (zltS_0 hq1) (zsS_0 hq1) zC8.1 rfl ⟨⟨rfl, rfl⟩, Nat.le_of_ble_eq_true rfl, Nat.le_of_ble_eq_true rfl⟩ hl.1 rfl (Nat.le_of_ble_eq_true rfl) dX6_setAskings_72 ⟨Nat.le_of_ble_eq_true rfl, Nat.le_of_ble_eq_true rfl⟩) (fun _ _ Z => ?_)
          obtain ⟨j103, ej103, h⟩ := lt_x h
          have hj103 : ∀ (σ103 : Mm) (H : Heap) (locs : List Loc) (ls : Array Slot), zh D A0 σ103 GF 740 s.heap H locs → lv_has ls 6 [(0, .ref (A0 + 37)), (1, .ref (A0 + q1)), (3, .int x3_29)] → j103 σ103 = some σr → W p l e (zR 3 89) s m [.ref (A0 + 37), .ref (A0 + q1), .int x2].toArray below meth c H locs 0 0 (MQ below (zQv D A0 σr GF 740) [.ref (A0 + 37), .ref (A0 + q1), .int x2].toArray s 0 0 (zA A0)) (F0 m 103 ls []) := by
            intro  σ103 H locs ls Z hl h
            rw [ej103] at h
            try dsimp only at h
            refine lv_aload_n hx hb dX6_setAskings_103 rfl (lv_at hl 1 rfl) ?_
            refine zw_getR F Z zC8 (a := q1) (k := 8) (zltS_0 hq1) (zsS_0 hq1) (by decide) rfl (zgS_8 hq1) zq247 (Or.inl rfl) dX6_setAskings_104 ?_
            refine lv_iload_n hx hb dX6_setAskings_107 rfl (lv_at hl 2 rfl) ?_
            refine lv_aload_n hx hb dX6_setAskings_108 rfl (lv_at hl 1 rfl) ?_
            refine zw_getI F Z zC8 (a := q1) (k := 0) (zltS_0 hq1) (zsS_0 hq1) (by decide) rfl zq220 (Or.inl rfl) dX6_setAskings_109 ?_
            obtain ⟨hk112, h⟩ := ck_x h
            refine zw_iast F Z (zltS_4 hq1) (zsS_4 hq1) hk112 dX6_setAskings_112 (fun σ112 _ _ eσ112 Z => ?_)
            replace h := lt_w h eσ112
            refine lv_goto (tgt := 190) hx hb dX6_setAskings_113 (by decide) ?_
            exact hj190 σ112 _ _ _ Z (lv_sub hl [0, 1, 2] rfl) h
          refine zb_ifne (tgt := 103) hx hb dX6_setAskings_75 (by decide) h (fun h => ?_) (fun h => ?_)
          · exact hj103 σ29 _ _ _ Z (lv_sub hl [1, 2, 3] rfl) h
          · refine lv_iload hx hb dX6_setAskings_78 (lv_at hl 0 rfl) ?_
            refine zb_iflt (tgt := 103) hx hb dX6_setAskings_80 (by decide) h (fun h => ?_) (fun h => ?_)
            · exact hj103 σ29 _ _ _ Z (lv_sub hl [1, 2, 3] rfl) h
            · refine lv_iload hx hb dX6_setAskings_83 (lv_at hl 0 rfl) ?_
              refine lv_aload_n hx hb dX6_setAskings_85 rfl (lv_at hl 1 rfl) ?_
              refine zw_getR F Z zC6 (a := 37) (k := 1) (by decide) zs_37 (by decide) rfl zg_37_1 zq302 (Or.inl rfl) dX6_setAskings_86 ?_
              refine zw_alen F Z (ty := 5) (v := 5) (by decide) zs_11 rfl rfl dX6_setAskings_89 ?_
              refine zb_icge (tgt := 103) hx hb dX6_setAskings_90 (by decide) h (fun h => ?_) (fun h => ?_)
              · exact hj103 σ29 _ _ _ Z (lv_sub hl [1, 2, 3] rfl) h
              · refine lv_aload_n hx hb dX6_setAskings_93 rfl (lv_at hl 1 rfl) ?_
                refine zw_getR F Z zC6 (a := 37) (k := 1) (by decide) zs_37 (by decide) rfl zg_37_1 zq302 (Or.inl rfl) dX6_setAskings_94 ?_
                refine lv_iload hx hb dX6_setAskings_97 (lv_at hl 0 rfl) ?_
                obtain ⟨hk99, h⟩ := ck_x h
                refine zw_aald F Z (ty := 5) (by decide) zs_11 (by decide) rfl hk99 (zg_rules hk99) dX6_setAskings_99 ?_
                refine lv_ifnonnull (tgt := 116) hx hb dX6_setAskings_100 (by decide) ?_
                refine lv_aload_n hx hb dX6_setAskings_116 rfl (lv_at hl 1 rfl) ?_
                refine zw_getR F Z zC6 (a := 37) (k := 10) (by decide) zs_37 (by decide) rfl zg_37_10 zq318 (Or.inl rfl) dX6_setAskings_117 ?_
                refine lv_iconst (v := 1) hx hb dX6_setAskings_120 (by decide) ?_
                refine lv_aload_n hx hb dX6_setAskings_121 rfl (lv_at hl 2 rfl) ?_
                refine zw_getR F Z zC8 (a := q1) (k := 5) (zltS_0 hq1) (zsS_0 hq1) (by decide) rfl (zgS_5 hq1) zq234 (Or.inl rfl) dX6_setAskings_122 ?_
                refine lv_iload_n hx hb dX6_setAskings_125 rfl (lv_at hl 3 rfl) ?_
                obtain ⟨hk126, h⟩ := ck_x h
                refine zw_iald F Z (zltS_1 hq1) (zsS_1 hq1) hk126 dX6_setAskings_126 ?_
                refine zw_iast F Z (by decide) zs_42 (by decide) dX6_setAskings_127 (fun σ127 _ _ eσ127 Z => ?_)
                replace h := lt_w h eσ127
                refine lv_aload_n hx hb dX6_setAskings_128 rfl (lv_at hl 1 rfl) ?_
                refine zw_getR F Z zC6 (a := 37) (k := 10) (by decide) zs_37 (by decide) rfl zg_37_10 zq318 (Or.inl rfl) dX6_setAskings_129 ?_
                refine lv_iconst (v := 2) hx hb dX6_setAskings_132 (by decide) ?_
                refine lv_aload_n hx hb dX6_setAskings_133 rfl (lv_at hl 1 rfl) ?_
                refine zw_getR F Z zC6 (a := 37) (k := 0) (by decide) zs_37 (by decide) rfl zg_37_0 zq301 (Or.inl rfl) dX6_setAskings_134 ?_
                refine zw_getR F Z zC0 (a := 3) (k := 6) (by decide) zs_3 (by decide) rfl zg_3_6 zq153 (Or.inl rfl) dX6_setAskings_137 ?_
                refine lv_iload_n hx hb dX6_setAskings_140 rfl (lv_at hl 3 rfl) ?_
                obtain ⟨hk141, h⟩ := ck_x h
                refine zw_iald F Z (by decide) zs_5 hk141 dX6_setAskings_141 ?_
                refine zw_iast F Z (by decide) zs_42 (by decide) dX6_setAskings_142 (fun σ142 _ _ eσ142 Z => ?_)
                replace h := lt_w h eσ142
                refine lv_aload_n hx hb dX6_setAskings_143 rfl (lv_at hl 1 rfl) ?_
                refine zw_getR F Z zC6 (a := 37) (k := 10) (by decide) zs_37 (by decide) rfl zg_37_10 zq318 (Or.inl rfl) dX6_setAskings_144 ?_
                refine lv_iconst (v := 4) hx hb dX6_setAskings_147 (by decide) ?_
                refine lv_aload_n hx hb dX6_setAskings_148 rfl (lv_at hl 2 rfl) ?_
                refine zw_getR F Z zC8 (a := q1) (k := 6) (zltS_0 hq1) (zsS_0 hq1) (by decide) rfl (zgS_6 hq1) zq238 (Or.inl rfl) dX6_setAskings_149 ?_
                refine lv_iload_n hx hb dX6_setAskings_152 rfl (lv_at hl 3 rfl) ?_
                obtain ⟨hk153, h⟩ := ck_x h
                refine zw_iald F Z (zltS_2 hq1) (zsS_2 hq1) hk153 dX6_setAskings_153 ?_
                refine zw_iast F Z (by decide) zs_42 (by decide) dX6_setAskings_154 (fun σ154 _ _ eσ154 Z => ?_)
                replace h := lt_w h eσ154
                refine lv_aload_n hx hb dX6_setAskings_155 rfl (lv_at hl 1 rfl) ?_
                refine zw_getR F Z zC6 (a := 37) (k := 1) (by decide) zs_37 (by decide) rfl zg_37_1 zq302 (Or.inl rfl) dX6_setAskings_156 ?_
                refine lv_iload hx hb dX6_setAskings_159 (lv_at hl 0 rfl) ?_
                obtain ⟨hk161, h⟩ := ck_x h
                refine zw_aald F Z (ty := 5) (by decide) zs_11 (by decide) rfl hk161 (zg_rules hk161) dX6_setAskings_161 ?_
                refine lv_aload_n hx hb dX6_setAskings_162 rfl (lv_at hl 1 rfl) ?_
                refine zw_getR F Z zC6 (a := 37) (k := 10) (by decide) zs_37 (by decide) rfl zg_37_10 zq318 (Or.inl rfl) dX6_setAskings_163 ?_
                obtain ⟨r166, σ166, hc166, h⟩ := bd2_x h
                refine zc_i Z (zr_V F Z (a := (12 + 3 * ix x4_43)) (As := [.ref (A0 + 42)]) (zcX4_worth l D A0 (12 + 3 * ix x4_43) (zIsR_rules hk161) σ154 r166 σ166 hc166) zBX4_worth zq887 (zltR_0 (zIsR_rules hk161)) (zsR_0 (zIsR_rules hk161)) zC4.1 rfl ⟨⟨rfl, rfl⟩, Nat.le_of_ble_eq_true rfl, Nat.le_of_ble_eq_true rfl⟩ hl.1 rfl (Nat.le_of_ble_eq_true rfl) dX6_setAskings_166 ⟨Nat.le_of_ble_eq_true rfl, Nat.le_of_ble_eq_true rfl⟩) (fun _ _ Z => ?_)
                refine lv_istore (lv' := [(5, .int r166), (4, .int x4_43), (0, .ref (A0 + 37)), (1, .ref (A0 + q1)), (3, .int x3_29)]) hx hb dX6_setAskings_169 hl (by decide) rfl (fun ls hl => ?_)
                refine lv_aload_n hx hb dX6_setAskings_171 rfl (lv_at hl 3 rfl) ?_
                refine zw_getR F Z zC8 (a := q1) (k := 8) (zltS_0 hq1) (zsS_0 hq1) (by decide) rfl (zgS_8 hq1) zq247 (Or.inl rfl) dX6_setAskings_172 ?_
                refine lv_iload_n hx hb dX6_setAskings_175 rfl (lv_at hl 4 rfl) ?_
                refine lv_iconst (v := 0) hx hb dX6_setAskings_176 (by decide) ?_
                refine lv_aload_n hx hb dX6_setAskings_177 rfl (lv_at hl 3 rfl) ?_
                refine zw_getI F Z zC8 (a := q1) (k := 0) (zltS_0 hq1) (zsS_0 hq1) (by decide) rfl zq220 (Or.inl rfl) dX6_setAskings_178 ?_
                refine lv_iload hx hb dX6_setAskings_181 (lv_at hl 0 rfl) ?_
                refine zw_zmin F hl.1 zq881 (Nat.le_of_ble_eq_true rfl) (Nat.le_of_ble_eq_true rfl) (Nat.le_of_ble_eq_true rfl) (Nat.le_of_ble_eq_true rfl) dX6_setAskings_183 ?_
                refine zw_zmax F hl.1 zq906 (Nat.le_of_ble_eq_true rfl) (Nat.le_of_ble_eq_true rfl) (Nat.le_of_ble_eq_true rfl) (Nat.le_of_ble_eq_true rfl) dX6_setAskings_186 ?_
                obtain ⟨hk189, h⟩ := ck_x h
                refine zw_iast F Z (zltS_4 hq1) (zsS_4 hq1) hk189 dX6_setAskings_189 (fun σ189 _ _ eσ189 Z => ?_)
                replace h := lt_w h eσ189
                exact hj190 σ189 _ _ _ Z (lv_sub hl [2, 3, 4] rfl) h
        · refine lv_aload_n hx hb dX6_setAskings_55 rfl (lv_at hl 2 rfl) ?_
          refine zw_getR F Z zC8 (a := q1) (k := 8) (zltS_0 hq1) (zsS_0 hq1) (by decide) rfl (zgS_8 hq1) zq247 (Or.inl rfl) dX6_setAskings_56 ?_
          refine lv_iload_n hx hb dX6_setAskings_59 rfl (lv_at hl 3 rfl) ?_
          refine lv_aload_n hx hb dX6_setAskings_60 rfl (lv_at hl 1 rfl) ?_
          refine zw_getR F Z zC6 (a := 37) (k := 2) (by decide) zs_37 (by decide) rfl zg_37_2 zq303 (Or.inl rfl) dX6_setAskings_61 ?_
          refine lv_iload_n hx hb dX6_setAskings_64 rfl (lv_at hl 3 rfl) ?_
          obtain ⟨hk65, h⟩ := ck_x h
          refine zw_iald F Z (by decide) zs_38 hk65 dX6_setAskings_65 ?_
          obtain ⟨hk66, h⟩ := ck_x h
          refine zw_iast F Z (zltS_4 hq1) (zsS_4 hq1) hk66 dX6_setAskings_66 (fun σ66 _ _ eσ66 Z => ?_)
          replace h := lt_w h eσ66
          refine lv_goto (tgt := 190) hx hb dX6_setAskings_67 (by decide) ?_
          exact hj190 σ66 _ _ _ Z (lv_sub hl [1, 2, 3] rfl) h
  exact hL29 NF 0 σ26 _ _ _ Z (lv_sub hl [1, 2, 0] rfl) h
set_option maxHeartbeats 4000000 in
set_option maxRecDepth 100000 in
theorem zcX6_lineUp (l : Launch) (D : va_G) (A0 : Nat) (q1 : Nat) (hq1 : zIsS q1) (σ : Mm) (σr : Mm) (h : zfX6_lineUp q1 σ = some σr) : Met l yX6_lineUp (zws yX6_lineUp cX6_lineUp 4 none) (zR 1 21) (zPc D A0 σ GF 740 [.ref (A0 + 37), .ref (A0 + q1)]) (zQv D A0 σr GF 740) 0 0 (zA A0) := by
  unfold zfX6_lineUp at h
  refine zmet (own := RX6) (by decide) rfl (Nat.le_of_ble_eq_true rfl) ?_
  intro p e s m below meth c F hr hlocks _ Z ls hl
  have hl : lv_has ls 4 [(0, .ref (A0 + 37)), (1, .ref (A0 + q1))] := hl
  have hx := F.1.1
  have hb := F.1.2.1
  have hown := F.1.2.2.2.1
  have hts := F.1.2.2.2.2
  refine lv_aload_n hx hb dX6_lineUp_0 rfl (lv_at hl 0 rfl) ?_
  refine lv_iconst (v := 0) hx hb dX6_lineUp_1 (by decide) ?_
  refine zw_putI F Z zC6 (a := 37) (k := 8) (by decide) zs_37 (by decide) rfl (by decide) zq316 (Or.inl rfl) rfl ⟨rfl, rfl⟩ dX6_lineUp_2 (fun σ2 _ _ eσ2 Z => ?_)
  replace h := lt_w h eσ2
  refine lv_iconst (v := 0) hx hb dX6_lineUp_5 (by decide) ?_
  refine lv_istore_n (lv' := [(2, .int 0), (0, .ref (A0 + 37)), (1, .ref (A0 + q1))]) hx hb dX6_lineUp_6 rfl hl (by decide) rfl (fun ls hl => ?_)
  obtain ⟨k109, ek109, h⟩ := lt_x h
  have hk109 : ∀ (σ109 : Mm) (H : Heap) (locs : List Loc) (ls : Array Slot), zh D A0 σ109 GF 740 s.heap H locs → lv_has ls 4 [] → k109 σ109 = some σr → W p l e (zR 1 21) s m [.ref (A0 + 37), .ref (A0 + q1)].toArray below meth c H locs 0 0 (MQ below (zQv D A0 σr GF 740) [.ref (A0 + 37), .ref (A0 + q1)].toArray s 0 0 (zA A0)) (F0 m 109 ls []) := by
    intro  σ109 H locs ls Z hl h
    rw [ek109] at h
    try dsimp only at h
    have hq := Option.some.inj h
    exact ze_v F Z hr hlocks hq dX6_lineUp_109
  have hL7 : ∀ (fu7 : Nat) (x2_7 : Int32) (σ7 : Mm) (H : Heap) (locs : List Loc) (ls : Array Slot), zh D A0 σ7 GF 740 s.heap H locs → lv_has ls 4 [(0, .ref (A0 + 37)), (1, .ref (A0 + q1)), (2, .int x2_7)] → zfX6_lineUp_L7 k109 q1 fu7 x2_7 σ7 = some σr → W p l e (zR 1 21) s m [.ref (A0 + 37), .ref (A0 + q1)].toArray below meth c H locs 0 0 (MQ below (zQv D A0 σr GF 740) [.ref (A0 + 37), .ref (A0 + q1)].toArray s 0 0 (zA A0)) (F0 m 7 ls []) := by
    intro fu7
    induction fu7 with
    | zero => intro x2_7 σ7 H locs ls Z hl h; rw [zfX6_lineUp_L7] at h; cases h
    | succ fu7 ih7 =>
      intro x2_7 σ7 H locs ls Z hl h
      rw [zfX6_lineUp_L7] at h
      refine lv_iload_n hx hb dX6_lineUp_7 rfl (lv_at hl 2 rfl) ?_
      refine lv_aload_n hx hb dX6_lineUp_8 rfl (lv_at hl 0 rfl) ?_
      refine zw_getI F Z zC6 (a := 37) (k := 5) (by decide) zs_37 (by decide) rfl zq311 (Or.inl rfl) dX6_lineUp_9 ?_
      refine zb_icge (tgt := 109) hx hb dX6_lineUp_12 (by decide) h (fun h => ?_) (fun h => ?_)
      · exact hk109 σ7 _ _ _ Z (lv_sub hl [] rfl) h
      · refine lv_aload_n hx hb dX6_lineUp_15 rfl (lv_at hl 1 rfl) ?_
        refine zw_getR F Z zC8 (a := q1) (k := 5) (zltS_0 hq1) (zsS_0 hq1) (by decide) rfl (zgS_5 hq1) zq234 (Or.inl rfl) dX6_lineUp_16 ?_
        refine lv_iload_n hx hb dX6_lineUp_19 rfl (lv_at hl 2 rfl) ?_
        obtain ⟨hk20, h⟩ := ck_x h
        refine zw_iald F Z (zltS_1 hq1) (zsS_1 hq1) hk20 dX6_lineUp_20 ?_
        obtain ⟨j103, ej103, h⟩ := lt_x h
        have hj103 : ∀ (σ103 : Mm) (H : Heap) (locs : List Loc) (ls : Array Slot), zh D A0 σ103 GF 740 s.heap H locs → lv_has ls 4 [(0, .ref (A0 + 37)), (1, .ref (A0 + q1)), (2, .int x2_7)] → j103 σ103 = some σr → W p l e (zR 1 21) s m [.ref (A0 + 37), .ref (A0 + q1)].toArray below meth c H locs 0 0 (MQ below (zQv D A0 σr GF 740) [.ref (A0 + 37), .ref (A0 + q1)].toArray s 0 0 (zA A0)) (F0 m 103 ls []) := by
          intro  σ103 H locs ls Z hl h
          rw [ej103] at h
          try dsimp only at h
          obtain ⟨x2_103, ex2_103⟩ : ∃ y : Int32, y = x2_7 + 1 := ⟨_, rfl⟩
          replace h := lt_w h ex2_103
          refine lv_iinc (v := x2_103) (lv' := [(2, .int x2_103), (0, .ref (A0 + 37)), (1, .ref (A0 + q1))]) hx hb dX6_lineUp_103 hl (k := 2) rfl (by rw [ex2_103]; rfl) (by decide) rfl (fun ls hl => ?_)
          refine lv_goto (tgt := 7) hx hb dX6_lineUp_106 (by decide) ?_
          exact ih7 x2_103 σ103 _ _ _ Z (lv_sub hl [1, 2, 0] rfl) h
        refine zb_ifeq (tgt := 103) hx hb dX6_lineUp_21 (by decide) h (fun h => ?_) (fun h => ?_)
        · exact hj103 σ7 _ _ _ Z (lv_sub hl [0, 1, 2] rfl) h
        · refine lv_aload_n hx hb dX6_lineUp_24 rfl (lv_at hl 1 rfl) ?_
          refine lv_iload_n hx hb dX6_lineUp_25 rfl (lv_at hl 2 rfl) ?_
          refine zc_i Z (zr_V F Z (a := q1) (As := [.int x2_7]) (zcX8_isHolding l D A0 q1 x2_7 hq1 σ7 (zfX8_isHolding q1 x2_7 σ7) rfl) zBX8_isHolding zq886 (zltS_0 hq1) (zsS_0 hq1) zC8.1 rfl ⟨⟨rfl, rfl⟩, Nat.le_of_ble_eq_true rfl, Nat.le_of_ble_eq_true rfl⟩ hl.1 rfl (Nat.le_of_ble_eq_true rfl) dX6_lineUp_26 ⟨Nat.le_of_ble_eq_true rfl, Nat.le_of_ble_eq_true rfl⟩) (fun _ _ Z => ?_)
          refine zb_ifeq (tgt := 35) hx hb dX6_lineUp_29 (by decide) h (fun h => ?_) (fun h => ?_)
          · refine lv_aload_n hx hb dX6_lineUp_35 rfl (lv_at hl 0 rfl) ?_
            refine zw_getI F Z zC6 (a := 37) (k := 8) (by decide) zs_37 (by decide) rfl zq316 (Or.inl rfl) dX6_lineUp_36 ?_
            refine lv_topi (fun x3_39 ex3_39 => ?_)
            replace h := lt_w h ex3_39
            refine lv_istore_n (lv' := [(3, .int x3_39), (0, .ref (A0 + 37)), (1, .ref (A0 + q1)), (2, .int x2_7)]) hx hb dX6_lineUp_39 rfl hl (by decide) rfl (fun ls hl => ?_)
            obtain ⟨k86, ek86, h⟩ := lt_x h
            have hk86 : ∀ (x3_86 : Int32) (σ86 : Mm) (H : Heap) (locs : List Loc) (ls : Array Slot), zh D A0 σ86 GF 740 s.heap H locs → lv_has ls 4 [(0, .ref (A0 + 37)), (1, .ref (A0 + q1)), (2, .int x2_7), (3, .int x3_86)] → k86 x3_86 σ86 = some σr → W p l e (zR 1 21) s m [.ref (A0 + 37), .ref (A0 + q1)].toArray below meth c H locs 0 0 (MQ below (zQv D A0 σr GF 740) [.ref (A0 + 37), .ref (A0 + q1)].toArray s 0 0 (zA A0)) (F0 m 86 ls []) := by
              intro x3_86 σ86 H locs ls Z hl h
              rw [ek86] at h
              try dsimp only at h
              refine lv_aload_n hx hb dX6_lineUp_86 rfl (lv_at hl 0 rfl) ?_
              refine zw_getR F Z zC6 (a := 37) (k := 7) (by decide) zs_37 (by decide) rfl zg_37_7 zq315 (Or.inl rfl) dX6_lineUp_87 ?_
              refine lv_iload_n hx hb dX6_lineUp_90 rfl (lv_at hl 3 rfl) ?_
              refine lv_iload_n hx hb dX6_lineUp_91 rfl (lv_at hl 2 rfl) ?_
              obtain ⟨hk92, h⟩ := ck_x h
              refine zw_iast F Z (by decide) zs_40 hk92 dX6_lineUp_92 (fun σ92 _ _ eσ92 Z => ?_)
              replace h := lt_w h eσ92
              refine lv_aload_n hx hb dX6_lineUp_93 rfl (lv_at hl 0 rfl) ?_
              refine lv_dup hx hb dX6_lineUp_94 rfl ?_
              refine zw_getI F Z zC6 (a := 37) (k := 8) (by decide) zs_37 (by decide) rfl zq316 (Or.inl rfl) dX6_lineUp_95 ?_
              refine lv_iconst (v := 1) hx hb dX6_lineUp_98 (by decide) ?_
              refine lv_iadd hx hb dX6_lineUp_99 ?_
              refine zw_putI F Z zC6 (a := 37) (k := 8) (by decide) zs_37 (by decide) rfl (by decide) zq316 (Or.inl rfl) rfl ⟨rfl, rfl⟩ dX6_lineUp_100 (fun σ100 _ _ eσ100 Z => ?_)
              replace h := lt_w h eσ100
              exact hj103 σ100 _ _ _ Z (lv_sub hl [0, 1, 2] rfl) h
            have hL40 : ∀ (fu40 : Nat) (x3_40 : Int32) (σ40 : Mm) (H : Heap) (locs : List Loc) (ls : Array Slot), zh D A0 σ40 GF 740 s.heap H locs → lv_has ls 4 [(0, .ref (A0 + 37)), (1, .ref (A0 + q1)), (2, .int x2_7), (3, .int x3_40)] → zfX6_lineUp_L40 k86 x2_7 q1 fu40 x3_40 σ40 = some σr → W p l e (zR 1 21) s m [.ref (A0 + 37), .ref (A0 + q1)].toArray below meth c H locs 0 0 (MQ below (zQv D A0 σr GF 740) [.ref (A0 + 37), .ref (A0 + q1)].toArray s 0 0 (zA A0)) (F0 m 40 ls []) := by
              intro fu40
              induction fu40 with
              | zero => intro x3_40 σ40 H locs ls Z hl h; rw [zfX6_lineUp_L40] at h; cases h
              | succ fu40 ih40 =>
                intro x3_40 σ40 H locs ls Z hl h
                rw [zfX6_lineUp_L40] at h
                refine lv_iload_n hx hb dX6_lineUp_40 rfl (lv_at hl 3 rfl) ?_
                refine zb_ifle (tgt := 86) hx hb dX6_lineUp_41 (by decide) h (fun h => ?_) (fun h => ?_)
                · exact hk86 x3_40 σ40 _ _ _ Z (lv_sub hl [0, 1, 2, 3] rfl) h
                · refine lv_aload_n hx hb dX6_lineUp_44 rfl (lv_at hl 1 rfl) ?_
                  refine zw_getR F Z zC8 (a := q1) (k := 8) (zltS_0 hq1) (zsS_0 hq1) (by decide) rfl (zgS_8 hq1) zq247 (Or.inl rfl) dX6_lineUp_45 ?_
                  refine lv_aload_n hx hb dX6_lineUp_48 rfl (lv_at hl 0 rfl) ?_
                  refine zw_getR F Z zC6 (a := 37) (k := 7) (by decide) zs_37 (by decide) rfl zg_37_7 zq315 (Or.inl rfl) dX6_lineUp_49 ?_
                  refine lv_iload_n hx hb dX6_lineUp_52 rfl (lv_at hl 3 rfl) ?_
                  refine lv_iconst (v := 1) hx hb dX6_lineUp_53 (by decide) ?_
                  refine lv_isub hx hb dX6_lineUp_54 ?_
                  obtain ⟨hk55, h⟩ := ck_x h
                  refine zw_iald F Z (by decide) zs_40 hk55 dX6_lineUp_55 ?_
                  obtain ⟨hk56, h⟩ := ck_x h
                  refine zw_iald F Z (zltS_4 hq1) (zsS_4 hq1) hk56 dX6_lineUp_56 ?_
                  refine lv_aload_n hx hb dX6_lineUp_57 rfl (lv_at hl 1 rfl) ?_
                  refine zw_getR F Z zC8 (a := q1) (k := 8) (zltS_0 hq1) (zsS_0 hq1) (by decide) rfl (zgS_8 hq1) zq247 (Or.inl rfl) dX6_lineUp_58 ?_
                  refine lv_iload_n hx hb dX6_lineUp_61 rfl (lv_at hl 2 rfl) ?_
                  obtain ⟨hk62, h⟩ := ck_x h
                  refine zw_iald F Z (zltS_4 hq1) (zsS_4 hq1) hk62 dX6_lineUp_62 ?_
                  refine zb_icle (tgt := 86) hx hb dX6_lineUp_63 (by decide) h (fun h => ?_) (fun h => ?_)
                  · exact hk86 x3_40 σ40 _ _ _ Z (lv_sub hl [0, 1, 2, 3] rfl) h
                  · refine lv_aload_n hx hb dX6_lineUp_66 rfl (lv_at hl 0 rfl) ?_
                    refine zw_getR F Z zC6 (a := 37) (k := 7) (by decide) zs_37 (by decide) rfl zg_37_7 zq315 (Or.inl rfl) dX6_lineUp_67 ?_
                    refine lv_iload_n hx hb dX6_lineUp_70 rfl (lv_at hl 3 rfl) ?_
                    refine lv_aload_n hx hb dX6_lineUp_71 rfl (lv_at hl 0 rfl) ?_
                    refine zw_getR F Z zC6 (a := 37) (k := 7) (by decide) zs_37 (by decide) rfl zg_37_7 zq315 (Or.inl rfl) dX6_lineUp_72 ?_
                    refine lv_iload_n hx hb dX6_lineUp_75 rfl (lv_at hl 3 rfl) ?_
                    refine lv_iconst (v := 1) hx hb dX6_lineUp_76 (by decide) ?_
                    refine lv_isub hx hb dX6_lineUp_77 ?_
                    obtain ⟨hk78, h⟩ := ck_x h
                    refine zw_iald F Z (by decide) zs_40 hk78 dX6_lineUp_78 ?_
                    obtain ⟨hk79, h⟩ := ck_x h
                    refine zw_iast F Z (by decide) zs_40 hk79 dX6_lineUp_79 (fun σ79 _ _ eσ79 Z => ?_)
                    replace h := lt_w h eσ79
                    obtain ⟨x3_80, ex3_80⟩ : ∃ y : Int32, y = x3_40 + (-1) := ⟨_, rfl⟩
                    replace h := lt_w h ex3_80
                    refine lv_iinc (v := x3_80) (lv' := [(3, .int x3_80), (0, .ref (A0 + 37)), (1, .ref (A0 + q1)), (2, .int x2_7)]) hx hb dX6_lineUp_80 hl (k := 3) rfl (by rw [ex3_80]; rfl) (by decide) rfl (fun ls hl => ?_)
                    refine lv_goto (tgt := 40) hx hb dX6_lineUp_83 (by decide) ?_
                    exact ih40 x3_80 σ79 _ _ _ Z (lv_sub hl [1, 2, 3, 0] rfl) h
            exact hL40 NF x3_39 σ7 _ _ _ Z (lv_sub hl [1, 2, 3, 0] rfl) h
          · refine lv_goto (tgt := 103) hx hb dX6_lineUp_32 (by decide) ?_
            exact hj103 σ7 _ _ _ Z (lv_sub hl [0, 1, 2] rfl) h
  exact hL7 NF 0 σ2 _ _ _ Z (lv_sub hl [1, 2, 0] rfl) h
set_option maxHeartbeats 4000000 in
set_option maxRecDepth 100000 in
theorem zcX6_sellTo (l : Launch) (D : va_G) (A0 : Nat) (q1 : Nat) (x2 : Int32) (x3 : Int32) (hq1 : zIsS q1) (σ : Mm) (r0 : Int32) (σr : Mm) (h : zfX6_sellTo q1 x2 x3 σ = some (r0, σr)) : Met l yX6_sellTo (zws yX6_sellTo cX6_sellTo 10 (some .int)) (zR 1 40) (zPc D A0 σ GF 740 [.ref (A0 + 37), .ref (A0 + q1), .int x2, .int x3]) (zQi D A0 r0 σr GF 740) 0 0 (zA A0) := by
  unfold zfX6_sellTo at h
  refine zmet (own := RX6) (by decide) rfl (Nat.le_of_ble_eq_true rfl) ?_
  intro p e s m below meth c F hr hlocks _ Z ls hl
  have hl : lv_has ls 10 [(0, .ref (A0 + 37)), (1, .ref (A0 + q1)), (2, .int x2), (3, .int x3)] := hl
  have hx := F.1.1
  have hb := F.1.2.1
  have hown := F.1.2.2.2.1
  have hts := F.1.2.2.2.2
  refine lv_aload_n hx hb dX6_sellTo_0 rfl (lv_at hl 0 rfl) ?_
  refine zw_getR F Z zC6 (a := 37) (k := 0) (by decide) zs_37 (by decide) rfl zg_37_0 zq301 (Or.inl rfl) dX6_sellTo_1 ?_
  refine zw_getR F Z zC0 (a := 3) (k := 8) (by decide) zs_3 (by decide) rfl zg_3_8 zq160 (Or.inl rfl) dX6_sellTo_4 ?_
  refine lv_iload_n hx hb dX6_sellTo_7 rfl (lv_at hl 2 rfl) ?_
  obtain ⟨hk8, h⟩ := ck_x h
  refine zw_iald F Z (by decide) zs_7 hk8 dX6_sellTo_8 ?_
  refine lv_topi (fun x4_9 ex4_9 => ?_)
  replace h := lt_w h ex4_9
  refine lv_istore (lv' := [(4, .int x4_9), (0, .ref (A0 + 37)), (1, .ref (A0 + q1)), (2, .int x2), (3, .int x3)]) hx hb dX6_sellTo_9 hl (by decide) rfl (fun ls hl => ?_)
  refine lv_iload_n hx hb dX6_sellTo_11 rfl (lv_at hl 4 rfl) ?_
  refine lv_istore (lv' := [(5, .int x3), (4, .int x4_9), (0, .ref (A0 + 37)), (1, .ref (A0 + q1)), (2, .int x2), (3, .int x3)]) hx hb dX6_sellTo_12 hl (by decide) rfl (fun ls hl => ?_)
  refine lv_iconst (v := 0) hx hb dX6_sellTo_14 (by decide) ?_
  refine lv_istore (lv' := [(6, .int 0), (5, .int x3), (4, .int x4_9), (0, .ref (A0 + 37)), (1, .ref (A0 + q1)), (2, .int x2), (3, .int x3)]) hx hb dX6_sellTo_15 hl (by decide) rfl (fun ls hl => ?_)
  obtain ⟨k56, ek56, h⟩ := lt_x h
  have hk56 : ∀ (x5_56 : Int32) (σ56 : Mm) (H : Heap) (locs : List Loc) (ls : Array Slot), zh D A0 σ56 GF 740 s.heap H locs → lv_has ls 10 [(1, .ref (A0 + q1)), (2, .int x2), (3, .int x3), (5, .int x5_56)] → k56 x5_56 σ56 = some (r0, σr) → W p l e (zR 1 40) s m [.ref (A0 + 37), .ref (A0 + q1), .int x2, .int x3].toArray below meth c H locs 0 0 (MQ below (zQi D A0 r0 σr GF 740) [.ref (A0 + 37), .ref (A0 + q1), .int x2, .int x3].toArray s 0 0 (zA A0)) (F0 m 56 ls []) := by
    intro x5_56 σ56 H locs ls Z hl h
    rw [ek56] at h
    try dsimp only at h
    refine lv_goto (tgt := 142) hx hb dX6_sellTo_56 (by decide) ?_
    refine lv_aload_n hx hb dX6_sellTo_142 rfl (lv_at hl 0 rfl) ?_
    refine zw_getR F Z zC8 (a := q1) (k := 12) (zltS_0 hq1) (zsS_0 hq1) (by decide) rfl (zgS_12 hq1) zq261 (Or.inl rfl) dX6_sellTo_143 ?_
    refine lv_iload_n hx hb dX6_sellTo_146 rfl (lv_at hl 1 rfl) ?_
    refine lv_dup2_11 hx hb dX6_sellTo_147 rfl rfl ?_
    obtain ⟨hk148, h⟩ := ck_x h
    refine zw_iald F Z (zltS_8 hq1) (zsS_8 hq1) hk148 dX6_sellTo_148 ?_
    refine lv_iload_n hx hb dX6_sellTo_149 rfl (lv_at hl 2 rfl) ?_
    refine lv_iload hx hb dX6_sellTo_150 (lv_at hl 3 rfl) ?_
    refine lv_isub hx hb dX6_sellTo_152 ?_
    refine lv_iadd hx hb dX6_sellTo_153 ?_
    obtain ⟨hk154, h⟩ := ck_x h
    refine zw_iast F Z (zltS_8 hq1) (zsS_8 hq1) hk154 dX6_sellTo_154 (fun σ154 _ _ eσ154 Z => ?_)
    replace h := lt_w h eσ154
    refine lv_iload_n hx hb dX6_sellTo_155 rfl (lv_at hl 2 rfl) ?_
    refine lv_iload hx hb dX6_sellTo_156 (lv_at hl 3 rfl) ?_
    refine lv_isub hx hb dX6_sellTo_158 ?_
    obtain ⟨hq1, hq2⟩ := zpq h
    exact ze_i F Z hr hlocks hq1 hq2 dX6_sellTo_159
  obtain ⟨k142, ek142, h⟩ := lt_x h
  have hk142 : ∀ (x5_142 : Int32) (σ142 : Mm) (H : Heap) (locs : List Loc) (ls : Array Slot), zh D A0 σ142 GF 740 s.heap H locs → lv_has ls 10 [(1, .ref (A0 + q1)), (2, .int x2), (3, .int x3), (5, .int x5_142)] → k142 x5_142 σ142 = some (r0, σr) → W p l e (zR 1 40) s m [.ref (A0 + 37), .ref (A0 + q1), .int x2, .int x3].toArray below meth c H locs 0 0 (MQ below (zQi D A0 r0 σr GF 740) [.ref (A0 + 37), .ref (A0 + q1), .int x2, .int x3].toArray s 0 0 (zA A0)) (F0 m 142 ls []) := by
    intro x5_142 σ142 H locs ls Z hl h
    rw [ek142] at h
    try dsimp only at h
    refine lv_aload_n hx hb dX6_sellTo_142 rfl (lv_at hl 0 rfl) ?_
    refine zw_getR F Z zC8 (a := q1) (k := 12) (zltS_0 hq1) (zsS_0 hq1) (by decide) rfl (zgS_12 hq1) zq261 (Or.inl rfl) dX6_sellTo_143 ?_
    refine lv_iload_n hx hb dX6_sellTo_146 rfl (lv_at hl 1 rfl) ?_
    refine lv_dup2_11 hx hb dX6_sellTo_147 rfl rfl ?_
    obtain ⟨hk148, h⟩ := ck_x h
    refine zw_iald F Z (zltS_8 hq1) (zsS_8 hq1) hk148 dX6_sellTo_148 ?_
    refine lv_iload_n hx hb dX6_sellTo_149 rfl (lv_at hl 2 rfl) ?_
    refine lv_iload hx hb dX6_sellTo_150 (lv_at hl 3 rfl) ?_
    refine lv_isub hx hb dX6_sellTo_152 ?_
    refine lv_iadd hx hb dX6_sellTo_153 ?_
    obtain ⟨hk154, h⟩ := ck_x h
    refine zw_iast F Z (zltS_8 hq1) (zsS_8 hq1) hk154 dX6_sellTo_154 (fun σ154_1 _ _ eσ154_1 Z => ?_)
    replace h := lt_w h eσ154_1
    refine lv_iload_n hx hb dX6_sellTo_155 rfl (lv_at hl 2 rfl) ?_
    refine lv_iload hx hb dX6_sellTo_156 (lv_at hl 3 rfl) ?_
    refine lv_isub hx hb dX6_sellTo_158 ?_
    obtain ⟨hq1, hq2⟩ := zpq h
    exact ze_i F Z hr hlocks hq1 hq2 dX6_sellTo_159
  have hL17 : ∀ (fu17 : Nat) (x5_17 : Int32) (x6_17 : Int32) (σ17 : Mm) (H : Heap) (locs : List Loc) (ls : Array Slot), zh D A0 σ17 GF 740 s.heap H locs → lv_has ls 10 [(0, .ref (A0 + 37)), (1, .ref (A0 + q1)), (2, .int x2), (3, .int x3), (4, .int x4_9), (5, .int x5_17), (6, .int x6_17)] → zfX6_sellTo_L17 k142 q1 x4_9 k56 fu17 x5_17 x6_17 σ17 = some (r0, σr) → W p l e (zR 1 40) s m [.ref (A0 + 37), .ref (A0 + q1), .int x2, .int x3].toArray below meth c H locs 0 0 (MQ below (zQi D A0 r0 σr GF 740) [.ref (A0 + 37), .ref (A0 + q1), .int x2, .int x3].toArray s 0 0 (zA A0)) (F0 m 17 ls []) := by
    intro fu17
    induction fu17 with
    | zero => intro x5_17 x6_17 σ17 H locs ls Z hl h; rw [zfX6_sellTo_L17] at h; cases h
    | succ fu17 ih17 =>
      intro x5_17 x6_17 σ17 H locs ls Z hl h
      rw [zfX6_sellTo_L17] at h
      refine lv_iload hx hb dX6_sellTo_17 (lv_at hl 6 rfl) ?_
      refine lv_aload_n hx hb dX6_sellTo_19 rfl (lv_at hl 0 rfl) ?_
      refine zw_getI F Z zC6 (a := 37) (k := 8) (by decide) zs_37 (by decide) rfl zq316 (Or.inl rfl) dX6_sellTo_20 ?_
      refine zb_icge (tgt := 142) hx hb dX6_sellTo_23 (by decide) h (fun h => ?_) (fun h => ?_)
      · exact hk142 x5_17 σ17 _ _ _ Z (lv_sub hl [1, 2, 3, 5] rfl) h
      · refine lv_iload hx hb dX6_sellTo_26 (lv_at hl 5 rfl) ?_
        refine zb_ifle (tgt := 142) hx hb dX6_sellTo_28 (by decide) h (fun h => ?_) (fun h => ?_)
        · exact hk142 x5_17 σ17 _ _ _ Z (lv_sub hl [1, 2, 3, 5] rfl) h
        · refine lv_aload_n hx hb dX6_sellTo_31 rfl (lv_at hl 0 rfl) ?_
          refine zw_getR F Z zC6 (a := 37) (k := 7) (by decide) zs_37 (by decide) rfl zg_37_7 zq315 (Or.inl rfl) dX6_sellTo_32 ?_
          refine lv_iload hx hb dX6_sellTo_35 (lv_at hl 6 rfl) ?_
          obtain ⟨hk37, h⟩ := ck_x h
          refine zw_iald F Z (by decide) zs_40 hk37 dX6_sellTo_37 ?_
          refine lv_topi (fun x7_38 ex7_38 => ?_)
          replace h := lt_w h ex7_38
          refine lv_istore (lv' := [(7, .int x7_38), (0, .ref (A0 + 37)), (1, .ref (A0 + q1)), (2, .int x2), (3, .int x3), (4, .int x4_9), (5, .int x5_17), (6, .int x6_17)]) hx hb dX6_sellTo_38 hl (by decide) rfl (fun ls hl => ?_)
          refine lv_aload_n hx hb dX6_sellTo_40 rfl (lv_at hl 2 rfl) ?_
          refine zw_getR F Z zC8 (a := q1) (k := 8) (zltS_0 hq1) (zsS_0 hq1) (by decide) rfl (zgS_8 hq1) zq247 (Or.inl rfl) dX6_sellTo_41 ?_
          refine lv_iload hx hb dX6_sellTo_44 (lv_at hl 0 rfl) ?_
          obtain ⟨hk46, h⟩ := ck_x h
          refine zw_iald F Z (zltS_4 hq1) (zsS_4 hq1) hk46 dX6_sellTo_46 ?_
          refine lv_topi (fun x8_47 ex8_47 => ?_)
          replace h := lt_w h ex8_47
          refine lv_istore (lv' := [(8, .int x8_47), (7, .int x7_38), (0, .ref (A0 + 37)), (1, .ref (A0 + q1)), (2, .int x2), (3, .int x3), (4, .int x4_9), (5, .int x5_17), (6, .int x6_17)]) hx hb dX6_sellTo_47 hl (by decide) rfl (fun ls hl => ?_)
          refine lv_iload hx hb dX6_sellTo_49 (lv_at hl 0 rfl) ?_
          refine lv_iload hx hb dX6_sellTo_51 (lv_at hl 6 rfl) ?_
          refine zb_icle (tgt := 59) hx hb dX6_sellTo_53 (by decide) h (fun h => ?_) (fun h => ?_)
          · refine lv_iload hx hb dX6_sellTo_59 (lv_at hl 7 rfl) ?_
            refine lv_aload_n hx hb dX6_sellTo_61 rfl (lv_at hl 3 rfl) ?_
            refine zw_getR F Z zC8 (a := q1) (k := 5) (zltS_0 hq1) (zsS_0 hq1) (by decide) rfl (zgS_5 hq1) zq234 (Or.inl rfl) dX6_sellTo_62 ?_
            refine lv_iload hx hb dX6_sellTo_65 (lv_at hl 1 rfl) ?_
            obtain ⟨hk67, h⟩ := ck_x h
            refine zw_iald F Z (zltS_1 hq1) (zsS_1 hq1) hk67 dX6_sellTo_67 ?_
            refine zw_zmin F hl.1 zq881 (Nat.le_of_ble_eq_true rfl) (Nat.le_of_ble_eq_true rfl) (Nat.le_of_ble_eq_true rfl) (Nat.le_of_ble_eq_true rfl) dX6_sellTo_68 ?_
            refine lv_topi (fun x9_71 ex9_71 => ?_)
            replace h := lt_w h ex9_71
            refine lv_istore (lv' := [(9, .int x9_71), (8, .int x8_47), (7, .int x7_38), (0, .ref (A0 + 37)), (1, .ref (A0 + q1)), (2, .int x2), (3, .int x3), (4, .int x4_9), (5, .int x5_17), (6, .int x6_17)]) hx hb dX6_sellTo_71 hl (by decide) rfl (fun ls hl => ?_)
            refine lv_aload_n hx hb dX6_sellTo_73 rfl (lv_at hl 4 rfl) ?_
            refine zw_getR F Z zC8 (a := q1) (k := 5) (zltS_0 hq1) (zsS_0 hq1) (by decide) rfl (zgS_5 hq1) zq234 (Or.inl rfl) dX6_sellTo_74 ?_
            refine lv_iload hx hb dX6_sellTo_77 (lv_at hl 2 rfl) ?_
            refine lv_dup2_11 hx hb dX6_sellTo_79 rfl rfl ?_
            obtain ⟨hk80, h⟩ := ck_x h
            refine zw_iald F Z (zltS_1 hq1) (zsS_1 hq1) hk80 dX6_sellTo_80 ?_
            refine lv_iload hx hb dX6_sellTo_81 (lv_at hl 0 rfl) ?_
            refine lv_isub hx hb dX6_sellTo_83 ?_
            obtain ⟨hk84, h⟩ := ck_x h
            refine zw_iast F Z (zltS_1 hq1) (zsS_1 hq1) hk84 dX6_sellTo_84 (fun σ84 _ _ eσ84 Z => ?_)
            replace h := lt_w h eσ84
            refine lv_aload_n hx hb dX6_sellTo_85 rfl (lv_at hl 4 rfl) ?_
            refine zw_getR F Z zC8 (a := q1) (k := 9) (zltS_0 hq1) (zsS_0 hq1) (by decide) rfl (zgS_9 hq1) zq252 (Or.inl rfl) dX6_sellTo_86 ?_
            refine lv_iload hx hb dX6_sellTo_89 (lv_at hl 2 rfl) ?_
            refine lv_dup2_11 hx hb dX6_sellTo_91 rfl rfl ?_
            obtain ⟨hk92, h⟩ := ck_x h
            refine zw_iald F Z (zltS_5 hq1) (zsS_5 hq1) hk92 dX6_sellTo_92 ?_
            refine lv_iload hx hb dX6_sellTo_93 (lv_at hl 0 rfl) ?_
            refine lv_iadd hx hb dX6_sellTo_95 ?_
            obtain ⟨hk96, h⟩ := ck_x h
            refine zw_iast F Z (zltS_5 hq1) (zsS_5 hq1) hk96 dX6_sellTo_96 (fun σ96 _ _ eσ96 Z => ?_)
            replace h := lt_w h eσ96
            refine lv_aload_n hx hb dX6_sellTo_97 rfl (lv_at hl 4 rfl) ?_
            refine zw_getR F Z zC8 (a := q1) (k := 7) (zltS_0 hq1) (zsS_0 hq1) (by decide) rfl (zgS_7 hq1) zq242 (Or.inl rfl) dX6_sellTo_98 ?_
            refine lv_iload hx hb dX6_sellTo_101 (lv_at hl 2 rfl) ?_
            refine lv_dup2_11 hx hb dX6_sellTo_103 rfl rfl ?_
            obtain ⟨hk104, h⟩ := ck_x h
            refine zw_iald F Z (zltS_3 hq1) (zsS_3 hq1) hk104 dX6_sellTo_104 ?_
            refine lv_iload hx hb dX6_sellTo_105 (lv_at hl 0 rfl) ?_
            refine lv_iload hx hb dX6_sellTo_107 (lv_at hl 1 rfl) ?_
            refine lv_imul hx hb dX6_sellTo_109 ?_
            refine lv_iadd hx hb dX6_sellTo_110 ?_
            obtain ⟨hk111, h⟩ := ck_x h
            refine zw_iast F Z (zltS_3 hq1) (zsS_3 hq1) hk111 dX6_sellTo_111 (fun σ111 _ _ eσ111 Z => ?_)
            replace h := lt_w h eσ111
            refine lv_aload_n hx hb dX6_sellTo_112 rfl (lv_at hl 4 rfl) ?_
            refine lv_dup hx hb dX6_sellTo_113 rfl ?_
            refine zw_getI F Z zC8 (a := q1) (k := 2) (zltS_0 hq1) (zsS_0 hq1) (by decide) rfl zq227 (Or.inl rfl) dX6_sellTo_114 ?_
            refine lv_iload hx hb dX6_sellTo_117 (lv_at hl 0 rfl) ?_
            refine lv_iload hx hb dX6_sellTo_119 (lv_at hl 7 rfl) ?_
            refine lv_iload hx hb dX6_sellTo_121 (lv_at hl 1 rfl) ?_
            refine lv_isub hx hb dX6_sellTo_123 ?_
            refine lv_imul hx hb dX6_sellTo_124 ?_
            refine lv_iadd hx hb dX6_sellTo_125 ?_
            refine zw_putI F Z zC8 (a := q1) (k := 2) (zltS_0 hq1) (zsS_0 hq1) (by decide) rfl (by decide) zq227 (Or.inl rfl) rfl ⟨rfl, rfl⟩ dX6_sellTo_126 (fun σ126 _ _ eσ126 Z => ?_)
            replace h := lt_w h eσ126
            refine lv_iload hx hb dX6_sellTo_129 (lv_at hl 8 rfl) ?_
            refine lv_iload hx hb dX6_sellTo_131 (lv_at hl 0 rfl) ?_
            refine lv_isub hx hb dX6_sellTo_133 ?_
            refine lv_topi (fun x5_134 ex5_134 => ?_)
            replace h := lt_w h ex5_134
            refine lv_istore (lv' := [(5, .int x5_134), (9, .int x9_71), (8, .int x8_47), (7, .int x7_38), (0, .ref (A0 + 37)), (1, .ref (A0 + q1)), (2, .int x2), (3, .int x3), (4, .int x4_9), (6, .int x6_17)]) hx hb dX6_sellTo_134 hl (by decide) rfl (fun ls hl => ?_)
            obtain ⟨x6_136, ex6_136⟩ : ∃ y : Int32, y = x6_17 + 1 := ⟨_, rfl⟩
            replace h := lt_w h ex6_136
            refine lv_iinc (v := x6_136) (lv' := [(6, .int x6_136), (5, .int x5_134), (9, .int x9_71), (8, .int x8_47), (7, .int x7_38), (0, .ref (A0 + 37)), (1, .ref (A0 + q1)), (2, .int x2), (3, .int x3), (4, .int x4_9)]) hx hb dX6_sellTo_136 hl (k := 9) rfl (by rw [ex6_136]; rfl) (by decide) rfl (fun ls hl => ?_)
            refine lv_goto (tgt := 17) hx hb dX6_sellTo_139 (by decide) ?_
            exact ih17 x5_134 x6_136 σ126 _ _ _ Z (lv_sub hl [5, 6, 7, 8, 9, 1, 0] rfl) h
          · exact hk56 x5_17 σ17 _ _ _ Z (lv_sub hl [3, 4, 5, 7] rfl) h
  exact hL17 NF x3 0 σ _ _ _ Z (lv_sub hl [3, 4, 5, 6, 2, 1, 0] rfl) h
set_option maxHeartbeats 4000000 in
set_option maxRecDepth 100000 in
theorem zcX6_sell (l : Launch) (D : va_G) (A0 : Nat) (q1 : Nat) (hq1 : zIsS q1) (σ : Mm) (σr : Mm) (h : zfX6_sell q1 σ = some σr) : Met l yX6_sell (zws yX6_sell cX6_sell 6 none) (zR 2 69) (zPc D A0 σ GF 740 [.ref (A0 + 37), .ref (A0 + q1)]) (zQv D A0 σr GF 740) 0 0 (zA A0) := by
  unfold zfX6_sell at h
  refine zmet (own := RX6) (by decide) rfl (Nat.le_of_ble_eq_true rfl) ?_
  intro p e s m below meth c F hr hlocks _ Z ls hl
  have hl : lv_has ls 6 [(0, .ref (A0 + 37)), (1, .ref (A0 + q1))] := hl
  have hx := F.1.1
  have hb := F.1.2.1
  have hown := F.1.2.2.2.1
  have hts := F.1.2.2.2.2
  refine lv_iconst (v := 0) hx hb dX6_sell_0 (by decide) ?_
  refine lv_istore_n (lv' := [(2, .int 0), (0, .ref (A0 + 37)), (1, .ref (A0 + q1))]) hx hb dX6_sell_1 rfl hl (by decide) rfl (fun ls hl => ?_)
  obtain ⟨k84, ek84, h⟩ := lt_x h
  have hk84 : ∀ (σ84 : Mm) (H : Heap) (locs : List Loc) (ls : Array Slot), zh D A0 σ84 GF 740 s.heap H locs → lv_has ls 6 [] → k84 σ84 = some σr → W p l e (zR 2 69) s m [.ref (A0 + 37), .ref (A0 + q1)].toArray below meth c H locs 0 0 (MQ below (zQv D A0 σr GF 740) [.ref (A0 + 37), .ref (A0 + q1)].toArray s 0 0 (zA A0)) (F0 m 84 ls []) := by
    intro  σ84 H locs ls Z hl h
    rw [ek84] at h
    try dsimp only at h
    have hq := Option.some.inj h
    exact ze_v F Z hr hlocks hq dX6_sell_84
  have hL2 : ∀ (fu2 : Nat) (x2_2 : Int32) (σ2 : Mm) (H : Heap) (locs : List Loc) (ls : Array Slot), zh D A0 σ2 GF 740 s.heap H locs → lv_has ls 6 [(0, .ref (A0 + 37)), (1, .ref (A0 + q1)), (2, .int x2_2)] → zfX6_sell_L2 k84 q1 fu2 x2_2 σ2 = some σr → W p l e (zR 2 69) s m [.ref (A0 + 37), .ref (A0 + q1)].toArray below meth c H locs 0 0 (MQ below (zQv D A0 σr GF 740) [.ref (A0 + 37), .ref (A0 + q1)].toArray s 0 0 (zA A0)) (F0 m 2 ls []) := by
    intro fu2
    induction fu2 with
    | zero => intro x2_2 σ2 H locs ls Z hl h; rw [zfX6_sell_L2] at h; cases h
    | succ fu2 ih2 =>
      intro x2_2 σ2 H locs ls Z hl h
      rw [zfX6_sell_L2] at h
      refine lv_iload_n hx hb dX6_sell_2 rfl (lv_at hl 2 rfl) ?_
      refine lv_aload_n hx hb dX6_sell_3 rfl (lv_at hl 0 rfl) ?_
      refine zw_getR F Z zC6 (a := 37) (k := 0) (by decide) zs_37 (by decide) rfl zg_37_0 zq301 (Or.inl rfl) dX6_sell_4 ?_
      refine zw_getI F Z zC0 (a := 3) (k := 1) (by decide) zs_3 (by decide) rfl zq138 (Or.inl rfl) dX6_sell_7 ?_
      refine zb_icge (tgt := 84) hx hb dX6_sell_10 (by decide) h (fun h => ?_) (fun h => ?_)
      · exact hk84 σ2 _ _ _ Z (lv_sub hl [] rfl) h
      · refine lv_aload_n hx hb dX6_sell_13 rfl (lv_at hl 0 rfl) ?_
        refine zw_getR F Z zC6 (a := 37) (k := 0) (by decide) zs_37 (by decide) rfl zg_37_0 zq301 (Or.inl rfl) dX6_sell_14 ?_
        refine zw_getR F Z zC0 (a := 3) (k := 11) (by decide) zs_3 (by decide) rfl zg_3_11 zq168 (Or.inl rfl) dX6_sell_17 ?_
        refine lv_iload_n hx hb dX6_sell_20 rfl (lv_at hl 2 rfl) ?_
        obtain ⟨hk21, h⟩ := ck_x h
        refine zw_iald F Z (by decide) zs_10 hk21 dX6_sell_21 ?_
        refine lv_topi (fun x3_22 ex3_22 => ?_)
        replace h := lt_w h ex3_22
        refine lv_istore_n (lv' := [(3, .int x3_22), (0, .ref (A0 + 37)), (1, .ref (A0 + q1)), (2, .int x2_2)]) hx hb dX6_sell_22 rfl hl (by decide) rfl (fun ls hl => ?_)
        refine lv_iconst (v := 3) hx hb dX6_sell_23 (by decide) ?_
        refine lv_istore (lv' := [(4, .int 3), (3, .int x3_22), (0, .ref (A0 + 37)), (1, .ref (A0 + q1)), (2, .int x2_2)]) hx hb dX6_sell_24 hl (by decide) rfl (fun ls hl => ?_)
        obtain ⟨k78, ek78, h⟩ := lt_x h
        have hk78 : ∀ (σ78 : Mm) (H : Heap) (locs : List Loc) (ls : Array Slot), zh D A0 σ78 GF 740 s.heap H locs → lv_has ls 6 [(0, .ref (A0 + 37)), (1, .ref (A0 + q1)), (2, .int x2_2)] → k78 σ78 = some σr → W p l e (zR 2 69) s m [.ref (A0 + 37), .ref (A0 + q1)].toArray below meth c H locs 0 0 (MQ below (zQv D A0 σr GF 740) [.ref (A0 + 37), .ref (A0 + q1)].toArray s 0 0 (zA A0)) (F0 m 78 ls []) := by
          intro  σ78 H locs ls Z hl h
          rw [ek78] at h
          try dsimp only at h
          obtain ⟨x2_78, ex2_78⟩ : ∃ y : Int32, y = x2_2 + 1 := ⟨_, rfl⟩
          replace h := lt_w h ex2_78
          refine lv_iinc (v := x2_78) (lv' := [(2, .int x2_78), (0, .ref (A0 + 37)), (1, .ref (A0 + q1))]) hx hb dX6_sell_78 hl (k := 2) rfl (by rw [ex2_78]; rfl) (by decide) rfl (fun ls hl => ?_)
          refine lv_goto (tgt := 2) hx hb dX6_sell_81 (by decide) ?_
          exact ih2 x2_78 σ78 _ _ _ Z (lv_sub hl [1, 2, 0] rfl) h
        have hL26 : ∀ (fu26 : Nat) (x4_26 : Int32) (σ26 : Mm) (H : Heap) (locs : List Loc) (ls : Array Slot), zh D A0 σ26 GF 740 s.heap H locs → lv_has ls 6 [(0, .ref (A0 + 37)), (1, .ref (A0 + q1)), (2, .int x2_2), (3, .int x3_22), (4, .int x4_26)] → zfX6_sell_L26 k78 x3_22 q1 fu26 x4_26 σ26 = some σr → W p l e (zR 2 69) s m [.ref (A0 + 37), .ref (A0 + q1)].toArray below meth c H locs 0 0 (MQ below (zQv D A0 σr GF 740) [.ref (A0 + 37), .ref (A0 + q1)].toArray s 0 0 (zA A0)) (F0 m 26 ls []) := by
          intro fu26
          induction fu26 with
          | zero => intro x4_26 σ26 H locs ls Z hl h; rw [zfX6_sell_L26] at h; cases h
          | succ fu26 ih26 =>
            intro x4_26 σ26 H locs ls Z hl h
            rw [zfX6_sell_L26] at h
            refine lv_iload hx hb dX6_sell_26 (lv_at hl 4 rfl) ?_
            refine zb_iflt (tgt := 78) hx hb dX6_sell_28 (by decide) h (fun h => ?_) (fun h => ?_)
            · exact hk78 σ26 _ _ _ Z (lv_sub hl [0, 1, 2] rfl) h
            · refine lv_iload_n hx hb dX6_sell_31 rfl (lv_at hl 3 rfl) ?_
              refine lv_iconst (v := 4) hx hb dX6_sell_32 (by decide) ?_
              refine lv_imul hx hb dX6_sell_33 ?_
              refine lv_iload hx hb dX6_sell_34 (lv_at hl 4 rfl) ?_
              refine lv_iadd hx hb dX6_sell_36 ?_
              refine lv_topi (fun x5_37 ex5_37 => ?_)
              replace h := lt_w h ex5_37
              refine lv_istore (lv' := [(5, .int x5_37), (0, .ref (A0 + 37)), (1, .ref (A0 + q1)), (2, .int x2_2), (3, .int x3_22), (4, .int x4_26)]) hx hb dX6_sell_37 hl (by decide) rfl (fun ls hl => ?_)
              refine lv_aload_n hx hb dX6_sell_39 rfl (lv_at hl 2 rfl) ?_
              refine zw_getR F Z zC8 (a := q1) (k := 11) (zltS_0 hq1) (zsS_0 hq1) (by decide) rfl (zgS_11 hq1) zq259 (Or.inl rfl) dX6_sell_40 ?_
              refine lv_iload hx hb dX6_sell_43 (lv_at hl 0 rfl) ?_
              obtain ⟨hk45, h⟩ := ck_x h
              refine zw_iald F Z (zltS_7 hq1) (zsS_7 hq1) hk45 dX6_sell_45 ?_
              obtain ⟨j72, ej72, h⟩ := lt_x h
              have hj72 : ∀ (σ72 : Mm) (H : Heap) (locs : List Loc) (ls : Array Slot), zh D A0 σ72 GF 740 s.heap H locs → lv_has ls 6 [(0, .ref (A0 + 37)), (1, .ref (A0 + q1)), (2, .int x2_2), (3, .int x3_22), (4, .int x4_26)] → j72 σ72 = some σr → W p l e (zR 2 69) s m [.ref (A0 + 37), .ref (A0 + q1)].toArray below meth c H locs 0 0 (MQ below (zQv D A0 σr GF 740) [.ref (A0 + 37), .ref (A0 + q1)].toArray s 0 0 (zA A0)) (F0 m 72 ls []) := by
                intro  σ72 H locs ls Z hl h
                rw [ej72] at h
                try dsimp only at h
                obtain ⟨x4_72, ex4_72⟩ : ∃ y : Int32, y = x4_26 + (-1) := ⟨_, rfl⟩
                replace h := lt_w h ex4_72
                refine lv_iinc (v := x4_72) (lv' := [(4, .int x4_72), (0, .ref (A0 + 37)), (1, .ref (A0 + q1)), (2, .int x2_2), (3, .int x3_22)]) hx hb dX6_sell_72 hl (k := 4) rfl (by rw [ex4_72]; rfl) (by decide) rfl (fun ls hl => ?_)
                refine lv_goto (tgt := 26) hx hb dX6_sell_75 (by decide) ?_
                exact ih26 x4_72 σ72 _ _ _ Z (lv_sub hl [1, 2, 3, 4, 0] rfl) h
              refine zb_ifle (tgt := 72) hx hb dX6_sell_46 (by decide) h (fun h => ?_) (fun h => ?_)
              · exact hj72 σ26 _ _ _ Z (lv_sub hl [1, 2, 3, 4, 5] rfl) h
              · refine lv_aload_n hx hb dX6_sell_49 rfl (lv_at hl 2 rfl) ?_
                refine zw_getR F Z zC8 (a := q1) (k := 11) (zltS_0 hq1) (zsS_0 hq1) (by decide) rfl (zgS_11 hq1) zq259 (Or.inl rfl) dX6_sell_50 ?_
                refine lv_iload hx hb dX6_sell_53 (lv_at hl 0 rfl) ?_
                refine lv_dup2_11 hx hb dX6_sell_55 rfl rfl ?_
                obtain ⟨hk56, h⟩ := ck_x h
                refine zw_iald F Z (zltS_7 hq1) (zsS_7 hq1) hk56 dX6_sell_56 ?_
                refine lv_aload_n hx hb dX6_sell_57 rfl (lv_at hl 1 rfl) ?_
                refine lv_aload_n hx hb dX6_sell_58 rfl (lv_at hl 2 rfl) ?_
                refine lv_iload_n hx hb dX6_sell_59 rfl (lv_at hl 4 rfl) ?_
                refine lv_aload_n hx hb dX6_sell_60 rfl (lv_at hl 2 rfl) ?_
                refine zw_getR F Z zC8 (a := q1) (k := 11) (zltS_0 hq1) (zsS_0 hq1) (by decide) rfl (zgS_11 hq1) zq259 (Or.inl rfl) dX6_sell_61 ?_
                refine lv_iload hx hb dX6_sell_64 (lv_at hl 0 rfl) ?_
                obtain ⟨hk66, h⟩ := ck_x h
                refine zw_iald F Z (zltS_7 hq1) (zsS_7 hq1) hk66 dX6_sell_66 ?_
                obtain ⟨r67, σ67, hc67, h⟩ := bd2_x h
                refine zc_i Z (zr_V F Z (a := 37) (As := [.ref (A0 + q1), .int x3_22, .int (σ26 (q1 + 7) (ix x5_37))]) (zcX6_sellTo l D A0 q1 x3_22 (σ26 (q1 + 7) (ix x5_37)) hq1 σ26 r67 σ67 hc67) zBX6_sellTo zq915 (by decide) zs_37 zC6.1 rfl ⟨⟨rfl, rfl⟩, Nat.le_of_ble_eq_true rfl, Nat.le_of_ble_eq_true rfl⟩ hl.1 rfl (Nat.le_of_ble_eq_true rfl) dX6_sell_67 ⟨Nat.le_of_ble_eq_true rfl, Nat.le_of_ble_eq_true rfl⟩) (fun _ _ Z => ?_)
                refine lv_isub hx hb dX6_sell_70 ?_
                obtain ⟨hk71, h⟩ := ck_x h
                refine zw_iast F Z (zltS_7 hq1) (zsS_7 hq1) hk71 dX6_sell_71 (fun σ71 _ _ eσ71 Z => ?_)
                replace h := lt_w h eσ71
                exact hj72 σ71 _ _ _ Z (lv_sub hl [1, 2, 3, 4, 5] rfl) h
        exact hL26 NF 3 σ2 _ _ _ Z (lv_sub hl [2, 3, 4, 1, 0] rfl) h
  exact hL2 NF 0 σ _ _ _ Z (lv_sub hl [1, 2, 0] rfl) h
set_option maxHeartbeats 4000000 in
set_option maxRecDepth 100000 in
theorem zcX6_leadBoard (l : Launch) (D : va_G) (A0 : Nat) (q1 : Nat) (hq1 : zIsS q1) (σ : Mm) (σr : Mm) (h : zfX6_leadBoard q1 σ = some σr) : Met l yX6_leadBoard (zws yX6_leadBoard cX6_leadBoard 5 none) (zR 0 0) (zPc D A0 σ GF 740 [.ref (A0 + 37), .ref (A0 + q1)]) (zQv D A0 σr GF 740) 0 0 (zA A0) := by
  unfold zfX6_leadBoard at h
  refine zmet (own := RX6) (by decide) rfl (Nat.le_of_ble_eq_true rfl) ?_
  intro p e s m below meth c F hr hlocks _ Z ls hl
  have hl : lv_has ls 5 [(0, .ref (A0 + 37)), (1, .ref (A0 + q1))] := hl
  have hx := F.1.1
  have hb := F.1.2.1
  have hown := F.1.2.2.2.1
  have hts := F.1.2.2.2.2
  refine lv_iconst (v := 0) hx hb dX6_leadBoard_0 (by decide) ?_
  refine lv_istore_n (lv' := [(2, .int 0), (0, .ref (A0 + 37)), (1, .ref (A0 + q1))]) hx hb dX6_leadBoard_1 rfl hl (by decide) rfl (fun ls hl => ?_)
  refine lv_iconst (v := 0) hx hb dX6_leadBoard_2 (by decide) ?_
  refine lv_istore_n (lv' := [(3, .int 0), (2, .int 0), (0, .ref (A0 + 37)), (1, .ref (A0 + q1))]) hx hb dX6_leadBoard_3 rfl hl (by decide) rfl (fun ls hl => ?_)
  obtain ⟨k94, ek94, h⟩ := lt_x h
  have hk94 : ∀ (x2_94 : Int32) (σ94 : Mm) (H : Heap) (locs : List Loc) (ls : Array Slot), zh D A0 σ94 GF 740 s.heap H locs → lv_has ls 5 [(0, .ref (A0 + 37)), (1, .ref (A0 + q1)), (2, .int x2_94)] → k94 x2_94 σ94 = some σr → W p l e (zR 0 0) s m [.ref (A0 + 37), .ref (A0 + q1)].toArray below meth c H locs 0 0 (MQ below (zQv D A0 σr GF 740) [.ref (A0 + 37), .ref (A0 + q1)].toArray s 0 0 (zA A0)) (F0 m 94 ls []) := by
    intro x2_94 σ94 H locs ls Z hl h
    rw [ek94] at h
    try dsimp only at h
    refine lv_aload_n hx hb dX6_leadBoard_94 rfl (lv_at hl 0 rfl) ?_
    refine lv_iload_n hx hb dX6_leadBoard_95 rfl (lv_at hl 2 rfl) ?_
    obtain ⟨j104, ej104, h⟩ := lt_x h
    have hj104 : ∀ (y0_104 : Int32) (σ104 : Mm) (H : Heap) (locs : List Loc) (ls : Array Slot), zh D A0 σ104 GF 740 s.heap H locs → lv_has ls 5 [(0, .ref (A0 + 37)), (1, .ref (A0 + q1)), (2, .int x2_94)] → j104 y0_104 σ104 = some σr → W p l e (zR 0 0) s m [.ref (A0 + 37), .ref (A0 + q1)].toArray below meth c H locs 0 0 (MQ below (zQv D A0 σr GF 740) [.ref (A0 + 37), .ref (A0 + q1)].toArray s 0 0 (zA A0)) (F0 m 104 ls [.int y0_104, .ref (A0 + 37)]) := by
      intro y0_104 σ104 H locs ls Z hl h
      rw [ej104] at h
      try dsimp only at h
      obtain ⟨hk104, h⟩ := ck_x h
      refine zw_putI F Z zC6 (a := 37) (k := 6) (by decide) zs_37 (by decide) rfl (by decide) zq314 (Or.inl rfl) rfl (z_nb hk104) dX6_leadBoard_104 (fun σ104_1 _ _ eσ104_1 Z => ?_)
      replace h := lt_w h eσ104_1
      refine lv_aload_n hx hb dX6_leadBoard_107 rfl (lv_at hl 0 rfl) ?_
      refine zw_getI F Z zC6 (a := 37) (k := 6) (by decide) zs_37 (by decide) rfl zq314 (Or.inl rfl) dX6_leadBoard_108 ?_
      refine zb_ifeq (tgt := 126) hx hb dX6_leadBoard_111 (by decide) h (fun h => ?_) (fun h => ?_)
      · refine lv_aload_n hx hb dX6_leadBoard_126 rfl (lv_at hl 0 rfl) ?_
        refine zw_getI F Z zC6 (a := 37) (k := 4) (by decide) zs_37 (by decide) rfl zq309 (Or.inl rfl) dX6_leadBoard_127 ?_
        refine lv_topi (fun y_130 ey_130 => ?_)
        replace h := lt_w h ey_130
        refine zsp h (fun hs130_0 h => ?_) (fun hs130_0 h => ?_)
        · refine lv_lookup (tgt := 156) (off := 26) hx hb dX6_leadBoard_130 (by decide) (by first | (rw [hs130_0]; done) | (rw [hs130_0]; decide)) (by decide) ?_
          refine lv_aload_n hx hb dX6_leadBoard_156 rfl (lv_at hl 1 rfl) ?_
          refine lv_aload_n hx hb dX6_leadBoard_157 rfl (lv_at hl 0 rfl) ?_
          refine zw_getR F Z zC6 (a := 37) (k := 9) (by decide) zs_37 (by decide) rfl zg_37_9 zq317 (Or.inl rfl) dX6_leadBoard_158 ?_
          refine lv_iconst (v := 0) hx hb dX6_leadBoard_161 (by decide) ?_
          refine zw_iald F Z (by decide) zs_41 (by decide) dX6_leadBoard_162 ?_
          refine zw_putI F Z zC8 (a := q1) (k := 0) (zltS_0 hq1) (zsS_0 hq1) (by decide) rfl (by decide) zq220 (Or.inl rfl) rfl ⟨rfl, rfl⟩ dX6_leadBoard_163 (fun σ163 _ _ eσ163 Z => ?_)
          replace h := lt_w h eσ163
          refine lv_goto (tgt := 198) hx hb dX6_leadBoard_166 (by decide) ?_
          have hq := Option.some.inj h
          exact ze_v F Z hr hlocks hq dX6_leadBoard_198
        · refine zsp h (fun hs130_1 h => ?_) (fun hs130_1 h => ?_)
          · refine lv_lookup (tgt := 169) (off := 39) hx hb dX6_leadBoard_130 (by decide) (by first | (rw [hs130_1]; done) | (rw [hs130_1]; decide)) (by decide) ?_
            refine lv_aload_n hx hb dX6_leadBoard_169 rfl (lv_at hl 1 rfl) ?_
            refine lv_aload_n hx hb dX6_leadBoard_170 rfl (lv_at hl 0 rfl) ?_
            refine zw_getR F Z zC6 (a := 37) (k := 9) (by decide) zs_37 (by decide) rfl zg_37_9 zq317 (Or.inl rfl) dX6_leadBoard_171 ?_
            refine lv_iload_n hx hb dX6_leadBoard_174 rfl (lv_at hl 2 rfl) ?_
            refine lv_iconst (v := 1) hx hb dX6_leadBoard_175 (by decide) ?_
            refine lv_isub hx hb dX6_leadBoard_176 ?_
            obtain ⟨hk177, h⟩ := ck_x h
            refine zw_iald F Z (by decide) zs_41 hk177 dX6_leadBoard_177 ?_
            refine zw_putI F Z zC8 (a := q1) (k := 0) (zltS_0 hq1) (zsS_0 hq1) (by decide) rfl (by decide) zq220 (Or.inl rfl) rfl ⟨rfl, rfl⟩ dX6_leadBoard_178 (fun σ178 _ _ eσ178 Z => ?_)
            replace h := lt_w h eσ178
            refine lv_goto (tgt := 198) hx hb dX6_leadBoard_181 (by decide) ?_
            have hq := Option.some.inj h
            exact ze_v F Z hr hlocks hq dX6_leadBoard_198
          · refine lv_lookup (tgt := 184) (off := 54) hx hb dX6_leadBoard_130 (by decide) ((lv_osw hs130_0 (a := 0) (by decide)).trans ((lv_osw hs130_1 (a := 1) (by decide)).trans (rfl))) (by decide) ?_
            refine lv_aload_n hx hb dX6_leadBoard_184 rfl (lv_at hl 1 rfl) ?_
            refine lv_aload_n hx hb dX6_leadBoard_185 rfl (lv_at hl 0 rfl) ?_
            refine zw_getR F Z zC6 (a := 37) (k := 9) (by decide) zs_37 (by decide) rfl zg_37_9 zq317 (Or.inl rfl) dX6_leadBoard_186 ?_
            refine lv_iload_n hx hb dX6_leadBoard_189 rfl (lv_at hl 2 rfl) ?_
            refine lv_iconst (v := 1) hx hb dX6_leadBoard_190 (by decide) ?_
            refine lv_isub hx hb dX6_leadBoard_191 ?_
            refine lv_iconst (v := 2) hx hb dX6_leadBoard_192 (by decide) ?_
            refine lv_idiv hx hb dX6_leadBoard_193 (by decide) ?_
            obtain ⟨hk194, h⟩ := ck_x h
            refine zw_iald F Z (by decide) zs_41 hk194 dX6_leadBoard_194 ?_
            refine zw_putI F Z zC8 (a := q1) (k := 0) (zltS_0 hq1) (zsS_0 hq1) (by decide) rfl (by decide) zq220 (Or.inl rfl) rfl ⟨rfl, rfl⟩ dX6_leadBoard_195 (fun σ195 _ _ eσ195 Z => ?_)
            replace h := lt_w h eσ195
            have hq := Option.some.inj h
            exact ze_v F Z hr hlocks hq dX6_leadBoard_198
      · refine lv_aload_n hx hb dX6_leadBoard_114 rfl (lv_at hl 1 rfl) ?_
        refine lv_aload_n hx hb dX6_leadBoard_115 rfl (lv_at hl 0 rfl) ?_
        refine zw_getR F Z zC6 (a := 37) (k := 0) (by decide) zs_37 (by decide) rfl zg_37_0 zq301 (Or.inl rfl) dX6_leadBoard_116 ?_
        refine zw_getI F Z zC0 (a := 3) (k := 4) (by decide) zs_3 (by decide) rfl zq146 (Or.inl rfl) dX6_leadBoard_119 ?_
        refine zw_putI F Z zC8 (a := q1) (k := 0) (zltS_0 hq1) (zsS_0 hq1) (by decide) rfl (by decide) zq220 (Or.inl rfl) rfl ⟨rfl, rfl⟩ dX6_leadBoard_122 (fun σ122 _ _ eσ122 Z => ?_)
        replace h := lt_w h eσ122
        have hq := Option.some.inj h
        exact ze_v F Z hr hlocks hq dX6_leadBoard_125
    refine zb_ifne (tgt := 103) hx hb dX6_leadBoard_96 (by decide) h (fun h => ?_) (fun h => ?_)
    · refine lv_iconst (v := 0) hx hb dX6_leadBoard_103 (by decide) ?_
      exact hj104 0 σ94 _ _ _ Z (lv_sub hl [0, 1, 2] rfl) h
    · refine lv_iconst (v := 1) hx hb dX6_leadBoard_99 (by decide) ?_
      refine lv_goto (tgt := 104) hx hb dX6_leadBoard_100 (by decide) ?_
      exact hj104 1 σ94 _ _ _ Z (lv_sub hl [0, 1, 2] rfl) h
  have hL4 : ∀ (fu4 : Nat) (x2_4 : Int32) (x3_4 : Int32) (σ4 : Mm) (H : Heap) (locs : List Loc) (ls : Array Slot), zh D A0 σ4 GF 740 s.heap H locs → lv_has ls 5 [(0, .ref (A0 + 37)), (1, .ref (A0 + q1)), (2, .int x2_4), (3, .int x3_4)] → zfX6_leadBoard_L4 k94 q1 fu4 x2_4 x3_4 σ4 = some σr → W p l e (zR 0 0) s m [.ref (A0 + 37), .ref (A0 + q1)].toArray below meth c H locs 0 0 (MQ below (zQv D A0 σr GF 740) [.ref (A0 + 37), .ref (A0 + q1)].toArray s 0 0 (zA A0)) (F0 m 4 ls []) := by
    intro fu4
    induction fu4 with
    | zero => intro x2_4 x3_4 σ4 H locs ls Z hl h; rw [zfX6_leadBoard_L4] at h; cases h
    | succ fu4 ih4 =>
      intro x2_4 x3_4 σ4 H locs ls Z hl h
      rw [zfX6_leadBoard_L4] at h
      refine lv_iload_n hx hb dX6_leadBoard_4 rfl (lv_at hl 3 rfl) ?_
      refine lv_aload_n hx hb dX6_leadBoard_5 rfl (lv_at hl 0 rfl) ?_
      refine zw_getI F Z zC6 (a := 37) (k := 5) (by decide) zs_37 (by decide) rfl zq311 (Or.inl rfl) dX6_leadBoard_6 ?_
      refine zb_icge (tgt := 94) hx hb dX6_leadBoard_9 (by decide) h (fun h => ?_) (fun h => ?_)
      · exact hk94 x2_4 σ4 _ _ _ Z (lv_sub hl [0, 1, 2] rfl) h
      · refine lv_aload_n hx hb dX6_leadBoard_12 rfl (lv_at hl 1 rfl) ?_
        refine zw_getR F Z zC8 (a := q1) (k := 5) (zltS_0 hq1) (zsS_0 hq1) (by decide) rfl (zgS_5 hq1) zq234 (Or.inl rfl) dX6_leadBoard_13 ?_
        refine lv_iload_n hx hb dX6_leadBoard_16 rfl (lv_at hl 3 rfl) ?_
        obtain ⟨hk17, h⟩ := ck_x h
        refine zw_iald F Z (zltS_1 hq1) (zsS_1 hq1) hk17 dX6_leadBoard_17 ?_
        obtain ⟨j88, ej88, h⟩ := lt_x h
        have hj88 : ∀ (x2_88 : Int32) (σ88 : Mm) (H : Heap) (locs : List Loc) (ls : Array Slot), zh D A0 σ88 GF 740 s.heap H locs → lv_has ls 5 [(0, .ref (A0 + 37)), (1, .ref (A0 + q1)), (2, .int x2_88), (3, .int x3_4)] → j88 x2_88 σ88 = some σr → W p l e (zR 0 0) s m [.ref (A0 + 37), .ref (A0 + q1)].toArray below meth c H locs 0 0 (MQ below (zQv D A0 σr GF 740) [.ref (A0 + 37), .ref (A0 + q1)].toArray s 0 0 (zA A0)) (F0 m 88 ls []) := by
          intro x2_88 σ88 H locs ls Z hl h
          rw [ej88] at h
          try dsimp only at h
          obtain ⟨x3_88, ex3_88⟩ : ∃ y : Int32, y = x3_4 + 1 := ⟨_, rfl⟩
          replace h := lt_w h ex3_88
          refine lv_iinc (v := x3_88) (lv' := [(3, .int x3_88), (0, .ref (A0 + 37)), (1, .ref (A0 + q1)), (2, .int x2_88)]) hx hb dX6_leadBoard_88 hl (k := 3) rfl (by rw [ex3_88]; rfl) (by decide) rfl (fun ls hl => ?_)
          refine lv_goto (tgt := 4) hx hb dX6_leadBoard_91 (by decide) ?_
          exact ih4 x2_88 x3_88 σ88 _ _ _ Z (lv_sub hl [1, 2, 3, 0] rfl) h
        refine zb_ifne (tgt := 24) hx hb dX6_leadBoard_18 (by decide) h (fun h => ?_) (fun h => ?_)
        · refine lv_iload_n hx hb dX6_leadBoard_24 rfl (lv_at hl 2 rfl) ?_
          refine lv_istore (lv' := [(4, .int x2_4), (0, .ref (A0 + 37)), (1, .ref (A0 + q1)), (2, .int x2_4), (3, .int x3_4)]) hx hb dX6_leadBoard_25 hl (by decide) rfl (fun ls hl => ?_)
          obtain ⟨k72, ek72, h⟩ := lt_x h
          have hk72 : ∀ (x4_72 : Int32) (σ72 : Mm) (H : Heap) (locs : List Loc) (ls : Array Slot), zh D A0 σ72 GF 740 s.heap H locs → lv_has ls 5 [(0, .ref (A0 + 37)), (1, .ref (A0 + q1)), (2, .int x2_4), (3, .int x3_4), (4, .int x4_72)] → k72 x4_72 σ72 = some σr → W p l e (zR 0 0) s m [.ref (A0 + 37), .ref (A0 + q1)].toArray below meth c H locs 0 0 (MQ below (zQv D A0 σr GF 740) [.ref (A0 + 37), .ref (A0 + q1)].toArray s 0 0 (zA A0)) (F0 m 72 ls []) := by
            intro x4_72 σ72 H locs ls Z hl h
            rw [ek72] at h
            try dsimp only at h
            refine lv_aload_n hx hb dX6_leadBoard_72 rfl (lv_at hl 0 rfl) ?_
            refine zw_getR F Z zC6 (a := 37) (k := 9) (by decide) zs_37 (by decide) rfl zg_37_9 zq317 (Or.inl rfl) dX6_leadBoard_73 ?_
            refine lv_iload hx hb dX6_leadBoard_76 (lv_at hl 4 rfl) ?_
            refine lv_aload_n hx hb dX6_leadBoard_78 rfl (lv_at hl 1 rfl) ?_
            refine zw_getR F Z zC8 (a := q1) (k := 8) (zltS_0 hq1) (zsS_0 hq1) (by decide) rfl (zgS_8 hq1) zq247 (Or.inl rfl) dX6_leadBoard_79 ?_
            refine lv_iload_n hx hb dX6_leadBoard_82 rfl (lv_at hl 3 rfl) ?_
            obtain ⟨hk83, h⟩ := ck_x h
            refine zw_iald F Z (zltS_4 hq1) (zsS_4 hq1) hk83 dX6_leadBoard_83 ?_
            obtain ⟨hk84, h⟩ := ck_x h
            refine zw_iast F Z (by decide) zs_41 hk84 dX6_leadBoard_84 (fun σ84 _ _ eσ84 Z => ?_)
            replace h := lt_w h eσ84
            obtain ⟨x2_85, ex2_85⟩ : ∃ y : Int32, y = x2_4 + 1 := ⟨_, rfl⟩
            replace h := lt_w h ex2_85
            refine lv_iinc (v := x2_85) (lv' := [(2, .int x2_85), (0, .ref (A0 + 37)), (1, .ref (A0 + q1)), (3, .int x3_4), (4, .int x4_72)]) hx hb dX6_leadBoard_85 hl (k := 2) rfl (by rw [ex2_85]; rfl) (by decide) rfl (fun ls hl => ?_)
            exact hj88 x2_85 σ84 _ _ _ Z (lv_sub hl [1, 2, 0, 3] rfl) h
          have hL27 : ∀ (fu27 : Nat) (x4_27 : Int32) (σ27 : Mm) (H : Heap) (locs : List Loc) (ls : Array Slot), zh D A0 σ27 GF 740 s.heap H locs → lv_has ls 5 [(0, .ref (A0 + 37)), (1, .ref (A0 + q1)), (2, .int x2_4), (3, .int x3_4), (4, .int x4_27)] → zfX6_leadBoard_L27 k72 x3_4 q1 fu27 x4_27 σ27 = some σr → W p l e (zR 0 0) s m [.ref (A0 + 37), .ref (A0 + q1)].toArray below meth c H locs 0 0 (MQ below (zQv D A0 σr GF 740) [.ref (A0 + 37), .ref (A0 + q1)].toArray s 0 0 (zA A0)) (F0 m 27 ls []) := by
            intro fu27
            induction fu27 with
            | zero => intro x4_27 σ27 H locs ls Z hl h; rw [zfX6_leadBoard_L27] at h; cases h
            | succ fu27 ih27 =>
              intro x4_27 σ27 H locs ls Z hl h
              rw [zfX6_leadBoard_L27] at h
              refine lv_iload hx hb dX6_leadBoard_27 (lv_at hl 4 rfl) ?_
              refine zb_ifle (tgt := 72) hx hb dX6_leadBoard_29 (by decide) h (fun h => ?_) (fun h => ?_)
              · exact hk72 x4_27 σ27 _ _ _ Z (lv_sub hl [0, 1, 2, 3, 4] rfl) h
              · refine lv_aload_n hx hb dX6_leadBoard_32 rfl (lv_at hl 0 rfl) ?_
                refine zw_getR F Z zC6 (a := 37) (k := 9) (by decide) zs_37 (by decide) rfl zg_37_9 zq317 (Or.inl rfl) dX6_leadBoard_33 ?_
                refine lv_iload hx hb dX6_leadBoard_36 (lv_at hl 4 rfl) ?_
                refine lv_iconst (v := 1) hx hb dX6_leadBoard_38 (by decide) ?_
                refine lv_isub hx hb dX6_leadBoard_39 ?_
                obtain ⟨hk40, h⟩ := ck_x h
                refine zw_iald F Z (by decide) zs_41 hk40 dX6_leadBoard_40 ?_
                refine lv_aload_n hx hb dX6_leadBoard_41 rfl (lv_at hl 1 rfl) ?_
                refine zw_getR F Z zC8 (a := q1) (k := 8) (zltS_0 hq1) (zsS_0 hq1) (by decide) rfl (zgS_8 hq1) zq247 (Or.inl rfl) dX6_leadBoard_42 ?_
                refine lv_iload_n hx hb dX6_leadBoard_45 rfl (lv_at hl 3 rfl) ?_
                obtain ⟨hk46, h⟩ := ck_x h
                refine zw_iald F Z (zltS_4 hq1) (zsS_4 hq1) hk46 dX6_leadBoard_46 ?_
                refine zb_icle (tgt := 72) hx hb dX6_leadBoard_47 (by decide) h (fun h => ?_) (fun h => ?_)
                · exact hk72 x4_27 σ27 _ _ _ Z (lv_sub hl [0, 1, 2, 3, 4] rfl) h
                · refine lv_aload_n hx hb dX6_leadBoard_50 rfl (lv_at hl 0 rfl) ?_
                  refine zw_getR F Z zC6 (a := 37) (k := 9) (by decide) zs_37 (by decide) rfl zg_37_9 zq317 (Or.inl rfl) dX6_leadBoard_51 ?_
                  refine lv_iload hx hb dX6_leadBoard_54 (lv_at hl 4 rfl) ?_
                  refine lv_aload_n hx hb dX6_leadBoard_56 rfl (lv_at hl 0 rfl) ?_
                  refine zw_getR F Z zC6 (a := 37) (k := 9) (by decide) zs_37 (by decide) rfl zg_37_9 zq317 (Or.inl rfl) dX6_leadBoard_57 ?_
                  refine lv_iload hx hb dX6_leadBoard_60 (lv_at hl 4 rfl) ?_
                  refine lv_iconst (v := 1) hx hb dX6_leadBoard_62 (by decide) ?_
                  refine lv_isub hx hb dX6_leadBoard_63 ?_
                  obtain ⟨hk64, h⟩ := ck_x h
                  refine zw_iald F Z (by decide) zs_41 hk64 dX6_leadBoard_64 ?_
                  obtain ⟨hk65, h⟩ := ck_x h
                  refine zw_iast F Z (by decide) zs_41 hk65 dX6_leadBoard_65 (fun σ65 _ _ eσ65 Z => ?_)
                  replace h := lt_w h eσ65
                  obtain ⟨x4_66, ex4_66⟩ : ∃ y : Int32, y = x4_27 + (-1) := ⟨_, rfl⟩
                  replace h := lt_w h ex4_66
                  refine lv_iinc (v := x4_66) (lv' := [(4, .int x4_66), (0, .ref (A0 + 37)), (1, .ref (A0 + q1)), (2, .int x2_4), (3, .int x3_4)]) hx hb dX6_leadBoard_66 hl (k := 4) rfl (by rw [ex4_66]; rfl) (by decide) rfl (fun ls hl => ?_)
                  refine lv_goto (tgt := 27) hx hb dX6_leadBoard_69 (by decide) ?_
                  exact ih27 x4_66 σ65 _ _ _ Z (lv_sub hl [1, 2, 3, 4, 0] rfl) h
          exact hL27 NF x2_4 σ4 _ _ _ Z (lv_sub hl [1, 2, 3, 4, 0] rfl) h
        · refine lv_goto (tgt := 88) hx hb dX6_leadBoard_21 (by decide) ?_
          exact hj88 x2_4 σ4 _ _ _ Z (lv_sub hl [0, 1, 2, 3] rfl) h
  exact hL4 NF 0 0 σ _ _ _ Z (lv_sub hl [2, 3, 1, 0] rfl) h
set_option maxHeartbeats 4000000 in
set_option maxRecDepth 100000 in
theorem zcX6_closeDay (l : Launch) (D : va_G) (A0 : Nat) (q1 : Nat) (hq1 : zIsS q1) (σ : Mm) (σr : Mm) (h : zfX6_closeDay q1 σ = some σr) : Met l yX6_closeDay (zws yX6_closeDay cX6_closeDay 6 none) (zR 1 40) (zPc D A0 σ GF 740 [.ref (A0 + 37), .ref (A0 + q1)]) (zQv D A0 σr GF 740) 0 0 (zA A0) := by
  unfold zfX6_closeDay at h
  refine zmet (own := RX6) (by decide) rfl (Nat.le_of_ble_eq_true rfl) ?_
  intro p e s m below meth c F hr hlocks _ Z ls hl
  have hl : lv_has ls 6 [(0, .ref (A0 + 37)), (1, .ref (A0 + q1))] := hl
  have hx := F.1.1
  have hb := F.1.2.1
  have hown := F.1.2.2.2.1
  have hts := F.1.2.2.2.2
  refine lv_iconst (v := 0) hx hb dX6_closeDay_0 (by decide) ?_
  refine lv_istore_n (lv' := [(2, .int 0), (0, .ref (A0 + 37)), (1, .ref (A0 + q1))]) hx hb dX6_closeDay_1 rfl hl (by decide) rfl (fun ls hl => ?_)
  obtain ⟨k55, ek55, h⟩ := lt_x h
  have hk55 : ∀ (σ55 : Mm) (H : Heap) (locs : List Loc) (ls : Array Slot), zh D A0 σ55 GF 740 s.heap H locs → lv_has ls 6 [(0, .ref (A0 + 37)), (1, .ref (A0 + q1))] → k55 σ55 = some σr → W p l e (zR 1 40) s m [.ref (A0 + 37), .ref (A0 + q1)].toArray below meth c H locs 0 0 (MQ below (zQv D A0 σr GF 740) [.ref (A0 + 37), .ref (A0 + q1)].toArray s 0 0 (zA A0)) (F0 m 55 ls []) := by
    intro  σ55 H locs ls Z hl h
    rw [ek55] at h
    try dsimp only at h
    refine lv_iconst (v := 0) hx hb dX6_closeDay_55 (by decide) ?_
    refine lv_istore_n (lv' := [(2, .int 0), (0, .ref (A0 + 37)), (1, .ref (A0 + q1))]) hx hb dX6_closeDay_56 rfl hl (by decide) rfl (fun ls hl => ?_)
    obtain ⟨k162, ek162, h⟩ := lt_x h
    have hk162 : ∀ (σ162 : Mm) (H : Heap) (locs : List Loc) (ls : Array Slot), zh D A0 σ162 GF 740 s.heap H locs → lv_has ls 6 [(1, .ref (A0 + q1))] → k162 σ162 = some σr → W p l e (zR 1 40) s m [.ref (A0 + 37), .ref (A0 + q1)].toArray below meth c H locs 0 0 (MQ below (zQv D A0 σr GF 740) [.ref (A0 + 37), .ref (A0 + q1)].toArray s 0 0 (zA A0)) (F0 m 162 ls []) := by
      intro  σ162 H locs ls Z hl h
      rw [ek162] at h
      try dsimp only at h
      refine lv_aload_n hx hb dX6_closeDay_162 rfl (lv_at hl 0 rfl) ?_
      refine lv_dup hx hb dX6_closeDay_163 rfl ?_
      refine zw_getI F Z zC8 (a := q1) (k := 1) (zltS_0 hq1) (zsS_0 hq1) (by decide) rfl zq224 (Or.inl rfl) dX6_closeDay_164 ?_
      refine lv_iconst (v := 1) hx hb dX6_closeDay_167 (by decide) ?_
      refine lv_iadd hx hb dX6_closeDay_168 ?_
      refine zw_putI F Z zC8 (a := q1) (k := 1) (zltS_0 hq1) (zsS_0 hq1) (by decide) rfl (by decide) zq224 (Or.inl rfl) rfl ⟨rfl, rfl⟩ dX6_closeDay_169 (fun σ169 _ _ eσ169 Z => ?_)
      replace h := lt_w h eσ169
      have hq := Option.some.inj h
      exact ze_v F Z hr hlocks hq dX6_closeDay_172
    have hL57 : ∀ (fu57 : Nat) (x2_57 : Int32) (σ57 : Mm) (H : Heap) (locs : List Loc) (ls : Array Slot), zh D A0 σ57 GF 740 s.heap H locs → lv_has ls 6 [(0, .ref (A0 + 37)), (1, .ref (A0 + q1)), (2, .int x2_57)] → zfX6_closeDay_L57 k162 q1 fu57 x2_57 σ57 = some σr → W p l e (zR 1 40) s m [.ref (A0 + 37), .ref (A0 + q1)].toArray below meth c H locs 0 0 (MQ below (zQv D A0 σr GF 740) [.ref (A0 + 37), .ref (A0 + q1)].toArray s 0 0 (zA A0)) (F0 m 57 ls []) := by
      intro fu57
      induction fu57 with
      | zero => intro x2_57 σ57 H locs ls Z hl h; rw [zfX6_closeDay_L57] at h; cases h
      | succ fu57 ih57 =>
        intro x2_57 σ57 H locs ls Z hl h
        rw [zfX6_closeDay_L57] at h
        refine lv_iload_n hx hb dX6_closeDay_57 rfl (lv_at hl 2 rfl) ?_
        refine lv_aload_n hx hb dX6_closeDay_58 rfl (lv_at hl 0 rfl) ?_
        refine zw_getR F Z zC6 (a := 37) (k := 0) (by decide) zs_37 (by decide) rfl zg_37_0 zq301 (Or.inl rfl) dX6_closeDay_59 ?_
        refine zw_getI F Z zC0 (a := 3) (k := 1) (by decide) zs_3 (by decide) rfl zq138 (Or.inl rfl) dX6_closeDay_62 ?_
        refine zb_icge (tgt := 162) hx hb dX6_closeDay_65 (by decide) h (fun h => ?_) (fun h => ?_)
        · exact hk162 σ57 _ _ _ Z (lv_sub hl [1] rfl) h
        · refine lv_iload_n hx hb dX6_closeDay_68 rfl (lv_at hl 2 rfl) ?_
          refine lv_iconst (v := 4) hx hb dX6_closeDay_69 (by decide) ?_
          refine lv_imul hx hb dX6_closeDay_70 ?_
          refine lv_topi (fun x3_71 ex3_71 => ?_)
          replace h := lt_w h ex3_71
          refine lv_istore_n (lv' := [(3, .int x3_71), (0, .ref (A0 + 37)), (1, .ref (A0 + q1)), (2, .int x2_57)]) hx hb dX6_closeDay_71 rfl hl (by decide) rfl (fun ls hl => ?_)
          refine lv_iconst (v := 3) hx hb dX6_closeDay_72 (by decide) ?_
          refine lv_istore (lv' := [(4, .int 3), (3, .int x3_71), (0, .ref (A0 + 37)), (1, .ref (A0 + q1)), (2, .int x2_57)]) hx hb dX6_closeDay_73 hl (by decide) rfl (fun ls hl => ?_)
          obtain ⟨k156, ek156, h⟩ := lt_x h
          have hk156 : ∀ (σ156 : Mm) (H : Heap) (locs : List Loc) (ls : Array Slot), zh D A0 σ156 GF 740 s.heap H locs → lv_has ls 6 [(0, .ref (A0 + 37)), (1, .ref (A0 + q1)), (2, .int x2_57)] → k156 σ156 = some σr → W p l e (zR 1 40) s m [.ref (A0 + 37), .ref (A0 + q1)].toArray below meth c H locs 0 0 (MQ below (zQv D A0 σr GF 740) [.ref (A0 + 37), .ref (A0 + q1)].toArray s 0 0 (zA A0)) (F0 m 156 ls []) := by
            intro  σ156 H locs ls Z hl h
            rw [ek156] at h
            try dsimp only at h
            obtain ⟨x2_156, ex2_156⟩ : ∃ y : Int32, y = x2_57 + 1 := ⟨_, rfl⟩
            replace h := lt_w h ex2_156
            refine lv_iinc (v := x2_156) (lv' := [(2, .int x2_156), (0, .ref (A0 + 37)), (1, .ref (A0 + q1))]) hx hb dX6_closeDay_156 hl (k := 2) rfl (by rw [ex2_156]; rfl) (by decide) rfl (fun ls hl => ?_)
            refine lv_goto (tgt := 57) hx hb dX6_closeDay_159 (by decide) ?_
            exact ih57 x2_156 σ156 _ _ _ Z (lv_sub hl [1, 2, 0] rfl) h
          have hL75 : ∀ (fu75 : Nat) (x4_75 : Int32) (σ75 : Mm) (H : Heap) (locs : List Loc) (ls : Array Slot), zh D A0 σ75 GF 740 s.heap H locs → lv_has ls 6 [(0, .ref (A0 + 37)), (1, .ref (A0 + q1)), (2, .int x2_57), (3, .int x3_71), (4, .int x4_75)] → zfX6_closeDay_L75 k156 x3_71 q1 x2_57 fu75 x4_75 σ75 = some σr → W p l e (zR 1 40) s m [.ref (A0 + 37), .ref (A0 + q1)].toArray below meth c H locs 0 0 (MQ below (zQv D A0 σr GF 740) [.ref (A0 + 37), .ref (A0 + q1)].toArray s 0 0 (zA A0)) (F0 m 75 ls []) := by
            intro fu75
            induction fu75 with
            | zero => intro x4_75 σ75 H locs ls Z hl h; rw [zfX6_closeDay_L75] at h; cases h
            | succ fu75 ih75 =>
              intro x4_75 σ75 H locs ls Z hl h
              rw [zfX6_closeDay_L75] at h
              refine lv_iload hx hb dX6_closeDay_75 (lv_at hl 4 rfl) ?_
              refine zb_iflt (tgt := 156) hx hb dX6_closeDay_77 (by decide) h (fun h => ?_) (fun h => ?_)
              · exact hk156 σ75 _ _ _ Z (lv_sub hl [0, 1, 2] rfl) h
              · refine lv_aload_n hx hb dX6_closeDay_80 rfl (lv_at hl 1 rfl) ?_
                refine zw_getR F Z zC8 (a := q1) (k := 11) (zltS_0 hq1) (zsS_0 hq1) (by decide) rfl (zgS_11 hq1) zq259 (Or.inl rfl) dX6_closeDay_81 ?_
                refine lv_iload_n hx hb dX6_closeDay_84 rfl (lv_at hl 3 rfl) ?_
                refine lv_iload hx hb dX6_closeDay_85 (lv_at hl 4 rfl) ?_
                refine lv_iadd hx hb dX6_closeDay_87 ?_
                obtain ⟨hk88, h⟩ := ck_x h
                refine zw_iald F Z (zltS_7 hq1) (zsS_7 hq1) hk88 dX6_closeDay_88 ?_
                refine lv_topi (fun x5_89 ex5_89 => ?_)
                replace h := lt_w h ex5_89
                refine lv_istore (lv' := [(5, .int x5_89), (0, .ref (A0 + 37)), (1, .ref (A0 + q1)), (2, .int x2_57), (3, .int x3_71), (4, .int x4_75)]) hx hb dX6_closeDay_89 hl (by decide) rfl (fun ls hl => ?_)
                refine lv_aload_n hx hb dX6_closeDay_91 rfl (lv_at hl 2 rfl) ?_
                refine zw_getR F Z zC8 (a := q1) (k := 11) (zltS_0 hq1) (zsS_0 hq1) (by decide) rfl (zgS_11 hq1) zq259 (Or.inl rfl) dX6_closeDay_92 ?_
                refine lv_iload_n hx hb dX6_closeDay_95 rfl (lv_at hl 4 rfl) ?_
                refine lv_iload hx hb dX6_closeDay_96 (lv_at hl 5 rfl) ?_
                refine lv_iadd hx hb dX6_closeDay_98 ?_
                refine lv_iconst (v := 0) hx hb dX6_closeDay_99 (by decide) ?_
                obtain ⟨hk100, h⟩ := ck_x h
                refine zw_iast F Z (zltS_7 hq1) (zsS_7 hq1) hk100 dX6_closeDay_100 (fun σ100 _ _ eσ100 Z => ?_)
                replace h := lt_w h eσ100
                refine lv_iload hx hb dX6_closeDay_101 (lv_at hl 5 rfl) ?_
                refine lv_aload_n hx hb dX6_closeDay_103 rfl (lv_at hl 1 rfl) ?_
                refine zw_getR F Z zC6 (a := 37) (k := 0) (by decide) zs_37 (by decide) rfl zg_37_0 zq301 (Or.inl rfl) dX6_closeDay_104 ?_
                refine zw_getR F Z zC0 (a := 3) (k := 10) (by decide) zs_3 (by decide) rfl zg_3_10 zq166 (Or.inl rfl) dX6_closeDay_107 ?_
                refine lv_iload_n hx hb dX6_closeDay_110 rfl (lv_at hl 3 rfl) ?_
                obtain ⟨hk111, h⟩ := ck_x h
                refine zw_iald F Z (by decide) zs_9 hk111 dX6_closeDay_111 ?_
                obtain ⟨j150, ej150, h⟩ := lt_x h
                have hj150 : ∀ (σ150 : Mm) (H : Heap) (locs : List Loc) (ls : Array Slot), zh D A0 σ150 GF 740 s.heap H locs → lv_has ls 6 [(0, .ref (A0 + 37)), (1, .ref (A0 + q1)), (2, .int x2_57), (3, .int x3_71), (4, .int x4_75)] → j150 σ150 = some σr → W p l e (zR 1 40) s m [.ref (A0 + 37), .ref (A0 + q1)].toArray below meth c H locs 0 0 (MQ below (zQv D A0 σr GF 740) [.ref (A0 + 37), .ref (A0 + q1)].toArray s 0 0 (zA A0)) (F0 m 150 ls []) := by
                  intro  σ150 H locs ls Z hl h
                  rw [ej150] at h
                  try dsimp only at h
                  obtain ⟨x4_150, ex4_150⟩ : ∃ y : Int32, y = x4_75 + (-1) := ⟨_, rfl⟩
                  replace h := lt_w h ex4_150
                  refine lv_iinc (v := x4_150) (lv' := [(4, .int x4_150), (0, .ref (A0 + 37)), (1, .ref (A0 + q1)), (2, .int x2_57), (3, .int x3_71)]) hx hb dX6_closeDay_150 hl (k := 4) rfl (by rw [ex4_150]; rfl) (by decide) rfl (fun ls hl => ?_)
                  refine lv_goto (tgt := 75) hx hb dX6_closeDay_153 (by decide) ?_
                  exact ih75 x4_150 σ150 _ _ _ Z (lv_sub hl [1, 2, 3, 4, 0] rfl) h
                obtain ⟨j139, ej139, h⟩ := lt_x h
                have hj139 : ∀ (σ139 : Mm) (H : Heap) (locs : List Loc) (ls : Array Slot), zh D A0 σ139 GF 740 s.heap H locs → lv_has ls 6 [(0, .ref (A0 + 37)), (1, .ref (A0 + q1)), (2, .int x2_57), (3, .int x3_71), (4, .int x4_75), (5, .int x5_89)] → j139 σ139 = some σr → W p l e (zR 1 40) s m [.ref (A0 + 37), .ref (A0 + q1)].toArray below meth c H locs 0 0 (MQ below (zQv D A0 σr GF 740) [.ref (A0 + 37), .ref (A0 + q1)].toArray s 0 0 (zA A0)) (F0 m 139 ls []) := by
                  intro  σ139 H locs ls Z hl h
                  rw [ej139] at h
                  try dsimp only at h
                  refine lv_aload_n hx hb dX6_closeDay_139 rfl (lv_at hl 1 rfl) ?_
                  refine zw_getR F Z zC8 (a := q1) (k := 13) (zltS_0 hq1) (zsS_0 hq1) (by decide) rfl (zgS_13 hq1) zq264 (Or.inl rfl) dX6_closeDay_140 ?_
                  refine lv_iload_n hx hb dX6_closeDay_143 rfl (lv_at hl 2 rfl) ?_
                  refine lv_dup2_11 hx hb dX6_closeDay_144 rfl rfl ?_
                  obtain ⟨hk145, h⟩ := ck_x h
                  refine zw_iald F Z (zltS_9 hq1) (zsS_9 hq1) hk145 dX6_closeDay_145 ?_
                  refine lv_iload hx hb dX6_closeDay_146 (lv_at hl 5 rfl) ?_
                  refine lv_iadd hx hb dX6_closeDay_148 ?_
                  obtain ⟨hk149, h⟩ := ck_x h
                  refine zw_iast F Z (zltS_9 hq1) (zsS_9 hq1) hk149 dX6_closeDay_149 (fun σ149 _ _ eσ149 Z => ?_)
                  replace h := lt_w h eσ149
                  exact hj150 σ149 _ _ _ Z (lv_sub hl [0, 1, 2, 3, 4] rfl) h
                refine zb_icge (tgt := 139) hx hb dX6_closeDay_112 (by decide) h (fun h => ?_) (fun h => ?_)
                · exact hj139 σ100 _ _ _ Z (lv_sub hl [1, 2, 3, 4, 5, 0] rfl) h
                · refine lv_iload hx hb dX6_closeDay_115 (lv_at hl 5 rfl) ?_
                  refine lv_iconst (v := 1) hx hb dX6_closeDay_117 (by decide) ?_
                  refine lv_iadd hx hb dX6_closeDay_118 ?_
                  refine lv_iconst (v := 4) hx hb dX6_closeDay_119 (by decide) ?_
                  refine zb_icge (tgt := 139) hx hb dX6_closeDay_120 (by decide) h (fun h => ?_) (fun h => ?_)
                  · exact hj139 σ100 _ _ _ Z (lv_sub hl [1, 2, 3, 4, 5, 0] rfl) h
                  · refine lv_aload_n hx hb dX6_closeDay_123 rfl (lv_at hl 2 rfl) ?_
                    refine zw_getR F Z zC8 (a := q1) (k := 11) (zltS_0 hq1) (zsS_0 hq1) (by decide) rfl (zgS_11 hq1) zq259 (Or.inl rfl) dX6_closeDay_124 ?_
                    refine lv_iload_n hx hb dX6_closeDay_127 rfl (lv_at hl 4 rfl) ?_
                    refine lv_iload hx hb dX6_closeDay_128 (lv_at hl 5 rfl) ?_
                    refine lv_iadd hx hb dX6_closeDay_130 ?_
                    refine lv_iconst (v := 1) hx hb dX6_closeDay_131 (by decide) ?_
                    refine lv_iadd hx hb dX6_closeDay_132 ?_
                    refine lv_iload hx hb dX6_closeDay_133 (lv_at hl 0 rfl) ?_
                    obtain ⟨hk135, h⟩ := ck_x h
                    refine zw_iast F Z (zltS_7 hq1) (zsS_7 hq1) hk135 dX6_closeDay_135 (fun σ135 _ _ eσ135 Z => ?_)
                    replace h := lt_w h eσ135
                    refine lv_goto (tgt := 150) hx hb dX6_closeDay_136 (by decide) ?_
                    exact hj150 σ135 _ _ _ Z (lv_sub hl [1, 2, 3, 4, 5] rfl) h
          exact hL75 NF 3 σ57 _ _ _ Z (lv_sub hl [2, 3, 4, 1, 0] rfl) h
    exact hL57 NF 0 σ55 _ _ _ Z (lv_sub hl [1, 2, 0] rfl) h
  have hL2 : ∀ (fu2 : Nat) (x2_2 : Int32) (σ2 : Mm) (H : Heap) (locs : List Loc) (ls : Array Slot), zh D A0 σ2 GF 740 s.heap H locs → lv_has ls 6 [(0, .ref (A0 + 37)), (1, .ref (A0 + q1)), (2, .int x2_2)] → zfX6_closeDay_L2 k55 q1 fu2 x2_2 σ2 = some σr → W p l e (zR 1 40) s m [.ref (A0 + 37), .ref (A0 + q1)].toArray below meth c H locs 0 0 (MQ below (zQv D A0 σr GF 740) [.ref (A0 + 37), .ref (A0 + q1)].toArray s 0 0 (zA A0)) (F0 m 2 ls []) := by
    intro fu2
    induction fu2 with
    | zero => intro x2_2 σ2 H locs ls Z hl h; rw [zfX6_closeDay_L2] at h; cases h
    | succ fu2 ih2 =>
      intro x2_2 σ2 H locs ls Z hl h
      rw [zfX6_closeDay_L2] at h
      refine lv_iload_n hx hb dX6_closeDay_2 rfl (lv_at hl 2 rfl) ?_
      refine lv_aload_n hx hb dX6_closeDay_3 rfl (lv_at hl 0 rfl) ?_
      refine zw_getI F Z zC6 (a := 37) (k := 5) (by decide) zs_37 (by decide) rfl zq311 (Or.inl rfl) dX6_closeDay_4 ?_
      refine zb_icge (tgt := 55) hx hb dX6_closeDay_7 (by decide) h (fun h => ?_) (fun h => ?_)
      · exact hk55 σ2 _ _ _ Z (lv_sub hl [0, 1] rfl) h
      · refine lv_aload_n hx hb dX6_closeDay_10 rfl (lv_at hl 1 rfl) ?_
        refine zw_getR F Z zC8 (a := q1) (k := 6) (zltS_0 hq1) (zsS_0 hq1) (by decide) rfl (zgS_6 hq1) zq238 (Or.inl rfl) dX6_closeDay_11 ?_
        refine lv_iload_n hx hb dX6_closeDay_14 rfl (lv_at hl 2 rfl) ?_
        refine lv_aload_n hx hb dX6_closeDay_15 rfl (lv_at hl 1 rfl) ?_
        refine zw_getR F Z zC8 (a := q1) (k := 5) (zltS_0 hq1) (zsS_0 hq1) (by decide) rfl (zgS_5 hq1) zq234 (Or.inl rfl) dX6_closeDay_16 ?_
        refine lv_iload_n hx hb dX6_closeDay_19 rfl (lv_at hl 2 rfl) ?_
        obtain ⟨hk20, h⟩ := ck_x h
        refine zw_iald F Z (zltS_1 hq1) (zsS_1 hq1) hk20 dX6_closeDay_20 ?_
        obtain ⟨hk21, h⟩ := ck_x h
        refine zw_iast F Z (zltS_2 hq1) (zsS_2 hq1) hk21 dX6_closeDay_21 (fun σ21 _ _ eσ21 Z => ?_)
        replace h := lt_w h eσ21
        refine lv_aload_n hx hb dX6_closeDay_22 rfl (lv_at hl 1 rfl) ?_
        refine zw_getR F Z zC8 (a := q1) (k := 5) (zltS_0 hq1) (zsS_0 hq1) (by decide) rfl (zgS_5 hq1) zq234 (Or.inl rfl) dX6_closeDay_23 ?_
        refine lv_iload_n hx hb dX6_closeDay_26 rfl (lv_at hl 2 rfl) ?_
        refine lv_dup2_11 hx hb dX6_closeDay_27 rfl rfl ?_
        obtain ⟨hk28, h⟩ := ck_x h
        refine zw_iald F Z (zltS_1 hq1) (zsS_1 hq1) hk28 dX6_closeDay_28 ?_
        refine lv_aload_n hx hb dX6_closeDay_29 rfl (lv_at hl 0 rfl) ?_
        refine zw_getR F Z zC6 (a := 37) (k := 0) (by decide) zs_37 (by decide) rfl zg_37_0 zq301 (Or.inl rfl) dX6_closeDay_30 ?_
        refine zw_getR F Z zC0 (a := 3) (k := 7) (by decide) zs_3 (by decide) rfl zg_3_7 zq157 (Or.inl rfl) dX6_closeDay_33 ?_
        refine lv_iload_n hx hb dX6_closeDay_36 rfl (lv_at hl 2 rfl) ?_
        obtain ⟨hk37, h⟩ := ck_x h
        refine zw_iald F Z (by decide) zs_6 hk37 dX6_closeDay_37 ?_
        refine lv_aload_n hx hb dX6_closeDay_38 rfl (lv_at hl 1 rfl) ?_
        refine zw_getR F Z zC8 (a := q1) (k := 5) (zltS_0 hq1) (zsS_0 hq1) (by decide) rfl (zgS_5 hq1) zq234 (Or.inl rfl) dX6_closeDay_39 ?_
        refine lv_iload_n hx hb dX6_closeDay_42 rfl (lv_at hl 2 rfl) ?_
        obtain ⟨hk43, h⟩ := ck_x h
        refine zw_iald F Z (zltS_1 hq1) (zsS_1 hq1) hk43 dX6_closeDay_43 ?_
        refine zw_zmin F hl.1 zq881 (Nat.le_of_ble_eq_true rfl) (Nat.le_of_ble_eq_true rfl) (Nat.le_of_ble_eq_true rfl) (Nat.le_of_ble_eq_true rfl) dX6_closeDay_44 ?_
        refine lv_isub hx hb dX6_closeDay_47 ?_
        obtain ⟨hk48, h⟩ := ck_x h
        refine zw_iast F Z (zltS_1 hq1) (zsS_1 hq1) hk48 dX6_closeDay_48 (fun σ48 _ _ eσ48 Z => ?_)
        replace h := lt_w h eσ48
        obtain ⟨x2_49, ex2_49⟩ : ∃ y : Int32, y = x2_2 + 1 := ⟨_, rfl⟩
        replace h := lt_w h ex2_49
        refine lv_iinc (v := x2_49) (lv' := [(2, .int x2_49), (0, .ref (A0 + 37)), (1, .ref (A0 + q1))]) hx hb dX6_closeDay_49 hl (k := 2) rfl (by rw [ex2_49]; rfl) (by decide) rfl (fun ls hl => ?_)
        refine lv_goto (tgt := 2) hx hb dX6_closeDay_52 (by decide) ?_
        exact ih2 x2_49 σ48 _ _ _ Z (lv_sub hl [1, 2, 0] rfl) h
  exact hL2 NF 0 σ _ _ _ Z (lv_sub hl [1, 2, 0] rfl) h
set_option maxHeartbeats 4000000 in
set_option maxRecDepth 100000 in
theorem zcX6_runDay (l : Launch) (D : va_G) (A0 : Nat) (q1 : Nat) (x2 : Int32) (hq1 : zIsS q1) (σ : Mm) (σr : Mm) (h : zfX6_runDay q1 x2 σ = some σr) : Met l yX6_runDay (zws yX6_runDay cX6_runDay 4 none) (zR 4 114) (zPc D A0 σ GF 740 [.ref (A0 + 37), .ref (A0 + q1), .int x2]) (zQv D A0 σr GF 740) 0 0 (zA A0) := by
  unfold zfX6_runDay at h
  refine zmet (own := RX6) (by decide) rfl (Nat.le_of_ble_eq_true rfl) ?_
  intro p e s m below meth c F hr hlocks _ Z ls hl
  have hl : lv_has ls 4 [(0, .ref (A0 + 37)), (1, .ref (A0 + q1)), (2, .int x2)] := hl
  have hx := F.1.1
  have hb := F.1.2.1
  have hown := F.1.2.2.2.1
  have hts := F.1.2.2.2.2
  refine lv_aload_n hx hb dX6_runDay_0 rfl (lv_at hl 0 rfl) ?_
  refine lv_aload_n hx hb dX6_runDay_1 rfl (lv_at hl 1 rfl) ?_
  refine lv_iload_n hx hb dX6_runDay_2 rfl (lv_at hl 2 rfl) ?_
  obtain ⟨r3, σ3, hc3, h⟩ := bd2_x h
  refine zc_i Z (zr_V F Z (a := 37) (As := [.ref (A0 + q1), .int x2]) (zcX6_openDay l D A0 q1 x2 hq1 σ r3 σ3 hc3) zBX6_openDay zq877 (by decide) zs_37 zC6.1 rfl ⟨⟨rfl, rfl⟩, Nat.le_of_ble_eq_true rfl, Nat.le_of_ble_eq_true rfl⟩ hl.1 rfl (Nat.le_of_ble_eq_true rfl) dX6_runDay_3 ⟨Nat.le_of_ble_eq_true rfl, Nat.le_of_ble_eq_true rfl⟩) (fun _ _ Z => ?_)
  refine lv_istore_n (lv' := [(3, .int r3), (0, .ref (A0 + 37)), (1, .ref (A0 + q1)), (2, .int x2)]) hx hb dX6_runDay_6 rfl hl (by decide) rfl (fun ls hl => ?_)
  refine lv_aload_n hx hb dX6_runDay_7 rfl (lv_at hl 1 rfl) ?_
  refine lv_aload_n hx hb dX6_runDay_8 rfl (lv_at hl 2 rfl) ?_
  refine lv_iload_n hx hb dX6_runDay_9 rfl (lv_at hl 0 rfl) ?_
  obtain ⟨σ10, hc10, h⟩ := bd_x h
  refine zc_v Z (zr_V F Z (a := 37) (As := [.ref (A0 + q1), .int r3]) (zcX6_setAskings l D A0 q1 r3 hq1 σ3 σ10 hc10) zBX6_setAskings zq882 (by decide) zs_37 zC6.1 rfl ⟨⟨rfl, rfl⟩, Nat.le_of_ble_eq_true rfl, Nat.le_of_ble_eq_true rfl⟩ hl.1 rfl (Nat.le_of_ble_eq_true rfl) dX6_runDay_10 ⟨Nat.le_of_ble_eq_true rfl, Nat.le_of_ble_eq_true rfl⟩) (fun _ _ Z => ?_)
  refine lv_aload_n hx hb dX6_runDay_13 rfl (lv_at hl 1 rfl) ?_
  refine lv_aload_n hx hb dX6_runDay_14 rfl (lv_at hl 2 rfl) ?_
  obtain ⟨σ15, hc15, h⟩ := bd_x h
  refine zc_v Z (zr_V F Z (a := 37) (As := [.ref (A0 + q1)]) (zcX6_lineUp l D A0 q1 hq1 σ10 σ15 hc15) zBX6_lineUp zq907 (by decide) zs_37 zC6.1 rfl ⟨⟨rfl, rfl⟩, Nat.le_of_ble_eq_true rfl, Nat.le_of_ble_eq_true rfl⟩ hl.1 rfl (Nat.le_of_ble_eq_true rfl) dX6_runDay_15 ⟨Nat.le_of_ble_eq_true rfl, Nat.le_of_ble_eq_true rfl⟩) (fun _ _ Z => ?_)
  refine lv_aload_n hx hb dX6_runDay_18 rfl (lv_at hl 1 rfl) ?_
  refine lv_aload_n hx hb dX6_runDay_19 rfl (lv_at hl 2 rfl) ?_
  obtain ⟨σ20, hc20, h⟩ := bd_x h
  refine zc_v Z (zr_V F Z (a := 37) (As := [.ref (A0 + q1)]) (zcX6_sell l D A0 q1 hq1 σ15 σ20 hc20) zBX6_sell zq911 (by decide) zs_37 zC6.1 rfl ⟨⟨rfl, rfl⟩, Nat.le_of_ble_eq_true rfl, Nat.le_of_ble_eq_true rfl⟩ hl.1 rfl (Nat.le_of_ble_eq_true rfl) dX6_runDay_20 ⟨Nat.le_of_ble_eq_true rfl, Nat.le_of_ble_eq_true rfl⟩) (fun _ _ Z => ?_)
  refine lv_aload_n hx hb dX6_runDay_23 rfl (lv_at hl 1 rfl) ?_
  refine lv_aload_n hx hb dX6_runDay_24 rfl (lv_at hl 2 rfl) ?_
  obtain ⟨σ25, hc25, h⟩ := bd_x h
  refine zc_v Z (zr_V F Z (a := 37) (As := [.ref (A0 + q1)]) (zcX6_leadBoard l D A0 q1 hq1 σ20 σ25 hc25) zBX6_leadBoard zq919 (by decide) zs_37 zC6.1 rfl ⟨⟨rfl, rfl⟩, Nat.le_of_ble_eq_true rfl, Nat.le_of_ble_eq_true rfl⟩ hl.1 rfl (Nat.le_of_ble_eq_true rfl) dX6_runDay_25 ⟨Nat.le_of_ble_eq_true rfl, Nat.le_of_ble_eq_true rfl⟩) (fun _ _ Z => ?_)
  refine lv_aload_n hx hb dX6_runDay_28 rfl (lv_at hl 1 rfl) ?_
  refine lv_aload_n hx hb dX6_runDay_29 rfl (lv_at hl 2 rfl) ?_
  obtain ⟨σ30, hc30, h⟩ := bd_x h
  refine zc_v Z (zr_V F Z (a := 37) (As := [.ref (A0 + q1)]) (zcX6_closeDay l D A0 q1 hq1 σ25 σ30 hc30) zBX6_closeDay zq923 (by decide) zs_37 zC6.1 rfl ⟨⟨rfl, rfl⟩, Nat.le_of_ble_eq_true rfl, Nat.le_of_ble_eq_true rfl⟩ hl.1 rfl (Nat.le_of_ble_eq_true rfl) dX6_runDay_30 ⟨Nat.le_of_ble_eq_true rfl, Nat.le_of_ble_eq_true rfl⟩) (fun _ _ Z => ?_)
  have hq := Option.some.inj h
  exact ze_v F Z hr hlocks hq dX6_runDay_33
set_option maxHeartbeats 4000000 in
set_option maxRecDepth 100000 in
theorem zcX11_days (l : Launch) (D : va_G) (A0 : Nat) (x1 : Int32) (σ : Mm) (r0 : Int32) (σr : Mm) (h : zfX11_days x1 σ = some (r0, σr)) : Met l yX11_days (zws yX11_days cX11_days 4 (some .int)) (zR 5 137) (zPc D A0 σ GF 740 [.ref (A0 + 0), .int x1]) (zQi D A0 r0 σr GF 740) 0 0 (zA A0) := by
  unfold zfX11_days at h
  refine zmet (own := RX11) (by decide) rfl (Nat.le_of_ble_eq_true rfl) ?_
  intro p e s m below meth c F hr hlocks _ Z ls hl
  have hl : lv_has ls 4 [(0, .ref (A0 + 0)), (1, .int x1)] := hl
  have hx := F.1.1
  have hb := F.1.2.1
  have hown := F.1.2.2.2.1
  have hts := F.1.2.2.2.2
  refine lv_aload_n hx hb dX11_days_0 rfl (lv_at hl 0 rfl) ?_
  refine lv_iload_n hx hb dX11_days_1 rfl (lv_at hl 1 rfl) ?_
  refine zc_i Z (zr_V F Z (a := 0) (As := [.int x1]) (zcX11_noDays l D A0 x1 σ (zfX11_noDays x1 σ) rfl) zBX11_noDays zq854 (by decide) zs_0 zC11.1 rfl ⟨⟨rfl, rfl⟩, Nat.le_of_ble_eq_true rfl, Nat.le_of_ble_eq_true rfl⟩ hl.1 rfl (Nat.le_of_ble_eq_true rfl) dX11_days_2 ⟨Nat.le_of_ble_eq_true rfl, Nat.le_of_ble_eq_true rfl⟩) (fun _ _ Z => ?_)
  refine zb_ifeq (tgt := 10) hx hb dX11_days_5 (by decide) h (fun h => ?_) (fun h => ?_)
  · refine lv_aload_n hx hb dX11_days_10 rfl (lv_at hl 0 rfl) ?_
    refine zw_getR F Z zC11 (a := 0) (k := 9) (by decide) zs_0 (by decide) rfl zg_0_9 zq543 (Or.inl rfl) dX11_days_11 ?_
    obtain ⟨σ14, hc14, h⟩ := bd_x h
    refine zc_v Z (zr_V F Z (a := 37) (As := []) (zcX6_begin l D A0 σ σ14 hc14) zBX6_begin zq862 (by decide) zs_37 zC6.1 rfl ⟨⟨rfl, rfl⟩, Nat.le_of_ble_eq_true rfl, Nat.le_of_ble_eq_true rfl⟩ hl.1 rfl (Nat.le_of_ble_eq_true rfl) dX11_days_14 ⟨Nat.le_of_ble_eq_true rfl, Nat.le_of_ble_eq_true rfl⟩) (fun _ _ Z => ?_)
    refine lv_iconst (v := 0) hx hb dX11_days_17 (by decide) ?_
    refine lv_istore_n (lv' := [(2, .int 0), (0, .ref (A0 + 0)), (1, .int x1)]) hx hb dX11_days_18 rfl hl (by decide) rfl (fun ls hl => ?_)
    obtain ⟨k69, ek69, h⟩ := lt_x h
    have hk69 : ∀ (σ69 : Mm) (H : Heap) (locs : List Loc) (ls : Array Slot), zh D A0 σ69 GF 740 s.heap H locs → lv_has ls 4 [(0, .ref (A0 + 0))] → k69 σ69 = some (r0, σr) → W p l e (zR 5 137) s m [.ref (A0 + 0), .int x1].toArray below meth c H locs 0 0 (MQ below (zQi D A0 r0 σr GF 740) [.ref (A0 + 0), .int x1].toArray s 0 0 (zA A0)) (F0 m 69 ls []) := by
      intro  σ69 H locs ls Z hl h
      rw [ek69] at h
      try dsimp only at h
      refine lv_aload_n hx hb dX11_days_69 rfl (lv_at hl 0 rfl) ?_
      refine zw_getR F Z zC11 (a := 0) (k := 7) (by decide) zs_0 (by decide) rfl zg_0_7 zq541 (Or.inl rfl) dX11_days_70 ?_
      refine zw_getI F Z zC8 (a := 27) (k := 0) (by decide) zs_27 (by decide) rfl zq222 (Or.inl rfl) dX11_days_73 ?_
      obtain ⟨hq1, hq2⟩ := zpq h
      exact ze_i F Z hr hlocks hq1 hq2 dX11_days_76
    have hL19 : ∀ (fu19 : Nat) (x2_19 : Int32) (σ19 : Mm) (H : Heap) (locs : List Loc) (ls : Array Slot), zh D A0 σ19 GF 740 s.heap H locs → lv_has ls 4 [(0, .ref (A0 + 0)), (1, .int x1), (2, .int x2_19)] → zfX11_days_L19 x1 k69 fu19 x2_19 σ19 = some (r0, σr) → W p l e (zR 5 137) s m [.ref (A0 + 0), .int x1].toArray below meth c H locs 0 0 (MQ below (zQi D A0 r0 σr GF 740) [.ref (A0 + 0), .int x1].toArray s 0 0 (zA A0)) (F0 m 19 ls []) := by
      intro fu19
      induction fu19 with
      | zero => intro x2_19 σ19 H locs ls Z hl h; rw [zfX11_days_L19] at h; cases h
      | succ fu19 ih19 =>
        intro x2_19 σ19 H locs ls Z hl h
        rw [zfX11_days_L19] at h
        refine lv_iload_n hx hb dX11_days_19 rfl (lv_at hl 2 rfl) ?_
        refine lv_iload_n hx hb dX11_days_20 rfl (lv_at hl 1 rfl) ?_
        refine zb_icge (tgt := 69) hx hb dX11_days_21 (by decide) h (fun h => ?_) (fun h => ?_)
        · exact hk69 σ19 _ _ _ Z (lv_sub hl [0] rfl) h
        · refine lv_aload_n hx hb dX11_days_24 rfl (lv_at hl 0 rfl) ?_
          refine zw_getI F Z zC11 (a := 0) (k := 15) (by decide) zs_0 (by decide) rfl zq549 (Or.inl rfl) dX11_days_25 ?_
          obtain ⟨j50, ej50, h⟩ := lt_x h
          have hj50 : ∀ (y0_50 : Int32) (σ50 : Mm) (H : Heap) (locs : List Loc) (ls : Array Slot), zh D A0 σ50 GF 740 s.heap H locs → lv_has ls 4 [(0, .ref (A0 + 0)), (1, .int x1), (2, .int x2_19)] → j50 y0_50 σ50 = some (r0, σr) → W p l e (zR 5 137) s m [.ref (A0 + 0), .int x1].toArray below meth c H locs 0 0 (MQ below (zQi D A0 r0 σr GF 740) [.ref (A0 + 0), .int x1].toArray s 0 0 (zA A0)) (F0 m 50 ls [.int y0_50]) := by
            intro y0_50 σ50 H locs ls Z hl h
            rw [ej50] at h
            try dsimp only at h
            refine lv_istore_n (lv' := [(3, .int y0_50), (0, .ref (A0 + 0)), (1, .int x1), (2, .int x2_19)]) hx hb dX11_days_50 rfl hl (by decide) rfl (fun ls hl => ?_)
            refine lv_aload_n hx hb dX11_days_51 rfl (lv_at hl 1 rfl) ?_
            refine zw_getR F Z zC11 (a := 0) (k := 9) (by decide) zs_0 (by decide) rfl zg_0_9 zq543 (Or.inl rfl) dX11_days_52 ?_
            refine lv_aload_n hx hb dX11_days_55 rfl (lv_at hl 1 rfl) ?_
            refine zw_getR F Z zC11 (a := 0) (k := 7) (by decide) zs_0 (by decide) rfl zg_0_7 zq541 (Or.inl rfl) dX11_days_56 ?_
            refine lv_iload_n hx hb dX11_days_59 rfl (lv_at hl 0 rfl) ?_
            obtain ⟨σ60, hc60, h⟩ := bd_x h
            refine zc_v Z (zr_V F Z (a := 37) (As := [.ref (A0 + 27), .int y0_50]) (zcX6_runDay l D A0 27 y0_50 (Or.inl rfl) σ50 σ60 hc60) zBX6_runDay zq873 (by decide) zs_37 zC6.1 rfl ⟨⟨rfl, rfl⟩, Nat.le_of_ble_eq_true rfl, Nat.le_of_ble_eq_true rfl⟩ hl.1 rfl (Nat.le_of_ble_eq_true rfl) dX11_days_60 ⟨Nat.le_of_ble_eq_true rfl, Nat.le_of_ble_eq_true rfl⟩) (fun _ _ Z => ?_)
            obtain ⟨x2_63, ex2_63⟩ : ∃ y : Int32, y = x2_19 + 1 := ⟨_, rfl⟩
            replace h := lt_w h ex2_63
            refine lv_iinc (v := x2_63) (lv' := [(2, .int x2_63), (3, .int y0_50), (0, .ref (A0 + 0)), (1, .int x1)]) hx hb dX11_days_63 hl (k := 3) rfl (by rw [ex2_63]; rfl) (by decide) rfl (fun ls hl => ?_)
            refine lv_goto (tgt := 19) hx hb dX11_days_66 (by decide) ?_
            exact ih19 x2_63 σ60 _ _ _ Z (lv_sub hl [2, 3, 0] rfl) h
          obtain ⟨j49, ej49, h⟩ := lt_x h
          have hj49 : ∀ (σ49 : Mm) (H : Heap) (locs : List Loc) (ls : Array Slot), zh D A0 σ49 GF 740 s.heap H locs → lv_has ls 4 [(0, .ref (A0 + 0)), (1, .int x1), (2, .int x2_19)] → j49 σ49 = some (r0, σr) → W p l e (zR 5 137) s m [.ref (A0 + 0), .int x1].toArray below meth c H locs 0 0 (MQ below (zQi D A0 r0 σr GF 740) [.ref (A0 + 0), .int x1].toArray s 0 0 (zA A0)) (F0 m 49 ls []) := by
            intro  σ49 H locs ls Z hl h
            rw [ej49] at h
            try dsimp only at h
            refine lv_iconst (v := 0) hx hb dX11_days_49 (by decide) ?_
            exact hj50 0 σ49 _ _ _ Z (lv_sub hl [0, 1, 2] rfl) h
          refine zb_ifle (tgt := 49) hx hb dX11_days_28 (by decide) h (fun h => ?_) (fun h => ?_)
          · exact hj49 σ19 _ _ _ Z (lv_sub hl [0, 1, 2] rfl) h
          · refine lv_aload_n hx hb dX11_days_31 rfl (lv_at hl 0 rfl) ?_
            refine zw_getR F Z zC11 (a := 0) (k := 7) (by decide) zs_0 (by decide) rfl zg_0_7 zq541 (Or.inl rfl) dX11_days_32 ?_
            obtain ⟨r35, σ35, hc35, h⟩ := bd2_x h
            refine zc_i Z (zr_V F Z (a := 27) (As := []) (zcX8_draw l D A0 27 (Or.inl rfl) σ19 r35 σ35 hc35) zBX8_draw zq866 (by decide) zs_27 zC8.1 rfl ⟨⟨rfl, rfl⟩, Nat.le_of_ble_eq_true rfl, Nat.le_of_ble_eq_true rfl⟩ hl.1 rfl (Nat.le_of_ble_eq_true rfl) dX11_days_35 ⟨Nat.le_of_ble_eq_true rfl, Nat.le_of_ble_eq_true rfl⟩) (fun _ _ Z => ?_)
            refine lv_aload_n hx hb dX11_days_38 rfl (lv_at hl 0 rfl) ?_
            refine zw_getI F Z zC11 (a := 0) (k := 15) (by decide) zs_0 (by decide) rfl zq549 (Or.inl rfl) dX11_days_39 ?_
            refine zb_icge (tgt := 49) hx hb dX11_days_42 (by decide) h (fun h => ?_) (fun h => ?_)
            · exact hj49 σ35 _ _ _ Z (lv_sub hl [0, 1, 2] rfl) h
            · refine lv_iconst (v := 1) hx hb dX11_days_45 (by decide) ?_
              refine lv_goto (tgt := 50) hx hb dX11_days_46 (by decide) ?_
              exact hj50 1 σ35 _ _ _ Z (lv_sub hl [0, 1, 2] rfl) h
    exact hL19 NF 0 σ14 _ _ _ Z (lv_sub hl [1, 2, 0] rfl) h
  · refine lv_iconst (v := (-1)) hx hb dX11_days_8 (by decide) ?_
    obtain ⟨hq1, hq2⟩ := zpq h
    exact ze_i F Z hr hlocks hq1 hq2 dX11_days_9
set_option maxHeartbeats 4000000 in
set_option maxRecDepth 100000 in
theorem zcX8_copyFrom (l : Launch) (D : va_G) (A0 : Nat) (q0 : Nat) (q1 : Nat) (hq0 : zIsS q0) (hq1 : zIsS q1) (σ : Mm) (σr : Mm) (h : zfX8_copyFrom q0 q1 σ = some σr) : Met l yX8_copyFrom (zws yX8_copyFrom cX8_copyFrom 2 none) (zR 1 60) (zPc D A0 σ GF 740 [.ref (A0 + q0), .ref (A0 + q1)]) (zQv D A0 σr GF 740) 0 0 (zA A0) := by
  unfold zfX8_copyFrom at h
  refine zmet (own := RX8) (by decide) rfl (Nat.le_of_ble_eq_true rfl) ?_
  intro p e s m below meth c F hr hlocks _ Z ls hl
  have hl : lv_has ls 2 [(0, .ref (A0 + q0)), (1, .ref (A0 + q1))] := hl
  have hx := F.1.1
  have hb := F.1.2.1
  have hown := F.1.2.2.2.1
  have hts := F.1.2.2.2.2
  refine lv_aload_n hx hb dX8_copyFrom_0 rfl (lv_at hl 0 rfl) ?_
  refine lv_aload_n hx hb dX8_copyFrom_1 rfl (lv_at hl 1 rfl) ?_
  refine zw_getI F Z zC8 (a := q1) (k := 0) (zltS_0 hq1) (zsS_0 hq1) (by decide) rfl zq218 (Or.inl rfl) dX8_copyFrom_2 ?_
  refine zw_putI F Z zC8 (a := q0) (k := 0) (zltS_0 hq0) (zsS_0 hq0) (by decide) rfl (by decide) zq218 (Or.inl rfl) rfl ⟨rfl, rfl⟩ dX8_copyFrom_5 (fun σ5 _ _ eσ5 Z => ?_)
  replace h := lt_w h eσ5
  refine lv_aload_n hx hb dX8_copyFrom_8 rfl (lv_at hl 0 rfl) ?_
  refine lv_aload_n hx hb dX8_copyFrom_9 rfl (lv_at hl 1 rfl) ?_
  refine zw_getI F Z zC8 (a := q1) (k := 1) (zltS_0 hq1) (zsS_0 hq1) (by decide) rfl zq223 (Or.inl rfl) dX8_copyFrom_10 ?_
  refine zw_putI F Z zC8 (a := q0) (k := 1) (zltS_0 hq0) (zsS_0 hq0) (by decide) rfl (by decide) zq223 (Or.inl rfl) rfl ⟨rfl, rfl⟩ dX8_copyFrom_13 (fun σ13 _ _ eσ13 Z => ?_)
  replace h := lt_w h eσ13
  refine lv_aload_n hx hb dX8_copyFrom_16 rfl (lv_at hl 0 rfl) ?_
  refine lv_aload_n hx hb dX8_copyFrom_17 rfl (lv_at hl 1 rfl) ?_
  refine zw_getI F Z zC8 (a := q1) (k := 2) (zltS_0 hq1) (zsS_0 hq1) (by decide) rfl zq226 (Or.inl rfl) dX8_copyFrom_18 ?_
  refine zw_putI F Z zC8 (a := q0) (k := 2) (zltS_0 hq0) (zsS_0 hq0) (by decide) rfl (by decide) zq226 (Or.inl rfl) rfl ⟨rfl, rfl⟩ dX8_copyFrom_21 (fun σ21 _ _ eσ21 Z => ?_)
  replace h := lt_w h eσ21
  refine lv_aload_n hx hb dX8_copyFrom_24 rfl (lv_at hl 0 rfl) ?_
  refine lv_aload_n hx hb dX8_copyFrom_25 rfl (lv_at hl 1 rfl) ?_
  refine zw_getI F Z zC8 (a := q1) (k := 3) (zltS_0 hq1) (zsS_0 hq1) (by decide) rfl zq229 (Or.inl rfl) dX8_copyFrom_26 ?_
  refine zw_putI F Z zC8 (a := q0) (k := 3) (zltS_0 hq0) (zsS_0 hq0) (by decide) rfl (by decide) zq229 (Or.inl rfl) rfl ⟨rfl, rfl⟩ dX8_copyFrom_29 (fun σ29 _ _ eσ29 Z => ?_)
  replace h := lt_w h eσ29
  refine lv_aload_n hx hb dX8_copyFrom_32 rfl (lv_at hl 0 rfl) ?_
  refine lv_aload_n hx hb dX8_copyFrom_33 rfl (lv_at hl 1 rfl) ?_
  refine zw_getJ F Z zC8 (a := q1) (k := 4) (zltS_0 hq1) (zsS_0 hq1) (by decide) rfl zq231 (Or.inl rfl) dX8_copyFrom_34 ?_
  refine zw_putJ F Z zC8 (a := q0) (k := 4) (zltS_0 hq0) (zsS_0 hq0) (by decide) rfl (by decide) zq231 (Or.inl rfl) rfl ⟨rfl, rfl⟩ dX8_copyFrom_37 (fun σ37 _ _ eσ37 Z => ?_)
  replace h := lt_w h eσ37
  refine lv_aload_n hx hb dX8_copyFrom_40 rfl (lv_at hl 1 rfl) ?_
  refine zw_getR F Z zC8 (a := q1) (k := 5) (zltS_0 hq1) (zsS_0 hq1) (by decide) rfl (zgS_5 hq1) zq233 (Or.inl rfl) dX8_copyFrom_41 ?_
  refine lv_iconst (v := 0) hx hb dX8_copyFrom_44 (by decide) ?_
  refine lv_aload_n hx hb dX8_copyFrom_45 rfl (lv_at hl 0 rfl) ?_
  refine zw_getR F Z zC8 (a := q0) (k := 5) (zltS_0 hq0) (zsS_0 hq0) (by decide) rfl (zgS_5 hq0) zq233 (Or.inl rfl) dX8_copyFrom_46 ?_
  refine lv_iconst (v := 0) hx hb dX8_copyFrom_49 (by decide) ?_
  refine lv_bipush (v := 6) hx hb dX8_copyFrom_50 (by decide) ?_
  refine zw_copy F Z hl.1 (zltS_1 hq1) (zsS_1 hq1) (zltS_1 hq0) (zsS_1 hq0) zq939 zq941 zq940 zq99 (by decide) (Nat.le_of_ble_eq_true rfl) (Nat.le_of_ble_eq_true rfl) dX8_copyFrom_52 (fun σ52 _ _ eσ52 Z => ?_)
  replace h := lt_w h eσ52
  refine lv_aload_n hx hb dX8_copyFrom_55 rfl (lv_at hl 1 rfl) ?_
  refine zw_getR F Z zC8 (a := q1) (k := 6) (zltS_0 hq1) (zsS_0 hq1) (by decide) rfl (zgS_6 hq1) zq237 (Or.inl rfl) dX8_copyFrom_56 ?_
  refine lv_iconst (v := 0) hx hb dX8_copyFrom_59 (by decide) ?_
  refine lv_aload_n hx hb dX8_copyFrom_60 rfl (lv_at hl 0 rfl) ?_
  refine zw_getR F Z zC8 (a := q0) (k := 6) (zltS_0 hq0) (zsS_0 hq0) (by decide) rfl (zgS_6 hq0) zq237 (Or.inl rfl) dX8_copyFrom_61 ?_
  refine lv_iconst (v := 0) hx hb dX8_copyFrom_64 (by decide) ?_
  refine lv_bipush (v := 6) hx hb dX8_copyFrom_65 (by decide) ?_
  refine zw_copy F Z hl.1 (zltS_2 hq1) (zsS_2 hq1) (zltS_2 hq0) (zsS_2 hq0) zq939 zq941 zq940 zq99 (by decide) (Nat.le_of_ble_eq_true rfl) (Nat.le_of_ble_eq_true rfl) dX8_copyFrom_67 (fun σ67 _ _ eσ67 Z => ?_)
  replace h := lt_w h eσ67
  refine lv_aload_n hx hb dX8_copyFrom_70 rfl (lv_at hl 1 rfl) ?_
  refine zw_getR F Z zC8 (a := q1) (k := 7) (zltS_0 hq1) (zsS_0 hq1) (by decide) rfl (zgS_7 hq1) zq241 (Or.inl rfl) dX8_copyFrom_71 ?_
  refine lv_iconst (v := 0) hx hb dX8_copyFrom_74 (by decide) ?_
  refine lv_aload_n hx hb dX8_copyFrom_75 rfl (lv_at hl 0 rfl) ?_
  refine zw_getR F Z zC8 (a := q0) (k := 7) (zltS_0 hq0) (zsS_0 hq0) (by decide) rfl (zgS_7 hq0) zq241 (Or.inl rfl) dX8_copyFrom_76 ?_
  refine lv_iconst (v := 0) hx hb dX8_copyFrom_79 (by decide) ?_
  refine lv_bipush (v := 6) hx hb dX8_copyFrom_80 (by decide) ?_
  refine zw_copy F Z hl.1 (zltS_3 hq1) (zsS_3 hq1) (zltS_3 hq0) (zsS_3 hq0) zq939 zq941 zq940 zq99 (by decide) (Nat.le_of_ble_eq_true rfl) (Nat.le_of_ble_eq_true rfl) dX8_copyFrom_82 (fun σ82 _ _ eσ82 Z => ?_)
  replace h := lt_w h eσ82
  refine lv_aload_n hx hb dX8_copyFrom_85 rfl (lv_at hl 1 rfl) ?_
  refine zw_getR F Z zC8 (a := q1) (k := 8) (zltS_0 hq1) (zsS_0 hq1) (by decide) rfl (zgS_8 hq1) zq246 (Or.inl rfl) dX8_copyFrom_86 ?_
  refine lv_iconst (v := 0) hx hb dX8_copyFrom_89 (by decide) ?_
  refine lv_aload_n hx hb dX8_copyFrom_90 rfl (lv_at hl 0 rfl) ?_
  refine zw_getR F Z zC8 (a := q0) (k := 8) (zltS_0 hq0) (zsS_0 hq0) (by decide) rfl (zgS_8 hq0) zq246 (Or.inl rfl) dX8_copyFrom_91 ?_
  refine lv_iconst (v := 0) hx hb dX8_copyFrom_94 (by decide) ?_
  refine lv_bipush (v := 6) hx hb dX8_copyFrom_95 (by decide) ?_
  refine zw_copy F Z hl.1 (zltS_4 hq1) (zsS_4 hq1) (zltS_4 hq0) (zsS_4 hq0) zq939 zq941 zq940 zq99 (by decide) (Nat.le_of_ble_eq_true rfl) (Nat.le_of_ble_eq_true rfl) dX8_copyFrom_97 (fun σ97 _ _ eσ97 Z => ?_)
  replace h := lt_w h eσ97
  refine lv_aload_n hx hb dX8_copyFrom_100 rfl (lv_at hl 1 rfl) ?_
  refine zw_getR F Z zC8 (a := q1) (k := 9) (zltS_0 hq1) (zsS_0 hq1) (by decide) rfl (zgS_9 hq1) zq251 (Or.inl rfl) dX8_copyFrom_101 ?_
  refine lv_iconst (v := 0) hx hb dX8_copyFrom_104 (by decide) ?_
  refine lv_aload_n hx hb dX8_copyFrom_105 rfl (lv_at hl 0 rfl) ?_
  refine zw_getR F Z zC8 (a := q0) (k := 9) (zltS_0 hq0) (zsS_0 hq0) (by decide) rfl (zgS_9 hq0) zq251 (Or.inl rfl) dX8_copyFrom_106 ?_
  refine lv_iconst (v := 0) hx hb dX8_copyFrom_109 (by decide) ?_
  refine lv_bipush (v := 6) hx hb dX8_copyFrom_110 (by decide) ?_
  refine zw_copy F Z hl.1 (zltS_5 hq1) (zsS_5 hq1) (zltS_5 hq0) (zsS_5 hq0) zq939 zq941 zq940 zq99 (by decide) (Nat.le_of_ble_eq_true rfl) (Nat.le_of_ble_eq_true rfl) dX8_copyFrom_112 (fun σ112 _ _ eσ112 Z => ?_)
  replace h := lt_w h eσ112
  refine lv_aload_n hx hb dX8_copyFrom_115 rfl (lv_at hl 1 rfl) ?_
  refine zw_getR F Z zC8 (a := q1) (k := 10) (zltS_0 hq1) (zsS_0 hq1) (by decide) rfl (zgS_10 hq1) zq255 (Or.inl rfl) dX8_copyFrom_116 ?_
  refine lv_iconst (v := 0) hx hb dX8_copyFrom_119 (by decide) ?_
  refine lv_aload_n hx hb dX8_copyFrom_120 rfl (lv_at hl 0 rfl) ?_
  refine zw_getR F Z zC8 (a := q0) (k := 10) (zltS_0 hq0) (zsS_0 hq0) (by decide) rfl (zgS_10 hq0) zq255 (Or.inl rfl) dX8_copyFrom_121 ?_
  refine lv_iconst (v := 0) hx hb dX8_copyFrom_124 (by decide) ?_
  refine lv_bipush (v := 6) hx hb dX8_copyFrom_125 (by decide) ?_
  refine zw_copy F Z hl.1 (zltS_6 hq1) (zsS_6 hq1) (zltS_6 hq0) (zsS_6 hq0) zq939 zq941 zq940 zq99 (by decide) (Nat.le_of_ble_eq_true rfl) (Nat.le_of_ble_eq_true rfl) dX8_copyFrom_127 (fun σ127 _ _ eσ127 Z => ?_)
  replace h := lt_w h eσ127
  refine lv_aload_n hx hb dX8_copyFrom_130 rfl (lv_at hl 1 rfl) ?_
  refine zw_getR F Z zC8 (a := q1) (k := 11) (zltS_0 hq1) (zsS_0 hq1) (by decide) rfl (zgS_11 hq1) zq258 (Or.inl rfl) dX8_copyFrom_131 ?_
  refine lv_iconst (v := 0) hx hb dX8_copyFrom_134 (by decide) ?_
  refine lv_aload_n hx hb dX8_copyFrom_135 rfl (lv_at hl 0 rfl) ?_
  refine zw_getR F Z zC8 (a := q0) (k := 11) (zltS_0 hq0) (zsS_0 hq0) (by decide) rfl (zgS_11 hq0) zq258 (Or.inl rfl) dX8_copyFrom_136 ?_
  refine lv_iconst (v := 0) hx hb dX8_copyFrom_139 (by decide) ?_
  refine lv_bipush (v := 24) hx hb dX8_copyFrom_140 (by decide) ?_
  refine zw_copy F Z hl.1 (zltS_7 hq1) (zsS_7 hq1) (zltS_7 hq0) (zsS_7 hq0) zq939 zq941 zq940 zq99 (by decide) (Nat.le_of_ble_eq_true rfl) (Nat.le_of_ble_eq_true rfl) dX8_copyFrom_142 (fun σ142 _ _ eσ142 Z => ?_)
  replace h := lt_w h eσ142
  refine lv_aload_n hx hb dX8_copyFrom_145 rfl (lv_at hl 1 rfl) ?_
  refine zw_getR F Z zC8 (a := q1) (k := 12) (zltS_0 hq1) (zsS_0 hq1) (by decide) rfl (zgS_12 hq1) zq260 (Or.inl rfl) dX8_copyFrom_146 ?_
  refine lv_iconst (v := 0) hx hb dX8_copyFrom_149 (by decide) ?_
  refine lv_aload_n hx hb dX8_copyFrom_150 rfl (lv_at hl 0 rfl) ?_
  refine zw_getR F Z zC8 (a := q0) (k := 12) (zltS_0 hq0) (zsS_0 hq0) (by decide) rfl (zgS_12 hq0) zq260 (Or.inl rfl) dX8_copyFrom_151 ?_
  refine lv_iconst (v := 0) hx hb dX8_copyFrom_154 (by decide) ?_
  refine lv_bipush (v := 6) hx hb dX8_copyFrom_155 (by decide) ?_
  refine zw_copy F Z hl.1 (zltS_8 hq1) (zsS_8 hq1) (zltS_8 hq0) (zsS_8 hq0) zq939 zq941 zq940 zq99 (by decide) (Nat.le_of_ble_eq_true rfl) (Nat.le_of_ble_eq_true rfl) dX8_copyFrom_157 (fun σ157 _ _ eσ157 Z => ?_)
  replace h := lt_w h eσ157
  refine lv_aload_n hx hb dX8_copyFrom_160 rfl (lv_at hl 1 rfl) ?_
  refine zw_getR F Z zC8 (a := q1) (k := 13) (zltS_0 hq1) (zsS_0 hq1) (by decide) rfl (zgS_13 hq1) zq263 (Or.inl rfl) dX8_copyFrom_161 ?_
  refine lv_iconst (v := 0) hx hb dX8_copyFrom_164 (by decide) ?_
  refine lv_aload_n hx hb dX8_copyFrom_165 rfl (lv_at hl 0 rfl) ?_
  refine zw_getR F Z zC8 (a := q0) (k := 13) (zltS_0 hq0) (zsS_0 hq0) (by decide) rfl (zgS_13 hq0) zq263 (Or.inl rfl) dX8_copyFrom_166 ?_
  refine lv_iconst (v := 0) hx hb dX8_copyFrom_169 (by decide) ?_
  refine lv_bipush (v := 6) hx hb dX8_copyFrom_170 (by decide) ?_
  refine zw_copy F Z hl.1 (zltS_9 hq1) (zsS_9 hq1) (zltS_9 hq0) (zsS_9 hq0) zq939 zq941 zq940 zq99 (by decide) (Nat.le_of_ble_eq_true rfl) (Nat.le_of_ble_eq_true rfl) dX8_copyFrom_172 (fun σ172 _ _ eσ172 Z => ?_)
  replace h := lt_w h eσ172
  have hq := Option.some.inj h
  exact ze_v F Z hr hlocks hq dX8_copyFrom_175
set_option maxHeartbeats 4000000 in
set_option maxRecDepth 100000 in
theorem zcX10_begin (l : Launch) (D : va_G) (A0 : Nat) (σ : Mm) (σr : Mm) (h : zfX10_begin σ = some σr) : Met l yX10_begin (zws yX10_begin cX10_begin 1 none) (zR 2 81) (zPc D A0 σ GF 740 [.ref (A0 + 68)]) (zQv D A0 σr GF 740) 0 0 (zA A0) := by
  unfold zfX10_begin at h
  refine zmet (own := RX10) (by decide) rfl (Nat.le_of_ble_eq_true rfl) ?_
  intro p e s m below meth c F hr hlocks _ Z ls hl
  have hl : lv_has ls 1 [(0, .ref (A0 + 68))] := hl
  have hx := F.1.1
  have hb := F.1.2.1
  have hown := F.1.2.2.2.1
  have hts := F.1.2.2.2.2
  refine lv_aload_n hx hb dX10_begin_0 rfl (lv_at hl 0 rfl) ?_
  refine zw_getR F Z zC10 (a := 68) (k := 3) (by decide) zs_68 (by decide) rfl zg_68_3 zq400 (Or.inl rfl) dX10_begin_1 ?_
  refine lv_aload_n hx hb dX10_begin_4 rfl (lv_at hl 0 rfl) ?_
  refine zw_getR F Z zC10 (a := 68) (k := 2) (by decide) zs_68 (by decide) rfl zg_68_2 zq399 (Or.inl rfl) dX10_begin_5 ?_
  obtain ⟨σ8, hc8, h⟩ := bd_x h
  refine zc_v Z (zr_V F Z (a := 69) (As := [.ref (A0 + 27)]) (zcX8_copyFrom l D A0 69 27 (Or.inr (Or.inr (Or.inl rfl))) (Or.inl rfl) σ σ8 hc8) zBX8_copyFrom zq935 (by decide) zs_69 zC8.1 rfl ⟨⟨rfl, rfl⟩, Nat.le_of_ble_eq_true rfl, Nat.le_of_ble_eq_true rfl⟩ hl.1 rfl (Nat.le_of_ble_eq_true rfl) dX10_begin_8 ⟨Nat.le_of_ble_eq_true rfl, Nat.le_of_ble_eq_true rfl⟩) (fun _ _ Z => ?_)
  refine lv_aload_n hx hb dX10_begin_11 rfl (lv_at hl 0 rfl) ?_
  refine zw_getR F Z zC10 (a := 68) (k := 1) (by decide) zs_68 (by decide) rfl zg_68_1 zq398 (Or.inl rfl) dX10_begin_12 ?_
  obtain ⟨σ15, hc15, h⟩ := bd_x h
  refine zc_v Z (zr_V F Z (a := 37) (As := []) (zcX6_begin l D A0 σ8 σ15 hc15) zBX6_begin zq942 (by decide) zs_37 zC6.1 rfl ⟨⟨rfl, rfl⟩, Nat.le_of_ble_eq_true rfl, Nat.le_of_ble_eq_true rfl⟩ hl.1 rfl (Nat.le_of_ble_eq_true rfl) dX10_begin_15 ⟨Nat.le_of_ble_eq_true rfl, Nat.le_of_ble_eq_true rfl⟩) (fun _ _ Z => ?_)
  refine lv_aload_n hx hb dX10_begin_18 rfl (lv_at hl 0 rfl) ?_
  refine lv_iconst (v := 0) hx hb dX10_begin_19 (by decide) ?_
  refine zw_putI F Z zC10 (a := 68) (k := 4) (by decide) zs_68 (by decide) rfl (by decide) zq402 (Or.inl rfl) rfl ⟨rfl, rfl⟩ dX10_begin_20 (fun σ20 _ _ eσ20 Z => ?_)
  replace h := lt_w h eσ20
  refine lv_aload_n hx hb dX10_begin_23 rfl (lv_at hl 0 rfl) ?_
  refine lv_iconst (v := 0) hx hb dX10_begin_24 (by decide) ?_
  refine zw_putI F Z zC10 (a := 68) (k := 5) (by decide) zs_68 (by decide) rfl (by decide) zq404 (Or.inl rfl) rfl ⟨rfl, rfl⟩ dX10_begin_25 (fun σ25 _ _ eσ25 Z => ?_)
  replace h := lt_w h eσ25
  refine lv_aload_n hx hb dX10_begin_28 rfl (lv_at hl 0 rfl) ?_
  refine lv_aload_n hx hb dX10_begin_29 rfl (lv_at hl 0 rfl) ?_
  refine zw_getR F Z zC10 (a := 68) (k := 3) (by decide) zs_68 (by decide) rfl zg_68_3 zq400 (Or.inl rfl) dX10_begin_30 ?_
  refine zw_getI F Z zC8 (a := 69) (k := 0) (by decide) zs_69 (by decide) rfl zq219 (Or.inl rfl) dX10_begin_33 ?_
  refine zw_putI F Z zC10 (a := 68) (k := 6) (by decide) zs_68 (by decide) rfl (by decide) zq406 (Or.inl rfl) rfl ⟨rfl, rfl⟩ dX10_begin_36 (fun σ36 _ _ eσ36 Z => ?_)
  replace h := lt_w h eσ36
  refine lv_aload_n hx hb dX10_begin_39 rfl (lv_at hl 0 rfl) ?_
  refine lv_aload_n hx hb dX10_begin_40 rfl (lv_at hl 0 rfl) ?_
  refine zw_getR F Z zC10 (a := 68) (k := 3) (by decide) zs_68 (by decide) rfl zg_68_3 zq400 (Or.inl rfl) dX10_begin_41 ?_
  refine zw_getI F Z zC8 (a := 69) (k := 0) (by decide) zs_69 (by decide) rfl zq219 (Or.inl rfl) dX10_begin_44 ?_
  refine zw_putI F Z zC10 (a := 68) (k := 7) (by decide) zs_68 (by decide) rfl (by decide) zq407 (Or.inl rfl) rfl ⟨rfl, rfl⟩ dX10_begin_47 (fun σ47 _ _ eσ47 Z => ?_)
  replace h := lt_w h eσ47
  refine lv_aload_n hx hb dX10_begin_50 rfl (lv_at hl 0 rfl) ?_
  refine lv_aload_n hx hb dX10_begin_51 rfl (lv_at hl 0 rfl) ?_
  refine zw_getR F Z zC10 (a := 68) (k := 3) (by decide) zs_68 (by decide) rfl zg_68_3 zq400 (Or.inl rfl) dX10_begin_52 ?_
  refine zw_getI F Z zC8 (a := 69) (k := 0) (by decide) zs_69 (by decide) rfl zq219 (Or.inl rfl) dX10_begin_55 ?_
  refine zw_putI F Z zC10 (a := 68) (k := 8) (by decide) zs_68 (by decide) rfl (by decide) zq409 (Or.inl rfl) rfl ⟨rfl, rfl⟩ dX10_begin_58 (fun σ58 _ _ eσ58 Z => ?_)
  replace h := lt_w h eσ58
  refine lv_aload_n hx hb dX10_begin_61 rfl (lv_at hl 0 rfl) ?_
  refine lv_iconst (v := 0) hx hb dX10_begin_62 (by decide) ?_
  refine zw_putI F Z zC10 (a := 68) (k := 9) (by decide) zs_68 (by decide) rfl (by decide) zq411 (Or.inl rfl) rfl ⟨rfl, rfl⟩ dX10_begin_63 (fun σ63 _ _ eσ63 Z => ?_)
  replace h := lt_w h eσ63
  refine lv_aload_n hx hb dX10_begin_66 rfl (lv_at hl 0 rfl) ?_
  refine lv_iconst (v := 0) hx hb dX10_begin_67 (by decide) ?_
  refine zw_putI F Z zC10 (a := 68) (k := 10) (by decide) zs_68 (by decide) rfl (by decide) zq413 (Or.inl rfl) rfl ⟨rfl, rfl⟩ dX10_begin_68 (fun σ68 _ _ eσ68 Z => ?_)
  replace h := lt_w h eσ68
  refine lv_aload_n hx hb dX10_begin_71 rfl (lv_at hl 0 rfl) ?_
  refine lv_iconst (v := (-1)) hx hb dX10_begin_72 (by decide) ?_
  refine zw_putI F Z zC10 (a := 68) (k := 11) (by decide) zs_68 (by decide) rfl (by decide) zq415 (Or.inl rfl) rfl ⟨rfl, rfl⟩ dX10_begin_73 (fun σ73 _ _ eσ73 Z => ?_)
  replace h := lt_w h eσ73
  refine lv_aload_n hx hb dX10_begin_76 rfl (lv_at hl 0 rfl) ?_
  refine lv_iconst (v := (-1)) hx hb dX10_begin_77 (by decide) ?_
  refine zw_putI F Z zC10 (a := 68) (k := 12) (by decide) zs_68 (by decide) rfl (by decide) zq417 (Or.inl rfl) rfl ⟨rfl, rfl⟩ dX10_begin_78 (fun σ78 _ _ eσ78 Z => ?_)
  replace h := lt_w h eσ78
  refine lv_aload_n hx hb dX10_begin_81 rfl (lv_at hl 0 rfl) ?_
  refine lv_iconst (v := 0) hx hb dX10_begin_82 (by decide) ?_
  refine zw_putI F Z zC10 (a := 68) (k := 13) (by decide) zs_68 (by decide) rfl (by decide) zq419 (Or.inl rfl) rfl ⟨rfl, rfl⟩ dX10_begin_83 (fun σ83 _ _ eσ83 Z => ?_)
  replace h := lt_w h eσ83
  have hq := Option.some.inj h
  exact ze_v F Z hr hlocks hq dX10_begin_86
set_option maxHeartbeats 4000000 in
set_option maxRecDepth 100000 in
theorem zcX10_noteBoard (l : Launch) (D : va_G) (A0 : Nat) (σ : Mm) (σr : Mm) (h : zfX10_noteBoard σ = some σr) : Met l yX10_noteBoard (zws yX10_noteBoard cX10_noteBoard 2 none) (zR 1 40) (zPc D A0 σ GF 740 [.ref (A0 + 68)]) (zQv D A0 σr GF 740) 0 0 (zA A0) := by
  unfold zfX10_noteBoard at h
  refine zmet (own := RX10) (by decide) rfl (Nat.le_of_ble_eq_true rfl) ?_
  intro p e s m below meth c F hr hlocks _ Z ls hl
  have hl : lv_has ls 2 [(0, .ref (A0 + 68))] := hl
  have hx := F.1.1
  have hb := F.1.2.1
  have hown := F.1.2.2.2.1
  have hts := F.1.2.2.2.2
  refine lv_aload_n hx hb dX10_noteBoard_0 rfl (lv_at hl 0 rfl) ?_
  refine zw_getR F Z zC10 (a := 68) (k := 3) (by decide) zs_68 (by decide) rfl zg_68_3 zq400 (Or.inl rfl) dX10_noteBoard_1 ?_
  refine zw_getI F Z zC8 (a := 69) (k := 0) (by decide) zs_69 (by decide) rfl zq219 (Or.inl rfl) dX10_noteBoard_4 ?_
  refine lv_topi (fun x1_7 ex1_7 => ?_)
  replace h := lt_w h ex1_7
  refine lv_istore_n (lv' := [(1, .int x1_7), (0, .ref (A0 + 68))]) hx hb dX10_noteBoard_7 rfl hl (by decide) rfl (fun ls hl => ?_)
  refine lv_aload_n hx hb dX10_noteBoard_8 rfl (lv_at hl 1 rfl) ?_
  refine zw_getR F Z zC10 (a := 68) (k := 1) (by decide) zs_68 (by decide) rfl zg_68_1 zq398 (Or.inl rfl) dX10_noteBoard_9 ?_
  refine zw_getI F Z zC6 (a := 37) (k := 6) (by decide) zs_37 (by decide) rfl zq313 (Or.inl rfl) dX10_noteBoard_12 ?_
  obtain ⟨j33, ej33, h⟩ := lt_x h
  have hj33 : ∀ (σ33 : Mm) (H : Heap) (locs : List Loc) (ls : Array Slot), zh D A0 σ33 GF 740 s.heap H locs → lv_has ls 2 [(0, .ref (A0 + 68)), (1, .int x1_7)] → j33 σ33 = some σr → W p l e (zR 1 40) s m [.ref (A0 + 68)].toArray below meth c H locs 0 0 (MQ below (zQv D A0 σr GF 740) [.ref (A0 + 68)].toArray s 0 0 (zA A0)) (F0 m 33 ls []) := by
    intro  σ33 H locs ls Z hl h
    rw [ej33] at h
    try dsimp only at h
    refine lv_aload_n hx hb dX10_noteBoard_33 rfl (lv_at hl 0 rfl) ?_
    refine lv_aload_n hx hb dX10_noteBoard_34 rfl (lv_at hl 0 rfl) ?_
    refine zw_getI F Z zC10 (a := 68) (k := 5) (by decide) zs_68 (by decide) rfl zq404 (Or.inl rfl) dX10_noteBoard_35 ?_
    refine lv_aload_n hx hb dX10_noteBoard_38 rfl (lv_at hl 0 rfl) ?_
    refine zw_getI F Z zC10 (a := 68) (k := 6) (by decide) zs_68 (by decide) rfl zq406 (Or.inl rfl) dX10_noteBoard_39 ?_
    refine lv_iload_n hx hb dX10_noteBoard_42 rfl (lv_at hl 1 rfl) ?_
    refine lv_isub hx hb dX10_noteBoard_43 ?_
    refine zw_zmax F hl.1 zq956 (Nat.le_of_ble_eq_true rfl) (Nat.le_of_ble_eq_true rfl) (Nat.le_of_ble_eq_true rfl) (Nat.le_of_ble_eq_true rfl) dX10_noteBoard_44 ?_
    refine zw_putI F Z zC10 (a := 68) (k := 5) (by decide) zs_68 (by decide) rfl (by decide) zq404 (Or.inl rfl) rfl ⟨rfl, rfl⟩ dX10_noteBoard_47 (fun σ47 _ _ eσ47 Z => ?_)
    replace h := lt_w h eσ47
    refine lv_aload_n hx hb dX10_noteBoard_50 rfl (lv_at hl 0 rfl) ?_
    refine lv_aload_n hx hb dX10_noteBoard_51 rfl (lv_at hl 0 rfl) ?_
    refine zw_getI F Z zC10 (a := 68) (k := 6) (by decide) zs_68 (by decide) rfl zq406 (Or.inl rfl) dX10_noteBoard_52 ?_
    refine lv_iload_n hx hb dX10_noteBoard_55 rfl (lv_at hl 1 rfl) ?_
    refine zw_zmax F hl.1 zq956 (Nat.le_of_ble_eq_true rfl) (Nat.le_of_ble_eq_true rfl) (Nat.le_of_ble_eq_true rfl) (Nat.le_of_ble_eq_true rfl) dX10_noteBoard_56 ?_
    refine zw_putI F Z zC10 (a := 68) (k := 6) (by decide) zs_68 (by decide) rfl (by decide) zq406 (Or.inl rfl) rfl ⟨rfl, rfl⟩ dX10_noteBoard_59 (fun σ59 _ _ eσ59 Z => ?_)
    replace h := lt_w h eσ59
    refine lv_aload_n hx hb dX10_noteBoard_62 rfl (lv_at hl 0 rfl) ?_
    refine lv_aload_n hx hb dX10_noteBoard_63 rfl (lv_at hl 0 rfl) ?_
    refine zw_getI F Z zC10 (a := 68) (k := 7) (by decide) zs_68 (by decide) rfl zq407 (Or.inl rfl) dX10_noteBoard_64 ?_
    refine lv_iload_n hx hb dX10_noteBoard_67 rfl (lv_at hl 1 rfl) ?_
    refine zw_zmax F hl.1 zq956 (Nat.le_of_ble_eq_true rfl) (Nat.le_of_ble_eq_true rfl) (Nat.le_of_ble_eq_true rfl) (Nat.le_of_ble_eq_true rfl) dX10_noteBoard_68 ?_
    refine zw_putI F Z zC10 (a := 68) (k := 7) (by decide) zs_68 (by decide) rfl (by decide) zq407 (Or.inl rfl) rfl ⟨rfl, rfl⟩ dX10_noteBoard_71 (fun σ71 _ _ eσ71 Z => ?_)
    replace h := lt_w h eσ71
    refine lv_aload_n hx hb dX10_noteBoard_74 rfl (lv_at hl 0 rfl) ?_
    refine lv_aload_n hx hb dX10_noteBoard_75 rfl (lv_at hl 0 rfl) ?_
    refine zw_getI F Z zC10 (a := 68) (k := 8) (by decide) zs_68 (by decide) rfl zq409 (Or.inl rfl) dX10_noteBoard_76 ?_
    refine lv_iload_n hx hb dX10_noteBoard_79 rfl (lv_at hl 1 rfl) ?_
    refine zw_zmin F hl.1 zq957 (Nat.le_of_ble_eq_true rfl) (Nat.le_of_ble_eq_true rfl) (Nat.le_of_ble_eq_true rfl) (Nat.le_of_ble_eq_true rfl) dX10_noteBoard_80 ?_
    refine zw_putI F Z zC10 (a := 68) (k := 8) (by decide) zs_68 (by decide) rfl (by decide) zq409 (Or.inl rfl) rfl ⟨rfl, rfl⟩ dX10_noteBoard_83 (fun σ83 _ _ eσ83 Z => ?_)
    replace h := lt_w h eσ83
    refine lv_aload_n hx hb dX10_noteBoard_86 rfl (lv_at hl 0 rfl) ?_
    refine lv_dup hx hb dX10_noteBoard_87 rfl ?_
    refine zw_getI F Z zC10 (a := 68) (k := 9) (by decide) zs_68 (by decide) rfl zq411 (Or.inl rfl) dX10_noteBoard_88 ?_
    refine lv_iload_n hx hb dX10_noteBoard_91 rfl (lv_at hl 1 rfl) ?_
    refine lv_iadd hx hb dX10_noteBoard_92 ?_
    refine zw_putI F Z zC10 (a := 68) (k := 9) (by decide) zs_68 (by decide) rfl (by decide) zq411 (Or.inl rfl) rfl ⟨rfl, rfl⟩ dX10_noteBoard_93 (fun σ93 _ _ eσ93 Z => ?_)
    replace h := lt_w h eσ93
    have hq := Option.some.inj h
    exact ze_v F Z hr hlocks hq dX10_noteBoard_96
  refine zb_ifeq (tgt := 33) hx hb dX10_noteBoard_15 (by decide) h (fun h => ?_) (fun h => ?_)
  · exact hj33 σ _ _ _ Z (lv_sub hl [1, 0] rfl) h
  · refine lv_aload_n hx hb dX10_noteBoard_18 rfl (lv_at hl 1 rfl) ?_
    refine lv_dup hx hb dX10_noteBoard_19 rfl ?_
    refine zw_getI F Z zC10 (a := 68) (k := 4) (by decide) zs_68 (by decide) rfl zq402 (Or.inl rfl) dX10_noteBoard_20 ?_
    refine lv_iconst (v := 1) hx hb dX10_noteBoard_23 (by decide) ?_
    refine lv_iadd hx hb dX10_noteBoard_24 ?_
    refine zw_putI F Z zC10 (a := 68) (k := 4) (by decide) zs_68 (by decide) rfl (by decide) zq402 (Or.inl rfl) rfl ⟨rfl, rfl⟩ dX10_noteBoard_25 (fun σ25 _ _ eσ25 Z => ?_)
    replace h := lt_w h eσ25
    refine lv_aload_n hx hb dX10_noteBoard_28 rfl (lv_at hl 1 rfl) ?_
    refine lv_iload_n hx hb dX10_noteBoard_29 rfl (lv_at hl 0 rfl) ?_
    refine zw_putI F Z zC10 (a := 68) (k := 6) (by decide) zs_68 (by decide) rfl (by decide) zq406 (Or.inl rfl) rfl ⟨rfl, rfl⟩ dX10_noteBoard_30 (fun σ30 _ _ eσ30 Z => ?_)
    replace h := lt_w h eσ30
    exact hj33 σ30 _ _ _ Z (lv_sub hl [1, 0] rfl) h
set_option maxHeartbeats 4000000 in
set_option maxRecDepth 100000 in
theorem zcX10_noteCheapest (l : Launch) (D : va_G) (A0 : Nat) (σ : Mm) (σr : Mm) (h : zfX10_noteCheapest σ = some σr) : Met l yX10_noteCheapest (zws yX10_noteCheapest cX10_noteCheapest 2 none) (zR 1 21) (zPc D A0 σ GF 740 [.ref (A0 + 68)]) (zQv D A0 σr GF 740) 0 0 (zA A0) := by
  unfold zfX10_noteCheapest at h
  refine zmet (own := RX10) (by decide) rfl (Nat.le_of_ble_eq_true rfl) ?_
  intro p e s m below meth c F hr hlocks _ Z ls hl
  have hl : lv_has ls 2 [(0, .ref (A0 + 68))] := hl
  have hx := F.1.1
  have hb := F.1.2.1
  have hown := F.1.2.2.2.1
  have hts := F.1.2.2.2.2
  refine lv_iconst (v := 0) hx hb dX10_noteCheapest_0 (by decide) ?_
  refine lv_istore_n (lv' := [(1, .int 0), (0, .ref (A0 + 68))]) hx hb dX10_noteCheapest_1 rfl hl (by decide) rfl (fun ls hl => ?_)
  obtain ⟨k90, ek90, h⟩ := lt_x h
  have hk90 : ∀ (σ90 : Mm) (H : Heap) (locs : List Loc) (ls : Array Slot), zh D A0 σ90 GF 740 s.heap H locs → lv_has ls 2 [] → k90 σ90 = some σr → W p l e (zR 1 21) s m [.ref (A0 + 68)].toArray below meth c H locs 0 0 (MQ below (zQv D A0 σr GF 740) [.ref (A0 + 68)].toArray s 0 0 (zA A0)) (F0 m 90 ls []) := by
    intro  σ90 H locs ls Z hl h
    rw [ek90] at h
    try dsimp only at h
    have hq := Option.some.inj h
    exact ze_v F Z hr hlocks hq dX10_noteCheapest_90
  have hL2 : ∀ (fu2 : Nat) (x1_2 : Int32) (σ2 : Mm) (H : Heap) (locs : List Loc) (ls : Array Slot), zh D A0 σ2 GF 740 s.heap H locs → lv_has ls 2 [(0, .ref (A0 + 68)), (1, .int x1_2)] → zfX10_noteCheapest_L2 k90 fu2 x1_2 σ2 = some σr → W p l e (zR 1 21) s m [.ref (A0 + 68)].toArray below meth c H locs 0 0 (MQ below (zQv D A0 σr GF 740) [.ref (A0 + 68)].toArray s 0 0 (zA A0)) (F0 m 2 ls []) := by
    intro fu2
    induction fu2 with
    | zero => intro x1_2 σ2 H locs ls Z hl h; rw [zfX10_noteCheapest_L2] at h; cases h
    | succ fu2 ih2 =>
      intro x1_2 σ2 H locs ls Z hl h
      rw [zfX10_noteCheapest_L2] at h
      refine lv_iload_n hx hb dX10_noteCheapest_2 rfl (lv_at hl 1 rfl) ?_
      refine lv_aload_n hx hb dX10_noteCheapest_3 rfl (lv_at hl 0 rfl) ?_
      refine zw_getR F Z zC10 (a := 68) (k := 0) (by decide) zs_68 (by decide) rfl zg_68_0 zq397 (Or.inl rfl) dX10_noteCheapest_4 ?_
      refine zw_getI F Z zC0 (a := 3) (k := 0) (by decide) zs_3 (by decide) rfl zq133 (Or.inl rfl) dX10_noteCheapest_7 ?_
      refine zb_icge (tgt := 90) hx hb dX10_noteCheapest_10 (by decide) h (fun h => ?_) (fun h => ?_)
      · exact hk90 σ2 _ _ _ Z (lv_sub hl [] rfl) h
      · refine lv_aload_n hx hb dX10_noteCheapest_13 rfl (lv_at hl 0 rfl) ?_
        refine zw_getR F Z zC10 (a := 68) (k := 1) (by decide) zs_68 (by decide) rfl zg_68_1 zq398 (Or.inl rfl) dX10_noteCheapest_14 ?_
        refine zw_getR F Z zC6 (a := 37) (k := 3) (by decide) zs_37 (by decide) rfl zg_37_3 zq308 (Or.inl rfl) dX10_noteCheapest_17 ?_
        refine lv_iload_n hx hb dX10_noteCheapest_20 rfl (lv_at hl 1 rfl) ?_
        obtain ⟨hk21, h⟩ := ck_x h
        refine zw_iald F Z (by decide) zs_39 hk21 dX10_noteCheapest_21 ?_
        obtain ⟨j84, ej84, h⟩ := lt_x h
        have hj84 : ∀ (σ84 : Mm) (H : Heap) (locs : List Loc) (ls : Array Slot), zh D A0 σ84 GF 740 s.heap H locs → lv_has ls 2 [(0, .ref (A0 + 68)), (1, .int x1_2)] → j84 σ84 = some σr → W p l e (zR 1 21) s m [.ref (A0 + 68)].toArray below meth c H locs 0 0 (MQ below (zQv D A0 σr GF 740) [.ref (A0 + 68)].toArray s 0 0 (zA A0)) (F0 m 84 ls []) := by
          intro  σ84 H locs ls Z hl h
          rw [ej84] at h
          try dsimp only at h
          obtain ⟨x1_84, ex1_84⟩ : ∃ y : Int32, y = x1_2 + 1 := ⟨_, rfl⟩
          replace h := lt_w h ex1_84
          refine lv_iinc (v := x1_84) (lv' := [(1, .int x1_84), (0, .ref (A0 + 68))]) hx hb dX10_noteCheapest_84 hl (k := 1) rfl (by rw [ex1_84]; rfl) (by decide) rfl (fun ls hl => ?_)
          refine lv_goto (tgt := 2) hx hb dX10_noteCheapest_87 (by decide) ?_
          exact ih2 x1_84 σ84 _ _ _ Z (lv_sub hl [1, 0] rfl) h
        refine zb_ifeq (tgt := 84) hx hb dX10_noteCheapest_22 (by decide) h (fun h => ?_) (fun h => ?_)
        · exact hj84 σ2 _ _ _ Z (lv_sub hl [0, 1] rfl) h
        · refine lv_aload_n hx hb dX10_noteCheapest_25 rfl (lv_at hl 0 rfl) ?_
          refine zw_getR F Z zC10 (a := 68) (k := 3) (by decide) zs_68 (by decide) rfl zg_68_3 zq400 (Or.inl rfl) dX10_noteCheapest_26 ?_
          refine lv_iload_n hx hb dX10_noteCheapest_29 rfl (lv_at hl 1 rfl) ?_
          refine zc_i Z (zr_V F Z (a := 69) (As := [.int x1_2]) (zcX8_isHolding l D A0 69 x1_2 (Or.inr (Or.inr (Or.inl rfl))) σ2 (zfX8_isHolding 69 x1_2 σ2) rfl) zBX8_isHolding zq962 (by decide) zs_69 zC8.1 rfl ⟨⟨rfl, rfl⟩, Nat.le_of_ble_eq_true rfl, Nat.le_of_ble_eq_true rfl⟩ hl.1 rfl (Nat.le_of_ble_eq_true rfl) dX10_noteCheapest_30 ⟨Nat.le_of_ble_eq_true rfl, Nat.le_of_ble_eq_true rfl⟩) (fun _ _ Z => ?_)
          refine zb_ifeq (tgt := 39) hx hb dX10_noteCheapest_33 (by decide) h (fun h => ?_) (fun h => ?_)
          · refine lv_aload_n hx hb dX10_noteCheapest_39 rfl (lv_at hl 0 rfl) ?_
            refine zw_getI F Z zC10 (a := 68) (k := 11) (by decide) zs_68 (by decide) rfl zq415 (Or.inl rfl) dX10_noteCheapest_40 ?_
            refine lv_iconst (v := (-1)) hx hb dX10_noteCheapest_43 (by decide) ?_
            obtain ⟨j63, ej63, h⟩ := lt_x h
            have hj63 : ∀ (σ63 : Mm) (H : Heap) (locs : List Loc) (ls : Array Slot), zh D A0 σ63 GF 740 s.heap H locs → lv_has ls 2 [(0, .ref (A0 + 68)), (1, .int x1_2)] → j63 σ63 = some σr → W p l e (zR 1 21) s m [.ref (A0 + 68)].toArray below meth c H locs 0 0 (MQ below (zQv D A0 σr GF 740) [.ref (A0 + 68)].toArray s 0 0 (zA A0)) (F0 m 63 ls []) := by
              intro  σ63 H locs ls Z hl h
              rw [ej63] at h
              try dsimp only at h
              refine lv_aload_n hx hb dX10_noteCheapest_63 rfl (lv_at hl 0 rfl) ?_
              refine lv_aload_n hx hb dX10_noteCheapest_64 rfl (lv_at hl 0 rfl) ?_
              refine zw_getI F Z zC10 (a := 68) (k := 13) (by decide) zs_68 (by decide) rfl zq419 (Or.inl rfl) dX10_noteCheapest_65 ?_
              refine zw_putI F Z zC10 (a := 68) (k := 11) (by decide) zs_68 (by decide) rfl (by decide) zq415 (Or.inl rfl) rfl ⟨rfl, rfl⟩ dX10_noteCheapest_68 (fun σ68 _ _ eσ68 Z => ?_)
              replace h := lt_w h eσ68
              refine lv_aload_n hx hb dX10_noteCheapest_71 rfl (lv_at hl 0 rfl) ?_
              refine lv_aload_n hx hb dX10_noteCheapest_72 rfl (lv_at hl 0 rfl) ?_
              refine zw_getR F Z zC10 (a := 68) (k := 3) (by decide) zs_68 (by decide) rfl zg_68_3 zq400 (Or.inl rfl) dX10_noteCheapest_73 ?_
              refine zw_getR F Z zC8 (a := 69) (k := 8) (by decide) zs_69 (by decide) rfl zg_69_8 zq249 (Or.inl rfl) dX10_noteCheapest_76 ?_
              refine lv_iload_n hx hb dX10_noteCheapest_79 rfl (lv_at hl 1 rfl) ?_
              obtain ⟨hk80, h⟩ := ck_x h
              refine zw_iald F Z (by decide) zs_73 hk80 dX10_noteCheapest_80 ?_
              refine zw_putI F Z zC10 (a := 68) (k := 12) (by decide) zs_68 (by decide) rfl (by decide) zq417 (Or.inl rfl) rfl ⟨rfl, rfl⟩ dX10_noteCheapest_81 (fun σ81 _ _ eσ81 Z => ?_)
              replace h := lt_w h eσ81
              exact hj84 σ81 _ _ _ Z (lv_sub hl [0, 1] rfl) h
            refine zb_iceq (tgt := 63) hx hb dX10_noteCheapest_44 (by decide) h (fun h => ?_) (fun h => ?_)
            · exact hj63 σ2 _ _ _ Z (lv_sub hl [0, 1] rfl) h
            · refine lv_aload_n hx hb dX10_noteCheapest_47 rfl (lv_at hl 0 rfl) ?_
              refine zw_getR F Z zC10 (a := 68) (k := 3) (by decide) zs_68 (by decide) rfl zg_68_3 zq400 (Or.inl rfl) dX10_noteCheapest_48 ?_
              refine zw_getR F Z zC8 (a := 69) (k := 8) (by decide) zs_69 (by decide) rfl zg_69_8 zq249 (Or.inl rfl) dX10_noteCheapest_51 ?_
              refine lv_iload_n hx hb dX10_noteCheapest_54 rfl (lv_at hl 1 rfl) ?_
              obtain ⟨hk55, h⟩ := ck_x h
              refine zw_iald F Z (by decide) zs_73 hk55 dX10_noteCheapest_55 ?_
              refine lv_aload_n hx hb dX10_noteCheapest_56 rfl (lv_at hl 0 rfl) ?_
              refine zw_getI F Z zC10 (a := 68) (k := 12) (by decide) zs_68 (by decide) rfl zq417 (Or.inl rfl) dX10_noteCheapest_57 ?_
              refine zb_icge (tgt := 84) hx hb dX10_noteCheapest_60 (by decide) h (fun h => ?_) (fun h => ?_)
              · exact hj84 σ2 _ _ _ Z (lv_sub hl [0, 1] rfl) h
              · exact hj63 σ2 _ _ _ Z (lv_sub hl [0, 1] rfl) h
          · refine lv_goto (tgt := 84) hx hb dX10_noteCheapest_36 (by decide) ?_
            exact hj84 σ2 _ _ _ Z (lv_sub hl [0, 1] rfl) h
  exact hL2 NF 0 σ _ _ _ Z (lv_sub hl [1, 0] rfl) h
set_option maxHeartbeats 4000000 in
set_option maxRecDepth 100000 in
theorem zcX10_noteGlut (l : Launch) (D : va_G) (A0 : Nat) (σ : Mm) (σr : Mm) (h : zfX10_noteGlut σ = some σr) : Met l yX10_noteGlut (zws yX10_noteGlut cX10_noteGlut 2 none) (zR 0 0) (zPc D A0 σ GF 740 [.ref (A0 + 68)]) (zQv D A0 σr GF 740) 0 0 (zA A0) := by
  unfold zfX10_noteGlut at h
  refine zmet (own := RX10) (by decide) rfl (Nat.le_of_ble_eq_true rfl) ?_
  intro p e s m below meth c F hr hlocks _ Z ls hl
  have hl : lv_has ls 2 [(0, .ref (A0 + 68))] := hl
  have hx := F.1.1
  have hb := F.1.2.1
  have hown := F.1.2.2.2.1
  have hts := F.1.2.2.2.2
  refine lv_iconst (v := 0) hx hb dX10_noteGlut_0 (by decide) ?_
  refine lv_istore_n (lv' := [(1, .int 0), (0, .ref (A0 + 68))]) hx hb dX10_noteGlut_1 rfl hl (by decide) rfl (fun ls hl => ?_)
  obtain ⟨k34, ek34, h⟩ := lt_x h
  have hk34 : ∀ (σ34 : Mm) (H : Heap) (locs : List Loc) (ls : Array Slot), zh D A0 σ34 GF 740 s.heap H locs → lv_has ls 2 [(0, .ref (A0 + 68))] → k34 σ34 = some σr → W p l e (zR 0 0) s m [.ref (A0 + 68)].toArray below meth c H locs 0 0 (MQ below (zQv D A0 σr GF 740) [.ref (A0 + 68)].toArray s 0 0 (zA A0)) (F0 m 34 ls []) := by
    intro  σ34 H locs ls Z hl h
    rw [ek34] at h
    try dsimp only at h
    refine lv_aload_n hx hb dX10_noteGlut_34 rfl (lv_at hl 0 rfl) ?_
    refine lv_dup hx hb dX10_noteGlut_35 rfl ?_
    refine zw_getI F Z zC10 (a := 68) (k := 10) (by decide) zs_68 (by decide) rfl zq413 (Or.inl rfl) dX10_noteGlut_36 ?_
    refine lv_iconst (v := 1) hx hb dX10_noteGlut_39 (by decide) ?_
    refine lv_iadd hx hb dX10_noteGlut_40 ?_
    refine zw_putI F Z zC10 (a := 68) (k := 10) (by decide) zs_68 (by decide) rfl (by decide) zq413 (Or.inl rfl) rfl ⟨rfl, rfl⟩ dX10_noteGlut_41 (fun σ41 _ _ eσ41 Z => ?_)
    replace h := lt_w h eσ41
    have hq := Option.some.inj h
    exact ze_v F Z hr hlocks hq dX10_noteGlut_44
  obtain ⟨k51, ek51, h⟩ := lt_x h
  have hk51 : ∀ (σ51 : Mm) (H : Heap) (locs : List Loc) (ls : Array Slot), zh D A0 σ51 GF 740 s.heap H locs → lv_has ls 2 [] → k51 σ51 = some σr → W p l e (zR 0 0) s m [.ref (A0 + 68)].toArray below meth c H locs 0 0 (MQ below (zQv D A0 σr GF 740) [.ref (A0 + 68)].toArray s 0 0 (zA A0)) (F0 m 51 ls []) := by
    intro  σ51 H locs ls Z hl h
    rw [ek51] at h
    try dsimp only at h
    have hq := Option.some.inj h
    exact ze_v F Z hr hlocks hq dX10_noteGlut_51
  have hL2 : ∀ (fu2 : Nat) (x1_2 : Int32) (σ2 : Mm) (H : Heap) (locs : List Loc) (ls : Array Slot), zh D A0 σ2 GF 740 s.heap H locs → lv_has ls 2 [(0, .ref (A0 + 68)), (1, .int x1_2)] → zfX10_noteGlut_L2 k51 k34 fu2 x1_2 σ2 = some σr → W p l e (zR 0 0) s m [.ref (A0 + 68)].toArray below meth c H locs 0 0 (MQ below (zQv D A0 σr GF 740) [.ref (A0 + 68)].toArray s 0 0 (zA A0)) (F0 m 2 ls []) := by
    intro fu2
    induction fu2 with
    | zero => intro x1_2 σ2 H locs ls Z hl h; rw [zfX10_noteGlut_L2] at h; cases h
    | succ fu2 ih2 =>
      intro x1_2 σ2 H locs ls Z hl h
      rw [zfX10_noteGlut_L2] at h
      refine lv_iload_n hx hb dX10_noteGlut_2 rfl (lv_at hl 1 rfl) ?_
      refine lv_aload_n hx hb dX10_noteGlut_3 rfl (lv_at hl 0 rfl) ?_
      refine zw_getR F Z zC10 (a := 68) (k := 0) (by decide) zs_68 (by decide) rfl zg_68_0 zq397 (Or.inl rfl) dX10_noteGlut_4 ?_
      refine zw_getI F Z zC0 (a := 3) (k := 0) (by decide) zs_3 (by decide) rfl zq133 (Or.inl rfl) dX10_noteGlut_7 ?_
      refine zb_icge (tgt := 51) hx hb dX10_noteGlut_10 (by decide) h (fun h => ?_) (fun h => ?_)
      · exact hk51 σ2 _ _ _ Z (lv_sub hl [] rfl) h
      · refine lv_aload_n hx hb dX10_noteGlut_13 rfl (lv_at hl 0 rfl) ?_
        refine zw_getR F Z zC10 (a := 68) (k := 3) (by decide) zs_68 (by decide) rfl zg_68_3 zq400 (Or.inl rfl) dX10_noteGlut_14 ?_
        refine zw_getR F Z zC8 (a := 69) (k := 6) (by decide) zs_69 (by decide) rfl zg_69_6 zq240 (Or.inl rfl) dX10_noteGlut_17 ?_
        refine lv_iload_n hx hb dX10_noteGlut_20 rfl (lv_at hl 1 rfl) ?_
        obtain ⟨hk21, h⟩ := ck_x h
        refine zw_iald F Z (by decide) zs_71 hk21 dX10_noteGlut_21 ?_
        refine lv_aload_n hx hb dX10_noteGlut_22 rfl (lv_at hl 0 rfl) ?_
        refine zw_getR F Z zC10 (a := 68) (k := 0) (by decide) zs_68 (by decide) rfl zg_68_0 zq397 (Or.inl rfl) dX10_noteGlut_23 ?_
        refine zw_getR F Z zC0 (a := 3) (k := 5) (by decide) zs_3 (by decide) rfl zg_3_5 zq151 (Or.inl rfl) dX10_noteGlut_26 ?_
        refine lv_iload_n hx hb dX10_noteGlut_29 rfl (lv_at hl 1 rfl) ?_
        obtain ⟨hk30, h⟩ := ck_x h
        refine zw_iald F Z (by decide) zs_4 hk30 dX10_noteGlut_30 ?_
        refine zb_icle (tgt := 45) hx hb dX10_noteGlut_31 (by decide) h (fun h => ?_) (fun h => ?_)
        · obtain ⟨x1_45, ex1_45⟩ : ∃ y : Int32, y = x1_2 + 1 := ⟨_, rfl⟩
          replace h := lt_w h ex1_45
          refine lv_iinc (v := x1_45) (lv' := [(1, .int x1_45), (0, .ref (A0 + 68))]) hx hb dX10_noteGlut_45 hl (k := 1) rfl (by rw [ex1_45]; rfl) (by decide) rfl (fun ls hl => ?_)
          refine lv_goto (tgt := 2) hx hb dX10_noteGlut_48 (by decide) ?_
          exact ih2 x1_45 σ2 _ _ _ Z (lv_sub hl [1, 0] rfl) h
        · exact hk34 σ2 _ _ _ Z (lv_sub hl [0] rfl) h
  exact hL2 NF 0 σ _ _ _ Z (lv_sub hl [1, 0] rfl) h
set_option maxHeartbeats 4000000 in
set_option maxRecDepth 100000 in
theorem zcX10_step (l : Launch) (D : va_G) (A0 : Nat) (σ : Mm) (σr : Mm) (h : zfX10_step σ = some σr) : Met l yX10_step (zws yX10_step cX10_step 1 none) (zR 5 137) (zPc D A0 σ GF 740 [.ref (A0 + 68)]) (zQv D A0 σr GF 740) 0 0 (zA A0) := by
  unfold zfX10_step at h
  refine zmet (own := RX10) (by decide) rfl (Nat.le_of_ble_eq_true rfl) ?_
  intro p e s m below meth c F hr hlocks _ Z ls hl
  have hl : lv_has ls 1 [(0, .ref (A0 + 68))] := hl
  have hx := F.1.1
  have hb := F.1.2.1
  have hown := F.1.2.2.2.1
  have hts := F.1.2.2.2.2
  refine lv_aload_n hx hb dX10_step_0 rfl (lv_at hl 0 rfl) ?_
  refine zw_getR F Z zC10 (a := 68) (k := 1) (by decide) zs_68 (by decide) rfl zg_68_1 zq398 (Or.inl rfl) dX10_step_1 ?_
  refine lv_aload_n hx hb dX10_step_4 rfl (lv_at hl 0 rfl) ?_
  refine zw_getR F Z zC10 (a := 68) (k := 3) (by decide) zs_68 (by decide) rfl zg_68_3 zq400 (Or.inl rfl) dX10_step_5 ?_
  refine lv_iconst (v := 0) hx hb dX10_step_8 (by decide) ?_
  obtain ⟨σ9, hc9, h⟩ := bd_x h
  refine zc_v Z (zr_V F Z (a := 37) (As := [.ref (A0 + 69), .int 0]) (zcX6_runDay l D A0 69 0 (Or.inr (Or.inr (Or.inl rfl))) σ σ9 hc9) zBX6_runDay zq951 (by decide) zs_37 zC6.1 rfl ⟨⟨rfl, rfl⟩, Nat.le_of_ble_eq_true rfl, Nat.le_of_ble_eq_true rfl⟩ hl.1 rfl (Nat.le_of_ble_eq_true rfl) dX10_step_9 ⟨Nat.le_of_ble_eq_true rfl, Nat.le_of_ble_eq_true rfl⟩) (fun _ _ Z => ?_)
  refine lv_aload_n hx hb dX10_step_12 rfl (lv_at hl 0 rfl) ?_
  obtain ⟨σ13, hc13, h⟩ := bd_x h
  refine zc_v Z (zr_V F Z (a := 68) (As := []) (zcX10_noteBoard l D A0 σ9 σ13 hc13) zBX10_noteBoard zq952 (by decide) zs_68 zC10.1 rfl ⟨⟨rfl, rfl⟩, Nat.le_of_ble_eq_true rfl, Nat.le_of_ble_eq_true rfl⟩ hl.1 rfl (Nat.le_of_ble_eq_true rfl) dX10_step_13 ⟨Nat.le_of_ble_eq_true rfl, Nat.le_of_ble_eq_true rfl⟩) (fun _ _ Z => ?_)
  refine lv_aload_n hx hb dX10_step_16 rfl (lv_at hl 0 rfl) ?_
  obtain ⟨σ17, hc17, h⟩ := bd_x h
  refine zc_v Z (zr_V F Z (a := 68) (As := []) (zcX10_noteCheapest l D A0 σ13 σ17 hc17) zBX10_noteCheapest zq958 (by decide) zs_68 zC10.1 rfl ⟨⟨rfl, rfl⟩, Nat.le_of_ble_eq_true rfl, Nat.le_of_ble_eq_true rfl⟩ hl.1 rfl (Nat.le_of_ble_eq_true rfl) dX10_step_17 ⟨Nat.le_of_ble_eq_true rfl, Nat.le_of_ble_eq_true rfl⟩) (fun _ _ Z => ?_)
  refine lv_aload_n hx hb dX10_step_20 rfl (lv_at hl 0 rfl) ?_
  obtain ⟨σ21, hc21, h⟩ := bd_x h
  refine zc_v Z (zr_V F Z (a := 68) (As := []) (zcX10_noteGlut l D A0 σ17 σ21 hc21) zBX10_noteGlut zq963 (by decide) zs_68 zC10.1 rfl ⟨⟨rfl, rfl⟩, Nat.le_of_ble_eq_true rfl, Nat.le_of_ble_eq_true rfl⟩ hl.1 rfl (Nat.le_of_ble_eq_true rfl) dX10_step_21 ⟨Nat.le_of_ble_eq_true rfl, Nat.le_of_ble_eq_true rfl⟩) (fun _ _ Z => ?_)
  refine lv_aload_n hx hb dX10_step_24 rfl (lv_at hl 0 rfl) ?_
  refine lv_dup hx hb dX10_step_25 rfl ?_
  refine zw_getI F Z zC10 (a := 68) (k := 13) (by decide) zs_68 (by decide) rfl zq419 (Or.inl rfl) dX10_step_26 ?_
  refine lv_iconst (v := 1) hx hb dX10_step_29 (by decide) ?_
  refine lv_iadd hx hb dX10_step_30 ?_
  refine zw_putI F Z zC10 (a := 68) (k := 13) (by decide) zs_68 (by decide) rfl (by decide) zq419 (Or.inl rfl) rfl ⟨rfl, rfl⟩ dX10_step_31 (fun σ31 _ _ eσ31 Z => ?_)
  replace h := lt_w h eσ31
  have hq := Option.some.inj h
  exact ze_v F Z hr hlocks hq dX10_step_34
set_option maxHeartbeats 4000000 in
set_option maxRecDepth 100000 in
theorem zcX10_pass (l : Launch) (D : va_G) (A0 : Nat) (x1 : Int32) (σ : Mm) (σr : Mm) (h : zfX10_pass x1 σ = some σr) : Met l yX10_pass (zws yX10_pass cX10_pass 3 none) (zR 6 157) (zPc D A0 σ GF 740 [.ref (A0 + 68), .int x1]) (zQv D A0 σr GF 740) 0 0 (zA A0) := by
  unfold zfX10_pass at h
  refine zmet (own := RX10) (by decide) rfl (Nat.le_of_ble_eq_true rfl) ?_
  intro p e s m below meth c F hr hlocks _ Z ls hl
  have hl : lv_has ls 3 [(0, .ref (A0 + 68)), (1, .int x1)] := hl
  have hx := F.1.1
  have hb := F.1.2.1
  have hown := F.1.2.2.2.1
  have hts := F.1.2.2.2.2
  refine lv_iconst (v := 0) hx hb dX10_pass_0 (by decide) ?_
  refine lv_istore_n (lv' := [(2, .int 0), (0, .ref (A0 + 68)), (1, .int x1)]) hx hb dX10_pass_1 rfl hl (by decide) rfl (fun ls hl => ?_)
  obtain ⟨k17, ek17, h⟩ := lt_x h
  have hk17 : ∀ (σ17 : Mm) (H : Heap) (locs : List Loc) (ls : Array Slot), zh D A0 σ17 GF 740 s.heap H locs → lv_has ls 3 [] → k17 σ17 = some σr → W p l e (zR 6 157) s m [.ref (A0 + 68), .int x1].toArray below meth c H locs 0 0 (MQ below (zQv D A0 σr GF 740) [.ref (A0 + 68), .int x1].toArray s 0 0 (zA A0)) (F0 m 17 ls []) := by
    intro  σ17 H locs ls Z hl h
    rw [ek17] at h
    try dsimp only at h
    have hq := Option.some.inj h
    exact ze_v F Z hr hlocks hq dX10_pass_17
  have hL2 : ∀ (fu2 : Nat) (x2_2 : Int32) (σ2 : Mm) (H : Heap) (locs : List Loc) (ls : Array Slot), zh D A0 σ2 GF 740 s.heap H locs → lv_has ls 3 [(0, .ref (A0 + 68)), (1, .int x1), (2, .int x2_2)] → zfX10_pass_L2 x1 k17 fu2 x2_2 σ2 = some σr → W p l e (zR 6 157) s m [.ref (A0 + 68), .int x1].toArray below meth c H locs 0 0 (MQ below (zQv D A0 σr GF 740) [.ref (A0 + 68), .int x1].toArray s 0 0 (zA A0)) (F0 m 2 ls []) := by
    intro fu2
    induction fu2 with
    | zero => intro x2_2 σ2 H locs ls Z hl h; rw [zfX10_pass_L2] at h; cases h
    | succ fu2 ih2 =>
      intro x2_2 σ2 H locs ls Z hl h
      rw [zfX10_pass_L2] at h
      refine lv_iload_n hx hb dX10_pass_2 rfl (lv_at hl 2 rfl) ?_
      refine lv_iload_n hx hb dX10_pass_3 rfl (lv_at hl 1 rfl) ?_
      refine zb_icge (tgt := 17) hx hb dX10_pass_4 (by decide) h (fun h => ?_) (fun h => ?_)
      · exact hk17 σ2 _ _ _ Z (lv_sub hl [] rfl) h
      · refine lv_aload_n hx hb dX10_pass_7 rfl (lv_at hl 0 rfl) ?_
        obtain ⟨σ8, hc8, h⟩ := bd_x h
        refine zc_v Z (zr_V F Z (a := 68) (As := []) (zcX10_step l D A0 σ2 σ8 hc8) zBX10_step zq947 (by decide) zs_68 zC10.1 rfl ⟨⟨rfl, rfl⟩, Nat.le_of_ble_eq_true rfl, Nat.le_of_ble_eq_true rfl⟩ hl.1 rfl (Nat.le_of_ble_eq_true rfl) dX10_pass_8 ⟨Nat.le_of_ble_eq_true rfl, Nat.le_of_ble_eq_true rfl⟩) (fun _ _ Z => ?_)
        obtain ⟨x2_11, ex2_11⟩ : ∃ y : Int32, y = x2_2 + 1 := ⟨_, rfl⟩
        replace h := lt_w h ex2_11
        refine lv_iinc (v := x2_11) (lv' := [(2, .int x2_11), (0, .ref (A0 + 68)), (1, .int x1)]) hx hb dX10_pass_11 hl (k := 2) rfl (by rw [ex2_11]; rfl) (by decide) rfl (fun ls hl => ?_)
        refine lv_goto (tgt := 2) hx hb dX10_pass_14 (by decide) ?_
        exact ih2 x2_11 σ8 _ _ _ Z (lv_sub hl [1, 2, 0] rfl) h
  exact hL2 NF 0 σ _ _ _ Z (lv_sub hl [1, 2, 0] rfl) h
set_option maxHeartbeats 4000000 in
set_option maxRecDepth 100000 in
theorem zcX11_ahead (l : Launch) (D : va_G) (A0 : Nat) (x1 : Int32) (σ : Mm) (r0 : Int32) (σr : Mm) (h : zfX11_ahead x1 σ = some (r0, σr)) : Met l yX11_ahead (zws yX11_ahead cX11_ahead 2 (some .int)) (zR 7 179) (zPc D A0 σ GF 740 [.ref (A0 + 0), .int x1]) (zQi D A0 r0 σr GF 740) 0 0 (zA A0) := by
  unfold zfX11_ahead at h
  refine zmet (own := RX11) (by decide) rfl (Nat.le_of_ble_eq_true rfl) ?_
  intro p e s m below meth c F hr hlocks _ Z ls hl
  have hl : lv_has ls 2 [(0, .ref (A0 + 0)), (1, .int x1)] := hl
  have hx := F.1.1
  have hb := F.1.2.1
  have hown := F.1.2.2.2.1
  have hts := F.1.2.2.2.2
  refine lv_aload_n hx hb dX11_ahead_0 rfl (lv_at hl 0 rfl) ?_
  refine lv_iload_n hx hb dX11_ahead_1 rfl (lv_at hl 1 rfl) ?_
  refine zc_i Z (zr_V F Z (a := 0) (As := [.int x1]) (zcX11_noDays l D A0 x1 σ (zfX11_noDays x1 σ) rfl) zBX11_noDays zq854 (by decide) zs_0 zC11.1 rfl ⟨⟨rfl, rfl⟩, Nat.le_of_ble_eq_true rfl, Nat.le_of_ble_eq_true rfl⟩ hl.1 rfl (Nat.le_of_ble_eq_true rfl) dX11_ahead_2 ⟨Nat.le_of_ble_eq_true rfl, Nat.le_of_ble_eq_true rfl⟩) (fun _ _ Z => ?_)
  refine zb_ifeq (tgt := 10) hx hb dX11_ahead_5 (by decide) h (fun h => ?_) (fun h => ?_)
  · refine lv_aload_n hx hb dX11_ahead_10 rfl (lv_at hl 0 rfl) ?_
    refine zw_getR F Z zC11 (a := 0) (k := 10) (by decide) zs_0 (by decide) rfl zg_0_10 zq544 (Or.inl rfl) dX11_ahead_11 ?_
    obtain ⟨σ14, hc14, h⟩ := bd_x h
    refine zc_v Z (zr_V F Z (a := 68) (As := []) (zcX10_begin l D A0 σ σ14 hc14) zBX10_begin zq931 (by decide) zs_68 zC10.1 rfl ⟨⟨rfl, rfl⟩, Nat.le_of_ble_eq_true rfl, Nat.le_of_ble_eq_true rfl⟩ hl.1 rfl (Nat.le_of_ble_eq_true rfl) dX11_ahead_14 ⟨Nat.le_of_ble_eq_true rfl, Nat.le_of_ble_eq_true rfl⟩) (fun _ _ Z => ?_)
    refine lv_aload_n hx hb dX11_ahead_17 rfl (lv_at hl 0 rfl) ?_
    refine zw_getR F Z zC11 (a := 0) (k := 10) (by decide) zs_0 (by decide) rfl zg_0_10 zq544 (Or.inl rfl) dX11_ahead_18 ?_
    refine lv_iload_n hx hb dX11_ahead_21 rfl (lv_at hl 1 rfl) ?_
    obtain ⟨σ22, hc22, h⟩ := bd_x h
    refine zc_v Z (zr_V F Z (a := 68) (As := [.int x1]) (zcX10_pass l D A0 x1 σ14 σ22 hc22) zBX10_pass zq943 (by decide) zs_68 zC10.1 rfl ⟨⟨rfl, rfl⟩, Nat.le_of_ble_eq_true rfl, Nat.le_of_ble_eq_true rfl⟩ hl.1 rfl (Nat.le_of_ble_eq_true rfl) dX11_ahead_22 ⟨Nat.le_of_ble_eq_true rfl, Nat.le_of_ble_eq_true rfl⟩) (fun _ _ Z => ?_)
    refine lv_aload_n hx hb dX11_ahead_25 rfl (lv_at hl 0 rfl) ?_
    refine zw_getR F Z zC11 (a := 0) (k := 10) (by decide) zs_0 (by decide) rfl zg_0_10 zq544 (Or.inl rfl) dX11_ahead_26 ?_
    refine zw_getR F Z zC10 (a := 68) (k := 3) (by decide) zs_68 (by decide) rfl zg_68_3 zq401 (Or.inl rfl) dX11_ahead_29 ?_
    refine zw_getI F Z zC8 (a := 69) (k := 0) (by decide) zs_69 (by decide) rfl zq222 (Or.inl rfl) dX11_ahead_32 ?_
    obtain ⟨hq1, hq2⟩ := zpq h
    exact ze_i F Z hr hlocks hq1 hq2 dX11_ahead_35
  · refine lv_iconst (v := (-1)) hx hb dX11_ahead_8 (by decide) ?_
    obtain ⟨hq1, hq2⟩ := zpq h
    exact ze_i F Z hr hlocks hq1 hq2 dX11_ahead_9
set_option maxHeartbeats 4000000 in
set_option maxRecDepth 100000 in
theorem zcX11_falls (l : Launch) (D : va_G) (A0 : Nat) (x1 : Int32) (x2 : Int32) (σ : Mm) (r0 : Int32) (σr : Mm) (h : zfX11_falls x1 x2 σ = some (r0, σr)) : Met l yX11_falls (zws yX11_falls cX11_falls 3 (some .int)) (zR 7 179) (zPc D A0 σ GF 740 [.ref (A0 + 0), .int x1, .int x2]) (zQi D A0 r0 σr GF 740) 0 0 (zA A0) := by
  unfold zfX11_falls at h
  refine zmet (own := RX11) (by decide) rfl (Nat.le_of_ble_eq_true rfl) ?_
  intro p e s m below meth c F hr hlocks _ Z ls hl
  have hl : lv_has ls 3 [(0, .ref (A0 + 0)), (1, .int x1), (2, .int x2)] := hl
  have hx := F.1.1
  have hb := F.1.2.1
  have hown := F.1.2.2.2.1
  have hts := F.1.2.2.2.2
  refine lv_aload_n hx hb dX11_falls_0 rfl (lv_at hl 0 rfl) ?_
  refine lv_iload_n hx hb dX11_falls_1 rfl (lv_at hl 1 rfl) ?_
  refine zc_i Z (zr_V F Z (a := 0) (As := [.int x1]) (zcX11_noDays l D A0 x1 σ (zfX11_noDays x1 σ) rfl) zBX11_noDays zq854 (by decide) zs_0 zC11.1 rfl ⟨⟨rfl, rfl⟩, Nat.le_of_ble_eq_true rfl, Nat.le_of_ble_eq_true rfl⟩ hl.1 rfl (Nat.le_of_ble_eq_true rfl) dX11_falls_2 ⟨Nat.le_of_ble_eq_true rfl, Nat.le_of_ble_eq_true rfl⟩) (fun _ _ Z => ?_)
  obtain ⟨j16, ej16, h⟩ := lt_x h
  have hj16 : ∀ (σ16 : Mm) (H : Heap) (locs : List Loc) (ls : Array Slot), zh D A0 σ16 GF 740 s.heap H locs → lv_has ls 3 [] → j16 σ16 = some (r0, σr) → W p l e (zR 7 179) s m [.ref (A0 + 0), .int x1, .int x2].toArray below meth c H locs 0 0 (MQ below (zQi D A0 r0 σr GF 740) [.ref (A0 + 0), .int x1, .int x2].toArray s 0 0 (zA A0)) (F0 m 16 ls []) := by
    intro  σ16 H locs ls Z hl h
    rw [ej16] at h
    try dsimp only at h
    refine lv_iconst (v := (-1)) hx hb dX11_falls_16 (by decide) ?_
    obtain ⟨hq1, hq2⟩ := zpq h
    exact ze_i F Z hr hlocks hq1 hq2 dX11_falls_17
  refine zb_ifne (tgt := 16) hx hb dX11_falls_5 (by decide) h (fun h => ?_) (fun h => ?_)
  · exact hj16 σ _ _ _ Z (lv_sub hl [] rfl) h
  · refine lv_iload_n hx hb dX11_falls_8 rfl (lv_at hl 2 rfl) ?_
    refine lv_iconst (v := 1) hx hb dX11_falls_9 (by decide) ?_
    refine zc_i Z (zr_S F Z (As := [.int x2, .int 1]) (zcX11_noWhat l D A0 x2 1 σ (zfX11_noWhat x2 1) rfl) zBX11_noWhat zq971 rfl ⟨⟨rfl, rfl⟩, Nat.le_of_ble_eq_true rfl, Nat.le_of_ble_eq_true rfl⟩ hl.1 rfl (Nat.le_of_ble_eq_true rfl) dX11_falls_10 ⟨Nat.le_of_ble_eq_true rfl, Nat.le_of_ble_eq_true rfl⟩) (fun _ _ Z => ?_)
    refine zb_ifeq (tgt := 18) hx hb dX11_falls_13 (by decide) h (fun h => ?_) (fun h => ?_)
    · refine lv_aload_n hx hb dX11_falls_18 rfl (lv_at hl 0 rfl) ?_
      refine zw_getR F Z zC11 (a := 0) (k := 10) (by decide) zs_0 (by decide) rfl zg_0_10 zq544 (Or.inl rfl) dX11_falls_19 ?_
      obtain ⟨σ22, hc22, h⟩ := bd_x h
      refine zc_v Z (zr_V F Z (a := 68) (As := []) (zcX10_begin l D A0 σ σ22 hc22) zBX10_begin zq931 (by decide) zs_68 zC10.1 rfl ⟨⟨rfl, rfl⟩, Nat.le_of_ble_eq_true rfl, Nat.le_of_ble_eq_true rfl⟩ hl.1 rfl (Nat.le_of_ble_eq_true rfl) dX11_falls_22 ⟨Nat.le_of_ble_eq_true rfl, Nat.le_of_ble_eq_true rfl⟩) (fun _ _ Z => ?_)
      refine lv_aload_n hx hb dX11_falls_25 rfl (lv_at hl 0 rfl) ?_
      refine zw_getR F Z zC11 (a := 0) (k := 10) (by decide) zs_0 (by decide) rfl zg_0_10 zq544 (Or.inl rfl) dX11_falls_26 ?_
      refine lv_iload_n hx hb dX11_falls_29 rfl (lv_at hl 1 rfl) ?_
      obtain ⟨σ30, hc30, h⟩ := bd_x h
      refine zc_v Z (zr_V F Z (a := 68) (As := [.int x1]) (zcX10_pass l D A0 x1 σ22 σ30 hc30) zBX10_pass zq943 (by decide) zs_68 zC10.1 rfl ⟨⟨rfl, rfl⟩, Nat.le_of_ble_eq_true rfl, Nat.le_of_ble_eq_true rfl⟩ hl.1 rfl (Nat.le_of_ble_eq_true rfl) dX11_falls_30 ⟨Nat.le_of_ble_eq_true rfl, Nat.le_of_ble_eq_true rfl⟩) (fun _ _ Z => ?_)
      refine lv_iload_n hx hb dX11_falls_33 rfl (lv_at hl 2 rfl) ?_
      refine zb_ifne (tgt := 47) hx hb dX11_falls_34 (by decide) h (fun h => ?_) (fun h => ?_)
      · refine lv_aload_n hx hb dX11_falls_47 rfl (lv_at hl 0 rfl) ?_
        refine zw_getR F Z zC11 (a := 0) (k := 10) (by decide) zs_0 (by decide) rfl zg_0_10 zq544 (Or.inl rfl) dX11_falls_48 ?_
        refine zw_getI F Z zC10 (a := 68) (k := 5) (by decide) zs_68 (by decide) rfl zq405 (Or.inl rfl) dX11_falls_51 ?_
        obtain ⟨hq1, hq2⟩ := zpq h
        exact ze_i F Z hr hlocks hq1 hq2 dX11_falls_54
      · refine lv_aload_n hx hb dX11_falls_37 rfl (lv_at hl 0 rfl) ?_
        refine zw_getR F Z zC11 (a := 0) (k := 10) (by decide) zs_0 (by decide) rfl zg_0_10 zq544 (Or.inl rfl) dX11_falls_38 ?_
        refine zw_getI F Z zC10 (a := 68) (k := 4) (by decide) zs_68 (by decide) rfl zq403 (Or.inl rfl) dX11_falls_41 ?_
        refine lv_goto (tgt := 54) hx hb dX11_falls_44 (by decide) ?_
        obtain ⟨hq1, hq2⟩ := zpq h
        exact ze_i F Z hr hlocks hq1 hq2 dX11_falls_54
    · exact hj16 σ _ _ _ Z (lv_sub hl [] rfl) h
set_option maxHeartbeats 4000000 in
set_option maxRecDepth 100000 in
theorem zcX7_begin (l : Launch) (D : va_G) (A0 : Nat) (σ : Mm) (r0 : Nat) (σr : Mm) (h : zfX7_begin σ = some (r0, σr)) : Met l yX7_begin (zws yX7_begin cX7_begin 2 (some (.object "UnsoldPrice$State"))) (zR 2 81) (zPc D A0 σ GF 740 [.ref (A0 + 79)]) (zQr D A0 r0 σr GF 740) 0 0 (zA A0) := by
  unfold zfX7_begin at h
  refine zmet (own := RX7) (by decide) rfl (Nat.le_of_ble_eq_true rfl) ?_
  intro p e s m below meth c F hr hlocks _ Z ls hl
  have hl : lv_has ls 2 [(0, .ref (A0 + 79))] := hl
  have hx := F.1.1
  have hb := F.1.2.1
  have hown := F.1.2.2.2.1
  have hts := F.1.2.2.2.2
  refine lv_aload_n hx hb dX7_begin_0 rfl (lv_at hl 0 rfl) ?_
  refine zw_getR F Z zC7 (a := 79) (k := 1) (by decide) zs_79 (by decide) rfl zg_79_1 zq461 (Or.inl rfl) dX7_begin_1 ?_
  obtain ⟨σ4, hc4, h⟩ := bd_x h
  refine zc_v Z (zr_V F Z (a := 37) (As := []) (zcX6_begin l D A0 σ σ4 hc4) zBX6_begin zq986 (by decide) zs_37 zC6.1 rfl ⟨⟨rfl, rfl⟩, Nat.le_of_ble_eq_true rfl, Nat.le_of_ble_eq_true rfl⟩ hl.1 rfl (Nat.le_of_ble_eq_true rfl) dX7_begin_4 ⟨Nat.le_of_ble_eq_true rfl, Nat.le_of_ble_eq_true rfl⟩) (fun _ _ Z => ?_)
  refine lv_aload_n hx hb dX7_begin_7 rfl (lv_at hl 0 rfl) ?_
  refine zw_getR F Z zC7 (a := 79) (k := 3) (by decide) zs_79 (by decide) rfl zg_79_3 zq463 (Or.inl rfl) dX7_begin_8 ?_
  refine lv_iconst (v := 0) hx hb dX7_begin_11 (by decide) ?_
  refine zw_aald F Z (ty := 4) (by decide) zs_80 (by decide) rfl (by decide) zg_80_0 dX7_begin_12 ?_
  refine lv_astore_n (lv' := [(1, .ref (A0 + 85)), (0, .ref (A0 + 79))]) hx hb dX7_begin_13 rfl hl (by decide) rfl (fun ls hl => ?_)
  refine lv_aload_n hx hb dX7_begin_14 rfl (lv_at hl 0 rfl) ?_
  refine lv_ifnull hx hb dX7_begin_15 ?_
  refine lv_aload_n hx hb dX7_begin_18 rfl (lv_at hl 0 rfl) ?_
  refine lv_aload_n hx hb dX7_begin_19 rfl (lv_at hl 1 rfl) ?_
  refine zw_getR F Z zC7 (a := 79) (k := 2) (by decide) zs_79 (by decide) rfl zg_79_2 zq462 (Or.inl rfl) dX7_begin_20 ?_
  obtain ⟨σ23, hc23, h⟩ := bd_x h
  refine zc_v Z (zr_V F Z (a := 85) (As := [.ref (A0 + 27)]) (zcX8_copyFrom l D A0 85 27 (Or.inr (Or.inr (Or.inr ⟨0, by decide, rfl⟩))) (Or.inl rfl) σ4 σ23 hc23) zBX8_copyFrom zq987 (by decide) zs_85 zC8.1 rfl ⟨⟨rfl, rfl⟩, Nat.le_of_ble_eq_true rfl, Nat.le_of_ble_eq_true rfl⟩ hl.1 rfl (Nat.le_of_ble_eq_true rfl) dX7_begin_23 ⟨Nat.le_of_ble_eq_true rfl, Nat.le_of_ble_eq_true rfl⟩) (fun _ _ Z => ?_)
  refine lv_aload_n hx hb dX7_begin_26 rfl (lv_at hl 0 rfl) ?_
  obtain ⟨hq1, hq2⟩ := zpq h
  exact ze_r F Z hr (Or.inl ⟨_, rfl⟩) hlocks hq1 hq2 dX7_begin_27
set_option maxHeartbeats 4000000 in
set_option maxRecDepth 100000 in
theorem zcX7_next (l : Launch) (D : va_G) (A0 : Nat) (x1 : Int32) (x2 : Int32) (σ : Mm) (r0 : Nat) (σr : Mm) (h : zfX7_next x1 x2 σ = some (r0, σr)) : Met l yX7_next (zws yX7_next cX7_next 5 (some (.object "UnsoldPrice$State"))) (zR 5 137) (zPc D A0 σ GF 740 [.ref (A0 + 79), .int x1, .int x2]) (zQr D A0 r0 σr GF 740) 0 0 (zA A0) := by
  unfold zfX7_next at h
  refine zmet (own := RX7) (by decide) rfl (Nat.le_of_ble_eq_true rfl) ?_
  intro p e s m below meth c F hr hlocks _ Z ls hl
  have hl : lv_has ls 5 [(0, .ref (A0 + 79)), (1, .int x1), (2, .int x2)] := hl
  have hx := F.1.1
  have hb := F.1.2.1
  have hown := F.1.2.2.2.1
  have hts := F.1.2.2.2.2
  refine lv_iload_n hx hb dX7_next_0 rfl (lv_at hl 1 rfl) ?_
  obtain ⟨j15, ej15, h⟩ := lt_x h
  have hj15 : ∀ (σ15 : Mm) (H : Heap) (locs : List Loc) (ls : Array Slot), zh D A0 σ15 GF 740 s.heap H locs → lv_has ls 5 [] → j15 σ15 = some (r0, σr) → W p l e (zR 5 137) s m [.ref (A0 + 79), .int x1, .int x2].toArray below meth c H locs 0 0 (MQ below (zQr D A0 r0 σr GF 740) [.ref (A0 + 79), .int x1, .int x2].toArray s 0 0 (zA A0)) (F0 m 15 ls []) := by
    intro  σ15 H locs ls Z hl h
    rw [ej15] at h
    try dsimp only at h
    cases h
  refine zb_iflt (tgt := 15) hx hb dX7_next_1 (by decide) h (fun h => ?_) (fun h => ?_)
  · exact hj15 σ _ _ _ Z (lv_sub hl [] rfl) h
  · refine lv_iload_n hx hb dX7_next_4 rfl (lv_at hl 1 rfl) ?_
    refine lv_iconst (v := 1) hx hb dX7_next_5 (by decide) ?_
    refine lv_iadd hx hb dX7_next_6 ?_
    refine lv_aload_n hx hb dX7_next_7 rfl (lv_at hl 0 rfl) ?_
    refine zw_getR F Z zC7 (a := 79) (k := 3) (by decide) zs_79 (by decide) rfl zg_79_3 zq463 (Or.inl rfl) dX7_next_8 ?_
    refine zw_alen F Z (ty := 4) (v := 61) (by decide) zs_80 rfl rfl dX7_next_11 ?_
    refine zb_iclt (tgt := 17) hx hb dX7_next_12 (by decide) h (fun h => ?_) (fun h => ?_)
    · refine lv_aload_n hx hb dX7_next_17 rfl (lv_at hl 0 rfl) ?_
      refine zw_getR F Z zC7 (a := 79) (k := 3) (by decide) zs_79 (by decide) rfl zg_79_3 zq463 (Or.inl rfl) dX7_next_18 ?_
      refine lv_iload_n hx hb dX7_next_21 rfl (lv_at hl 1 rfl) ?_
      obtain ⟨hk22, h⟩ := ck_x h
      refine zw_aald F Z (ty := 4) (by decide) zs_80 (by decide) rfl hk22 (zg_path hk22) dX7_next_22 ?_
      refine lv_astore_n (lv' := [(3, .ref (A0 + (85 + 10 * ix x1))), (0, .ref (A0 + 79)), (1, .int x1), (2, .int x2)]) hx hb dX7_next_23 rfl hl (by decide) rfl (fun ls hl => ?_)
      refine lv_aload_n hx hb dX7_next_24 rfl (lv_at hl 1 rfl) ?_
      refine zw_getR F Z zC7 (a := 79) (k := 3) (by decide) zs_79 (by decide) rfl zg_79_3 zq463 (Or.inl rfl) dX7_next_25 ?_
      refine lv_iload_n hx hb dX7_next_28 rfl (lv_at hl 2 rfl) ?_
      refine lv_iconst (v := 1) hx hb dX7_next_29 (by decide) ?_
      refine lv_iadd hx hb dX7_next_30 ?_
      obtain ⟨hk31, h⟩ := ck_x h
      refine zw_aald F Z (ty := 4) (by decide) zs_80 (by decide) rfl hk31 (zg_path hk31) dX7_next_31 ?_
      refine lv_astore (lv' := [(4, .ref (A0 + (85 + 10 * ix (x1 + 1)))), (3, .ref (A0 + (85 + 10 * ix x1))), (0, .ref (A0 + 79)), (1, .int x1), (2, .int x2)]) hx hb dX7_next_32 hl (by decide) rfl (fun ls hl => ?_)
      refine lv_aload_n hx hb dX7_next_34 rfl (lv_at hl 1 rfl) ?_
      refine lv_ifnull hx hb dX7_next_35 ?_
      refine lv_aload hx hb dX7_next_38 (lv_at hl 0 rfl) ?_
      refine lv_ifnonnull (tgt := 45) hx hb dX7_next_40 (by decide) ?_
      refine lv_aload hx hb dX7_next_45 (lv_at hl 0 rfl) ?_
      refine lv_aload_n hx hb dX7_next_47 rfl (lv_at hl 1 rfl) ?_
      obtain ⟨σ48, hc48, h⟩ := bd_x h
      refine zc_v Z (zr_V F Z (a := (85 + 10 * ix (x1 + 1))) (As := [.ref (A0 + (85 + 10 * ix x1))]) (zcX8_copyFrom l D A0 (85 + 10 * ix (x1 + 1)) (85 + 10 * ix x1) (zIsS_path hk31) (zIsS_path hk22) σ σ48 hc48) zBX8_copyFrom zq987 (zltS_0 (zIsS_path hk31)) (zsS_0 (zIsS_path hk31)) zC8.1 rfl ⟨⟨rfl, rfl⟩, Nat.le_of_ble_eq_true rfl, Nat.le_of_ble_eq_true rfl⟩ hl.1 rfl (Nat.le_of_ble_eq_true rfl) dX7_next_48 ⟨Nat.le_of_ble_eq_true rfl, Nat.le_of_ble_eq_true rfl⟩) (fun _ _ Z => ?_)
      refine lv_aload_n hx hb dX7_next_51 rfl (lv_at hl 2 rfl) ?_
      refine zw_getR F Z zC7 (a := 79) (k := 1) (by decide) zs_79 (by decide) rfl zg_79_1 zq461 (Or.inl rfl) dX7_next_52 ?_
      refine lv_aload hx hb dX7_next_55 (lv_at hl 0 rfl) ?_
      refine lv_iload_n hx hb dX7_next_57 rfl (lv_at hl 4 rfl) ?_
      obtain ⟨σ58, hc58, h⟩ := bd_x h
      refine zc_v Z (zr_V F Z (a := 37) (As := [.ref (A0 + (85 + 10 * ix (x1 + 1))), .int x2]) (zcX6_runDay l D A0 (85 + 10 * ix (x1 + 1)) x2 (zIsS_path hk31) σ48 σ58 hc58) zBX6_runDay zq992 (by decide) zs_37 zC6.1 rfl ⟨⟨rfl, rfl⟩, Nat.le_of_ble_eq_true rfl, Nat.le_of_ble_eq_true rfl⟩ hl.1 rfl (Nat.le_of_ble_eq_true rfl) dX7_next_58 ⟨Nat.le_of_ble_eq_true rfl, Nat.le_of_ble_eq_true rfl⟩) (fun _ _ Z => ?_)
      refine lv_aload hx hb dX7_next_61 (lv_at hl 0 rfl) ?_
      obtain ⟨hq1, hq2⟩ := zpq h
      exact ze_r F Z hr (Or.inl ⟨_, rfl⟩) hlocks hq1 hq2 dX7_next_63
    · exact hj15 σ _ _ _ Z (lv_sub hl [] rfl) h
set_option maxHeartbeats 4000000 in
set_option maxRecDepth 100000 in
theorem zcX8_isLike (l : Launch) (D : va_G) (A0 : Nat) (q0 : Nat) (q1 : Nat) (hq0 : zIsS q0) (hq1 : zIsS q1) (σ : Mm) (r0 : Int32) (h : zfX8_isLike q0 q1 σ = some r0) : Met l yX8_isLike (zws yX8_isLike cX8_isLike 4 (some .boolean)) (zR 0 0) (zPc D A0 σ GF 740 [.ref (A0 + q0), .ref (A0 + q1)]) (zQi D A0 r0 σ GF 740) 0 0 (zA A0) := by
  unfold zfX8_isLike at h
  refine zmet (own := RX8) (by decide) rfl (Nat.le_of_ble_eq_true rfl) ?_
  intro p e s m below meth c F hr hlocks _ Z ls hl
  have hl : lv_has ls 4 [(0, .ref (A0 + q0)), (1, .ref (A0 + q1))] := hl
  have hx := F.1.1
  have hb := F.1.2.1
  have hown := F.1.2.2.2.1
  have hts := F.1.2.2.2.2
  refine lv_aload_n hx hb dX8_isLike_0 rfl (lv_at hl 0 rfl) ?_
  refine zw_getI F Z zC8 (a := q0) (k := 0) (zltS_0 hq0) (zsS_0 hq0) (by decide) rfl zq218 (Or.inl rfl) dX8_isLike_1 ?_
  refine lv_aload_n hx hb dX8_isLike_4 rfl (lv_at hl 1 rfl) ?_
  refine zw_getI F Z zC8 (a := q1) (k := 0) (zltS_0 hq1) (zsS_0 hq1) (by decide) rfl zq218 (Or.inl rfl) dX8_isLike_5 ?_
  obtain ⟨j16, ej16, h⟩ := lt_x h
  have hj16 : ∀ (y0_16 : Int32) (H : Heap) (locs : List Loc) (ls : Array Slot), zh D A0 σ GF 740 s.heap H locs → lv_has ls 4 [(0, .ref (A0 + q0)), (1, .ref (A0 + q1))] → j16 y0_16 = some r0 → W p l e (zR 0 0) s m [.ref (A0 + q0), .ref (A0 + q1)].toArray below meth c H locs 0 0 (MQ below (zQi D A0 r0 σ GF 740) [.ref (A0 + q0), .ref (A0 + q1)].toArray s 0 0 (zA A0)) (F0 m 16 ls [.int y0_16]) := by
    intro y0_16 H locs ls Z hl h
    rw [ej16] at h
    try dsimp only at h
    refine lv_istore_n (lv' := [(2, .int y0_16), (0, .ref (A0 + q0)), (1, .ref (A0 + q1))]) hx hb dX8_isLike_16 rfl hl (by decide) rfl (fun ls hl => ?_)
    refine lv_iconst (v := 0) hx hb dX8_isLike_17 (by decide) ?_
    refine lv_istore_n (lv' := [(3, .int 0), (2, .int y0_16), (0, .ref (A0 + q0)), (1, .ref (A0 + q1))]) hx hb dX8_isLike_18 rfl hl (by decide) rfl (fun ls hl => ?_)
    obtain ⟨k70, ek70, h⟩ := lt_x h
    have hk70 : ∀ (x2_70 : Int32) (H : Heap) (locs : List Loc) (ls : Array Slot), zh D A0 σ GF 740 s.heap H locs → lv_has ls 4 [(0, .ref (A0 + q0)), (1, .ref (A0 + q1)), (2, .int x2_70)] → k70 x2_70 = some r0 → W p l e (zR 0 0) s m [.ref (A0 + q0), .ref (A0 + q1)].toArray below meth c H locs 0 0 (MQ below (zQi D A0 r0 σ GF 740) [.ref (A0 + q0), .ref (A0 + q1)].toArray s 0 0 (zA A0)) (F0 m 70 ls []) := by
      intro x2_70 H locs ls Z hl h
      rw [ek70] at h
      try dsimp only at h
      refine lv_iconst (v := 0) hx hb dX8_isLike_70 (by decide) ?_
      refine lv_istore_n (lv' := [(3, .int 0), (0, .ref (A0 + q0)), (1, .ref (A0 + q1)), (2, .int x2_70)]) hx hb dX8_isLike_71 rfl hl (by decide) rfl (fun ls hl => ?_)
      obtain ⟨k121, ek121, h⟩ := lt_x h
      have hk121 : ∀ (x2_121 : Int32) (H : Heap) (locs : List Loc) (ls : Array Slot), zh D A0 σ GF 740 s.heap H locs → lv_has ls 4 [(2, .int x2_121)] → k121 x2_121 = some r0 → W p l e (zR 0 0) s m [.ref (A0 + q0), .ref (A0 + q1)].toArray below meth c H locs 0 0 (MQ below (zQi D A0 r0 σ GF 740) [.ref (A0 + q0), .ref (A0 + q1)].toArray s 0 0 (zA A0)) (F0 m 121 ls []) := by
        intro x2_121 H locs ls Z hl h
        rw [ek121] at h
        try dsimp only at h
        refine lv_iload_n hx hb dX8_isLike_121 rfl (lv_at hl 0 rfl) ?_
        obtain ⟨hz122, h⟩ := ck_x h
        have hq := Option.some.inj h
        exact ze_z F Z hr hlocks hz122 hq rfl dX8_isLike_122
      have hL72 : ∀ (fu72 : Nat) (x2_72 : Int32) (x3_72 : Int32) (H : Heap) (locs : List Loc) (ls : Array Slot), zh D A0 σ GF 740 s.heap H locs → lv_has ls 4 [(0, .ref (A0 + q0)), (1, .ref (A0 + q1)), (2, .int x2_72), (3, .int x3_72)] → zfX8_isLike_L72 k121 σ q0 q1 fu72 x2_72 x3_72 = some r0 → W p l e (zR 0 0) s m [.ref (A0 + q0), .ref (A0 + q1)].toArray below meth c H locs 0 0 (MQ below (zQi D A0 r0 σ GF 740) [.ref (A0 + q0), .ref (A0 + q1)].toArray s 0 0 (zA A0)) (F0 m 72 ls []) := by
        intro fu72
        induction fu72 with
        | zero => intro x2_72 x3_72 H locs ls Z hl h; rw [zfX8_isLike_L72] at h; cases h
        | succ fu72 ih72 =>
          intro x2_72 x3_72 H locs ls Z hl h
          rw [zfX8_isLike_L72] at h
          refine lv_iload_n hx hb dX8_isLike_72 rfl (lv_at hl 3 rfl) ?_
          refine lv_aload_n hx hb dX8_isLike_73 rfl (lv_at hl 0 rfl) ?_
          refine zw_getR F Z zC8 (a := q0) (k := 11) (zltS_0 hq0) (zsS_0 hq0) (by decide) rfl (zgS_11 hq0) zq258 (Or.inl rfl) dX8_isLike_74 ?_
          refine zw_alen F Z (ty := 0) (v := 24) (zltS_7 hq0) (zsS_7 hq0) rfl rfl dX8_isLike_77 ?_
          refine zb_icge (tgt := 121) hx hb dX8_isLike_78 (by decide) h (fun h => ?_) (fun h => ?_)
          · exact hk121 x2_72 _ _ _ Z (lv_sub hl [2] rfl) h
          · refine lv_iload_n hx hb dX8_isLike_81 rfl (lv_at hl 3 rfl) ?_
            refine lv_aload_n hx hb dX8_isLike_82 rfl (lv_at hl 1 rfl) ?_
            refine zw_getR F Z zC8 (a := q1) (k := 11) (zltS_0 hq1) (zsS_0 hq1) (by decide) rfl (zgS_11 hq1) zq258 (Or.inl rfl) dX8_isLike_83 ?_
            refine zw_alen F Z (ty := 0) (v := 24) (zltS_7 hq1) (zsS_7 hq1) rfl rfl dX8_isLike_86 ?_
            refine zb_icge (tgt := 121) hx hb dX8_isLike_87 (by decide) h (fun h => ?_) (fun h => ?_)
            · exact hk121 x2_72 _ _ _ Z (lv_sub hl [2] rfl) h
            · refine lv_iload_n hx hb dX8_isLike_90 rfl (lv_at hl 2 rfl) ?_
              obtain ⟨j114, ej114, h⟩ := lt_x h
              have hj114 : ∀ (y0_114 : Int32) (H : Heap) (locs : List Loc) (ls : Array Slot), zh D A0 σ GF 740 s.heap H locs → lv_has ls 4 [(0, .ref (A0 + q0)), (1, .ref (A0 + q1)), (3, .int x3_72)] → j114 y0_114 = some r0 → W p l e (zR 0 0) s m [.ref (A0 + q0), .ref (A0 + q1)].toArray below meth c H locs 0 0 (MQ below (zQi D A0 r0 σ GF 740) [.ref (A0 + q0), .ref (A0 + q1)].toArray s 0 0 (zA A0)) (F0 m 114 ls [.int y0_114]) := by
                intro y0_114 H locs ls Z hl h
                rw [ej114] at h
                try dsimp only at h
                refine lv_istore_n (lv' := [(2, .int y0_114), (0, .ref (A0 + q0)), (1, .ref (A0 + q1)), (3, .int x3_72)]) hx hb dX8_isLike_114 rfl hl (by decide) rfl (fun ls hl => ?_)
                obtain ⟨x3_115, ex3_115⟩ : ∃ y : Int32, y = x3_72 + 1 := ⟨_, rfl⟩
                replace h := lt_w h ex3_115
                refine lv_iinc (v := x3_115) (lv' := [(3, .int x3_115), (2, .int y0_114), (0, .ref (A0 + q0)), (1, .ref (A0 + q1))]) hx hb dX8_isLike_115 hl (k := 3) rfl (by rw [ex3_115]; rfl) (by decide) rfl (fun ls hl => ?_)
                refine lv_goto (tgt := 72) hx hb dX8_isLike_118 (by decide) ?_
                exact ih72 y0_114 x3_115 _ _ _ Z (lv_sub hl [2, 3, 1, 0] rfl) h
              obtain ⟨j113, ej113, h⟩ := lt_x h
              have hj113 : ∀  (H : Heap) (locs : List Loc) (ls : Array Slot), zh D A0 σ GF 740 s.heap H locs → lv_has ls 4 [(0, .ref (A0 + q0)), (1, .ref (A0 + q1)), (3, .int x3_72)] → j113 () = some r0 → W p l e (zR 0 0) s m [.ref (A0 + q0), .ref (A0 + q1)].toArray below meth c H locs 0 0 (MQ below (zQi D A0 r0 σ GF 740) [.ref (A0 + q0), .ref (A0 + q1)].toArray s 0 0 (zA A0)) (F0 m 113 ls []) := by
                intro  H locs ls Z hl h
                rw [ej113] at h
                try dsimp only at h
                refine lv_iconst (v := 0) hx hb dX8_isLike_113 (by decide) ?_
                exact hj114 0 _ _ _ Z (lv_sub hl [0, 1, 2] rfl) h
              refine zb_ifeq (tgt := 113) hx hb dX8_isLike_91 (by decide) h (fun h => ?_) (fun h => ?_)
              · exact hj113  _ _ _ Z (lv_sub hl [0, 1, 3] rfl) h
              · refine lv_aload_n hx hb dX8_isLike_94 rfl (lv_at hl 0 rfl) ?_
                refine zw_getR F Z zC8 (a := q0) (k := 11) (zltS_0 hq0) (zsS_0 hq0) (by decide) rfl (zgS_11 hq0) zq258 (Or.inl rfl) dX8_isLike_95 ?_
                refine lv_iload_n hx hb dX8_isLike_98 rfl (lv_at hl 3 rfl) ?_
                obtain ⟨hk99, h⟩ := ck_x h
                refine zw_iald F Z (zltS_7 hq0) (zsS_7 hq0) hk99 dX8_isLike_99 ?_
                refine lv_aload_n hx hb dX8_isLike_100 rfl (lv_at hl 1 rfl) ?_
                refine zw_getR F Z zC8 (a := q1) (k := 11) (zltS_0 hq1) (zsS_0 hq1) (by decide) rfl (zgS_11 hq1) zq258 (Or.inl rfl) dX8_isLike_101 ?_
                refine lv_iload_n hx hb dX8_isLike_104 rfl (lv_at hl 3 rfl) ?_
                obtain ⟨hk105, h⟩ := ck_x h
                refine zw_iald F Z (zltS_7 hq1) (zsS_7 hq1) hk105 dX8_isLike_105 ?_
                refine zb_icne (tgt := 113) hx hb dX8_isLike_106 (by decide) h (fun h => ?_) (fun h => ?_)
                · exact hj113  _ _ _ Z (lv_sub hl [0, 1, 3] rfl) h
                · refine lv_iconst (v := 1) hx hb dX8_isLike_109 (by decide) ?_
                  refine lv_goto (tgt := 114) hx hb dX8_isLike_110 (by decide) ?_
                  exact hj114 1 _ _ _ Z (lv_sub hl [0, 1, 3] rfl) h
      exact hL72 NF x2_70 0 _ _ _ Z (lv_sub hl [1, 2, 3, 0] rfl) h
    have hL19 : ∀ (fu19 : Nat) (x2_19 : Int32) (x3_19 : Int32) (H : Heap) (locs : List Loc) (ls : Array Slot), zh D A0 σ GF 740 s.heap H locs → lv_has ls 4 [(0, .ref (A0 + q0)), (1, .ref (A0 + q1)), (2, .int x2_19), (3, .int x3_19)] → zfX8_isLike_L19 k70 σ q0 q1 fu19 x2_19 x3_19 = some r0 → W p l e (zR 0 0) s m [.ref (A0 + q0), .ref (A0 + q1)].toArray below meth c H locs 0 0 (MQ below (zQi D A0 r0 σ GF 740) [.ref (A0 + q0), .ref (A0 + q1)].toArray s 0 0 (zA A0)) (F0 m 19 ls []) := by
      intro fu19
      induction fu19 with
      | zero => intro x2_19 x3_19 H locs ls Z hl h; rw [zfX8_isLike_L19] at h; cases h
      | succ fu19 ih19 =>
        intro x2_19 x3_19 H locs ls Z hl h
        rw [zfX8_isLike_L19] at h
        refine lv_iload_n hx hb dX8_isLike_19 rfl (lv_at hl 3 rfl) ?_
        refine lv_iconst (v := 5) hx hb dX8_isLike_20 (by decide) ?_
        refine zb_icge (tgt := 70) hx hb dX8_isLike_21 (by decide) h (fun h => ?_) (fun h => ?_)
        · exact hk70 x2_19 _ _ _ Z (lv_sub hl [0, 1, 2] rfl) h
        · refine lv_iload_n hx hb dX8_isLike_24 rfl (lv_at hl 2 rfl) ?_
          obtain ⟨j63, ej63, h⟩ := lt_x h
          have hj63 : ∀ (y0_63 : Int32) (H : Heap) (locs : List Loc) (ls : Array Slot), zh D A0 σ GF 740 s.heap H locs → lv_has ls 4 [(0, .ref (A0 + q0)), (1, .ref (A0 + q1)), (3, .int x3_19)] → j63 y0_63 = some r0 → W p l e (zR 0 0) s m [.ref (A0 + q0), .ref (A0 + q1)].toArray below meth c H locs 0 0 (MQ below (zQi D A0 r0 σ GF 740) [.ref (A0 + q0), .ref (A0 + q1)].toArray s 0 0 (zA A0)) (F0 m 63 ls [.int y0_63]) := by
            intro y0_63 H locs ls Z hl h
            rw [ej63] at h
            try dsimp only at h
            refine lv_istore_n (lv' := [(2, .int y0_63), (0, .ref (A0 + q0)), (1, .ref (A0 + q1)), (3, .int x3_19)]) hx hb dX8_isLike_63 rfl hl (by decide) rfl (fun ls hl => ?_)
            obtain ⟨x3_64, ex3_64⟩ : ∃ y : Int32, y = x3_19 + 1 := ⟨_, rfl⟩
            replace h := lt_w h ex3_64
            refine lv_iinc (v := x3_64) (lv' := [(3, .int x3_64), (2, .int y0_63), (0, .ref (A0 + q0)), (1, .ref (A0 + q1))]) hx hb dX8_isLike_64 hl (k := 3) rfl (by rw [ex3_64]; rfl) (by decide) rfl (fun ls hl => ?_)
            refine lv_goto (tgt := 19) hx hb dX8_isLike_67 (by decide) ?_
            exact ih19 y0_63 x3_64 _ _ _ Z (lv_sub hl [2, 3, 1, 0] rfl) h
          obtain ⟨j62, ej62, h⟩ := lt_x h
          have hj62 : ∀  (H : Heap) (locs : List Loc) (ls : Array Slot), zh D A0 σ GF 740 s.heap H locs → lv_has ls 4 [(0, .ref (A0 + q0)), (1, .ref (A0 + q1)), (3, .int x3_19)] → j62 () = some r0 → W p l e (zR 0 0) s m [.ref (A0 + q0), .ref (A0 + q1)].toArray below meth c H locs 0 0 (MQ below (zQi D A0 r0 σ GF 740) [.ref (A0 + q0), .ref (A0 + q1)].toArray s 0 0 (zA A0)) (F0 m 62 ls []) := by
            intro  H locs ls Z hl h
            rw [ej62] at h
            try dsimp only at h
            refine lv_iconst (v := 0) hx hb dX8_isLike_62 (by decide) ?_
            exact hj63 0 _ _ _ Z (lv_sub hl [0, 1, 2] rfl) h
          refine zb_ifeq (tgt := 62) hx hb dX8_isLike_25 (by decide) h (fun h => ?_) (fun h => ?_)
          · exact hj62  _ _ _ Z (lv_sub hl [0, 1, 3] rfl) h
          · refine lv_aload_n hx hb dX8_isLike_28 rfl (lv_at hl 0 rfl) ?_
            refine zw_getR F Z zC8 (a := q0) (k := 5) (zltS_0 hq0) (zsS_0 hq0) (by decide) rfl (zgS_5 hq0) zq233 (Or.inl rfl) dX8_isLike_29 ?_
            refine lv_iload_n hx hb dX8_isLike_32 rfl (lv_at hl 3 rfl) ?_
            obtain ⟨hk33, h⟩ := ck_x h
            refine zw_iald F Z (zltS_1 hq0) (zsS_1 hq0) hk33 dX8_isLike_33 ?_
            refine lv_aload_n hx hb dX8_isLike_34 rfl (lv_at hl 1 rfl) ?_
            refine zw_getR F Z zC8 (a := q1) (k := 5) (zltS_0 hq1) (zsS_0 hq1) (by decide) rfl (zgS_5 hq1) zq233 (Or.inl rfl) dX8_isLike_35 ?_
            refine lv_iload_n hx hb dX8_isLike_38 rfl (lv_at hl 3 rfl) ?_
            obtain ⟨hk39, h⟩ := ck_x h
            refine zw_iald F Z (zltS_1 hq1) (zsS_1 hq1) hk39 dX8_isLike_39 ?_
            refine zb_icne (tgt := 62) hx hb dX8_isLike_40 (by decide) h (fun h => ?_) (fun h => ?_)
            · exact hj62  _ _ _ Z (lv_sub hl [0, 1, 3] rfl) h
            · refine lv_aload_n hx hb dX8_isLike_43 rfl (lv_at hl 0 rfl) ?_
              refine zw_getR F Z zC8 (a := q0) (k := 6) (zltS_0 hq0) (zsS_0 hq0) (by decide) rfl (zgS_6 hq0) zq237 (Or.inl rfl) dX8_isLike_44 ?_
              refine lv_iload_n hx hb dX8_isLike_47 rfl (lv_at hl 3 rfl) ?_
              obtain ⟨hk48, h⟩ := ck_x h
              refine zw_iald F Z (zltS_2 hq0) (zsS_2 hq0) hk48 dX8_isLike_48 ?_
              refine lv_aload_n hx hb dX8_isLike_49 rfl (lv_at hl 1 rfl) ?_
              refine zw_getR F Z zC8 (a := q1) (k := 6) (zltS_0 hq1) (zsS_0 hq1) (by decide) rfl (zgS_6 hq1) zq237 (Or.inl rfl) dX8_isLike_50 ?_
              refine lv_iload_n hx hb dX8_isLike_53 rfl (lv_at hl 3 rfl) ?_
              obtain ⟨hk54, h⟩ := ck_x h
              refine zw_iald F Z (zltS_2 hq1) (zsS_2 hq1) hk54 dX8_isLike_54 ?_
              refine zb_icne (tgt := 62) hx hb dX8_isLike_55 (by decide) h (fun h => ?_) (fun h => ?_)
              · exact hj62  _ _ _ Z (lv_sub hl [0, 1, 3] rfl) h
              · refine lv_iconst (v := 1) hx hb dX8_isLike_58 (by decide) ?_
                refine lv_goto (tgt := 63) hx hb dX8_isLike_59 (by decide) ?_
                exact hj63 1 _ _ _ Z (lv_sub hl [0, 1, 3] rfl) h
    exact hL19 NF y0_16 0 _ _ _ Z (lv_sub hl [2, 3, 1, 0] rfl) h
  refine zb_icne (tgt := 15) hx hb dX8_isLike_8 (by decide) h (fun h => ?_) (fun h => ?_)
  · refine lv_iconst (v := 0) hx hb dX8_isLike_15 (by decide) ?_
    exact hj16 0 _ _ _ Z (lv_sub hl [0, 1] rfl) h
  · refine lv_iconst (v := 1) hx hb dX8_isLike_11 (by decide) ?_
    refine lv_goto (tgt := 16) hx hb dX8_isLike_12 (by decide) ?_
    exact hj16 1 _ _ _ Z (lv_sub hl [0, 1] rfl) h
set_option maxHeartbeats 4000000 in
set_option maxRecDepth 100000 in
theorem zcX7_findRing (l : Launch) (D : va_G) (A0 : Nat) (σ : Mm) (r0 : Int32) (σr : Mm) (h : zfX7_findRing σ = some (r0, σr)) : Met l yX7_findRing (zws yX7_findRing cX7_findRing 4 (some .boolean)) (zR 6 161) (zPc D A0 σ GF 740 [.ref (A0 + 79)]) (zQi D A0 r0 σr GF 740) 0 0 (zA A0) := by
  unfold zfX7_findRing at h
  refine zmet (own := RX7) (by decide) rfl (Nat.le_of_ble_eq_true rfl) ?_
  intro p e s m below meth c F hr hlocks _ Z ls hl
  have hl : lv_has ls 4 [(0, .ref (A0 + 79))] := hl
  have hx := F.1.1
  have hb := F.1.2.1
  have hown := F.1.2.2.2.1
  have hts := F.1.2.2.2.2
  refine lv_aload_n hx hb dX7_findRing_0 rfl (lv_at hl 0 rfl) ?_
  obtain ⟨r1, σ1, hc1, h⟩ := bd2_x h
  obtain ⟨hs1, h⟩ := ck_x h
  refine zc_r Z (zr_V F Z (a := 79) (As := []) (zcX7_begin l D A0 σ r1 σ1 hc1) zBX7_begin zq982 (by decide) zs_79 zC7.1 rfl ⟨⟨rfl, rfl⟩, Nat.le_of_ble_eq_true rfl, Nat.le_of_ble_eq_true rfl⟩ hl.1 rfl (Nat.le_of_ble_eq_true rfl) dX7_findRing_1 ⟨Nat.le_of_ble_eq_true rfl, Nat.le_of_ble_eq_true rfl⟩) (fun _ _ Z => ?_)
  refine lv_pop hx hb dX7_findRing_4 rfl ?_
  refine lv_iconst (v := 0) hx hb dX7_findRing_5 (by decide) ?_
  refine lv_istore_n (lv' := [(1, .int 0), (0, .ref (A0 + 79))]) hx hb dX7_findRing_6 rfl hl (by decide) rfl (fun ls hl => ?_)
  obtain ⟨k53, ek53, h⟩ := lt_x h
  have hk53 : ∀ (x1_53 : Int32) (x3_53 : Int32) (σ53 : Mm) (H : Heap) (locs : List Loc) (ls : Array Slot), zh D A0 σ53 GF 740 s.heap H locs → lv_has ls 4 [(0, .ref (A0 + 79)), (1, .int x1_53), (3, .int x3_53)] → k53 x1_53 x3_53 σ53 = some (r0, σr) → W p l e (zR 6 161) s m [.ref (A0 + 79)].toArray below meth c H locs 0 0 (MQ below (zQi D A0 r0 σr GF 740) [.ref (A0 + 79)].toArray s 0 0 (zA A0)) (F0 m 53 ls []) := by
    intro x1_53 x3_53 σ53 H locs ls Z hl h
    rw [ek53] at h
    try dsimp only at h
    refine lv_aload_n hx hb dX7_findRing_53 rfl (lv_at hl 0 rfl) ?_
    refine lv_iload_n hx hb dX7_findRing_54 rfl (lv_at hl 2 rfl) ?_
    refine zw_putI F Z zC7 (a := 79) (k := 4) (by decide) zs_79 (by decide) rfl (by decide) zq464 (Or.inl rfl) rfl ⟨rfl, rfl⟩ dX7_findRing_55 (fun σ55 _ _ eσ55 Z => ?_)
    replace h := lt_w h eσ55
    refine lv_aload_n hx hb dX7_findRing_58 rfl (lv_at hl 0 rfl) ?_
    refine lv_iload_n hx hb dX7_findRing_59 rfl (lv_at hl 1 rfl) ?_
    refine lv_iconst (v := 1) hx hb dX7_findRing_60 (by decide) ?_
    refine lv_iadd hx hb dX7_findRing_61 ?_
    refine lv_iload_n hx hb dX7_findRing_62 rfl (lv_at hl 2 rfl) ?_
    refine lv_isub hx hb dX7_findRing_63 ?_
    refine zw_putI F Z zC7 (a := 79) (k := 5) (by decide) zs_79 (by decide) rfl (by decide) zq466 (Or.inl rfl) rfl ⟨rfl, rfl⟩ dX7_findRing_64 (fun σ64 _ _ eσ64 Z => ?_)
    replace h := lt_w h eσ64
    refine lv_iconst (v := 1) hx hb dX7_findRing_67 (by decide) ?_
    obtain ⟨hq1, hq2⟩ := zpq h
    exact ze_z F Z hr hlocks (by decide) hq1 hq2 dX7_findRing_68
  obtain ⟨k81, ek81, h⟩ := lt_x h
  have hk81 : ∀ (σ81 : Mm) (H : Heap) (locs : List Loc) (ls : Array Slot), zh D A0 σ81 GF 740 s.heap H locs → lv_has ls 4 [] → k81 σ81 = some (r0, σr) → W p l e (zR 6 161) s m [.ref (A0 + 79)].toArray below meth c H locs 0 0 (MQ below (zQi D A0 r0 σr GF 740) [.ref (A0 + 79)].toArray s 0 0 (zA A0)) (F0 m 81 ls []) := by
    intro  σ81 H locs ls Z hl h
    rw [ek81] at h
    try dsimp only at h
    refine lv_iconst (v := 0) hx hb dX7_findRing_81 (by decide) ?_
    obtain ⟨hq1, hq2⟩ := zpq h
    exact ze_z F Z hr hlocks (by decide) hq1 hq2 dX7_findRing_82
  have hL7 : ∀ (fu7 : Nat) (x1_7 : Int32) (σ7 : Mm) (H : Heap) (locs : List Loc) (ls : Array Slot), zh D A0 σ7 GF 740 s.heap H locs → lv_has ls 4 [(0, .ref (A0 + 79)), (1, .int x1_7)] → zfX7_findRing_L7 k81 k53 fu7 x1_7 σ7 = some (r0, σr) → W p l e (zR 6 161) s m [.ref (A0 + 79)].toArray below meth c H locs 0 0 (MQ below (zQi D A0 r0 σr GF 740) [.ref (A0 + 79)].toArray s 0 0 (zA A0)) (F0 m 7 ls []) := by
    intro fu7
    induction fu7 with
    | zero => intro x1_7 σ7 H locs ls Z hl h; rw [zfX7_findRing_L7] at h; cases h
    | succ fu7 ih7 =>
      intro x1_7 σ7 H locs ls Z hl h
      rw [zfX7_findRing_L7] at h
      refine lv_iload_n hx hb dX7_findRing_7 rfl (lv_at hl 1 rfl) ?_
      refine lv_bipush (v := 60) hx hb dX7_findRing_8 (by decide) ?_
      refine zb_icge (tgt := 81) hx hb dX7_findRing_10 (by decide) h (fun h => ?_) (fun h => ?_)
      · exact hk81 σ7 _ _ _ Z (lv_sub hl [] rfl) h
      · refine lv_aload_n hx hb dX7_findRing_13 rfl (lv_at hl 0 rfl) ?_
        refine lv_iload_n hx hb dX7_findRing_14 rfl (lv_at hl 1 rfl) ?_
        refine lv_iconst (v := 0) hx hb dX7_findRing_15 (by decide) ?_
        obtain ⟨r16, σ16, hc16, h⟩ := bd2_x h
        obtain ⟨hs16, h⟩ := ck_x h
        refine zc_r Z (zr_V F Z (a := 79) (As := [.int x1_7, .int 0]) (zcX7_next l D A0 x1_7 0 σ7 r16 σ16 hc16) zBX7_next zq988 (by decide) zs_79 zC7.1 rfl ⟨⟨rfl, rfl⟩, Nat.le_of_ble_eq_true rfl, Nat.le_of_ble_eq_true rfl⟩ hl.1 rfl (Nat.le_of_ble_eq_true rfl) dX7_findRing_16 ⟨Nat.le_of_ble_eq_true rfl, Nat.le_of_ble_eq_true rfl⟩) (fun _ _ Z => ?_)
        refine lv_astore_n (lv' := [(2, .ref (A0 + r16)), (0, .ref (A0 + 79)), (1, .int x1_7)]) hx hb dX7_findRing_19 rfl hl (by decide) rfl (fun ls hl => ?_)
        refine lv_iconst (v := 0) hx hb dX7_findRing_20 (by decide) ?_
        refine lv_istore_n (lv' := [(3, .int 0), (2, .ref (A0 + r16)), (0, .ref (A0 + 79)), (1, .int x1_7)]) hx hb dX7_findRing_21 rfl hl (by decide) rfl (fun ls hl => ?_)
        obtain ⟨k53_1, ek53_1, h⟩ := lt_x h
        have hk53_1 : ∀ (x3_53_1 : Int32) (σ53_1 : Mm) (H : Heap) (locs : List Loc) (ls : Array Slot), zh D A0 σ53_1 GF 740 s.heap H locs → lv_has ls 4 [(0, .ref (A0 + 79)), (1, .int x1_7), (3, .int x3_53_1)] → k53_1 x3_53_1 σ53_1 = some (r0, σr) → W p l e (zR 6 161) s m [.ref (A0 + 79)].toArray below meth c H locs 0 0 (MQ below (zQi D A0 r0 σr GF 740) [.ref (A0 + 79)].toArray s 0 0 (zA A0)) (F0 m 53 ls []) := by
          intro x3_53_1 σ53_1 H locs ls Z hl h
          rw [ek53_1] at h
          try dsimp only at h
          exact hk53 x1_7 x3_53_1 σ53_1 _ _ _ Z (lv_sub hl [0, 1, 2] rfl) h
        obtain ⟨k75, ek75, h⟩ := lt_x h
        have hk75 : ∀ (σ75 : Mm) (H : Heap) (locs : List Loc) (ls : Array Slot), zh D A0 σ75 GF 740 s.heap H locs → lv_has ls 4 [(0, .ref (A0 + 79)), (1, .int x1_7)] → k75 σ75 = some (r0, σr) → W p l e (zR 6 161) s m [.ref (A0 + 79)].toArray below meth c H locs 0 0 (MQ below (zQi D A0 r0 σr GF 740) [.ref (A0 + 79)].toArray s 0 0 (zA A0)) (F0 m 75 ls []) := by
          intro  σ75 H locs ls Z hl h
          rw [ek75] at h
          try dsimp only at h
          obtain ⟨x1_75, ex1_75⟩ : ∃ y : Int32, y = x1_7 + 1 := ⟨_, rfl⟩
          replace h := lt_w h ex1_75
          refine lv_iinc (v := x1_75) (lv' := [(1, .int x1_75), (0, .ref (A0 + 79))]) hx hb dX7_findRing_75 hl (k := 1) rfl (by rw [ex1_75]; rfl) (by decide) rfl (fun ls hl => ?_)
          refine lv_goto (tgt := 7) hx hb dX7_findRing_78 (by decide) ?_
          exact ih7 x1_75 σ75 _ _ _ Z (lv_sub hl [1, 0] rfl) h
        have hL22 : ∀ (fu22 : Nat) (x3_22 : Int32) (σ22 : Mm) (H : Heap) (locs : List Loc) (ls : Array Slot), zh D A0 σ22 GF 740 s.heap H locs → lv_has ls 4 [(0, .ref (A0 + 79)), (1, .int x1_7), (2, .ref (A0 + r16)), (3, .int x3_22)] → zfX7_findRing_L22 x1_7 k75 r16 k53_1 fu22 x3_22 σ22 = some (r0, σr) → W p l e (zR 6 161) s m [.ref (A0 + 79)].toArray below meth c H locs 0 0 (MQ below (zQi D A0 r0 σr GF 740) [.ref (A0 + 79)].toArray s 0 0 (zA A0)) (F0 m 22 ls []) := by
          intro fu22
          induction fu22 with
          | zero => intro x3_22 σ22 H locs ls Z hl h; rw [zfX7_findRing_L22] at h; cases h
          | succ fu22 ih22 =>
            intro x3_22 σ22 H locs ls Z hl h
            rw [zfX7_findRing_L22] at h
            refine lv_iload_n hx hb dX7_findRing_22 rfl (lv_at hl 3 rfl) ?_
            refine lv_iload_n hx hb dX7_findRing_23 rfl (lv_at hl 1 rfl) ?_
            refine zb_icgt (tgt := 75) hx hb dX7_findRing_24 (by decide) h (fun h => ?_) (fun h => ?_)
            · exact hk75 σ22 _ _ _ Z (lv_sub hl [0, 1] rfl) h
            · refine lv_aload_n hx hb dX7_findRing_27 rfl (lv_at hl 2 rfl) ?_
              refine lv_ifnull hx hb dX7_findRing_28 ?_
              refine lv_aload_n hx hb dX7_findRing_31 rfl (lv_at hl 0 rfl) ?_
              refine zw_getR F Z zC7 (a := 79) (k := 3) (by decide) zs_79 (by decide) rfl zg_79_3 zq463 (Or.inl rfl) dX7_findRing_32 ?_
              refine lv_iload_n hx hb dX7_findRing_35 rfl (lv_at hl 3 rfl) ?_
              obtain ⟨hk36, h⟩ := ck_x h
              refine zw_aald F Z (ty := 4) (by decide) zs_80 (by decide) rfl hk36 (zg_path hk36) dX7_findRing_36 ?_
              refine lv_ifnull hx hb dX7_findRing_37 ?_
              refine lv_aload_n hx hb dX7_findRing_40 rfl (lv_at hl 0 rfl) ?_
              refine zw_getR F Z zC7 (a := 79) (k := 3) (by decide) zs_79 (by decide) rfl zg_79_3 zq463 (Or.inl rfl) dX7_findRing_41 ?_
              refine lv_iload_n hx hb dX7_findRing_44 rfl (lv_at hl 3 rfl) ?_
              obtain ⟨hk45, h⟩ := ck_x h
              refine zw_aald F Z (ty := 4) (by decide) zs_80 (by decide) rfl hk45 (zg_path hk45) dX7_findRing_45 ?_
              refine lv_aload_n hx hb dX7_findRing_46 rfl (lv_at hl 2 rfl) ?_
              obtain ⟨r47, hc47, h⟩ := bd_x h
              refine zc_i Z (zr_V F Z (a := (85 + 10 * ix x3_22)) (As := [.ref (A0 + r16)]) (zcX8_isLike l D A0 (85 + 10 * ix x3_22) r16 (zIsS_path hk45) (zSb hs16) σ22 r47 hc47) zBX8_isLike zq993 (zltS_0 (zIsS_path hk45)) (zsS_0 (zIsS_path hk45)) zC8.1 rfl ⟨⟨rfl, rfl⟩, Nat.le_of_ble_eq_true rfl, Nat.le_of_ble_eq_true rfl⟩ hl.1 rfl (Nat.le_of_ble_eq_true rfl) dX7_findRing_47 ⟨Nat.le_of_ble_eq_true rfl, Nat.le_of_ble_eq_true rfl⟩) (fun _ _ Z => ?_)
              refine zb_ifeq (tgt := 69) hx hb dX7_findRing_50 (by decide) h (fun h => ?_) (fun h => ?_)
              · obtain ⟨x3_69, ex3_69⟩ : ∃ y : Int32, y = x3_22 + 1 := ⟨_, rfl⟩
                replace h := lt_w h ex3_69
                refine lv_iinc (v := x3_69) (lv' := [(3, .int x3_69), (0, .ref (A0 + 79)), (1, .int x1_7), (2, .ref (A0 + r16))]) hx hb dX7_findRing_69 hl (k := 3) rfl (by rw [ex3_69]; rfl) (by decide) rfl (fun ls hl => ?_)
                refine lv_goto (tgt := 22) hx hb dX7_findRing_72 (by decide) ?_
                exact ih22 x3_69 σ22 _ _ _ Z (lv_sub hl [1, 2, 3, 0] rfl) h
              · exact hk53_1 x3_22 σ22 _ _ _ Z (lv_sub hl [0, 1, 3] rfl) h
        exact hL22 NF 0 σ16 _ _ _ Z (lv_sub hl [2, 3, 1, 0] rfl) h
  exact hL7 NF 0 σ1 _ _ _ Z (lv_sub hl [1, 0] rfl) h
set_option maxHeartbeats 4000000 in
set_option maxRecDepth 100000 in
theorem zcX11_ring (l : Launch) (D : va_G) (A0 : Nat) (x1 : Int32) (σ : Mm) (r0 : Int32) (σr : Mm) (h : zfX11_ring x1 σ = some (r0, σr)) : Met l yX11_ring (zws yX11_ring cX11_ring 2 (some .int)) (zR 7 184) (zPc D A0 σ GF 740 [.ref (A0 + 0), .int x1]) (zQi D A0 r0 σr GF 740) 0 0 (zA A0) := by
  unfold zfX11_ring at h
  refine zmet (own := RX11) (by decide) rfl (Nat.le_of_ble_eq_true rfl) ?_
  intro p e s m below meth c F hr hlocks _ Z ls hl
  have hl : lv_has ls 2 [(0, .ref (A0 + 0)), (1, .int x1)] := hl
  have hx := F.1.1
  have hb := F.1.2.1
  have hown := F.1.2.2.2.1
  have hts := F.1.2.2.2.2
  refine lv_aload_n hx hb dX11_ring_0 rfl (lv_at hl 0 rfl) ?_
  refine zc_i Z (zr_V F Z (a := 0) (As := []) (zcX11_noMarket l D A0 σ (zfX11_noMarket σ) rfl) zBX11_noMarket zq858 (by decide) zs_0 zC11.1 rfl ⟨⟨rfl, rfl⟩, Nat.le_of_ble_eq_true rfl, Nat.le_of_ble_eq_true rfl⟩ hl.1 rfl (Nat.le_of_ble_eq_true rfl) dX11_ring_1 ⟨Nat.le_of_ble_eq_true rfl, Nat.le_of_ble_eq_true rfl⟩) (fun _ _ Z => ?_)
  obtain ⟨j25, ej25, h⟩ := lt_x h
  have hj25 : ∀ (σ25 : Mm) (H : Heap) (locs : List Loc) (ls : Array Slot), zh D A0 σ25 GF 740 s.heap H locs → lv_has ls 2 [] → j25 σ25 = some (r0, σr) → W p l e (zR 7 184) s m [.ref (A0 + 0), .int x1].toArray below meth c H locs 0 0 (MQ below (zQi D A0 r0 σr GF 740) [.ref (A0 + 0), .int x1].toArray s 0 0 (zA A0)) (F0 m 25 ls []) := by
    intro  σ25 H locs ls Z hl h
    rw [ej25] at h
    try dsimp only at h
    refine lv_iconst (v := (-1)) hx hb dX11_ring_25 (by decide) ?_
    obtain ⟨hq1, hq2⟩ := zpq h
    exact ze_i F Z hr hlocks hq1 hq2 dX11_ring_26
  refine zb_ifne (tgt := 25) hx hb dX11_ring_4 (by decide) h (fun h => ?_) (fun h => ?_)
  · exact hj25 σ _ _ _ Z (lv_sub hl [] rfl) h
  · refine lv_iload_n hx hb dX11_ring_7 rfl (lv_at hl 1 rfl) ?_
    refine lv_iconst (v := 1) hx hb dX11_ring_8 (by decide) ?_
    refine zc_i Z (zr_S F Z (As := [.int x1, .int 1]) (zcX11_noWhat l D A0 x1 1 σ (zfX11_noWhat x1 1) rfl) zBX11_noWhat zq971 rfl ⟨⟨rfl, rfl⟩, Nat.le_of_ble_eq_true rfl, Nat.le_of_ble_eq_true rfl⟩ hl.1 rfl (Nat.le_of_ble_eq_true rfl) dX11_ring_9 ⟨Nat.le_of_ble_eq_true rfl, Nat.le_of_ble_eq_true rfl⟩) (fun _ _ Z => ?_)
    refine zb_ifne (tgt := 25) hx hb dX11_ring_12 (by decide) h (fun h => ?_) (fun h => ?_)
    · exact hj25 σ _ _ _ Z (lv_sub hl [] rfl) h
    · refine lv_aload_n hx hb dX11_ring_15 rfl (lv_at hl 0 rfl) ?_
      refine zw_getR F Z zC11 (a := 0) (k := 11) (by decide) zs_0 (by decide) rfl zg_0_11 zq545 (Or.inl rfl) dX11_ring_16 ?_
      obtain ⟨r19, σ19, hc19, h⟩ := bd2_x h
      refine zc_i Z (zr_V F Z (a := 79) (As := []) (zcX7_findRing l D A0 σ r19 σ19 hc19) zBX7_findRing zq978 (by decide) zs_79 zC7.1 rfl ⟨⟨rfl, rfl⟩, Nat.le_of_ble_eq_true rfl, Nat.le_of_ble_eq_true rfl⟩ hl.1 rfl (Nat.le_of_ble_eq_true rfl) dX11_ring_19 ⟨Nat.le_of_ble_eq_true rfl, Nat.le_of_ble_eq_true rfl⟩) (fun _ _ Z => ?_)
      refine zb_ifne (tgt := 27) hx hb dX11_ring_22 (by decide) h (fun h => ?_) (fun h => ?_)
      · refine lv_iload_n hx hb dX11_ring_27 rfl (lv_at hl 1 rfl) ?_
        refine zb_ifne (tgt := 41) hx hb dX11_ring_28 (by decide) h (fun h => ?_) (fun h => ?_)
        · refine lv_aload_n hx hb dX11_ring_41 rfl (lv_at hl 0 rfl) ?_
          refine zw_getR F Z zC11 (a := 0) (k := 11) (by decide) zs_0 (by decide) rfl zg_0_11 zq545 (Or.inl rfl) dX11_ring_42 ?_
          refine zw_getI F Z zC7 (a := 79) (k := 5) (by decide) zs_79 (by decide) rfl zq467 (Or.inl rfl) dX11_ring_45 ?_
          obtain ⟨hq1, hq2⟩ := zpq h
          exact ze_i F Z hr hlocks hq1 hq2 dX11_ring_48
        · refine lv_aload_n hx hb dX11_ring_31 rfl (lv_at hl 0 rfl) ?_
          refine zw_getR F Z zC11 (a := 0) (k := 11) (by decide) zs_0 (by decide) rfl zg_0_11 zq545 (Or.inl rfl) dX11_ring_32 ?_
          refine zw_getI F Z zC7 (a := 79) (k := 4) (by decide) zs_79 (by decide) rfl zq465 (Or.inl rfl) dX11_ring_35 ?_
          refine lv_goto (tgt := 48) hx hb dX11_ring_38 (by decide) ?_
          obtain ⟨hq1, hq2⟩ := zpq h
          exact ze_i F Z hr hlocks hq1 hq2 dX11_ring_48
      · exact hj25 σ19 _ _ _ Z (lv_sub hl [] rfl) h
set_option maxHeartbeats 4000000 in
set_option maxRecDepth 100000 in
theorem zcX7_tryAskings (l : Launch) (D : va_G) (A0 : Nat) : ∀ (dd : Nat) (x1 : Int32) (x2 : Int32) (σ : Mm) (σr : Mm) (h : zfX7_tryAskings dd x1 x2 σ = some σr), Met l yX7_tryAskings (zws yX7_tryAskings cX7_tryAskings 5 none) (zR (10 * dd + 700) (400 * dd + 24000)) (zPc D A0 σ GF 740 [.ref (A0 + 79), .int x1, .int x2]) (zQv D A0 σr GF 740) 0 0 (zA A0) := by
  intro dd
  induction dd with
  | zero => intro x1 x2 σ σr h; rw [zfX7_tryAskings] at h; cases h
  | succ dd hrec =>
  intro x1 x2 σ σr h
  rw [zfX7_tryAskings] at h
  refine zmet (own := RX7) (by decide) rfl (Nat.le_of_ble_eq_true rfl) ?_
  intro p e s m below meth c F hr hlocks _ Z ls hl
  have hl : lv_has ls 5 [(0, .ref (A0 + 79)), (1, .int x1), (2, .int x2)] := hl
  have hx := F.1.1
  have hb := F.1.2.1
  have hown := F.1.2.2.2.1
  have hts := F.1.2.2.2.2
  refine lv_iload_n hx hb dX7_tryAskings_0 rfl (lv_at hl 1 rfl) ?_
  refine zb_iflt (tgt := 42) hx hb dX7_tryAskings_1 (by decide) h (fun h => ?_) (fun h => ?_)
  · have hq := Option.some.inj h
    exact ze_v F Z hr hlocks hq dX7_tryAskings_42
  · refine lv_iload_n hx hb dX7_tryAskings_4 rfl (lv_at hl 1 rfl) ?_
    refine lv_iconst (v := 3) hx hb dX7_tryAskings_5 (by decide) ?_
    refine zb_icgt (tgt := 42) hx hb dX7_tryAskings_6 (by decide) h (fun h => ?_) (fun h => ?_)
    · have hq := Option.some.inj h
      exact ze_v F Z hr hlocks hq dX7_tryAskings_42
    · refine lv_iload_n hx hb dX7_tryAskings_9 rfl (lv_at hl 1 rfl) ?_
      refine lv_aload_n hx hb dX7_tryAskings_10 rfl (lv_at hl 0 rfl) ?_
      refine zw_getR F Z zC7 (a := 79) (k := 3) (by decide) zs_79 (by decide) rfl zg_79_3 zq463 (Or.inl rfl) dX7_tryAskings_11 ?_
      refine zw_alen F Z (ty := 4) (v := 61) (by decide) zs_80 rfl rfl dX7_tryAskings_14 ?_
      refine zb_icge (tgt := 42) hx hb dX7_tryAskings_15 (by decide) h (fun h => ?_) (fun h => ?_)
      · have hq := Option.some.inj h
        exact ze_v F Z hr hlocks hq dX7_tryAskings_42
      · refine lv_aload_n hx hb dX7_tryAskings_18 rfl (lv_at hl 0 rfl) ?_
        refine zw_getR F Z zC7 (a := 79) (k := 3) (by decide) zs_79 (by decide) rfl zg_79_3 zq463 (Or.inl rfl) dX7_tryAskings_19 ?_
        refine lv_iload_n hx hb dX7_tryAskings_22 rfl (lv_at hl 1 rfl) ?_
        obtain ⟨hk23, h⟩ := ck_x h
        refine zw_aald F Z (ty := 4) (by decide) zs_80 (by decide) rfl hk23 (zg_path hk23) dX7_tryAskings_23 ?_
        refine lv_ifnull hx hb dX7_tryAskings_24 ?_
        refine lv_aload_n hx hb dX7_tryAskings_27 rfl (lv_at hl 0 rfl) ?_
        refine zw_getI F Z zC7 (a := 79) (k := 6) (by decide) zs_79 (by decide) rfl zq468 (Or.inl rfl) dX7_tryAskings_28 ?_
        refine zb_iflt (tgt := 42) hx hb dX7_tryAskings_31 (by decide) h (fun h => ?_) (fun h => ?_)
        · have hq := Option.some.inj h
          exact ze_v F Z hr hlocks hq dX7_tryAskings_42
        · refine lv_aload_n hx hb dX7_tryAskings_34 rfl (lv_at hl 0 rfl) ?_
          refine zw_getI F Z zC7 (a := 79) (k := 6) (by decide) zs_79 (by decide) rfl zq468 (Or.inl rfl) dX7_tryAskings_35 ?_
          refine lv_iconst (v := 5) hx hb dX7_tryAskings_38 (by decide) ?_
          refine zb_iclt (tgt := 43) hx hb dX7_tryAskings_39 (by decide) h (fun h => ?_) (fun h => ?_)
          · refine lv_aload_n hx hb dX7_tryAskings_43 rfl (lv_at hl 0 rfl) ?_
            refine zw_getR F Z zC7 (a := 79) (k := 3) (by decide) zs_79 (by decide) rfl zg_79_3 zq463 (Or.inl rfl) dX7_tryAskings_44 ?_
            refine lv_iload_n hx hb dX7_tryAskings_47 rfl (lv_at hl 1 rfl) ?_
            obtain ⟨hk48, h⟩ := ck_x h
            refine zw_aald F Z (ty := 4) (by decide) zs_80 (by decide) rfl hk48 (zg_path hk48) dX7_tryAskings_48 ?_
            refine lv_astore_n (lv' := [(3, .ref (A0 + (85 + 10 * ix x1))), (0, .ref (A0 + 79)), (1, .int x1), (2, .int x2)]) hx hb dX7_tryAskings_49 rfl hl (by decide) rfl (fun ls hl => ?_)
            refine lv_iload_n hx hb dX7_tryAskings_50 rfl (lv_at hl 2 rfl) ?_
            refine lv_aload_n hx hb dX7_tryAskings_51 rfl (lv_at hl 1 rfl) ?_
            refine zw_getI F Z zC7 (a := 79) (k := 7) (by decide) zs_79 (by decide) rfl zq469 (Or.inl rfl) dX7_tryAskings_52 ?_
            refine zb_icne (tgt := 111) hx hb dX7_tryAskings_55 (by decide) h (fun h => ?_) (fun h => ?_)
            · refine lv_iconst (v := 0) hx hb dX7_tryAskings_111 (by decide) ?_
              refine lv_istore (lv' := [(4, .int 0), (3, .ref (A0 + (85 + 10 * ix x1))), (0, .ref (A0 + 79)), (1, .int x1), (2, .int x2)]) hx hb dX7_tryAskings_112 hl (by decide) rfl (fun ls hl => ?_)
              obtain ⟨k164, ek164, h⟩ := lt_x h
              have hk164 : ∀ (σ164 : Mm) (H : Heap) (locs : List Loc) (ls : Array Slot), zh D A0 σ164 GF 740 s.heap H locs → lv_has ls 5 [] → k164 σ164 = some σr → W p l e (zR (10 * (dd + 1) + 700) (400 * (dd + 1) + 24000)) s m [.ref (A0 + 79), .int x1, .int x2].toArray below meth c H locs 0 0 (MQ below (zQv D A0 σr GF 740) [.ref (A0 + 79), .int x1, .int x2].toArray s 0 0 (zA A0)) (F0 m 164 ls []) := by
                intro  σ164 H locs ls Z hl h
                rw [ek164] at h
                try dsimp only at h
                have hq := Option.some.inj h
                exact ze_v F Z hr hlocks hq dX7_tryAskings_164
              have hL114 : ∀ (fu114 : Nat) (x4_114 : Int32) (σ114 : Mm) (H : Heap) (locs : List Loc) (ls : Array Slot), zh D A0 σ114 GF 740 s.heap H locs → lv_has ls 5 [(0, .ref (A0 + 79)), (1, .int x1), (2, .int x2), (3, .ref (A0 + (85 + 10 * ix x1))), (4, .int x4_114)] → zfX7_tryAskings_L114 x1 k164 (zfX7_tryAskings dd) x2 fu114 x4_114 σ114 = some σr → W p l e (zR (10 * (dd + 1) + 700) (400 * (dd + 1) + 24000)) s m [.ref (A0 + 79), .int x1, .int x2].toArray below meth c H locs 0 0 (MQ below (zQv D A0 σr GF 740) [.ref (A0 + 79), .int x1, .int x2].toArray s 0 0 (zA A0)) (F0 m 114 ls []) := by
                intro fu114
                induction fu114 with
                | zero => intro x4_114 σ114 H locs ls Z hl h; rw [zfX7_tryAskings_L114] at h; cases h
                | succ fu114 ih114 =>
                  intro x4_114 σ114 H locs ls Z hl h
                  rw [zfX7_tryAskings_L114] at h
                  refine lv_iload hx hb dX7_tryAskings_114 (lv_at hl 4 rfl) ?_
                  refine lv_aload_n hx hb dX7_tryAskings_116 rfl (lv_at hl 3 rfl) ?_
                  refine zw_getI F Z zC8 (a := (85 + 10 * ix x1)) (k := 0) (zltS_0 (zIsS_path hk48)) (zsS_0 (zIsS_path hk48)) (by decide) rfl zq221 (Or.inl rfl) dX7_tryAskings_117 ?_
                  refine zb_icgt (tgt := 164) hx hb dX7_tryAskings_120 (by decide) h (fun h => ?_) (fun h => ?_)
                  · exact hk164 σ114 _ _ _ Z (lv_sub hl [] rfl) h
                  · refine lv_aload_n hx hb dX7_tryAskings_123 rfl (lv_at hl 0 rfl) ?_
                    refine zw_getR F Z zC7 (a := 79) (k := 1) (by decide) zs_79 (by decide) rfl zg_79_1 zq461 (Or.inl rfl) dX7_tryAskings_124 ?_
                    refine zw_getR F Z zC6 (a := 37) (k := 2) (by decide) zs_37 (by decide) rfl zg_37_2 zq305 (Or.inl rfl) dX7_tryAskings_127 ?_
                    refine lv_aload_n hx hb dX7_tryAskings_130 rfl (lv_at hl 0 rfl) ?_
                    refine zw_getI F Z zC7 (a := 79) (k := 6) (by decide) zs_79 (by decide) rfl zq468 (Or.inl rfl) dX7_tryAskings_131 ?_
                    refine lv_iload hx hb dX7_tryAskings_134 (lv_at hl 4 rfl) ?_
                    obtain ⟨hk136, h⟩ := ck_x h
                    refine zw_iast F Z (by decide) zs_38 hk136 dX7_tryAskings_136 (fun σ136 _ _ eσ136 Z => ?_)
                    replace h := lt_w h eσ136
                    refine lv_aload_n hx hb dX7_tryAskings_137 rfl (lv_at hl 0 rfl) ?_
                    refine lv_iload_n hx hb dX7_tryAskings_138 rfl (lv_at hl 1 rfl) ?_
                    refine lv_iconst (v := 0) hx hb dX7_tryAskings_139 (by decide) ?_
                    obtain ⟨r140, σ140, hc140, h⟩ := bd2_x h
                    obtain ⟨hs140, h⟩ := ck_x h
                    refine zc_r Z (zr_V F Z (a := 79) (As := [.int x1, .int 0]) (zcX7_next l D A0 x1 0 σ136 r140 σ140 hc140) zBX7_next zq988 (by decide) zs_79 zC7.1 rfl ⟨⟨rfl, rfl⟩, by dsimp only [zR, RD]; omega, by dsimp only [zR, RD]; omega⟩ hl.1 rfl (Nat.le_of_ble_eq_true rfl) dX7_tryAskings_140 ⟨Nat.le_of_ble_eq_true rfl, Nat.le_of_ble_eq_true rfl⟩) (fun _ _ Z => ?_)
                    refine lv_pop hx hb dX7_tryAskings_143 rfl ?_
                    refine lv_aload_n hx hb dX7_tryAskings_144 rfl (lv_at hl 0 rfl) ?_
                    refine lv_iload_n hx hb dX7_tryAskings_145 rfl (lv_at hl 1 rfl) ?_
                    refine lv_iconst (v := 1) hx hb dX7_tryAskings_146 (by decide) ?_
                    refine lv_iadd hx hb dX7_tryAskings_147 ?_
                    refine lv_iload_n hx hb dX7_tryAskings_148 rfl (lv_at hl 2 rfl) ?_
                    refine lv_bipush (v := 100) hx hb dX7_tryAskings_149 (by decide) ?_
                    refine lv_imul hx hb dX7_tryAskings_151 ?_
                    refine lv_iload hx hb dX7_tryAskings_152 (lv_at hl 4 rfl) ?_
                    refine lv_iadd hx hb dX7_tryAskings_154 ?_
                    obtain ⟨σ155, hc155, h⟩ := bd_x h
                    refine zc_v Z (zr_V F Z (a := 79) (As := [.int (x1 + 1), .int ((x2 * 100) + x4_114)]) (hrec (x1 + 1) ((x2 * 100) + x4_114) σ140 σ155 hc155) zBX7_tryAskings zq1007 (by decide) zs_79 zC7.1 rfl ⟨⟨rfl, rfl⟩, by dsimp only [zR, RD]; omega, by dsimp only [zR, RD]; omega⟩ hl.1 rfl (Nat.le_of_ble_eq_true rfl) dX7_tryAskings_155 ⟨Nat.le_of_ble_eq_true rfl, Nat.le_of_ble_eq_true rfl⟩) (fun _ _ Z => ?_)
                    obtain ⟨x4_158, ex4_158⟩ : ∃ y : Int32, y = x4_114 + 1 := ⟨_, rfl⟩
                    replace h := lt_w h ex4_158
                    refine lv_iinc (v := x4_158) (lv' := [(4, .int x4_158), (0, .ref (A0 + 79)), (1, .int x1), (2, .int x2), (3, .ref (A0 + (85 + 10 * ix x1)))]) hx hb dX7_tryAskings_158 hl (k := 4) rfl (by rw [ex4_158]; rfl) (by decide) rfl (fun ls hl => ?_)
                    refine lv_goto (tgt := 114) hx hb dX7_tryAskings_161 (by decide) ?_
                    exact ih114 x4_158 σ155 _ _ _ Z (lv_sub hl [1, 2, 3, 4, 0] rfl) h
              exact hL114 NF 0 σ _ _ _ Z (lv_sub hl [2, 3, 4, 1, 0] rfl) h
            · refine lv_aload_n hx hb dX7_tryAskings_58 rfl (lv_at hl 0 rfl) ?_
              refine zw_getR F Z zC8 (a := (85 + 10 * ix x1)) (k := 7) (zltS_0 (zIsS_path hk48)) (zsS_0 (zIsS_path hk48)) (by decide) rfl (zgS_7 (zIsS_path hk48)) zq243 (Or.inl rfl) dX7_tryAskings_59 ?_
              refine lv_aload_n hx hb dX7_tryAskings_62 rfl (lv_at hl 1 rfl) ?_
              refine zw_getI F Z zC7 (a := 79) (k := 6) (by decide) zs_79 (by decide) rfl zq468 (Or.inl rfl) dX7_tryAskings_63 ?_
              obtain ⟨hk66, h⟩ := ck_x h
              refine zw_iald F Z (zltS_3 (zIsS_path hk48)) (zsS_3 (zIsS_path hk48)) hk66 dX7_tryAskings_66 ?_
              refine lv_aload_n hx hb dX7_tryAskings_67 rfl (lv_at hl 1 rfl) ?_
              refine zw_getR F Z zC7 (a := 79) (k := 2) (by decide) zs_79 (by decide) rfl zg_79_2 zq462 (Or.inl rfl) dX7_tryAskings_68 ?_
              refine zw_getR F Z zC8 (a := 27) (k := 7) (by decide) zs_27 (by decide) rfl zg_27_7 zq243 (Or.inl rfl) dX7_tryAskings_71 ?_
              refine lv_aload_n hx hb dX7_tryAskings_74 rfl (lv_at hl 1 rfl) ?_
              refine zw_getI F Z zC7 (a := 79) (k := 6) (by decide) zs_79 (by decide) rfl zq468 (Or.inl rfl) dX7_tryAskings_75 ?_
              obtain ⟨hk78, h⟩ := ck_x h
              refine zw_iald F Z (by decide) zs_30 hk78 dX7_tryAskings_78 ?_
              refine lv_isub hx hb dX7_tryAskings_79 ?_
              refine lv_topi (fun x4_80 ex4_80 => ?_)
              replace h := lt_w h ex4_80
              refine lv_istore (lv' := [(4, .int x4_80), (3, .ref (A0 + (85 + 10 * ix x1))), (0, .ref (A0 + 79)), (1, .int x1), (2, .int x2)]) hx hb dX7_tryAskings_80 hl (by decide) rfl (fun ls hl => ?_)
              refine lv_aload_n hx hb dX7_tryAskings_82 rfl (lv_at hl 2 rfl) ?_
              refine zw_getI F Z zC7 (a := 79) (k := 8) (by decide) zs_79 (by decide) rfl zq470 (Or.inl rfl) dX7_tryAskings_83 ?_
              refine lv_iconst (v := (-1)) hx hb dX7_tryAskings_86 (by decide) ?_
              obtain ⟨j99, ej99, h⟩ := lt_x h
              have hj99 : ∀ (σ99 : Mm) (H : Heap) (locs : List Loc) (ls : Array Slot), zh D A0 σ99 GF 740 s.heap H locs → lv_has ls 5 [(0, .ref (A0 + 79)), (2, .int x2), (4, .int x4_80)] → j99 σ99 = some σr → W p l e (zR (10 * (dd + 1) + 700) (400 * (dd + 1) + 24000)) s m [.ref (A0 + 79), .int x1, .int x2].toArray below meth c H locs 0 0 (MQ below (zQv D A0 σr GF 740) [.ref (A0 + 79), .int x1, .int x2].toArray s 0 0 (zA A0)) (F0 m 99 ls []) := by
                intro  σ99 H locs ls Z hl h
                rw [ej99] at h
                try dsimp only at h
                refine lv_aload_n hx hb dX7_tryAskings_99 rfl (lv_at hl 0 rfl) ?_
                refine lv_iload_n hx hb dX7_tryAskings_100 rfl (lv_at hl 1 rfl) ?_
                refine zw_putI F Z zC7 (a := 79) (k := 8) (by decide) zs_79 (by decide) rfl (by decide) zq470 (Or.inl rfl) rfl ⟨rfl, rfl⟩ dX7_tryAskings_101 (fun σ101 _ _ eσ101 Z => ?_)
                replace h := lt_w h eσ101
                refine lv_aload_n hx hb dX7_tryAskings_104 rfl (lv_at hl 0 rfl) ?_
                refine lv_iload hx hb dX7_tryAskings_105 (lv_at hl 2 rfl) ?_
                refine zw_putI F Z zC7 (a := 79) (k := 9) (by decide) zs_79 (by decide) rfl (by decide) zq472 (Or.inl rfl) rfl ⟨rfl, rfl⟩ dX7_tryAskings_107 (fun σ107 _ _ eσ107 Z => ?_)
                replace h := lt_w h eσ107
                have hq := Option.some.inj h
                exact ze_v F Z hr hlocks hq dX7_tryAskings_110
              refine zb_iceq (tgt := 99) hx hb dX7_tryAskings_87 (by decide) h (fun h => ?_) (fun h => ?_)
              · exact hj99 σ _ _ _ Z (lv_sub hl [2, 4, 0] rfl) h
              · refine lv_iload hx hb dX7_tryAskings_90 (lv_at hl 0 rfl) ?_
                refine lv_aload_n hx hb dX7_tryAskings_92 rfl (lv_at hl 2 rfl) ?_
                refine zw_getI F Z zC7 (a := 79) (k := 9) (by decide) zs_79 (by decide) rfl zq472 (Or.inl rfl) dX7_tryAskings_93 ?_
                refine zb_icle (tgt := 110) hx hb dX7_tryAskings_96 (by decide) h (fun h => ?_) (fun h => ?_)
                · have hq := Option.some.inj h
                  exact ze_v F Z hr hlocks hq dX7_tryAskings_110
                · exact hj99 σ _ _ _ Z (lv_sub hl [2, 4, 0] rfl) h
          · have hq := Option.some.inj h
            exact ze_v F Z hr hlocks hq dX7_tryAskings_42
set_option maxHeartbeats 4000000 in
set_option maxRecDepth 100000 in
theorem zcX7_findBest (l : Launch) (D : va_G) (A0 : Nat) (x1 : Int32) (x2 : Int32) (σ : Mm) (σr : Mm) (h : zfX7_findBest x1 x2 σ = some σr) : Met l yX7_findBest (zws yX7_findBest cX7_findBest 4 none) (zR 841 29624) (zPc D A0 σ GF 740 [.ref (A0 + 79), .int x1, .int x2]) (zQv D A0 σr GF 740) 0 0 (zA A0) := by
  unfold zfX7_findBest at h
  refine zmet (own := RX7) (by decide) rfl (Nat.le_of_ble_eq_true rfl) ?_
  intro p e s m below meth c F hr hlocks _ Z ls hl
  have hl : lv_has ls 4 [(0, .ref (A0 + 79)), (1, .int x1), (2, .int x2)] := hl
  have hx := F.1.1
  have hb := F.1.2.1
  have hown := F.1.2.2.2.1
  have hts := F.1.2.2.2.2
  refine lv_aload_n hx hb dX7_findBest_0 rfl (lv_at hl 0 rfl) ?_
  obtain ⟨r1, σ1, hc1, h⟩ := bd2_x h
  obtain ⟨hs1, h⟩ := ck_x h
  refine zc_r Z (zr_V F Z (a := 79) (As := []) (zcX7_begin l D A0 σ r1 σ1 hc1) zBX7_begin zq982 (by decide) zs_79 zC7.1 rfl ⟨⟨rfl, rfl⟩, Nat.le_of_ble_eq_true rfl, Nat.le_of_ble_eq_true rfl⟩ hl.1 rfl (Nat.le_of_ble_eq_true rfl) dX7_findBest_1 ⟨Nat.le_of_ble_eq_true rfl, Nat.le_of_ble_eq_true rfl⟩) (fun _ _ Z => ?_)
  refine lv_astore_n (lv' := [(3, .ref (A0 + r1)), (0, .ref (A0 + 79)), (1, .int x1), (2, .int x2)]) hx hb dX7_findBest_4 rfl hl (by decide) rfl (fun ls hl => ?_)
  refine lv_aload_n hx hb dX7_findBest_5 rfl (lv_at hl 1 rfl) ?_
  refine lv_iload_n hx hb dX7_findBest_6 rfl (lv_at hl 2 rfl) ?_
  refine zw_putI F Z zC7 (a := 79) (k := 6) (by decide) zs_79 (by decide) rfl (by decide) zq468 (Or.inl rfl) rfl ⟨rfl, rfl⟩ dX7_findBest_7 (fun σ7 _ _ eσ7 Z => ?_)
  replace h := lt_w h eσ7
  refine lv_aload_n hx hb dX7_findBest_10 rfl (lv_at hl 1 rfl) ?_
  refine lv_iload_n hx hb dX7_findBest_11 rfl (lv_at hl 3 rfl) ?_
  refine zw_putI F Z zC7 (a := 79) (k := 7) (by decide) zs_79 (by decide) rfl (by decide) zq469 (Or.inl rfl) rfl ⟨rfl, rfl⟩ dX7_findBest_12 (fun σ12 _ _ eσ12 Z => ?_)
  replace h := lt_w h eσ12
  refine lv_aload_n hx hb dX7_findBest_15 rfl (lv_at hl 1 rfl) ?_
  refine lv_iconst (v := (-1)) hx hb dX7_findBest_16 (by decide) ?_
  refine zw_putI F Z zC7 (a := 79) (k := 8) (by decide) zs_79 (by decide) rfl (by decide) zq470 (Or.inl rfl) rfl ⟨rfl, rfl⟩ dX7_findBest_17 (fun σ17 _ _ eσ17 Z => ?_)
  replace h := lt_w h eσ17
  refine lv_aload_n hx hb dX7_findBest_20 rfl (lv_at hl 1 rfl) ?_
  refine lv_iconst (v := 0) hx hb dX7_findBest_21 (by decide) ?_
  refine zw_putI F Z zC7 (a := 79) (k := 9) (by decide) zs_79 (by decide) rfl (by decide) zq472 (Or.inl rfl) rfl ⟨rfl, rfl⟩ dX7_findBest_22 (fun σ22 _ _ eσ22 Z => ?_)
  replace h := lt_w h eσ22
  refine lv_aload_n hx hb dX7_findBest_25 rfl (lv_at hl 0 rfl) ?_
  refine lv_ifnull hx hb dX7_findBest_26 ?_
  refine lv_aload_n hx hb dX7_findBest_29 rfl (lv_at hl 0 rfl) ?_
  refine lv_iload_n hx hb dX7_findBest_30 rfl (lv_at hl 2 rfl) ?_
  refine lv_iconst (v := 0) hx hb dX7_findBest_31 (by decide) ?_
  obtain ⟨σ32, hc32, h⟩ := bd_x h
  refine zc_v Z (zr_V F Z (a := r1) (As := [.int x1, .int 0]) (zcX8_setHolding l D A0 r1 x1 0 (zSb hs1) σ22 σ32 hc32) zBX8_setHolding zq1006 (zltS_0 (zSb hs1)) (zsS_0 (zSb hs1)) zC8.1 rfl ⟨⟨rfl, rfl⟩, Nat.le_of_ble_eq_true rfl, Nat.le_of_ble_eq_true rfl⟩ hl.1 rfl (Nat.le_of_ble_eq_true rfl) dX7_findBest_32 ⟨Nat.le_of_ble_eq_true rfl, Nat.le_of_ble_eq_true rfl⟩) (fun _ _ Z => ?_)
  refine lv_aload_n hx hb dX7_findBest_35 rfl (lv_at hl 1 rfl) ?_
  refine lv_iconst (v := 0) hx hb dX7_findBest_36 (by decide) ?_
  refine lv_iconst (v := 0) hx hb dX7_findBest_37 (by decide) ?_
  obtain ⟨σ38, hc38, h⟩ := bd_x h
  refine zc_v Z (zr_V F Z (a := 79) (As := [.int 0, .int 0]) (zcX7_tryAskings l D A0 RD 0 0 σ32 σ38 hc38) zBX7_tryAskings zq1007 (by decide) zs_79 zC7.1 rfl ⟨⟨rfl, rfl⟩, Nat.le_of_ble_eq_true rfl, Nat.le_of_ble_eq_true rfl⟩ hl.1 rfl (Nat.le_of_ble_eq_true rfl) dX7_findBest_38 ⟨Nat.le_of_ble_eq_true rfl, Nat.le_of_ble_eq_true rfl⟩) (fun _ _ Z => ?_)
  have hq := Option.some.inj h
  exact ze_v F Z hr hlocks hq dX7_findBest_41
set_option maxHeartbeats 4000000 in
set_option maxRecDepth 100000 in
theorem zcX11_best (l : Launch) (D : va_G) (A0 : Nat) (x1 : Int32) (x2 : Int32) (x3 : Int32) (σ : Mm) (r0 : Int32) (σr : Mm) (h : zfX11_best x1 x2 x3 σ = some (r0, σr)) : Met l yX11_best (zws yX11_best cX11_best 4 (some .int)) (zR 842 29647) (zPc D A0 σ GF 740 [.ref (A0 + 0), .int x1, .int x2, .int x3]) (zQi D A0 r0 σr GF 740) 0 0 (zA A0) := by
  unfold zfX11_best at h
  refine zmet (own := RX11) (by decide) rfl (Nat.le_of_ble_eq_true rfl) ?_
  intro p e s m below meth c F hr hlocks _ Z ls hl
  have hl : lv_has ls 4 [(0, .ref (A0 + 0)), (1, .int x1), (2, .int x2), (3, .int x3)] := hl
  have hx := F.1.1
  have hb := F.1.2.1
  have hown := F.1.2.2.2.1
  have hts := F.1.2.2.2.2
  refine lv_aload_n hx hb dX11_best_0 rfl (lv_at hl 0 rfl) ?_
  refine lv_iload_n hx hb dX11_best_1 rfl (lv_at hl 1 rfl) ?_
  refine zc_i Z (zr_V F Z (a := 0) (As := [.int x1]) (zcX11_isSeller l D A0 x1 σ (zfX11_isSeller x1 σ) rfl) zBX11_isSeller zq826 (by decide) zs_0 zC11.1 rfl ⟨⟨rfl, rfl⟩, Nat.le_of_ble_eq_true rfl, Nat.le_of_ble_eq_true rfl⟩ hl.1 rfl (Nat.le_of_ble_eq_true rfl) dX11_best_2 ⟨Nat.le_of_ble_eq_true rfl, Nat.le_of_ble_eq_true rfl⟩) (fun _ _ Z => ?_)
  obtain ⟨j26, ej26, h⟩ := lt_x h
  have hj26 : ∀ (σ26 : Mm) (H : Heap) (locs : List Loc) (ls : Array Slot), zh D A0 σ26 GF 740 s.heap H locs → lv_has ls 4 [] → j26 σ26 = some (r0, σr) → W p l e (zR 842 29647) s m [.ref (A0 + 0), .int x1, .int x2, .int x3].toArray below meth c H locs 0 0 (MQ below (zQi D A0 r0 σr GF 740) [.ref (A0 + 0), .int x1, .int x2, .int x3].toArray s 0 0 (zA A0)) (F0 m 26 ls []) := by
    intro  σ26 H locs ls Z hl h
    rw [ej26] at h
    try dsimp only at h
    refine lv_ldc (v := (-1000000)) hx hb hown (hts _ zq1001) dX11_best_26 ?_
    obtain ⟨hq1, hq2⟩ := zpq h
    exact ze_i F Z hr hlocks hq1 hq2 dX11_best_28
  refine zb_ifeq (tgt := 26) hx hb dX11_best_5 (by decide) h (fun h => ?_) (fun h => ?_)
  · exact hj26 σ _ _ _ Z (lv_sub hl [] rfl) h
  · refine lv_iload_n hx hb dX11_best_8 rfl (lv_at hl 2 rfl) ?_
    refine lv_iconst (v := 1) hx hb dX11_best_9 (by decide) ?_
    refine zb_iclt (tgt := 26) hx hb dX11_best_10 (by decide) h (fun h => ?_) (fun h => ?_)
    · exact hj26 σ _ _ _ Z (lv_sub hl [] rfl) h
    · refine lv_iload_n hx hb dX11_best_13 rfl (lv_at hl 2 rfl) ?_
      refine lv_iconst (v := 3) hx hb dX11_best_14 (by decide) ?_
      refine zb_icgt (tgt := 26) hx hb dX11_best_15 (by decide) h (fun h => ?_) (fun h => ?_)
      · exact hj26 σ _ _ _ Z (lv_sub hl [] rfl) h
      · refine lv_iload_n hx hb dX11_best_18 rfl (lv_at hl 3 rfl) ?_
        refine lv_iconst (v := 1) hx hb dX11_best_19 (by decide) ?_
        refine zc_i Z (zr_S F Z (As := [.int x3, .int 1]) (zcX11_noWhat l D A0 x3 1 σ (zfX11_noWhat x3 1) rfl) zBX11_noWhat zq971 rfl ⟨⟨rfl, rfl⟩, Nat.le_of_ble_eq_true rfl, Nat.le_of_ble_eq_true rfl⟩ hl.1 rfl (Nat.le_of_ble_eq_true rfl) dX11_best_20 ⟨Nat.le_of_ble_eq_true rfl, Nat.le_of_ble_eq_true rfl⟩) (fun _ _ Z => ?_)
        refine zb_ifeq (tgt := 29) hx hb dX11_best_23 (by decide) h (fun h => ?_) (fun h => ?_)
        · refine lv_aload_n hx hb dX11_best_29 rfl (lv_at hl 0 rfl) ?_
          refine zw_getR F Z zC11 (a := 0) (k := 11) (by decide) zs_0 (by decide) rfl zg_0_11 zq545 (Or.inl rfl) dX11_best_30 ?_
          refine lv_iload_n hx hb dX11_best_33 rfl (lv_at hl 1 rfl) ?_
          refine lv_iload_n hx hb dX11_best_34 rfl (lv_at hl 2 rfl) ?_
          obtain ⟨σ35, hc35, h⟩ := bd_x h
          refine zc_v Z (zr_V F Z (a := 79) (As := [.int x1, .int x2]) (zcX7_findBest l D A0 x1 x2 σ σ35 hc35) zBX7_findBest zq1002 (by decide) zs_79 zC7.1 rfl ⟨⟨rfl, rfl⟩, Nat.le_of_ble_eq_true rfl, Nat.le_of_ble_eq_true rfl⟩ hl.1 rfl (Nat.le_of_ble_eq_true rfl) dX11_best_35 ⟨Nat.le_of_ble_eq_true rfl, Nat.le_of_ble_eq_true rfl⟩) (fun _ _ Z => ?_)
          refine lv_iload_n hx hb dX11_best_38 rfl (lv_at hl 3 rfl) ?_
          refine zb_ifne (tgt := 52) hx hb dX11_best_39 (by decide) h (fun h => ?_) (fun h => ?_)
          · refine lv_aload_n hx hb dX11_best_52 rfl (lv_at hl 0 rfl) ?_
            refine zw_getR F Z zC11 (a := 0) (k := 11) (by decide) zs_0 (by decide) rfl zg_0_11 zq545 (Or.inl rfl) dX11_best_53 ?_
            refine zw_getI F Z zC7 (a := 79) (k := 9) (by decide) zs_79 (by decide) rfl zq473 (Or.inl rfl) dX11_best_56 ?_
            obtain ⟨hq1, hq2⟩ := zpq h
            exact ze_i F Z hr hlocks hq1 hq2 dX11_best_59
          · refine lv_aload_n hx hb dX11_best_42 rfl (lv_at hl 0 rfl) ?_
            refine zw_getR F Z zC11 (a := 0) (k := 11) (by decide) zs_0 (by decide) rfl zg_0_11 zq545 (Or.inl rfl) dX11_best_43 ?_
            refine zw_getI F Z zC7 (a := 79) (k := 8) (by decide) zs_79 (by decide) rfl zq471 (Or.inl rfl) dX11_best_46 ?_
            refine lv_goto (tgt := 59) hx hb dX11_best_49 (by decide) ?_
            obtain ⟨hq1, hq2⟩ := zpq h
            exact ze_i F Z hr hlocks hq1 hq2 dX11_best_59
        · exact hj26 σ _ _ _ Z (lv_sub hl [] rfl) h
set_option maxHeartbeats 4000000 in
set_option maxRecDepth 100000 in
theorem zcX7_fillTakes (l : Launch) (D : va_G) (A0 : Nat) (x1 : Int32) (x2 : Int32) (σ : Mm) (σr : Mm) (h : zfX7_fillTakes x1 x2 σ = some σr) : Met l yX7_fillTakes (zws yX7_fillTakes cX7_fillTakes 8 none) (zR 3 102) (zPc D A0 σ GF 740 [.ref (A0 + 79), .int x1, .int x2]) (zQv D A0 σr GF 740) 0 0 (zA A0) := by
  unfold zfX7_fillTakes at h
  refine zmet (own := RX7) (by decide) rfl (Nat.le_of_ble_eq_true rfl) ?_
  intro p e s m below meth c F hr hlocks _ Z ls hl
  have hl : lv_has ls 8 [(0, .ref (A0 + 79)), (1, .int x1), (2, .int x2)] := hl
  have hx := F.1.1
  have hb := F.1.2.1
  have hown := F.1.2.2.2.1
  have hts := F.1.2.2.2.2
  refine lv_aload_n hx hb dX7_fillTakes_0 rfl (lv_at hl 0 rfl) ?_
  obtain ⟨r1, σ1, hc1, h⟩ := bd2_x h
  obtain ⟨hs1, h⟩ := ck_x h
  refine zc_r Z (zr_V F Z (a := 79) (As := []) (zcX7_begin l D A0 σ r1 σ1 hc1) zBX7_begin zq982 (by decide) zs_79 zC7.1 rfl ⟨⟨rfl, rfl⟩, Nat.le_of_ble_eq_true rfl, Nat.le_of_ble_eq_true rfl⟩ hl.1 rfl (Nat.le_of_ble_eq_true rfl) dX7_fillTakes_1 ⟨Nat.le_of_ble_eq_true rfl, Nat.le_of_ble_eq_true rfl⟩) (fun _ _ Z => ?_)
  refine lv_astore_n (lv' := [(3, .ref (A0 + r1)), (0, .ref (A0 + 79)), (1, .int x1), (2, .int x2)]) hx hb dX7_fillTakes_4 rfl hl (by decide) rfl (fun ls hl => ?_)
  refine lv_aload_n hx hb dX7_fillTakes_5 rfl (lv_at hl 1 rfl) ?_
  refine zw_getR F Z zC7 (a := 79) (k := 3) (by decide) zs_79 (by decide) rfl zg_79_3 zq463 (Or.inl rfl) dX7_fillTakes_6 ?_
  refine lv_iconst (v := 1) hx hb dX7_fillTakes_9 (by decide) ?_
  refine zw_aald F Z (ty := 4) (by decide) zs_80 (by decide) rfl (by decide) zg_80_1 dX7_fillTakes_10 ?_
  refine lv_astore (lv' := [(4, .ref (A0 + 95)), (3, .ref (A0 + r1)), (0, .ref (A0 + 79)), (1, .int x1), (2, .int x2)]) hx hb dX7_fillTakes_11 hl (by decide) rfl (fun ls hl => ?_)
  refine lv_aload_n hx hb dX7_fillTakes_13 rfl (lv_at hl 1 rfl) ?_
  refine lv_ifnull hx hb dX7_fillTakes_14 ?_
  refine lv_aload hx hb dX7_fillTakes_17 (lv_at hl 0 rfl) ?_
  refine lv_ifnull hx hb dX7_fillTakes_19 ?_
  refine lv_iload_n hx hb dX7_fillTakes_22 rfl (lv_at hl 4 rfl) ?_
  refine lv_iconst (v := 1) hx hb dX7_fillTakes_23 (by decide) ?_
  refine zb_icge (tgt := 28) hx hb dX7_fillTakes_24 (by decide) h (fun h => ?_) (fun h => ?_)
  · refine lv_aload_n hx hb dX7_fillTakes_28 rfl (lv_at hl 2 rfl) ?_
    refine zw_getR F Z zC7 (a := 79) (k := 1) (by decide) zs_79 (by decide) rfl zg_79_1 zq461 (Or.inl rfl) dX7_fillTakes_29 ?_
    refine lv_aload_n hx hb dX7_fillTakes_32 rfl (lv_at hl 1 rfl) ?_
    refine lv_iconst (v := 0) hx hb dX7_fillTakes_33 (by decide) ?_
    obtain ⟨r34, σ34, hc34, h⟩ := bd2_x h
    refine zc_i Z (zr_V F Z (a := 37) (As := [.ref (A0 + r1), .int 0]) (zcX6_openDay l D A0 r1 0 (zSb hs1) σ1 r34 σ34 hc34) zBX6_openDay zq1024 (by decide) zs_37 zC6.1 rfl ⟨⟨rfl, rfl⟩, Nat.le_of_ble_eq_true rfl, Nat.le_of_ble_eq_true rfl⟩ hl.1 rfl (Nat.le_of_ble_eq_true rfl) dX7_fillTakes_34 ⟨Nat.le_of_ble_eq_true rfl, Nat.le_of_ble_eq_true rfl⟩) (fun _ _ Z => ?_)
    refine lv_pop hx hb dX7_fillTakes_37 rfl ?_
    refine lv_iconst (v := 0) hx hb dX7_fillTakes_38 (by decide) ?_
    refine lv_istore (lv' := [(5, .int 0), (4, .ref (A0 + 95)), (3, .ref (A0 + r1)), (0, .ref (A0 + 79)), (1, .int x1), (2, .int x2)]) hx hb dX7_fillTakes_39 hl (by decide) rfl (fun ls hl => ?_)
    obtain ⟨k187, ek187, h⟩ := lt_x h
    have hk187 : ∀ (σ187 : Mm) (H : Heap) (locs : List Loc) (ls : Array Slot), zh D A0 σ187 GF 740 s.heap H locs → lv_has ls 8 [] → k187 σ187 = some σr → W p l e (zR 3 102) s m [.ref (A0 + 79), .int x1, .int x2].toArray below meth c H locs 0 0 (MQ below (zQv D A0 σr GF 740) [.ref (A0 + 79), .int x1, .int x2].toArray s 0 0 (zA A0)) (F0 m 187 ls []) := by
      intro  σ187 H locs ls Z hl h
      rw [ek187] at h
      try dsimp only at h
      have hq := Option.some.inj h
      exact ze_v F Z hr hlocks hq dX7_fillTakes_187
    have hL41 : ∀ (fu41 : Nat) (x5_41 : Int32) (σ41 : Mm) (H : Heap) (locs : List Loc) (ls : Array Slot), zh D A0 σ41 GF 740 s.heap H locs → lv_has ls 8 [(0, .ref (A0 + 79)), (1, .int x1), (2, .int x2), (3, .ref (A0 + r1)), (4, .ref (A0 + 95)), (5, .int x5_41)] → zfX7_fillTakes_L41 x1 k187 r1 x2 fu41 x5_41 σ41 = some σr → W p l e (zR 3 102) s m [.ref (A0 + 79), .int x1, .int x2].toArray below meth c H locs 0 0 (MQ below (zQv D A0 σr GF 740) [.ref (A0 + 79), .int x1, .int x2].toArray s 0 0 (zA A0)) (F0 m 41 ls []) := by
      intro fu41
      induction fu41 with
      | zero => intro x5_41 σ41 H locs ls Z hl h; rw [zfX7_fillTakes_L41] at h; cases h
      | succ fu41 ih41 =>
        intro x5_41 σ41 H locs ls Z hl h
        rw [zfX7_fillTakes_L41] at h
        refine lv_iload hx hb dX7_fillTakes_41 (lv_at hl 5 rfl) ?_
        refine lv_iload_n hx hb dX7_fillTakes_43 rfl (lv_at hl 1 rfl) ?_
        refine zb_icge (tgt := 187) hx hb dX7_fillTakes_44 (by decide) h (fun h => ?_) (fun h => ?_)
        · exact hk187 σ41 _ _ _ Z (lv_sub hl [] rfl) h
        · refine lv_iload hx hb dX7_fillTakes_47 (lv_at hl 5 rfl) ?_
          refine lv_sipush (v := 9261) hx hb dX7_fillTakes_49 (by decide) ?_
          refine zb_icge (tgt := 187) hx hb dX7_fillTakes_52 (by decide) h (fun h => ?_) (fun h => ?_)
          · exact hk187 σ41 _ _ _ Z (lv_sub hl [] rfl) h
          · refine lv_aload hx hb dX7_fillTakes_55 (lv_at hl 4 rfl) ?_
            refine lv_aload_n hx hb dX7_fillTakes_57 rfl (lv_at hl 3 rfl) ?_
            obtain ⟨σ58, hc58, h⟩ := bd_x h
            refine zc_v Z (zr_V F Z (a := 95) (As := [.ref (A0 + r1)]) (zcX8_copyFrom l D A0 95 r1 (Or.inr (Or.inr (Or.inr ⟨1, by decide, rfl⟩))) (zSb hs1) σ41 σ58 hc58) zBX8_copyFrom zq987 (by decide) zs_95 zC8.1 rfl ⟨⟨rfl, rfl⟩, Nat.le_of_ble_eq_true rfl, Nat.le_of_ble_eq_true rfl⟩ hl.1 rfl (Nat.le_of_ble_eq_true rfl) dX7_fillTakes_58 ⟨Nat.le_of_ble_eq_true rfl, Nat.le_of_ble_eq_true rfl⟩) (fun _ _ Z => ?_)
            refine lv_iload hx hb dX7_fillTakes_61 (lv_at hl 5 rfl) ?_
            refine lv_istore (lv' := [(6, .int x5_41), (0, .ref (A0 + 79)), (1, .int x1), (2, .int x2), (3, .ref (A0 + r1)), (4, .ref (A0 + 95)), (5, .int x5_41)]) hx hb dX7_fillTakes_63 hl (by decide) rfl (fun ls hl => ?_)
            refine lv_aload_n hx hb dX7_fillTakes_65 rfl (lv_at hl 1 rfl) ?_
            refine zw_getR F Z zC7 (a := 79) (k := 0) (by decide) zs_79 (by decide) rfl zg_79_0 zq460 (Or.inl rfl) dX7_fillTakes_66 ?_
            refine zw_getI F Z zC0 (a := 3) (k := 0) (by decide) zs_3 (by decide) rfl zq134 (Or.inl rfl) dX7_fillTakes_69 ?_
            refine lv_iconst (v := 3) hx hb dX7_fillTakes_72 (by decide) ?_
            refine zw_zmin F hl.1 zq1019 (Nat.le_of_ble_eq_true rfl) (Nat.le_of_ble_eq_true rfl) (Nat.le_of_ble_eq_true rfl) (Nat.le_of_ble_eq_true rfl) dX7_fillTakes_73 ?_
            refine lv_iconst (v := 1) hx hb dX7_fillTakes_76 (by decide) ?_
            refine lv_isub hx hb dX7_fillTakes_77 ?_
            refine lv_topi (fun x7_78 ex7_78 => ?_)
            replace h := lt_w h ex7_78
            refine lv_istore (lv' := [(7, .int x7_78), (6, .int x5_41), (0, .ref (A0 + 79)), (1, .int x1), (2, .int x2), (3, .ref (A0 + r1)), (4, .ref (A0 + 95)), (5, .int x5_41)]) hx hb dX7_fillTakes_78 hl (by decide) rfl (fun ls hl => ?_)
            obtain ⟨k109, ek109, h⟩ := lt_x h
            have hk109 : ∀ (σ109 : Mm) (H : Heap) (locs : List Loc) (ls : Array Slot), zh D A0 σ109 GF 740 s.heap H locs → lv_has ls 8 [(0, .ref (A0 + 79)), (1, .int x1), (2, .int x2), (3, .ref (A0 + r1)), (4, .ref (A0 + 95)), (5, .int x5_41)] → k109 σ109 = some σr → W p l e (zR 3 102) s m [.ref (A0 + 79), .int x1, .int x2].toArray below meth c H locs 0 0 (MQ below (zQv D A0 σr GF 740) [.ref (A0 + 79), .int x1, .int x2].toArray s 0 0 (zA A0)) (F0 m 109 ls []) := by
              intro  σ109 H locs ls Z hl h
              rw [ek109] at h
              try dsimp only at h
              refine lv_aload_n hx hb dX7_fillTakes_109 rfl (lv_at hl 0 rfl) ?_
              refine zw_getR F Z zC7 (a := 79) (k := 1) (by decide) zs_79 (by decide) rfl zg_79_1 zq461 (Or.inl rfl) dX7_fillTakes_110 ?_
              refine lv_aload hx hb dX7_fillTakes_113 (lv_at hl 4 rfl) ?_
              obtain ⟨σ115, hc115, h⟩ := bd_x h
              refine zc_v Z (zr_V F Z (a := 37) (As := [.ref (A0 + 95)]) (zcX6_lineUp l D A0 95 (Or.inr (Or.inr (Or.inr ⟨1, by decide, rfl⟩))) σ109 σ115 hc115) zBX6_lineUp zq1025 (by decide) zs_37 zC6.1 rfl ⟨⟨rfl, rfl⟩, Nat.le_of_ble_eq_true rfl, Nat.le_of_ble_eq_true rfl⟩ hl.1 rfl (Nat.le_of_ble_eq_true rfl) dX7_fillTakes_115 ⟨Nat.le_of_ble_eq_true rfl, Nat.le_of_ble_eq_true rfl⟩) (fun _ _ Z => ?_)
              refine lv_aload_n hx hb dX7_fillTakes_118 rfl (lv_at hl 0 rfl) ?_
              refine zw_getR F Z zC7 (a := 79) (k := 1) (by decide) zs_79 (by decide) rfl zg_79_1 zq461 (Or.inl rfl) dX7_fillTakes_119 ?_
              refine lv_aload hx hb dX7_fillTakes_122 (lv_at hl 4 rfl) ?_
              obtain ⟨σ124, hc124, h⟩ := bd_x h
              refine zc_v Z (zr_V F Z (a := 37) (As := [.ref (A0 + 95)]) (zcX6_sell l D A0 95 (Or.inr (Or.inr (Or.inr ⟨1, by decide, rfl⟩))) σ115 σ124 hc124) zBX6_sell zq1026 (by decide) zs_37 zC6.1 rfl ⟨⟨rfl, rfl⟩, Nat.le_of_ble_eq_true rfl, Nat.le_of_ble_eq_true rfl⟩ hl.1 rfl (Nat.le_of_ble_eq_true rfl) dX7_fillTakes_124 ⟨Nat.le_of_ble_eq_true rfl, Nat.le_of_ble_eq_true rfl⟩) (fun _ _ Z => ?_)
              refine lv_iconst (v := 0) hx hb dX7_fillTakes_127 (by decide) ?_
              refine lv_istore (lv' := [(7, .int 0), (0, .ref (A0 + 79)), (1, .int x1), (2, .int x2), (3, .ref (A0 + r1)), (4, .ref (A0 + 95)), (5, .int x5_41)]) hx hb dX7_fillTakes_128 hl (by decide) rfl (fun ls hl => ?_)
              obtain ⟨k181, ek181, h⟩ := lt_x h
              have hk181 : ∀ (σ181 : Mm) (H : Heap) (locs : List Loc) (ls : Array Slot), zh D A0 σ181 GF 740 s.heap H locs → lv_has ls 8 [(0, .ref (A0 + 79)), (1, .int x1), (2, .int x2), (3, .ref (A0 + r1)), (4, .ref (A0 + 95)), (5, .int x5_41)] → k181 σ181 = some σr → W p l e (zR 3 102) s m [.ref (A0 + 79), .int x1, .int x2].toArray below meth c H locs 0 0 (MQ below (zQv D A0 σr GF 740) [.ref (A0 + 79), .int x1, .int x2].toArray s 0 0 (zA A0)) (F0 m 181 ls []) := by
                intro  σ181 H locs ls Z hl h
                rw [ek181] at h
                try dsimp only at h
                obtain ⟨x5_181, ex5_181⟩ : ∃ y : Int32, y = x5_41 + 1 := ⟨_, rfl⟩
                replace h := lt_w h ex5_181
                refine lv_iinc (v := x5_181) (lv' := [(5, .int x5_181), (0, .ref (A0 + 79)), (1, .int x1), (2, .int x2), (3, .ref (A0 + r1)), (4, .ref (A0 + 95))]) hx hb dX7_fillTakes_181 hl (k := 5) rfl (by rw [ex5_181]; rfl) (by decide) rfl (fun ls hl => ?_)
                refine lv_goto (tgt := 41) hx hb dX7_fillTakes_184 (by decide) ?_
                exact ih41 x5_181 σ181 _ _ _ Z (lv_sub hl [1, 2, 3, 4, 5, 0] rfl) h
              have hL130 : ∀ (fu130 : Nat) (x7_130 : Int32) (σ130 : Mm) (H : Heap) (locs : List Loc) (ls : Array Slot), zh D A0 σ130 GF 740 s.heap H locs → lv_has ls 8 [(0, .ref (A0 + 79)), (1, .int x1), (2, .int x2), (3, .ref (A0 + r1)), (4, .ref (A0 + 95)), (5, .int x5_41), (7, .int x7_130)] → zfX7_fillTakes_L130 k181 x5_41 fu130 x7_130 σ130 = some σr → W p l e (zR 3 102) s m [.ref (A0 + 79), .int x1, .int x2].toArray below meth c H locs 0 0 (MQ below (zQv D A0 σr GF 740) [.ref (A0 + 79), .int x1, .int x2].toArray s 0 0 (zA A0)) (F0 m 130 ls []) := by
                intro fu130
                induction fu130 with
                | zero => intro x7_130 σ130 H locs ls Z hl h; rw [zfX7_fillTakes_L130] at h; cases h
                | succ fu130 ih130 =>
                  intro x7_130 σ130 H locs ls Z hl h
                  rw [zfX7_fillTakes_L130] at h
                  refine lv_iload hx hb dX7_fillTakes_130 (lv_at hl 6 rfl) ?_
                  refine lv_aload_n hx hb dX7_fillTakes_132 rfl (lv_at hl 0 rfl) ?_
                  refine zw_getR F Z zC7 (a := 79) (k := 0) (by decide) zs_79 (by decide) rfl zg_79_0 zq460 (Or.inl rfl) dX7_fillTakes_133 ?_
                  refine zw_getI F Z zC0 (a := 3) (k := 0) (by decide) zs_3 (by decide) rfl zq134 (Or.inl rfl) dX7_fillTakes_136 ?_
                  refine zb_icge (tgt := 181) hx hb dX7_fillTakes_139 (by decide) h (fun h => ?_) (fun h => ?_)
                  · exact hk181 σ130 _ _ _ Z (lv_sub hl [0, 1, 2, 3, 4, 5] rfl) h
                  · refine lv_iload hx hb dX7_fillTakes_142 (lv_at hl 6 rfl) ?_
                    refine lv_iconst (v := 3) hx hb dX7_fillTakes_144 (by decide) ?_
                    refine zb_icge (tgt := 181) hx hb dX7_fillTakes_145 (by decide) h (fun h => ?_) (fun h => ?_)
                    · exact hk181 σ130 _ _ _ Z (lv_sub hl [0, 1, 2, 3, 4, 5] rfl) h
                    · refine lv_aload_n hx hb dX7_fillTakes_148 rfl (lv_at hl 0 rfl) ?_
                      refine zw_getR F Z zC7 (a := 79) (k := 12) (by decide) zs_79 (by decide) rfl zg_79_12 zq476 (Or.inl rfl) dX7_fillTakes_149 ?_
                      refine lv_iload hx hb dX7_fillTakes_152 (lv_at hl 6 rfl) ?_
                      obtain ⟨hk154, h⟩ := ck_x h
                      refine zw_aaldA F Z (ty := 6) (by decide) zs_81 (by decide) rfl hk154 (zg_takes hk154) dX7_fillTakes_154 ?_
                      refine lv_iload hx hb dX7_fillTakes_155 (lv_at hl 5 rfl) ?_
                      refine lv_aload hx hb dX7_fillTakes_157 (lv_at hl 4 rfl) ?_
                      refine zw_getR F Z zC8 (a := 95) (k := 9) (by decide) zs_95 (by decide) rfl zg_95_9 zq254 (Or.inl rfl) dX7_fillTakes_159 ?_
                      refine lv_iload hx hb dX7_fillTakes_162 (lv_at hl 6 rfl) ?_
                      obtain ⟨hk164, h⟩ := ck_x h
                      refine zw_iald F Z (by decide) zs_100 hk164 dX7_fillTakes_164 ?_
                      refine lv_aload hx hb dX7_fillTakes_165 (lv_at hl 4 rfl) ?_
                      refine zw_getR F Z zC8 (a := 95) (k := 8) (by decide) zs_95 (by decide) rfl zg_95_8 zq250 (Or.inl rfl) dX7_fillTakes_167 ?_
                      refine lv_iload hx hb dX7_fillTakes_170 (lv_at hl 6 rfl) ?_
                      obtain ⟨hk172, h⟩ := ck_x h
                      refine zw_iald F Z (by decide) zs_99 hk172 dX7_fillTakes_172 ?_
                      refine lv_imul hx hb dX7_fillTakes_173 ?_
                      obtain ⟨hk174, h⟩ := ck_x h
                      refine zw_iast F Z (zlt_takes hk154) (zs_takes hk154) hk174 dX7_fillTakes_174 (fun σ174 _ _ eσ174 Z => ?_)
                      replace h := lt_w h eσ174
                      obtain ⟨x7_175, ex7_175⟩ : ∃ y : Int32, y = x7_130 + 1 := ⟨_, rfl⟩
                      replace h := lt_w h ex7_175
                      refine lv_iinc (v := x7_175) (lv' := [(7, .int x7_175), (0, .ref (A0 + 79)), (1, .int x1), (2, .int x2), (3, .ref (A0 + r1)), (4, .ref (A0 + 95)), (5, .int x5_41)]) hx hb dX7_fillTakes_175 hl (k := 6) rfl (by rw [ex7_175]; rfl) (by decide) rfl (fun ls hl => ?_)
                      refine lv_goto (tgt := 130) hx hb dX7_fillTakes_178 (by decide) ?_
                      exact ih130 x7_175 σ174 _ _ _ Z (lv_sub hl [1, 2, 3, 4, 5, 6, 0] rfl) h
              exact hL130 NF 0 σ124 _ _ _ Z (lv_sub hl [1, 2, 3, 4, 5, 6, 0] rfl) h
            have hL80 : ∀ (fu80 : Nat) (x6_80 : Int32) (x7_80 : Int32) (σ80 : Mm) (H : Heap) (locs : List Loc) (ls : Array Slot), zh D A0 σ80 GF 740 s.heap H locs → lv_has ls 8 [(0, .ref (A0 + 79)), (1, .int x1), (2, .int x2), (3, .ref (A0 + r1)), (4, .ref (A0 + 95)), (5, .int x5_41), (6, .int x6_80), (7, .int x7_80)] → zfX7_fillTakes_L80 k109 x2 fu80 x6_80 x7_80 σ80 = some σr → W p l e (zR 3 102) s m [.ref (A0 + 79), .int x1, .int x2].toArray below meth c H locs 0 0 (MQ below (zQv D A0 σr GF 740) [.ref (A0 + 79), .int x1, .int x2].toArray s 0 0 (zA A0)) (F0 m 80 ls []) := by
              intro fu80
              induction fu80 with
              | zero => intro x6_80 x7_80 σ80 H locs ls Z hl h; rw [zfX7_fillTakes_L80] at h; cases h
              | succ fu80 ih80 =>
                intro x6_80 x7_80 σ80 H locs ls Z hl h
                rw [zfX7_fillTakes_L80] at h
                refine lv_iload hx hb dX7_fillTakes_80 (lv_at hl 7 rfl) ?_
                refine zb_iflt (tgt := 109) hx hb dX7_fillTakes_82 (by decide) h (fun h => ?_) (fun h => ?_)
                · exact hk109 σ80 _ _ _ Z (lv_sub hl [0, 1, 2, 3, 4, 5] rfl) h
                · refine lv_aload hx hb dX7_fillTakes_85 (lv_at hl 4 rfl) ?_
                  refine zw_getR F Z zC8 (a := 95) (k := 8) (by decide) zs_95 (by decide) rfl zg_95_8 zq250 (Or.inl rfl) dX7_fillTakes_87 ?_
                  refine lv_iload hx hb dX7_fillTakes_90 (lv_at hl 7 rfl) ?_
                  refine lv_iload hx hb dX7_fillTakes_92 (lv_at hl 6 rfl) ?_
                  refine lv_iload_n hx hb dX7_fillTakes_94 rfl (lv_at hl 2 rfl) ?_
                  obtain ⟨hk95, h⟩ := ck_x h
                  refine lv_irem hx hb dX7_fillTakes_95 hk95 ?_
                  obtain ⟨hk96, h⟩ := ck_x h
                  refine zw_iast F Z (by decide) zs_99 hk96 dX7_fillTakes_96 (fun σ96 _ _ eσ96 Z => ?_)
                  replace h := lt_w h eσ96
                  refine lv_iload hx hb dX7_fillTakes_97 (lv_at hl 6 rfl) ?_
                  refine lv_iload_n hx hb dX7_fillTakes_99 rfl (lv_at hl 2 rfl) ?_
                  obtain ⟨hk100, h⟩ := ck_x h
                  refine lv_idiv hx hb dX7_fillTakes_100 hk100 ?_
                  refine lv_topi (fun x6_101 ex6_101 => ?_)
                  replace h := lt_w h ex6_101
                  refine lv_istore (lv' := [(6, .int x6_101), (0, .ref (A0 + 79)), (1, .int x1), (2, .int x2), (3, .ref (A0 + r1)), (4, .ref (A0 + 95)), (5, .int x5_41), (7, .int x7_80)]) hx hb dX7_fillTakes_101 hl (by decide) rfl (fun ls hl => ?_)
                  obtain ⟨x7_103, ex7_103⟩ : ∃ y : Int32, y = x7_80 + (-1) := ⟨_, rfl⟩
                  replace h := lt_w h ex7_103
                  refine lv_iinc (v := x7_103) (lv' := [(7, .int x7_103), (6, .int x6_101), (0, .ref (A0 + 79)), (1, .int x1), (2, .int x2), (3, .ref (A0 + r1)), (4, .ref (A0 + 95)), (5, .int x5_41)]) hx hb dX7_fillTakes_103 hl (k := 7) rfl (by rw [ex7_103]; rfl) (by decide) rfl (fun ls hl => ?_)
                  refine lv_goto (tgt := 80) hx hb dX7_fillTakes_106 (by decide) ?_
                  exact ih80 x6_101 x7_103 σ96 _ _ _ Z (lv_sub hl [2, 3, 4, 5, 6, 7, 1, 0] rfl) h
            exact hL80 NF x5_41 x7_78 σ58 _ _ _ Z (lv_sub hl [2, 3, 4, 5, 6, 7, 1, 0] rfl) h
    exact hL41 NF 0 σ34 _ _ _ Z (lv_sub hl [3, 4, 5, 2, 1, 0] rfl) h
  · have hq := Option.some.inj h
    exact ze_v F Z hr hlocks hq dX7_fillTakes_27
set_option maxHeartbeats 4000000 in
set_option maxRecDepth 100000 in
theorem zcX7_isAtRest (l : Launch) (D : va_G) (A0 : Nat) (x1 : Int32) (x2 : Int32) (σ : Mm) (r0 : Int32) (h : zfX7_isAtRest x1 x2 σ = some r0) : Met l yX7_isAtRest (zws yX7_isAtRest cX7_isAtRest 9 (some .boolean)) (zR 1 40) (zPc D A0 σ GF 740 [.ref (A0 + 79), .int x1, .int x2]) (zQi D A0 r0 σ GF 740) 0 0 (zA A0) := by
  unfold zfX7_isAtRest at h
  refine zmet (own := RX7) (by decide) rfl (Nat.le_of_ble_eq_true rfl) ?_
  intro p e s m below meth c F hr hlocks _ Z ls hl
  have hl : lv_has ls 9 [(0, .ref (A0 + 79)), (1, .int x1), (2, .int x2)] := hl
  have hx := F.1.1
  have hb := F.1.2.1
  have hown := F.1.2.2.2.1
  have hts := F.1.2.2.2.2
  refine lv_iconst (v := 1) hx hb dX7_isAtRest_0 (by decide) ?_
  refine lv_istore_n (lv' := [(3, .int 1), (0, .ref (A0 + 79)), (1, .int x1), (2, .int x2)]) hx hb dX7_isAtRest_1 rfl hl (by decide) rfl (fun ls hl => ?_)
  refine lv_aload_n hx hb dX7_isAtRest_2 rfl (lv_at hl 1 rfl) ?_
  refine zw_getR F Z zC7 (a := 79) (k := 0) (by decide) zs_79 (by decide) rfl zg_79_0 zq460 (Or.inl rfl) dX7_isAtRest_3 ?_
  refine zw_getI F Z zC0 (a := 3) (k := 0) (by decide) zs_3 (by decide) rfl zq134 (Or.inl rfl) dX7_isAtRest_6 ?_
  refine lv_iconst (v := 3) hx hb dX7_isAtRest_9 (by decide) ?_
  refine zw_zmin F hl.1 zq1019 (Nat.le_of_ble_eq_true rfl) (Nat.le_of_ble_eq_true rfl) (Nat.le_of_ble_eq_true rfl) (Nat.le_of_ble_eq_true rfl) dX7_isAtRest_10 ?_
  refine lv_iconst (v := 1) hx hb dX7_isAtRest_13 (by decide) ?_
  refine lv_isub hx hb dX7_isAtRest_14 ?_
  refine lv_topi (fun x4_15 ex4_15 => ?_)
  replace h := lt_w h ex4_15
  refine lv_istore (lv' := [(4, .int x4_15), (3, .int 1), (0, .ref (A0 + 79)), (1, .int x1), (2, .int x2)]) hx hb dX7_isAtRest_15 hl (by decide) rfl (fun ls hl => ?_)
  obtain ⟨k32, ek32, h⟩ := lt_x h
  have hk32 : ∀  (H : Heap) (locs : List Loc) (ls : Array Slot), zh D A0 σ GF 740 s.heap H locs → lv_has ls 9 [] → k32 () = some r0 → W p l e (zR 1 40) s m [.ref (A0 + 79), .int x1, .int x2].toArray below meth c H locs 0 0 (MQ below (zQi D A0 r0 σ GF 740) [.ref (A0 + 79), .int x1, .int x2].toArray s 0 0 (zA A0)) (F0 m 32 ls []) := by
    intro  H locs ls Z hl h
    rw [ek32] at h
    try dsimp only at h
    refine lv_iconst (v := 0) hx hb dX7_isAtRest_32 (by decide) ?_
    have hq := Option.some.inj h
    exact ze_z F Z hr hlocks (by decide) hq rfl dX7_isAtRest_33
  obtain ⟨k61, ek61, h⟩ := lt_x h
  have hk61 : ∀  (H : Heap) (locs : List Loc) (ls : Array Slot), zh D A0 σ GF 740 s.heap H locs → lv_has ls 9 [] → k61 () = some r0 → W p l e (zR 1 40) s m [.ref (A0 + 79), .int x1, .int x2].toArray below meth c H locs 0 0 (MQ below (zQi D A0 r0 σ GF 740) [.ref (A0 + 79), .int x1, .int x2].toArray s 0 0 (zA A0)) (F0 m 61 ls []) := by
    intro  H locs ls Z hl h
    rw [ek61] at h
    try dsimp only at h
    refine lv_iconst (v := 0) hx hb dX7_isAtRest_61 (by decide) ?_
    have hq := Option.some.inj h
    exact ze_z F Z hr hlocks (by decide) hq rfl dX7_isAtRest_62
  obtain ⟨k143, ek143, h⟩ := lt_x h
  have hk143 : ∀  (H : Heap) (locs : List Loc) (ls : Array Slot), zh D A0 σ GF 740 s.heap H locs → lv_has ls 9 [] → k143 () = some r0 → W p l e (zR 1 40) s m [.ref (A0 + 79), .int x1, .int x2].toArray below meth c H locs 0 0 (MQ below (zQi D A0 r0 σ GF 740) [.ref (A0 + 79), .int x1, .int x2].toArray s 0 0 (zA A0)) (F0 m 143 ls []) := by
    intro  H locs ls Z hl h
    rw [ek143] at h
    try dsimp only at h
    refine lv_iconst (v := 0) hx hb dX7_isAtRest_143 (by decide) ?_
    have hq := Option.some.inj h
    exact ze_z F Z hr hlocks (by decide) hq rfl dX7_isAtRest_144
  obtain ⟨k161, ek161, h⟩ := lt_x h
  have hk161 : ∀  (H : Heap) (locs : List Loc) (ls : Array Slot), zh D A0 σ GF 740 s.heap H locs → lv_has ls 9 [] → k161 () = some r0 → W p l e (zR 1 40) s m [.ref (A0 + 79), .int x1, .int x2].toArray below meth c H locs 0 0 (MQ below (zQi D A0 r0 σ GF 740) [.ref (A0 + 79), .int x1, .int x2].toArray s 0 0 (zA A0)) (F0 m 161 ls []) := by
    intro  H locs ls Z hl h
    rw [ek161] at h
    try dsimp only at h
    refine lv_iconst (v := 1) hx hb dX7_isAtRest_161 (by decide) ?_
    have hq := Option.some.inj h
    exact ze_z F Z hr hlocks (by decide) hq rfl dX7_isAtRest_162
  have hL17 : ∀ (fu17 : Nat) (x3_17 : Int32) (x4_17 : Int32) (H : Heap) (locs : List Loc) (ls : Array Slot), zh D A0 σ GF 740 s.heap H locs → lv_has ls 9 [(0, .ref (A0 + 79)), (1, .int x1), (2, .int x2), (3, .int x3_17), (4, .int x4_17)] → zfX7_isAtRest_L17 k161 k32 x2 x1 k143 σ k61 fu17 x3_17 x4_17 = some r0 → W p l e (zR 1 40) s m [.ref (A0 + 79), .int x1, .int x2].toArray below meth c H locs 0 0 (MQ below (zQi D A0 r0 σ GF 740) [.ref (A0 + 79), .int x1, .int x2].toArray s 0 0 (zA A0)) (F0 m 17 ls []) := by
    intro fu17
    induction fu17 with
    | zero => intro x3_17 x4_17 H locs ls Z hl h; rw [zfX7_isAtRest_L17] at h; cases h
    | succ fu17 ih17 =>
      intro x3_17 x4_17 H locs ls Z hl h
      rw [zfX7_isAtRest_L17] at h
      refine lv_iload hx hb dX7_isAtRest_17 (lv_at hl 4 rfl) ?_
      refine zb_iflt (tgt := 161) hx hb dX7_isAtRest_19 (by decide) h (fun h => ?_) (fun h => ?_)
      · exact hk161  _ _ _ Z (lv_sub hl [] rfl) h
      · refine lv_iload_n hx hb dX7_isAtRest_22 rfl (lv_at hl 3 rfl) ?_
        refine lv_iconst (v := 1) hx hb dX7_isAtRest_23 (by decide) ?_
        refine zb_iclt (tgt := 32) hx hb dX7_isAtRest_24 (by decide) h (fun h => ?_) (fun h => ?_)
        · exact hk32  _ _ _ Z (lv_sub hl [] rfl) h
        · refine lv_iload_n hx hb dX7_isAtRest_27 rfl (lv_at hl 2 rfl) ?_
          refine lv_iconst (v := 1) hx hb dX7_isAtRest_28 (by decide) ?_
          refine zb_icge (tgt := 34) hx hb dX7_isAtRest_29 (by decide) h (fun h => ?_) (fun h => ?_)
          · refine lv_iload_n hx hb dX7_isAtRest_34 rfl (lv_at hl 1 rfl) ?_
            refine lv_iload_n hx hb dX7_isAtRest_35 rfl (lv_at hl 3 rfl) ?_
            obtain ⟨hk36, h⟩ := ck_x h
            refine lv_idiv hx hb dX7_isAtRest_36 hk36 ?_
            refine lv_iload_n hx hb dX7_isAtRest_37 rfl (lv_at hl 2 rfl) ?_
            obtain ⟨hk38, h⟩ := ck_x h
            refine lv_irem hx hb dX7_isAtRest_38 hk38 ?_
            refine lv_topi (fun x5_39 ex5_39 => ?_)
            replace h := lt_w h ex5_39
            refine lv_istore (lv' := [(5, .int x5_39), (0, .ref (A0 + 79)), (1, .int x1), (2, .int x2), (3, .int x3_17), (4, .int x4_17)]) hx hb dX7_isAtRest_39 hl (by decide) rfl (fun ls hl => ?_)
            refine lv_aload_n hx hb dX7_isAtRest_41 rfl (lv_at hl 1 rfl) ?_
            refine zw_getR F Z zC7 (a := 79) (k := 2) (by decide) zs_79 (by decide) rfl zg_79_2 zq462 (Or.inl rfl) dX7_isAtRest_42 ?_
            refine lv_iload hx hb dX7_isAtRest_45 (lv_at hl 5 rfl) ?_
            refine zc_i Z (zr_V F Z (a := 27) (As := [.int x4_17]) (zcX8_isHolding l D A0 27 x4_17 (Or.inl rfl) σ (zfX8_isHolding 27 x4_17 σ) rfl) zBX8_isHolding zq1031 (by decide) zs_27 zC8.1 rfl ⟨⟨rfl, rfl⟩, Nat.le_of_ble_eq_true rfl, Nat.le_of_ble_eq_true rfl⟩ hl.1 rfl (Nat.le_of_ble_eq_true rfl) dX7_isAtRest_47 ⟨Nat.le_of_ble_eq_true rfl, Nat.le_of_ble_eq_true rfl⟩) (fun _ _ Z => ?_)
            obtain ⟨j63, ej63, h⟩ := lt_x h
            have hj63 : ∀  (H : Heap) (locs : List Loc) (ls : Array Slot), zh D A0 σ GF 740 s.heap H locs → lv_has ls 9 [(0, .ref (A0 + 79)), (1, .int x1), (2, .int x2), (3, .int x3_17), (4, .int x4_17), (5, .int x5_39)] → j63 () = some r0 → W p l e (zR 1 40) s m [.ref (A0 + 79), .int x1, .int x2].toArray below meth c H locs 0 0 (MQ below (zQi D A0 r0 σ GF 740) [.ref (A0 + 79), .int x1, .int x2].toArray s 0 0 (zA A0)) (F0 m 63 ls []) := by
              intro  H locs ls Z hl h
              rw [ej63] at h
              try dsimp only at h
              refine lv_iload_n hx hb dX7_isAtRest_63 rfl (lv_at hl 1 rfl) ?_
              refine lv_iload hx hb dX7_isAtRest_64 (lv_at hl 5 rfl) ?_
              refine lv_iload_n hx hb dX7_isAtRest_66 rfl (lv_at hl 3 rfl) ?_
              refine lv_imul hx hb dX7_isAtRest_67 ?_
              refine lv_isub hx hb dX7_isAtRest_68 ?_
              refine lv_topi (fun x6_69 ex6_69 => ?_)
              replace h := lt_w h ex6_69
              refine lv_istore (lv' := [(6, .int x6_69), (0, .ref (A0 + 79)), (1, .int x1), (2, .int x2), (3, .int x3_17), (4, .int x4_17), (5, .int x5_39)]) hx hb dX7_isAtRest_69 hl (by decide) rfl (fun ls hl => ?_)
              refine lv_iconst (v := 0) hx hb dX7_isAtRest_71 (by decide) ?_
              refine lv_istore (lv' := [(7, .int 0), (6, .int x6_69), (0, .ref (A0 + 79)), (1, .int x1), (2, .int x2), (3, .int x3_17), (4, .int x4_17), (5, .int x5_39)]) hx hb dX7_isAtRest_72 hl (by decide) rfl (fun ls hl => ?_)
              obtain ⟨k143_1, ek143_1, h⟩ := lt_x h
              have hk143_1 : ∀  (H : Heap) (locs : List Loc) (ls : Array Slot), zh D A0 σ GF 740 s.heap H locs → lv_has ls 9 [] → k143_1 () = some r0 → W p l e (zR 1 40) s m [.ref (A0 + 79), .int x1, .int x2].toArray below meth c H locs 0 0 (MQ below (zQi D A0 r0 σ GF 740) [.ref (A0 + 79), .int x1, .int x2].toArray s 0 0 (zA A0)) (F0 m 143 ls []) := by
                intro  H locs ls Z hl h
                rw [ek143_1] at h
                try dsimp only at h
                exact hk143  _ _ _ Z (lv_sub hl [] rfl) h
              obtain ⟨k151, ek151, h⟩ := lt_x h
              have hk151 : ∀  (H : Heap) (locs : List Loc) (ls : Array Slot), zh D A0 σ GF 740 s.heap H locs → lv_has ls 9 [(0, .ref (A0 + 79)), (1, .int x1), (2, .int x2), (3, .int x3_17), (4, .int x4_17)] → k151 () = some r0 → W p l e (zR 1 40) s m [.ref (A0 + 79), .int x1, .int x2].toArray below meth c H locs 0 0 (MQ below (zQi D A0 r0 σ GF 740) [.ref (A0 + 79), .int x1, .int x2].toArray s 0 0 (zA A0)) (F0 m 151 ls []) := by
                intro  H locs ls Z hl h
                rw [ek151] at h
                try dsimp only at h
                refine lv_iload_n hx hb dX7_isAtRest_151 rfl (lv_at hl 3 rfl) ?_
                refine lv_iload_n hx hb dX7_isAtRest_152 rfl (lv_at hl 2 rfl) ?_
                refine lv_imul hx hb dX7_isAtRest_153 ?_
                refine lv_topi (fun x3_154 ex3_154 => ?_)
                replace h := lt_w h ex3_154
                refine lv_istore_n (lv' := [(3, .int x3_154), (0, .ref (A0 + 79)), (1, .int x1), (2, .int x2), (4, .int x4_17)]) hx hb dX7_isAtRest_154 rfl hl (by decide) rfl (fun ls hl => ?_)
                obtain ⟨x4_155, ex4_155⟩ : ∃ y : Int32, y = x4_17 + (-1) := ⟨_, rfl⟩
                replace h := lt_w h ex4_155
                refine lv_iinc (v := x4_155) (lv' := [(4, .int x4_155), (3, .int x3_154), (0, .ref (A0 + 79)), (1, .int x1), (2, .int x2)]) hx hb dX7_isAtRest_155 hl (k := 4) rfl (by rw [ex4_155]; rfl) (by decide) rfl (fun ls hl => ?_)
                refine lv_goto (tgt := 17) hx hb dX7_isAtRest_158 (by decide) ?_
                exact ih17 x3_154 x4_155 _ _ _ Z (lv_sub hl [2, 3, 4, 1, 0] rfl) h
              have hL74 : ∀ (fu74 : Nat) (x7_74 : Int32) (H : Heap) (locs : List Loc) (ls : Array Slot), zh D A0 σ GF 740 s.heap H locs → lv_has ls 9 [(0, .ref (A0 + 79)), (1, .int x1), (2, .int x2), (3, .int x3_17), (4, .int x4_17), (6, .int x6_69), (7, .int x7_74)] → zfX7_isAtRest_L74 x2 k151 x4_17 σ x6_69 x3_17 x1 k143_1 fu74 x7_74 = some r0 → W p l e (zR 1 40) s m [.ref (A0 + 79), .int x1, .int x2].toArray below meth c H locs 0 0 (MQ below (zQi D A0 r0 σ GF 740) [.ref (A0 + 79), .int x1, .int x2].toArray s 0 0 (zA A0)) (F0 m 74 ls []) := by
                intro fu74
                induction fu74 with
                | zero => intro x7_74 H locs ls Z hl h; rw [zfX7_isAtRest_L74] at h; cases h
                | succ fu74 ih74 =>
                  intro x7_74 H locs ls Z hl h
                  rw [zfX7_isAtRest_L74] at h
                  refine lv_iload hx hb dX7_isAtRest_74 (lv_at hl 6 rfl) ?_
                  refine lv_iload_n hx hb dX7_isAtRest_76 rfl (lv_at hl 2 rfl) ?_
                  refine zb_icge (tgt := 151) hx hb dX7_isAtRest_77 (by decide) h (fun h => ?_) (fun h => ?_)
                  · exact hk151  _ _ _ Z (lv_sub hl [0, 1, 2, 3, 4] rfl) h
                  · refine lv_aload_n hx hb dX7_isAtRest_80 rfl (lv_at hl 0 rfl) ?_
                    refine zw_getR F Z zC7 (a := 79) (k := 2) (by decide) zs_79 (by decide) rfl zg_79_2 zq462 (Or.inl rfl) dX7_isAtRest_81 ?_
                    refine lv_iload hx hb dX7_isAtRest_84 (lv_at hl 4 rfl) ?_
                    refine zc_i Z (zr_V F Z (a := 27) (As := [.int x4_17]) (zcX8_isHolding l D A0 27 x4_17 (Or.inl rfl) σ (zfX8_isHolding 27 x4_17 σ) rfl) zBX8_isHolding zq1031 (by decide) zs_27 zC8.1 rfl ⟨⟨rfl, rfl⟩, Nat.le_of_ble_eq_true rfl, Nat.le_of_ble_eq_true rfl⟩ hl.1 rfl (Nat.le_of_ble_eq_true rfl) dX7_isAtRest_86 ⟨Nat.le_of_ble_eq_true rfl, Nat.le_of_ble_eq_true rfl⟩) (fun _ _ Z => ?_)
                    refine zb_ifne (tgt := 151) hx hb dX7_isAtRest_89 (by decide) h (fun h => ?_) (fun h => ?_)
                    · exact hk151  _ _ _ Z (lv_sub hl [0, 1, 2, 3, 4] rfl) h
                    · refine lv_iload hx hb dX7_isAtRest_92 (lv_at hl 5 rfl) ?_
                      refine lv_iload hx hb dX7_isAtRest_94 (lv_at hl 6 rfl) ?_
                      refine lv_iload_n hx hb dX7_isAtRest_96 rfl (lv_at hl 3 rfl) ?_
                      refine lv_imul hx hb dX7_isAtRest_97 ?_
                      refine lv_iadd hx hb dX7_isAtRest_98 ?_
                      refine lv_topi (fun x8_99 ex8_99 => ?_)
                      replace h := lt_w h ex8_99
                      refine lv_istore (lv' := [(8, .int x8_99), (0, .ref (A0 + 79)), (1, .int x1), (2, .int x2), (3, .int x3_17), (4, .int x4_17), (6, .int x6_69), (7, .int x7_74)]) hx hb dX7_isAtRest_99 hl (by decide) rfl (fun ls hl => ?_)
                      refine lv_iload_n hx hb dX7_isAtRest_101 rfl (lv_at hl 2 rfl) ?_
                      refine lv_sipush (v := 9261) hx hb dX7_isAtRest_102 (by decide) ?_
                      obtain ⟨j145, ej145, h⟩ := lt_x h
                      have hj145 : ∀  (H : Heap) (locs : List Loc) (ls : Array Slot), zh D A0 σ GF 740 s.heap H locs → lv_has ls 9 [(0, .ref (A0 + 79)), (1, .int x1), (2, .int x2), (3, .int x3_17), (4, .int x4_17), (6, .int x6_69), (7, .int x7_74)] → j145 () = some r0 → W p l e (zR 1 40) s m [.ref (A0 + 79), .int x1, .int x2].toArray below meth c H locs 0 0 (MQ below (zQi D A0 r0 σ GF 740) [.ref (A0 + 79), .int x1, .int x2].toArray s 0 0 (zA A0)) (F0 m 145 ls []) := by
                        intro  H locs ls Z hl h
                        rw [ej145] at h
                        try dsimp only at h
                        obtain ⟨x7_145, ex7_145⟩ : ∃ y : Int32, y = x7_74 + 1 := ⟨_, rfl⟩
                        replace h := lt_w h ex7_145
                        refine lv_iinc (v := x7_145) (lv' := [(7, .int x7_145), (0, .ref (A0 + 79)), (1, .int x1), (2, .int x2), (3, .int x3_17), (4, .int x4_17), (6, .int x6_69)]) hx hb dX7_isAtRest_145 hl (k := 6) rfl (by rw [ex7_145]; rfl) (by decide) rfl (fun ls hl => ?_)
                        refine lv_goto (tgt := 74) hx hb dX7_isAtRest_148 (by decide) ?_
                        exact ih74 x7_145 _ _ _ Z (lv_sub hl [1, 2, 3, 4, 5, 6, 0] rfl) h
                      refine zb_icge (tgt := 145) hx hb dX7_isAtRest_105 (by decide) h (fun h => ?_) (fun h => ?_)
                      · exact hj145  _ _ _ Z (lv_sub hl [1, 2, 3, 4, 5, 6, 7] rfl) h
                      · refine lv_iload hx hb dX7_isAtRest_108 (lv_at hl 0 rfl) ?_
                        refine zb_iflt (tgt := 145) hx hb dX7_isAtRest_110 (by decide) h (fun h => ?_) (fun h => ?_)
                        · exact hj145  _ _ _ Z (lv_sub hl [1, 2, 3, 4, 5, 6, 7] rfl) h
                        · refine lv_iload hx hb dX7_isAtRest_113 (lv_at hl 0 rfl) ?_
                          refine lv_sipush (v := 9261) hx hb dX7_isAtRest_115 (by decide) ?_
                          refine zb_icge (tgt := 145) hx hb dX7_isAtRest_118 (by decide) h (fun h => ?_) (fun h => ?_)
                          · exact hj145  _ _ _ Z (lv_sub hl [1, 2, 3, 4, 5, 6, 7] rfl) h
                          · refine lv_aload_n hx hb dX7_isAtRest_121 rfl (lv_at hl 1 rfl) ?_
                            refine zw_getR F Z zC7 (a := 79) (k := 12) (by decide) zs_79 (by decide) rfl zg_79_12 zq476 (Or.inl rfl) dX7_isAtRest_122 ?_
                            refine lv_iload hx hb dX7_isAtRest_125 (lv_at hl 5 rfl) ?_
                            obtain ⟨hk127, h⟩ := ck_x h
                            refine zw_aaldA F Z (ty := 6) (by decide) zs_81 (by decide) rfl hk127 (zg_takes hk127) dX7_isAtRest_127 ?_
                            refine lv_iload hx hb dX7_isAtRest_128 (lv_at hl 0 rfl) ?_
                            obtain ⟨hk130, h⟩ := ck_x h
                            refine zw_iald F Z (zlt_takes hk127) (zs_takes hk127) hk130 dX7_isAtRest_130 ?_
                            refine lv_aload_n hx hb dX7_isAtRest_131 rfl (lv_at hl 1 rfl) ?_
                            refine zw_getR F Z zC7 (a := 79) (k := 12) (by decide) zs_79 (by decide) rfl zg_79_12 zq476 (Or.inl rfl) dX7_isAtRest_132 ?_
                            refine lv_iload hx hb dX7_isAtRest_135 (lv_at hl 5 rfl) ?_
                            obtain ⟨hk137, h⟩ := ck_x h
                            refine zw_aaldA F Z (ty := 6) (by decide) zs_81 (by decide) rfl hk137 (zg_takes hk137) dX7_isAtRest_137 ?_
                            refine lv_iload_n hx hb dX7_isAtRest_138 rfl (lv_at hl 2 rfl) ?_
                            obtain ⟨hk139, h⟩ := ck_x h
                            refine zw_iald F Z (zlt_takes hk137) (zs_takes hk137) hk139 dX7_isAtRest_139 ?_
                            refine zb_icle (tgt := 145) hx hb dX7_isAtRest_140 (by decide) h (fun h => ?_) (fun h => ?_)
                            · exact hj145  _ _ _ Z (lv_sub hl [1, 2, 3, 4, 5, 6, 7] rfl) h
                            · exact hk143_1  _ _ _ Z (lv_sub hl [] rfl) h
              exact hL74 NF 0 _ _ _ Z (lv_sub hl [2, 3, 4, 5, 6, 1, 0] rfl) h
            refine zb_ifeq (tgt := 63) hx hb dX7_isAtRest_50 (by decide) h (fun h => ?_) (fun h => ?_)
            · exact hj63  _ _ _ Z (lv_sub hl [1, 2, 3, 4, 5, 0] rfl) h
            · refine lv_iload hx hb dX7_isAtRest_53 (lv_at hl 0 rfl) ?_
              refine lv_iload_n hx hb dX7_isAtRest_55 rfl (lv_at hl 3 rfl) ?_
              refine lv_iconst (v := 1) hx hb dX7_isAtRest_56 (by decide) ?_
              refine lv_isub hx hb dX7_isAtRest_57 ?_
              refine zb_iceq (tgt := 63) hx hb dX7_isAtRest_58 (by decide) h (fun h => ?_) (fun h => ?_)
              · exact hj63  _ _ _ Z (lv_sub hl [1, 2, 3, 4, 5, 0] rfl) h
              · exact hk61  _ _ _ Z (lv_sub hl [] rfl) h
          · exact hk32  _ _ _ Z (lv_sub hl [] rfl) h
  exact hL17 NF 1 x4_15 _ _ _ Z (lv_sub hl [2, 3, 4, 1, 0] rfl) h
set_option maxHeartbeats 4000000 in
set_option maxRecDepth 100000 in
theorem zcX7_inHundreds (l : Launch) (D : va_G) (A0 : Nat) (x1 : Int32) (x2 : Int32) (σ : Mm) (r0 : Int32) (h : zfX7_inHundreds x1 x2 σ = some r0) : Met l yX7_inHundreds (zws yX7_inHundreds cX7_inHundreds 7 (some .int)) (zR 0 0) (zPc D A0 σ GF 740 [.ref (A0 + 79), .int x1, .int x2]) (zQi D A0 r0 σ GF 740) 0 0 (zA A0) := by
  unfold zfX7_inHundreds at h
  refine zmet (own := RX7) (by decide) rfl (Nat.le_of_ble_eq_true rfl) ?_
  intro p e s m below meth c F hr hlocks _ Z ls hl
  have hl : lv_has ls 7 [(0, .ref (A0 + 79)), (1, .int x1), (2, .int x2)] := hl
  have hx := F.1.1
  have hb := F.1.2.1
  have hown := F.1.2.2.2.1
  have hts := F.1.2.2.2.2
  refine lv_iconst (v := 0) hx hb dX7_inHundreds_0 (by decide) ?_
  refine lv_istore_n (lv' := [(3, .int 0), (0, .ref (A0 + 79)), (1, .int x1), (2, .int x2)]) hx hb dX7_inHundreds_1 rfl hl (by decide) rfl (fun ls hl => ?_)
  refine lv_iconst (v := 1) hx hb dX7_inHundreds_2 (by decide) ?_
  refine lv_istore (lv' := [(4, .int 1), (3, .int 0), (0, .ref (A0 + 79)), (1, .int x1), (2, .int x2)]) hx hb dX7_inHundreds_3 hl (by decide) rfl (fun ls hl => ?_)
  refine lv_iload_n hx hb dX7_inHundreds_5 rfl (lv_at hl 3 rfl) ?_
  refine lv_istore (lv' := [(5, .int x1), (4, .int 1), (3, .int 0), (0, .ref (A0 + 79)), (1, .int x1), (2, .int x2)]) hx hb dX7_inHundreds_6 hl (by decide) rfl (fun ls hl => ?_)
  refine lv_iconst (v := 0) hx hb dX7_inHundreds_8 (by decide) ?_
  refine lv_istore (lv' := [(6, .int 0), (5, .int x1), (4, .int 1), (3, .int 0), (0, .ref (A0 + 79)), (1, .int x1), (2, .int x2)]) hx hb dX7_inHundreds_9 hl (by decide) rfl (fun ls hl => ?_)
  obtain ⟨k62, ek62, h⟩ := lt_x h
  have hk62 : ∀ (x3_62 : Int32) (H : Heap) (locs : List Loc) (ls : Array Slot), zh D A0 σ GF 740 s.heap H locs → lv_has ls 7 [(3, .int x3_62)] → k62 x3_62 = some r0 → W p l e (zR 0 0) s m [.ref (A0 + 79), .int x1, .int x2].toArray below meth c H locs 0 0 (MQ below (zQi D A0 r0 σ GF 740) [.ref (A0 + 79), .int x1, .int x2].toArray s 0 0 (zA A0)) (F0 m 62 ls []) := by
    intro x3_62 H locs ls Z hl h
    rw [ek62] at h
    try dsimp only at h
    refine lv_iload_n hx hb dX7_inHundreds_62 rfl (lv_at hl 0 rfl) ?_
    have hq := Option.some.inj h
    exact ze_i F Z hr hlocks hq rfl dX7_inHundreds_63
  have hL11 : ∀ (fu11 : Nat) (x3_11 : Int32) (x4_11 : Int32) (x5_11 : Int32) (x6_11 : Int32) (H : Heap) (locs : List Loc) (ls : Array Slot), zh D A0 σ GF 740 s.heap H locs → lv_has ls 7 [(0, .ref (A0 + 79)), (2, .int x2), (3, .int x3_11), (4, .int x4_11), (5, .int x5_11), (6, .int x6_11)] → zfX7_inHundreds_L11 σ k62 x2 fu11 x3_11 x4_11 x5_11 x6_11 = some r0 → W p l e (zR 0 0) s m [.ref (A0 + 79), .int x1, .int x2].toArray below meth c H locs 0 0 (MQ below (zQi D A0 r0 σ GF 740) [.ref (A0 + 79), .int x1, .int x2].toArray s 0 0 (zA A0)) (F0 m 11 ls []) := by
    intro fu11
    induction fu11 with
    | zero => intro x3_11 x4_11 x5_11 x6_11 H locs ls Z hl h; rw [zfX7_inHundreds_L11] at h; cases h
    | succ fu11 ih11 =>
      intro x3_11 x4_11 x5_11 x6_11 H locs ls Z hl h
      rw [zfX7_inHundreds_L11] at h
      refine lv_iload hx hb dX7_inHundreds_11 (lv_at hl 5 rfl) ?_
      refine lv_aload_n hx hb dX7_inHundreds_13 rfl (lv_at hl 0 rfl) ?_
      refine zw_getR F Z zC7 (a := 79) (k := 0) (by decide) zs_79 (by decide) rfl zg_79_0 zq460 (Or.inl rfl) dX7_inHundreds_14 ?_
      refine zw_getI F Z zC0 (a := 3) (k := 0) (by decide) zs_3 (by decide) rfl zq134 (Or.inl rfl) dX7_inHundreds_17 ?_
      refine zb_icge (tgt := 62) hx hb dX7_inHundreds_20 (by decide) h (fun h => ?_) (fun h => ?_)
      · exact hk62 x3_11 _ _ _ Z (lv_sub hl [2] rfl) h
      · refine lv_iload hx hb dX7_inHundreds_23 (lv_at hl 5 rfl) ?_
        refine lv_iconst (v := 3) hx hb dX7_inHundreds_25 (by decide) ?_
        refine zb_icge (tgt := 62) hx hb dX7_inHundreds_26 (by decide) h (fun h => ?_) (fun h => ?_)
        · exact hk62 x3_11 _ _ _ Z (lv_sub hl [2] rfl) h
        · refine lv_iload_n hx hb dX7_inHundreds_29 rfl (lv_at hl 1 rfl) ?_
          refine zb_ifle (tgt := 62) hx hb dX7_inHundreds_30 (by decide) h (fun h => ?_) (fun h => ?_)
          · exact hk62 x3_11 _ _ _ Z (lv_sub hl [2] rfl) h
          · refine lv_iload_n hx hb dX7_inHundreds_33 rfl (lv_at hl 2 rfl) ?_
            refine lv_iload hx hb dX7_inHundreds_34 (lv_at hl 4 rfl) ?_
            refine lv_iload_n hx hb dX7_inHundreds_36 rfl (lv_at hl 1 rfl) ?_
            obtain ⟨hk37, h⟩ := ck_x h
            refine lv_irem hx hb dX7_inHundreds_37 hk37 ?_
            refine lv_iload hx hb dX7_inHundreds_38 (lv_at hl 3 rfl) ?_
            refine lv_imul hx hb dX7_inHundreds_40 ?_
            refine lv_iadd hx hb dX7_inHundreds_41 ?_
            refine lv_topi (fun x3_42 ex3_42 => ?_)
            replace h := lt_w h ex3_42
            refine lv_istore_n (lv' := [(3, .int x3_42), (0, .ref (A0 + 79)), (2, .int x2), (4, .int x4_11), (5, .int x5_11), (6, .int x6_11)]) hx hb dX7_inHundreds_42 rfl hl (by decide) rfl (fun ls hl => ?_)
            refine lv_iload hx hb dX7_inHundreds_43 (lv_at hl 4 rfl) ?_
            refine lv_iload_n hx hb dX7_inHundreds_45 rfl (lv_at hl 2 rfl) ?_
            obtain ⟨hk46, h⟩ := ck_x h
            refine lv_idiv hx hb dX7_inHundreds_46 hk46 ?_
            refine lv_topi (fun x5_47 ex5_47 => ?_)
            replace h := lt_w h ex5_47
            refine lv_istore (lv' := [(5, .int x5_47), (3, .int x3_42), (0, .ref (A0 + 79)), (2, .int x2), (4, .int x4_11), (6, .int x6_11)]) hx hb dX7_inHundreds_47 hl (by decide) rfl (fun ls hl => ?_)
            refine lv_iload hx hb dX7_inHundreds_49 (lv_at hl 4 rfl) ?_
            refine lv_bipush (v := 100) hx hb dX7_inHundreds_51 (by decide) ?_
            refine lv_imul hx hb dX7_inHundreds_53 ?_
            refine lv_topi (fun x4_54 ex4_54 => ?_)
            replace h := lt_w h ex4_54
            refine lv_istore (lv' := [(4, .int x4_54), (5, .int x5_47), (3, .int x3_42), (0, .ref (A0 + 79)), (2, .int x2), (6, .int x6_11)]) hx hb dX7_inHundreds_54 hl (by decide) rfl (fun ls hl => ?_)
            obtain ⟨x6_56, ex6_56⟩ : ∃ y : Int32, y = x6_11 + 1 := ⟨_, rfl⟩
            replace h := lt_w h ex6_56
            refine lv_iinc (v := x6_56) (lv' := [(6, .int x6_56), (4, .int x4_54), (5, .int x5_47), (3, .int x3_42), (0, .ref (A0 + 79)), (2, .int x2)]) hx hb dX7_inHundreds_56 hl (k := 5) rfl (by rw [ex6_56]; rfl) (by decide) rfl (fun ls hl => ?_)
            refine lv_goto (tgt := 11) hx hb dX7_inHundreds_59 (by decide) ?_
            exact ih11 x3_42 x4_54 x5_47 x6_56 _ _ _ Z (lv_sub hl [4, 5, 3, 1, 2, 0] rfl) h
  exact hL11 NF 0 1 x1 0 _ _ _ Z (lv_sub hl [4, 6, 3, 2, 1, 0] rfl) h
set_option maxHeartbeats 4000000 in
set_option maxRecDepth 100000 in
theorem zcX7_findRests (l : Launch) (D : va_G) (A0 : Nat) (x1 : Int32) (σ : Mm) (r0 : Int32) (σr : Mm) (h : zfX7_findRests x1 σ = some (r0, σr)) : Met l yX7_findRests (zws yX7_findRests cX7_findRests 6 (some .int)) (zR 4 129) (zPc D A0 σ GF 740 [.ref (A0 + 79), .int x1]) (zQi D A0 r0 σr GF 740) 0 0 (zA A0) := by
  unfold zfX7_findRests at h
  refine zmet (own := RX7) (by decide) rfl (Nat.le_of_ble_eq_true rfl) ?_
  intro p e s m below meth c F hr hlocks _ Z ls hl
  have hl : lv_has ls 6 [(0, .ref (A0 + 79)), (1, .int x1)] := hl
  have hx := F.1.1
  have hb := F.1.2.1
  have hown := F.1.2.2.2.1
  have hts := F.1.2.2.2.2
  refine lv_aload_n hx hb dX7_findRests_0 rfl (lv_at hl 0 rfl) ?_
  refine zw_getR F Z zC7 (a := 79) (k := 2) (by decide) zs_79 (by decide) rfl zg_79_2 zq462 (Or.inl rfl) dX7_findRests_1 ?_
  refine zw_getI F Z zC8 (a := 27) (k := 0) (by decide) zs_27 (by decide) rfl zq221 (Or.inl rfl) dX7_findRests_4 ?_
  refine lv_iconst (v := 1) hx hb dX7_findRests_7 (by decide) ?_
  refine lv_iadd hx hb dX7_findRests_8 ?_
  refine lv_topi (fun x2_9 ex2_9 => ?_)
  replace h := lt_w h ex2_9
  refine lv_istore_n (lv' := [(2, .int x2_9), (0, .ref (A0 + 79)), (1, .int x1)]) hx hb dX7_findRests_9 rfl hl (by decide) rfl (fun ls hl => ?_)
  refine lv_iconst (v := 1) hx hb dX7_findRests_10 (by decide) ?_
  refine lv_istore_n (lv' := [(3, .int 1), (2, .int x2_9), (0, .ref (A0 + 79)), (1, .int x1)]) hx hb dX7_findRests_11 rfl hl (by decide) rfl (fun ls hl => ?_)
  refine lv_iconst (v := 0) hx hb dX7_findRests_12 (by decide) ?_
  refine lv_istore (lv' := [(4, .int 0), (3, .int 1), (2, .int x2_9), (0, .ref (A0 + 79)), (1, .int x1)]) hx hb dX7_findRests_13 hl (by decide) rfl (fun ls hl => ?_)
  obtain ⟨k43, ek43, h⟩ := lt_x h
  have hk43 : ∀ (x3_43 : Int32) (σ43 : Mm) (H : Heap) (locs : List Loc) (ls : Array Slot), zh D A0 σ43 GF 740 s.heap H locs → lv_has ls 6 [(0, .ref (A0 + 79)), (1, .int x1), (2, .int x2_9), (3, .int x3_43)] → k43 x3_43 σ43 = some (r0, σr) → W p l e (zR 4 129) s m [.ref (A0 + 79), .int x1].toArray below meth c H locs 0 0 (MQ below (zQi D A0 r0 σr GF 740) [.ref (A0 + 79), .int x1].toArray s 0 0 (zA A0)) (F0 m 43 ls []) := by
    intro x3_43 σ43 H locs ls Z hl h
    rw [ek43] at h
    try dsimp only at h
    refine lv_iload_n hx hb dX7_findRests_43 rfl (lv_at hl 3 rfl) ?_
    refine lv_sipush (v := 9261) hx hb dX7_findRests_44 (by decide) ?_
    refine zw_zmin F hl.1 zq1019 (Nat.le_of_ble_eq_true rfl) (Nat.le_of_ble_eq_true rfl) (Nat.le_of_ble_eq_true rfl) (Nat.le_of_ble_eq_true rfl) dX7_findRests_47 ?_
    refine lv_topi (fun x3_50 ex3_50 => ?_)
    replace h := lt_w h ex3_50
    refine lv_istore_n (lv' := [(3, .int x3_50), (0, .ref (A0 + 79)), (1, .int x1), (2, .int x2_9)]) hx hb dX7_findRests_50 rfl hl (by decide) rfl (fun ls hl => ?_)
    refine lv_aload_n hx hb dX7_findRests_51 rfl (lv_at hl 1 rfl) ?_
    refine lv_iload_n hx hb dX7_findRests_52 rfl (lv_at hl 0 rfl) ?_
    refine lv_iload_n hx hb dX7_findRests_53 rfl (lv_at hl 3 rfl) ?_
    obtain ⟨σ54, hc54, h⟩ := bd_x h
    refine zc_v Z (zr_V F Z (a := 79) (As := [.int x3_50, .int x2_9]) (zcX7_fillTakes l D A0 x3_50 x2_9 σ43 σ54 hc54) zBX7_fillTakes zq1020 (by decide) zs_79 zC7.1 rfl ⟨⟨rfl, rfl⟩, Nat.le_of_ble_eq_true rfl, Nat.le_of_ble_eq_true rfl⟩ hl.1 rfl (Nat.le_of_ble_eq_true rfl) dX7_findRests_54 ⟨Nat.le_of_ble_eq_true rfl, Nat.le_of_ble_eq_true rfl⟩) (fun _ _ Z => ?_)
    refine lv_iconst (v := 0) hx hb dX7_findRests_57 (by decide) ?_
    refine lv_istore (lv' := [(4, .int 0), (3, .int x3_50), (0, .ref (A0 + 79)), (1, .int x1), (2, .int x2_9)]) hx hb dX7_findRests_58 hl (by decide) rfl (fun ls hl => ?_)
    refine lv_iconst (v := 0) hx hb dX7_findRests_60 (by decide) ?_
    refine lv_istore (lv' := [(5, .int 0), (4, .int 0), (3, .int x3_50), (0, .ref (A0 + 79)), (1, .int x1), (2, .int x2_9)]) hx hb dX7_findRests_61 hl (by decide) rfl (fun ls hl => ?_)
    obtain ⟨k108, ek108, h⟩ := lt_x h
    have hk108 : ∀ (x4_108 : Int32) (σ108 : Mm) (H : Heap) (locs : List Loc) (ls : Array Slot), zh D A0 σ108 GF 740 s.heap H locs → lv_has ls 6 [(4, .int x4_108)] → k108 x4_108 σ108 = some (r0, σr) → W p l e (zR 4 129) s m [.ref (A0 + 79), .int x1].toArray below meth c H locs 0 0 (MQ below (zQi D A0 r0 σr GF 740) [.ref (A0 + 79), .int x1].toArray s 0 0 (zA A0)) (F0 m 108 ls []) := by
      intro x4_108 σ108 H locs ls Z hl h
      rw [ek108] at h
      try dsimp only at h
      refine lv_iload hx hb dX7_findRests_108 (lv_at hl 0 rfl) ?_
      obtain ⟨hq1, hq2⟩ := zpq h
      exact ze_i F Z hr hlocks hq1 hq2 dX7_findRests_110
    have hL63 : ∀ (fu63 : Nat) (x4_63 : Int32) (x5_63 : Int32) (σ63 : Mm) (H : Heap) (locs : List Loc) (ls : Array Slot), zh D A0 σ63 GF 740 s.heap H locs → lv_has ls 6 [(0, .ref (A0 + 79)), (1, .int x1), (2, .int x2_9), (3, .int x3_50), (4, .int x4_63), (5, .int x5_63)] → zfX7_findRests_L63 x3_50 k108 x2_9 x1 fu63 x4_63 x5_63 σ63 = some (r0, σr) → W p l e (zR 4 129) s m [.ref (A0 + 79), .int x1].toArray below meth c H locs 0 0 (MQ below (zQi D A0 r0 σr GF 740) [.ref (A0 + 79), .int x1].toArray s 0 0 (zA A0)) (F0 m 63 ls []) := by
      intro fu63
      induction fu63 with
      | zero => intro x4_63 x5_63 σ63 H locs ls Z hl h; rw [zfX7_findRests_L63] at h; cases h
      | succ fu63 ih63 =>
        intro x4_63 x5_63 σ63 H locs ls Z hl h
        rw [zfX7_findRests_L63] at h
        refine lv_iload hx hb dX7_findRests_63 (lv_at hl 5 rfl) ?_
        refine lv_iload_n hx hb dX7_findRests_65 rfl (lv_at hl 3 rfl) ?_
        refine zb_icge (tgt := 108) hx hb dX7_findRests_66 (by decide) h (fun h => ?_) (fun h => ?_)
        · exact hk108 x4_63 σ63 _ _ _ Z (lv_sub hl [4] rfl) h
        · refine lv_aload_n hx hb dX7_findRests_69 rfl (lv_at hl 0 rfl) ?_
          refine lv_iload hx hb dX7_findRests_70 (lv_at hl 5 rfl) ?_
          refine lv_iload_n hx hb dX7_findRests_72 rfl (lv_at hl 2 rfl) ?_
          obtain ⟨r73, hc73, h⟩ := bd_x h
          refine zc_i Z (zr_V F Z (a := 79) (As := [.int x5_63, .int x2_9]) (zcX7_isAtRest l D A0 x5_63 x2_9 σ63 r73 hc73) zBX7_isAtRest zq1027 (by decide) zs_79 zC7.1 rfl ⟨⟨rfl, rfl⟩, Nat.le_of_ble_eq_true rfl, Nat.le_of_ble_eq_true rfl⟩ hl.1 rfl (Nat.le_of_ble_eq_true rfl) dX7_findRests_73 ⟨Nat.le_of_ble_eq_true rfl, Nat.le_of_ble_eq_true rfl⟩) (fun _ _ Z => ?_)
          obtain ⟨j102, ej102, h⟩ := lt_x h
          have hj102 : ∀ (x4_102 : Int32) (σ102 : Mm) (H : Heap) (locs : List Loc) (ls : Array Slot), zh D A0 σ102 GF 740 s.heap H locs → lv_has ls 6 [(0, .ref (A0 + 79)), (1, .int x1), (2, .int x2_9), (3, .int x3_50), (4, .int x4_102), (5, .int x5_63)] → j102 x4_102 σ102 = some (r0, σr) → W p l e (zR 4 129) s m [.ref (A0 + 79), .int x1].toArray below meth c H locs 0 0 (MQ below (zQi D A0 r0 σr GF 740) [.ref (A0 + 79), .int x1].toArray s 0 0 (zA A0)) (F0 m 102 ls []) := by
            intro x4_102 σ102 H locs ls Z hl h
            rw [ej102] at h
            try dsimp only at h
            obtain ⟨x5_102, ex5_102⟩ : ∃ y : Int32, y = x5_63 + 1 := ⟨_, rfl⟩
            replace h := lt_w h ex5_102
            refine lv_iinc (v := x5_102) (lv' := [(5, .int x5_102), (0, .ref (A0 + 79)), (1, .int x1), (2, .int x2_9), (3, .int x3_50), (4, .int x4_102)]) hx hb dX7_findRests_102 hl (k := 5) rfl (by rw [ex5_102]; rfl) (by decide) rfl (fun ls hl => ?_)
            refine lv_goto (tgt := 63) hx hb dX7_findRests_105 (by decide) ?_
            exact ih63 x4_102 x5_102 σ102 _ _ _ Z (lv_sub hl [1, 2, 3, 4, 5, 0] rfl) h
          refine zb_ifne (tgt := 82) hx hb dX7_findRests_76 (by decide) h (fun h => ?_) (fun h => ?_)
          · refine lv_iload hx hb dX7_findRests_82 (lv_at hl 4 rfl) ?_
            refine lv_iload_n hx hb dX7_findRests_84 rfl (lv_at hl 1 rfl) ?_
            obtain ⟨j99, ej99, h⟩ := lt_x h
            have hj99 : ∀ (σ99 : Mm) (H : Heap) (locs : List Loc) (ls : Array Slot), zh D A0 σ99 GF 740 s.heap H locs → lv_has ls 6 [(0, .ref (A0 + 79)), (1, .int x1), (2, .int x2_9), (3, .int x3_50), (4, .int x4_63), (5, .int x5_63)] → j99 σ99 = some (r0, σr) → W p l e (zR 4 129) s m [.ref (A0 + 79), .int x1].toArray below meth c H locs 0 0 (MQ below (zQi D A0 r0 σr GF 740) [.ref (A0 + 79), .int x1].toArray s 0 0 (zA A0)) (F0 m 99 ls []) := by
              intro  σ99 H locs ls Z hl h
              rw [ej99] at h
              try dsimp only at h
              obtain ⟨x4_99, ex4_99⟩ : ∃ y : Int32, y = x4_63 + 1 := ⟨_, rfl⟩
              replace h := lt_w h ex4_99
              refine lv_iinc (v := x4_99) (lv' := [(4, .int x4_99), (0, .ref (A0 + 79)), (1, .int x1), (2, .int x2_9), (3, .int x3_50), (5, .int x5_63)]) hx hb dX7_findRests_99 hl (k := 4) rfl (by rw [ex4_99]; rfl) (by decide) rfl (fun ls hl => ?_)
              exact hj102 x4_99 σ99 _ _ _ Z (lv_sub hl [1, 2, 3, 4, 0, 5] rfl) h
            refine zb_icne (tgt := 99) hx hb dX7_findRests_85 (by decide) h (fun h => ?_) (fun h => ?_)
            · exact hj99 σ63 _ _ _ Z (lv_sub hl [0, 1, 2, 3, 4, 5] rfl) h
            · refine lv_aload_n hx hb dX7_findRests_88 rfl (lv_at hl 0 rfl) ?_
              refine lv_aload_n hx hb dX7_findRests_89 rfl (lv_at hl 0 rfl) ?_
              refine lv_iload hx hb dX7_findRests_90 (lv_at hl 5 rfl) ?_
              refine lv_iload_n hx hb dX7_findRests_92 rfl (lv_at hl 2 rfl) ?_
              obtain ⟨r93, hc93, h⟩ := bd_x h
              refine zc_i Z (zr_V F Z (a := 79) (As := [.int x5_63, .int x2_9]) (zcX7_inHundreds l D A0 x5_63 x2_9 σ63 r93 hc93) zBX7_inHundreds zq1032 (by decide) zs_79 zC7.1 rfl ⟨⟨rfl, rfl⟩, Nat.le_of_ble_eq_true rfl, Nat.le_of_ble_eq_true rfl⟩ hl.1 rfl (Nat.le_of_ble_eq_true rfl) dX7_findRests_93 ⟨Nat.le_of_ble_eq_true rfl, Nat.le_of_ble_eq_true rfl⟩) (fun _ _ Z => ?_)
              refine zw_putI F Z zC7 (a := 79) (k := 13) (by decide) zs_79 (by decide) rfl (by decide) zq477 (Or.inl rfl) rfl ⟨rfl, rfl⟩ dX7_findRests_96 (fun σ96 _ _ eσ96 Z => ?_)
              replace h := lt_w h eσ96
              exact hj99 σ96 _ _ _ Z (lv_sub hl [0, 1, 2, 3, 4, 5] rfl) h
          · refine lv_goto (tgt := 102) hx hb dX7_findRests_79 (by decide) ?_
            exact hj102 x4_63 σ63 _ _ _ Z (lv_sub hl [0, 1, 2, 3, 4, 5] rfl) h
    exact hL63 NF 0 0 σ54 _ _ _ Z (lv_sub hl [3, 4, 5, 2, 1, 0] rfl) h
  have hL15 : ∀ (fu15 : Nat) (x3_15 : Int32) (x4_15 : Int32) (σ15 : Mm) (H : Heap) (locs : List Loc) (ls : Array Slot), zh D A0 σ15 GF 740 s.heap H locs → lv_has ls 6 [(0, .ref (A0 + 79)), (1, .int x1), (2, .int x2_9), (3, .int x3_15), (4, .int x4_15)] → zfX7_findRests_L15 k43 x2_9 fu15 x3_15 x4_15 σ15 = some (r0, σr) → W p l e (zR 4 129) s m [.ref (A0 + 79), .int x1].toArray below meth c H locs 0 0 (MQ below (zQi D A0 r0 σr GF 740) [.ref (A0 + 79), .int x1].toArray s 0 0 (zA A0)) (F0 m 15 ls []) := by
    intro fu15
    induction fu15 with
    | zero => intro x3_15 x4_15 σ15 H locs ls Z hl h; rw [zfX7_findRests_L15] at h; cases h
    | succ fu15 ih15 =>
      intro x3_15 x4_15 σ15 H locs ls Z hl h
      rw [zfX7_findRests_L15] at h
      refine lv_iload hx hb dX7_findRests_15 (lv_at hl 4 rfl) ?_
      refine lv_aload_n hx hb dX7_findRests_17 rfl (lv_at hl 0 rfl) ?_
      refine zw_getR F Z zC7 (a := 79) (k := 0) (by decide) zs_79 (by decide) rfl zg_79_0 zq460 (Or.inl rfl) dX7_findRests_18 ?_
      refine zw_getI F Z zC0 (a := 3) (k := 0) (by decide) zs_3 (by decide) rfl zq134 (Or.inl rfl) dX7_findRests_21 ?_
      refine zb_icge (tgt := 43) hx hb dX7_findRests_24 (by decide) h (fun h => ?_) (fun h => ?_)
      · exact hk43 x3_15 σ15 _ _ _ Z (lv_sub hl [0, 1, 2, 3] rfl) h
      · refine lv_iload hx hb dX7_findRests_27 (lv_at hl 4 rfl) ?_
        refine lv_iconst (v := 3) hx hb dX7_findRests_29 (by decide) ?_
        refine zb_icge (tgt := 43) hx hb dX7_findRests_30 (by decide) h (fun h => ?_) (fun h => ?_)
        · exact hk43 x3_15 σ15 _ _ _ Z (lv_sub hl [0, 1, 2, 3] rfl) h
        · refine lv_iload_n hx hb dX7_findRests_33 rfl (lv_at hl 3 rfl) ?_
          refine lv_iload_n hx hb dX7_findRests_34 rfl (lv_at hl 2 rfl) ?_
          refine lv_imul hx hb dX7_findRests_35 ?_
          refine lv_topi (fun x3_36 ex3_36 => ?_)
          replace h := lt_w h ex3_36
          refine lv_istore_n (lv' := [(3, .int x3_36), (0, .ref (A0 + 79)), (1, .int x1), (2, .int x2_9), (4, .int x4_15)]) hx hb dX7_findRests_36 rfl hl (by decide) rfl (fun ls hl => ?_)
          obtain ⟨x4_37, ex4_37⟩ : ∃ y : Int32, y = x4_15 + 1 := ⟨_, rfl⟩
          replace h := lt_w h ex4_37
          refine lv_iinc (v := x4_37) (lv' := [(4, .int x4_37), (3, .int x3_36), (0, .ref (A0 + 79)), (1, .int x1), (2, .int x2_9)]) hx hb dX7_findRests_37 hl (k := 4) rfl (by rw [ex4_37]; rfl) (by decide) rfl (fun ls hl => ?_)
          refine lv_goto (tgt := 15) hx hb dX7_findRests_40 (by decide) ?_
          exact ih15 x3_36 x4_37 σ15 _ _ _ Z (lv_sub hl [2, 3, 4, 1, 0] rfl) h
  exact hL15 NF 1 0 σ _ _ _ Z (lv_sub hl [3, 4, 2, 1, 0] rfl) h
set_option maxHeartbeats 4000000 in
set_option maxRecDepth 100000 in
theorem zcX11_rest (l : Launch) (D : va_G) (A0 : Nat) (x1 : Int32) (σ : Mm) (r0 : Int32) (σr : Mm) (h : zfX11_rest x1 σ = some (r0, σr)) : Met l yX11_rest (zws yX11_rest cX11_rest 3 (some .int)) (zR 5 154) (zPc D A0 σ GF 740 [.ref (A0 + 0), .int x1]) (zQi D A0 r0 σr GF 740) 0 0 (zA A0) := by
  unfold zfX11_rest at h
  refine zmet (own := RX11) (by decide) rfl (Nat.le_of_ble_eq_true rfl) ?_
  intro p e s m below meth c F hr hlocks _ Z ls hl
  have hl : lv_has ls 3 [(0, .ref (A0 + 0)), (1, .int x1)] := hl
  have hx := F.1.1
  have hb := F.1.2.1
  have hown := F.1.2.2.2.1
  have hts := F.1.2.2.2.2
  refine lv_aload_n hx hb dX11_rest_0 rfl (lv_at hl 0 rfl) ?_
  refine zc_i Z (zr_V F Z (a := 0) (As := []) (zcX11_noMarket l D A0 σ (zfX11_noMarket σ) rfl) zBX11_noMarket zq858 (by decide) zs_0 zC11.1 rfl ⟨⟨rfl, rfl⟩, Nat.le_of_ble_eq_true rfl, Nat.le_of_ble_eq_true rfl⟩ hl.1 rfl (Nat.le_of_ble_eq_true rfl) dX11_rest_1 ⟨Nat.le_of_ble_eq_true rfl, Nat.le_of_ble_eq_true rfl⟩) (fun _ _ Z => ?_)
  obtain ⟨j18, ej18, h⟩ := lt_x h
  have hj18 : ∀ (σ18 : Mm) (H : Heap) (locs : List Loc) (ls : Array Slot), zh D A0 σ18 GF 740 s.heap H locs → lv_has ls 3 [] → j18 σ18 = some (r0, σr) → W p l e (zR 5 154) s m [.ref (A0 + 0), .int x1].toArray below meth c H locs 0 0 (MQ below (zQi D A0 r0 σr GF 740) [.ref (A0 + 0), .int x1].toArray s 0 0 (zA A0)) (F0 m 18 ls []) := by
    intro  σ18 H locs ls Z hl h
    rw [ej18] at h
    try dsimp only at h
    refine lv_ldc (v := (-1000000)) hx hb hown (hts _ zq1001) dX11_rest_18 ?_
    obtain ⟨hq1, hq2⟩ := zpq h
    exact ze_i F Z hr hlocks hq1 hq2 dX11_rest_20
  refine zb_ifne (tgt := 18) hx hb dX11_rest_4 (by decide) h (fun h => ?_) (fun h => ?_)
  · exact hj18 σ _ _ _ Z (lv_sub hl [] rfl) h
  · refine lv_aload_n hx hb dX11_rest_7 rfl (lv_at hl 0 rfl) ?_
    refine zw_getR F Z zC11 (a := 0) (k := 3) (by decide) zs_0 (by decide) rfl zg_0_3 zq537 (Or.inl rfl) dX11_rest_8 ?_
    refine zw_getI F Z zC0 (a := 3) (k := 0) (by decide) zs_3 (by decide) rfl zq135 (Or.inl rfl) dX11_rest_11 ?_
    refine lv_iconst (v := 3) hx hb dX11_rest_14 (by decide) ?_
    refine zb_icle (tgt := 21) hx hb dX11_rest_15 (by decide) h (fun h => ?_) (fun h => ?_)
    · refine lv_iload_n hx hb dX11_rest_21 rfl (lv_at hl 1 rfl) ?_
      refine lv_iconst (v := (-1)) hx hb dX11_rest_22 (by decide) ?_
      obtain ⟨j33, ej33, h⟩ := lt_x h
      have hj33 : ∀ (σ33 : Mm) (H : Heap) (locs : List Loc) (ls : Array Slot), zh D A0 σ33 GF 740 s.heap H locs → lv_has ls 3 [] → j33 σ33 = some (r0, σr) → W p l e (zR 5 154) s m [.ref (A0 + 0), .int x1].toArray below meth c H locs 0 0 (MQ below (zQi D A0 r0 σr GF 740) [.ref (A0 + 0), .int x1].toArray s 0 0 (zA A0)) (F0 m 33 ls []) := by
        intro  σ33 H locs ls Z hl h
        rw [ej33] at h
        try dsimp only at h
        refine lv_iconst (v := (-1)) hx hb dX11_rest_33 (by decide) ?_
        obtain ⟨hq1, hq2⟩ := zpq h
        exact ze_i F Z hr hlocks hq1 hq2 dX11_rest_34
      refine zb_iclt (tgt := 33) hx hb dX11_rest_23 (by decide) h (fun h => ?_) (fun h => ?_)
      · exact hj33 σ _ _ _ Z (lv_sub hl [] rfl) h
      · refine lv_iload_n hx hb dX11_rest_26 rfl (lv_at hl 1 rfl) ?_
        refine lv_sipush (v := 9261) hx hb dX11_rest_27 (by decide) ?_
        refine zb_iclt (tgt := 35) hx hb dX11_rest_30 (by decide) h (fun h => ?_) (fun h => ?_)
        · refine lv_aload_n hx hb dX11_rest_35 rfl (lv_at hl 0 rfl) ?_
          refine zw_getR F Z zC11 (a := 0) (k := 11) (by decide) zs_0 (by decide) rfl zg_0_11 zq545 (Or.inl rfl) dX11_rest_36 ?_
          refine lv_iload_n hx hb dX11_rest_39 rfl (lv_at hl 1 rfl) ?_
          obtain ⟨r40, σ40, hc40, h⟩ := bd2_x h
          refine zc_i Z (zr_V F Z (a := 79) (As := [.int x1]) (zcX7_findRests l D A0 x1 σ r40 σ40 hc40) zBX7_findRests zq1015 (by decide) zs_79 zC7.1 rfl ⟨⟨rfl, rfl⟩, Nat.le_of_ble_eq_true rfl, Nat.le_of_ble_eq_true rfl⟩ hl.1 rfl (Nat.le_of_ble_eq_true rfl) dX11_rest_40 ⟨Nat.le_of_ble_eq_true rfl, Nat.le_of_ble_eq_true rfl⟩) (fun _ _ Z => ?_)
          refine lv_istore_n (lv' := [(2, .int r40), (0, .ref (A0 + 0)), (1, .int x1)]) hx hb dX11_rest_43 rfl hl (by decide) rfl (fun ls hl => ?_)
          refine lv_iload_n hx hb dX11_rest_44 rfl (lv_at hl 2 rfl) ?_
          refine lv_iconst (v := (-1)) hx hb dX11_rest_45 (by decide) ?_
          refine zb_icne (tgt := 51) hx hb dX11_rest_46 (by decide) h (fun h => ?_) (fun h => ?_)
          · refine lv_iload_n hx hb dX11_rest_51 rfl (lv_at hl 2 rfl) ?_
            refine lv_iload_n hx hb dX11_rest_52 rfl (lv_at hl 0 rfl) ?_
            refine zb_icge (tgt := 66) hx hb dX11_rest_53 (by decide) h (fun h => ?_) (fun h => ?_)
            · refine lv_iconst (v := (-1)) hx hb dX11_rest_66 (by decide) ?_
              obtain ⟨hq1, hq2⟩ := zpq h
              exact ze_i F Z hr hlocks hq1 hq2 dX11_rest_67
            · refine lv_aload_n hx hb dX11_rest_56 rfl (lv_at hl 1 rfl) ?_
              refine zw_getR F Z zC11 (a := 0) (k := 11) (by decide) zs_0 (by decide) rfl zg_0_11 zq545 (Or.inl rfl) dX11_rest_57 ?_
              refine zw_getI F Z zC7 (a := 79) (k := 13) (by decide) zs_79 (by decide) rfl zq478 (Or.inl rfl) dX11_rest_60 ?_
              refine lv_goto (tgt := 67) hx hb dX11_rest_63 (by decide) ?_
              obtain ⟨hq1, hq2⟩ := zpq h
              exact ze_i F Z hr hlocks hq1 hq2 dX11_rest_67
          · refine lv_iload_n hx hb dX11_rest_49 rfl (lv_at hl 0 rfl) ?_
            obtain ⟨hq1, hq2⟩ := zpq h
            exact ze_i F Z hr hlocks hq1 hq2 dX11_rest_50
        · exact hj33 σ _ _ _ Z (lv_sub hl [] rfl) h
    · exact hj18 σ _ _ _ Z (lv_sub hl [] rfl) h
set_option maxHeartbeats 4000000 in
set_option maxRecDepth 100000 in
theorem zcX10_beginHolding (l : Launch) (D : va_G) (A0 : Nat) (x1 : Int32) (x2 : Int32) (σ : Mm) (σr : Mm) (h : zfX10_beginHolding x1 x2 σ = some σr) : Met l yX10_beginHolding (zws yX10_beginHolding cX10_beginHolding 3 none) (zR 3 101) (zPc D A0 σ GF 740 [.ref (A0 + 68), .int x1, .int x2]) (zQv D A0 σr GF 740) 0 0 (zA A0) := by
  unfold zfX10_beginHolding at h
  refine zmet (own := RX10) (by decide) rfl (Nat.le_of_ble_eq_true rfl) ?_
  intro p e s m below meth c F hr hlocks _ Z ls hl
  have hl : lv_has ls 3 [(0, .ref (A0 + 68)), (1, .int x1), (2, .int x2)] := hl
  have hx := F.1.1
  have hb := F.1.2.1
  have hown := F.1.2.2.2.1
  have hts := F.1.2.2.2.2
  refine lv_aload_n hx hb dX10_beginHolding_0 rfl (lv_at hl 0 rfl) ?_
  obtain ⟨σ1, hc1, h⟩ := bd_x h
  refine zc_v Z (zr_V F Z (a := 68) (As := []) (zcX10_begin l D A0 σ σ1 hc1) zBX10_begin zq1044 (by decide) zs_68 zC10.1 rfl ⟨⟨rfl, rfl⟩, Nat.le_of_ble_eq_true rfl, Nat.le_of_ble_eq_true rfl⟩ hl.1 rfl (Nat.le_of_ble_eq_true rfl) dX10_beginHolding_1 ⟨Nat.le_of_ble_eq_true rfl, Nat.le_of_ble_eq_true rfl⟩) (fun _ _ Z => ?_)
  refine lv_aload_n hx hb dX10_beginHolding_4 rfl (lv_at hl 0 rfl) ?_
  refine zw_getR F Z zC10 (a := 68) (k := 3) (by decide) zs_68 (by decide) rfl zg_68_3 zq400 (Or.inl rfl) dX10_beginHolding_5 ?_
  refine lv_iload_n hx hb dX10_beginHolding_8 rfl (lv_at hl 1 rfl) ?_
  refine lv_iload_n hx hb dX10_beginHolding_9 rfl (lv_at hl 2 rfl) ?_
  obtain ⟨σ10, hc10, h⟩ := bd_x h
  refine zc_v Z (zr_V F Z (a := 69) (As := [.int x1, .int x2]) (zcX8_setHolding l D A0 69 x1 x2 (Or.inr (Or.inr (Or.inl rfl))) σ1 σ10 hc10) zBX8_setHolding zq1045 (by decide) zs_69 zC8.1 rfl ⟨⟨rfl, rfl⟩, Nat.le_of_ble_eq_true rfl, Nat.le_of_ble_eq_true rfl⟩ hl.1 rfl (Nat.le_of_ble_eq_true rfl) dX10_beginHolding_10 ⟨Nat.le_of_ble_eq_true rfl, Nat.le_of_ble_eq_true rfl⟩) (fun _ _ Z => ?_)
  have hq := Option.some.inj h
  exact ze_v F Z hr hlocks hq dX10_beginHolding_13
set_option maxHeartbeats 4000000 in
set_option maxRecDepth 100000 in
theorem zcX10_gainOf (l : Launch) (D : va_G) (A0 : Nat) (x1 : Int32) (σ : Mm) (r0 : Int32) (h : zfX10_gainOf x1 σ = some r0) : Met l yX10_gainOf (zws yX10_gainOf cX10_gainOf 2 (some .int)) (zR 0 0) (zPc D A0 σ GF 740 [.ref (A0 + 68), .int x1]) (zQi D A0 r0 σ GF 740) 0 0 (zA A0) := by
  unfold zfX10_gainOf at h
  refine zmet (own := RX10) (by decide) rfl (Nat.le_of_ble_eq_true rfl) ?_
  intro p e s m below meth c F hr hlocks _ Z ls hl
  have hl : lv_has ls 2 [(0, .ref (A0 + 68)), (1, .int x1)] := hl
  have hx := F.1.1
  have hb := F.1.2.1
  have hown := F.1.2.2.2.1
  have hts := F.1.2.2.2.2
  refine lv_iload_n hx hb dX10_gainOf_0 rfl (lv_at hl 1 rfl) ?_
  obtain ⟨j10, ej10, h⟩ := lt_x h
  have hj10 : ∀  (H : Heap) (locs : List Loc) (ls : Array Slot), zh D A0 σ GF 740 s.heap H locs → lv_has ls 2 [] → j10 () = some r0 → W p l e (zR 0 0) s m [.ref (A0 + 68), .int x1].toArray below meth c H locs 0 0 (MQ below (zQi D A0 r0 σ GF 740) [.ref (A0 + 68), .int x1].toArray s 0 0 (zA A0)) (F0 m 10 ls []) := by
    intro  H locs ls Z hl h
    rw [ej10] at h
    try dsimp only at h
    refine lv_iconst (v := 0) hx hb dX10_gainOf_10 (by decide) ?_
    have hq := Option.some.inj h
    exact ze_i F Z hr hlocks hq rfl dX10_gainOf_11
  refine zb_iflt (tgt := 10) hx hb dX10_gainOf_1 (by decide) h (fun h => ?_) (fun h => ?_)
  · exact hj10  _ _ _ Z (lv_sub hl [] rfl) h
  · refine lv_iload_n hx hb dX10_gainOf_4 rfl (lv_at hl 1 rfl) ?_
    refine lv_bipush (v := 6) hx hb dX10_gainOf_5 (by decide) ?_
    refine zb_iclt (tgt := 12) hx hb dX10_gainOf_7 (by decide) h (fun h => ?_) (fun h => ?_)
    · refine lv_aload_n hx hb dX10_gainOf_12 rfl (lv_at hl 0 rfl) ?_
      refine zw_getR F Z zC10 (a := 68) (k := 3) (by decide) zs_68 (by decide) rfl zg_68_3 zq400 (Or.inl rfl) dX10_gainOf_13 ?_
      refine zw_getR F Z zC8 (a := 69) (k := 7) (by decide) zs_69 (by decide) rfl zg_69_7 zq245 (Or.inl rfl) dX10_gainOf_16 ?_
      refine lv_iload_n hx hb dX10_gainOf_19 rfl (lv_at hl 1 rfl) ?_
      obtain ⟨hk20, h⟩ := ck_x h
      refine zw_iald F Z (by decide) zs_72 hk20 dX10_gainOf_20 ?_
      refine lv_aload_n hx hb dX10_gainOf_21 rfl (lv_at hl 0 rfl) ?_
      refine zw_getR F Z zC10 (a := 68) (k := 2) (by decide) zs_68 (by decide) rfl zg_68_2 zq399 (Or.inl rfl) dX10_gainOf_22 ?_
      refine zw_getR F Z zC8 (a := 27) (k := 7) (by decide) zs_27 (by decide) rfl zg_27_7 zq245 (Or.inl rfl) dX10_gainOf_25 ?_
      refine lv_iload_n hx hb dX10_gainOf_28 rfl (lv_at hl 1 rfl) ?_
      obtain ⟨hk29, h⟩ := ck_x h
      refine zw_iald F Z (by decide) zs_30 hk29 dX10_gainOf_29 ?_
      refine lv_isub hx hb dX10_gainOf_30 ?_
      have hq := Option.some.inj h
      exact ze_i F Z hr hlocks hq rfl dX10_gainOf_31
    · exact hj10  _ _ _ Z (lv_sub hl [] rfl) h
set_option maxHeartbeats 4000000 in
set_option maxRecDepth 100000 in
theorem zcX10_gainOfAll (l : Launch) (D : va_G) (A0 : Nat) (σ : Mm) (r0 : Int32) (h : zfX10_gainOfAll σ = some r0) : Met l yX10_gainOfAll (zws yX10_gainOfAll cX10_gainOfAll 3 (some .int)) (zR 1 21) (zPc D A0 σ GF 740 [.ref (A0 + 68)]) (zQi D A0 r0 σ GF 740) 0 0 (zA A0) := by
  unfold zfX10_gainOfAll at h
  refine zmet (own := RX10) (by decide) rfl (Nat.le_of_ble_eq_true rfl) ?_
  intro p e s m below meth c F hr hlocks _ Z ls hl
  have hl : lv_has ls 3 [(0, .ref (A0 + 68))] := hl
  have hx := F.1.1
  have hb := F.1.2.1
  have hown := F.1.2.2.2.1
  have hts := F.1.2.2.2.2
  refine lv_iconst (v := 0) hx hb dX10_gainOfAll_0 (by decide) ?_
  refine lv_istore_n (lv' := [(1, .int 0), (0, .ref (A0 + 68))]) hx hb dX10_gainOfAll_1 rfl hl (by decide) rfl (fun ls hl => ?_)
  refine lv_iconst (v := 0) hx hb dX10_gainOfAll_2 (by decide) ?_
  refine lv_istore_n (lv' := [(2, .int 0), (1, .int 0), (0, .ref (A0 + 68))]) hx hb dX10_gainOfAll_3 rfl hl (by decide) rfl (fun ls hl => ?_)
  obtain ⟨k29, ek29, h⟩ := lt_x h
  have hk29 : ∀ (x1_29 : Int32) (H : Heap) (locs : List Loc) (ls : Array Slot), zh D A0 σ GF 740 s.heap H locs → lv_has ls 3 [(1, .int x1_29)] → k29 x1_29 = some r0 → W p l e (zR 1 21) s m [.ref (A0 + 68)].toArray below meth c H locs 0 0 (MQ below (zQi D A0 r0 σ GF 740) [.ref (A0 + 68)].toArray s 0 0 (zA A0)) (F0 m 29 ls []) := by
    intro x1_29 H locs ls Z hl h
    rw [ek29] at h
    try dsimp only at h
    refine lv_iload_n hx hb dX10_gainOfAll_29 rfl (lv_at hl 0 rfl) ?_
    have hq := Option.some.inj h
    exact ze_i F Z hr hlocks hq rfl dX10_gainOfAll_30
  have hL4 : ∀ (fu4 : Nat) (x1_4 : Int32) (x2_4 : Int32) (H : Heap) (locs : List Loc) (ls : Array Slot), zh D A0 σ GF 740 s.heap H locs → lv_has ls 3 [(0, .ref (A0 + 68)), (1, .int x1_4), (2, .int x2_4)] → zfX10_gainOfAll_L4 σ k29 fu4 x1_4 x2_4 = some r0 → W p l e (zR 1 21) s m [.ref (A0 + 68)].toArray below meth c H locs 0 0 (MQ below (zQi D A0 r0 σ GF 740) [.ref (A0 + 68)].toArray s 0 0 (zA A0)) (F0 m 4 ls []) := by
    intro fu4
    induction fu4 with
    | zero => intro x1_4 x2_4 H locs ls Z hl h; rw [zfX10_gainOfAll_L4] at h; cases h
    | succ fu4 ih4 =>
      intro x1_4 x2_4 H locs ls Z hl h
      rw [zfX10_gainOfAll_L4] at h
      refine lv_iload_n hx hb dX10_gainOfAll_4 rfl (lv_at hl 2 rfl) ?_
      refine lv_aload_n hx hb dX10_gainOfAll_5 rfl (lv_at hl 0 rfl) ?_
      refine zw_getR F Z zC10 (a := 68) (k := 0) (by decide) zs_68 (by decide) rfl zg_68_0 zq397 (Or.inl rfl) dX10_gainOfAll_6 ?_
      refine zw_getI F Z zC0 (a := 3) (k := 0) (by decide) zs_3 (by decide) rfl zq133 (Or.inl rfl) dX10_gainOfAll_9 ?_
      refine zb_icge (tgt := 29) hx hb dX10_gainOfAll_12 (by decide) h (fun h => ?_) (fun h => ?_)
      · exact hk29 x1_4 _ _ _ Z (lv_sub hl [1] rfl) h
      · refine lv_iload_n hx hb dX10_gainOfAll_15 rfl (lv_at hl 1 rfl) ?_
        refine lv_aload_n hx hb dX10_gainOfAll_16 rfl (lv_at hl 0 rfl) ?_
        refine lv_iload_n hx hb dX10_gainOfAll_17 rfl (lv_at hl 2 rfl) ?_
        obtain ⟨r18, hc18, h⟩ := bd_x h
        refine zc_i Z (zr_V F Z (a := 68) (As := [.int x2_4]) (zcX10_gainOf l D A0 x2_4 σ r18 hc18) zBX10_gainOf zq1054 (by decide) zs_68 zC10.1 rfl ⟨⟨rfl, rfl⟩, Nat.le_of_ble_eq_true rfl, Nat.le_of_ble_eq_true rfl⟩ hl.1 rfl (Nat.le_of_ble_eq_true rfl) dX10_gainOfAll_18 ⟨Nat.le_of_ble_eq_true rfl, Nat.le_of_ble_eq_true rfl⟩) (fun _ _ Z => ?_)
        refine lv_iadd hx hb dX10_gainOfAll_21 ?_
        refine lv_topi (fun x1_22 ex1_22 => ?_)
        replace h := lt_w h ex1_22
        refine lv_istore_n (lv' := [(1, .int x1_22), (0, .ref (A0 + 68)), (2, .int x2_4)]) hx hb dX10_gainOfAll_22 rfl hl (by decide) rfl (fun ls hl => ?_)
        obtain ⟨x2_23, ex2_23⟩ : ∃ y : Int32, y = x2_4 + 1 := ⟨_, rfl⟩
        replace h := lt_w h ex2_23
        refine lv_iinc (v := x2_23) (lv' := [(2, .int x2_23), (1, .int x1_22), (0, .ref (A0 + 68))]) hx hb dX10_gainOfAll_23 hl (k := 2) rfl (by rw [ex2_23]; rfl) (by decide) rfl (fun ls hl => ?_)
        refine lv_goto (tgt := 4) hx hb dX10_gainOfAll_26 (by decide) ?_
        exact ih4 x1_22 x2_23 _ _ _ Z (lv_sub hl [2, 1, 0] rfl) h
  exact hL4 NF 0 0 _ _ _ Z (lv_sub hl [2, 1, 0] rfl) h
set_option maxHeartbeats 4000000 in
set_option maxRecDepth 100000 in
theorem zcX11_fool (l : Launch) (D : va_G) (A0 : Nat) (x1 : Int32) (x2 : Int32) (x3 : Int32) (σ : Mm) (r0 : Int32) (σr : Mm) (h : zfX11_fool x1 x2 x3 σ = some (r0, σr)) : Met l yX11_fool (zws yX11_fool cX11_fool 8 (some .int)) (zR 7 179) (zPc D A0 σ GF 740 [.ref (A0 + 0), .int x1, .int x2, .int x3]) (zQi D A0 r0 σr GF 740) 0 0 (zA A0) := by
  unfold zfX11_fool at h
  refine zmet (own := RX11) (by decide) rfl (Nat.le_of_ble_eq_true rfl) ?_
  intro p e s m below meth c F hr hlocks _ Z ls hl
  have hl : lv_has ls 8 [(0, .ref (A0 + 0)), (1, .int x1), (2, .int x2), (3, .int x3)] := hl
  have hx := F.1.1
  have hb := F.1.2.1
  have hown := F.1.2.2.2.1
  have hts := F.1.2.2.2.2
  refine lv_aload_n hx hb dX11_fool_0 rfl (lv_at hl 0 rfl) ?_
  refine lv_iload_n hx hb dX11_fool_1 rfl (lv_at hl 1 rfl) ?_
  refine zc_i Z (zr_V F Z (a := 0) (As := [.int x1]) (zcX11_isSeller l D A0 x1 σ (zfX11_isSeller x1 σ) rfl) zBX11_isSeller zq826 (by decide) zs_0 zC11.1 rfl ⟨⟨rfl, rfl⟩, Nat.le_of_ble_eq_true rfl, Nat.le_of_ble_eq_true rfl⟩ hl.1 rfl (Nat.le_of_ble_eq_true rfl) dX11_fool_2 ⟨Nat.le_of_ble_eq_true rfl, Nat.le_of_ble_eq_true rfl⟩) (fun _ _ Z => ?_)
  obtain ⟨j24, ej24, h⟩ := lt_x h
  have hj24 : ∀ (σ24 : Mm) (H : Heap) (locs : List Loc) (ls : Array Slot), zh D A0 σ24 GF 740 s.heap H locs → lv_has ls 8 [] → j24 σ24 = some (r0, σr) → W p l e (zR 7 179) s m [.ref (A0 + 0), .int x1, .int x2, .int x3].toArray below meth c H locs 0 0 (MQ below (zQi D A0 r0 σr GF 740) [.ref (A0 + 0), .int x1, .int x2, .int x3].toArray s 0 0 (zA A0)) (F0 m 24 ls []) := by
    intro  σ24 H locs ls Z hl h
    rw [ej24] at h
    try dsimp only at h
    refine lv_ldc (v := (-1000000)) hx hb hown (hts _ zq1001) dX11_fool_24 ?_
    obtain ⟨hq1, hq2⟩ := zpq h
    exact ze_i F Z hr hlocks hq1 hq2 dX11_fool_26
  refine zb_ifeq (tgt := 24) hx hb dX11_fool_5 (by decide) h (fun h => ?_) (fun h => ?_)
  · exact hj24 σ _ _ _ Z (lv_sub hl [] rfl) h
  · refine lv_aload_n hx hb dX11_fool_8 rfl (lv_at hl 0 rfl) ?_
    refine lv_iload_n hx hb dX11_fool_9 rfl (lv_at hl 2 rfl) ?_
    refine zc_i Z (zr_V F Z (a := 0) (As := [.int x2]) (zcX11_noDays l D A0 x2 σ (zfX11_noDays x2 σ) rfl) zBX11_noDays zq854 (by decide) zs_0 zC11.1 rfl ⟨⟨rfl, rfl⟩, Nat.le_of_ble_eq_true rfl, Nat.le_of_ble_eq_true rfl⟩ hl.1 rfl (Nat.le_of_ble_eq_true rfl) dX11_fool_10 ⟨Nat.le_of_ble_eq_true rfl, Nat.le_of_ble_eq_true rfl⟩) (fun _ _ Z => ?_)
    refine zb_ifne (tgt := 24) hx hb dX11_fool_13 (by decide) h (fun h => ?_) (fun h => ?_)
    · exact hj24 σ _ _ _ Z (lv_sub hl [] rfl) h
    · refine lv_iload_n hx hb dX11_fool_16 rfl (lv_at hl 3 rfl) ?_
      refine lv_iconst (v := 1) hx hb dX11_fool_17 (by decide) ?_
      refine zc_i Z (zr_S F Z (As := [.int x3, .int 1]) (zcX11_noWhat l D A0 x3 1 σ (zfX11_noWhat x3 1) rfl) zBX11_noWhat zq971 rfl ⟨⟨rfl, rfl⟩, Nat.le_of_ble_eq_true rfl, Nat.le_of_ble_eq_true rfl⟩ hl.1 rfl (Nat.le_of_ble_eq_true rfl) dX11_fool_18 ⟨Nat.le_of_ble_eq_true rfl, Nat.le_of_ble_eq_true rfl⟩) (fun _ _ Z => ?_)
      refine zb_ifeq (tgt := 27) hx hb dX11_fool_21 (by decide) h (fun h => ?_) (fun h => ?_)
      · refine lv_aload_n hx hb dX11_fool_27 rfl (lv_at hl 0 rfl) ?_
        refine zw_getR F Z zC11 (a := 0) (k := 10) (by decide) zs_0 (by decide) rfl zg_0_10 zq544 (Or.inl rfl) dX11_fool_28 ?_
        refine lv_iload_n hx hb dX11_fool_31 rfl (lv_at hl 1 rfl) ?_
        refine lv_iconst (v := 1) hx hb dX11_fool_32 (by decide) ?_
        obtain ⟨σ33, hc33, h⟩ := bd_x h
        refine zc_v Z (zr_V F Z (a := 68) (As := [.int x1, .int 1]) (zcX10_beginHolding l D A0 x1 1 σ σ33 hc33) zBX10_beginHolding zq1040 (by decide) zs_68 zC10.1 rfl ⟨⟨rfl, rfl⟩, Nat.le_of_ble_eq_true rfl, Nat.le_of_ble_eq_true rfl⟩ hl.1 rfl (Nat.le_of_ble_eq_true rfl) dX11_fool_33 ⟨Nat.le_of_ble_eq_true rfl, Nat.le_of_ble_eq_true rfl⟩) (fun _ _ Z => ?_)
        refine lv_aload_n hx hb dX11_fool_36 rfl (lv_at hl 0 rfl) ?_
        refine zw_getR F Z zC11 (a := 0) (k := 10) (by decide) zs_0 (by decide) rfl zg_0_10 zq544 (Or.inl rfl) dX11_fool_37 ?_
        refine lv_iload_n hx hb dX11_fool_40 rfl (lv_at hl 2 rfl) ?_
        obtain ⟨σ41, hc41, h⟩ := bd_x h
        refine zc_v Z (zr_V F Z (a := 68) (As := [.int x2]) (zcX10_pass l D A0 x2 σ33 σ41 hc41) zBX10_pass zq943 (by decide) zs_68 zC10.1 rfl ⟨⟨rfl, rfl⟩, Nat.le_of_ble_eq_true rfl, Nat.le_of_ble_eq_true rfl⟩ hl.1 rfl (Nat.le_of_ble_eq_true rfl) dX11_fool_41 ⟨Nat.le_of_ble_eq_true rfl, Nat.le_of_ble_eq_true rfl⟩) (fun _ _ Z => ?_)
        refine lv_aload_n hx hb dX11_fool_44 rfl (lv_at hl 0 rfl) ?_
        refine zw_getR F Z zC11 (a := 0) (k := 10) (by decide) zs_0 (by decide) rfl zg_0_10 zq544 (Or.inl rfl) dX11_fool_45 ?_
        refine lv_iload_n hx hb dX11_fool_48 rfl (lv_at hl 1 rfl) ?_
        obtain ⟨r49, hc49, h⟩ := bd_x h
        refine zc_i Z (zr_V F Z (a := 68) (As := [.int x1]) (zcX10_gainOf l D A0 x1 σ41 r49 hc49) zBX10_gainOf zq1046 (by decide) zs_68 zC10.1 rfl ⟨⟨rfl, rfl⟩, Nat.le_of_ble_eq_true rfl, Nat.le_of_ble_eq_true rfl⟩ hl.1 rfl (Nat.le_of_ble_eq_true rfl) dX11_fool_49 ⟨Nat.le_of_ble_eq_true rfl, Nat.le_of_ble_eq_true rfl⟩) (fun _ _ Z => ?_)
        refine lv_istore (lv' := [(4, .int r49), (0, .ref (A0 + 0)), (1, .int x1), (2, .int x2), (3, .int x3)]) hx hb dX11_fool_52 hl (by decide) rfl (fun ls hl => ?_)
        refine lv_aload_n hx hb dX11_fool_54 rfl (lv_at hl 1 rfl) ?_
        refine zw_getR F Z zC11 (a := 0) (k := 10) (by decide) zs_0 (by decide) rfl zg_0_10 zq544 (Or.inl rfl) dX11_fool_55 ?_
        obtain ⟨r58, hc58, h⟩ := bd_x h
        refine zc_i Z (zr_V F Z (a := 68) (As := []) (zcX10_gainOfAll l D A0 σ41 r58 hc58) zBX10_gainOfAll zq1050 (by decide) zs_68 zC10.1 rfl ⟨⟨rfl, rfl⟩, Nat.le_of_ble_eq_true rfl, Nat.le_of_ble_eq_true rfl⟩ hl.1 rfl (Nat.le_of_ble_eq_true rfl) dX11_fool_58 ⟨Nat.le_of_ble_eq_true rfl, Nat.le_of_ble_eq_true rfl⟩) (fun _ _ Z => ?_)
        refine lv_iload hx hb dX11_fool_61 (lv_at hl 0 rfl) ?_
        refine lv_isub hx hb dX11_fool_63 ?_
        refine lv_topi (fun x5_64 ex5_64 => ?_)
        replace h := lt_w h ex5_64
        refine lv_istore (lv' := [(5, .int x5_64), (4, .int r49), (0, .ref (A0 + 0)), (1, .int x1), (2, .int x2), (3, .int x3)]) hx hb dX11_fool_64 hl (by decide) rfl (fun ls hl => ?_)
        refine lv_aload_n hx hb dX11_fool_66 rfl (lv_at hl 2 rfl) ?_
        refine zw_getR F Z zC11 (a := 0) (k := 10) (by decide) zs_0 (by decide) rfl zg_0_10 zq544 (Or.inl rfl) dX11_fool_67 ?_
        refine lv_iload_n hx hb dX11_fool_70 rfl (lv_at hl 3 rfl) ?_
        refine lv_iconst (v := 0) hx hb dX11_fool_71 (by decide) ?_
        obtain ⟨σ72, hc72, h⟩ := bd_x h
        refine zc_v Z (zr_V F Z (a := 68) (As := [.int x1, .int 0]) (zcX10_beginHolding l D A0 x1 0 σ41 σ72 hc72) zBX10_beginHolding zq1040 (by decide) zs_68 zC10.1 rfl ⟨⟨rfl, rfl⟩, Nat.le_of_ble_eq_true rfl, Nat.le_of_ble_eq_true rfl⟩ hl.1 rfl (Nat.le_of_ble_eq_true rfl) dX11_fool_72 ⟨Nat.le_of_ble_eq_true rfl, Nat.le_of_ble_eq_true rfl⟩) (fun _ _ Z => ?_)
        refine lv_aload_n hx hb dX11_fool_75 rfl (lv_at hl 2 rfl) ?_
        refine zw_getR F Z zC11 (a := 0) (k := 10) (by decide) zs_0 (by decide) rfl zg_0_10 zq544 (Or.inl rfl) dX11_fool_76 ?_
        refine lv_iload_n hx hb dX11_fool_79 rfl (lv_at hl 4 rfl) ?_
        obtain ⟨σ80, hc80, h⟩ := bd_x h
        refine zc_v Z (zr_V F Z (a := 68) (As := [.int x2]) (zcX10_pass l D A0 x2 σ72 σ80 hc80) zBX10_pass zq943 (by decide) zs_68 zC10.1 rfl ⟨⟨rfl, rfl⟩, Nat.le_of_ble_eq_true rfl, Nat.le_of_ble_eq_true rfl⟩ hl.1 rfl (Nat.le_of_ble_eq_true rfl) dX11_fool_80 ⟨Nat.le_of_ble_eq_true rfl, Nat.le_of_ble_eq_true rfl⟩) (fun _ _ Z => ?_)
        refine lv_aload_n hx hb dX11_fool_83 rfl (lv_at hl 2 rfl) ?_
        refine zw_getR F Z zC11 (a := 0) (k := 10) (by decide) zs_0 (by decide) rfl zg_0_10 zq544 (Or.inl rfl) dX11_fool_84 ?_
        refine lv_iload_n hx hb dX11_fool_87 rfl (lv_at hl 3 rfl) ?_
        obtain ⟨r88, hc88, h⟩ := bd_x h
        refine zc_i Z (zr_V F Z (a := 68) (As := [.int x1]) (zcX10_gainOf l D A0 x1 σ80 r88 hc88) zBX10_gainOf zq1046 (by decide) zs_68 zC10.1 rfl ⟨⟨rfl, rfl⟩, Nat.le_of_ble_eq_true rfl, Nat.le_of_ble_eq_true rfl⟩ hl.1 rfl (Nat.le_of_ble_eq_true rfl) dX11_fool_88 ⟨Nat.le_of_ble_eq_true rfl, Nat.le_of_ble_eq_true rfl⟩) (fun _ _ Z => ?_)
        refine lv_istore (lv' := [(6, .int r88), (5, .int x5_64), (4, .int r49), (0, .ref (A0 + 0)), (1, .int x1), (2, .int x2), (3, .int x3)]) hx hb dX11_fool_91 hl (by decide) rfl (fun ls hl => ?_)
        refine lv_aload_n hx hb dX11_fool_93 rfl (lv_at hl 3 rfl) ?_
        refine zw_getR F Z zC11 (a := 0) (k := 10) (by decide) zs_0 (by decide) rfl zg_0_10 zq544 (Or.inl rfl) dX11_fool_94 ?_
        obtain ⟨r97, hc97, h⟩ := bd_x h
        refine zc_i Z (zr_V F Z (a := 68) (As := []) (zcX10_gainOfAll l D A0 σ80 r97 hc97) zBX10_gainOfAll zq1050 (by decide) zs_68 zC10.1 rfl ⟨⟨rfl, rfl⟩, Nat.le_of_ble_eq_true rfl, Nat.le_of_ble_eq_true rfl⟩ hl.1 rfl (Nat.le_of_ble_eq_true rfl) dX11_fool_97 ⟨Nat.le_of_ble_eq_true rfl, Nat.le_of_ble_eq_true rfl⟩) (fun _ _ Z => ?_)
        refine lv_iload hx hb dX11_fool_100 (lv_at hl 0 rfl) ?_
        refine lv_isub hx hb dX11_fool_102 ?_
        refine lv_topi (fun x7_103 ex7_103 => ?_)
        replace h := lt_w h ex7_103
        refine lv_istore (lv' := [(7, .int x7_103), (6, .int r88), (5, .int x5_64), (4, .int r49), (0, .ref (A0 + 0)), (1, .int x1), (2, .int x2), (3, .int x3)]) hx hb dX11_fool_103 hl (by decide) rfl (fun ls hl => ?_)
        refine lv_iload_n hx hb dX11_fool_105 rfl (lv_at hl 7 rfl) ?_
        refine zb_ifne (tgt := 117) hx hb dX11_fool_106 (by decide) h (fun h => ?_) (fun h => ?_)
        · refine lv_iload hx hb dX11_fool_117 (lv_at hl 2 rfl) ?_
          refine lv_iload hx hb dX11_fool_119 (lv_at hl 0 rfl) ?_
          refine lv_isub hx hb dX11_fool_121 ?_
          obtain ⟨hq1, hq2⟩ := zpq h
          exact ze_i F Z hr hlocks hq1 hq2 dX11_fool_122
        · refine lv_iload hx hb dX11_fool_109 (lv_at hl 1 rfl) ?_
          refine lv_iload hx hb dX11_fool_111 (lv_at hl 3 rfl) ?_
          refine lv_isub hx hb dX11_fool_113 ?_
          refine lv_goto (tgt := 122) hx hb dX11_fool_114 (by decide) ?_
          obtain ⟨hq1, hq2⟩ := zpq h
          exact ze_i F Z hr hlocks hq1 hq2 dX11_fool_122
      · exact hj24 σ _ _ _ Z (lv_sub hl [] rfl) h
