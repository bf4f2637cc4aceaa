set_option maxHeartbeats 4000000 in
set_option maxRecDepth 100000 in
theorem zl_0 {p : Program} {l : Launch} {e : Env} {s : State} {m : MethodId} {below : List Frame} {meth : Method} {c : Code} {b L A0 : Nat} {xs : Nat → Int32} {D : va_G} (F : zx p s m c cL_law 7 #[Value.ref b] RL D A0) (hX : va_X b L xs s s.heap) (hbl : b < s.heap.size) (hbA : ¬ zA A0 b) (hL : L ≤ 3072) {t : Nat} (ht : 6 * t + 6 ≤ L) {ce sl : Nat} (hce : ce + 1 ≤ 601024) (hsl : sl + 6 ≤ 7293034) {σ : Mm} {H : Heap} {locs : List Loc} (Z : zh D A0 σ GF 740 s.heap H locs) (hI : Iv (31 * t) σ) {ls : Array Slot} (hl : lv_has ls 7 [(0, .ref b), (1, .ref (A0 + 0)), (2, .ref (A0 + 703)), (3, .ref (A0 + 739)), (4, .int (nI (6 * t)))]) {Q : State → Prop}
    (kk : ∀ (H1 : Heap) (locs1 : List Loc) (σ1 : Mm), zh D A0 σ1 GF 740 s.heap H1 locs1 → Iv (31 * (t + 1)) σ1 → ∀ ls, lv_has ls 7 [(0, .ref b), (1, .ref (A0 + 0)), (2, .ref (A0 + 703)), (3, .ref (A0 + 739)), (4, .int (nI (6 * t)))] → W p l e room_1 s m #[Value.ref b] below meth c H1 locs1 (ce + 1) (sl + 6) Q (F0 m 1498 ls [])) : W p l e room_1 s m #[Value.ref b] below meth c H locs ce sl Q (F0 m 196 ls []) := by
  have hx := F.1.1
  have hb := F.1.2.1
  have hown := F.1.2.2.2.1
  have hts := F.1.2.2.2.2
  obtain ⟨a, ha, b2, hb2, e2, hI2⟩ := q_feed (B := 31 * t) (xs (nI (6 * t) + 1).toNatClampNeg) (xs (nI (6 * t) + 2).toNatClampNeg) (xs (nI (6 * t) + 3).toNatClampNeg) (xs (nI (6 * t) + 4).toNatClampNeg) (xs (nI (6 * t) + 5).toNatClampNeg) σ hI
  have hI3 : Iv (31 * (t + 1)) b2.2 := by rw [Nat.mul_succ]; exact hI2
  refine lv_aload_n hx hb dL_law_196 rfl (lv_at hl 1 rfl) ?_
  refine lv_aload_n hx hb dL_law_197 rfl (lv_at hl 0 rfl) ?_
  refine lv_iload hx hb dL_law_198 (lv_at hl 4 rfl) ?_
  refine lv_iconst (v := 1) hx hb dL_law_200 (by decide) ?_
  refine lv_iadd hx hb dL_law_201 ?_
  refine va_sld hx hb hX hbl hbA Z.2 (zl_in (k := 1) rfl (by decide) ht hL) dL_law_202 ?_
  refine lv_aload_n hx hb dL_law_203 rfl (lv_at hl 0 rfl) ?_
  refine lv_iload hx hb dL_law_204 (lv_at hl 4 rfl) ?_
  refine lv_iconst (v := 2) hx hb dL_law_206 (by decide) ?_
  refine lv_iadd hx hb dL_law_207 ?_
  refine va_sld hx hb hX hbl hbA Z.2 (zl_in (k := 2) rfl (by decide) ht hL) dL_law_208 ?_
  refine lv_aload_n hx hb dL_law_209 rfl (lv_at hl 0 rfl) ?_
  refine lv_iload hx hb dL_law_210 (lv_at hl 4 rfl) ?_
  refine lv_iconst (v := 3) hx hb dL_law_212 (by decide) ?_
  refine lv_iadd hx hb dL_law_213 ?_
  refine va_sld hx hb hX hbl hbA Z.2 (zl_in (k := 3) rfl (by decide) ht hL) dL_law_214 ?_
  refine lv_aload_n hx hb dL_law_215 rfl (lv_at hl 0 rfl) ?_
  refine lv_iload hx hb dL_law_216 (lv_at hl 4 rfl) ?_
  refine lv_iconst (v := 4) hx hb dL_law_218 (by decide) ?_
  refine lv_iadd hx hb dL_law_219 ?_
  refine va_sld hx hb hX hbl hbA Z.2 (zl_in (k := 4) rfl (by decide) ht hL) dL_law_220 ?_
  refine lv_aload_n hx hb dL_law_221 rfl (lv_at hl 0 rfl) ?_
  refine lv_iload hx hb dL_law_222 (lv_at hl 4 rfl) ?_
  refine lv_iconst (v := 5) hx hb dL_law_224 (by decide) ?_
  refine lv_iadd hx hb dL_law_225 ?_
  refine va_sld hx hb hX hbl hbA Z.2 (zl_in (k := 5) rfl (by decide) ht hL) dL_law_226 ?_
  refine zc_i Z (zr_V F Z (a := 0) (As := [.int (xs (nI (6 * t) + 1).toNatClampNeg), .int (xs (nI (6 * t) + 2).toNatClampNeg), .int (xs (nI (6 * t) + 3).toNatClampNeg), .int (xs (nI (6 * t) + 4).toNatClampNeg), .int (xs (nI (6 * t) + 5).toNatClampNeg)]) (zcX11_feed l D A0 (xs (nI (6 * t) + 1).toNatClampNeg) (xs (nI (6 * t) + 2).toNatClampNeg) (xs (nI (6 * t) + 3).toNatClampNeg) (xs (nI (6 * t) + 4).toNatClampNeg) (xs (nI (6 * t) + 5).toNatClampNeg) σ a.1 a.2 ha) zBX11_feed zq586 (by decide) zs_0 zC11.1 rfl ⟨⟨rfl, rfl⟩, Nat.le_of_ble_eq_true rfl, Nat.le_of_ble_eq_true rfl⟩ hl.1 rfl (Nat.le_of_ble_eq_true rfl) dL_law_227 (zr0 hce hsl)) (fun _ _ Z => ?_)
  refine lv_aload_n hx hb dL_law_230 rfl (lv_at hl 2 rfl) ?_
  refine lv_aload_n hx hb dL_law_231 rfl (lv_at hl 0 rfl) ?_
  refine lv_iload hx hb dL_law_232 (lv_at hl 4 rfl) ?_
  refine lv_iconst (v := 1) hx hb dL_law_234 (by decide) ?_
  refine lv_iadd hx hb dL_law_235 ?_
  refine va_sld hx hb hX hbl hbA Z.2 (zl_in (k := 1) rfl (by decide) ht hL) dL_law_236 ?_
  refine lv_aload_n hx hb dL_law_237 rfl (lv_at hl 0 rfl) ?_
  refine lv_iload hx hb dL_law_238 (lv_at hl 4 rfl) ?_
  refine lv_iconst (v := 2) hx hb dL_law_240 (by decide) ?_
  refine lv_iadd hx hb dL_law_241 ?_
  refine va_sld hx hb hX hbl hbA Z.2 (zl_in (k := 2) rfl (by decide) ht hL) dL_law_242 ?_
  refine lv_aload_n hx hb dL_law_243 rfl (lv_at hl 0 rfl) ?_
  refine lv_iload hx hb dL_law_244 (lv_at hl 4 rfl) ?_
  refine lv_iconst (v := 3) hx hb dL_law_246 (by decide) ?_
  refine lv_iadd hx hb dL_law_247 ?_
  refine va_sld hx hb hX hbl hbA Z.2 (zl_in (k := 3) rfl (by decide) ht hL) dL_law_248 ?_
  refine lv_aload_n hx hb dL_law_249 rfl (lv_at hl 0 rfl) ?_
  refine lv_iload hx hb dL_law_250 (lv_at hl 4 rfl) ?_
  refine lv_iconst (v := 4) hx hb dL_law_252 (by decide) ?_
  refine lv_iadd hx hb dL_law_253 ?_
  refine va_sld hx hb hX hbl hbA Z.2 (zl_in (k := 4) rfl (by decide) ht hL) dL_law_254 ?_
  refine lv_aload_n hx hb dL_law_255 rfl (lv_at hl 0 rfl) ?_
  refine lv_iload hx hb dL_law_256 (lv_at hl 4 rfl) ?_
  refine lv_iconst (v := 5) hx hb dL_law_258 (by decide) ?_
  refine lv_iadd hx hb dL_law_259 ?_
  refine va_sld hx hb hX hbl hbA Z.2 (zl_in (k := 5) rfl (by decide) ht hL) dL_law_260 ?_
  refine zc_i Z (zr_V F Z (a := 703) (As := [.int (xs (nI (6 * t) + 1).toNatClampNeg), .int (xs (nI (6 * t) + 2).toNatClampNeg), .int (xs (nI (6 * t) + 3).toNatClampNeg), .int (xs (nI (6 * t) + 4).toNatClampNeg), .int (xs (nI (6 * t) + 5).toNatClampNeg)]) (zcX12_feed l D A0 (xs (nI (6 * t) + 1).toNatClampNeg) (xs (nI (6 * t) + 2).toNatClampNeg) (xs (nI (6 * t) + 3).toNatClampNeg) (xs (nI (6 * t) + 4).toNatClampNeg) (xs (nI (6 * t) + 5).toNatClampNeg) _ b2.1 b2.2 hb2) zBX12_feed zq1477 (by decide) zs_703 zC12.1 rfl ⟨⟨rfl, rfl⟩, Nat.le_of_ble_eq_true rfl, Nat.le_of_ble_eq_true rfl⟩ hl.1 rfl (Nat.le_of_ble_eq_true rfl) dL_law_261 (zr0 hce hsl)) (fun _ _ Z => ?_)
  refine lv_icmp_eq (tgt := 1498) hx hb dL_law_264 (by decide) (fun _ => ?_) (fun h9 => absurd e2.symm h9)
  refine W.widen (k := ce + 1) (n := sl + 6) (by omega) (by omega) ?_
  exact kk _ _ _ Z hI3 _ hl
set_option maxHeartbeats 4000000 in
set_option maxRecDepth 100000 in
theorem zl_1 {p : Program} {l : Launch} {e : Env} {s : State} {m : MethodId} {below : List Frame} {meth : Method} {c : Code} {b L A0 : Nat} {xs : Nat → Int32} {D : va_G} (F : zx p s m c cL_law 7 #[Value.ref b] RL D A0) (hX : va_X b L xs s s.heap) (hbl : b < s.heap.size) (hbA : ¬ zA A0 b) (hL : L ≤ 3072) {t : Nat} (ht : 6 * t + 6 ≤ L) {ce sl : Nat} (hce : ce + 1 ≤ 601024) (hsl : sl + 6 ≤ 7293034) {σ : Mm} {H : Heap} {locs : List Loc} (Z : zh D A0 σ GF 740 s.heap H locs) (hI : Iv (31 * t) σ) {ls : Array Slot} (hl : lv_has ls 7 [(0, .ref b), (1, .ref (A0 + 0)), (2, .ref (A0 + 703)), (3, .ref (A0 + 739)), (4, .int (nI (6 * t)))]) {Q : State → Prop}
    (kk : ∀ (H1 : Heap) (locs1 : List Loc) (σ1 : Mm), zh D A0 σ1 GF 740 s.heap H1 locs1 → Iv (31 * (t + 1)) σ1 → ∀ ls, lv_has ls 7 [(0, .ref b), (1, .ref (A0 + 0)), (2, .ref (A0 + 703)), (3, .ref (A0 + 739)), (4, .int (nI (6 * t)))] → W p l e room_1 s m #[Value.ref b] below meth c H1 locs1 (ce + 1) (sl + 6) Q (F0 m 1498 ls [])) : W p l e room_1 s m #[Value.ref b] below meth c H locs ce sl Q (F0 m 269 ls []) := by
  have hx := F.1.1
  have hb := F.1.2.1
  have hown := F.1.2.2.2.1
  have hts := F.1.2.2.2.2
  obtain ⟨a, ha, b2, hb2, e2, hI2⟩ := q_end (B := 31 * t) (xs (nI (6 * t) + 1).toNatClampNeg) σ hI
  have hI3 : Iv (31 * (t + 1)) b2.2 := by rw [Nat.mul_succ]; exact hI2
  refine lv_aload_n hx hb dL_law_269 rfl (lv_at hl 1 rfl) ?_
  refine lv_aload_n hx hb dL_law_270 rfl (lv_at hl 0 rfl) ?_
  refine lv_iload hx hb dL_law_271 (lv_at hl 4 rfl) ?_
  refine lv_iconst (v := 1) hx hb dL_law_273 (by decide) ?_
  refine lv_iadd hx hb dL_law_274 ?_
  refine va_sld hx hb hX hbl hbA Z.2 (zl_in (k := 1) rfl (by decide) ht hL) dL_law_275 ?_
  refine zc_i Z (zr_V F Z (a := 0) (As := [.int (xs (nI (6 * t) + 1).toNatClampNeg)]) (zcX11_end l D A0 (xs (nI (6 * t) + 1).toNatClampNeg) σ a.1 a.2 ha) zBX11_end zq597 (by decide) zs_0 zC11.1 rfl ⟨⟨rfl, rfl⟩, Nat.le_of_ble_eq_true rfl, Nat.le_of_ble_eq_true rfl⟩ hl.1 rfl (Nat.le_of_ble_eq_true rfl) dL_law_276 (zr0 hce hsl)) (fun _ _ Z => ?_)
  refine lv_aload_n hx hb dL_law_279 rfl (lv_at hl 2 rfl) ?_
  refine lv_aload_n hx hb dL_law_280 rfl (lv_at hl 0 rfl) ?_
  refine lv_iload hx hb dL_law_281 (lv_at hl 4 rfl) ?_
  refine lv_iconst (v := 1) hx hb dL_law_283 (by decide) ?_
  refine lv_iadd hx hb dL_law_284 ?_
  refine va_sld hx hb hX hbl hbA Z.2 (zl_in (k := 1) rfl (by decide) ht hL) dL_law_285 ?_
  refine zc_i Z (zr_V F Z (a := 703) (As := [.int (xs (nI (6 * t) + 1).toNatClampNeg)]) (zcX12_end l D A0 (xs (nI (6 * t) + 1).toNatClampNeg) _ b2.1 b2.2 hb2) zBX12_end zq1488 (by decide) zs_703 zC12.1 rfl ⟨⟨rfl, rfl⟩, Nat.le_of_ble_eq_true rfl, Nat.le_of_ble_eq_true rfl⟩ hl.1 rfl (Nat.le_of_ble_eq_true rfl) dL_law_286 (zr0 hce hsl)) (fun _ _ Z => ?_)
  refine lv_icmp_eq (tgt := 1498) hx hb dL_law_289 (by decide) (fun _ => ?_) (fun h9 => absurd e2.symm h9)
  refine W.widen (k := ce + 1) (n := sl + 6) (by omega) (by omega) ?_
  exact kk _ _ _ Z hI3 _ hl
set_option maxHeartbeats 4000000 in
set_option maxRecDepth 100000 in
theorem zl_2 {p : Program} {l : Launch} {e : Env} {s : State} {m : MethodId} {below : List Frame} {meth : Method} {c : Code} {b L A0 : Nat} {xs : Nat → Int32} {D : va_G} (F : zx p s m c cL_law 7 #[Value.ref b] RL D A0) (hX : va_X b L xs s s.heap) (hbl : b < s.heap.size) (hbA : ¬ zA A0 b) (hL : L ≤ 3072) {t : Nat} (ht : 6 * t + 6 ≤ L) {ce sl : Nat} (hce : ce + 1 ≤ 601024) (hsl : sl + 6 ≤ 7293034) {σ : Mm} {H : Heap} {locs : List Loc} (Z : zh D A0 σ GF 740 s.heap H locs) (hI : Iv (31 * t) σ) {ls : Array Slot} (hl : lv_has ls 7 [(0, .ref b), (1, .ref (A0 + 0)), (2, .ref (A0 + 703)), (3, .ref (A0 + 739)), (4, .int (nI (6 * t)))]) {Q : State → Prop}
    (kk : ∀ (H1 : Heap) (locs1 : List Loc) (σ1 : Mm), zh D A0 σ1 GF 740 s.heap H1 locs1 → Iv (31 * (t + 1)) σ1 → ∀ ls, lv_has ls 7 [(0, .ref b), (1, .ref (A0 + 0)), (2, .ref (A0 + 703)), (3, .ref (A0 + 739)), (4, .int (nI (6 * t)))] → W p l e room_1 s m #[Value.ref b] below meth c H1 locs1 (ce + 1) (sl + 6) Q (F0 m 1498 ls [])) : W p l e room_1 s m #[Value.ref b] below meth c H locs ce sl Q (F0 m 294 ls []) := by
  have hx := F.1.1
  have hb := F.1.2.1
  have hown := F.1.2.2.2.1
  have hts := F.1.2.2.2.2
  obtain ⟨a, ha, b2, hb2, e2, hI2⟩ := q_fault (B := 31 * t) (xs (nI (6 * t) + 1).toNatClampNeg) σ hI
  have hI3 : Iv (31 * (t + 1)) b2.2 := by rw [Nat.mul_succ]; exact hI2
  refine lv_aload_n hx hb dL_law_294 rfl (lv_at hl 1 rfl) ?_
  refine lv_aload_n hx hb dL_law_295 rfl (lv_at hl 0 rfl) ?_
  refine lv_iload hx hb dL_law_296 (lv_at hl 4 rfl) ?_
  refine lv_iconst (v := 1) hx hb dL_law_298 (by decide) ?_
  refine lv_iadd hx hb dL_law_299 ?_
  refine va_sld hx hb hX hbl hbA Z.2 (zl_in (k := 1) rfl (by decide) ht hL) dL_law_300 ?_
  refine zc_i Z (zr_V F Z (a := 0) (As := [.int (xs (nI (6 * t) + 1).toNatClampNeg)]) (zcX11_fault l D A0 (xs (nI (6 * t) + 1).toNatClampNeg) σ a.1 a.2 ha) zBX11_fault zq601 (by decide) zs_0 zC11.1 rfl ⟨⟨rfl, rfl⟩, Nat.le_of_ble_eq_true rfl, Nat.le_of_ble_eq_true rfl⟩ hl.1 rfl (Nat.le_of_ble_eq_true rfl) dL_law_301 (zr0 hce hsl)) (fun _ _ Z => ?_)
  refine lv_aload_n hx hb dL_law_304 rfl (lv_at hl 2 rfl) ?_
  refine lv_aload_n hx hb dL_law_305 rfl (lv_at hl 0 rfl) ?_
  refine lv_iload hx hb dL_law_306 (lv_at hl 4 rfl) ?_
  refine lv_iconst (v := 1) hx hb dL_law_308 (by decide) ?_
  refine lv_iadd hx hb dL_law_309 ?_
  refine va_sld hx hb hX hbl hbA Z.2 (zl_in (k := 1) rfl (by decide) ht hL) dL_law_310 ?_
  refine zc_i Z (zr_V F Z (a := 703) (As := [.int (xs (nI (6 * t) + 1).toNatClampNeg)]) (zcX12_fault l D A0 (xs (nI (6 * t) + 1).toNatClampNeg) _ b2.1 b2.2 hb2) zBX12_fault zq1492 (by decide) zs_703 zC12.1 rfl ⟨⟨rfl, rfl⟩, Nat.le_of_ble_eq_true rfl, Nat.le_of_ble_eq_true rfl⟩ hl.1 rfl (Nat.le_of_ble_eq_true rfl) dL_law_311 (zr0 hce hsl)) (fun _ _ Z => ?_)
  refine lv_icmp_eq (tgt := 1498) hx hb dL_law_314 (by decide) (fun _ => ?_) (fun h9 => absurd e2.symm h9)
  refine W.widen (k := ce + 1) (n := sl + 6) (by omega) (by omega) ?_
  exact kk _ _ _ Z hI3 _ hl
set_option maxHeartbeats 4000000 in
set_option maxRecDepth 100000 in
theorem zl_3 {p : Program} {l : Launch} {e : Env} {s : State} {m : MethodId} {below : List Frame} {meth : Method} {c : Code} {b L A0 : Nat} {xs : Nat → Int32} {D : va_G} (F : zx p s m c cL_law 7 #[Value.ref b] RL D A0) (hX : va_X b L xs s s.heap) (hbl : b < s.heap.size) (hbA : ¬ zA A0 b) (hL : L ≤ 3072) {t : Nat} (ht : 6 * t + 6 ≤ L) {ce sl : Nat} (hce : ce + 1 ≤ 601024) (hsl : sl + 6 ≤ 7293034) {σ : Mm} {H : Heap} {locs : List Loc} (Z : zh D A0 σ GF 740 s.heap H locs) (hI : Iv (31 * t) σ) {ls : Array Slot} (hl : lv_has ls 7 [(0, .ref b), (1, .ref (A0 + 0)), (2, .ref (A0 + 703)), (3, .ref (A0 + 739)), (4, .int (nI (6 * t)))]) {Q : State → Prop}
    (kk : ∀ (H1 : Heap) (locs1 : List Loc) (σ1 : Mm), zh D A0 σ1 GF 740 s.heap H1 locs1 → Iv (31 * (t + 1)) σ1 → ∀ ls, lv_has ls 7 [(0, .ref b), (1, .ref (A0 + 0)), (2, .ref (A0 + 703)), (3, .ref (A0 + 739)), (4, .int (nI (6 * t)))] → W p l e room_1 s m #[Value.ref b] below meth c H1 locs1 (ce + 1) (sl + 6) Q (F0 m 1498 ls [])) : W p l e room_1 s m #[Value.ref b] below meth c H locs ce sl Q (F0 m 319 ls []) := by
  have hx := F.1.1
  have hb := F.1.2.1
  have hown := F.1.2.2.2.1
  have hts := F.1.2.2.2.2
  obtain ⟨a, ha, b2, hb2, e2, hI2⟩ := q_text (B := 31 * t) (xs (nI (6 * t) + 1).toNatClampNeg) σ hI
  have hI3 : Iv (31 * (t + 1)) b2.2 := by rw [Nat.mul_succ]; exact hI2
  refine lv_aload_n hx hb dL_law_319 rfl (lv_at hl 1 rfl) ?_
  refine lv_aload_n hx hb dL_law_320 rfl (lv_at hl 0 rfl) ?_
  refine lv_iload hx hb dL_law_321 (lv_at hl 4 rfl) ?_
  refine lv_iconst (v := 1) hx hb dL_law_323 (by decide) ?_
  refine lv_iadd hx hb dL_law_324 ?_
  refine va_sld hx hb hX hbl hbA Z.2 (zl_in (k := 1) rfl (by decide) ht hL) dL_law_325 ?_
  refine zc_i Z (zr_V F Z (a := 0) (As := [.int (xs (nI (6 * t) + 1).toNatClampNeg)]) (zcX11_text l D A0 (xs (nI (6 * t) + 1).toNatClampNeg) σ a.1 a.2 ha) zBX11_text zq794 (by decide) zs_0 zC11.1 rfl ⟨⟨rfl, rfl⟩, Nat.le_of_ble_eq_true rfl, Nat.le_of_ble_eq_true rfl⟩ hl.1 rfl (Nat.le_of_ble_eq_true rfl) dL_law_326 (zr0 hce hsl)) (fun _ _ Z => ?_)
  refine lv_aload_n hx hb dL_law_329 rfl (lv_at hl 2 rfl) ?_
  refine lv_aload_n hx hb dL_law_330 rfl (lv_at hl 0 rfl) ?_
  refine lv_iload hx hb dL_law_331 (lv_at hl 4 rfl) ?_
  refine lv_iconst (v := 1) hx hb dL_law_333 (by decide) ?_
  refine lv_iadd hx hb dL_law_334 ?_
  refine va_sld hx hb hX hbl hbA Z.2 (zl_in (k := 1) rfl (by decide) ht hL) dL_law_335 ?_
  refine zc_i Z (zr_V F Z (a := 703) (As := [.int (xs (nI (6 * t) + 1).toNatClampNeg)]) (zcX12_text l D A0 (xs (nI (6 * t) + 1).toNatClampNeg) _ b2.1 b2.2 hb2) zBX12_text zq1605 (by decide) zs_703 zC12.1 rfl ⟨⟨rfl, rfl⟩, Nat.le_of_ble_eq_true rfl, Nat.le_of_ble_eq_true rfl⟩ hl.1 rfl (Nat.le_of_ble_eq_true rfl) dL_law_336 (zr0 hce hsl)) (fun _ _ Z => ?_)
  refine lv_icmp_eq (tgt := 1498) hx hb dL_law_339 (by decide) (fun _ => ?_) (fun h9 => absurd e2.symm h9)
  refine W.widen (k := ce + 1) (n := sl + 6) (by omega) (by omega) ?_
  exact kk _ _ _ Z hI3 _ hl
set_option maxHeartbeats 4000000 in
set_option maxRecDepth 100000 in
theorem zl_5 {p : Program} {l : Launch} {e : Env} {s : State} {m : MethodId} {below : List Frame} {meth : Method} {c : Code} {b L A0 : Nat} {xs : Nat → Int32} {D : va_G} (F : zx p s m c cL_law 7 #[Value.ref b] RL D A0) (hX : va_X b L xs s s.heap) (hbl : b < s.heap.size) (hbA : ¬ zA A0 b) (hL : L ≤ 3072) {t : Nat} (ht : 6 * t + 6 ≤ L) {ce sl : Nat} (hce : ce + 1 ≤ 601024) (hsl : sl + 6 ≤ 7293034) {σ : Mm} {H : Heap} {locs : List Loc} (Z : zh D A0 σ GF 740 s.heap H locs) (hI : Iv (31 * t) σ) {ls : Array Slot} (hl : lv_has ls 7 [(0, .ref b), (1, .ref (A0 + 0)), (2, .ref (A0 + 703)), (3, .ref (A0 + 739)), (4, .int (nI (6 * t)))]) {Q : State → Prop}
    (kk : ∀ (H1 : Heap) (locs1 : List Loc) (σ1 : Mm), zh D A0 σ1 GF 740 s.heap H1 locs1 → Iv (31 * (t + 1)) σ1 → ∀ ls, lv_has ls 7 [(0, .ref b), (1, .ref (A0 + 0)), (2, .ref (A0 + 703)), (3, .ref (A0 + 739)), (4, .int (nI (6 * t)))] → W p l e room_1 s m #[Value.ref b] below meth c H1 locs1 (ce + 1) (sl + 6) Q (F0 m 1498 ls [])) : W p l e room_1 s m #[Value.ref b] below meth c H locs ce sl Q (F0 m 412 ls []) := by
  have hx := F.1.1
  have hb := F.1.2.1
  have hown := F.1.2.2.2.1
  have hts := F.1.2.2.2.2
  obtain ⟨a, ha, b2, hb2, e2, hI2⟩ := q_buyers (B := 31 * t) (xs (nI (6 * t) + 1).toNatClampNeg) (xs (nI (6 * t) + 2).toNatClampNeg) σ hI
  obtain ⟨r, h1, h2⟩ := bd_x ha
  obtain rfl := Option.some.inj h2
  have hI3 : Iv (31 * (t + 1)) b2.2 := by rw [Nat.mul_succ]; exact hI2
  refine lv_aload_n hx hb dL_law_412 rfl (lv_at hl 1 rfl) ?_
  refine lv_aload_n hx hb dL_law_413 rfl (lv_at hl 0 rfl) ?_
  refine lv_iload hx hb dL_law_414 (lv_at hl 4 rfl) ?_
  refine lv_iconst (v := 1) hx hb dL_law_416 (by decide) ?_
  refine lv_iadd hx hb dL_law_417 ?_
  refine va_sld hx hb hX hbl hbA Z.2 (zl_in (k := 1) rfl (by decide) ht hL) dL_law_418 ?_
  refine lv_aload_n hx hb dL_law_419 rfl (lv_at hl 0 rfl) ?_
  refine lv_iload hx hb dL_law_420 (lv_at hl 4 rfl) ?_
  refine lv_iconst (v := 2) hx hb dL_law_422 (by decide) ?_
  refine lv_iadd hx hb dL_law_423 ?_
  refine va_sld hx hb hX hbl hbA Z.2 (zl_in (k := 2) rfl (by decide) ht hL) dL_law_424 ?_
  refine zc_i Z (zr_V F Z (a := 0) (As := [.int (xs (nI (6 * t) + 1).toNatClampNeg), .int (xs (nI (6 * t) + 2).toNatClampNeg)]) (zcX11_buyers l D A0 (xs (nI (6 * t) + 1).toNatClampNeg) (xs (nI (6 * t) + 2).toNatClampNeg) σ r h1) zBX11_buyers zq810 (by decide) zs_0 zC11.1 rfl ⟨⟨rfl, rfl⟩, Nat.le_of_ble_eq_true rfl, Nat.le_of_ble_eq_true rfl⟩ hl.1 rfl (Nat.le_of_ble_eq_true rfl) dL_law_425 (zr0 hce hsl)) (fun _ _ Z => ?_)
  refine lv_aload_n hx hb dL_law_428 rfl (lv_at hl 2 rfl) ?_
  refine lv_aload_n hx hb dL_law_429 rfl (lv_at hl 0 rfl) ?_
  refine lv_iload hx hb dL_law_430 (lv_at hl 4 rfl) ?_
  refine lv_iconst (v := 1) hx hb dL_law_432 (by decide) ?_
  refine lv_iadd hx hb dL_law_433 ?_
  refine va_sld hx hb hX hbl hbA Z.2 (zl_in (k := 1) rfl (by decide) ht hL) dL_law_434 ?_
  refine lv_aload_n hx hb dL_law_435 rfl (lv_at hl 0 rfl) ?_
  refine lv_iload hx hb dL_law_436 (lv_at hl 4 rfl) ?_
  refine lv_iconst (v := 2) hx hb dL_law_438 (by decide) ?_
  refine lv_iadd hx hb dL_law_439 ?_
  refine va_sld hx hb hX hbl hbA Z.2 (zl_in (k := 2) rfl (by decide) ht hL) dL_law_440 ?_
  refine zc_i Z (zr_V F Z (a := 703) (As := [.int (xs (nI (6 * t) + 1).toNatClampNeg), .int (xs (nI (6 * t) + 2).toNatClampNeg)]) (zcX12_buyers l D A0 (xs (nI (6 * t) + 1).toNatClampNeg) (xs (nI (6 * t) + 2).toNatClampNeg) _ b2.1 b2.2 hb2) zBX12_buyers zq1619 (by decide) zs_703 zC12.1 rfl ⟨⟨rfl, rfl⟩, Nat.le_of_ble_eq_true rfl, Nat.le_of_ble_eq_true rfl⟩ hl.1 rfl (Nat.le_of_ble_eq_true rfl) dL_law_441 (zr0 hce hsl)) (fun _ _ Z => ?_)
  refine lv_icmp_eq (tgt := 1498) hx hb dL_law_444 (by decide) (fun _ => ?_) (fun h9 => absurd e2.symm h9)
  refine W.widen (k := ce + 1) (n := sl + 6) (by omega) (by omega) ?_
  exact kk _ _ _ Z hI3 _ hl
set_option maxHeartbeats 4000000 in
set_option maxRecDepth 100000 in
theorem zl_6 {p : Program} {l : Launch} {e : Env} {s : State} {m : MethodId} {below : List Frame} {meth : Method} {c : Code} {b L A0 : Nat} {xs : Nat → Int32} {D : va_G} (F : zx p s m c cL_law 7 #[Value.ref b] RL D A0) (hX : va_X b L xs s s.heap) (hbl : b < s.heap.size) (hbA : ¬ zA A0 b) (hL : L ≤ 3072) {t : Nat} (ht : 6 * t + 6 ≤ L) {ce sl : Nat} (hce : ce + 1 ≤ 601024) (hsl : sl + 6 ≤ 7293034) {σ : Mm} {H : Heap} {locs : List Loc} (Z : zh D A0 σ GF 740 s.heap H locs) (hI : Iv (31 * t) σ) {ls : Array Slot} (hl : lv_has ls 7 [(0, .ref b), (1, .ref (A0 + 0)), (2, .ref (A0 + 703)), (3, .ref (A0 + 739)), (4, .int (nI (6 * t)))]) {Q : State → Prop}
    (kk : ∀ (H1 : Heap) (locs1 : List Loc) (σ1 : Mm), zh D A0 σ1 GF 740 s.heap H1 locs1 → Iv (31 * (t + 1)) σ1 → ∀ ls, lv_has ls 7 [(0, .ref b), (1, .ref (A0 + 0)), (2, .ref (A0 + 703)), (3, .ref (A0 + 739)), (4, .int (nI (6 * t)))] → W p l e room_1 s m #[Value.ref b] below meth c H1 locs1 (ce + 1) (sl + 6) Q (F0 m 1498 ls [])) : W p l e room_1 s m #[Value.ref b] below meth c H locs ce sl Q (F0 m 449 ls []) := by
  have hx := F.1.1
  have hb := F.1.2.1
  have hown := F.1.2.2.2.1
  have hts := F.1.2.2.2.2
  obtain ⟨a, ha, b2, hb2, e2, hI2⟩ := q_rule (B := 31 * t) (xs (nI (6 * t) + 1).toNatClampNeg) (xs (nI (6 * t) + 2).toNatClampNeg) σ hI
  have hI3 : Iv (31 * (t + 1)) b2.2 := by rw [Nat.mul_succ]; exact hI2
  refine lv_aload_n hx hb dL_law_449 rfl (lv_at hl 1 rfl) ?_
  refine lv_aload_n hx hb dL_law_450 rfl (lv_at hl 0 rfl) ?_
  refine lv_iload hx hb dL_law_451 (lv_at hl 4 rfl) ?_
  refine lv_iconst (v := 1) hx hb dL_law_453 (by decide) ?_
  refine lv_iadd hx hb dL_law_454 ?_
  refine va_sld hx hb hX hbl hbA Z.2 (zl_in (k := 1) rfl (by decide) ht hL) dL_law_455 ?_
  refine lv_aload_n hx hb dL_law_456 rfl (lv_at hl 0 rfl) ?_
  refine lv_iload hx hb dL_law_457 (lv_at hl 4 rfl) ?_
  refine lv_iconst (v := 2) hx hb dL_law_459 (by decide) ?_
  refine lv_iadd hx hb dL_law_460 ?_
  refine va_sld hx hb hX hbl hbA Z.2 (zl_in (k := 2) rfl (by decide) ht hL) dL_law_461 ?_
  refine zc_i Z (zr_V F Z (a := 0) (As := [.int (xs (nI (6 * t) + 1).toNatClampNeg), .int (xs (nI (6 * t) + 2).toNatClampNeg)]) (zcX11_rule l D A0 (xs (nI (6 * t) + 1).toNatClampNeg) (xs (nI (6 * t) + 2).toNatClampNeg) σ a.1 a.2 ha) zBX11_rule zq822 (by decide) zs_0 zC11.1 rfl ⟨⟨rfl, rfl⟩, Nat.le_of_ble_eq_true rfl, Nat.le_of_ble_eq_true rfl⟩ hl.1 rfl (Nat.le_of_ble_eq_true rfl) dL_law_462 (zr0 hce hsl)) (fun _ _ Z => ?_)
  refine lv_aload_n hx hb dL_law_465 rfl (lv_at hl 2 rfl) ?_
  refine lv_aload_n hx hb dL_law_466 rfl (lv_at hl 0 rfl) ?_
  refine lv_iload hx hb dL_law_467 (lv_at hl 4 rfl) ?_
  refine lv_iconst (v := 1) hx hb dL_law_469 (by decide) ?_
  refine lv_iadd hx hb dL_law_470 ?_
  refine va_sld hx hb hX hbl hbA Z.2 (zl_in (k := 1) rfl (by decide) ht hL) dL_law_471 ?_
  refine lv_aload_n hx hb dL_law_472 rfl (lv_at hl 0 rfl) ?_
  refine lv_iload hx hb dL_law_473 (lv_at hl 4 rfl) ?_
  refine lv_iconst (v := 2) hx hb dL_law_475 (by decide) ?_
  refine lv_iadd hx hb dL_law_476 ?_
  refine va_sld hx hb hX hbl hbA Z.2 (zl_in (k := 2) rfl (by decide) ht hL) dL_law_477 ?_
  refine zc_i Z (zr_V F Z (a := 703) (As := [.int (xs (nI (6 * t) + 1).toNatClampNeg), .int (xs (nI (6 * t) + 2).toNatClampNeg)]) (zcX12_rule l D A0 (xs (nI (6 * t) + 1).toNatClampNeg) (xs (nI (6 * t) + 2).toNatClampNeg) _ b2.1 b2.2 hb2) zBX12_rule zq1628 (by decide) zs_703 zC12.1 rfl ⟨⟨rfl, rfl⟩, Nat.le_of_ble_eq_true rfl, Nat.le_of_ble_eq_true rfl⟩ hl.1 rfl (Nat.le_of_ble_eq_true rfl) dL_law_478 (zr0 hce hsl)) (fun _ _ Z => ?_)
  refine lv_icmp_eq (tgt := 1498) hx hb dL_law_481 (by decide) (fun _ => ?_) (fun h9 => absurd e2.symm h9)
  refine W.widen (k := ce + 1) (n := sl + 6) (by omega) (by omega) ?_
  exact kk _ _ _ Z hI3 _ hl
set_option maxHeartbeats 4000000 in
set_option maxRecDepth 100000 in
theorem zl_7 {p : Program} {l : Launch} {e : Env} {s : State} {m : MethodId} {below : List Frame} {meth : Method} {c : Code} {b L A0 : Nat} {xs : Nat → Int32} {D : va_G} (F : zx p s m c cL_law 7 #[Value.ref b] RL D A0) (hX : va_X b L xs s s.heap) (hbl : b < s.heap.size) (hbA : ¬ zA A0 b) (hL : L ≤ 3072) {t : Nat} (ht : 6 * t + 6 ≤ L) {ce sl : Nat} (hce : ce + 1 ≤ 601024) (hsl : sl + 6 ≤ 7293034) {σ : Mm} {H : Heap} {locs : List Loc} (Z : zh D A0 σ GF 740 s.heap H locs) (hI : Iv (31 * t) σ) {ls : Array Slot} (hl : lv_has ls 7 [(0, .ref b), (1, .ref (A0 + 0)), (2, .ref (A0 + 703)), (3, .ref (A0 + 739)), (4, .int (nI (6 * t)))]) {Q : State → Prop}
    (kk : ∀ (H1 : Heap) (locs1 : List Loc) (σ1 : Mm), zh D A0 σ1 GF 740 s.heap H1 locs1 → Iv (31 * (t + 1)) σ1 → ∀ ls, lv_has ls 7 [(0, .ref b), (1, .ref (A0 + 0)), (2, .ref (A0 + 703)), (3, .ref (A0 + 739)), (4, .int (nI (6 * t)))] → W p l e room_1 s m #[Value.ref b] below meth c H1 locs1 (ce + 1) (sl + 6) Q (F0 m 1498 ls [])) : W p l e room_1 s m #[Value.ref b] below meth c H locs ce sl Q (F0 m 486 ls []) := by
  have hx := F.1.1
  have hb := F.1.2.1
  have hown := F.1.2.2.2.1
  have hts := F.1.2.2.2.2
  refine lv_aload_n hx hb dL_law_486 rfl (lv_at hl 1 rfl) ?_
  refine lv_aload_n hx hb dL_law_487 rfl (lv_at hl 0 rfl) ?_
  refine lv_iload hx hb dL_law_488 (lv_at hl 4 rfl) ?_
  refine lv_iconst (v := 1) hx hb dL_law_490 (by decide) ?_
  refine lv_iadd hx hb dL_law_491 ?_
  refine va_sld hx hb hX hbl hbA Z.2 (zl_in (k := 1) rfl (by decide) ht hL) dL_law_492 ?_
  refine lv_aload_n hx hb dL_law_493 rfl (lv_at hl 0 rfl) ?_
  refine lv_iload hx hb dL_law_494 (lv_at hl 4 rfl) ?_
  refine lv_iconst (v := 2) hx hb dL_law_496 (by decide) ?_
  refine lv_iadd hx hb dL_law_497 ?_
  refine va_sld hx hb hX hbl hbA Z.2 (zl_in (k := 2) rfl (by decide) ht hL) dL_law_498 ?_
  refine lv_if_eq (tgt := 506) hx hb dL_law_499 (by decide) (fun hc => ?_) (fun hc => ?_)
  · skip
    obtain ⟨a, ha, b2, hb2, e2, hI2⟩ := q_hold (B := 31 * t) (xs (nI (6 * t) + 1).toNatClampNeg) (y := 0) (by decide) σ hI
    have hI3 : Iv (31 * (t + 1)) b2.2 := by rw [Nat.mul_succ]; exact hI2
    refine lv_iconst (v := 0) hx hb dL_law_506 (by decide) ?_
    refine zc_i Z (zr_V F Z (a := 0) (As := [.int (xs (nI (6 * t) + 1).toNatClampNeg), .int 0]) (zcX11_hold l D A0 (xs (nI (6 * t) + 1).toNatClampNeg) 0 σ a.1 a.2 ha) zBX11_hold zq830 (by decide) zs_0 zC11.1 rfl ⟨⟨rfl, rfl⟩, Nat.le_of_ble_eq_true rfl, Nat.le_of_ble_eq_true rfl⟩ hl.1 rfl (Nat.le_of_ble_eq_true rfl) dL_law_507 (zr0 hce hsl)) (fun _ _ Z => ?_)
    refine lv_aload_n hx hb dL_law_510 rfl (lv_at hl 2 rfl) ?_
    refine lv_aload_n hx hb dL_law_511 rfl (lv_at hl 0 rfl) ?_
    refine lv_iload hx hb dL_law_512 (lv_at hl 4 rfl) ?_
    refine lv_iconst (v := 1) hx hb dL_law_514 (by decide) ?_
    refine lv_iadd hx hb dL_law_515 ?_
    refine va_sld hx hb hX hbl hbA Z.2 (zl_in (k := 1) rfl (by decide) ht hL) dL_law_516 ?_
    refine lv_aload_n hx hb dL_law_517 rfl (lv_at hl 0 rfl) ?_
    refine lv_iload hx hb dL_law_518 (lv_at hl 4 rfl) ?_
    refine lv_iconst (v := 2) hx hb dL_law_520 (by decide) ?_
    refine lv_iadd hx hb dL_law_521 ?_
    refine va_sld hx hb hX hbl hbA Z.2 (zl_in (k := 2) rfl (by decide) ht hL) dL_law_522 ?_
    refine lv_if_eq (tgt := 530) hx hb dL_law_523 (by decide) (fun _ => ?_) (fun h9 => absurd hc h9)
    refine lv_iconst (v := 0) hx hb dL_law_530 (by decide) ?_
    refine zc_i Z (zr_V F Z (a := 703) (As := [.int (xs (nI (6 * t) + 1).toNatClampNeg), .int 0]) (zcX12_hold l D A0 (xs (nI (6 * t) + 1).toNatClampNeg) 0 _ b2.1 b2.2 hb2) zBX12_hold zq1632 (by decide) zs_703 zC12.1 rfl ⟨⟨rfl, rfl⟩, Nat.le_of_ble_eq_true rfl, Nat.le_of_ble_eq_true rfl⟩ hl.1 rfl (Nat.le_of_ble_eq_true rfl) dL_law_531 (zr0 hce hsl)) (fun _ _ Z => ?_)
    refine lv_icmp_eq (tgt := 1498) hx hb dL_law_534 (by decide) (fun _ => ?_) (fun h9 => absurd e2.symm h9)
    refine W.widen (k := ce + 1) (n := sl + 6) (by omega) (by omega) ?_
    exact kk _ _ _ Z hI3 _ hl
  · skip
    obtain ⟨a, ha, b2, hb2, e2, hI2⟩ := q_hold (B := 31 * t) (xs (nI (6 * t) + 1).toNatClampNeg) (y := 1) (by decide) σ hI
    have hI3 : Iv (31 * (t + 1)) b2.2 := by rw [Nat.mul_succ]; exact hI2
    refine lv_iconst (v := 1) hx hb dL_law_502 (by decide) ?_
    refine lv_goto (tgt := 507) hx hb dL_law_503 (by decide) ?_
    refine zc_i Z (zr_V F Z (a := 0) (As := [.int (xs (nI (6 * t) + 1).toNatClampNeg), .int 1]) (zcX11_hold l D A0 (xs (nI (6 * t) + 1).toNatClampNeg) 1 σ a.1 a.2 ha) zBX11_hold zq830 (by decide) zs_0 zC11.1 rfl ⟨⟨rfl, rfl⟩, Nat.le_of_ble_eq_true rfl, Nat.le_of_ble_eq_true rfl⟩ hl.1 rfl (Nat.le_of_ble_eq_true rfl) dL_law_507 (zr0 hce hsl)) (fun _ _ Z => ?_)
    refine lv_aload_n hx hb dL_law_510 rfl (lv_at hl 2 rfl) ?_
    refine lv_aload_n hx hb dL_law_511 rfl (lv_at hl 0 rfl) ?_
    refine lv_iload hx hb dL_law_512 (lv_at hl 4 rfl) ?_
    refine lv_iconst (v := 1) hx hb dL_law_514 (by decide) ?_
    refine lv_iadd hx hb dL_law_515 ?_
    refine va_sld hx hb hX hbl hbA Z.2 (zl_in (k := 1) rfl (by decide) ht hL) dL_law_516 ?_
    refine lv_aload_n hx hb dL_law_517 rfl (lv_at hl 0 rfl) ?_
    refine lv_iload hx hb dL_law_518 (lv_at hl 4 rfl) ?_
    refine lv_iconst (v := 2) hx hb dL_law_520 (by decide) ?_
    refine lv_iadd hx hb dL_law_521 ?_
    refine va_sld hx hb hX hbl hbA Z.2 (zl_in (k := 2) rfl (by decide) ht hL) dL_law_522 ?_
    refine lv_if_eq (tgt := 530) hx hb dL_law_523 (by decide) (fun h9 => absurd h9 hc) (fun _ => ?_)
    refine lv_iconst (v := 1) hx hb dL_law_526 (by decide) ?_
    refine lv_goto (tgt := 531) hx hb dL_law_527 (by decide) ?_
    refine zc_i Z (zr_V F Z (a := 703) (As := [.int (xs (nI (6 * t) + 1).toNatClampNeg), .int 1]) (zcX12_hold l D A0 (xs (nI (6 * t) + 1).toNatClampNeg) 1 _ b2.1 b2.2 hb2) zBX12_hold zq1632 (by decide) zs_703 zC12.1 rfl ⟨⟨rfl, rfl⟩, Nat.le_of_ble_eq_true rfl, Nat.le_of_ble_eq_true rfl⟩ hl.1 rfl (Nat.le_of_ble_eq_true rfl) dL_law_531 (zr0 hce hsl)) (fun _ _ Z => ?_)
    refine lv_icmp_eq (tgt := 1498) hx hb dL_law_534 (by decide) (fun _ => ?_) (fun h9 => absurd e2.symm h9)
    refine W.widen (k := ce + 1) (n := sl + 6) (by omega) (by omega) ?_
    exact kk _ _ _ Z hI3 _ hl
set_option maxHeartbeats 4000000 in
set_option maxRecDepth 100000 in
theorem zl_8 {p : Program} {l : Launch} {e : Env} {s : State} {m : MethodId} {below : List Frame} {meth : Method} {c : Code} {b L A0 : Nat} {xs : Nat → Int32} {D : va_G} (F : zx p s m c cL_law 7 #[Value.ref b] RL D A0) (hX : va_X b L xs s s.heap) (hbl : b < s.heap.size) (hbA : ¬ zA A0 b) (hL : L ≤ 3072) {t : Nat} (ht : 6 * t + 6 ≤ L) {ce sl : Nat} (hce : ce + 1 ≤ 601024) (hsl : sl + 6 ≤ 7293034) {σ : Mm} {H : Heap} {locs : List Loc} (Z : zh D A0 σ GF 740 s.heap H locs) (hI : Iv (31 * t) σ) {ls : Array Slot} (hl : lv_has ls 7 [(0, .ref b), (1, .ref (A0 + 0)), (2, .ref (A0 + 703)), (3, .ref (A0 + 739)), (4, .int (nI (6 * t)))]) {Q : State → Prop}
    (kk : ∀ (H1 : Heap) (locs1 : List Loc) (σ1 : Mm), zh D A0 σ1 GF 740 s.heap H1 locs1 → Iv (31 * (t + 1)) σ1 → ∀ ls, lv_has ls 7 [(0, .ref b), (1, .ref (A0 + 0)), (2, .ref (A0 + 703)), (3, .ref (A0 + 739)), (4, .int (nI (6 * t)))] → W p l e room_1 s m #[Value.ref b] below meth c H1 locs1 (ce + 1) (sl + 6) Q (F0 m 1498 ls [])) : W p l e room_1 s m #[Value.ref b] below meth c H locs ce sl Q (F0 m 539 ls []) := by
  have hx := F.1.1
  have hb := F.1.2.1
  have hown := F.1.2.2.2.1
  have hts := F.1.2.2.2.2
  obtain ⟨a, ha, b2, hb2, e2, hI2⟩ := q_risk (B := 31 * t) (xs (nI (6 * t) + 1).toNatClampNeg) σ hI
  have hI3 : Iv (31 * (t + 1)) b2.2 := by rw [Nat.mul_succ]; exact hI2
  refine lv_aload_n hx hb dL_law_539 rfl (lv_at hl 1 rfl) ?_
  refine lv_aload_n hx hb dL_law_540 rfl (lv_at hl 0 rfl) ?_
  refine lv_iload hx hb dL_law_541 (lv_at hl 4 rfl) ?_
  refine lv_iconst (v := 1) hx hb dL_law_543 (by decide) ?_
  refine lv_iadd hx hb dL_law_544 ?_
  refine va_sld hx hb hX hbl hbA Z.2 (zl_in (k := 1) rfl (by decide) ht hL) dL_law_545 ?_
  refine zc_i Z (zr_V F Z (a := 0) (As := [.int (xs (nI (6 * t) + 1).toNatClampNeg)]) (zcX11_risk l D A0 (xs (nI (6 * t) + 1).toNatClampNeg) σ a.1 a.2 ha) zBX11_risk zq842 (by decide) zs_0 zC11.1 rfl ⟨⟨rfl, rfl⟩, Nat.le_of_ble_eq_true rfl, Nat.le_of_ble_eq_true rfl⟩ hl.1 rfl (Nat.le_of_ble_eq_true rfl) dL_law_546 (zr0 hce hsl)) (fun _ _ Z => ?_)
  refine lv_aload_n hx hb dL_law_549 rfl (lv_at hl 2 rfl) ?_
  refine lv_aload_n hx hb dL_law_550 rfl (lv_at hl 0 rfl) ?_
  refine lv_iload hx hb dL_law_551 (lv_at hl 4 rfl) ?_
  refine lv_iconst (v := 1) hx hb dL_law_553 (by decide) ?_
  refine lv_iadd hx hb dL_law_554 ?_
  refine va_sld hx hb hX hbl hbA Z.2 (zl_in (k := 1) rfl (by decide) ht hL) dL_law_555 ?_
  refine zc_i Z (zr_V F Z (a := 703) (As := [.int (xs (nI (6 * t) + 1).toNatClampNeg)]) (zcX12_risk l D A0 (xs (nI (6 * t) + 1).toNatClampNeg) _ b2.1 b2.2 hb2) zBX12_risk zq1636 (by decide) zs_703 zC12.1 rfl ⟨⟨rfl, rfl⟩, Nat.le_of_ble_eq_true rfl, Nat.le_of_ble_eq_true rfl⟩ hl.1 rfl (Nat.le_of_ble_eq_true rfl) dL_law_556 (zr0 hce hsl)) (fun _ _ Z => ?_)
  refine lv_icmp_eq (tgt := 1498) hx hb dL_law_559 (by decide) (fun _ => ?_) (fun h9 => absurd e2.symm h9)
  refine W.widen (k := ce + 1) (n := sl + 6) (by omega) (by omega) ?_
  exact kk _ _ _ Z hI3 _ hl
set_option maxHeartbeats 4000000 in
set_option maxRecDepth 100000 in
theorem zl_9 {p : Program} {l : Launch} {e : Env} {s : State} {m : MethodId} {below : List Frame} {meth : Method} {c : Code} {b L A0 : Nat} {xs : Nat → Int32} {D : va_G} (F : zx p s m c cL_law 7 #[Value.ref b] RL D A0) (hX : va_X b L xs s s.heap) (hbl : b < s.heap.size) (hbA : ¬ zA A0 b) (hL : L ≤ 3072) {t : Nat} (ht : 6 * t + 6 ≤ L) {ce sl : Nat} (hce : ce + 1 ≤ 601024) (hsl : sl + 6 ≤ 7293034) {σ : Mm} {H : Heap} {locs : List Loc} (Z : zh D A0 σ GF 740 s.heap H locs) (hI : Iv (31 * t) σ) {ls : Array Slot} (hl : lv_has ls 7 [(0, .ref b), (1, .ref (A0 + 0)), (2, .ref (A0 + 703)), (3, .ref (A0 + 739)), (4, .int (nI (6 * t)))]) {Q : State → Prop}
    (kk : ∀ (H1 : Heap) (locs1 : List Loc) (σ1 : Mm), zh D A0 σ1 GF 740 s.heap H1 locs1 → Iv (31 * (t + 1)) σ1 → ∀ ls, lv_has ls 7 [(0, .ref b), (1, .ref (A0 + 0)), (2, .ref (A0 + 703)), (3, .ref (A0 + 739)), (4, .int (nI (6 * t)))] → W p l e room_1 s m #[Value.ref b] below meth c H1 locs1 (ce + 1) (sl + 6) Q (F0 m 1498 ls [])) : W p l e room_1 s m #[Value.ref b] below meth c H locs ce sl Q (F0 m 564 ls []) := by
  have hx := F.1.1
  have hb := F.1.2.1
  have hown := F.1.2.2.2.1
  have hts := F.1.2.2.2.2
  obtain ⟨a, ha, b2, hb2, e2, hI2⟩ := q_seed (B := 31 * t) (((Int32.toInt64 (xs (nI (6 * t) + 1).toNatClampNeg)) <<< ((32 : Int32).toInt64 &&& 63)) ||| ((Int32.toInt64 (xs (nI (6 * t) + 2).toNatClampNeg)) &&& 4294967295)) σ hI
  have hI3 : Iv (31 * (t + 1)) b2.2 := by rw [Nat.mul_succ]; exact hI2
  refine lv_aload_n hx hb dL_law_564 rfl (lv_at hl 1 rfl) ?_
  refine lv_aload_n hx hb dL_law_565 rfl (lv_at hl 0 rfl) ?_
  refine lv_iload hx hb dL_law_566 (lv_at hl 4 rfl) ?_
  refine lv_iconst (v := 1) hx hb dL_law_568 (by decide) ?_
  refine lv_iadd hx hb dL_law_569 ?_
  refine va_sld hx hb hX hbl hbA Z.2 (zl_in (k := 1) rfl (by decide) ht hL) dL_law_570 ?_
  refine lv_i2l hx hb dL_law_571 rfl ?_
  refine lv_bipush (v := 32) hx hb dL_law_572 (by decide) ?_
  refine lv_lshl hx hb dL_law_574 rfl ?_
  refine lv_aload_n hx hb dL_law_575 rfl (lv_at hl 0 rfl) ?_
  refine lv_iload hx hb dL_law_576 (lv_at hl 4 rfl) ?_
  refine lv_iconst (v := 2) hx hb dL_law_578 (by decide) ?_
  refine lv_iadd hx hb dL_law_579 ?_
  refine va_sld hx hb hX hbl hbA Z.2 (zl_in (k := 2) rfl (by decide) ht hL) dL_law_580 ?_
  refine lv_i2l hx hb dL_law_581 rfl ?_
  refine lv_ldc2 (v := 4294967295) hx hb hown (hts _ zq1853) dL_law_582 ?_
  refine lv_land hx hb dL_law_585 ?_
  refine lv_lor hx hb dL_law_586 ?_
  refine zc_i Z (zr_V F Z (a := 0) (As := [.long (((Int32.toInt64 (xs (nI (6 * t) + 1).toNatClampNeg)) <<< ((32 : Int32).toInt64 &&& 63)) ||| ((Int32.toInt64 (xs (nI (6 * t) + 2).toNatClampNeg)) &&& 4294967295))]) (zcX11_seed l D A0 (((Int32.toInt64 (xs (nI (6 * t) + 1).toNatClampNeg)) <<< ((32 : Int32).toInt64 &&& 63)) ||| ((Int32.toInt64 (xs (nI (6 * t) + 2).toNatClampNeg)) &&& 4294967295)) σ a.1 a.2 ha) zBX11_seed zq846 (by decide) zs_0 zC11.1 rfl ⟨⟨rfl, rfl⟩, Nat.le_of_ble_eq_true rfl, Nat.le_of_ble_eq_true rfl⟩ hl.1 rfl (Nat.le_of_ble_eq_true rfl) dL_law_587 (zr0 hce hsl)) (fun _ _ Z => ?_)
  refine lv_aload_n hx hb dL_law_590 rfl (lv_at hl 2 rfl) ?_
  refine lv_aload_n hx hb dL_law_591 rfl (lv_at hl 0 rfl) ?_
  refine lv_iload hx hb dL_law_592 (lv_at hl 4 rfl) ?_
  refine lv_iconst (v := 1) hx hb dL_law_594 (by decide) ?_
  refine lv_iadd hx hb dL_law_595 ?_
  refine va_sld hx hb hX hbl hbA Z.2 (zl_in (k := 1) rfl (by decide) ht hL) dL_law_596 ?_
  refine lv_i2l hx hb dL_law_597 rfl ?_
  refine lv_bipush (v := 32) hx hb dL_law_598 (by decide) ?_
  refine lv_lshl hx hb dL_law_600 rfl ?_
  refine lv_aload_n hx hb dL_law_601 rfl (lv_at hl 0 rfl) ?_
  refine lv_iload hx hb dL_law_602 (lv_at hl 4 rfl) ?_
  refine lv_iconst (v := 2) hx hb dL_law_604 (by decide) ?_
  refine lv_iadd hx hb dL_law_605 ?_
  refine va_sld hx hb hX hbl hbA Z.2 (zl_in (k := 2) rfl (by decide) ht hL) dL_law_606 ?_
  refine lv_i2l hx hb dL_law_607 rfl ?_
  refine lv_ldc2 (v := 4294967295) hx hb hown (hts _ zq1853) dL_law_608 ?_
  refine lv_land hx hb dL_law_611 ?_
  refine lv_lor hx hb dL_law_612 ?_
  refine zc_i Z (zr_V F Z (a := 703) (As := [.long (((Int32.toInt64 (xs (nI (6 * t) + 1).toNatClampNeg)) <<< ((32 : Int32).toInt64 &&& 63)) ||| ((Int32.toInt64 (xs (nI (6 * t) + 2).toNatClampNeg)) &&& 4294967295))]) (zcX12_seed l D A0 (((Int32.toInt64 (xs (nI (6 * t) + 1).toNatClampNeg)) <<< ((32 : Int32).toInt64 &&& 63)) ||| ((Int32.toInt64 (xs (nI (6 * t) + 2).toNatClampNeg)) &&& 4294967295)) _ b2.1 b2.2 hb2) zBX12_seed zq1641 (by decide) zs_703 zC12.1 rfl ⟨⟨rfl, rfl⟩, Nat.le_of_ble_eq_true rfl, Nat.le_of_ble_eq_true rfl⟩ hl.1 rfl (Nat.le_of_ble_eq_true rfl) dL_law_613 (zr0 hce hsl)) (fun _ _ Z => ?_)
  refine lv_icmp_eq (tgt := 1498) hx hb dL_law_616 (by decide) (fun _ => ?_) (fun h9 => absurd e2.symm h9)
  refine W.widen (k := ce + 1) (n := sl + 6) (by omega) (by omega) ?_
  exact kk _ _ _ Z hI3 _ hl
set_option maxHeartbeats 4000000 in
set_option maxRecDepth 100000 in
theorem zl_10 {p : Program} {l : Launch} {e : Env} {s : State} {m : MethodId} {below : List Frame} {meth : Method} {c : Code} {b L A0 : Nat} {xs : Nat → Int32} {D : va_G} (F : zx p s m c cL_law 7 #[Value.ref b] RL D A0) (hX : va_X b L xs s s.heap) (hbl : b < s.heap.size) (hbA : ¬ zA A0 b) (hL : L ≤ 3072) {t : Nat} (ht : 6 * t + 6 ≤ L) {ce sl : Nat} (hce : ce + 1 ≤ 601024) (hsl : sl + 6 ≤ 7293034) {σ : Mm} {H : Heap} {locs : List Loc} (Z : zh D A0 σ GF 740 s.heap H locs) (hI : Iv (31 * t) σ) {ls : Array Slot} (hl : lv_has ls 7 [(0, .ref b), (1, .ref (A0 + 0)), (2, .ref (A0 + 703)), (3, .ref (A0 + 739)), (4, .int (nI (6 * t)))]) {Q : State → Prop}
    (kk : ∀ (H1 : Heap) (locs1 : List Loc) (σ1 : Mm), zh D A0 σ1 GF 740 s.heap H1 locs1 → Iv (31 * (t + 1)) σ1 → ∀ ls, lv_has ls 7 [(0, .ref b), (1, .ref (A0 + 0)), (2, .ref (A0 + 703)), (3, .ref (A0 + 739)), (4, .int (nI (6 * t)))] → W p l e room_1 s m #[Value.ref b] below meth c H1 locs1 (ce + 1) (sl + 6) Q (F0 m 1498 ls [])) : W p l e room_1 s m #[Value.ref b] below meth c H locs ce sl Q (F0 m 621 ls []) := by
  have hx := F.1.1
  have hb := F.1.2.1
  have hown := F.1.2.2.2.1
  have hts := F.1.2.2.2.2
  obtain ⟨a, ha, b2, hb2, e2, hI2⟩ := q_daysA (B := 31 * t) (by omega) (xs (nI (6 * t) + 1).toNatClampNeg) σ hI
  have hI3 : Iv (31 * (t + 1)) b2.2 := by rw [Nat.mul_succ]; exact hI2
  refine lv_aload_n hx hb dL_law_621 rfl (lv_at hl 1 rfl) ?_
  refine lv_aload_n hx hb dL_law_622 rfl (lv_at hl 0 rfl) ?_
  refine lv_iload hx hb dL_law_623 (lv_at hl 4 rfl) ?_
  refine lv_iconst (v := 1) hx hb dL_law_625 (by decide) ?_
  refine lv_iadd hx hb dL_law_626 ?_
  refine va_sld hx hb hX hbl hbA Z.2 (zl_in (k := 1) rfl (by decide) ht hL) dL_law_627 ?_
  refine zc_i Z (zr_V F Z (a := 0) (As := [.int (xs (nI (6 * t) + 1).toNatClampNeg)]) (zcX11_days l D A0 (xs (nI (6 * t) + 1).toNatClampNeg) σ a.1 a.2 ha) zBX11_days zq850 (by decide) zs_0 zC11.1 rfl ⟨⟨rfl, rfl⟩, Nat.le_of_ble_eq_true rfl, Nat.le_of_ble_eq_true rfl⟩ hl.1 rfl (Nat.le_of_ble_eq_true rfl) dL_law_628 (zr0 hce hsl)) (fun _ _ Z => ?_)
  refine lv_aload_n hx hb dL_law_631 rfl (lv_at hl 2 rfl) ?_
  refine lv_aload_n hx hb dL_law_632 rfl (lv_at hl 0 rfl) ?_
  refine lv_iload hx hb dL_law_633 (lv_at hl 4 rfl) ?_
  refine lv_iconst (v := 1) hx hb dL_law_635 (by decide) ?_
  refine lv_iadd hx hb dL_law_636 ?_
  refine va_sld hx hb hX hbl hbA Z.2 (zl_in (k := 1) rfl (by decide) ht hL) dL_law_637 ?_
  refine zc_i Z (zr_V F Z (a := 703) (As := [.int (xs (nI (6 * t) + 1).toNatClampNeg)]) (zcX12_days l D A0 (xs (nI (6 * t) + 1).toNatClampNeg) _ b2.1 b2.2 hb2) zBX12_days zq1645 (by decide) zs_703 zC12.1 rfl ⟨⟨rfl, rfl⟩, Nat.le_of_ble_eq_true rfl, Nat.le_of_ble_eq_true rfl⟩ hl.1 rfl (Nat.le_of_ble_eq_true rfl) dL_law_638 (zr0 hce hsl)) (fun _ _ Z => ?_)
  refine lv_icmp_eq (tgt := 1498) hx hb dL_law_641 (by decide) (fun _ => ?_) (fun h9 => absurd e2.symm h9)
  refine W.widen (k := ce + 1) (n := sl + 6) (by omega) (by omega) ?_
  exact kk _ _ _ Z hI3 _ hl
set_option maxHeartbeats 4000000 in
set_option maxRecDepth 100000 in
theorem zl_11 {p : Program} {l : Launch} {e : Env} {s : State} {m : MethodId} {below : List Frame} {meth : Method} {c : Code} {b L A0 : Nat} {xs : Nat → Int32} {D : va_G} (F : zx p s m c cL_law 7 #[Value.ref b] RL D A0) (hX : va_X b L xs s s.heap) (hbl : b < s.heap.size) (hbA : ¬ zA A0 b) (hL : L ≤ 3072) {t : Nat} (ht : 6 * t + 6 ≤ L) {ce sl : Nat} (hce : ce + 1 ≤ 601024) (hsl : sl + 6 ≤ 7293034) {σ : Mm} {H : Heap} {locs : List Loc} (Z : zh D A0 σ GF 740 s.heap H locs) (hI : Iv (31 * t) σ) {ls : Array Slot} (hl : lv_has ls 7 [(0, .ref b), (1, .ref (A0 + 0)), (2, .ref (A0 + 703)), (3, .ref (A0 + 739)), (4, .int (nI (6 * t)))]) {Q : State → Prop}
    (kk : ∀ (H1 : Heap) (locs1 : List Loc) (σ1 : Mm), zh D A0 σ1 GF 740 s.heap H1 locs1 → Iv (31 * (t + 1)) σ1 → ∀ ls, lv_has ls 7 [(0, .ref b), (1, .ref (A0 + 0)), (2, .ref (A0 + 703)), (3, .ref (A0 + 739)), (4, .int (nI (6 * t)))] → W p l e room_1 s m #[Value.ref b] below meth c H1 locs1 (ce + 1) (sl + 6) Q (F0 m 1498 ls [])) : W p l e room_1 s m #[Value.ref b] below meth c H locs ce sl Q (F0 m 646 ls []) := by
  have hx := F.1.1
  have hb := F.1.2.1
  have hown := F.1.2.2.2.1
  have hts := F.1.2.2.2.2
  obtain ⟨a, ha, b2, hb2, e2, hI2⟩ := q_ahead (B := 31 * t) (by omega) (xs (nI (6 * t) + 1).toNatClampNeg) σ hI
  have hI3 : Iv (31 * (t + 1)) b2.2 := by rw [Nat.mul_succ]; exact hI2
  refine lv_aload_n hx hb dL_law_646 rfl (lv_at hl 1 rfl) ?_
  refine lv_aload_n hx hb dL_law_647 rfl (lv_at hl 0 rfl) ?_
  refine lv_iload hx hb dL_law_648 (lv_at hl 4 rfl) ?_
  refine lv_iconst (v := 1) hx hb dL_law_650 (by decide) ?_
  refine lv_iadd hx hb dL_law_651 ?_
  refine va_sld hx hb hX hbl hbA Z.2 (zl_in (k := 1) rfl (by decide) ht hL) dL_law_652 ?_
  refine zc_i Z (zr_V F Z (a := 0) (As := [.int (xs (nI (6 * t) + 1).toNatClampNeg)]) (zcX11_ahead l D A0 (xs (nI (6 * t) + 1).toNatClampNeg) σ a.1 a.2 ha) zBX11_ahead zq927 (by decide) zs_0 zC11.1 rfl ⟨⟨rfl, rfl⟩, Nat.le_of_ble_eq_true rfl, Nat.le_of_ble_eq_true rfl⟩ hl.1 rfl (Nat.le_of_ble_eq_true rfl) dL_law_653 (zr0 hce hsl)) (fun _ _ Z => ?_)
  refine lv_aload_n hx hb dL_law_656 rfl (lv_at hl 2 rfl) ?_
  refine lv_aload_n hx hb dL_law_657 rfl (lv_at hl 0 rfl) ?_
  refine lv_iload hx hb dL_law_658 (lv_at hl 4 rfl) ?_
  refine lv_iconst (v := 1) hx hb dL_law_660 (by decide) ?_
  refine lv_iadd hx hb dL_law_661 ?_
  refine va_sld hx hb hX hbl hbA Z.2 (zl_in (k := 1) rfl (by decide) ht hL) dL_law_662 ?_
  refine zc_i Z (zr_V F Z (a := 703) (As := [.int (xs (nI (6 * t) + 1).toNatClampNeg)]) (zcX12_ahead l D A0 (xs (nI (6 * t) + 1).toNatClampNeg) _ b2.1 b2.2 hb2) zBX12_ahead zq1697 (by decide) zs_703 zC12.1 rfl ⟨⟨rfl, rfl⟩, Nat.le_of_ble_eq_true rfl, Nat.le_of_ble_eq_true rfl⟩ hl.1 rfl (Nat.le_of_ble_eq_true rfl) dL_law_663 (zr0 hce hsl)) (fun _ _ Z => ?_)
  refine lv_icmp_eq (tgt := 1498) hx hb dL_law_666 (by decide) (fun _ => ?_) (fun h9 => absurd e2.symm h9)
  refine W.widen (k := ce + 1) (n := sl + 6) (by omega) (by omega) ?_
  exact kk _ _ _ Z hI3 _ hl
set_option maxHeartbeats 4000000 in
set_option maxRecDepth 100000 in
theorem zl_12 {p : Program} {l : Launch} {e : Env} {s : State} {m : MethodId} {below : List Frame} {meth : Method} {c : Code} {b L A0 : Nat} {xs : Nat → Int32} {D : va_G} (F : zx p s m c cL_law 7 #[Value.ref b] RL D A0) (hX : va_X b L xs s s.heap) (hbl : b < s.heap.size) (hbA : ¬ zA A0 b) (hL : L ≤ 3072) {t : Nat} (ht : 6 * t + 6 ≤ L) {ce sl : Nat} (hce : ce + 1 ≤ 601024) (hsl : sl + 6 ≤ 7293034) {σ : Mm} {H : Heap} {locs : List Loc} (Z : zh D A0 σ GF 740 s.heap H locs) (hI : Iv (31 * t) σ) {ls : Array Slot} (hl : lv_has ls 7 [(0, .ref b), (1, .ref (A0 + 0)), (2, .ref (A0 + 703)), (3, .ref (A0 + 739)), (4, .int (nI (6 * t)))]) {Q : State → Prop}
    (kk : ∀ (H1 : Heap) (locs1 : List Loc) (σ1 : Mm), zh D A0 σ1 GF 740 s.heap H1 locs1 → Iv (31 * (t + 1)) σ1 → ∀ ls, lv_has ls 7 [(0, .ref b), (1, .ref (A0 + 0)), (2, .ref (A0 + 703)), (3, .ref (A0 + 739)), (4, .int (nI (6 * t)))] → W p l e room_1 s m #[Value.ref b] below meth c H1 locs1 (ce + 1) (sl + 6) Q (F0 m 1498 ls [])) : W p l e room_1 s m #[Value.ref b] below meth c H locs ce sl Q (F0 m 671 ls []) := by
  have hx := F.1.1
  have hb := F.1.2.1
  have hown := F.1.2.2.2.1
  have hts := F.1.2.2.2.2
  obtain ⟨a, ha, b2, hb2, e2, hI2⟩ := q_falls (B := 31 * t) (by omega) (xs (nI (6 * t) + 1).toNatClampNeg) (xs (nI (6 * t) + 2).toNatClampNeg) σ hI
  have hI3 : Iv (31 * (t + 1)) b2.2 := by rw [Nat.mul_succ]; exact hI2
  refine lv_aload_n hx hb dL_law_671 rfl (lv_at hl 1 rfl) ?_
  refine lv_aload_n hx hb dL_law_672 rfl (lv_at hl 0 rfl) ?_
  refine lv_iload hx hb dL_law_673 (lv_at hl 4 rfl) ?_
  refine lv_iconst (v := 1) hx hb dL_law_675 (by decide) ?_
  refine lv_iadd hx hb dL_law_676 ?_
  refine va_sld hx hb hX hbl hbA Z.2 (zl_in (k := 1) rfl (by decide) ht hL) dL_law_677 ?_
  refine lv_aload_n hx hb dL_law_678 rfl (lv_at hl 0 rfl) ?_
  refine lv_iload hx hb dL_law_679 (lv_at hl 4 rfl) ?_
  refine lv_iconst (v := 2) hx hb dL_law_681 (by decide) ?_
  refine lv_iadd hx hb dL_law_682 ?_
  refine va_sld hx hb hX hbl hbA Z.2 (zl_in (k := 2) rfl (by decide) ht hL) dL_law_683 ?_
  refine zc_i Z (zr_V F Z (a := 0) (As := [.int (xs (nI (6 * t) + 1).toNatClampNeg), .int (xs (nI (6 * t) + 2).toNatClampNeg)]) (zcX11_falls l D A0 (xs (nI (6 * t) + 1).toNatClampNeg) (xs (nI (6 * t) + 2).toNatClampNeg) σ a.1 a.2 ha) zBX11_falls zq967 (by decide) zs_0 zC11.1 rfl ⟨⟨rfl, rfl⟩, Nat.le_of_ble_eq_true rfl, Nat.le_of_ble_eq_true rfl⟩ hl.1 rfl (Nat.le_of_ble_eq_true rfl) dL_law_684 (zr0 hce hsl)) (fun _ _ Z => ?_)
  refine lv_aload_n hx hb dL_law_687 rfl (lv_at hl 2 rfl) ?_
  refine lv_aload_n hx hb dL_law_688 rfl (lv_at hl 0 rfl) ?_
  refine lv_iload hx hb dL_law_689 (lv_at hl 4 rfl) ?_
  refine lv_iconst (v := 1) hx hb dL_law_691 (by decide) ?_
  refine lv_iadd hx hb dL_law_692 ?_
  refine va_sld hx hb hX hbl hbA Z.2 (zl_in (k := 1) rfl (by decide) ht hL) dL_law_693 ?_
  refine lv_aload_n hx hb dL_law_694 rfl (lv_at hl 0 rfl) ?_
  refine lv_iload hx hb dL_law_695 (lv_at hl 4 rfl) ?_
  refine lv_iconst (v := 2) hx hb dL_law_697 (by decide) ?_
  refine lv_iadd hx hb dL_law_698 ?_
  refine va_sld hx hb hX hbl hbA Z.2 (zl_in (k := 2) rfl (by decide) ht hL) dL_law_699 ?_
  refine zc_i Z (zr_V F Z (a := 703) (As := [.int (xs (nI (6 * t) + 1).toNatClampNeg), .int (xs (nI (6 * t) + 2).toNatClampNeg)]) (zcX12_falls l D A0 (xs (nI (6 * t) + 1).toNatClampNeg) (xs (nI (6 * t) + 2).toNatClampNeg) _ b2.1 b2.2 hb2) zBX12_falls zq1713 (by decide) zs_703 zC12.1 rfl ⟨⟨rfl, rfl⟩, Nat.le_of_ble_eq_true rfl, Nat.le_of_ble_eq_true rfl⟩ hl.1 rfl (Nat.le_of_ble_eq_true rfl) dL_law_700 (zr0 hce hsl)) (fun _ _ Z => ?_)
  refine lv_icmp_eq (tgt := 1498) hx hb dL_law_703 (by decide) (fun _ => ?_) (fun h9 => absurd e2.symm h9)
  refine W.widen (k := ce + 1) (n := sl + 6) (by omega) (by omega) ?_
  exact kk _ _ _ Z hI3 _ hl
set_option maxHeartbeats 4000000 in
set_option maxRecDepth 100000 in
theorem zl_13 {p : Program} {l : Launch} {e : Env} {s : State} {m : MethodId} {below : List Frame} {meth : Method} {c : Code} {b L A0 : Nat} {xs : Nat → Int32} {D : va_G} (F : zx p s m c cL_law 7 #[Value.ref b] RL D A0) (hX : va_X b L xs s s.heap) (hbl : b < s.heap.size) (hbA : ¬ zA A0 b) (hL : L ≤ 3072) {t : Nat} (ht : 6 * t + 6 ≤ L) {ce sl : Nat} (hce : ce + 1 ≤ 601024) (hsl : sl + 6 ≤ 7293034) {σ : Mm} {H : Heap} {locs : List Loc} (Z : zh D A0 σ GF 740 s.heap H locs) (hI : Iv (31 * t) σ) {ls : Array Slot} (hl : lv_has ls 7 [(0, .ref b), (1, .ref (A0 + 0)), (2, .ref (A0 + 703)), (3, .ref (A0 + 739)), (4, .int (nI (6 * t)))]) {Q : State → Prop}
    (kk : ∀ (H1 : Heap) (locs1 : List Loc) (σ1 : Mm), zh D A0 σ1 GF 740 s.heap H1 locs1 → Iv (31 * (t + 1)) σ1 → ∀ ls, lv_has ls 7 [(0, .ref b), (1, .ref (A0 + 0)), (2, .ref (A0 + 703)), (3, .ref (A0 + 739)), (4, .int (nI (6 * t)))] → W p l e room_1 s m #[Value.ref b] below meth c H1 locs1 (ce + 1) (sl + 6) Q (F0 m 1498 ls [])) : W p l e room_1 s m #[Value.ref b] below meth c H locs ce sl Q (F0 m 708 ls []) := by
  have hx := F.1.1
  have hb := F.1.2.1
  have hown := F.1.2.2.2.1
  have hts := F.1.2.2.2.2
  obtain ⟨a, ha, b2, hb2, e2, hI2⟩ := q_ring (B := 31 * t) (by omega) (xs (nI (6 * t) + 1).toNatClampNeg) σ hI
  have hI3 : Iv (31 * (t + 1)) b2.2 := by rw [Nat.mul_succ]; exact hI2
  refine lv_aload_n hx hb dL_law_708 rfl (lv_at hl 1 rfl) ?_
  refine lv_aload_n hx hb dL_law_709 rfl (lv_at hl 0 rfl) ?_
  refine lv_iload hx hb dL_law_710 (lv_at hl 4 rfl) ?_
  refine lv_iconst (v := 1) hx hb dL_law_712 (by decide) ?_
  refine lv_iadd hx hb dL_law_713 ?_
  refine va_sld hx hb hX hbl hbA Z.2 (zl_in (k := 1) rfl (by decide) ht hL) dL_law_714 ?_
  refine zc_i Z (zr_V F Z (a := 0) (As := [.int (xs (nI (6 * t) + 1).toNatClampNeg)]) (zcX11_ring l D A0 (xs (nI (6 * t) + 1).toNatClampNeg) σ a.1 a.2 ha) zBX11_ring zq974 (by decide) zs_0 zC11.1 rfl ⟨⟨rfl, rfl⟩, Nat.le_of_ble_eq_true rfl, Nat.le_of_ble_eq_true rfl⟩ hl.1 rfl (Nat.le_of_ble_eq_true rfl) dL_law_715 (zr0 hce hsl)) (fun _ _ Z => ?_)
  refine lv_aload_n hx hb dL_law_718 rfl (lv_at hl 2 rfl) ?_
  refine lv_aload_n hx hb dL_law_719 rfl (lv_at hl 0 rfl) ?_
  refine lv_iload hx hb dL_law_720 (lv_at hl 4 rfl) ?_
  refine lv_iconst (v := 1) hx hb dL_law_722 (by decide) ?_
  refine lv_iadd hx hb dL_law_723 ?_
  refine va_sld hx hb hX hbl hbA Z.2 (zl_in (k := 1) rfl (by decide) ht hL) dL_law_724 ?_
  refine zc_i Z (zr_V F Z (a := 703) (As := [.int (xs (nI (6 * t) + 1).toNatClampNeg)]) (zcX12_ring l D A0 (xs (nI (6 * t) + 1).toNatClampNeg) _ b2.1 b2.2 hb2) zBX12_ring zq1721 (by decide) zs_703 zC12.1 rfl ⟨⟨rfl, rfl⟩, Nat.le_of_ble_eq_true rfl, Nat.le_of_ble_eq_true rfl⟩ hl.1 rfl (Nat.le_of_ble_eq_true rfl) dL_law_725 (zr0 hce hsl)) (fun _ _ Z => ?_)
  refine lv_icmp_eq (tgt := 1498) hx hb dL_law_728 (by decide) (fun _ => ?_) (fun h9 => absurd e2.symm h9)
  refine W.widen (k := ce + 1) (n := sl + 6) (by omega) (by omega) ?_
  exact kk _ _ _ Z hI3 _ hl
set_option maxHeartbeats 4000000 in
set_option maxRecDepth 100000 in
theorem zl_14 {p : Program} {l : Launch} {e : Env} {s : State} {m : MethodId} {below : List Frame} {meth : Method} {c : Code} {b L A0 : Nat} {xs : Nat → Int32} {D : va_G} (F : zx p s m c cL_law 7 #[Value.ref b] RL D A0) (hX : va_X b L xs s s.heap) (hbl : b < s.heap.size) (hbA : ¬ zA A0 b) (hL : L ≤ 3072) {t : Nat} (ht : 6 * t + 6 ≤ L) {ce sl : Nat} (hce : ce + 1 ≤ 601024) (hsl : sl + 6 ≤ 7293034) {σ : Mm} {H : Heap} {locs : List Loc} (Z : zh D A0 σ GF 740 s.heap H locs) (hI : Iv (31 * t) σ) {ls : Array Slot} (hl : lv_has ls 7 [(0, .ref b), (1, .ref (A0 + 0)), (2, .ref (A0 + 703)), (3, .ref (A0 + 739)), (4, .int (nI (6 * t)))]) {Q : State → Prop}
    (kk : ∀ (H1 : Heap) (locs1 : List Loc) (σ1 : Mm), zh D A0 σ1 GF 740 s.heap H1 locs1 → Iv (31 * (t + 1)) σ1 → ∀ ls, lv_has ls 7 [(0, .ref b), (1, .ref (A0 + 0)), (2, .ref (A0 + 703)), (3, .ref (A0 + 739)), (4, .int (nI (6 * t)))] → W p l e room_1 s m #[Value.ref b] below meth c H1 locs1 (ce + 1) (sl + 6) Q (F0 m 1498 ls [])) : W p l e room_1 s m #[Value.ref b] below meth c H locs ce sl Q (F0 m 733 ls []) := by
  have hx := F.1.1
  have hb := F.1.2.1
  have hown := F.1.2.2.2.1
  have hts := F.1.2.2.2.2
  obtain ⟨a, ha, b2, hb2, e2, hI2⟩ := q_best (B := 31 * t) (by omega) (xs (nI (6 * t) + 1).toNatClampNeg) (xs (nI (6 * t) + 2).toNatClampNeg) (xs (nI (6 * t) + 3).toNatClampNeg) σ hI
  have hI3 : Iv (31 * (t + 1)) b2.2 := by rw [Nat.mul_succ]; exact hI2
  refine lv_aload_n hx hb dL_law_733 rfl (lv_at hl 1 rfl) ?_
  refine lv_aload_n hx hb dL_law_734 rfl (lv_at hl 0 rfl) ?_
  refine lv_iload hx hb dL_law_735 (lv_at hl 4 rfl) ?_
  refine lv_iconst (v := 1) hx hb dL_law_737 (by decide) ?_
  refine lv_iadd hx hb dL_law_738 ?_
  refine va_sld hx hb hX hbl hbA Z.2 (zl_in (k := 1) rfl (by decide) ht hL) dL_law_739 ?_
  refine lv_aload_n hx hb dL_law_740 rfl (lv_at hl 0 rfl) ?_
  refine lv_iload hx hb dL_law_741 (lv_at hl 4 rfl) ?_
  refine lv_iconst (v := 2) hx hb dL_law_743 (by decide) ?_
  refine lv_iadd hx hb dL_law_744 ?_
  refine va_sld hx hb hX hbl hbA Z.2 (zl_in (k := 2) rfl (by decide) ht hL) dL_law_745 ?_
  refine lv_aload_n hx hb dL_law_746 rfl (lv_at hl 0 rfl) ?_
  refine lv_iload hx hb dL_law_747 (lv_at hl 4 rfl) ?_
  refine lv_iconst (v := 3) hx hb dL_law_749 (by decide) ?_
  refine lv_iadd hx hb dL_law_750 ?_
  refine va_sld hx hb hX hbl hbA Z.2 (zl_in (k := 3) rfl (by decide) ht hL) dL_law_751 ?_
  refine zc_i Z (zr_V F Z (a := 0) (As := [.int (xs (nI (6 * t) + 1).toNatClampNeg), .int (xs (nI (6 * t) + 2).toNatClampNeg), .int (xs (nI (6 * t) + 3).toNatClampNeg)]) (zcX11_best l D A0 (xs (nI (6 * t) + 1).toNatClampNeg) (xs (nI (6 * t) + 2).toNatClampNeg) (xs (nI (6 * t) + 3).toNatClampNeg) σ a.1 a.2 ha) zBX11_best zq997 (by decide) zs_0 zC11.1 rfl ⟨⟨rfl, rfl⟩, Nat.le_of_ble_eq_true rfl, Nat.le_of_ble_eq_true rfl⟩ hl.1 rfl (Nat.le_of_ble_eq_true rfl) dL_law_752 (zr0 hce hsl)) (fun _ _ Z => ?_)
  refine lv_aload_n hx hb dL_law_755 rfl (lv_at hl 2 rfl) ?_
  refine lv_aload_n hx hb dL_law_756 rfl (lv_at hl 0 rfl) ?_
  refine lv_iload hx hb dL_law_757 (lv_at hl 4 rfl) ?_
  refine lv_iconst (v := 1) hx hb dL_law_759 (by decide) ?_
  refine lv_iadd hx hb dL_law_760 ?_
  refine va_sld hx hb hX hbl hbA Z.2 (zl_in (k := 1) rfl (by decide) ht hL) dL_law_761 ?_
  refine lv_aload_n hx hb dL_law_762 rfl (lv_at hl 0 rfl) ?_
  refine lv_iload hx hb dL_law_763 (lv_at hl 4 rfl) ?_
  refine lv_iconst (v := 2) hx hb dL_law_765 (by decide) ?_
  refine lv_iadd hx hb dL_law_766 ?_
  refine va_sld hx hb hX hbl hbA Z.2 (zl_in (k := 2) rfl (by decide) ht hL) dL_law_767 ?_
  refine lv_aload_n hx hb dL_law_768 rfl (lv_at hl 0 rfl) ?_
  refine lv_iload hx hb dL_law_769 (lv_at hl 4 rfl) ?_
  refine lv_iconst (v := 3) hx hb dL_law_771 (by decide) ?_
  refine lv_iadd hx hb dL_law_772 ?_
  refine va_sld hx hb hX hbl hbA Z.2 (zl_in (k := 3) rfl (by decide) ht hL) dL_law_773 ?_
  refine zc_i Z (zr_V F Z (a := 703) (As := [.int (xs (nI (6 * t) + 1).toNatClampNeg), .int (xs (nI (6 * t) + 2).toNatClampNeg), .int (xs (nI (6 * t) + 3).toNatClampNeg)]) (zcX12_best l D A0 (xs (nI (6 * t) + 1).toNatClampNeg) (xs (nI (6 * t) + 2).toNatClampNeg) (xs (nI (6 * t) + 3).toNatClampNeg) _ b2.1 b2.2 hb2) zBX12_best zq1733 (by decide) zs_703 zC12.1 rfl ⟨⟨rfl, rfl⟩, Nat.le_of_ble_eq_true rfl, Nat.le_of_ble_eq_true rfl⟩ hl.1 rfl (Nat.le_of_ble_eq_true rfl) dL_law_774 (zr0 hce hsl)) (fun _ _ Z => ?_)
  refine lv_icmp_eq (tgt := 1498) hx hb dL_law_777 (by decide) (fun _ => ?_) (fun h9 => absurd e2.symm h9)
  refine W.widen (k := ce + 1) (n := sl + 6) (by omega) (by omega) ?_
  exact kk _ _ _ Z hI3 _ hl
set_option maxHeartbeats 4000000 in
set_option maxRecDepth 100000 in
theorem zl_15 {p : Program} {l : Launch} {e : Env} {s : State} {m : MethodId} {below : List Frame} {meth : Method} {c : Code} {b L A0 : Nat} {xs : Nat → Int32} {D : va_G} (F : zx p s m c cL_law 7 #[Value.ref b] RL D A0) (hX : va_X b L xs s s.heap) (hbl : b < s.heap.size) (hbA : ¬ zA A0 b) (hL : L ≤ 3072) {t : Nat} (ht : 6 * t + 6 ≤ L) {ce sl : Nat} (hce : ce + 1 ≤ 601024) (hsl : sl + 6 ≤ 7293034) {σ : Mm} {H : Heap} {locs : List Loc} (Z : zh D A0 σ GF 740 s.heap H locs) (hI : Iv (31 * t) σ) {ls : Array Slot} (hl : lv_has ls 7 [(0, .ref b), (1, .ref (A0 + 0)), (2, .ref (A0 + 703)), (3, .ref (A0 + 739)), (4, .int (nI (6 * t)))]) {Q : State → Prop}
    (kk : ∀ (H1 : Heap) (locs1 : List Loc) (σ1 : Mm), zh D A0 σ1 GF 740 s.heap H1 locs1 → Iv (31 * (t + 1)) σ1 → ∀ ls, lv_has ls 7 [(0, .ref b), (1, .ref (A0 + 0)), (2, .ref (A0 + 703)), (3, .ref (A0 + 739)), (4, .int (nI (6 * t)))] → W p l e room_1 s m #[Value.ref b] below meth c H1 locs1 (ce + 1) (sl + 6) Q (F0 m 1498 ls [])) : W p l e room_1 s m #[Value.ref b] below meth c H locs ce sl Q (F0 m 782 ls []) := by
  have hx := F.1.1
  have hb := F.1.2.1
  have hown := F.1.2.2.2.1
  have hts := F.1.2.2.2.2
  obtain ⟨a, ha, b2, hb2, e2, hI2⟩ := q_rest (B := 31 * t) (by omega) (xs (nI (6 * t) + 1).toNatClampNeg) σ hI
  have hI3 : Iv (31 * (t + 1)) b2.2 := by rw [Nat.mul_succ]; exact hI2
  refine lv_aload_n hx hb dL_law_782 rfl (lv_at hl 1 rfl) ?_
  refine lv_aload_n hx hb dL_law_783 rfl (lv_at hl 0 rfl) ?_
  refine lv_iload hx hb dL_law_784 (lv_at hl 4 rfl) ?_
  refine lv_iconst (v := 1) hx hb dL_law_786 (by decide) ?_
  refine lv_iadd hx hb dL_law_787 ?_
  refine va_sld hx hb hX hbl hbA Z.2 (zl_in (k := 1) rfl (by decide) ht hL) dL_law_788 ?_
  refine zc_i Z (zr_V F Z (a := 0) (As := [.int (xs (nI (6 * t) + 1).toNatClampNeg)]) (zcX11_rest l D A0 (xs (nI (6 * t) + 1).toNatClampNeg) σ a.1 a.2 ha) zBX11_rest zq1011 (by decide) zs_0 zC11.1 rfl ⟨⟨rfl, rfl⟩, Nat.le_of_ble_eq_true rfl, Nat.le_of_ble_eq_true rfl⟩ hl.1 rfl (Nat.le_of_ble_eq_true rfl) dL_law_789 (zr0 hce hsl)) (fun _ _ Z => ?_)
  refine lv_aload_n hx hb dL_law_792 rfl (lv_at hl 2 rfl) ?_
  refine lv_aload_n hx hb dL_law_793 rfl (lv_at hl 0 rfl) ?_
  refine lv_iload hx hb dL_law_794 (lv_at hl 4 rfl) ?_
  refine lv_iconst (v := 1) hx hb dL_law_796 (by decide) ?_
  refine lv_iadd hx hb dL_law_797 ?_
  refine va_sld hx hb hX hbl hbA Z.2 (zl_in (k := 1) rfl (by decide) ht hL) dL_law_798 ?_
  refine zc_i Z (zr_V F Z (a := 703) (As := [.int (xs (nI (6 * t) + 1).toNatClampNeg)]) (zcX12_rest l D A0 (xs (nI (6 * t) + 1).toNatClampNeg) _ b2.1 b2.2 hb2) zBX12_rest zq1742 (by decide) zs_703 zC12.1 rfl ⟨⟨rfl, rfl⟩, Nat.le_of_ble_eq_true rfl, Nat.le_of_ble_eq_true rfl⟩ hl.1 rfl (Nat.le_of_ble_eq_true rfl) dL_law_799 (zr0 hce hsl)) (fun _ _ Z => ?_)
  refine lv_icmp_eq (tgt := 1498) hx hb dL_law_802 (by decide) (fun _ => ?_) (fun h9 => absurd e2.symm h9)
  refine W.widen (k := ce + 1) (n := sl + 6) (by omega) (by omega) ?_
  exact kk _ _ _ Z hI3 _ hl
set_option maxHeartbeats 4000000 in
set_option maxRecDepth 100000 in
theorem zl_16 {p : Program} {l : Launch} {e : Env} {s : State} {m : MethodId} {below : List Frame} {meth : Method} {c : Code} {b L A0 : Nat} {xs : Nat → Int32} {D : va_G} (F : zx p s m c cL_law 7 #[Value.ref b] RL D A0) (hX : va_X b L xs s s.heap) (hbl : b < s.heap.size) (hbA : ¬ zA A0 b) (hL : L ≤ 3072) {t : Nat} (ht : 6 * t + 6 ≤ L) {ce sl : Nat} (hce : ce + 1 ≤ 601024) (hsl : sl + 6 ≤ 7293034) {σ : Mm} {H : Heap} {locs : List Loc} (Z : zh D A0 σ GF 740 s.heap H locs) (hI : Iv (31 * t) σ) {ls : Array Slot} (hl : lv_has ls 7 [(0, .ref b), (1, .ref (A0 + 0)), (2, .ref (A0 + 703)), (3, .ref (A0 + 739)), (4, .int (nI (6 * t)))]) {Q : State → Prop}
    (kk : ∀ (H1 : Heap) (locs1 : List Loc) (σ1 : Mm), zh D A0 σ1 GF 740 s.heap H1 locs1 → Iv (31 * (t + 1)) σ1 → ∀ ls, lv_has ls 7 [(0, .ref b), (1, .ref (A0 + 0)), (2, .ref (A0 + 703)), (3, .ref (A0 + 739)), (4, .int (nI (6 * t)))] → W p l e room_1 s m #[Value.ref b] below meth c H1 locs1 (ce + 1) (sl + 6) Q (F0 m 1498 ls [])) : W p l e room_1 s m #[Value.ref b] below meth c H locs ce sl Q (F0 m 807 ls []) := by
  have hx := F.1.1
  have hb := F.1.2.1
  have hown := F.1.2.2.2.1
  have hts := F.1.2.2.2.2
  obtain ⟨a, ha, b2, hb2, e2, hI2⟩ := q_fool (B := 31 * t) (by omega) (xs (nI (6 * t) + 1).toNatClampNeg) (xs (nI (6 * t) + 2).toNatClampNeg) (xs (nI (6 * t) + 3).toNatClampNeg) σ hI
  have hI3 : Iv (31 * (t + 1)) b2.2 := by rw [Nat.mul_succ]; exact hI2
  refine lv_aload_n hx hb dL_law_807 rfl (lv_at hl 1 rfl) ?_
  refine lv_aload_n hx hb dL_law_808 rfl (lv_at hl 0 rfl) ?_
  refine lv_iload hx hb dL_law_809 (lv_at hl 4 rfl) ?_
  refine lv_iconst (v := 1) hx hb dL_law_811 (by decide) ?_
  refine lv_iadd hx hb dL_law_812 ?_
  refine va_sld hx hb hX hbl hbA Z.2 (zl_in (k := 1) rfl (by decide) ht hL) dL_law_813 ?_
  refine lv_aload_n hx hb dL_law_814 rfl (lv_at hl 0 rfl) ?_
  refine lv_iload hx hb dL_law_815 (lv_at hl 4 rfl) ?_
  refine lv_iconst (v := 2) hx hb dL_law_817 (by decide) ?_
  refine lv_iadd hx hb dL_law_818 ?_
  refine va_sld hx hb hX hbl hbA Z.2 (zl_in (k := 2) rfl (by decide) ht hL) dL_law_819 ?_
  refine lv_aload_n hx hb dL_law_820 rfl (lv_at hl 0 rfl) ?_
  refine lv_iload hx hb dL_law_821 (lv_at hl 4 rfl) ?_
  refine lv_iconst (v := 3) hx hb dL_law_823 (by decide) ?_
  refine lv_iadd hx hb dL_law_824 ?_
  refine va_sld hx hb hX hbl hbA Z.2 (zl_in (k := 3) rfl (by decide) ht hL) dL_law_825 ?_
  refine zc_i Z (zr_V F Z (a := 0) (As := [.int (xs (nI (6 * t) + 1).toNatClampNeg), .int (xs (nI (6 * t) + 2).toNatClampNeg), .int (xs (nI (6 * t) + 3).toNatClampNeg)]) (zcX11_fool l D A0 (xs (nI (6 * t) + 1).toNatClampNeg) (xs (nI (6 * t) + 2).toNatClampNeg) (xs (nI (6 * t) + 3).toNatClampNeg) σ a.1 a.2 ha) zBX11_fool zq1036 (by decide) zs_0 zC11.1 rfl ⟨⟨rfl, rfl⟩, Nat.le_of_ble_eq_true rfl, Nat.le_of_ble_eq_true rfl⟩ hl.1 rfl (Nat.le_of_ble_eq_true rfl) dL_law_826 (zr0 hce hsl)) (fun _ _ Z => ?_)
  refine lv_aload_n hx hb dL_law_829 rfl (lv_at hl 2 rfl) ?_
  refine lv_aload_n hx hb dL_law_830 rfl (lv_at hl 0 rfl) ?_
  refine lv_iload hx hb dL_law_831 (lv_at hl 4 rfl) ?_
  refine lv_iconst (v := 1) hx hb dL_law_833 (by decide) ?_
  refine lv_iadd hx hb dL_law_834 ?_
  refine va_sld hx hb hX hbl hbA Z.2 (zl_in (k := 1) rfl (by decide) ht hL) dL_law_835 ?_
  refine lv_aload_n hx hb dL_law_836 rfl (lv_at hl 0 rfl) ?_
  refine lv_iload hx hb dL_law_837 (lv_at hl 4 rfl) ?_
  refine lv_iconst (v := 2) hx hb dL_law_839 (by decide) ?_
  refine lv_iadd hx hb dL_law_840 ?_
  refine va_sld hx hb hX hbl hbA Z.2 (zl_in (k := 2) rfl (by decide) ht hL) dL_law_841 ?_
  refine lv_aload_n hx hb dL_law_842 rfl (lv_at hl 0 rfl) ?_
  refine lv_iload hx hb dL_law_843 (lv_at hl 4 rfl) ?_
  refine lv_iconst (v := 3) hx hb dL_law_845 (by decide) ?_
  refine lv_iadd hx hb dL_law_846 ?_
  refine va_sld hx hb hX hbl hbA Z.2 (zl_in (k := 3) rfl (by decide) ht hL) dL_law_847 ?_
  refine zc_i Z (zr_V F Z (a := 703) (As := [.int (xs (nI (6 * t) + 1).toNatClampNeg), .int (xs (nI (6 * t) + 2).toNatClampNeg), .int (xs (nI (6 * t) + 3).toNatClampNeg)]) (zcX12_fool l D A0 (xs (nI (6 * t) + 1).toNatClampNeg) (xs (nI (6 * t) + 2).toNatClampNeg) (xs (nI (6 * t) + 3).toNatClampNeg) _ b2.1 b2.2 hb2) zBX12_fool zq1758 (by decide) zs_703 zC12.1 rfl ⟨⟨rfl, rfl⟩, Nat.le_of_ble_eq_true rfl, Nat.le_of_ble_eq_true rfl⟩ hl.1 rfl (Nat.le_of_ble_eq_true rfl) dL_law_848 (zr0 hce hsl)) (fun _ _ Z => ?_)
  refine lv_icmp_eq (tgt := 1498) hx hb dL_law_851 (by decide) (fun _ => ?_) (fun h9 => absurd e2.symm h9)
  refine W.widen (k := ce + 1) (n := sl + 6) (by omega) (by omega) ?_
  exact kk _ _ _ Z hI3 _ hl
set_option maxHeartbeats 4000000 in
set_option maxRecDepth 100000 in
theorem zl_17 {p : Program} {l : Launch} {e : Env} {s : State} {m : MethodId} {below : List Frame} {meth : Method} {c : Code} {b L A0 : Nat} {xs : Nat → Int32} {D : va_G} (F : zx p s m c cL_law 7 #[Value.ref b] RL D A0) (hX : va_X b L xs s s.heap) (hbl : b < s.heap.size) (hbA : ¬ zA A0 b) (hL : L ≤ 3072) {t : Nat} (ht : 6 * t + 6 ≤ L) {ce sl : Nat} (hce : ce + 1 ≤ 601024) (hsl : sl + 6 ≤ 7293034) {σ : Mm} {H : Heap} {locs : List Loc} (Z : zh D A0 σ GF 740 s.heap H locs) (hI : Iv (31 * t) σ) {ls : Array Slot} (hl : lv_has ls 7 [(0, .ref b), (1, .ref (A0 + 0)), (2, .ref (A0 + 703)), (3, .ref (A0 + 739)), (4, .int (nI (6 * t)))]) {Q : State → Prop}
    (kk : ∀ (H1 : Heap) (locs1 : List Loc) (σ1 : Mm), zh D A0 σ1 GF 740 s.heap H1 locs1 → Iv (31 * (t + 1)) σ1 → ∀ ls, lv_has ls 7 [(0, .ref b), (1, .ref (A0 + 0)), (2, .ref (A0 + 703)), (3, .ref (A0 + 739)), (4, .int (nI (6 * t)))] → W p l e room_1 s m #[Value.ref b] below meth c H1 locs1 (ce + 1) (sl + 6) Q (F0 m 1498 ls [])) : W p l e room_1 s m #[Value.ref b] below meth c H locs ce sl Q (F0 m 856 ls []) := by
  have hx := F.1.1
  have hb := F.1.2.1
  have hown := F.1.2.2.2.1
  have hts := F.1.2.2.2.2
  obtain ⟨a, ha, b2, hb2, e2, hI2⟩ := q_up (B := 31 * t) (by omega) (xs (nI (6 * t) + 1).toNatClampNeg) (xs (nI (6 * t) + 2).toNatClampNeg) σ hI
  have hI3 : Iv (31 * (t + 1)) b2.2 := by rw [Nat.mul_succ]; exact hI2
  refine lv_aload_n hx hb dL_law_856 rfl (lv_at hl 1 rfl) ?_
  refine lv_aload_n hx hb dL_law_857 rfl (lv_at hl 0 rfl) ?_
  refine lv_iload hx hb dL_law_858 (lv_at hl 4 rfl) ?_
  refine lv_iconst (v := 1) hx hb dL_law_860 (by decide) ?_
  refine lv_iadd hx hb dL_law_861 ?_
  refine va_sld hx hb hX hbl hbA Z.2 (zl_in (k := 1) rfl (by decide) ht hL) dL_law_862 ?_
  refine lv_aload_n hx hb dL_law_863 rfl (lv_at hl 0 rfl) ?_
  refine lv_iload hx hb dL_law_864 (lv_at hl 4 rfl) ?_
  refine lv_iconst (v := 2) hx hb dL_law_866 (by decide) ?_
  refine lv_iadd hx hb dL_law_867 ?_
  refine va_sld hx hb hX hbl hbA Z.2 (zl_in (k := 2) rfl (by decide) ht hL) dL_law_868 ?_
  refine zc_i Z (zr_V F Z (a := 0) (As := [.int (xs (nI (6 * t) + 1).toNatClampNeg), .int (xs (nI (6 * t) + 2).toNatClampNeg)]) (zcX11_up l D A0 (xs (nI (6 * t) + 1).toNatClampNeg) (xs (nI (6 * t) + 2).toNatClampNeg) σ a.1 a.2 ha) zBX11_up zq1055 (by decide) zs_0 zC11.1 rfl ⟨⟨rfl, rfl⟩, Nat.le_of_ble_eq_true rfl, Nat.le_of_ble_eq_true rfl⟩ hl.1 rfl (Nat.le_of_ble_eq_true rfl) dL_law_869 (zr0 hce hsl)) (fun _ _ Z => ?_)
  refine lv_aload_n hx hb dL_law_872 rfl (lv_at hl 2 rfl) ?_
  refine lv_aload_n hx hb dL_law_873 rfl (lv_at hl 0 rfl) ?_
  refine lv_iload hx hb dL_law_874 (lv_at hl 4 rfl) ?_
  refine lv_iconst (v := 1) hx hb dL_law_876 (by decide) ?_
  refine lv_iadd hx hb dL_law_877 ?_
  refine va_sld hx hb hX hbl hbA Z.2 (zl_in (k := 1) rfl (by decide) ht hL) dL_law_878 ?_
  refine lv_aload_n hx hb dL_law_879 rfl (lv_at hl 0 rfl) ?_
  refine lv_iload hx hb dL_law_880 (lv_at hl 4 rfl) ?_
  refine lv_iconst (v := 2) hx hb dL_law_882 (by decide) ?_
  refine lv_iadd hx hb dL_law_883 ?_
  refine va_sld hx hb hX hbl hbA Z.2 (zl_in (k := 2) rfl (by decide) ht hL) dL_law_884 ?_
  refine zc_i Z (zr_V F Z (a := 703) (As := [.int (xs (nI (6 * t) + 1).toNatClampNeg), .int (xs (nI (6 * t) + 2).toNatClampNeg)]) (zcX12_up l D A0 (xs (nI (6 * t) + 1).toNatClampNeg) (xs (nI (6 * t) + 2).toNatClampNeg) _ b2.1 b2.2 hb2) zBX12_up zq1766 (by decide) zs_703 zC12.1 rfl ⟨⟨rfl, rfl⟩, Nat.le_of_ble_eq_true rfl, Nat.le_of_ble_eq_true rfl⟩ hl.1 rfl (Nat.le_of_ble_eq_true rfl) dL_law_885 (zr0 hce hsl)) (fun _ _ Z => ?_)
  refine lv_icmp_eq (tgt := 1498) hx hb dL_law_888 (by decide) (fun _ => ?_) (fun h9 => absurd e2.symm h9)
  refine W.widen (k := ce + 1) (n := sl + 6) (by omega) (by omega) ?_
  exact kk _ _ _ Z hI3 _ hl
