set_option maxHeartbeats 4000000 in
set_option maxRecDepth 100000 in
theorem zl_18 {p : Program} {l : Launch} {e : Env} {s : State} {m : MethodId} {below : List Frame} {meth : Method} {c : Code} {b L A0 : Nat} {xs : Nat → Int32} {D : va_G} (F : zx p s m c cL_law 7 #[Value.ref b] RL D A0) (hX : va_X b L xs s s.heap) (hbl : b < s.heap.size) (hbA : ¬ zA A0 b) (hL : L ≤ 3072) {t : Nat} (ht : 6 * t + 6 ≤ L) {ce sl : Nat} (hce : ce + 1 ≤ 601024) (hsl : sl + 6 ≤ 7293034) {σ : Mm} {H : Heap} {locs : List Loc} (Z : zh D A0 σ GF 740 s.heap H locs) (hI : Iv (31 * t) σ) {ls : Array Slot} (hl : lv_has ls 7 [(0, .ref b), (1, .ref (A0 + 0)), (2, .ref (A0 + 703)), (3, .ref (A0 + 739)), (4, .int (nI (6 * t)))]) {Q : State → Prop}
    (kk : ∀ (H1 : Heap) (locs1 : List Loc) (σ1 : Mm), zh D A0 σ1 GF 740 s.heap H1 locs1 → Iv (31 * (t + 1)) σ1 → ∀ ls, lv_has ls 7 [(0, .ref b), (1, .ref (A0 + 0)), (2, .ref (A0 + 703)), (3, .ref (A0 + 739)), (4, .int (nI (6 * t)))] → W p l e room_1 s m #[Value.ref b] below meth c H1 locs1 (ce + 1) (sl + 6) Q (F0 m 1498 ls [])) : W p l e room_1 s m #[Value.ref b] below meth c H locs ce sl Q (F0 m 893 ls []) := by
  have hx := F.1.1
  have hb := F.1.2.1
  have hown := F.1.2.2.2.1
  have hts := F.1.2.2.2.2
  obtain ⟨a, ha, b2, hb2, e2, hI2⟩ := q_when (B := 31 * t) (by omega) (xs (nI (6 * t) + 1).toNatClampNeg) (xs (nI (6 * t) + 2).toNatClampNeg) σ hI
  have hI3 : Iv (31 * (t + 1)) b2.2 := by rw [Nat.mul_succ]; exact hI2
  refine lv_aload_n hx hb dL_law_893 rfl (lv_at hl 1 rfl) ?_
  refine lv_aload_n hx hb dL_law_894 rfl (lv_at hl 0 rfl) ?_
  refine lv_iload hx hb dL_law_895 (lv_at hl 4 rfl) ?_
  refine lv_iconst (v := 1) hx hb dL_law_897 (by decide) ?_
  refine lv_iadd hx hb dL_law_898 ?_
  refine va_sld hx hb hX hbl hbA Z.2 (zl_in (k := 1) rfl (by decide) ht hL) dL_law_899 ?_
  refine lv_aload_n hx hb dL_law_900 rfl (lv_at hl 0 rfl) ?_
  refine lv_iload hx hb dL_law_901 (lv_at hl 4 rfl) ?_
  refine lv_iconst (v := 2) hx hb dL_law_903 (by decide) ?_
  refine lv_iadd hx hb dL_law_904 ?_
  refine va_sld hx hb hX hbl hbA Z.2 (zl_in (k := 2) rfl (by decide) ht hL) dL_law_905 ?_
  refine zc_i Z (zr_V F Z (a := 0) (As := [.int (xs (nI (6 * t) + 1).toNatClampNeg), .int (xs (nI (6 * t) + 2).toNatClampNeg)]) (zcX11_when l D A0 (xs (nI (6 * t) + 1).toNatClampNeg) (xs (nI (6 * t) + 2).toNatClampNeg) σ a.1 a.2 ha) zBX11_when zq1068 (by decide) zs_0 zC11.1 rfl ⟨⟨rfl, rfl⟩, Nat.le_of_ble_eq_true rfl, Nat.le_of_ble_eq_true rfl⟩ hl.1 rfl (Nat.le_of_ble_eq_true rfl) dL_law_906 (zr0 hce hsl)) (fun _ _ Z => ?_)
  refine lv_aload_n hx hb dL_law_909 rfl (lv_at hl 2 rfl) ?_
  refine lv_aload_n hx hb dL_law_910 rfl (lv_at hl 0 rfl) ?_
  refine lv_iload hx hb dL_law_911 (lv_at hl 4 rfl) ?_
  refine lv_iconst (v := 1) hx hb dL_law_913 (by decide) ?_
  refine lv_iadd hx hb dL_law_914 ?_
  refine va_sld hx hb hX hbl hbA Z.2 (zl_in (k := 1) rfl (by decide) ht hL) dL_law_915 ?_
  refine lv_aload_n hx hb dL_law_916 rfl (lv_at hl 0 rfl) ?_
  refine lv_iload hx hb dL_law_917 (lv_at hl 4 rfl) ?_
  refine lv_iconst (v := 2) hx hb dL_law_919 (by decide) ?_
  refine lv_iadd hx hb dL_law_920 ?_
  refine va_sld hx hb hX hbl hbA Z.2 (zl_in (k := 2) rfl (by decide) ht hL) dL_law_921 ?_
  refine zc_i Z (zr_V F Z (a := 703) (As := [.int (xs (nI (6 * t) + 1).toNatClampNeg), .int (xs (nI (6 * t) + 2).toNatClampNeg)]) (zcX12_when l D A0 (xs (nI (6 * t) + 1).toNatClampNeg) (xs (nI (6 * t) + 2).toNatClampNeg) _ b2.1 b2.2 hb2) zBX12_when zq1772 (by decide) zs_703 zC12.1 rfl ⟨⟨rfl, rfl⟩, Nat.le_of_ble_eq_true rfl, Nat.le_of_ble_eq_true rfl⟩ hl.1 rfl (Nat.le_of_ble_eq_true rfl) dL_law_922 (zr0 hce hsl)) (fun _ _ Z => ?_)
  refine lv_icmp_eq (tgt := 1498) hx hb dL_law_925 (by decide) (fun _ => ?_) (fun h9 => absurd e2.symm h9)
  refine W.widen (k := ce + 1) (n := sl + 6) (by omega) (by omega) ?_
  exact kk _ _ _ Z hI3 _ hl
set_option maxHeartbeats 4000000 in
set_option maxRecDepth 100000 in
theorem zl_19 {p : Program} {l : Launch} {e : Env} {s : State} {m : MethodId} {below : List Frame} {meth : Method} {c : Code} {b L A0 : Nat} {xs : Nat → Int32} {D : va_G} (F : zx p s m c cL_law 7 #[Value.ref b] RL D A0) (hX : va_X b L xs s s.heap) (hbl : b < s.heap.size) (hbA : ¬ zA A0 b) (hL : L ≤ 3072) {t : Nat} (ht : 6 * t + 6 ≤ L) {ce sl : Nat} (hce : ce + 1 ≤ 601024) (hsl : sl + 6 ≤ 7293034) {σ : Mm} {H : Heap} {locs : List Loc} (Z : zh D A0 σ GF 740 s.heap H locs) (hI : Iv (31 * t) σ) {ls : Array Slot} (hl : lv_has ls 7 [(0, .ref b), (1, .ref (A0 + 0)), (2, .ref (A0 + 703)), (3, .ref (A0 + 739)), (4, .int (nI (6 * t)))]) {Q : State → Prop}
    (kk : ∀ (H1 : Heap) (locs1 : List Loc) (σ1 : Mm), zh D A0 σ1 GF 740 s.heap H1 locs1 → Iv (31 * (t + 1)) σ1 → ∀ ls, lv_has ls 7 [(0, .ref b), (1, .ref (A0 + 0)), (2, .ref (A0 + 703)), (3, .ref (A0 + 739)), (4, .int (nI (6 * t)))] → W p l e room_1 s m #[Value.ref b] below meth c H1 locs1 (ce + 1) (sl + 6) Q (F0 m 1498 ls [])) : W p l e room_1 s m #[Value.ref b] below meth c H locs ce sl Q (F0 m 930 ls []) := by
  have hx := F.1.1
  have hb := F.1.2.1
  have hown := F.1.2.2.2.1
  have hts := F.1.2.2.2.2
  obtain ⟨a, ha, b2, hb2, e2, hI2⟩ := q_stranger (B := 31 * t) (by omega) (xs (nI (6 * t) + 1).toNatClampNeg) (xs (nI (6 * t) + 2).toNatClampNeg) (xs (nI (6 * t) + 3).toNatClampNeg) σ hI
  have hI3 : Iv (31 * (t + 1)) b2.2 := by rw [Nat.mul_succ]; exact hI2
  refine lv_aload_n hx hb dL_law_930 rfl (lv_at hl 1 rfl) ?_
  refine lv_aload_n hx hb dL_law_931 rfl (lv_at hl 0 rfl) ?_
  refine lv_iload hx hb dL_law_932 (lv_at hl 4 rfl) ?_
  refine lv_iconst (v := 1) hx hb dL_law_934 (by decide) ?_
  refine lv_iadd hx hb dL_law_935 ?_
  refine va_sld hx hb hX hbl hbA Z.2 (zl_in (k := 1) rfl (by decide) ht hL) dL_law_936 ?_
  refine lv_aload_n hx hb dL_law_937 rfl (lv_at hl 0 rfl) ?_
  refine lv_iload hx hb dL_law_938 (lv_at hl 4 rfl) ?_
  refine lv_iconst (v := 2) hx hb dL_law_940 (by decide) ?_
  refine lv_iadd hx hb dL_law_941 ?_
  refine va_sld hx hb hX hbl hbA Z.2 (zl_in (k := 2) rfl (by decide) ht hL) dL_law_942 ?_
  refine lv_aload_n hx hb dL_law_943 rfl (lv_at hl 0 rfl) ?_
  refine lv_iload hx hb dL_law_944 (lv_at hl 4 rfl) ?_
  refine lv_iconst (v := 3) hx hb dL_law_946 (by decide) ?_
  refine lv_iadd hx hb dL_law_947 ?_
  refine va_sld hx hb hX hbl hbA Z.2 (zl_in (k := 3) rfl (by decide) ht hL) dL_law_948 ?_
  refine zc_i Z (zr_V F Z (a := 0) (As := [.int (xs (nI (6 * t) + 1).toNatClampNeg), .int (xs (nI (6 * t) + 2).toNatClampNeg), .int (xs (nI (6 * t) + 3).toNatClampNeg)]) (zcX11_stranger l D A0 (xs (nI (6 * t) + 1).toNatClampNeg) (xs (nI (6 * t) + 2).toNatClampNeg) (xs (nI (6 * t) + 3).toNatClampNeg) σ a.1 a.2 ha) zBX11_stranger zq1072 (by decide) zs_0 zC11.1 rfl ⟨⟨rfl, rfl⟩, Nat.le_of_ble_eq_true rfl, Nat.le_of_ble_eq_true rfl⟩ hl.1 rfl (Nat.le_of_ble_eq_true rfl) dL_law_949 (zr0 hce hsl)) (fun _ _ Z => ?_)
  refine lv_aload_n hx hb dL_law_952 rfl (lv_at hl 2 rfl) ?_
  refine lv_aload_n hx hb dL_law_953 rfl (lv_at hl 0 rfl) ?_
  refine lv_iload hx hb dL_law_954 (lv_at hl 4 rfl) ?_
  refine lv_iconst (v := 1) hx hb dL_law_956 (by decide) ?_
  refine lv_iadd hx hb dL_law_957 ?_
  refine va_sld hx hb hX hbl hbA Z.2 (zl_in (k := 1) rfl (by decide) ht hL) dL_law_958 ?_
  refine lv_aload_n hx hb dL_law_959 rfl (lv_at hl 0 rfl) ?_
  refine lv_iload hx hb dL_law_960 (lv_at hl 4 rfl) ?_
  refine lv_iconst (v := 2) hx hb dL_law_962 (by decide) ?_
  refine lv_iadd hx hb dL_law_963 ?_
  refine va_sld hx hb hX hbl hbA Z.2 (zl_in (k := 2) rfl (by decide) ht hL) dL_law_964 ?_
  refine lv_aload_n hx hb dL_law_965 rfl (lv_at hl 0 rfl) ?_
  refine lv_iload hx hb dL_law_966 (lv_at hl 4 rfl) ?_
  refine lv_iconst (v := 3) hx hb dL_law_968 (by decide) ?_
  refine lv_iadd hx hb dL_law_969 ?_
  refine va_sld hx hb hX hbl hbA Z.2 (zl_in (k := 3) rfl (by decide) ht hL) dL_law_970 ?_
  refine zc_i Z (zr_V F Z (a := 703) (As := [.int (xs (nI (6 * t) + 1).toNatClampNeg), .int (xs (nI (6 * t) + 2).toNatClampNeg), .int (xs (nI (6 * t) + 3).toNatClampNeg)]) (zcX12_stranger l D A0 (xs (nI (6 * t) + 1).toNatClampNeg) (xs (nI (6 * t) + 2).toNatClampNeg) (xs (nI (6 * t) + 3).toNatClampNeg) _ b2.1 b2.2 hb2) zBX12_stranger zq1776 (by decide) zs_703 zC12.1 rfl ⟨⟨rfl, rfl⟩, Nat.le_of_ble_eq_true rfl, Nat.le_of_ble_eq_true rfl⟩ hl.1 rfl (Nat.le_of_ble_eq_true rfl) dL_law_971 (zr0 hce hsl)) (fun _ _ Z => ?_)
  refine lv_icmp_eq (tgt := 1498) hx hb dL_law_974 (by decide) (fun _ => ?_) (fun h9 => absurd e2.symm h9)
  refine W.widen (k := ce + 1) (n := sl + 6) (by omega) (by omega) ?_
  exact kk _ _ _ Z hI3 _ hl
set_option maxHeartbeats 4000000 in
set_option maxRecDepth 100000 in
theorem zl_20 {p : Program} {l : Launch} {e : Env} {s : State} {m : MethodId} {below : List Frame} {meth : Method} {c : Code} {b L A0 : Nat} {xs : Nat → Int32} {D : va_G} (F : zx p s m c cL_law 7 #[Value.ref b] RL D A0) (hX : va_X b L xs s s.heap) (hbl : b < s.heap.size) (hbA : ¬ zA A0 b) (hL : L ≤ 3072) {t : Nat} (ht : 6 * t + 6 ≤ L) {ce sl : Nat} (hce : ce + 1 ≤ 601024) (hsl : sl + 6 ≤ 7293034) {σ : Mm} {H : Heap} {locs : List Loc} (Z : zh D A0 σ GF 740 s.heap H locs) (hI : Iv (31 * t) σ) {ls : Array Slot} (hl : lv_has ls 7 [(0, .ref b), (1, .ref (A0 + 0)), (2, .ref (A0 + 703)), (3, .ref (A0 + 739)), (4, .int (nI (6 * t)))]) {Q : State → Prop}
    (kk : ∀ (H1 : Heap) (locs1 : List Loc) (σ1 : Mm), zh D A0 σ1 GF 740 s.heap H1 locs1 → Iv (31 * (t + 1)) σ1 → ∀ ls, lv_has ls 7 [(0, .ref b), (1, .ref (A0 + 0)), (2, .ref (A0 + 703)), (3, .ref (A0 + 739)), (4, .int (nI (6 * t)))] → W p l e room_1 s m #[Value.ref b] below meth c H1 locs1 (ce + 1) (sl + 6) Q (F0 m 1498 ls [])) : W p l e room_1 s m #[Value.ref b] below meth c H locs ce sl Q (F0 m 979 ls []) := by
  have hx := F.1.1
  have hb := F.1.2.1
  have hown := F.1.2.2.2.1
  have hts := F.1.2.2.2.2
  obtain ⟨a, ha, b2, hb2, e2, hI2⟩ := q_see (B := 31 * t) (xs (nI (6 * t) + 1).toNatClampNeg) (xs (nI (6 * t) + 2).toNatClampNeg) σ hI
  have hI3 : Iv (31 * (t + 1)) b2.2 := by rw [Nat.mul_succ]; exact hI2
  refine lv_aload_n hx hb dL_law_979 rfl (lv_at hl 1 rfl) ?_
  refine lv_aload_n hx hb dL_law_980 rfl (lv_at hl 0 rfl) ?_
  refine lv_iload hx hb dL_law_981 (lv_at hl 4 rfl) ?_
  refine lv_iconst (v := 1) hx hb dL_law_983 (by decide) ?_
  refine lv_iadd hx hb dL_law_984 ?_
  refine va_sld hx hb hX hbl hbA Z.2 (zl_in (k := 1) rfl (by decide) ht hL) dL_law_985 ?_
  refine lv_aload_n hx hb dL_law_986 rfl (lv_at hl 0 rfl) ?_
  refine lv_iload hx hb dL_law_987 (lv_at hl 4 rfl) ?_
  refine lv_iconst (v := 2) hx hb dL_law_989 (by decide) ?_
  refine lv_iadd hx hb dL_law_990 ?_
  refine va_sld hx hb hX hbl hbA Z.2 (zl_in (k := 2) rfl (by decide) ht hL) dL_law_991 ?_
  refine zc_i Z (zr_V F Z (a := 0) (As := [.int (xs (nI (6 * t) + 1).toNatClampNeg), .int (xs (nI (6 * t) + 2).toNatClampNeg)]) (zcX11_see l D A0 (xs (nI (6 * t) + 1).toNatClampNeg) (xs (nI (6 * t) + 2).toNatClampNeg) σ a.1 a.2 ha) zBX11_see zq1080 (by decide) zs_0 zC11.1 rfl ⟨⟨rfl, rfl⟩, Nat.le_of_ble_eq_true rfl, Nat.le_of_ble_eq_true rfl⟩ hl.1 rfl (Nat.le_of_ble_eq_true rfl) dL_law_992 (zr0 hce hsl)) (fun _ _ Z => ?_)
  refine lv_aload_n hx hb dL_law_995 rfl (lv_at hl 2 rfl) ?_
  refine lv_aload_n hx hb dL_law_996 rfl (lv_at hl 0 rfl) ?_
  refine lv_iload hx hb dL_law_997 (lv_at hl 4 rfl) ?_
  refine lv_iconst (v := 1) hx hb dL_law_999 (by decide) ?_
  refine lv_iadd hx hb dL_law_1000 ?_
  refine va_sld hx hb hX hbl hbA Z.2 (zl_in (k := 1) rfl (by decide) ht hL) dL_law_1001 ?_
  refine lv_aload_n hx hb dL_law_1002 rfl (lv_at hl 0 rfl) ?_
  refine lv_iload hx hb dL_law_1003 (lv_at hl 4 rfl) ?_
  refine lv_iconst (v := 2) hx hb dL_law_1005 (by decide) ?_
  refine lv_iadd hx hb dL_law_1006 ?_
  refine va_sld hx hb hX hbl hbA Z.2 (zl_in (k := 2) rfl (by decide) ht hL) dL_law_1007 ?_
  refine zc_i Z (zr_V F Z (a := 703) (As := [.int (xs (nI (6 * t) + 1).toNatClampNeg), .int (xs (nI (6 * t) + 2).toNatClampNeg)]) (zcX12_see l D A0 (xs (nI (6 * t) + 1).toNatClampNeg) (xs (nI (6 * t) + 2).toNatClampNeg) _ b2.1 b2.2 hb2) zBX12_see zq1786 (by decide) zs_703 zC12.1 rfl ⟨⟨rfl, rfl⟩, Nat.le_of_ble_eq_true rfl, Nat.le_of_ble_eq_true rfl⟩ hl.1 rfl (Nat.le_of_ble_eq_true rfl) dL_law_1008 (zr0 hce hsl)) (fun _ _ Z => ?_)
  refine lv_icmp_eq (tgt := 1498) hx hb dL_law_1011 (by decide) (fun _ => ?_) (fun h9 => absurd e2.symm h9)
  refine W.widen (k := ce + 1) (n := sl + 6) (by omega) (by omega) ?_
  exact kk _ _ _ Z hI3 _ hl
set_option maxHeartbeats 4000000 in
set_option maxRecDepth 100000 in
theorem zl_21 {p : Program} {l : Launch} {e : Env} {s : State} {m : MethodId} {below : List Frame} {meth : Method} {c : Code} {b L A0 : Nat} {xs : Nat → Int32} {D : va_G} (F : zx p s m c cL_law 7 #[Value.ref b] RL D A0) (hX : va_X b L xs s s.heap) (hbl : b < s.heap.size) (hbA : ¬ zA A0 b) (hL : L ≤ 3072) {t : Nat} (ht : 6 * t + 6 ≤ L) {ce sl : Nat} (hce : ce + 1 ≤ 601024) (hsl : sl + 6 ≤ 7293034) {σ : Mm} {H : Heap} {locs : List Loc} (Z : zh D A0 σ GF 740 s.heap H locs) (hI : Iv (31 * t) σ) {ls : Array Slot} (hl : lv_has ls 7 [(0, .ref b), (1, .ref (A0 + 0)), (2, .ref (A0 + 703)), (3, .ref (A0 + 739)), (4, .int (nI (6 * t)))]) {Q : State → Prop}
    (kk : ∀ (H1 : Heap) (locs1 : List Loc) (σ1 : Mm), zh D A0 σ1 GF 740 s.heap H1 locs1 → Iv (31 * (t + 1)) σ1 → ∀ ls, lv_has ls 7 [(0, .ref b), (1, .ref (A0 + 0)), (2, .ref (A0 + 703)), (3, .ref (A0 + 739)), (4, .int (nI (6 * t)))] → W p l e room_1 s m #[Value.ref b] below meth c H1 locs1 (ce + 1) (sl + 6) Q (F0 m 1498 ls [])) : W p l e room_1 s m #[Value.ref b] below meth c H locs ce sl Q (F0 m 1016 ls []) := by
  have hx := F.1.1
  have hb := F.1.2.1
  have hown := F.1.2.2.2.1
  have hts := F.1.2.2.2.2
  obtain ⟨a, ha, b2, hb2, e2, hI2⟩ := q_fits (B := 31 * t) (by omega) (xs (nI (6 * t) + 1).toNatClampNeg) σ hI
  have hI3 : Iv (31 * (t + 1)) b2.2 := by rw [Nat.mul_succ]; exact hI2
  refine lv_aload_n hx hb dL_law_1016 rfl (lv_at hl 1 rfl) ?_
  refine lv_aload_n hx hb dL_law_1017 rfl (lv_at hl 0 rfl) ?_
  refine lv_iload hx hb dL_law_1018 (lv_at hl 4 rfl) ?_
  refine lv_iconst (v := 1) hx hb dL_law_1020 (by decide) ?_
  refine lv_iadd hx hb dL_law_1021 ?_
  refine va_sld hx hb hX hbl hbA Z.2 (zl_in (k := 1) rfl (by decide) ht hL) dL_law_1022 ?_
  refine zc_i Z (zr_V F Z (a := 0) (As := [.int (xs (nI (6 * t) + 1).toNatClampNeg)]) (zcX11_fits l D A0 (xs (nI (6 * t) + 1).toNatClampNeg) σ a.1 a.2 ha) zBX11_fits zq1088 (by decide) zs_0 zC11.1 rfl ⟨⟨rfl, rfl⟩, Nat.le_of_ble_eq_true rfl, Nat.le_of_ble_eq_true rfl⟩ hl.1 rfl (Nat.le_of_ble_eq_true rfl) dL_law_1023 (zr0 hce hsl)) (fun _ _ Z => ?_)
  refine lv_aload_n hx hb dL_law_1026 rfl (lv_at hl 2 rfl) ?_
  refine lv_aload_n hx hb dL_law_1027 rfl (lv_at hl 0 rfl) ?_
  refine lv_iload hx hb dL_law_1028 (lv_at hl 4 rfl) ?_
  refine lv_iconst (v := 1) hx hb dL_law_1030 (by decide) ?_
  refine lv_iadd hx hb dL_law_1031 ?_
  refine va_sld hx hb hX hbl hbA Z.2 (zl_in (k := 1) rfl (by decide) ht hL) dL_law_1032 ?_
  refine zc_i Z (zr_V F Z (a := 703) (As := [.int (xs (nI (6 * t) + 1).toNatClampNeg)]) (zcX12_fits l D A0 (xs (nI (6 * t) + 1).toNatClampNeg) _ b2.1 b2.2 hb2) zBX12_fits zq1790 (by decide) zs_703 zC12.1 rfl ⟨⟨rfl, rfl⟩, Nat.le_of_ble_eq_true rfl, Nat.le_of_ble_eq_true rfl⟩ hl.1 rfl (Nat.le_of_ble_eq_true rfl) dL_law_1033 (zr0 hce hsl)) (fun _ _ Z => ?_)
  refine lv_icmp_eq (tgt := 1498) hx hb dL_law_1036 (by decide) (fun _ => ?_) (fun h9 => absurd e2.symm h9)
  refine W.widen (k := ce + 1) (n := sl + 6) (by omega) (by omega) ?_
  exact kk _ _ _ Z hI3 _ hl
set_option maxHeartbeats 4000000 in
set_option maxRecDepth 100000 in
theorem zl_22 {p : Program} {l : Launch} {e : Env} {s : State} {m : MethodId} {below : List Frame} {meth : Method} {c : Code} {b L A0 : Nat} {xs : Nat → Int32} {D : va_G} (F : zx p s m c cL_law 7 #[Value.ref b] RL D A0) (hX : va_X b L xs s s.heap) (hbl : b < s.heap.size) (hbA : ¬ zA A0 b) (hL : L ≤ 3072) {t : Nat} (ht : 6 * t + 6 ≤ L) {ce sl : Nat} (hce : ce + 1 ≤ 601024) (hsl : sl + 6 ≤ 7293034) {σ : Mm} {H : Heap} {locs : List Loc} (Z : zh D A0 σ GF 740 s.heap H locs) (hI : Iv (31 * t) σ) {ls : Array Slot} (hl : lv_has ls 7 [(0, .ref b), (1, .ref (A0 + 0)), (2, .ref (A0 + 703)), (3, .ref (A0 + 739)), (4, .int (nI (6 * t)))]) {Q : State → Prop}
    (kk : ∀ (H1 : Heap) (locs1 : List Loc) (σ1 : Mm), zh D A0 σ1 GF 740 s.heap H1 locs1 → Iv (31 * (t + 1)) σ1 → ∀ ls, lv_has ls 7 [(0, .ref b), (1, .ref (A0 + 0)), (2, .ref (A0 + 703)), (3, .ref (A0 + 739)), (4, .int (nI (6 * t)))] → W p l e room_1 s m #[Value.ref b] below meth c H1 locs1 (ce + 1) (sl + 6) Q (F0 m 1498 ls [])) : W p l e room_1 s m #[Value.ref b] below meth c H locs ce sl Q (F0 m 1041 ls []) := by
  have hx := F.1.1
  have hb := F.1.2.1
  have hown := F.1.2.2.2.1
  have hts := F.1.2.2.2.2
  obtain ⟨a, ha, b2, hb2, e2, hI2⟩ := q_other (B := 31 * t) (by omega) (xs (nI (6 * t) + 1).toNatClampNeg) (xs (nI (6 * t) + 2).toNatClampNeg) (xs (nI (6 * t) + 3).toNatClampNeg) σ hI
  have hI3 : Iv (31 * (t + 1)) b2.2 := by rw [Nat.mul_succ]; exact hI2
  refine lv_aload_n hx hb dL_law_1041 rfl (lv_at hl 1 rfl) ?_
  refine lv_aload_n hx hb dL_law_1042 rfl (lv_at hl 0 rfl) ?_
  refine lv_iload hx hb dL_law_1043 (lv_at hl 4 rfl) ?_
  refine lv_iconst (v := 1) hx hb dL_law_1045 (by decide) ?_
  refine lv_iadd hx hb dL_law_1046 ?_
  refine va_sld hx hb hX hbl hbA Z.2 (zl_in (k := 1) rfl (by decide) ht hL) dL_law_1047 ?_
  refine lv_aload_n hx hb dL_law_1048 rfl (lv_at hl 0 rfl) ?_
  refine lv_iload hx hb dL_law_1049 (lv_at hl 4 rfl) ?_
  refine lv_iconst (v := 2) hx hb dL_law_1051 (by decide) ?_
  refine lv_iadd hx hb dL_law_1052 ?_
  refine va_sld hx hb hX hbl hbA Z.2 (zl_in (k := 2) rfl (by decide) ht hL) dL_law_1053 ?_
  refine lv_aload_n hx hb dL_law_1054 rfl (lv_at hl 0 rfl) ?_
  refine lv_iload hx hb dL_law_1055 (lv_at hl 4 rfl) ?_
  refine lv_iconst (v := 3) hx hb dL_law_1057 (by decide) ?_
  refine lv_iadd hx hb dL_law_1058 ?_
  refine va_sld hx hb hX hbl hbA Z.2 (zl_in (k := 3) rfl (by decide) ht hL) dL_law_1059 ?_
  refine zc_i Z (zr_V F Z (a := 0) (As := [.int (xs (nI (6 * t) + 1).toNatClampNeg), .int (xs (nI (6 * t) + 2).toNatClampNeg), .int (xs (nI (6 * t) + 3).toNatClampNeg)]) (zcX11_other l D A0 (xs (nI (6 * t) + 1).toNatClampNeg) (xs (nI (6 * t) + 2).toNatClampNeg) (xs (nI (6 * t) + 3).toNatClampNeg) σ a.1 a.2 ha) zBX11_other zq1098 (by decide) zs_0 zC11.1 rfl ⟨⟨rfl, rfl⟩, Nat.le_of_ble_eq_true rfl, Nat.le_of_ble_eq_true rfl⟩ hl.1 rfl (Nat.le_of_ble_eq_true rfl) dL_law_1060 (zr0 hce hsl)) (fun _ _ Z => ?_)
  refine lv_aload_n hx hb dL_law_1063 rfl (lv_at hl 2 rfl) ?_
  refine lv_aload_n hx hb dL_law_1064 rfl (lv_at hl 0 rfl) ?_
  refine lv_iload hx hb dL_law_1065 (lv_at hl 4 rfl) ?_
  refine lv_iconst (v := 1) hx hb dL_law_1067 (by decide) ?_
  refine lv_iadd hx hb dL_law_1068 ?_
  refine va_sld hx hb hX hbl hbA Z.2 (zl_in (k := 1) rfl (by decide) ht hL) dL_law_1069 ?_
  refine lv_aload_n hx hb dL_law_1070 rfl (lv_at hl 0 rfl) ?_
  refine lv_iload hx hb dL_law_1071 (lv_at hl 4 rfl) ?_
  refine lv_iconst (v := 2) hx hb dL_law_1073 (by decide) ?_
  refine lv_iadd hx hb dL_law_1074 ?_
  refine va_sld hx hb hX hbl hbA Z.2 (zl_in (k := 2) rfl (by decide) ht hL) dL_law_1075 ?_
  refine lv_aload_n hx hb dL_law_1076 rfl (lv_at hl 0 rfl) ?_
  refine lv_iload hx hb dL_law_1077 (lv_at hl 4 rfl) ?_
  refine lv_iconst (v := 3) hx hb dL_law_1079 (by decide) ?_
  refine lv_iadd hx hb dL_law_1080 ?_
  refine va_sld hx hb hX hbl hbA Z.2 (zl_in (k := 3) rfl (by decide) ht hL) dL_law_1081 ?_
  refine zc_i Z (zr_V F Z (a := 703) (As := [.int (xs (nI (6 * t) + 1).toNatClampNeg), .int (xs (nI (6 * t) + 2).toNatClampNeg), .int (xs (nI (6 * t) + 3).toNatClampNeg)]) (zcX12_other l D A0 (xs (nI (6 * t) + 1).toNatClampNeg) (xs (nI (6 * t) + 2).toNatClampNeg) (xs (nI (6 * t) + 3).toNatClampNeg) _ b2.1 b2.2 hb2) zBX12_other zq1794 (by decide) zs_703 zC12.1 rfl ⟨⟨rfl, rfl⟩, Nat.le_of_ble_eq_true rfl, Nat.le_of_ble_eq_true rfl⟩ hl.1 rfl (Nat.le_of_ble_eq_true rfl) dL_law_1082 (zr0 hce hsl)) (fun _ _ Z => ?_)
  refine lv_icmp_eq (tgt := 1498) hx hb dL_law_1085 (by decide) (fun _ => ?_) (fun h9 => absurd e2.symm h9)
  refine W.widen (k := ce + 1) (n := sl + 6) (by omega) (by omega) ?_
  exact kk _ _ _ Z hI3 _ hl
set_option maxHeartbeats 4000000 in
set_option maxRecDepth 100000 in
theorem zl_23 {p : Program} {l : Launch} {e : Env} {s : State} {m : MethodId} {below : List Frame} {meth : Method} {c : Code} {b L A0 : Nat} {xs : Nat → Int32} {D : va_G} (F : zx p s m c cL_law 7 #[Value.ref b] RL D A0) (hX : va_X b L xs s s.heap) (hbl : b < s.heap.size) (hbA : ¬ zA A0 b) (hL : L ≤ 3072) {t : Nat} (ht : 6 * t + 6 ≤ L) {ce sl : Nat} (hce : ce + 1 ≤ 601024) (hsl : sl + 6 ≤ 7293034) {σ : Mm} {H : Heap} {locs : List Loc} (Z : zh D A0 σ GF 740 s.heap H locs) (hI : Iv (31 * t) σ) {ls : Array Slot} (hl : lv_has ls 7 [(0, .ref b), (1, .ref (A0 + 0)), (2, .ref (A0 + 703)), (3, .ref (A0 + 739)), (4, .int (nI (6 * t)))]) {Q : State → Prop}
    (kk : ∀ (H1 : Heap) (locs1 : List Loc) (σ1 : Mm), zh D A0 σ1 GF 740 s.heap H1 locs1 → Iv (31 * (t + 1)) σ1 → ∀ ls, lv_has ls 7 [(0, .ref b), (1, .ref (A0 + 0)), (2, .ref (A0 + 703)), (3, .ref (A0 + 739)), (4, .int (nI (6 * t)))] → W p l e room_1 s m #[Value.ref b] below meth c H1 locs1 (ce + 1) (sl + 6) Q (F0 m 1498 ls [])) : W p l e room_1 s m #[Value.ref b] below meth c H locs ce sl Q (F0 m 1090 ls []) := by
  have hx := F.1.1
  have hb := F.1.2.1
  have hown := F.1.2.2.2.1
  have hts := F.1.2.2.2.2
  obtain ⟨a, ha, b2, hb2, e2, hI2⟩ := q_ask (B := 31 * t) (xs (nI (6 * t) + 1).toNatClampNeg) (xs (nI (6 * t) + 2).toNatClampNeg) (xs (nI (6 * t) + 3).toNatClampNeg) σ hI
  have hI3 : Iv (31 * (t + 1)) b2.2 := by rw [Nat.mul_succ]; exact hI2
  refine lv_aload_n hx hb dL_law_1090 rfl (lv_at hl 1 rfl) ?_
  refine lv_aload_n hx hb dL_law_1091 rfl (lv_at hl 0 rfl) ?_
  refine lv_iload hx hb dL_law_1092 (lv_at hl 4 rfl) ?_
  refine lv_iconst (v := 1) hx hb dL_law_1094 (by decide) ?_
  refine lv_iadd hx hb dL_law_1095 ?_
  refine va_sld hx hb hX hbl hbA Z.2 (zl_in (k := 1) rfl (by decide) ht hL) dL_law_1096 ?_
  refine lv_aload_n hx hb dL_law_1097 rfl (lv_at hl 0 rfl) ?_
  refine lv_iload hx hb dL_law_1098 (lv_at hl 4 rfl) ?_
  refine lv_iconst (v := 2) hx hb dL_law_1100 (by decide) ?_
  refine lv_iadd hx hb dL_law_1101 ?_
  refine va_sld hx hb hX hbl hbA Z.2 (zl_in (k := 2) rfl (by decide) ht hL) dL_law_1102 ?_
  refine lv_aload_n hx hb dL_law_1103 rfl (lv_at hl 0 rfl) ?_
  refine lv_iload hx hb dL_law_1104 (lv_at hl 4 rfl) ?_
  refine lv_iconst (v := 3) hx hb dL_law_1106 (by decide) ?_
  refine lv_iadd hx hb dL_law_1107 ?_
  refine va_sld hx hb hX hbl hbA Z.2 (zl_in (k := 3) rfl (by decide) ht hL) dL_law_1108 ?_
  refine zc_i Z (zr_V F Z (a := 0) (As := [.int (xs (nI (6 * t) + 1).toNatClampNeg), .int (xs (nI (6 * t) + 2).toNatClampNeg), .int (xs (nI (6 * t) + 3).toNatClampNeg)]) (zcX11_ask l D A0 (xs (nI (6 * t) + 1).toNatClampNeg) (xs (nI (6 * t) + 2).toNatClampNeg) (xs (nI (6 * t) + 3).toNatClampNeg) σ a.1 a.2 ha) zBX11_ask zq1102 (by decide) zs_0 zC11.1 rfl ⟨⟨rfl, rfl⟩, Nat.le_of_ble_eq_true rfl, Nat.le_of_ble_eq_true rfl⟩ hl.1 rfl (Nat.le_of_ble_eq_true rfl) dL_law_1109 (zr0 hce hsl)) (fun _ _ Z => ?_)
  refine lv_aload_n hx hb dL_law_1112 rfl (lv_at hl 2 rfl) ?_
  refine lv_aload_n hx hb dL_law_1113 rfl (lv_at hl 0 rfl) ?_
  refine lv_iload hx hb dL_law_1114 (lv_at hl 4 rfl) ?_
  refine lv_iconst (v := 1) hx hb dL_law_1116 (by decide) ?_
  refine lv_iadd hx hb dL_law_1117 ?_
  refine va_sld hx hb hX hbl hbA Z.2 (zl_in (k := 1) rfl (by decide) ht hL) dL_law_1118 ?_
  refine lv_aload_n hx hb dL_law_1119 rfl (lv_at hl 0 rfl) ?_
  refine lv_iload hx hb dL_law_1120 (lv_at hl 4 rfl) ?_
  refine lv_iconst (v := 2) hx hb dL_law_1122 (by decide) ?_
  refine lv_iadd hx hb dL_law_1123 ?_
  refine va_sld hx hb hX hbl hbA Z.2 (zl_in (k := 2) rfl (by decide) ht hL) dL_law_1124 ?_
  refine lv_aload_n hx hb dL_law_1125 rfl (lv_at hl 0 rfl) ?_
  refine lv_iload hx hb dL_law_1126 (lv_at hl 4 rfl) ?_
  refine lv_iconst (v := 3) hx hb dL_law_1128 (by decide) ?_
  refine lv_iadd hx hb dL_law_1129 ?_
  refine va_sld hx hb hX hbl hbA Z.2 (zl_in (k := 3) rfl (by decide) ht hL) dL_law_1130 ?_
  refine zc_i Z (zr_V F Z (a := 703) (As := [.int (xs (nI (6 * t) + 1).toNatClampNeg), .int (xs (nI (6 * t) + 2).toNatClampNeg), .int (xs (nI (6 * t) + 3).toNatClampNeg)]) (zcX12_ask l D A0 (xs (nI (6 * t) + 1).toNatClampNeg) (xs (nI (6 * t) + 2).toNatClampNeg) (xs (nI (6 * t) + 3).toNatClampNeg) _ b2.1 b2.2 hb2) zBX12_ask zq1798 (by decide) zs_703 zC12.1 rfl ⟨⟨rfl, rfl⟩, Nat.le_of_ble_eq_true rfl, Nat.le_of_ble_eq_true rfl⟩ hl.1 rfl (Nat.le_of_ble_eq_true rfl) dL_law_1131 (zr0 hce hsl)) (fun _ _ Z => ?_)
  refine lv_icmp_eq (tgt := 1498) hx hb dL_law_1134 (by decide) (fun _ => ?_) (fun h9 => absurd e2.symm h9)
  refine W.widen (k := ce + 1) (n := sl + 6) (by omega) (by omega) ?_
  exact kk _ _ _ Z hI3 _ hl
set_option maxHeartbeats 4000000 in
set_option maxRecDepth 100000 in
theorem zl_24 {p : Program} {l : Launch} {e : Env} {s : State} {m : MethodId} {below : List Frame} {meth : Method} {c : Code} {b L A0 : Nat} {xs : Nat → Int32} {D : va_G} (F : zx p s m c cL_law 7 #[Value.ref b] RL D A0) (hX : va_X b L xs s s.heap) (hbl : b < s.heap.size) (hbA : ¬ zA A0 b) (hL : L ≤ 3072) {t : Nat} (ht : 6 * t + 6 ≤ L) {ce sl : Nat} (hce : ce + 1 ≤ 601024) (hsl : sl + 6 ≤ 7293034) {σ : Mm} {H : Heap} {locs : List Loc} (Z : zh D A0 σ GF 740 s.heap H locs) (hI : Iv (31 * t) σ) {ls : Array Slot} (hl : lv_has ls 7 [(0, .ref b), (1, .ref (A0 + 0)), (2, .ref (A0 + 703)), (3, .ref (A0 + 739)), (4, .int (nI (6 * t)))]) {Q : State → Prop}
    (kk : ∀ (H1 : Heap) (locs1 : List Loc) (σ1 : Mm), zh D A0 σ1 GF 740 s.heap H1 locs1 → Iv (31 * (t + 1)) σ1 → ∀ ls, lv_has ls 7 [(0, .ref b), (1, .ref (A0 + 0)), (2, .ref (A0 + 703)), (3, .ref (A0 + 739)), (4, .int (nI (6 * t)))] → W p l e room_1 s m #[Value.ref b] below meth c H1 locs1 (ce + 1) (sl + 6) Q (F0 m 1498 ls [])) : W p l e room_1 s m #[Value.ref b] below meth c H locs ce sl Q (F0 m 1139 ls []) := by
  have hx := F.1.1
  have hb := F.1.2.1
  have hown := F.1.2.2.2.1
  have hts := F.1.2.2.2.2
  obtain ⟨a, ha, b2, hb2, e2, hI2⟩ := q_month (B := 31 * t) (by omega) (xs (nI (6 * t) + 1).toNatClampNeg) (xs (nI (6 * t) + 2).toNatClampNeg) σ hI
  have hI3 : Iv (31 * (t + 1)) b2.2 := by rw [Nat.mul_succ]; exact hI2
  refine lv_aload_n hx hb dL_law_1139 rfl (lv_at hl 1 rfl) ?_
  refine lv_aload_n hx hb dL_law_1140 rfl (lv_at hl 0 rfl) ?_
  refine lv_iload hx hb dL_law_1141 (lv_at hl 4 rfl) ?_
  refine lv_iconst (v := 1) hx hb dL_law_1143 (by decide) ?_
  refine lv_iadd hx hb dL_law_1144 ?_
  refine va_sld hx hb hX hbl hbA Z.2 (zl_in (k := 1) rfl (by decide) ht hL) dL_law_1145 ?_
  refine lv_aload_n hx hb dL_law_1146 rfl (lv_at hl 0 rfl) ?_
  refine lv_iload hx hb dL_law_1147 (lv_at hl 4 rfl) ?_
  refine lv_iconst (v := 2) hx hb dL_law_1149 (by decide) ?_
  refine lv_iadd hx hb dL_law_1150 ?_
  refine va_sld hx hb hX hbl hbA Z.2 (zl_in (k := 2) rfl (by decide) ht hL) dL_law_1151 ?_
  refine zc_i Z (zr_V F Z (a := 0) (As := [.int (xs (nI (6 * t) + 1).toNatClampNeg), .int (xs (nI (6 * t) + 2).toNatClampNeg)]) (zcX11_month l D A0 (xs (nI (6 * t) + 1).toNatClampNeg) (xs (nI (6 * t) + 2).toNatClampNeg) σ a.1 a.2 ha) zBX11_month zq1106 (by decide) zs_0 zC11.1 rfl ⟨⟨rfl, rfl⟩, Nat.le_of_ble_eq_true rfl, Nat.le_of_ble_eq_true rfl⟩ hl.1 rfl (Nat.le_of_ble_eq_true rfl) dL_law_1152 (zr0 hce hsl)) (fun _ _ Z => ?_)
  refine lv_aload_n hx hb dL_law_1155 rfl (lv_at hl 2 rfl) ?_
  refine lv_aload_n hx hb dL_law_1156 rfl (lv_at hl 0 rfl) ?_
  refine lv_iload hx hb dL_law_1157 (lv_at hl 4 rfl) ?_
  refine lv_iconst (v := 1) hx hb dL_law_1159 (by decide) ?_
  refine lv_iadd hx hb dL_law_1160 ?_
  refine va_sld hx hb hX hbl hbA Z.2 (zl_in (k := 1) rfl (by decide) ht hL) dL_law_1161 ?_
  refine lv_aload_n hx hb dL_law_1162 rfl (lv_at hl 0 rfl) ?_
  refine lv_iload hx hb dL_law_1163 (lv_at hl 4 rfl) ?_
  refine lv_iconst (v := 2) hx hb dL_law_1165 (by decide) ?_
  refine lv_iadd hx hb dL_law_1166 ?_
  refine va_sld hx hb hX hbl hbA Z.2 (zl_in (k := 2) rfl (by decide) ht hL) dL_law_1167 ?_
  refine zc_i Z (zr_V F Z (a := 703) (As := [.int (xs (nI (6 * t) + 1).toNatClampNeg), .int (xs (nI (6 * t) + 2).toNatClampNeg)]) (zcX12_month l D A0 (xs (nI (6 * t) + 1).toNatClampNeg) (xs (nI (6 * t) + 2).toNatClampNeg) _ b2.1 b2.2 hb2) zBX12_month zq1803 (by decide) zs_703 zC12.1 rfl ⟨⟨rfl, rfl⟩, Nat.le_of_ble_eq_true rfl, Nat.le_of_ble_eq_true rfl⟩ hl.1 rfl (Nat.le_of_ble_eq_true rfl) dL_law_1168 (zr0 hce hsl)) (fun _ _ Z => ?_)
  refine lv_icmp_eq (tgt := 1498) hx hb dL_law_1171 (by decide) (fun _ => ?_) (fun h9 => absurd e2.symm h9)
  refine W.widen (k := ce + 1) (n := sl + 6) (by omega) (by omega) ?_
  exact kk _ _ _ Z hI3 _ hl
set_option maxHeartbeats 4000000 in
set_option maxRecDepth 100000 in
theorem zl_25 {p : Program} {l : Launch} {e : Env} {s : State} {m : MethodId} {below : List Frame} {meth : Method} {c : Code} {b L A0 : Nat} {xs : Nat → Int32} {D : va_G} (F : zx p s m c cL_law 7 #[Value.ref b] RL D A0) (hX : va_X b L xs s s.heap) (hbl : b < s.heap.size) (hbA : ¬ zA A0 b) (hL : L ≤ 3072) {t : Nat} (ht : 6 * t + 6 ≤ L) {ce sl : Nat} (hce : ce + 1 ≤ 601024) (hsl : sl + 6 ≤ 7293034) {σ : Mm} {H : Heap} {locs : List Loc} (Z : zh D A0 σ GF 740 s.heap H locs) (hI : Iv (31 * t) σ) {ls : Array Slot} (hl : lv_has ls 7 [(0, .ref b), (1, .ref (A0 + 0)), (2, .ref (A0 + 703)), (3, .ref (A0 + 739)), (4, .int (nI (6 * t)))]) {Q : State → Prop}
    (kk : ∀ (H1 : Heap) (locs1 : List Loc) (σ1 : Mm), zh D A0 σ1 GF 740 s.heap H1 locs1 → Iv (31 * (t + 1)) σ1 → ∀ ls, lv_has ls 7 [(0, .ref b), (1, .ref (A0 + 0)), (2, .ref (A0 + 703)), (3, .ref (A0 + 739)), (4, .int (nI (6 * t)))] → W p l e room_1 s m #[Value.ref b] below meth c H1 locs1 (ce + 1) (sl + 6) Q (F0 m 1498 ls [])) : W p l e room_1 s m #[Value.ref b] below meth c H locs ce sl Q (F0 m 1176 ls []) := by
  have hx := F.1.1
  have hb := F.1.2.1
  have hown := F.1.2.2.2.1
  have hts := F.1.2.2.2.2
  obtain ⟨a, ha, b2, hb2, e2, hI2⟩ := q_inTurn (B := 31 * t) (by omega) (xs (nI (6 * t) + 1).toNatClampNeg) (xs (nI (6 * t) + 2).toNatClampNeg) σ hI
  have hI3 : Iv (31 * (t + 1)) b2.2 := by rw [Nat.mul_succ]; exact hI2
  refine lv_aload_n hx hb dL_law_1176 rfl (lv_at hl 1 rfl) ?_
  refine lv_aload_n hx hb dL_law_1177 rfl (lv_at hl 0 rfl) ?_
  refine lv_iload hx hb dL_law_1178 (lv_at hl 4 rfl) ?_
  refine lv_iconst (v := 1) hx hb dL_law_1180 (by decide) ?_
  refine lv_iadd hx hb dL_law_1181 ?_
  refine va_sld hx hb hX hbl hbA Z.2 (zl_in (k := 1) rfl (by decide) ht hL) dL_law_1182 ?_
  refine lv_aload_n hx hb dL_law_1183 rfl (lv_at hl 0 rfl) ?_
  refine lv_iload hx hb dL_law_1184 (lv_at hl 4 rfl) ?_
  refine lv_iconst (v := 2) hx hb dL_law_1186 (by decide) ?_
  refine lv_iadd hx hb dL_law_1187 ?_
  refine va_sld hx hb hX hbl hbA Z.2 (zl_in (k := 2) rfl (by decide) ht hL) dL_law_1188 ?_
  refine zc_i Z (zr_V F Z (a := 0) (As := [.int (xs (nI (6 * t) + 1).toNatClampNeg), .int (xs (nI (6 * t) + 2).toNatClampNeg)]) (zcX11_inTurn l D A0 (xs (nI (6 * t) + 1).toNatClampNeg) (xs (nI (6 * t) + 2).toNatClampNeg) σ a.1 a.2 ha) zBX11_inTurn zq1114 (by decide) zs_0 zC11.1 rfl ⟨⟨rfl, rfl⟩, Nat.le_of_ble_eq_true rfl, Nat.le_of_ble_eq_true rfl⟩ hl.1 rfl (Nat.le_of_ble_eq_true rfl) dL_law_1189 (zr0 hce hsl)) (fun _ _ Z => ?_)
  refine lv_aload_n hx hb dL_law_1192 rfl (lv_at hl 2 rfl) ?_
  refine lv_aload_n hx hb dL_law_1193 rfl (lv_at hl 0 rfl) ?_
  refine lv_iload hx hb dL_law_1194 (lv_at hl 4 rfl) ?_
  refine lv_iconst (v := 1) hx hb dL_law_1196 (by decide) ?_
  refine lv_iadd hx hb dL_law_1197 ?_
  refine va_sld hx hb hX hbl hbA Z.2 (zl_in (k := 1) rfl (by decide) ht hL) dL_law_1198 ?_
  refine lv_aload_n hx hb dL_law_1199 rfl (lv_at hl 0 rfl) ?_
  refine lv_iload hx hb dL_law_1200 (lv_at hl 4 rfl) ?_
  refine lv_iconst (v := 2) hx hb dL_law_1202 (by decide) ?_
  refine lv_iadd hx hb dL_law_1203 ?_
  refine va_sld hx hb hX hbl hbA Z.2 (zl_in (k := 2) rfl (by decide) ht hL) dL_law_1204 ?_
  refine zc_i Z (zr_V F Z (a := 703) (As := [.int (xs (nI (6 * t) + 1).toNatClampNeg), .int (xs (nI (6 * t) + 2).toNatClampNeg)]) (zcX12_inTurn l D A0 (xs (nI (6 * t) + 1).toNatClampNeg) (xs (nI (6 * t) + 2).toNatClampNeg) _ b2.1 b2.2 hb2) zBX12_inTurn zq1807 (by decide) zs_703 zC12.1 rfl ⟨⟨rfl, rfl⟩, Nat.le_of_ble_eq_true rfl, Nat.le_of_ble_eq_true rfl⟩ hl.1 rfl (Nat.le_of_ble_eq_true rfl) dL_law_1205 (zr0 hce hsl)) (fun _ _ Z => ?_)
  refine lv_icmp_eq (tgt := 1498) hx hb dL_law_1208 (by decide) (fun _ => ?_) (fun h9 => absurd e2.symm h9)
  refine W.widen (k := ce + 1) (n := sl + 6) (by omega) (by omega) ?_
  exact kk _ _ _ Z hI3 _ hl
set_option maxHeartbeats 4000000 in
set_option maxRecDepth 100000 in
theorem zl_26 {p : Program} {l : Launch} {e : Env} {s : State} {m : MethodId} {below : List Frame} {meth : Method} {c : Code} {b L A0 : Nat} {xs : Nat → Int32} {D : va_G} (F : zx p s m c cL_law 7 #[Value.ref b] RL D A0) (hX : va_X b L xs s s.heap) (hbl : b < s.heap.size) (hbA : ¬ zA A0 b) (hL : L ≤ 3072) {t : Nat} (ht : 6 * t + 6 ≤ L) {ce sl : Nat} (hce : ce + 1 ≤ 601024) (hsl : sl + 6 ≤ 7293034) {σ : Mm} {H : Heap} {locs : List Loc} (Z : zh D A0 σ GF 740 s.heap H locs) (hI : Iv (31 * t) σ) {ls : Array Slot} (hl : lv_has ls 7 [(0, .ref b), (1, .ref (A0 + 0)), (2, .ref (A0 + 703)), (3, .ref (A0 + 739)), (4, .int (nI (6 * t)))]) {Q : State → Prop}
    (kk : ∀ (H1 : Heap) (locs1 : List Loc) (σ1 : Mm), zh D A0 σ1 GF 740 s.heap H1 locs1 → Iv (31 * (t + 1)) σ1 → ∀ ls, lv_has ls 7 [(0, .ref b), (1, .ref (A0 + 0)), (2, .ref (A0 + 703)), (3, .ref (A0 + 739)), (4, .int (nI (6 * t)))] → W p l e room_1 s m #[Value.ref b] below meth c H1 locs1 (ce + 1) (sl + 6) Q (F0 m 1498 ls [])) : W p l e room_1 s m #[Value.ref b] below meth c H locs ce sl Q (F0 m 1213 ls []) := by
  have hx := F.1.1
  have hb := F.1.2.1
  have hown := F.1.2.2.2.1
  have hts := F.1.2.2.2.2
  obtain ⟨a, ha, b2, hb2, e2, hI2⟩ := q_bribe (B := 31 * t) (by omega) (xs (nI (6 * t) + 1).toNatClampNeg) (xs (nI (6 * t) + 2).toNatClampNeg) σ hI
  have hI3 : Iv (31 * (t + 1)) b2.2 := by rw [Nat.mul_succ]; exact hI2
  refine lv_aload_n hx hb dL_law_1213 rfl (lv_at hl 1 rfl) ?_
  refine lv_aload_n hx hb dL_law_1214 rfl (lv_at hl 0 rfl) ?_
  refine lv_iload hx hb dL_law_1215 (lv_at hl 4 rfl) ?_
  refine lv_iconst (v := 1) hx hb dL_law_1217 (by decide) ?_
  refine lv_iadd hx hb dL_law_1218 ?_
  refine va_sld hx hb hX hbl hbA Z.2 (zl_in (k := 1) rfl (by decide) ht hL) dL_law_1219 ?_
  refine lv_aload_n hx hb dL_law_1220 rfl (lv_at hl 0 rfl) ?_
  refine lv_iload hx hb dL_law_1221 (lv_at hl 4 rfl) ?_
  refine lv_iconst (v := 2) hx hb dL_law_1223 (by decide) ?_
  refine lv_iadd hx hb dL_law_1224 ?_
  refine va_sld hx hb hX hbl hbA Z.2 (zl_in (k := 2) rfl (by decide) ht hL) dL_law_1225 ?_
  refine zc_i Z (zr_V F Z (a := 0) (As := [.int (xs (nI (6 * t) + 1).toNatClampNeg), .int (xs (nI (6 * t) + 2).toNatClampNeg)]) (zcX11_bribe l D A0 (xs (nI (6 * t) + 1).toNatClampNeg) (xs (nI (6 * t) + 2).toNatClampNeg) σ a.1 a.2 ha) zBX11_bribe zq1122 (by decide) zs_0 zC11.1 rfl ⟨⟨rfl, rfl⟩, Nat.le_of_ble_eq_true rfl, Nat.le_of_ble_eq_true rfl⟩ hl.1 rfl (Nat.le_of_ble_eq_true rfl) dL_law_1226 (zr0 hce hsl)) (fun _ _ Z => ?_)
  refine lv_aload_n hx hb dL_law_1229 rfl (lv_at hl 2 rfl) ?_
  refine lv_aload_n hx hb dL_law_1230 rfl (lv_at hl 0 rfl) ?_
  refine lv_iload hx hb dL_law_1231 (lv_at hl 4 rfl) ?_
  refine lv_iconst (v := 1) hx hb dL_law_1233 (by decide) ?_
  refine lv_iadd hx hb dL_law_1234 ?_
  refine va_sld hx hb hX hbl hbA Z.2 (zl_in (k := 1) rfl (by decide) ht hL) dL_law_1235 ?_
  refine lv_aload_n hx hb dL_law_1236 rfl (lv_at hl 0 rfl) ?_
  refine lv_iload hx hb dL_law_1237 (lv_at hl 4 rfl) ?_
  refine lv_iconst (v := 2) hx hb dL_law_1239 (by decide) ?_
  refine lv_iadd hx hb dL_law_1240 ?_
  refine va_sld hx hb hX hbl hbA Z.2 (zl_in (k := 2) rfl (by decide) ht hL) dL_law_1241 ?_
  refine zc_i Z (zr_V F Z (a := 703) (As := [.int (xs (nI (6 * t) + 1).toNatClampNeg), .int (xs (nI (6 * t) + 2).toNatClampNeg)]) (zcX12_bribe l D A0 (xs (nI (6 * t) + 1).toNatClampNeg) (xs (nI (6 * t) + 2).toNatClampNeg) _ b2.1 b2.2 hb2) zBX12_bribe zq1811 (by decide) zs_703 zC12.1 rfl ⟨⟨rfl, rfl⟩, Nat.le_of_ble_eq_true rfl, Nat.le_of_ble_eq_true rfl⟩ hl.1 rfl (Nat.le_of_ble_eq_true rfl) dL_law_1242 (zr0 hce hsl)) (fun _ _ Z => ?_)
  refine lv_icmp_eq (tgt := 1498) hx hb dL_law_1245 (by decide) (fun _ => ?_) (fun h9 => absurd e2.symm h9)
  refine W.widen (k := ce + 1) (n := sl + 6) (by omega) (by omega) ?_
  exact kk _ _ _ Z hI3 _ hl
set_option maxHeartbeats 4000000 in
set_option maxRecDepth 100000 in
theorem zl_27 {p : Program} {l : Launch} {e : Env} {s : State} {m : MethodId} {below : List Frame} {meth : Method} {c : Code} {b L A0 : Nat} {xs : Nat → Int32} {D : va_G} (F : zx p s m c cL_law 7 #[Value.ref b] RL D A0) (hX : va_X b L xs s s.heap) (hbl : b < s.heap.size) (hbA : ¬ zA A0 b) (hL : L ≤ 3072) {t : Nat} (ht : 6 * t + 6 ≤ L) {ce sl : Nat} (hce : ce + 1 ≤ 601024) (hsl : sl + 6 ≤ 7293034) {σ : Mm} {H : Heap} {locs : List Loc} (Z : zh D A0 σ GF 740 s.heap H locs) (hI : Iv (31 * t) σ) {ls : Array Slot} (hl : lv_has ls 7 [(0, .ref b), (1, .ref (A0 + 0)), (2, .ref (A0 + 703)), (3, .ref (A0 + 739)), (4, .int (nI (6 * t)))]) {Q : State → Prop}
    (kk : ∀ (H1 : Heap) (locs1 : List Loc) (σ1 : Mm), zh D A0 σ1 GF 740 s.heap H1 locs1 → Iv (31 * (t + 1)) σ1 → ∀ ls, lv_has ls 7 [(0, .ref b), (1, .ref (A0 + 0)), (2, .ref (A0 + 703)), (3, .ref (A0 + 739)), (4, .int (nI (6 * t)))] → W p l e room_1 s m #[Value.ref b] below meth c H1 locs1 (ce + 1) (sl + 6) Q (F0 m 1498 ls [])) : W p l e room_1 s m #[Value.ref b] below meth c H locs ce sl Q (F0 m 1250 ls []) := by
  have hx := F.1.1
  have hb := F.1.2.1
  have hown := F.1.2.2.2.1
  have hts := F.1.2.2.2.2
  obtain ⟨a, ha, b2, hb2, e2, hI2⟩ := q_spread (B := 31 * t) (by omega) (xs (nI (6 * t) + 1).toNatClampNeg) (xs (nI (6 * t) + 2).toNatClampNeg) σ hI
  have hI3 : Iv (31 * (t + 1)) b2.2 := by rw [Nat.mul_succ]; exact hI2
  refine lv_aload_n hx hb dL_law_1250 rfl (lv_at hl 1 rfl) ?_
  refine lv_aload_n hx hb dL_law_1251 rfl (lv_at hl 0 rfl) ?_
  refine lv_iload hx hb dL_law_1252 (lv_at hl 4 rfl) ?_
  refine lv_iconst (v := 1) hx hb dL_law_1254 (by decide) ?_
  refine lv_iadd hx hb dL_law_1255 ?_
  refine va_sld hx hb hX hbl hbA Z.2 (zl_in (k := 1) rfl (by decide) ht hL) dL_law_1256 ?_
  refine lv_aload_n hx hb dL_law_1257 rfl (lv_at hl 0 rfl) ?_
  refine lv_iload hx hb dL_law_1258 (lv_at hl 4 rfl) ?_
  refine lv_iconst (v := 2) hx hb dL_law_1260 (by decide) ?_
  refine lv_iadd hx hb dL_law_1261 ?_
  refine va_sld hx hb hX hbl hbA Z.2 (zl_in (k := 2) rfl (by decide) ht hL) dL_law_1262 ?_
  refine zc_i Z (zr_V F Z (a := 0) (As := [.int (xs (nI (6 * t) + 1).toNatClampNeg), .int (xs (nI (6 * t) + 2).toNatClampNeg)]) (zcX11_spread l D A0 (xs (nI (6 * t) + 1).toNatClampNeg) (xs (nI (6 * t) + 2).toNatClampNeg) σ a.1 a.2 ha) zBX11_spread zq1126 (by decide) zs_0 zC11.1 rfl ⟨⟨rfl, rfl⟩, Nat.le_of_ble_eq_true rfl, Nat.le_of_ble_eq_true rfl⟩ hl.1 rfl (Nat.le_of_ble_eq_true rfl) dL_law_1263 (zr0 hce hsl)) (fun _ _ Z => ?_)
  refine lv_aload_n hx hb dL_law_1266 rfl (lv_at hl 2 rfl) ?_
  refine lv_aload_n hx hb dL_law_1267 rfl (lv_at hl 0 rfl) ?_
  refine lv_iload hx hb dL_law_1268 (lv_at hl 4 rfl) ?_
  refine lv_iconst (v := 1) hx hb dL_law_1270 (by decide) ?_
  refine lv_iadd hx hb dL_law_1271 ?_
  refine va_sld hx hb hX hbl hbA Z.2 (zl_in (k := 1) rfl (by decide) ht hL) dL_law_1272 ?_
  refine lv_aload_n hx hb dL_law_1273 rfl (lv_at hl 0 rfl) ?_
  refine lv_iload hx hb dL_law_1274 (lv_at hl 4 rfl) ?_
  refine lv_iconst (v := 2) hx hb dL_law_1276 (by decide) ?_
  refine lv_iadd hx hb dL_law_1277 ?_
  refine va_sld hx hb hX hbl hbA Z.2 (zl_in (k := 2) rfl (by decide) ht hL) dL_law_1278 ?_
  refine zc_i Z (zr_V F Z (a := 703) (As := [.int (xs (nI (6 * t) + 1).toNatClampNeg), .int (xs (nI (6 * t) + 2).toNatClampNeg)]) (zcX12_spread l D A0 (xs (nI (6 * t) + 1).toNatClampNeg) (xs (nI (6 * t) + 2).toNatClampNeg) _ b2.1 b2.2 hb2) zBX12_spread zq1815 (by decide) zs_703 zC12.1 rfl ⟨⟨rfl, rfl⟩, Nat.le_of_ble_eq_true rfl, Nat.le_of_ble_eq_true rfl⟩ hl.1 rfl (Nat.le_of_ble_eq_true rfl) dL_law_1279 (zr0 hce hsl)) (fun _ _ Z => ?_)
  refine lv_icmp_eq (tgt := 1498) hx hb dL_law_1282 (by decide) (fun _ => ?_) (fun h9 => absurd e2.symm h9)
  refine W.widen (k := ce + 1) (n := sl + 6) (by omega) (by omega) ?_
  exact kk _ _ _ Z hI3 _ hl
set_option maxHeartbeats 4000000 in
set_option maxRecDepth 100000 in
theorem zl_28 {p : Program} {l : Launch} {e : Env} {s : State} {m : MethodId} {below : List Frame} {meth : Method} {c : Code} {b L A0 : Nat} {xs : Nat → Int32} {D : va_G} (F : zx p s m c cL_law 7 #[Value.ref b] RL D A0) (hX : va_X b L xs s s.heap) (hbl : b < s.heap.size) (hbA : ¬ zA A0 b) (hL : L ≤ 3072) {t : Nat} (ht : 6 * t + 6 ≤ L) {ce sl : Nat} (hce : ce + 1 ≤ 601024) (hsl : sl + 6 ≤ 7293034) {σ : Mm} {H : Heap} {locs : List Loc} (Z : zh D A0 σ GF 740 s.heap H locs) (hI : Iv (31 * t) σ) {ls : Array Slot} (hl : lv_has ls 7 [(0, .ref b), (1, .ref (A0 + 0)), (2, .ref (A0 + 703)), (3, .ref (A0 + 739)), (4, .int (nI (6 * t)))]) {Q : State → Prop}
    (kk : ∀ (H1 : Heap) (locs1 : List Loc) (σ1 : Mm), zh D A0 σ1 GF 740 s.heap H1 locs1 → Iv (31 * (t + 1)) σ1 → ∀ ls, lv_has ls 7 [(0, .ref b), (1, .ref (A0 + 0)), (2, .ref (A0 + 703)), (3, .ref (A0 + 739)), (4, .int (nI (6 * t)))] → W p l e room_1 s m #[Value.ref b] below meth c H1 locs1 (ce + 1) (sl + 6) Q (F0 m 1498 ls [])) : W p l e room_1 s m #[Value.ref b] below meth c H locs ce sl Q (F0 m 1287 ls []) := by
  have hx := F.1.1
  have hb := F.1.2.1
  have hown := F.1.2.2.2.1
  have hts := F.1.2.2.2.2
  obtain ⟨a, ha, b2, hb2, e2, hI2⟩ := q_served (B := 31 * t) (by omega) (xs (nI (6 * t) + 1).toNatClampNeg) (xs (nI (6 * t) + 2).toNatClampNeg) (xs (nI (6 * t) + 3).toNatClampNeg) σ hI
  have hI3 : Iv (31 * (t + 1)) b2.2 := by rw [Nat.mul_succ]; exact hI2
  refine lv_aload_n hx hb dL_law_1287 rfl (lv_at hl 1 rfl) ?_
  refine lv_aload_n hx hb dL_law_1288 rfl (lv_at hl 0 rfl) ?_
  refine lv_iload hx hb dL_law_1289 (lv_at hl 4 rfl) ?_
  refine lv_iconst (v := 1) hx hb dL_law_1291 (by decide) ?_
  refine lv_iadd hx hb dL_law_1292 ?_
  refine va_sld hx hb hX hbl hbA Z.2 (zl_in (k := 1) rfl (by decide) ht hL) dL_law_1293 ?_
  refine lv_aload_n hx hb dL_law_1294 rfl (lv_at hl 0 rfl) ?_
  refine lv_iload hx hb dL_law_1295 (lv_at hl 4 rfl) ?_
  refine lv_iconst (v := 2) hx hb dL_law_1297 (by decide) ?_
  refine lv_iadd hx hb dL_law_1298 ?_
  refine va_sld hx hb hX hbl hbA Z.2 (zl_in (k := 2) rfl (by decide) ht hL) dL_law_1299 ?_
  refine lv_aload_n hx hb dL_law_1300 rfl (lv_at hl 0 rfl) ?_
  refine lv_iload hx hb dL_law_1301 (lv_at hl 4 rfl) ?_
  refine lv_iconst (v := 3) hx hb dL_law_1303 (by decide) ?_
  refine lv_iadd hx hb dL_law_1304 ?_
  refine va_sld hx hb hX hbl hbA Z.2 (zl_in (k := 3) rfl (by decide) ht hL) dL_law_1305 ?_
  refine zc_i Z (zr_V F Z (a := 0) (As := [.int (xs (nI (6 * t) + 1).toNatClampNeg), .int (xs (nI (6 * t) + 2).toNatClampNeg), .int (xs (nI (6 * t) + 3).toNatClampNeg)]) (zcX11_served l D A0 (xs (nI (6 * t) + 1).toNatClampNeg) (xs (nI (6 * t) + 2).toNatClampNeg) (xs (nI (6 * t) + 3).toNatClampNeg) σ a.1 a.2 ha) zBX11_served zq1130 (by decide) zs_0 zC11.1 rfl ⟨⟨rfl, rfl⟩, Nat.le_of_ble_eq_true rfl, Nat.le_of_ble_eq_true rfl⟩ hl.1 rfl (Nat.le_of_ble_eq_true rfl) dL_law_1306 (zr0 hce hsl)) (fun _ _ Z => ?_)
  refine lv_aload_n hx hb dL_law_1309 rfl (lv_at hl 2 rfl) ?_
  refine lv_aload_n hx hb dL_law_1310 rfl (lv_at hl 0 rfl) ?_
  refine lv_iload hx hb dL_law_1311 (lv_at hl 4 rfl) ?_
  refine lv_iconst (v := 1) hx hb dL_law_1313 (by decide) ?_
  refine lv_iadd hx hb dL_law_1314 ?_
  refine va_sld hx hb hX hbl hbA Z.2 (zl_in (k := 1) rfl (by decide) ht hL) dL_law_1315 ?_
  refine lv_aload_n hx hb dL_law_1316 rfl (lv_at hl 0 rfl) ?_
  refine lv_iload hx hb dL_law_1317 (lv_at hl 4 rfl) ?_
  refine lv_iconst (v := 2) hx hb dL_law_1319 (by decide) ?_
  refine lv_iadd hx hb dL_law_1320 ?_
  refine va_sld hx hb hX hbl hbA Z.2 (zl_in (k := 2) rfl (by decide) ht hL) dL_law_1321 ?_
  refine lv_aload_n hx hb dL_law_1322 rfl (lv_at hl 0 rfl) ?_
  refine lv_iload hx hb dL_law_1323 (lv_at hl 4 rfl) ?_
  refine lv_iconst (v := 3) hx hb dL_law_1325 (by decide) ?_
  refine lv_iadd hx hb dL_law_1326 ?_
  refine va_sld hx hb hX hbl hbA Z.2 (zl_in (k := 3) rfl (by decide) ht hL) dL_law_1327 ?_
  refine zc_i Z (zr_V F Z (a := 703) (As := [.int (xs (nI (6 * t) + 1).toNatClampNeg), .int (xs (nI (6 * t) + 2).toNatClampNeg), .int (xs (nI (6 * t) + 3).toNatClampNeg)]) (zcX12_served l D A0 (xs (nI (6 * t) + 1).toNatClampNeg) (xs (nI (6 * t) + 2).toNatClampNeg) (xs (nI (6 * t) + 3).toNatClampNeg) _ b2.1 b2.2 hb2) zBX12_served zq1819 (by decide) zs_703 zC12.1 rfl ⟨⟨rfl, rfl⟩, Nat.le_of_ble_eq_true rfl, Nat.le_of_ble_eq_true rfl⟩ hl.1 rfl (Nat.le_of_ble_eq_true rfl) dL_law_1328 (zr0 hce hsl)) (fun _ _ Z => ?_)
  refine lv_icmp_eq (tgt := 1498) hx hb dL_law_1331 (by decide) (fun _ => ?_) (fun h9 => absurd e2.symm h9)
  refine W.widen (k := ce + 1) (n := sl + 6) (by omega) (by omega) ?_
  exact kk _ _ _ Z hI3 _ hl
set_option maxHeartbeats 4000000 in
set_option maxRecDepth 100000 in
theorem zl_29 {p : Program} {l : Launch} {e : Env} {s : State} {m : MethodId} {below : List Frame} {meth : Method} {c : Code} {b L A0 : Nat} {xs : Nat → Int32} {D : va_G} (F : zx p s m c cL_law 7 #[Value.ref b] RL D A0) (hX : va_X b L xs s s.heap) (hbl : b < s.heap.size) (hbA : ¬ zA A0 b) (hL : L ≤ 3072) {t : Nat} (ht : 6 * t + 6 ≤ L) {ce sl : Nat} (hce : ce + 1 ≤ 601024) (hsl : sl + 6 ≤ 7293034) {σ : Mm} {H : Heap} {locs : List Loc} (Z : zh D A0 σ GF 740 s.heap H locs) (hI : Iv (31 * t) σ) {ls : Array Slot} (hl : lv_has ls 7 [(0, .ref b), (1, .ref (A0 + 0)), (2, .ref (A0 + 703)), (3, .ref (A0 + 739)), (4, .int (nI (6 * t)))]) {Q : State → Prop}
    (kk : ∀ (H1 : Heap) (locs1 : List Loc) (σ1 : Mm), zh D A0 σ1 GF 740 s.heap H1 locs1 → Iv (31 * (t + 1)) σ1 → ∀ ls, lv_has ls 7 [(0, .ref b), (1, .ref (A0 + 0)), (2, .ref (A0 + 703)), (3, .ref (A0 + 739)), (4, .int (nI (6 * t)))] → W p l e room_1 s m #[Value.ref b] below meth c H1 locs1 (ce + 1) (sl + 6) Q (F0 m 1498 ls [])) : W p l e room_1 s m #[Value.ref b] below meth c H locs ce sl Q (F0 m 1336 ls []) := by
  have hx := F.1.1
  have hb := F.1.2.1
  have hown := F.1.2.2.2.1
  have hts := F.1.2.2.2.2
  obtain ⟨a, ha, b2, hb2, e2, hI2⟩ := q_odds (B := 31 * t) (by omega) (xs (nI (6 * t) + 1).toNatClampNeg) (xs (nI (6 * t) + 2).toNatClampNeg) σ hI
  have hI3 : Iv (31 * (t + 1)) b2.2 := by rw [Nat.mul_succ]; exact hI2
  refine lv_aload_n hx hb dL_law_1336 rfl (lv_at hl 1 rfl) ?_
  refine lv_aload_n hx hb dL_law_1337 rfl (lv_at hl 0 rfl) ?_
  refine lv_iload hx hb dL_law_1338 (lv_at hl 4 rfl) ?_
  refine lv_iconst (v := 1) hx hb dL_law_1340 (by decide) ?_
  refine lv_iadd hx hb dL_law_1341 ?_
  refine va_sld hx hb hX hbl hbA Z.2 (zl_in (k := 1) rfl (by decide) ht hL) dL_law_1342 ?_
  refine lv_aload_n hx hb dL_law_1343 rfl (lv_at hl 0 rfl) ?_
  refine lv_iload hx hb dL_law_1344 (lv_at hl 4 rfl) ?_
  refine lv_iconst (v := 2) hx hb dL_law_1346 (by decide) ?_
  refine lv_iadd hx hb dL_law_1347 ?_
  refine va_sld hx hb hX hbl hbA Z.2 (zl_in (k := 2) rfl (by decide) ht hL) dL_law_1348 ?_
  refine zc_i Z (zr_V F Z (a := 0) (As := [.int (xs (nI (6 * t) + 1).toNatClampNeg), .int (xs (nI (6 * t) + 2).toNatClampNeg)]) (zcX11_odds l D A0 (xs (nI (6 * t) + 1).toNatClampNeg) (xs (nI (6 * t) + 2).toNatClampNeg) σ a.1 a.2 ha) zBX11_odds zq1134 (by decide) zs_0 zC11.1 rfl ⟨⟨rfl, rfl⟩, Nat.le_of_ble_eq_true rfl, Nat.le_of_ble_eq_true rfl⟩ hl.1 rfl (Nat.le_of_ble_eq_true rfl) dL_law_1349 (zr0 hce hsl)) (fun _ _ Z => ?_)
  refine lv_aload_n hx hb dL_law_1352 rfl (lv_at hl 2 rfl) ?_
  refine lv_aload_n hx hb dL_law_1353 rfl (lv_at hl 0 rfl) ?_
  refine lv_iload hx hb dL_law_1354 (lv_at hl 4 rfl) ?_
  refine lv_iconst (v := 1) hx hb dL_law_1356 (by decide) ?_
  refine lv_iadd hx hb dL_law_1357 ?_
  refine va_sld hx hb hX hbl hbA Z.2 (zl_in (k := 1) rfl (by decide) ht hL) dL_law_1358 ?_
  refine lv_aload_n hx hb dL_law_1359 rfl (lv_at hl 0 rfl) ?_
  refine lv_iload hx hb dL_law_1360 (lv_at hl 4 rfl) ?_
  refine lv_iconst (v := 2) hx hb dL_law_1362 (by decide) ?_
  refine lv_iadd hx hb dL_law_1363 ?_
  refine va_sld hx hb hX hbl hbA Z.2 (zl_in (k := 2) rfl (by decide) ht hL) dL_law_1364 ?_
  refine zc_i Z (zr_V F Z (a := 703) (As := [.int (xs (nI (6 * t) + 1).toNatClampNeg), .int (xs (nI (6 * t) + 2).toNatClampNeg)]) (zcX12_odds l D A0 (xs (nI (6 * t) + 1).toNatClampNeg) (xs (nI (6 * t) + 2).toNatClampNeg) _ b2.1 b2.2 hb2) zBX12_odds zq1823 (by decide) zs_703 zC12.1 rfl ⟨⟨rfl, rfl⟩, Nat.le_of_ble_eq_true rfl, Nat.le_of_ble_eq_true rfl⟩ hl.1 rfl (Nat.le_of_ble_eq_true rfl) dL_law_1365 (zr0 hce hsl)) (fun _ _ Z => ?_)
  refine lv_icmp_eq (tgt := 1498) hx hb dL_law_1368 (by decide) (fun _ => ?_) (fun h9 => absurd e2.symm h9)
  refine W.widen (k := ce + 1) (n := sl + 6) (by omega) (by omega) ?_
  exact kk _ _ _ Z hI3 _ hl
set_option maxHeartbeats 4000000 in
set_option maxRecDepth 100000 in
theorem zl_30 {p : Program} {l : Launch} {e : Env} {s : State} {m : MethodId} {below : List Frame} {meth : Method} {c : Code} {b L A0 : Nat} {xs : Nat → Int32} {D : va_G} (F : zx p s m c cL_law 7 #[Value.ref b] RL D A0) (hX : va_X b L xs s s.heap) (hbl : b < s.heap.size) (hbA : ¬ zA A0 b) (hL : L ≤ 3072) {t : Nat} (ht : 6 * t + 6 ≤ L) {ce sl : Nat} (hce : ce + 1 ≤ 601024) (hsl : sl + 6 ≤ 7293034) {σ : Mm} {H : Heap} {locs : List Loc} (Z : zh D A0 σ GF 740 s.heap H locs) (hI : Iv (31 * t) σ) {ls : Array Slot} (hl : lv_has ls 7 [(0, .ref b), (1, .ref (A0 + 0)), (2, .ref (A0 + 703)), (3, .ref (A0 + 739)), (4, .int (nI (6 * t)))]) {Q : State → Prop}
    (kk : ∀ (H1 : Heap) (locs1 : List Loc) (σ1 : Mm), zh D A0 σ1 GF 740 s.heap H1 locs1 → Iv (31 * (t + 1)) σ1 → ∀ ls, lv_has ls 7 [(0, .ref b), (1, .ref (A0 + 0)), (2, .ref (A0 + 703)), (3, .ref (A0 + 739)), (4, .int (nI (6 * t)))] → W p l e room_1 s m #[Value.ref b] below meth c H1 locs1 (ce + 1) (sl + 6) Q (F0 m 1498 ls [])) : W p l e room_1 s m #[Value.ref b] below meth c H locs ce sl Q (F0 m 1373 ls []) := by
  have hx := F.1.1
  have hb := F.1.2.1
  have hown := F.1.2.2.2.1
  have hts := F.1.2.2.2.2
  obtain ⟨a, ha, b2, hb2, e2, hI2⟩ := q_lone (B := 31 * t) (by omega) (xs (nI (6 * t) + 1).toNatClampNeg) (xs (nI (6 * t) + 2).toNatClampNeg) σ hI
  have hI3 : Iv (31 * (t + 1)) b2.2 := by rw [Nat.mul_succ]; exact hI2
  refine lv_aload_n hx hb dL_law_1373 rfl (lv_at hl 1 rfl) ?_
  refine lv_aload_n hx hb dL_law_1374 rfl (lv_at hl 0 rfl) ?_
  refine lv_iload hx hb dL_law_1375 (lv_at hl 4 rfl) ?_
  refine lv_iconst (v := 1) hx hb dL_law_1377 (by decide) ?_
  refine lv_iadd hx hb dL_law_1378 ?_
  refine va_sld hx hb hX hbl hbA Z.2 (zl_in (k := 1) rfl (by decide) ht hL) dL_law_1379 ?_
  refine lv_aload_n hx hb dL_law_1380 rfl (lv_at hl 0 rfl) ?_
  refine lv_iload hx hb dL_law_1381 (lv_at hl 4 rfl) ?_
  refine lv_iconst (v := 2) hx hb dL_law_1383 (by decide) ?_
  refine lv_iadd hx hb dL_law_1384 ?_
  refine va_sld hx hb hX hbl hbA Z.2 (zl_in (k := 2) rfl (by decide) ht hL) dL_law_1385 ?_
  refine zc_i Z (zr_V F Z (a := 0) (As := [.int (xs (nI (6 * t) + 1).toNatClampNeg), .int (xs (nI (6 * t) + 2).toNatClampNeg)]) (zcX11_lone l D A0 (xs (nI (6 * t) + 1).toNatClampNeg) (xs (nI (6 * t) + 2).toNatClampNeg) σ a.1 a.2 ha) zBX11_lone zq1148 (by decide) zs_0 zC11.1 rfl ⟨⟨rfl, rfl⟩, Nat.le_of_ble_eq_true rfl, Nat.le_of_ble_eq_true rfl⟩ hl.1 rfl (Nat.le_of_ble_eq_true rfl) dL_law_1386 (zr0 hce hsl)) (fun _ _ Z => ?_)
  refine lv_aload_n hx hb dL_law_1389 rfl (lv_at hl 2 rfl) ?_
  refine lv_aload_n hx hb dL_law_1390 rfl (lv_at hl 0 rfl) ?_
  refine lv_iload hx hb dL_law_1391 (lv_at hl 4 rfl) ?_
  refine lv_iconst (v := 1) hx hb dL_law_1393 (by decide) ?_
  refine lv_iadd hx hb dL_law_1394 ?_
  refine va_sld hx hb hX hbl hbA Z.2 (zl_in (k := 1) rfl (by decide) ht hL) dL_law_1395 ?_
  refine lv_aload_n hx hb dL_law_1396 rfl (lv_at hl 0 rfl) ?_
  refine lv_iload hx hb dL_law_1397 (lv_at hl 4 rfl) ?_
  refine lv_iconst (v := 2) hx hb dL_law_1399 (by decide) ?_
  refine lv_iadd hx hb dL_law_1400 ?_
  refine va_sld hx hb hX hbl hbA Z.2 (zl_in (k := 2) rfl (by decide) ht hL) dL_law_1401 ?_
  refine zc_i Z (zr_V F Z (a := 703) (As := [.int (xs (nI (6 * t) + 1).toNatClampNeg), .int (xs (nI (6 * t) + 2).toNatClampNeg)]) (zcX12_lone l D A0 (xs (nI (6 * t) + 1).toNatClampNeg) (xs (nI (6 * t) + 2).toNatClampNeg) _ b2.1 b2.2 hb2) zBX12_lone zq1833 (by decide) zs_703 zC12.1 rfl ⟨⟨rfl, rfl⟩, Nat.le_of_ble_eq_true rfl, Nat.le_of_ble_eq_true rfl⟩ hl.1 rfl (Nat.le_of_ble_eq_true rfl) dL_law_1402 (zr0 hce hsl)) (fun _ _ Z => ?_)
  refine lv_icmp_eq (tgt := 1498) hx hb dL_law_1405 (by decide) (fun _ => ?_) (fun h9 => absurd e2.symm h9)
  refine W.widen (k := ce + 1) (n := sl + 6) (by omega) (by omega) ?_
  exact kk _ _ _ Z hI3 _ hl
set_option maxHeartbeats 4000000 in
set_option maxRecDepth 100000 in
theorem zl_31 {p : Program} {l : Launch} {e : Env} {s : State} {m : MethodId} {below : List Frame} {meth : Method} {c : Code} {b L A0 : Nat} {xs : Nat → Int32} {D : va_G} (F : zx p s m c cL_law 7 #[Value.ref b] RL D A0) (hX : va_X b L xs s s.heap) (hbl : b < s.heap.size) (hbA : ¬ zA A0 b) (hL : L ≤ 3072) {t : Nat} (ht : 6 * t + 6 ≤ L) {ce sl : Nat} (hce : ce + 1 ≤ 601024) (hsl : sl + 6 ≤ 7293034) {σ : Mm} {H : Heap} {locs : List Loc} (Z : zh D A0 σ GF 740 s.heap H locs) (hI : Iv (31 * t) σ) {ls : Array Slot} (hl : lv_has ls 7 [(0, .ref b), (1, .ref (A0 + 0)), (2, .ref (A0 + 703)), (3, .ref (A0 + 739)), (4, .int (nI (6 * t)))]) {Q : State → Prop}
    (kk : ∀ (H1 : Heap) (locs1 : List Loc) (σ1 : Mm), zh D A0 σ1 GF 740 s.heap H1 locs1 → Iv (31 * (t + 1)) σ1 → ∀ ls, lv_has ls 7 [(0, .ref b), (1, .ref (A0 + 0)), (2, .ref (A0 + 703)), (3, .ref (A0 + 739)), (4, .int (nI (6 * t)))] → W p l e room_1 s m #[Value.ref b] below meth c H1 locs1 (ce + 1) (sl + 6) Q (F0 m 1498 ls [])) : W p l e room_1 s m #[Value.ref b] below meth c H locs ce sl Q (F0 m 1410 ls []) := by
  have hx := F.1.1
  have hb := F.1.2.1
  have hown := F.1.2.2.2.1
  have hts := F.1.2.2.2.2
  obtain ⟨a, ha, b2, hb2, e2, hI2⟩ := q_glut (B := 31 * t) (by omega) (xs (nI (6 * t) + 1).toNatClampNeg) (xs (nI (6 * t) + 2).toNatClampNeg) σ hI
  have hI3 : Iv (31 * (t + 1)) b2.2 := by rw [Nat.mul_succ]; exact hI2
  refine lv_aload_n hx hb dL_law_1410 rfl (lv_at hl 1 rfl) ?_
  refine lv_aload_n hx hb dL_law_1411 rfl (lv_at hl 0 rfl) ?_
  refine lv_iload hx hb dL_law_1412 (lv_at hl 4 rfl) ?_
  refine lv_iconst (v := 1) hx hb dL_law_1414 (by decide) ?_
  refine lv_iadd hx hb dL_law_1415 ?_
  refine va_sld hx hb hX hbl hbA Z.2 (zl_in (k := 1) rfl (by decide) ht hL) dL_law_1416 ?_
  refine lv_aload_n hx hb dL_law_1417 rfl (lv_at hl 0 rfl) ?_
  refine lv_iload hx hb dL_law_1418 (lv_at hl 4 rfl) ?_
  refine lv_iconst (v := 2) hx hb dL_law_1420 (by decide) ?_
  refine lv_iadd hx hb dL_law_1421 ?_
  refine va_sld hx hb hX hbl hbA Z.2 (zl_in (k := 2) rfl (by decide) ht hL) dL_law_1422 ?_
  refine zc_i Z (zr_V F Z (a := 0) (As := [.int (xs (nI (6 * t) + 1).toNatClampNeg), .int (xs (nI (6 * t) + 2).toNatClampNeg)]) (zcX11_glut l D A0 (xs (nI (6 * t) + 1).toNatClampNeg) (xs (nI (6 * t) + 2).toNatClampNeg) σ a.1 a.2 ha) zBX11_glut zq1152 (by decide) zs_0 zC11.1 rfl ⟨⟨rfl, rfl⟩, Nat.le_of_ble_eq_true rfl, Nat.le_of_ble_eq_true rfl⟩ hl.1 rfl (Nat.le_of_ble_eq_true rfl) dL_law_1423 (zr0 hce hsl)) (fun _ _ Z => ?_)
  refine lv_aload_n hx hb dL_law_1426 rfl (lv_at hl 2 rfl) ?_
  refine lv_aload_n hx hb dL_law_1427 rfl (lv_at hl 0 rfl) ?_
  refine lv_iload hx hb dL_law_1428 (lv_at hl 4 rfl) ?_
  refine lv_iconst (v := 1) hx hb dL_law_1430 (by decide) ?_
  refine lv_iadd hx hb dL_law_1431 ?_
  refine va_sld hx hb hX hbl hbA Z.2 (zl_in (k := 1) rfl (by decide) ht hL) dL_law_1432 ?_
  refine lv_aload_n hx hb dL_law_1433 rfl (lv_at hl 0 rfl) ?_
  refine lv_iload hx hb dL_law_1434 (lv_at hl 4 rfl) ?_
  refine lv_iconst (v := 2) hx hb dL_law_1436 (by decide) ?_
  refine lv_iadd hx hb dL_law_1437 ?_
  refine va_sld hx hb hX hbl hbA Z.2 (zl_in (k := 2) rfl (by decide) ht hL) dL_law_1438 ?_
  refine zc_i Z (zr_V F Z (a := 703) (As := [.int (xs (nI (6 * t) + 1).toNatClampNeg), .int (xs (nI (6 * t) + 2).toNatClampNeg)]) (zcX12_glut l D A0 (xs (nI (6 * t) + 1).toNatClampNeg) (xs (nI (6 * t) + 2).toNatClampNeg) _ b2.1 b2.2 hb2) zBX12_glut zq1837 (by decide) zs_703 zC12.1 rfl ⟨⟨rfl, rfl⟩, Nat.le_of_ble_eq_true rfl, Nat.le_of_ble_eq_true rfl⟩ hl.1 rfl (Nat.le_of_ble_eq_true rfl) dL_law_1439 (zr0 hce hsl)) (fun _ _ Z => ?_)
  refine lv_icmp_eq (tgt := 1498) hx hb dL_law_1442 (by decide) (fun _ => ?_) (fun h9 => absurd e2.symm h9)
  refine W.widen (k := ce + 1) (n := sl + 6) (by omega) (by omega) ?_
  exact kk _ _ _ Z hI3 _ hl
set_option maxHeartbeats 4000000 in
set_option maxRecDepth 100000 in
theorem zl_32 {p : Program} {l : Launch} {e : Env} {s : State} {m : MethodId} {below : List Frame} {meth : Method} {c : Code} {b L A0 : Nat} {xs : Nat → Int32} {D : va_G} (F : zx p s m c cL_law 7 #[Value.ref b] RL D A0) (hX : va_X b L xs s s.heap) (hbl : b < s.heap.size) (hbA : ¬ zA A0 b) (hL : L ≤ 3072) {t : Nat} (ht : 6 * t + 6 ≤ L) {ce sl : Nat} (hce : ce + 1 ≤ 601024) (hsl : sl + 6 ≤ 7293034) {σ : Mm} {H : Heap} {locs : List Loc} (Z : zh D A0 σ GF 740 s.heap H locs) (hI : Iv (31 * t) σ) {ls : Array Slot} (hl : lv_has ls 7 [(0, .ref b), (1, .ref (A0 + 0)), (2, .ref (A0 + 703)), (3, .ref (A0 + 739)), (4, .int (nI (6 * t)))]) {Q : State → Prop}
    (kk : ∀ (H1 : Heap) (locs1 : List Loc) (σ1 : Mm), zh D A0 σ1 GF 740 s.heap H1 locs1 → Iv (31 * (t + 1)) σ1 → ∀ ls, lv_has ls 7 [(0, .ref b), (1, .ref (A0 + 0)), (2, .ref (A0 + 703)), (3, .ref (A0 + 739)), (4, .int (nI (6 * t)))] → W p l e room_1 s m #[Value.ref b] below meth c H1 locs1 (ce + 1) (sl + 6) Q (F0 m 1498 ls [])) : W p l e room_1 s m #[Value.ref b] below meth c H locs ce sl Q (F0 m 1447 ls []) := by
  have hx := F.1.1
  have hb := F.1.2.1
  have hown := F.1.2.2.2.1
  have hts := F.1.2.2.2.2
  obtain ⟨a, ha, b2, hb2, e2, hI2⟩ := q_image (B := 31 * t) σ hI
  have hI3 : Iv (31 * (t + 1)) b2.2 := by rw [Nat.mul_succ]; exact hI2
  refine lv_aload_n hx hb dL_law_1447 rfl (lv_at hl 1 rfl) ?_
  refine zc_i Z (zr_V F Z (a := 0) (As := []) (zcX11_image l D A0 σ a.1 a.2 ha) zBX11_image zq1160 (by decide) zs_0 zC11.1 rfl ⟨⟨rfl, rfl⟩, Nat.le_of_ble_eq_true rfl, Nat.le_of_ble_eq_true rfl⟩ hl.1 rfl (Nat.le_of_ble_eq_true rfl) dL_law_1448 (zr0 hce hsl)) (fun _ _ Z => ?_)
  refine lv_aload_n hx hb dL_law_1451 rfl (lv_at hl 2 rfl) ?_
  refine zc_i Z (zr_V F Z (a := 703) (As := []) (zcX12_image l D A0 _ b2.1 b2.2 hb2) zBX12_image zq1841 (by decide) zs_703 zC12.1 rfl ⟨⟨rfl, rfl⟩, Nat.le_of_ble_eq_true rfl, Nat.le_of_ble_eq_true rfl⟩ hl.1 rfl (Nat.le_of_ble_eq_true rfl) dL_law_1452 (zr0 hce hsl)) (fun _ _ Z => ?_)
  refine lv_icmp_eq (tgt := 1498) hx hb dL_law_1455 (by decide) (fun _ => ?_) (fun h9 => absurd e2.symm h9)
  refine W.widen (k := ce + 1) (n := sl + 6) (by omega) (by omega) ?_
  exact kk _ _ _ Z hI3 _ hl
set_option maxHeartbeats 4000000 in
set_option maxRecDepth 100000 in
theorem zl_33 {p : Program} {l : Launch} {e : Env} {s : State} {m : MethodId} {below : List Frame} {meth : Method} {c : Code} {b L A0 : Nat} {xs : Nat → Int32} {D : va_G} (F : zx p s m c cL_law 7 #[Value.ref b] RL D A0) (hX : va_X b L xs s s.heap) (hbl : b < s.heap.size) (hbA : ¬ zA A0 b) (hL : L ≤ 3072) {t : Nat} (ht : 6 * t + 6 ≤ L) {ce sl : Nat} (hce : ce + 1 ≤ 601024) (hsl : sl + 6 ≤ 7293034) {σ : Mm} {H : Heap} {locs : List Loc} (Z : zh D A0 σ GF 740 s.heap H locs) (hI : Iv (31 * t) σ) {ls : Array Slot} (hl : lv_has ls 7 [(0, .ref b), (1, .ref (A0 + 0)), (2, .ref (A0 + 703)), (3, .ref (A0 + 739)), (4, .int (nI (6 * t)))]) {Q : State → Prop}
    (kk : ∀ (H1 : Heap) (locs1 : List Loc) (σ1 : Mm), zh D A0 σ1 GF 740 s.heap H1 locs1 → Iv (31 * (t + 1)) σ1 → ∀ ls, lv_has ls 7 [(0, .ref b), (1, .ref (A0 + 0)), (2, .ref (A0 + 703)), (3, .ref (A0 + 739)), (4, .int (nI (6 * t)))] → W p l e room_1 s m #[Value.ref b] below meth c H1 locs1 (ce + 1) (sl + 6) Q (F0 m 1498 ls [])) : W p l e room_1 s m #[Value.ref b] below meth c H locs ce sl Q (F0 m 1460 ls []) := by
  have hx := F.1.1
  have hb := F.1.2.1
  have hown := F.1.2.2.2.1
  have hts := F.1.2.2.2.2
  obtain ⟨a, ha, b2, hb2, e2, hI2⟩ := q_back (B := 31 * t) σ hI
  have hI3 : Iv (31 * (t + 1)) b2.2 := by rw [Nat.mul_succ]; exact hI2
  refine lv_aload_n hx hb dL_law_1460 rfl (lv_at hl 1 rfl) ?_
  refine zc_i Z (zr_V F Z (a := 0) (As := []) (zcX11_back l D A0 σ a.1 a.2 ha) zBX11_back zq1165 (by decide) zs_0 zC11.1 rfl ⟨⟨rfl, rfl⟩, Nat.le_of_ble_eq_true rfl, Nat.le_of_ble_eq_true rfl⟩ hl.1 rfl (Nat.le_of_ble_eq_true rfl) dL_law_1461 (zr0 hce hsl)) (fun _ _ Z => ?_)
  refine lv_aload_n hx hb dL_law_1464 rfl (lv_at hl 2 rfl) ?_
  refine zc_i Z (zr_V F Z (a := 703) (As := []) (zcX12_back l D A0 _ b2.1 b2.2 hb2) zBX12_back zq1845 (by decide) zs_703 zC12.1 rfl ⟨⟨rfl, rfl⟩, Nat.le_of_ble_eq_true rfl, Nat.le_of_ble_eq_true rfl⟩ hl.1 rfl (Nat.le_of_ble_eq_true rfl) dL_law_1465 (zr0 hce hsl)) (fun _ _ Z => ?_)
  refine lv_icmp_eq (tgt := 1498) hx hb dL_law_1468 (by decide) (fun _ => ?_) (fun h9 => absurd e2.symm h9)
  refine W.widen (k := ce + 1) (n := sl + 6) (by omega) (by omega) ?_
  exact kk _ _ _ Z hI3 _ hl
set_option maxHeartbeats 4000000 in
set_option maxRecDepth 100000 in
theorem zl_34 {p : Program} {l : Launch} {e : Env} {s : State} {m : MethodId} {below : List Frame} {meth : Method} {c : Code} {b L A0 : Nat} {xs : Nat → Int32} {D : va_G} (F : zx p s m c cL_law 7 #[Value.ref b] RL D A0) (hX : va_X b L xs s s.heap) (hbl : b < s.heap.size) (hbA : ¬ zA A0 b) (hL : L ≤ 3072) {t : Nat} (ht : 6 * t + 6 ≤ L) {ce sl : Nat} (hce : ce + 1 ≤ 601024) (hsl : sl + 6 ≤ 7293034) {σ : Mm} {H : Heap} {locs : List Loc} (Z : zh D A0 σ GF 740 s.heap H locs) (hI : Iv (31 * t) σ) {ls : Array Slot} (hl : lv_has ls 7 [(0, .ref b), (1, .ref (A0 + 0)), (2, .ref (A0 + 703)), (3, .ref (A0 + 739)), (4, .int (nI (6 * t)))]) {Q : State → Prop}
    (kk : ∀ (H1 : Heap) (locs1 : List Loc) (σ1 : Mm), zh D A0 σ1 GF 740 s.heap H1 locs1 → Iv (31 * (t + 1)) σ1 → ∀ ls, lv_has ls 7 [(0, .ref b), (1, .ref (A0 + 0)), (2, .ref (A0 + 703)), (3, .ref (A0 + 739)), (4, .int (nI (6 * t)))] → W p l e room_1 s m #[Value.ref b] below meth c H1 locs1 (ce + 1) (sl + 6) Q (F0 m 1498 ls [])) : W p l e room_1 s m #[Value.ref b] below meth c H locs ce sl Q (F0 m 1473 ls []) := by
  have hx := F.1.1
  have hb := F.1.2.1
  have hown := F.1.2.2.2.1
  have hts := F.1.2.2.2.2
  obtain ⟨a, ha, b2, hb2, e2, hI2⟩ := q_count (B := 31 * t) (xs (nI (6 * t) + 1).toNatClampNeg) σ hI
  obtain rfl := Option.some.inj ha
  have hI3 : Iv (31 * (t + 1)) b2.2 := by rw [Nat.mul_succ]; exact hI2
  refine lv_aload_n hx hb dL_law_1473 rfl (lv_at hl 1 rfl) ?_
  refine lv_aload_n hx hb dL_law_1474 rfl (lv_at hl 0 rfl) ?_
  refine lv_iload hx hb dL_law_1475 (lv_at hl 4 rfl) ?_
  refine lv_iconst (v := 1) hx hb dL_law_1477 (by decide) ?_
  refine lv_iadd hx hb dL_law_1478 ?_
  refine va_sld hx hb hX hbl hbA Z.2 (zl_in (k := 1) rfl (by decide) ht hL) dL_law_1479 ?_
  refine zc_i Z (zr_V F Z (a := 0) (As := [.int (xs (nI (6 * t) + 1).toNatClampNeg)]) (zcX11_count l D A0 (xs (nI (6 * t) + 1).toNatClampNeg) σ _ rfl) zBX11_count zq1169 (by decide) zs_0 zC11.1 rfl ⟨⟨rfl, rfl⟩, Nat.le_of_ble_eq_true rfl, Nat.le_of_ble_eq_true rfl⟩ hl.1 rfl (Nat.le_of_ble_eq_true rfl) dL_law_1480 (zr0 hce hsl)) (fun _ _ Z => ?_)
  refine lv_aload_n hx hb dL_law_1483 rfl (lv_at hl 2 rfl) ?_
  refine lv_aload_n hx hb dL_law_1484 rfl (lv_at hl 0 rfl) ?_
  refine lv_iload hx hb dL_law_1485 (lv_at hl 4 rfl) ?_
  refine lv_iconst (v := 1) hx hb dL_law_1487 (by decide) ?_
  refine lv_iadd hx hb dL_law_1488 ?_
  refine va_sld hx hb hX hbl hbA Z.2 (zl_in (k := 1) rfl (by decide) ht hL) dL_law_1489 ?_
  refine zc_i Z (zr_V F Z (a := 703) (As := [.int (xs (nI (6 * t) + 1).toNatClampNeg)]) (zcX12_count l D A0 (xs (nI (6 * t) + 1).toNatClampNeg) _ b2.1 b2.2 hb2) zBX12_count zq1849 (by decide) zs_703 zC12.1 rfl ⟨⟨rfl, rfl⟩, Nat.le_of_ble_eq_true rfl, Nat.le_of_ble_eq_true rfl⟩ hl.1 rfl (Nat.le_of_ble_eq_true rfl) dL_law_1490 (zr0 hce hsl)) (fun _ _ Z => ?_)
  refine lv_icmp_eq (tgt := 1498) hx hb dL_law_1493 (by decide) (fun _ => ?_) (fun h9 => absurd e2.symm h9)
  refine W.widen (k := ce + 1) (n := sl + 6) (by omega) (by omega) ?_
  exact kk _ _ _ Z hI3 _ hl
