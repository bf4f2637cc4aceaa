section ZS
variable {p : Program} {l : Launch} {e : Env} {R : Room} {s : State} {m : MethodId} {args : Array Value} {below : List Frame} {meth : Method} {c : Code} {H : Heap} {locs : List Loc} {cells slots : Nat} {Q : State → Prop}
variable {cc : ByteArray} {nL : Nat} {own : String} {D : va_G} {A0 : Nat} {σ : Mm} {G : Gm} {n : Nat} {pc : Nat} {ls : Array Slot} {rest st : List Value}
theorem ze_t {r r1 : Int32} {σ1 : Mm} {ty : FieldType} (F : zx p s m c cc nL args own D A0) (Z : zh D A0 σ G n s.heap H locs) (hr : meth.sig.returnType = some ty) (hlocks : meth.locks = false) (hz : narrow ty (.int r) = .int r) (h1 : r = r1) (h2 : σ = σ1) (hd : decode cc pc = .ok (.ireturn, 1)) :
    W p l e R s m args below meth c H locs cells slots (MQ below (zQi D A0 r1 σ1 G n) args s cells slots (zA A0)) (F0 m pc ls [.int r]) := by
  subst h1; subst h2
  exact W.zret F.1.1 F.1.2.1 hr hz (fun t ht hW => ⟨⟨r, (), rfl, rfl, (zend F Z ht hW).1⟩, (zend F Z ht hW).2⟩) Z.2.2.2 hd hlocks
theorem zw_ldcwS (F : zx p s m c cc nL args own D A0) {i idx : Nat} {tx : String} (hw : (own, idx, tx, i) ∈ zStrs) (hd : decode cc pc = .ok (.ldc_w idx, 3))
    (kk : W p l e R s m args below meth c H locs cells slots Q (F0 m (pc + 3) ls (.ref (D.1 (60 + i)) :: rest))) : W p l e R s m args below meth c H locs cells slots Q (F0 m pc ls rest) := by
  have hZ : vk_R own idx tx (D.1 (60 + i)) s := F.2.2.1.2.2.1 _ hw
  have hb := F.1.2.1
  subst hb
  intro T hT X
  obtain ⟨t, a1, b1⟩ := kk T hT X
  refine ⟨t, ?_, b1⟩
  obtain ⟨k, cf, i9, a', hk, hcf, hcp, -, hr, hev'⟩ := Cond.stringRef_spec F.1.2.2.2.1 hZ.1
  cases hZ.2.symm.trans hev'
  obtain ⟨k', hk', he⟩ := X.warmed.alike.2.2 _ _ hk
  have hr' : k'.resolved[idx]? = some (some (.string (D.1 (60 + i)))) := by
    rcases X.warmed.entry hk hk' idx with h | ⟨h, -⟩
    · rw [h]; exact hr
    · rw [hr] at h; cases h
  jvm_step X.here [F.1.1, hd, ldc_w.wp_string (e := e) (s := T) (f := F0 m pc ls rest) X.here.top hk' (by rw [he]; exact hcf) hcp hr']
  exact a1
theorem zr_Vs {y : MethodName} {b : ByteArray} {mL nA idx i mc ms : Nat} {ret : Option FieldType} {rm : Room} {As : List Value} {Qc : Array Value → State → Outcome → State → Prop} (F : zx p s m c cc nL args own D A0) (Z : zh D A0 σ G n s.heap H locs) (hi : i < 6) (hM : Met l y (zws y b mL ret) rm (zPc D A0 σ G n (.ref (D.1 (60 + i)) :: As)) Qc mc ms (zA A0)) (hB : zBV "java/lang/String" y b mL ret nA) (hl : Cond.methodLink own idx y ∈ zTB) (hn : As.length = nA) (hR : zrm R rm mL mc ms)
    (hsz : ls.size = nL) (hst : st = As.reverse ++ .ref (D.1 (60 + i)) :: rest) (hcat : (rest.map fun v => v.category).sum ≤ 8) (hd : decode cc pc = .ok (.invokevirtual idx, 3)) (hf : cells + mc ≤ R.cells ∧ slots + ms ≤ R.slots) :
    va_Run p l e R s m args below meth c H locs cells slots mc ms (F0 m pc ls st) rest (Qc (Value.ref (D.1 (60 + i)) :: As).toArray) (zA A0) := by
  have ht := F.1.2.2.2.2
  have hS := F.2.2.1.2.1
  exact va_runV (C := "java/lang/String") (n := nA) F.1 hM ⟨callB_of nA ht (zG hB.1.1) rfl hR.1.1 hR.1.2 (ht _ hB.1.2.1) (ht _ hl) hB.1.2.2 hR.2, ht _ hB.2.1, ht _ hB.2.2⟩ ⟨zPc_blind, vk_recv (adK := fun i => D.1 (60 + i)) (i := i) hS hi Z.2, zpre F Z⟩ rfl hn hsz hst (lv_room hcat) hd hf
end ZS
theorem zBs_coder : zBV "java/lang/String" yJ0_coder_7d493 cJ0_coder_7d493 1 (some .byte) 0 := ⟨⟨zq657, zq91, by decide +kernel⟩, zq655, zq656⟩
theorem zBs_length : zBV "java/lang/String" yJ0_length_8abf5 cJ0_length_8abf5 1 (some .int) 0 := ⟨⟨zq653, zq91, by decide +kernel⟩, zq651, zq652⟩
theorem zBs_charAt : zBV "java/lang/String" yJ0_charAt_5068e cJ0_charAt_5068e 2 (some .char) 1 := ⟨⟨zq671, zq91, by decide +kernel⟩, zq669, zq670⟩
theorem zBs_isL : zBV "java/lang/String" yJ0_isLatin1_aae02 cJ0_isLatin1_aae02 1 (some .boolean) 0 := ⟨⟨zq675, zq91, by decide +kernel⟩, zq673, zq674⟩
theorem zBs_chk : zBS yJ0_checkIndex_df160 cJ0_checkIndex_df160 2 none 2 := ⟨⟨zq681, zq91, by decide +kernel⟩, zq680⟩
theorem zBs_l1 : zBS yJ1_charAt_3b067 cJ1_charAt_3b067 2 (some .char) 2 := ⟨⟨zq678, zq92, by decide +kernel⟩, zq677⟩
theorem zBs_pre : zBS yJ3_checkIndex_8e157 cJ3_checkIndex_8e157 3 (some .int) 3 := ⟨⟨zq686, zq93, by decide +kernel⟩, zq685⟩
set_option maxHeartbeats 4000000 in
set_option maxRecDepth 100000 in
theorem zcs_coder (l : Launch) (D : va_G) (A0 : Nat) (σ : Mm) (i : Nat) (hi : i < 6) : Met l yJ0_coder_7d493 (zws yJ0_coder_7d493 cJ0_coder_7d493 1 (some .byte)) (zR 0 0) (zPc D A0 σ GF 740 [.ref (D.1 (60 + i))]) (zQi D A0 0 σ GF 740) 0 0 (zA A0) := by
  refine zmet (own := "java/lang/String") (by decide) rfl (Nat.le_of_ble_eq_true rfl) ?_
  intro p e s m below meth c F hr hlocks _ Z ls hl
  have hx := F.1.1
  have hb := F.1.2.1
  have hown := F.1.2.2.2.1
  have hts := F.1.2.2.2.2
  have hl : lv_has ls 1 [(0, .ref (D.1 (60 + i)))] := hl
  have hS := F.2.2.1.2.1.1
  refine va_gets (v := .int 1) hx hb F.2.2.1.2.2.2.2.2.2.2.2.1 Z.2 hown (hts _ zq658) (fun _ h => h) dJ0_coder_7d493_0 ?_
  refine lv_if_eq (tgt := 13) hx hb dJ0_coder_7d493_3 (by decide) (fun q => absurd q (by decide)) (fun _ => ?_)
  refine lv_aload_n hx hb dJ0_coder_7d493_6 rfl (lv_at hl 0 rfl) ?_
  refine vk_getf (v := .int 0) hx hb (hS i hi).2.1 Z.2 hown (hts _ zq1878) (fun _ h => h) dJ0_coder_7d493_7 ?_
  refine lv_goto (tgt := 14) hx hb dJ0_coder_7d493_10 (by decide) ?_
  exact ze_t F Z hr hlocks (by decide) rfl rfl dJ0_coder_7d493_14
set_option maxHeartbeats 4000000 in
set_option maxRecDepth 100000 in
theorem zcs_isL (l : Launch) (D : va_G) (A0 : Nat) (σ : Mm) (i : Nat) (hi : i < 6) : Met l yJ0_isLatin1_aae02 (zws yJ0_isLatin1_aae02 cJ0_isLatin1_aae02 1 (some .boolean)) (zR 0 0) (zPc D A0 σ GF 740 [.ref (D.1 (60 + i))]) (zQi D A0 1 σ GF 740) 0 0 (zA A0) := by
  refine zmet (own := "java/lang/String") (by decide) rfl (Nat.le_of_ble_eq_true rfl) ?_
  intro p e s m below meth c F hr hlocks _ Z ls hl
  have hx := F.1.1
  have hb := F.1.2.1
  have hown := F.1.2.2.2.1
  have hts := F.1.2.2.2.2
  have hl : lv_has ls 1 [(0, .ref (D.1 (60 + i)))] := hl
  have hS := F.2.2.1.2.1.1
  refine va_gets (v := .int 1) hx hb F.2.2.1.2.2.2.2.2.2.2.2.1 Z.2 hown (hts _ zq658) (fun _ h => h) dJ0_isLatin1_aae02_0 ?_
  refine lv_if_eq (tgt := 17) hx hb dJ0_isLatin1_aae02_3 (by decide) (fun q => absurd q (by decide)) (fun _ => ?_)
  refine lv_aload_n hx hb dJ0_isLatin1_aae02_6 rfl (lv_at hl 0 rfl) ?_
  refine vk_getf (v := .int 0) hx hb (hS i hi).2.1 Z.2 hown (hts _ zq1878) (fun _ h => h) dJ0_isLatin1_aae02_7 ?_
  refine lv_if_ne (tgt := 17) hx hb dJ0_isLatin1_aae02_10 (by decide) (fun q => absurd rfl q) (fun _ => ?_)
  refine lv_iconst (v := 1) hx hb dJ0_isLatin1_aae02_13 (by decide) ?_
  refine lv_goto (tgt := 18) hx hb dJ0_isLatin1_aae02_14 (by decide) ?_
  exact ze_t F Z hr hlocks (by decide) rfl rfl dJ0_isLatin1_aae02_18
set_option maxHeartbeats 4000000 in
set_option maxRecDepth 100000 in
theorem zcs_pre (l : Launch) (D : va_G) (A0 : Nat) (σ : Mm) (k n : Int32) (v : Value) (hv : v = .null ∨ ∃ t, v = .ref t) (h0 : ¬ k < 0) (h1 : k < n) : Met l yJ3_checkIndex_8e157 (zws yJ3_checkIndex_8e157 cJ3_checkIndex_8e157 3 (some .int)) (zR 0 0) (zPc D A0 σ GF 740 [.int k, .int n, v]) (zQi D A0 k σ GF 740) 0 0 (zA A0) := by
  refine zmet (own := "jdk/internal/util/Preconditions") (by decide) rfl (by rcases hv with rfl | ⟨t, rfl⟩ <;> exact Nat.le_of_ble_eq_true rfl) ?_
  intro p e s m below meth c F hr hlocks _ Z ls hl
  have hx := F.1.1
  have hb := F.1.2.1
  have hown := F.1.2.2.2.1
  have hts := F.1.2.2.2.2
  have hl : lv_has ls 3 [(0, .int k), (1, .int n)] := by rcases hv with rfl | ⟨t, rfl⟩ <;> exact lv_sub hl [0, 1] rfl
  refine lv_iload_n hx hb dJ3_checkIndex_8e157_0 rfl (lv_at hl 0 rfl) ?_
  refine lv_if_lt (tgt := 9) hx hb dJ3_checkIndex_8e157_1 (by decide) (fun q => absurd q h0) (fun _ => ?_)
  refine lv_iload_n hx hb dJ3_checkIndex_8e157_4 rfl (lv_at hl 0 rfl) ?_
  refine lv_iload_n hx hb dJ3_checkIndex_8e157_5 rfl (lv_at hl 1 rfl) ?_
  refine lv_icmp_lt (tgt := 16) hx hb dJ3_checkIndex_8e157_6 (by decide) (fun _ => ?_) (fun q => absurd h1 q)
  refine lv_iload_n hx hb dJ3_checkIndex_8e157_16 rfl (lv_at hl 0 rfl) ?_
  exact ze_i F Z hr hlocks rfl rfl dJ3_checkIndex_8e157_17
set_option maxHeartbeats 4000000 in
set_option maxRecDepth 100000 in
theorem zcs_chk (l : Launch) (D : va_G) (A0 : Nat) (σ : Mm) (k n : Int32) (h0 : ¬ k < 0) (h1 : k < n) : Met l yJ0_checkIndex_df160 (zws yJ0_checkIndex_df160 cJ0_checkIndex_df160 2 none) (zR 1 40) (zPc D A0 σ GF 740 [.int k, .int n]) (zQv D A0 σ GF 740) 0 0 (zA A0) := by
  refine zmet (own := "java/lang/String") (by decide) rfl (Nat.le_of_ble_eq_true rfl) ?_
  intro p e s m below meth c F hr hlocks _ Z ls hl
  have hx := F.1.1
  have hb := F.1.2.1
  have hown := F.1.2.2.2.1
  have hts := F.1.2.2.2.2
  have hl : lv_has ls 2 [(0, .int k), (1, .int n)] := hl
  have hq : ∃ v : Value, (v = .null ∨ ∃ t, v = .ref t) ∧ va_Z "jdk/internal/util/Preconditions" "SIOOBE_FORMATTER" "Ljava/util/function/BiFunction;" v (zA A0) s s.heap := by
    rcases F.2.2.1.2.2.2.2.2.2.2.2.2.1 with q | ⟨t, q⟩
    · exact ⟨.null, Or.inl rfl, q⟩
    · exact ⟨.ref t, Or.inr ⟨t, rfl⟩, q⟩
  obtain ⟨v, hv, hZ⟩ := hq
  refine lv_iload_n hx hb dJ0_checkIndex_df160_0 rfl (lv_at hl 0 rfl) ?_
  refine lv_iload_n hx hb dJ0_checkIndex_df160_1 rfl (lv_at hl 1 rfl) ?_
  refine va_gets (v := v) hx hb hZ Z.2 hown (hts _ zq682) (fun _ h => h) dJ0_checkIndex_df160_2 ?_
  refine zc_i Z (zr_S F Z (As := [.int k, .int n, v]) (zcs_pre l D A0 σ k n v hv h0 h1) zBs_pre zq684 rfl ⟨⟨rfl, rfl⟩, Nat.le_of_ble_eq_true rfl, Nat.le_of_ble_eq_true rfl⟩ hl.1 rfl (Nat.le_of_ble_eq_true rfl) dJ0_checkIndex_df160_5 ⟨Nat.le_of_ble_eq_true rfl, Nat.le_of_ble_eq_true rfl⟩) (fun _ _ Z => ?_)
  refine lv_pop hx hb dJ0_checkIndex_df160_8 rfl ?_
  exact ze_v F Z hr hlocks rfl dJ0_checkIndex_df160_9
theorem zsc_char : ∀ i, i < 6 → ∀ k, k < zLen.getD i 0 → (zsc i k).toInt8.toInt32 = zsc i k ∧ (((zByt.getD i []).getD k 0 &&& 255).toUInt32 % 65536).toInt32 = zsc i k ∧ narrow .char (.int (zsc i k)) = .int (zsc i k) := by decide +kernel
theorem zLen_b : ∀ i, i < 6 → zLen.getD i 0 < 100 := by decide +kernel
theorem zin_lt {k : Int32} {n : Nat} (hn : n < 100) (h : inb k n) : ¬ k < 0 ∧ k < nI n := by
  refine ⟨fun q => ?_, ?_⟩
  · have := Int32.lt_iff_toInt_lt.mp q
    rw [Int32.toInt_zero] at this
    omega
  · rw [Int32.lt_iff_toInt_lt, nI_toInt (by omega)]; exact h.2
set_option maxHeartbeats 4000000 in
set_option maxRecDepth 100000 in
theorem zcs_l1 (l : Launch) (D : va_G) (A0 : Nat) (σ : Mm) (i : Nat) (hi : i < 6) (k : Int32) (hk : inb k (zLen.getD i 0)) : Met l yJ1_charAt_3b067 (zws yJ1_charAt_3b067 cJ1_charAt_3b067 2 (some .char)) (zR 2 80) (zPc D A0 σ GF 740 [.ref (D.1 (80 + i)), .int k]) (zQi D A0 (zsc i (ix k)) σ GF 740) 0 0 (zA A0) := by
  refine zmet (own := "java/lang/StringLatin1") (by decide) rfl (Nat.le_of_ble_eq_true rfl) ?_
  intro p e s m below meth c F hr hlocks _ Z ls hl
  have hx := F.1.1
  have hb := F.1.2.1
  have hown := F.1.2.2.2.1
  have hts := F.1.2.2.2.2
  have hl : lv_has ls 2 [(0, .ref (D.1 (80 + i))), (1, .int k)] := hl
  have hT := (F.2.2.1.2.1.1 i hi).2.2.2
  have hk2 := zin_lt (zLen_b i hi) hk
  have h9 := zsc_char i hi (ix k) (zlt_ix hk)
  refine lv_iload_n hx hb dJ1_charAt_3b067_0 rfl (lv_at hl 1 rfl) ?_
  refine lv_aload_n hx hb dJ1_charAt_3b067_1 rfl (lv_at hl 0 rfl) ?_
  refine va_tlen hx hb hT Z.2 (v := nI (zLen.getD i 0)) rfl dJ1_charAt_3b067_2 ?_
  refine zc_v Z (zr_S F Z (As := [.int k, .int (nI (zLen.getD i 0))]) (zcs_chk l D A0 σ k (nI (zLen.getD i 0)) hk2.1 hk2.2) zBs_chk zq679 rfl ⟨⟨rfl, rfl⟩, Nat.le_of_ble_eq_true rfl, Nat.le_of_ble_eq_true rfl⟩ hl.1 rfl (Nat.le_of_ble_eq_true rfl) dJ1_charAt_3b067_3 ⟨Nat.le_of_ble_eq_true rfl, Nat.le_of_ble_eq_true rfl⟩) (fun _ _ Z => ?_)
  refine lv_aload_n hx hb dJ1_charAt_3b067_6 rfl (lv_at hl 0 rfl) ?_
  refine lv_iload_n hx hb dJ1_charAt_3b067_7 rfl (lv_at hl 1 rfl) ?_
  refine va_tb hx hb hT Z.2 (inb_vp hk) rfl dJ1_charAt_3b067_8 ?_
  refine lv_sipush (v := 255) hx hb dJ1_charAt_3b067_9 (by decide) ?_
  refine lv_iand hx hb dJ1_charAt_3b067_12 ?_
  refine lv_i2c (v := zsc i (ix k)) hx hb dJ1_charAt_3b067_13 h9.2.1 ?_
  exact ze_t F Z hr hlocks h9.2.2 rfl rfl dJ1_charAt_3b067_14
set_option maxHeartbeats 4000000 in
set_option maxRecDepth 100000 in
theorem zcs_length (l : Launch) (D : va_G) (A0 : Nat) (σ : Mm) (i : Nat) (hi : i < 6) : Met l yJ0_length_8abf5 (zws yJ0_length_8abf5 cJ0_length_8abf5 1 (some .int)) (zR 1 60) (zPc D A0 σ GF 740 [.ref (D.1 (60 + i))]) (zQi D A0 (zsl i) σ GF 740) 0 0 (zA A0) := by
  refine zmet (own := "java/lang/String") (by decide) rfl (Nat.le_of_ble_eq_true rfl) ?_
  intro p e s m below meth c F hr hlocks _ Z ls hl
  have hx := F.1.1
  have hb := F.1.2.1
  have hown := F.1.2.2.2.1
  have hts := F.1.2.2.2.2
  have hl : lv_has ls 1 [(0, .ref (D.1 (60 + i)))] := hl
  have hS := F.2.2.1.2.1.1
  refine lv_aload_n hx hb dJ0_length_8abf5_0 rfl (lv_at hl 0 rfl) ?_
  refine vk_getf (v := .ref (D.1 (80 + i))) hx hb (hS i hi).2.2.1 Z.2 hown (hts _ zq1877) (fun _ h => h) dJ0_length_8abf5_1 ?_
  refine va_tlen hx hb (hS i hi).2.2.2 Z.2 (v := nI (zLen.getD i 0)) rfl dJ0_length_8abf5_4 ?_
  refine lv_aload_n hx hb dJ0_length_8abf5_5 rfl (lv_at hl 0 rfl) ?_
  refine zc_i Z (zr_Vs F Z hi (As := []) (zcs_coder l D A0 σ i hi) zBs_coder zq654 rfl ⟨⟨rfl, rfl⟩, Nat.le_of_ble_eq_true rfl, Nat.le_of_ble_eq_true rfl⟩ hl.1 rfl (Nat.le_of_ble_eq_true rfl) dJ0_length_8abf5_6 ⟨Nat.le_of_ble_eq_true rfl, Nat.le_of_ble_eq_true rfl⟩) (fun _ _ Z => ?_)
  refine lv_ishr hx hb dJ0_length_8abf5_9 ?_
  exact ze_i F Z hr hlocks (by unfold zsl; rw [sc_shr0 (by have := zLen_b i hi; omega)]) rfl dJ0_length_8abf5_10
set_option maxHeartbeats 4000000 in
set_option maxRecDepth 100000 in
theorem zcs_charAt (l : Launch) (D : va_G) (A0 : Nat) (σ : Mm) (i : Nat) (hi : i < 6) (k : Int32) (hk : inb k (zLen.getD i 0)) : Met l yJ0_charAt_5068e (zws yJ0_charAt_5068e cJ0_charAt_5068e 2 (some .char)) (zR 3 120) (zPc D A0 σ GF 740 [.ref (D.1 (60 + i)), .int k]) (zQi D A0 (zsc i (ix k)) σ GF 740) 0 0 (zA A0) := by
  refine zmet (own := "java/lang/String") (by decide) rfl (Nat.le_of_ble_eq_true rfl) ?_
  intro p e s m below meth c F hr hlocks _ Z ls hl
  have hx := F.1.1
  have hb := F.1.2.1
  have hown := F.1.2.2.2.1
  have hts := F.1.2.2.2.2
  have hl : lv_has ls 2 [(0, .ref (D.1 (60 + i))), (1, .int k)] := hl
  have hS := F.2.2.1.2.1.1
  have h9 := zsc_char i hi (ix k) (zlt_ix hk)
  refine lv_aload_n hx hb dJ0_charAt_5068e_0 rfl (lv_at hl 0 rfl) ?_
  refine zc_i Z (zr_Vs F Z hi (As := []) (zcs_isL l D A0 σ i hi) zBs_isL zq672 rfl ⟨⟨rfl, rfl⟩, Nat.le_of_ble_eq_true rfl, Nat.le_of_ble_eq_true rfl⟩ hl.1 rfl (Nat.le_of_ble_eq_true rfl) dJ0_charAt_5068e_1 ⟨Nat.le_of_ble_eq_true rfl, Nat.le_of_ble_eq_true rfl⟩) (fun _ _ Z => ?_)
  refine lv_if_eq (tgt := 16) hx hb dJ0_charAt_5068e_4 (by decide) (fun q => absurd q (by decide)) (fun _ => ?_)
  refine lv_aload_n hx hb dJ0_charAt_5068e_7 rfl (lv_at hl 0 rfl) ?_
  refine vk_getf (v := .ref (D.1 (80 + i))) hx hb (hS i hi).2.2.1 Z.2 hown (hts _ zq1877) (fun _ h => h) dJ0_charAt_5068e_8 ?_
  refine lv_iload_n hx hb dJ0_charAt_5068e_11 rfl (lv_at hl 1 rfl) ?_
  refine zc_i Z (zr_S F Z (As := [.ref (D.1 (80 + i)), .int k]) (zcs_l1 l D A0 σ i hi k hk) zBs_l1 zq676 rfl ⟨⟨rfl, rfl⟩, Nat.le_of_ble_eq_true rfl, Nat.le_of_ble_eq_true rfl⟩ hl.1 rfl (Nat.le_of_ble_eq_true rfl) dJ0_charAt_5068e_12 ⟨Nat.le_of_ble_eq_true rfl, Nat.le_of_ble_eq_true rfl⟩) (fun _ _ Z => ?_)
  exact ze_t F Z hr hlocks h9.2.2 rfl rfl dJ0_charAt_5068e_15
section ZE
variable {p : Program} {l : Launch} {e : Env} {R : Room} {s : State} {m : MethodId} {args : Array Value} {below : List Frame} {meth : Method} {c : Code} {H : Heap} {locs : List Loc} {cells slots : Nat} {Q : State → Prop}
variable {cc : ByteArray} {nL : Nat} {own : String} {D : va_G} {A0 : Nat} {σ : Mm} {G : Gm} {n : Nat} {pc : Nat} {ls : Array Slot} {rest st : List Value}
theorem zw_slen (l : Launch) {p : Program} {e : Env} {R : Room} {s : State} {m : MethodId} {args : Array Value} {below : List Frame} {meth : Method} {c : Code} {H : Heap} {locs : List Loc} {cells slots : Nat} {Q : State → Prop}
    (F : zx p s m c cc nL args own D A0) (Z : zh D A0 σ GF 740 s.heap H locs) (hsz : ls.size = nL) {i idx : Nat} (hi : i < 6) (hl : Cond.methodLink own idx ⟨"java/lang/String", "length", "()I"⟩ ∈ zTB) (hR : 6 ≤ R.frames ∧ 200 ≤ R.locals) (hcl : cells ≤ R.cells ∧ slots ≤ R.slots) (hcat : (rest.map fun v => v.category).sum ≤ 8) (hd : decode cc pc = .ok (.invokevirtual idx, 3))
    (kk : ∀ (H1 : Heap) (locs1 : List Loc), zh D A0 σ GF 740 s.heap H1 locs1 → W p l e R s m args below meth c H1 locs1 cells slots Q (F0 m (pc + 3) ls (.int (zsl i) :: rest))) : W p l e R s m args below meth c H locs cells slots Q (F0 m pc ls (.ref (D.1 (60 + i)) :: rest)) :=
  zc_i Z (zr_Vs F Z hi (As := []) (zcs_length l D A0 σ i hi) zBs_length hl rfl ⟨⟨rfl, rfl⟩, by dsimp only [zR]; omega, by dsimp only [zR]; omega⟩ hsz rfl hcat hd hcl) kk
theorem zw_schr (l : Launch) {p : Program} {e : Env} {R : Room} {s : State} {m : MethodId} {args : Array Value} {below : List Frame} {meth : Method} {c : Code} {H : Heap} {locs : List Loc} {cells slots : Nat} {Q : State → Prop}
    (F : zx p s m c cc nL args own D A0) (Z : zh D A0 σ GF 740 s.heap H locs) (hsz : ls.size = nL) {i idx : Nat} {k : Int32} (hi : i < 6) (hk : inb k (zLen.getD i 0)) (hl : Cond.methodLink own idx ⟨"java/lang/String", "charAt", "(I)C"⟩ ∈ zTB) (hR : 6 ≤ R.frames ∧ 200 ≤ R.locals) (hcl : cells ≤ R.cells ∧ slots ≤ R.slots) (hcat : (rest.map fun v => v.category).sum ≤ 8) (hd : decode cc pc = .ok (.invokevirtual idx, 3))
    (kk : ∀ (H1 : Heap) (locs1 : List Loc), zh D A0 σ GF 740 s.heap H1 locs1 → W p l e R s m args below meth c H1 locs1 cells slots Q (F0 m (pc + 3) ls (.int (zsc i (ix k)) :: rest))) : W p l e R s m args below meth c H locs cells slots Q (F0 m pc ls (.int k :: .ref (D.1 (60 + i)) :: rest)) :=
  zc_i Z (zr_Vs F Z hi (As := [.int k]) (zcs_charAt l D A0 σ i hi k hk) zBs_charAt hl rfl ⟨⟨rfl, rfl⟩, by dsimp only [zR]; omega, by dsimp only [zR]; omega⟩ hsz rfl hcat hd hcl) kk
end ZE
