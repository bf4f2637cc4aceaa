/-- a place of a row of longs is written: the row has one place -/
theorem zw_last {p : Program} {l : Launch} {e : Env} {R : Room} {s : State} {m : MethodId} {args : Array Value} {below : List Frame} {meth : Method} {c : Code} {H : Heap} {locs : List Loc} {cells slots : Nat} {Q : State → Prop}
    {cc : ByteArray} {nL : Nat} {own : String} {D : va_G} {A0 : Nat} {σ : Mm} {G : Gm} {n : Nat} {pc : Nat} {ls : Array Slot} {rest : List Value}
    (F : zx p s m c cc nL args own D A0) (Z : zh D A0 σ G n s.heap H locs) {a : Nat} {v : Int64} (ha : a < n) (hs : zs a = (53, 1)) (hd : decode cc pc = .ok (.lastore, 1))
    (kk : ∀ (H1 : Heap) (locs1 : List Loc), zh D A0 (zstL σ a 0 v) G n s.heap H1 locs1 → W p l e R s m args below meth c H1 locs1 cells slots Q (F0 m (pc + 1) ls rest)) : W p l e R s m args below meth c H locs cells slots Q (F0 m pc ls (.long v :: .int 0 :: .ref (A0 + a) :: rest)) := by
  refine va_last (tys := zTY D) F.1.1 F.1.2.1 F.2.1 Z.1 zwl_D Z.2 a 3 (f := fun j => zj (σ a j) (σ a (j + 200))) (i := 0) (by rw [zwl_get ha, zent_l hs]) rfl (inb_vp (by decide)) hd (fun H1 locs1 hP _ hS => kk H1 locs1 ⟨?_, hS⟩)
  intro k q hk
  obtain ⟨hk2, rfl⟩ := zwl_at hk
  by_cases hka : k = a
  · subst hka
    have h1 := hP k (A0 + k, .inl (D.1 53, 1, .inr (.inl (vp_updL (fun j => zj (σ k j) (σ k (j + 200))) (0 : Int32).toNatClampNeg v)))) (List.getElem?_set_self (by simpa [zwl] using ha))
    rw [zent_l hs]
    have h2 : H1[A0 + k]? = some (vp_cell (D.1 53) (1, .inr (.inl (vp_updL (fun j => zj (σ k j) (σ k (j + 200))) (0 : Int32).toNatClampNeg v)))) := h1
    show H1[A0 + k]? = some (vp_cell (D.1 53) (1, .inr (.inl (fun j => zj (zstL σ k 0 v k j) (zstL σ k 0 v k (j + 200))))))
    rw [h2, vp_cell_l, vp_cell_l]
    congr 1
    unfold arrV
    congr 1
    apply Array.ext
    · simp
    · intro i hi1 hi2
      have hi0 : i = 0 := by simp at hi1; omega
      subst hi0
      simp only [Array.getElem_ofFn]
      congr 1
      unfold zstL
      rw [zst_s, pk_un (by decide), zst_s, pk_us, pk_us, zj_eq]
      rfl
  · have h1 := hP k (A0 + k, zent D A0 σ G k) (by rw [List.getElem?_set_ne (Ne.symm hka), zwl_get hk2])
    have h2 : zent D A0 (zstL σ a 0 v) G k = zent D A0 σ G k := zent_eq (by unfold zstL; rw [zst_n hka, zst_n hka]) rfl
    rw [h2]
    exact h1
def zX (D : va_G) (A0 : Nat) (σ : Mm) : String → State → State → Prop := vx_X (S := Unit) (fun _ => True) (fun E _ t => E = zNS ∧ va_P D vwCl (zwl D A0 σ GF 740) t.heap) (zA A0)
def zNames : List String := ["java/lang/RuntimeException", "java/lang/Exception"]
theorem zat_good : ∀ w ∈ (vx_at0 RX11 138 zNS zNames).filter goodWord, w ∈ lw_tbl := by decide +kernel
def zBad : List Cond := [.declares ⟨"java/lang/RuntimeException", "<init>", "()V"⟩, .declares ⟨"java/lang/Exception", "<init>", "()V"⟩, .declares ⟨"java/lang/Throwable", "<init>", "()V"⟩, .castable zNS zNS]
theorem zat_bad : ∀ w ∈ (vx_at0 RX11 138 zNS zNames).filter (fun w => !goodWord w), w ∈ zBad := by decide +kernel
theorem zat_ot : ∀ w ∈ Cond.classLink RX11 136 zNS :: Cond.initialized zNS :: vx_at0 RX11 138 zNS zNames, vx_ot w = true := by decide +kernel
theorem zat {p : Program} {s : State} {m : MethodId} {c : Code} {cc : ByteArray} {nL : Nat} {args : Array Value} {own : String} {D : va_G} {A0 : Nat} (F : zx p s m c cc nL args own D A0) : ∀ w ∈ vx_at0 RX11 138 zNS zNames, w.before args s = true := by
  refine vx_hat (B := zBad) (fun w hw => F.1.2.2.2.2 w (List.mem_filter.mpr ⟨zat_good w hw, (List.mem_filter.mp hw).2⟩)) zat_bad ?_
  have hD := F.2.2.1.2.2.2.2.2.1
  intro w hw
  simp only [zBad, List.mem_cons, List.not_mem_nil, or_false] at hw
  rcases hw with rfl | rfl | rfl | rfl
  · exact va_Nw.use rfl (hD _ (by decide))
  · exact va_Nw.use rfl (hD _ (by decide))
  · exact va_Nw.use rfl (hD _ (by decide))
  · exact va_Nw.use rfl F.2.2.1.2.2.2.2.2.2.2.2.2.2.1
set_option maxHeartbeats 4000000 in
set_option maxRecDepth 100000 in
theorem zcx_seller (l : Launch) (hst : l.stackTraces = false) (D : va_G) (A0 : Nat) (x1 x2 : Int32) (σ : Mm) (h : zfX11_isSeller x1 σ = 0 ∨ (¬ zfX11_isSeller x1 σ = 0 ∧ ¬ zfX11_noWhat x2 9 = 0)) :
    vx_Met l yX11_seller (zws yX11_seller cX11_seller 3 (some .int)) ({ frames := 20, cells := 1, slots := 6, locals := 400 } : Room) (zPc D A0 σ GF 740 [.ref (A0 + 0), .int x1, .int x2]) (va_Qi (S := Unit) (fun _ _ => False) (fun _ _ => False) (zA A0)) (zX D A0 σ) 1 6 (zA A0) := by
  refine vx_ofW (cc := cX11_seller) (maxL := 3) (ret := some .int) (by decide) rfl ?_
  intro p e s m args below meth c s₁ B hml hex hv
  obtain ⟨rfl, hP, hK, hRO, hA0⟩ := hv
  have hts := atoms_spec (ws := zws yX11_seller cX11_seller 3 (some .int)) B.pre
  have hown : s.vm.findClass RX11 = some m.cls := findClass_of_methodNamed B.named
  have F : zx p s m c cX11_seller 3 [.ref (A0 + 0), .int x1, .int x2].toArray RX11 D A0 := ⟨⟨B.exec, B.bytes, hml, hown, fun w hw => hts w (List.mem_cons_of_mem _ hw)⟩, hK, hRO, hA0⟩
  have Z : zh D A0 σ GF 740 s.heap s.heap [] := ⟨hP, va_S.rf⟩
  have hlocks := B.notSynchronized
  have hl := lv_entry [.ref (A0 + 0), .int x1, .int x2] (n := 3) (Nat.le_of_ble_eq_true rfl)
  rw [lg_entry_eq]
  generalize (lg_sl [.ref (A0 + 0), .int x1, .int x2] ++ List.replicate (3 - (lg_sl [.ref (A0 + 0), .int x1, .int x2]).length) Slot.unset).toArray = ls at hl ⊢
  have hl : lv_has ls 3 [(0, .ref (A0 + 0)), (1, .int x1), (2, .int x2)] := hl
  have hx := F.1.1
  have hb := F.1.2.1
  have thr : ∀ (H : Heap) (locs : List Loc), zh D A0 σ GF 740 s.heap H locs → W p l e ({ frames := 20, cells := 1, slots := 6, locals := 400 } : Room) s m [.ref (A0 + 0), .int x1, .int x2].toArray below meth c H locs 0 0 (vx_MQ below (va_Qi (S := Unit) (fun _ _ => False) (fun _ _ => False) (zA A0)) (zX D A0 σ) [.ref (A0 + 0), .int x1, .int x2].toArray s 1 6 (zA A0)) (F0 m 17 ls []) := by
    intro H locs Z
    refine vx_throw0 hx hb hst (own := RX11) (cls := zNS) (names := zNames) (ik := 136) (ic := 138) (A := zA A0) hown (by decide) (by decide) (F.1.2.2.2.2 _ zq1181) (F.1.2.2.2.2 _ zq98) (zat F) zat_ot F.2.2.1.2.2.2.2.2.2.2.2.2.2.2.1 F.2.2.1.2.2.2.2.2.2.2.2.2.2.2.2.1 Z.2 (hl.1.trans F.1.2.2.1.symm) dX11_seller_17 dX11_seller_20 dX11_seller_21 dX11_seller_24 (fun z hz => (hex z hz).elim) (by decide) (Nat.le_of_ble_eq_true rfl) (Nat.le_of_ble_eq_true rfl) (Nat.le_of_ble_eq_true rfl) hlocks ?_ Z.2.2.2 (Nat.le_of_ble_eq_true rfl) (Nat.le_of_ble_eq_true rfl)
    intro t _ hsz hold
    refine ⟨(), trivial, ⟨rfl, Z.1.kept (fun k q hk => hold _ ((Z.1 k q hk).lt))⟩, Nat.le_trans Z.2.1 hsz, fun q h1 h2 => ?_⟩
    rw [hold q (Nat.lt_of_lt_of_le h1 Z.2.1)]
    exact Z.2.2.1 q h1 h2
  refine lv_aload_n hx hb dX11_seller_0 rfl (lv_at hl 0 rfl) ?_
  refine lv_iload_n hx hb dX11_seller_1 rfl (lv_at hl 1 rfl) ?_
  refine zc_i Z (zr_V F Z (a := 0) (As := [.int x1]) (zcX11_isSeller l D A0 x1 σ (zfX11_isSeller x1 σ) rfl) zBX11_isSeller zq826 (by decide) zs_0 zC11.1 rfl ⟨⟨rfl, rfl⟩, Nat.le_of_ble_eq_true rfl, Nat.le_of_ble_eq_true rfl⟩ hl.1 rfl (Nat.le_of_ble_eq_true rfl) dX11_seller_2 ⟨Nat.le_of_ble_eq_true rfl, Nat.le_of_ble_eq_true rfl⟩) (fun _ _ Z => ?_)
  refine lv_if_eq (tgt := 17) hx hb dX11_seller_5 (by decide) (fun _ => thr _ _ Z) (fun hn => ?_)
  refine lv_iload_n hx hb dX11_seller_8 rfl (lv_at hl 2 rfl) ?_
  refine lv_bipush (v := 9) hx hb dX11_seller_9 (by decide) ?_
  refine zc_i Z (zr_S F Z (As := [.int x2, .int 9]) (zcX11_noWhat l D A0 x2 9 σ (zfX11_noWhat x2 9) rfl) zBX11_noWhat zq971 rfl ⟨⟨rfl, rfl⟩, Nat.le_of_ble_eq_true rfl, Nat.le_of_ble_eq_true rfl⟩ hl.1 rfl (Nat.le_of_ble_eq_true rfl) dX11_seller_11 ⟨Nat.le_of_ble_eq_true rfl, Nat.le_of_ble_eq_true rfl⟩) (fun _ _ Z => ?_)
  refine lv_if_eq (tgt := 25) hx hb dX11_seller_14 (by decide) (fun hq => absurd hq ?_) (fun _ => thr _ _ Z)
  rcases h with h | h
  · exact absurd h hn
  · exact h.2
abbrev zwsL : List Cond := Cond.codeWith yL_seller cL_seller 5 (some .int) [(0, 10, 13, 13)] :: zTB
set_option maxHeartbeats 4000000 in
set_option maxRecDepth 100000 in
theorem zcl_seller0 (l : Launch) (D : va_G) (A0 : Nat) (x1 x2 : Int32) (σ : Mm) (r : Int32) (h : zfX11_seller x1 x2 σ = some r) :
    Met l yL_seller zwsL ({ frames := 30, cells := 1, slots := 6, locals := 600 } : Room) (zPc D A0 σ GF 740 [.ref (A0 + 0), .int x1, .int x2, .ref (A0 + 739)]) (zQi D A0 0 (zstL σ 739 0 (Int32.toInt64 r)) GF 740) 1 6 (zA A0) := by
  refine va_MetW (cc := cL_seller) (maxL := 5) (ret := some .int) (hh := [(0, 10, 13, 13)]) (by decide) rfl ?_
  intro p e s m args below meth c s₁ B hml hv
  obtain ⟨rfl, hP, hK, hRO, hA0⟩ := hv
  have hts := atoms_spec (ws := zwsL) B.pre
  have hown : s.vm.findClass RL = some m.cls := findClass_of_methodNamed B.named
  have F : zx p s m c cL_seller 5 [.ref (A0 + 0), .int x1, .int x2, .ref (A0 + 739)].toArray RL D A0 := ⟨⟨B.exec, B.bytes, hml, hown, fun w hw => hts w (List.mem_cons_of_mem _ hw)⟩, hK, hRO, hA0⟩
  have Z : zh D A0 σ GF 740 s.heap s.heap [] := ⟨hP, va_S.rf⟩
  have hlocks := B.notSynchronized
  have hr := B.returns
  have hl := lv_entry [.ref (A0 + 0), .int x1, .int x2, .ref (A0 + 739)] (n := 5) (Nat.le_of_ble_eq_true rfl)
  rw [lg_entry_eq]
  generalize (lg_sl [.ref (A0 + 0), .int x1, .int x2, .ref (A0 + 739)] ++ List.replicate (5 - (lg_sl [.ref (A0 + 0), .int x1, .int x2, .ref (A0 + 739)]).length) Slot.unset).toArray = ls at hl ⊢
  have hl : lv_has ls 5 [(0, .ref (A0 + 0)), (1, .int x1), (2, .int x2), (3, .ref (A0 + 739))] := hl
  have hx := F.1.1
  have hb := F.1.2.1
  refine lv_aload_n hx hb dL_seller_0 rfl (lv_at hl 3 rfl) ?_
  refine lv_iconst (v := 0) hx hb dL_seller_1 (by decide) ?_
  refine lv_aload_n hx hb dL_seller_2 rfl (lv_at hl 0 rfl) ?_
  refine lv_iload_n hx hb dL_seller_3 rfl (lv_at hl 1 rfl) ?_
  refine lv_iload_n hx hb dL_seller_4 rfl (lv_at hl 2 rfl) ?_
  refine zc_i Z (zr_V F Z (a := 0) (As := [.int x1, .int x2]) (zcX11_seller l D A0 x1 x2 σ r h) zBX11_seller zq1177 (by decide) zs_0 zC11.1 rfl ⟨⟨rfl, rfl⟩, Nat.le_of_ble_eq_true rfl, Nat.le_of_ble_eq_true rfl⟩ hl.1 rfl (Nat.le_of_ble_eq_true rfl) dL_seller_5 ⟨Nat.le_of_ble_eq_true rfl, Nat.le_of_ble_eq_true rfl⟩) (fun _ _ Z => ?_)
  refine lv_i2l hx hb dL_seller_8 rfl ?_
  refine zw_last F Z (by decide) zs_739 dL_seller_9 (fun _ _ Z => ?_)
  refine lv_goto (tgt := 17) hx hb dL_seller_10 (by decide) ?_
  refine lv_iconst (v := 0) hx hb dL_seller_17 (by decide) ?_
  refine W.widen (k := 1) (n := 6) (by decide) (by decide) ?_
  exact ze_i F Z hr hlocks rfl rfl dL_seller_18
set_option maxHeartbeats 4000000 in
set_option maxRecDepth 100000 in
theorem zcl_seller1 (l : Launch) (hst : l.stackTraces = false) (D : va_G) (A0 : Nat) (x1 x2 : Int32) (σ : Mm) (h : zfX11_isSeller x1 σ = 0 ∨ (¬ zfX11_isSeller x1 σ = 0 ∧ ¬ zfX11_noWhat x2 9 = 0)) :
    Met l yL_seller zwsL ({ frames := 30, cells := 1, slots := 6, locals := 600 } : Room) (zPc D A0 σ GF 740 [.ref (A0 + 0), .int x1, .int x2, .ref (A0 + 739)]) (zQi D A0 1 σ GF 740) 1 6 (zA A0) := by
  refine va_MetW (cc := cL_seller) (maxL := 5) (ret := some .int) (hh := [(0, 10, 13, 13)]) (by decide) rfl ?_
  intro p e s m args below meth c s₁ B hml hv
  obtain ⟨rfl, hP, hK, hRO, hA0⟩ := hv
  have hts := atoms_spec (ws := zwsL) B.pre
  have hown : s.vm.findClass RL = some m.cls := findClass_of_methodNamed B.named
  have F : zx p s m c cL_seller 5 [.ref (A0 + 0), .int x1, .int x2, .ref (A0 + 739)].toArray RL D A0 := ⟨⟨B.exec, B.bytes, hml, hown, fun w hw => hts w (List.mem_cons_of_mem _ hw)⟩, hK, hRO, hA0⟩
  have Z : zh D A0 σ GF 740 s.heap s.heap [] := ⟨hP, va_S.rf⟩
  have hlocks := B.notSynchronized
  have hr := B.returns
  have hl := lv_entry [.ref (A0 + 0), .int x1, .int x2, .ref (A0 + 739)] (n := 5) (Nat.le_of_ble_eq_true rfl)
  rw [lg_entry_eq]
  generalize (lg_sl [.ref (A0 + 0), .int x1, .int x2, .ref (A0 + 739)] ++ List.replicate (5 - (lg_sl [.ref (A0 + 0), .int x1, .int x2, .ref (A0 + 739)]).length) Slot.unset).toArray = ls at hl ⊢
  have hl : lv_has ls 5 [(0, .ref (A0 + 0)), (1, .int x1), (2, .int x2), (3, .ref (A0 + 739))] := hl
  have hx := F.1.1
  have hb := F.1.2.1
  refine lv_aload_n hx hb dL_seller_0 rfl (lv_at hl 3 rfl) ?_
  refine lv_iconst (v := 0) hx hb dL_seller_1 (by decide) ?_
  refine lv_aload_n hx hb dL_seller_2 rfl (lv_at hl 0 rfl) ?_
  refine lv_iload_n hx hb dL_seller_3 rfl (lv_at hl 1 rfl) ?_
  refine lv_iload_n hx hb dL_seller_4 rfl (lv_at hl 2 rfl) ?_
  have ht := F.1.2.2.2.2
  have hcw : (Cond.codeWith yL_seller cL_seller 5 (some .int) [(0, 10, 13, 13)]).before [.ref (A0 + 0), .int x1, .int x2, .ref (A0 + 739)].toArray s = true := hts _ List.mem_cons_self
  have htb := vx_table (x := yL_seller) B hcw
  refine vx_calli (vx_runV (C := RX11) (n := 2) (As := [.int x1, .int x2]) (rest := [.int 0, .ref (A0 + 739)]) F.1 (zcx_seller l hst D A0 x1 x2 σ h) ⟨callB_of 2 ht (zG zBX11_seller.1.1) rfl rfl rfl (ht _ zBX11_seller.1.2.1) (ht _ zq1177) zBX11_seller.1.2.2 ⟨Nat.le_of_ble_eq_true rfl, Nat.le_of_ble_eq_true rfl⟩, ht _ zBX11_seller.2.1, ht _ zBX11_seller.2.2⟩ ⟨zPc_blind, va_recv F.2.1 Z.1 (ci := 10) (q0 := 0) rfl (by rw [zwl_get (by decide), zent_o zs_0 (by decide)]), zpre F Z⟩ rfl rfl hl.1 rfl (lv_room (Nat.le_of_ble_eq_true rfl)) dL_seller_5 ⟨Nat.le_of_ble_eq_true rfl, Nat.le_of_ble_eq_true rfl⟩) Z.2 (fun _ _ h => h) (fun _ h => h) (fun _ _ h => h) ?_ (fun _ _ _ _ _ _ _ h => h.elim)
  intro E ce q9 u t H1 locs1 hH hal _ hB hsz hold hS1 hq9 hce hcls
  obtain ⟨rfl, hP1⟩ := hB
  have Z1 : zh D A0 σ GF 740 s.heap H1 locs1 := ⟨hH ▸ hP1, hS1⟩
  refine vx_catch hown [] ⟨0, 10, 13, 13⟩ [] (htb.trans rfl) (fun z hz => absurd hz (by simp)) rfl (by decide) (ht _ zq1176) (va_Nw.use rfl F.2.2.1.2.2.2.2.2.2.2.2.2.2.1) hq9 hce hcls ?_
  refine lv_astore (lv' := [(4, .ref q9), (0, .ref (A0 + 0)), (1, .int x1), (2, .int x2), (3, .ref (A0 + 739))]) hx hb dL_seller_13 hl (by decide) rfl (fun ls hl => ?_)
  refine lv_iconst (v := 1) hx hb dL_seller_15 (by decide) ?_
  exact ze_i F Z1 hr hlocks rfl rfl dL_seller_16
