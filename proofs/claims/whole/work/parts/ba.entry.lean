/-! ===== the law from its entry ===== -/
theorem zst0_of {l : Launch} (h : l.flags = flags0) : l.stackTraces = false := by
  unfold Launch.stackTraces
  rw [h]
  decide
set_option maxHeartbeats 8000000 in
set_option maxRecDepth 100000 in
/-- THE LAW, from its entry -/
theorem whole_start {p : Program} {e : Env} {s : State} {m : MethodId} {below : List Frame} {meth : Method} {c : Code} (l : Launch) (hflags : l.flags = flags0) {b L : Nat} {xs : Nat → Int32} (hL : L ≤ 3072) (C0 : lw_At p s m meth c b L xs) : W p l e room_1 s m #[Value.ref b] below meth c s.heap [] 0 0 (lw_Z below #[Value.ref b] s) (entryFrame m ([Value.ref b] : List Value).toArray 7) := by
  obtain ⟨hx, hb, hr, hml, hown, hts, hX, hbl, hlocks, hgv⟩ := id C0
  obtain ⟨D, hK, hRO⟩ := world_0 hts hgv
  have F : zx p s m c cL_law 7 #[Value.ref b] RL D s.heap.size := ⟨⟨hx, hb, hml, hown, fun w hw => hts w (List.mem_filter.mp hw).1⟩, hK, hRO, Nat.le_refl _⟩
  have hst := zst0_of hflags
  have hl := lv_entry ([.ref b]) (n := 7) (Nat.le_of_ble_eq_true rfl)
  rw [lg_entry_eq]
  generalize (lg_sl ([.ref b]) ++ List.replicate (7 - (lg_sl ([.ref b])).length) Slot.unset).toArray = ls at hl ⊢
  have hl : lv_has ls 7 [(0, .ref b)] := hl
  have hz0 : s.heap.size = s.heap.size + 0 := rfl
  have Z : zhc D s.heap.size (fun _ _ => 0) (fun _ => none) 0 s.heap s.heap [] := ⟨⟨fun k q hk => by simp [zwl] at hk, va_S.rf⟩, fun _ _ => rfl⟩
  refine zk_new F Z hz0 rfl zC11 zs_0 (by decide +kernel) zq101 zq102 zq77 (Nat.le_of_ble_eq_true rfl) (Nat.le_of_ble_eq_true rfl) dL_law_0 (fun _ Z => ?_)
  have Z : zhc D s.heap.size (fun _ _ => 0) (zPu (fun _ => none) 0 (some [])) 1 s.heap _ _ := Z
  refine W.widen (k := 1) (n := 17) (Nat.le_of_ble_eq_true rfl) (Nat.le_of_ble_eq_true rfl) ?_
  refine lv_dup hx hb dL_law_3 rfl ?_
  refine zsized fun hle => ?_
  refine zc_vm Z.1 (zr_I F Z.1 (a := 0) (zsz Z.1 hz0 rfl hle) (As := []) (zci_UnsoldPrice l D s.heap.size (fun _ _ => 0) (fun _ => none) (fun _ _ => rfl) rfl (fun _ _ => rfl)) zBI_UnsoldPrice zq103 rfl ⟨⟨rfl, rfl⟩, Nat.le_of_ble_eq_true rfl, Nat.le_of_ble_eq_true rfl⟩ hl.1 rfl (Nat.le_of_ble_eq_true rfl) dL_law_4 ⟨Nat.le_of_ble_eq_true rfl, Nat.le_of_ble_eq_true rfl⟩) (fun _ _ Z1 => ?_)
  have Z : zhc D s.heap.size (fun _ _ => 0) (fun _ => none) 703 s.heap _ _ := ⟨Z1, fun _ _ => rfl⟩
  refine W.widen (k := 703) (n := 36883) (Nat.le_of_ble_eq_true rfl) (Nat.le_of_ble_eq_true rfl) ?_
  refine lv_astore_n (lv' := [(1, .ref (s.heap.size + 0)), (0, .ref b)]) hx hb dL_law_7 rfl hl (by decide) rfl (fun ls hl => ?_)
  refine zk_new F Z hz0 rfl zC12 zs_703 (by decide +kernel) zq1242 zq1243 zq90 (Nat.le_of_ble_eq_true rfl) (Nat.le_of_ble_eq_true rfl) dL_law_8 (fun _ Z => ?_)
  have Z : zhc D s.heap.size (fun _ _ => 0) (zPu (fun _ => none) 703 (some [])) 704 s.heap _ _ := Z
  refine W.widen (k := 704) (n := 36957) (Nat.le_of_ble_eq_true rfl) (Nat.le_of_ble_eq_true rfl) ?_
  refine lv_dup hx hb dL_law_11 rfl ?_
  refine zsized fun hle => ?_
  refine zc_vm Z.1 (zr_I F Z.1 (a := 703) (zsz Z.1 hz0 rfl hle) (As := []) (zci_Model l D s.heap.size (fun _ _ => 0) (fun _ => none) rfl (fun _ _ => rfl)) zBI_Model zq1244 rfl ⟨⟨rfl, rfl⟩, Nat.le_of_ble_eq_true rfl, Nat.le_of_ble_eq_true rfl⟩ hl.1 rfl (Nat.le_of_ble_eq_true rfl) dL_law_12 ⟨Nat.le_of_ble_eq_true rfl, Nat.le_of_ble_eq_true rfl⟩) (fun _ _ Z1 => ?_)
  have Z : zhc D s.heap.size zg0 (fun _ => none) 739 s.heap _ _ := ⟨Z1, fun a h => zg0_n (by omega) (by omega)⟩
  refine W.widen (k := 739) (n := 41641) (Nat.le_of_ble_eq_true rfl) (Nat.le_of_ble_eq_true rfl) ?_
  refine lv_astore_n (lv' := [(2, .ref (s.heap.size + 703)), (1, .ref (s.heap.size + 0)), (0, .ref b)]) hx hb dL_law_15 rfl hl (by decide) rfl (fun ls hl => ?_)
  refine lv_iconst (v := 1) hx hb dL_law_16 (by decide) ?_
  refine zk_newa F Z hz0 rfl (ty := 3) (atype := .long) (N := 1) zs_739 (by decide) zq1854 (by decide) rfl (Nat.le_of_ble_eq_true rfl) (Nat.le_of_ble_eq_true rfl) (Nat.le_of_ble_eq_true rfl) dL_law_17 (fun H Z => ?_)
  have Z : zhc D s.heap.size zg0 (fun _ => none) 740 s.heap H _ := Z
  refine W.widen (k := 740) (n := 41642) (Nat.le_of_ble_eq_true rfl) (Nat.le_of_ble_eq_true rfl) ?_
  refine lv_astore_n (lv' := [(3, .ref (s.heap.size + 739)), (2, .ref (s.heap.size + 703)), (1, .ref (s.heap.size + 0)), (0, .ref b)]) hx hb dL_law_19 rfl hl (by decide) rfl (fun ls hl => ?_)
  refine lv_iconst (v := 0) hx hb dL_law_20 (by decide) ?_
  refine lv_istore (lv' := [(4, .int 0), (3, .ref (s.heap.size + 739)), (2, .ref (s.heap.size + 703)), (1, .ref (s.heap.size + 0)), (0, .ref b)]) hx hb dL_law_21 hl (by decide) rfl (fun ls hl => ?_)
  have Z9 : zh D s.heap.size zg0 GF 740 s.heap H _ := zh_eq Z.1 (fun a ha => zent_eq (σ := zg0) (σ1 := zg0) (G := zGx 740 (fun _ => none)) (G1 := GF) rfl (by funext k; unfold zGx; rw [if_pos ha]))
  exact law_loop hst hr hlocks F hX hbl hL (L + 1) 0 (by omega) (Nat.zero_le L) zg0 H _ Z9 iv_0 ls (lv_sub hl [4, 3, 2, 1, 0] rfl)
