theorem zBI_Tape : zBI yX9_init cX9_init 1 0 := ⟨⟨zq113, zq78, by decide +kernel⟩, rfl, zq112⟩
theorem zBI_Market : zBI yX0_init cX0_init 1 0 := ⟨⟨zq128, zq79, by decide +kernel⟩, rfl, zq127⟩
theorem zBI_Rule : zBI yX4_init cX4_init 1 0 := ⟨⟨zq199, zq80, by decide +kernel⟩, rfl, zq198⟩
theorem zBI_State : zBI yX8_init cX8_init 1 0 := ⟨⟨zq216, zq81, by decide +kernel⟩, rfl, zq215⟩
theorem zBI_Notes_695 : zBI yX2_init cX2_init 3 1 := ⟨⟨zq512, zq88, by decide +kernel⟩, rfl, zq511⟩
theorem zBI_Notes_699 : zBI yX2_init cX2_init 3 1 := ⟨⟨zq512, zq88, by decide +kernel⟩, rfl, zq511⟩
theorem zBI_Reader_43 : zBI yX3_init cX3_init 2 1 := ⟨⟨zq349, zq83, by decide +kernel⟩, rfl, zq348⟩
theorem zBI_Reader_46 : zBI yX3_init cX3_init 2 1 := ⟨⟨zq349, zq83, by decide +kernel⟩, rfl, zq348⟩
theorem zBI_MarketReader : zBI yX1_init cX1_init 2 1 := ⟨⟨zq346, zq84, by decide +kernel⟩, rfl, zq345⟩
theorem zBI_RuleReader : zBI yX5_init cX5_init 2 1 := ⟨⟨zq380, zq85, by decide +kernel⟩, rfl, zq379⟩
theorem zBI_Runner : zBI yX6_init cX6_init 3 2 := ⟨⟨zq299, zq82, by decide +kernel⟩, rfl, zq298⟩
theorem zBI_Walk : zBI yX10_init cX10_init 4 3 := ⟨⟨zq393, zq86, by decide +kernel⟩, rfl, zq392⟩
theorem zBI_Search : zBI yX7_init cX7_init 5 3 := ⟨⟨zq453, zq87, by decide +kernel⟩, rfl, zq452⟩
theorem zBI_UnsoldPrice : zBI yX11_init cX11_init 6 0 := ⟨⟨zq105, zq77, by decide +kernel⟩, rfl, zq104⟩
theorem zBI_Model : zBI yX12_init cX12_init 1 0 := ⟨⟨zq1246, zq90, by decide +kernel⟩, rfl, zq1245⟩
set_option maxHeartbeats 8000000 in
set_option maxRecDepth 100000 in
theorem zci_Tape (l : Launch) (D : va_G) (A0 : Nat) (σ : Mm) (P : Nat → Option (List Nat)) (hPb : P 1 = none) (h0 : ∀ a, 2 ≤ a → σ a = fun _ => 0) : Met l yX9_init (zws yX9_init cX9_init 1 none) ({ frames := 1, cells := 1, slots := 160, locals := 60 } : Room) (zPcs D A0 σ (zGx 2 (zPu P 1 (some []))) 2 [.ref (A0 + 1)]) (zQv D A0 σ (zGx 3 P) 3) 1 160 (zA A0) := by
  refine zmets (own := RX9) (by decide) rfl (Nat.le_of_ble_eq_true rfl) ?_
  intro p e s m below meth c F hr hlocks hin Z0 hz0 ls hl
  have Z : zhc D A0 σ (zPu P 1 (some [])) 2 s.heap s.heap [] := ⟨Z0, h0⟩
  have hl : lv_has ls 1 [(0, .ref (A0 + 1))] := hl
  have hx := F.1.1
  have hb := F.1.2.1
  have hown := F.1.2.2.2.1
  have hts := F.1.2.2.2.2
  refine lv_aload_n hx hb dX9_init_0 rfl (lv_at hl 0 rfl) ?_
  refine W.objInit hx hb hown (hts _ zq114) (hts _ zq107) (hts _ zq108) rfl (by rw [F.1.2.2.1]; exact hl.1) rfl dX9_init_1 (Nat.le_of_ble_eq_true rfl) (Nat.le_of_ble_eq_true rfl) ?_
  refine W.eq (g2 := F0 m 4 ls []) rfl ?_
  refine lv_aload_n hx hb dX9_init_4 rfl (lv_at hl 0 rfl) ?_
  refine lv_sipush (v := 160) hx hb dX9_init_5 (by decide) ?_
  refine zk_newa F Z hz0 rfl (ty := 0) (atype := .int) (N := 160) zs_2 (by decide) zq123 (by decide) rfl (Nat.le_of_ble_eq_true rfl) (Nat.le_of_ble_eq_true rfl) (Nat.le_of_ble_eq_true rfl) dX9_init_8 (fun _ Z => ?_)
  have Z : zhc D A0 σ (zPu P 1 (some [])) 3 s.heap _ _ := Z
  refine W.widen (k := 1) (n := 160) (Nat.le_of_ble_eq_true rfl) (Nat.le_of_ble_eq_true rfl) ?_
  refine zk_putR F Z (P1 := (zPu P 1 (some [0]))) zC9 (a := 1) (k := 0) (ks := []) (by decide) zs_1 (by decide) rfl zg_1_0 (by simp [zPu]) (by simp [zPu]) (fun c9 hc9 => by simp [zPu, hc9]) zq115 rfl ⟨rfl, hin, rfl⟩ (fun _ => ⟨rfl, rfl⟩) dX9_init_10 (fun _ _ Z => ?_)
  have Z : zhc D A0 σ P 3 s.heap _ _ := zhc_drop (a := 1) Z (by decide) zPu_s hPb (fun c9 hc9 => (zPu_n hc9).symm) ⟨by rw [show zs 1 = _ from zs_1]; decide +kernel, fun h9 => absurd h9 (by rw [show zs 1 = _ from zs_1]; decide)⟩
  exact ze_vm F Z.1 hr hlocks (Nat.le_of_ble_eq_true rfl) (Nat.le_of_ble_eq_true rfl) rfl rfl dX9_init_13
set_option maxHeartbeats 8000000 in
set_option maxRecDepth 100000 in
theorem zci_Market (l : Launch) (D : va_G) (A0 : Nat) (σ : Mm) (P : Nat → Option (List Nat)) (b : Nat) (hb0 : zIsM b) (hPb : P b = none) (h0 : ∀ a, (b + 1) ≤ a → σ a = fun _ => 0) : Met l yX0_init (zws yX0_init cX0_init 1 none) ({ frames := 1, cells := 7, slots := 42, locals := 60 } : Room) (zPcs D A0 σ (zGx (b + 1) (zPu P b (some []))) (b + 1) [.ref (A0 + b)]) (zQv D A0 σ (zGx (b + 8) P) (b + 8)) 7 42 (zA A0) := by
  refine zmets (own := RX0) (by decide) rfl (Nat.le_of_ble_eq_true rfl) ?_
  intro p e s m below meth c F hr hlocks hin Z0 hz0 ls hl
  have Z : zhc D A0 σ (zPu P b (some [])) (b + 1) s.heap s.heap [] := ⟨Z0, h0⟩
  have hl : lv_has ls 1 [(0, .ref (A0 + b))] := hl
  have hx := F.1.1
  have hb := F.1.2.1
  have hown := F.1.2.2.2.1
  have hts := F.1.2.2.2.2
  refine lv_aload_n hx hb dX0_init_0 rfl (lv_at hl 0 rfl) ?_
  refine W.objInit hx hb hown (hts _ zq129) (hts _ zq107) (hts _ zq108) rfl (by rw [F.1.2.2.1]; exact hl.1) rfl dX0_init_1 (Nat.le_of_ble_eq_true rfl) (Nat.le_of_ble_eq_true rfl) ?_
  refine W.eq (g2 := F0 m 4 ls []) rfl ?_
  refine lv_aload_n hx hb dX0_init_4 rfl (lv_at hl 0 rfl) ?_
  refine lv_bipush (v := 6) hx hb dX0_init_5 (by decide) ?_
  refine zk_newa F Z hz0 rfl (ty := 0) (atype := .int) (N := 6) (zsM_1 hb0) (by decide) zq123 (by decide) rfl (Nat.le_of_ble_eq_true rfl) (Nat.le_of_ble_eq_true rfl) (Nat.le_of_ble_eq_true rfl) dX0_init_7 (fun _ Z => ?_)
  have Z : zhc D A0 σ (zPu P b (some [])) (b + 2) s.heap _ _ := Z
  refine W.widen (k := 1) (n := 6) (Nat.le_of_ble_eq_true rfl) (Nat.le_of_ble_eq_true rfl) ?_
  refine zk_putR F Z (P1 := (zPu P b (some [5]))) zC0 (a := b) (k := 5) (ks := []) (by omega) (zsM_0 hb0) (by decide) rfl (zgM_5 hb0) (by simp [zPu]) (by simp [zPu]) (fun c9 hc9 => by simp [zPu, hc9]) zq148 rfl ⟨rfl, hin, rfl⟩ (fun _ => ⟨rfl, rfl⟩) dX0_init_9 (fun _ _ Z => ?_)
  refine lv_aload_n hx hb dX0_init_12 rfl (lv_at hl 0 rfl) ?_
  refine lv_bipush (v := 6) hx hb dX0_init_13 (by decide) ?_
  refine zk_newa F Z hz0 rfl (ty := 0) (atype := .int) (N := 6) (zsM_2 hb0) (by decide) zq123 (by decide) rfl (Nat.le_of_ble_eq_true rfl) (Nat.le_of_ble_eq_true rfl) (Nat.le_of_ble_eq_true rfl) dX0_init_15 (fun _ Z => ?_)
  have Z : zhc D A0 σ (zPu P b (some [5])) (b + 3) s.heap _ _ := Z
  refine W.widen (k := 2) (n := 12) (Nat.le_of_ble_eq_true rfl) (Nat.le_of_ble_eq_true rfl) ?_
  refine zk_putR F Z (P1 := (zPu P b (some [6, 5]))) zC0 (a := b) (k := 6) (ks := [5]) (by omega) (zsM_0 hb0) (by decide) rfl (zgM_6 hb0) (by simp [zPu]) (by simp [zPu]) (fun c9 hc9 => by simp [zPu, hc9]) zq152 rfl ⟨rfl, hin, rfl⟩ (fun _ => ⟨rfl, rfl⟩) dX0_init_17 (fun _ _ Z => ?_)
  refine lv_aload_n hx hb dX0_init_20 rfl (lv_at hl 0 rfl) ?_
  refine lv_bipush (v := 6) hx hb dX0_init_21 (by decide) ?_
  refine zk_newa F Z hz0 rfl (ty := 0) (atype := .int) (N := 6) (zsM_3 hb0) (by decide) zq123 (by decide) rfl (Nat.le_of_ble_eq_true rfl) (Nat.le_of_ble_eq_true rfl) (Nat.le_of_ble_eq_true rfl) dX0_init_23 (fun _ Z => ?_)
  have Z : zhc D A0 σ (zPu P b (some [6, 5])) (b + 4) s.heap _ _ := Z
  refine W.widen (k := 3) (n := 18) (Nat.le_of_ble_eq_true rfl) (Nat.le_of_ble_eq_true rfl) ?_
  refine zk_putR F Z (P1 := (zPu P b (some [7, 6, 5]))) zC0 (a := b) (k := 7) (ks := [6, 5]) (by omega) (zsM_0 hb0) (by decide) rfl (zgM_7 hb0) (by simp [zPu]) (by simp [zPu]) (fun c9 hc9 => by simp [zPu, hc9]) zq155 rfl ⟨rfl, hin, rfl⟩ (fun _ => ⟨rfl, rfl⟩) dX0_init_25 (fun _ _ Z => ?_)
  refine lv_aload_n hx hb dX0_init_28 rfl (lv_at hl 0 rfl) ?_
  refine lv_bipush (v := 6) hx hb dX0_init_29 (by decide) ?_
  refine zk_newa F Z hz0 rfl (ty := 0) (atype := .int) (N := 6) (zsM_4 hb0) (by decide) zq123 (by decide) rfl (Nat.le_of_ble_eq_true rfl) (Nat.le_of_ble_eq_true rfl) (Nat.le_of_ble_eq_true rfl) dX0_init_31 (fun _ Z => ?_)
  have Z : zhc D A0 σ (zPu P b (some [7, 6, 5])) (b + 5) s.heap _ _ := Z
  refine W.widen (k := 4) (n := 24) (Nat.le_of_ble_eq_true rfl) (Nat.le_of_ble_eq_true rfl) ?_
  refine zk_putR F Z (P1 := (zPu P b (some [8, 7, 6, 5]))) zC0 (a := b) (k := 8) (ks := [7, 6, 5]) (by omega) (zsM_0 hb0) (by decide) rfl (zgM_8 hb0) (by simp [zPu]) (by simp [zPu]) (fun c9 hc9 => by simp [zPu, hc9]) zq158 rfl ⟨rfl, hin, rfl⟩ (fun _ => ⟨rfl, rfl⟩) dX0_init_33 (fun _ _ Z => ?_)
  refine lv_aload_n hx hb dX0_init_36 rfl (lv_at hl 0 rfl) ?_
  refine lv_bipush (v := 6) hx hb dX0_init_37 (by decide) ?_
  refine zk_newa F Z hz0 rfl (ty := 0) (atype := .int) (N := 6) (zsM_5 hb0) (by decide) zq123 (by decide) rfl (Nat.le_of_ble_eq_true rfl) (Nat.le_of_ble_eq_true rfl) (Nat.le_of_ble_eq_true rfl) dX0_init_39 (fun _ Z => ?_)
  have Z : zhc D A0 σ (zPu P b (some [8, 7, 6, 5])) (b + 6) s.heap _ _ := Z
  refine W.widen (k := 5) (n := 30) (Nat.le_of_ble_eq_true rfl) (Nat.le_of_ble_eq_true rfl) ?_
  refine zk_putR F Z (P1 := (zPu P b (some [9, 8, 7, 6, 5]))) zC0 (a := b) (k := 9) (ks := [8, 7, 6, 5]) (by omega) (zsM_0 hb0) (by decide) rfl (zgM_9 hb0) (by simp [zPu]) (by simp [zPu]) (fun c9 hc9 => by simp [zPu, hc9]) zq161 rfl ⟨rfl, hin, rfl⟩ (fun _ => ⟨rfl, rfl⟩) dX0_init_41 (fun _ _ Z => ?_)
  refine lv_aload_n hx hb dX0_init_44 rfl (lv_at hl 0 rfl) ?_
  refine lv_bipush (v := 6) hx hb dX0_init_45 (by decide) ?_
  refine zk_newa F Z hz0 rfl (ty := 0) (atype := .int) (N := 6) (zsM_6 hb0) (by decide) zq123 (by decide) rfl (Nat.le_of_ble_eq_true rfl) (Nat.le_of_ble_eq_true rfl) (Nat.le_of_ble_eq_true rfl) dX0_init_47 (fun _ Z => ?_)
  have Z : zhc D A0 σ (zPu P b (some [9, 8, 7, 6, 5])) (b + 7) s.heap _ _ := Z
  refine W.widen (k := 6) (n := 36) (Nat.le_of_ble_eq_true rfl) (Nat.le_of_ble_eq_true rfl) ?_
  refine zk_putR F Z (P1 := (zPu P b (some [10, 9, 8, 7, 6, 5]))) zC0 (a := b) (k := 10) (ks := [9, 8, 7, 6, 5]) (by omega) (zsM_0 hb0) (by decide) rfl (zgM_10 hb0) (by simp [zPu]) (by simp [zPu]) (fun c9 hc9 => by simp [zPu, hc9]) zq164 rfl ⟨rfl, hin, rfl⟩ (fun _ => ⟨rfl, rfl⟩) dX0_init_49 (fun _ _ Z => ?_)
  refine lv_aload_n hx hb dX0_init_52 rfl (lv_at hl 0 rfl) ?_
  refine lv_bipush (v := 6) hx hb dX0_init_53 (by decide) ?_
  refine zk_newa F Z hz0 rfl (ty := 0) (atype := .int) (N := 6) (zsM_7 hb0) (by decide) zq123 (by decide) rfl (Nat.le_of_ble_eq_true rfl) (Nat.le_of_ble_eq_true rfl) (Nat.le_of_ble_eq_true rfl) dX0_init_55 (fun _ Z => ?_)
  have Z : zhc D A0 σ (zPu P b (some [10, 9, 8, 7, 6, 5])) (b + 8) s.heap _ _ := Z
  refine W.widen (k := 7) (n := 42) (Nat.le_of_ble_eq_true rfl) (Nat.le_of_ble_eq_true rfl) ?_
  refine zk_putR F Z (P1 := (zPu P b (some [11, 10, 9, 8, 7, 6, 5]))) zC0 (a := b) (k := 11) (ks := [10, 9, 8, 7, 6, 5]) (by omega) (zsM_0 hb0) (by decide) rfl (zgM_11 hb0) (by simp [zPu]) (by simp [zPu]) (fun c9 hc9 => by simp [zPu, hc9]) zq167 rfl ⟨rfl, hin, rfl⟩ (fun _ => ⟨rfl, rfl⟩) dX0_init_57 (fun _ _ Z => ?_)
  have Z : zhc D A0 σ P (b + 8) s.heap _ _ := zhc_drop (a := b) Z (by omega) zPu_s hPb (fun c9 hc9 => (zPu_n hc9).symm) ⟨by rw [show zs b = _ from (zsM_0 hb0)]; decide +kernel, fun h9 => absurd h9 (by rw [show zs b = _ from (zsM_0 hb0)]; decide)⟩
  exact ze_vm F Z.1 hr hlocks (Nat.le_of_ble_eq_true rfl) (Nat.le_of_ble_eq_true rfl) rfl rfl dX0_init_60
set_option maxHeartbeats 8000000 in
set_option maxRecDepth 100000 in
theorem zci_Rule (l : Launch) (D : va_G) (A0 : Nat) (σ : Mm) (P : Nat → Option (List Nat)) (b : Nat) (hb0 : zIsR b) (hPb : P b = none) (h0 : ∀ a, (b + 1) ≤ a → σ a = fun _ => 0) : Met l yX4_init (zws yX4_init cX4_init 1 none) ({ frames := 1, cells := 2, slots := 480, locals := 60 } : Room) (zPcs D A0 σ (zGx (b + 1) (zPu P b (some []))) (b + 1) [.ref (A0 + b)]) (zQv D A0 σ (zGx (b + 3) P) (b + 3)) 2 480 (zA A0) := by
  refine zmets (own := RX4) (by decide) rfl (Nat.le_of_ble_eq_true rfl) ?_
  intro p e s m below meth c F hr hlocks hin Z0 hz0 ls hl
  have Z : zhc D A0 σ (zPu P b (some [])) (b + 1) s.heap s.heap [] := ⟨Z0, h0⟩
  have hl : lv_has ls 1 [(0, .ref (A0 + b))] := hl
  have hx := F.1.1
  have hb := F.1.2.1
  have hown := F.1.2.2.2.1
  have hts := F.1.2.2.2.2
  refine lv_aload_n hx hb dX4_init_0 rfl (lv_at hl 0 rfl) ?_
  refine W.objInit hx hb hown (hts _ zq200) (hts _ zq107) (hts _ zq108) rfl (by rw [F.1.2.2.1]; exact hl.1) rfl dX4_init_1 (Nat.le_of_ble_eq_true rfl) (Nat.le_of_ble_eq_true rfl) ?_
  refine W.eq (g2 := F0 m 4 ls []) rfl ?_
  refine lv_aload_n hx hb dX4_init_4 rfl (lv_at hl 0 rfl) ?_
  refine lv_sipush (v := 320) hx hb dX4_init_5 (by decide) ?_
  refine zk_newa F Z hz0 rfl (ty := 0) (atype := .int) (N := 320) (zsR_1 hb0) (by decide) zq123 (by decide) rfl (Nat.le_of_ble_eq_true rfl) (Nat.le_of_ble_eq_true rfl) (Nat.le_of_ble_eq_true rfl) dX4_init_8 (fun _ Z => ?_)
  have Z : zhc D A0 σ (zPu P b (some [])) (b + 2) s.heap _ _ := Z
  refine W.widen (k := 1) (n := 320) (Nat.le_of_ble_eq_true rfl) (Nat.le_of_ble_eq_true rfl) ?_
  refine zk_putR F Z (P1 := (zPu P b (some [0]))) zC4 (a := b) (k := 0) (ks := []) (by omega) (zsR_0 hb0) (by decide) rfl (zgR_0 hb0) (by simp [zPu]) (by simp [zPu]) (fun c9 hc9 => by simp [zPu, hc9]) zq201 rfl ⟨rfl, hin, rfl⟩ (fun _ => ⟨rfl, rfl⟩) dX4_init_10 (fun _ _ Z => ?_)
  refine lv_aload_n hx hb dX4_init_13 rfl (lv_at hl 0 rfl) ?_
  refine lv_sipush (v := 160) hx hb dX4_init_14 (by decide) ?_
  refine zk_newa F Z hz0 rfl (ty := 0) (atype := .int) (N := 160) (zsR_2 hb0) (by decide) zq123 (by decide) rfl (Nat.le_of_ble_eq_true rfl) (Nat.le_of_ble_eq_true rfl) (Nat.le_of_ble_eq_true rfl) dX4_init_17 (fun _ Z => ?_)
  have Z : zhc D A0 σ (zPu P b (some [0])) (b + 3) s.heap _ _ := Z
  refine W.widen (k := 2) (n := 480) (Nat.le_of_ble_eq_true rfl) (Nat.le_of_ble_eq_true rfl) ?_
  refine zk_putR F Z (P1 := (zPu P b (some [1, 0]))) zC4 (a := b) (k := 1) (ks := [0]) (by omega) (zsR_0 hb0) (by decide) rfl (zgR_1 hb0) (by simp [zPu]) (by simp [zPu]) (fun c9 hc9 => by simp [zPu, hc9]) zq202 rfl ⟨rfl, hin, rfl⟩ (fun _ => ⟨rfl, rfl⟩) dX4_init_19 (fun _ _ Z => ?_)
  have Z : zhc D A0 σ P (b + 3) s.heap _ _ := zhc_drop (a := b) Z (by omega) zPu_s hPb (fun c9 hc9 => (zPu_n hc9).symm) ⟨by rw [show zs b = _ from (zsR_0 hb0)]; decide +kernel, fun h9 => absurd h9 (by rw [show zs b = _ from (zsR_0 hb0)]; decide)⟩
  exact ze_vm F Z.1 hr hlocks (Nat.le_of_ble_eq_true rfl) (Nat.le_of_ble_eq_true rfl) rfl rfl dX4_init_22
set_option maxHeartbeats 8000000 in
set_option maxRecDepth 100000 in
theorem zci_State (l : Launch) (D : va_G) (A0 : Nat) (σ : Mm) (P : Nat → Option (List Nat)) (b : Nat) (hb0 : zIsS b) (hPb : P b = none) (h0 : ∀ a, (b + 1) ≤ a → σ a = fun _ => 0) : Met l yX8_init (zws yX8_init cX8_init 1 none) ({ frames := 1, cells := 9, slots := 72, locals := 60 } : Room) (zPcs D A0 σ (zGx (b + 1) (zPu P b (some []))) (b + 1) [.ref (A0 + b)]) (zQv D A0 σ (zGx (b + 10) P) (b + 10)) 9 72 (zA A0) := by
  refine zmets (own := RX8) (by decide) rfl (Nat.le_of_ble_eq_true rfl) ?_
  intro p e s m below meth c F hr hlocks hin Z0 hz0 ls hl
  have Z : zhc D A0 σ (zPu P b (some [])) (b + 1) s.heap s.heap [] := ⟨Z0, h0⟩
  have hl : lv_has ls 1 [(0, .ref (A0 + b))] := hl
  have hx := F.1.1
  have hb := F.1.2.1
  have hown := F.1.2.2.2.1
  have hts := F.1.2.2.2.2
  refine lv_aload_n hx hb dX8_init_0 rfl (lv_at hl 0 rfl) ?_
  refine W.objInit hx hb hown (hts _ zq217) (hts _ zq107) (hts _ zq108) rfl (by rw [F.1.2.2.1]; exact hl.1) rfl dX8_init_1 (Nat.le_of_ble_eq_true rfl) (Nat.le_of_ble_eq_true rfl) ?_
  refine W.eq (g2 := F0 m 4 ls []) rfl ?_
  refine lv_aload_n hx hb dX8_init_4 rfl (lv_at hl 0 rfl) ?_
  refine lv_bipush (v := 6) hx hb dX8_init_5 (by decide) ?_
  refine zk_newa F Z hz0 rfl (ty := 0) (atype := .int) (N := 6) (zsS_1 hb0) (by decide) zq123 (by decide) rfl (Nat.le_of_ble_eq_true rfl) (Nat.le_of_ble_eq_true rfl) (Nat.le_of_ble_eq_true rfl) dX8_init_7 (fun _ Z => ?_)
  have Z : zhc D A0 σ (zPu P b (some [])) (b + 2) s.heap _ _ := Z
  refine W.widen (k := 1) (n := 6) (Nat.le_of_ble_eq_true rfl) (Nat.le_of_ble_eq_true rfl) ?_
  refine zk_putR F Z (P1 := (zPu P b (some [5]))) zC8 (a := b) (k := 5) (ks := []) (by omega) (zsS_0 hb0) (by decide) rfl (zgS_5 hb0) (by simp [zPu]) (by simp [zPu]) (fun c9 hc9 => by simp [zPu, hc9]) zq233 rfl ⟨rfl, hin, rfl⟩ (fun _ => ⟨rfl, rfl⟩) dX8_init_9 (fun _ _ Z => ?_)
  refine lv_aload_n hx hb dX8_init_12 rfl (lv_at hl 0 rfl) ?_
  refine lv_bipush (v := 6) hx hb dX8_init_13 (by decide) ?_
  refine zk_newa F Z hz0 rfl (ty := 0) (atype := .int) (N := 6) (zsS_2 hb0) (by decide) zq123 (by decide) rfl (Nat.le_of_ble_eq_true rfl) (Nat.le_of_ble_eq_true rfl) (Nat.le_of_ble_eq_true rfl) dX8_init_15 (fun _ Z => ?_)
  have Z : zhc D A0 σ (zPu P b (some [5])) (b + 3) s.heap _ _ := Z
  refine W.widen (k := 2) (n := 12) (Nat.le_of_ble_eq_true rfl) (Nat.le_of_ble_eq_true rfl) ?_
  refine zk_putR F Z (P1 := (zPu P b (some [6, 5]))) zC8 (a := b) (k := 6) (ks := [5]) (by omega) (zsS_0 hb0) (by decide) rfl (zgS_6 hb0) (by simp [zPu]) (by simp [zPu]) (fun c9 hc9 => by simp [zPu, hc9]) zq237 rfl ⟨rfl, hin, rfl⟩ (fun _ => ⟨rfl, rfl⟩) dX8_init_17 (fun _ _ Z => ?_)
  refine lv_aload_n hx hb dX8_init_20 rfl (lv_at hl 0 rfl) ?_
  refine lv_bipush (v := 6) hx hb dX8_init_21 (by decide) ?_
  refine zk_newa F Z hz0 rfl (ty := 0) (atype := .int) (N := 6) (zsS_3 hb0) (by decide) zq123 (by decide) rfl (Nat.le_of_ble_eq_true rfl) (Nat.le_of_ble_eq_true rfl) (Nat.le_of_ble_eq_true rfl) dX8_init_23 (fun _ Z => ?_)
  have Z : zhc D A0 σ (zPu P b (some [6, 5])) (b + 4) s.heap _ _ := Z
  refine W.widen (k := 3) (n := 18) (Nat.le_of_ble_eq_true rfl) (Nat.le_of_ble_eq_true rfl) ?_
  refine zk_putR F Z (P1 := (zPu P b (some [7, 6, 5]))) zC8 (a := b) (k := 7) (ks := [6, 5]) (by omega) (zsS_0 hb0) (by decide) rfl (zgS_7 hb0) (by simp [zPu]) (by simp [zPu]) (fun c9 hc9 => by simp [zPu, hc9]) zq241 rfl ⟨rfl, hin, rfl⟩ (fun _ => ⟨rfl, rfl⟩) dX8_init_25 (fun _ _ Z => ?_)
  refine lv_aload_n hx hb dX8_init_28 rfl (lv_at hl 0 rfl) ?_
  refine lv_bipush (v := 6) hx hb dX8_init_29 (by decide) ?_
  refine zk_newa F Z hz0 rfl (ty := 0) (atype := .int) (N := 6) (zsS_4 hb0) (by decide) zq123 (by decide) rfl (Nat.le_of_ble_eq_true rfl) (Nat.le_of_ble_eq_true rfl) (Nat.le_of_ble_eq_true rfl) dX8_init_31 (fun _ Z => ?_)
  have Z : zhc D A0 σ (zPu P b (some [7, 6, 5])) (b + 5) s.heap _ _ := Z
  refine W.widen (k := 4) (n := 24) (Nat.le_of_ble_eq_true rfl) (Nat.le_of_ble_eq_true rfl) ?_
  refine zk_putR F Z (P1 := (zPu P b (some [8, 7, 6, 5]))) zC8 (a := b) (k := 8) (ks := [7, 6, 5]) (by omega) (zsS_0 hb0) (by decide) rfl (zgS_8 hb0) (by simp [zPu]) (by simp [zPu]) (fun c9 hc9 => by simp [zPu, hc9]) zq246 rfl ⟨rfl, hin, rfl⟩ (fun _ => ⟨rfl, rfl⟩) dX8_init_33 (fun _ _ Z => ?_)
  refine lv_aload_n hx hb dX8_init_36 rfl (lv_at hl 0 rfl) ?_
  refine lv_bipush (v := 6) hx hb dX8_init_37 (by decide) ?_
  refine zk_newa F Z hz0 rfl (ty := 0) (atype := .int) (N := 6) (zsS_5 hb0) (by decide) zq123 (by decide) rfl (Nat.le_of_ble_eq_true rfl) (Nat.le_of_ble_eq_true rfl) (Nat.le_of_ble_eq_true rfl) dX8_init_39 (fun _ Z => ?_)
  have Z : zhc D A0 σ (zPu P b (some [8, 7, 6, 5])) (b + 6) s.heap _ _ := Z
  refine W.widen (k := 5) (n := 30) (Nat.le_of_ble_eq_true rfl) (Nat.le_of_ble_eq_true rfl) ?_
  refine zk_putR F Z (P1 := (zPu P b (some [9, 8, 7, 6, 5]))) zC8 (a := b) (k := 9) (ks := [8, 7, 6, 5]) (by omega) (zsS_0 hb0) (by decide) rfl (zgS_9 hb0) (by simp [zPu]) (by simp [zPu]) (fun c9 hc9 => by simp [zPu, hc9]) zq251 rfl ⟨rfl, hin, rfl⟩ (fun _ => ⟨rfl, rfl⟩) dX8_init_41 (fun _ _ Z => ?_)
  refine lv_aload_n hx hb dX8_init_44 rfl (lv_at hl 0 rfl) ?_
  refine lv_bipush (v := 6) hx hb dX8_init_45 (by decide) ?_
  refine zk_newa F Z hz0 rfl (ty := 0) (atype := .int) (N := 6) (zsS_6 hb0) (by decide) zq123 (by decide) rfl (Nat.le_of_ble_eq_true rfl) (Nat.le_of_ble_eq_true rfl) (Nat.le_of_ble_eq_true rfl) dX8_init_47 (fun _ Z => ?_)
  have Z : zhc D A0 σ (zPu P b (some [9, 8, 7, 6, 5])) (b + 7) s.heap _ _ := Z
  refine W.widen (k := 6) (n := 36) (Nat.le_of_ble_eq_true rfl) (Nat.le_of_ble_eq_true rfl) ?_
  refine zk_putR F Z (P1 := (zPu P b (some [10, 9, 8, 7, 6, 5]))) zC8 (a := b) (k := 10) (ks := [9, 8, 7, 6, 5]) (by omega) (zsS_0 hb0) (by decide) rfl (zgS_10 hb0) (by simp [zPu]) (by simp [zPu]) (fun c9 hc9 => by simp [zPu, hc9]) zq255 rfl ⟨rfl, hin, rfl⟩ (fun _ => ⟨rfl, rfl⟩) dX8_init_49 (fun _ _ Z => ?_)
  refine lv_aload_n hx hb dX8_init_52 rfl (lv_at hl 0 rfl) ?_
  refine lv_bipush (v := 24) hx hb dX8_init_53 (by decide) ?_
  refine zk_newa F Z hz0 rfl (ty := 0) (atype := .int) (N := 24) (zsS_7 hb0) (by decide) zq123 (by decide) rfl (Nat.le_of_ble_eq_true rfl) (Nat.le_of_ble_eq_true rfl) (Nat.le_of_ble_eq_true rfl) dX8_init_55 (fun _ Z => ?_)
  have Z : zhc D A0 σ (zPu P b (some [10, 9, 8, 7, 6, 5])) (b + 8) s.heap _ _ := Z
  refine W.widen (k := 7) (n := 60) (Nat.le_of_ble_eq_true rfl) (Nat.le_of_ble_eq_true rfl) ?_
  refine zk_putR F Z (P1 := (zPu P b (some [11, 10, 9, 8, 7, 6, 5]))) zC8 (a := b) (k := 11) (ks := [10, 9, 8, 7, 6, 5]) (by omega) (zsS_0 hb0) (by decide) rfl (zgS_11 hb0) (by simp [zPu]) (by simp [zPu]) (fun c9 hc9 => by simp [zPu, hc9]) zq258 rfl ⟨rfl, hin, rfl⟩ (fun _ => ⟨rfl, rfl⟩) dX8_init_57 (fun _ _ Z => ?_)
  refine lv_aload_n hx hb dX8_init_60 rfl (lv_at hl 0 rfl) ?_
  refine lv_bipush (v := 6) hx hb dX8_init_61 (by decide) ?_
  refine zk_newa F Z hz0 rfl (ty := 0) (atype := .int) (N := 6) (zsS_8 hb0) (by decide) zq123 (by decide) rfl (Nat.le_of_ble_eq_true rfl) (Nat.le_of_ble_eq_true rfl) (Nat.le_of_ble_eq_true rfl) dX8_init_63 (fun _ Z => ?_)
  have Z : zhc D A0 σ (zPu P b (some [11, 10, 9, 8, 7, 6, 5])) (b + 9) s.heap _ _ := Z
  refine W.widen (k := 8) (n := 66) (Nat.le_of_ble_eq_true rfl) (Nat.le_of_ble_eq_true rfl) ?_
  refine zk_putR F Z (P1 := (zPu P b (some [12, 11, 10, 9, 8, 7, 6, 5]))) zC8 (a := b) (k := 12) (ks := [11, 10, 9, 8, 7, 6, 5]) (by omega) (zsS_0 hb0) (by decide) rfl (zgS_12 hb0) (by simp [zPu]) (by simp [zPu]) (fun c9 hc9 => by simp [zPu, hc9]) zq260 rfl ⟨rfl, hin, rfl⟩ (fun _ => ⟨rfl, rfl⟩) dX8_init_65 (fun _ _ Z => ?_)
  refine lv_aload_n hx hb dX8_init_68 rfl (lv_at hl 0 rfl) ?_
  refine lv_bipush (v := 6) hx hb dX8_init_69 (by decide) ?_
  refine zk_newa F Z hz0 rfl (ty := 0) (atype := .int) (N := 6) (zsS_9 hb0) (by decide) zq123 (by decide) rfl (Nat.le_of_ble_eq_true rfl) (Nat.le_of_ble_eq_true rfl) (Nat.le_of_ble_eq_true rfl) dX8_init_71 (fun _ Z => ?_)
  have Z : zhc D A0 σ (zPu P b (some [12, 11, 10, 9, 8, 7, 6, 5])) (b + 10) s.heap _ _ := Z
  refine W.widen (k := 9) (n := 72) (Nat.le_of_ble_eq_true rfl) (Nat.le_of_ble_eq_true rfl) ?_
  refine zk_putR F Z (P1 := (zPu P b (some [13, 12, 11, 10, 9, 8, 7, 6, 5]))) zC8 (a := b) (k := 13) (ks := [12, 11, 10, 9, 8, 7, 6, 5]) (by omega) (zsS_0 hb0) (by decide) rfl (zgS_13 hb0) (by simp [zPu]) (by simp [zPu]) (fun c9 hc9 => by simp [zPu, hc9]) zq263 rfl ⟨rfl, hin, rfl⟩ (fun _ => ⟨rfl, rfl⟩) dX8_init_73 (fun _ _ Z => ?_)
  have Z : zhc D A0 σ P (b + 10) s.heap _ _ := zhc_drop (a := b) Z (by omega) zPu_s hPb (fun c9 hc9 => (zPu_n hc9).symm) ⟨by rw [show zs b = _ from (zsS_0 hb0)]; decide +kernel, fun h9 => absurd h9 (by rw [show zs b = _ from (zsS_0 hb0)]; decide)⟩
  exact ze_vm F Z.1 hr hlocks (Nat.le_of_ble_eq_true rfl) (Nat.le_of_ble_eq_true rfl) rfl rfl dX8_init_76
set_option maxHeartbeats 8000000 in
set_option maxRecDepth 100000 in
theorem zci_Notes_695 (l : Launch) (D : va_G) (A0 : Nat) (σ : Mm) (P : Nat → Option (List Nat)) (hPb : P 695 = none) (h0 : ∀ a, 696 ≤ a → σ a = fun _ => 0) : Met l yX2_init (zws yX2_init cX2_init 3 none) ({ frames := 1, cells := 3, slots := 60, locals := 60 } : Room) (zPcs D A0 σ (zGx 696 (zPu P 695 (some []))) 696 [.ref (A0 + 695), .int 20]) (zQv D A0 σ (zGx 699 P) 699) 3 60 (zA A0) := by
  refine zmets (own := RX2) (by decide) rfl (Nat.le_of_ble_eq_true rfl) ?_
  intro p e s m below meth c F hr hlocks hin Z0 hz0 ls hl
  have Z : zhc D A0 σ (zPu P 695 (some [])) 696 s.heap s.heap [] := ⟨Z0, h0⟩
  have hl : lv_has ls 3 [(0, .ref (A0 + 695)), (1, .int 20)] := hl
  have hx := F.1.1
  have hb := F.1.2.1
  have hown := F.1.2.2.2.1
  have hts := F.1.2.2.2.2
  refine lv_aload_n hx hb dX2_init_0 rfl (lv_at hl 0 rfl) ?_
  refine W.objInit hx hb hown (hts _ zq513) (hts _ zq107) (hts _ zq108) rfl (by rw [F.1.2.2.1]; exact hl.1) rfl dX2_init_1 (Nat.le_of_ble_eq_true rfl) (Nat.le_of_ble_eq_true rfl) ?_
  refine W.eq (g2 := F0 m 4 ls []) rfl ?_
  refine lv_iconst (v := 0) hx hb dX2_init_4 (by decide) ?_
  refine lv_iload_n hx hb dX2_init_5 rfl (lv_at hl 1 rfl) ?_
  refine zw_zmax F hl.1 zq514 (Nat.le_of_ble_eq_true rfl) (Nat.le_of_ble_eq_true rfl) (Nat.le_of_ble_eq_true rfl) (Nat.le_of_ble_eq_true rfl) dX2_init_6 ?_
  refine zint (y := 20) (by decide) ?_
  refine lv_istore_n (lv' := [(2, .int 20), (0, .ref (A0 + 695)), (1, .int 20)]) hx hb dX2_init_9 rfl hl (by decide) rfl (fun ls hl => ?_)
  refine lv_aload_n hx hb dX2_init_10 rfl (lv_at hl 1 rfl) ?_
  refine lv_iload_n hx hb dX2_init_11 rfl (lv_at hl 0 rfl) ?_
  refine zk_newa F Z hz0 rfl (ty := 0) (atype := .int) (N := 20) zs_696 (by decide) zq123 (by decide) rfl (Nat.le_of_ble_eq_true rfl) (Nat.le_of_ble_eq_true rfl) (Nat.le_of_ble_eq_true rfl) dX2_init_12 (fun _ Z => ?_)
  have Z : zhc D A0 σ (zPu P 695 (some [])) 697 s.heap _ _ := Z
  refine W.widen (k := 1) (n := 20) (Nat.le_of_ble_eq_true rfl) (Nat.le_of_ble_eq_true rfl) ?_
  refine zk_putR F Z (P1 := (zPu P 695 (some [0]))) zC2 (a := 695) (k := 0) (ks := []) (by decide) zs_695 (by decide) rfl zg_695_0 (by simp [zPu]) (by simp [zPu]) (fun c9 hc9 => by simp [zPu, hc9]) zq517 rfl ⟨rfl, hin, rfl⟩ (fun _ => ⟨rfl, rfl⟩) dX2_init_14 (fun _ _ Z => ?_)
  refine lv_aload_n hx hb dX2_init_17 rfl (lv_at hl 1 rfl) ?_
  refine lv_iload_n hx hb dX2_init_18 rfl (lv_at hl 0 rfl) ?_
  refine zk_newa F Z hz0 rfl (ty := 0) (atype := .int) (N := 20) zs_697 (by decide) zq123 (by decide) rfl (Nat.le_of_ble_eq_true rfl) (Nat.le_of_ble_eq_true rfl) (Nat.le_of_ble_eq_true rfl) dX2_init_19 (fun _ Z => ?_)
  have Z : zhc D A0 σ (zPu P 695 (some [0])) 698 s.heap _ _ := Z
  refine W.widen (k := 2) (n := 40) (Nat.le_of_ble_eq_true rfl) (Nat.le_of_ble_eq_true rfl) ?_
  refine zk_putR F Z (P1 := (zPu P 695 (some [1, 0]))) zC2 (a := 695) (k := 1) (ks := [0]) (by decide) zs_695 (by decide) rfl zg_695_1 (by simp [zPu]) (by simp [zPu]) (fun c9 hc9 => by simp [zPu, hc9]) zq519 rfl ⟨rfl, hin, rfl⟩ (fun _ => ⟨rfl, rfl⟩) dX2_init_21 (fun _ _ Z => ?_)
  refine lv_aload_n hx hb dX2_init_24 rfl (lv_at hl 1 rfl) ?_
  refine lv_iload_n hx hb dX2_init_25 rfl (lv_at hl 0 rfl) ?_
  refine zk_newa F Z hz0 rfl (ty := 0) (atype := .int) (N := 20) zs_698 (by decide) zq123 (by decide) rfl (Nat.le_of_ble_eq_true rfl) (Nat.le_of_ble_eq_true rfl) (Nat.le_of_ble_eq_true rfl) dX2_init_26 (fun _ Z => ?_)
  have Z : zhc D A0 σ (zPu P 695 (some [1, 0])) 699 s.heap _ _ := Z
  refine W.widen (k := 3) (n := 60) (Nat.le_of_ble_eq_true rfl) (Nat.le_of_ble_eq_true rfl) ?_
  refine zk_putR F Z (P1 := (zPu P 695 (some [2, 1, 0]))) zC2 (a := 695) (k := 2) (ks := [1, 0]) (by decide) zs_695 (by decide) rfl zg_695_2 (by simp [zPu]) (by simp [zPu]) (fun c9 hc9 => by simp [zPu, hc9]) zq521 rfl ⟨rfl, hin, rfl⟩ (fun _ => ⟨rfl, rfl⟩) dX2_init_28 (fun _ _ Z => ?_)
  have Z : zhc D A0 σ P 699 s.heap _ _ := zhc_drop (a := 695) Z (by decide) zPu_s hPb (fun c9 hc9 => (zPu_n hc9).symm) ⟨by rw [show zs 695 = _ from zs_695]; decide +kernel, fun h9 => absurd h9 (by rw [show zs 695 = _ from zs_695]; decide)⟩
  exact ze_vm F Z.1 hr hlocks (Nat.le_of_ble_eq_true rfl) (Nat.le_of_ble_eq_true rfl) rfl rfl dX2_init_31
set_option maxHeartbeats 8000000 in
set_option maxRecDepth 100000 in
theorem zci_Notes_699 (l : Launch) (D : va_G) (A0 : Nat) (σ : Mm) (P : Nat → Option (List Nat)) (hPb : P 699 = none) (h0 : ∀ a, 700 ≤ a → σ a = fun _ => 0) : Met l yX2_init (zws yX2_init cX2_init 3 none) ({ frames := 1, cells := 3, slots := 180, locals := 60 } : Room) (zPcs D A0 σ (zGx 700 (zPu P 699 (some []))) 700 [.ref (A0 + 699), .int 60]) (zQv D A0 σ (zGx 703 P) 703) 3 180 (zA A0) := by
  refine zmets (own := RX2) (by decide) rfl (Nat.le_of_ble_eq_true rfl) ?_
  intro p e s m below meth c F hr hlocks hin Z0 hz0 ls hl
  have Z : zhc D A0 σ (zPu P 699 (some [])) 700 s.heap s.heap [] := ⟨Z0, h0⟩
  have hl : lv_has ls 3 [(0, .ref (A0 + 699)), (1, .int 60)] := hl
  have hx := F.1.1
  have hb := F.1.2.1
  have hown := F.1.2.2.2.1
  have hts := F.1.2.2.2.2
  refine lv_aload_n hx hb dX2_init_0 rfl (lv_at hl 0 rfl) ?_
  refine W.objInit hx hb hown (hts _ zq513) (hts _ zq107) (hts _ zq108) rfl (by rw [F.1.2.2.1]; exact hl.1) rfl dX2_init_1 (Nat.le_of_ble_eq_true rfl) (Nat.le_of_ble_eq_true rfl) ?_
  refine W.eq (g2 := F0 m 4 ls []) rfl ?_
  refine lv_iconst (v := 0) hx hb dX2_init_4 (by decide) ?_
  refine lv_iload_n hx hb dX2_init_5 rfl (lv_at hl 1 rfl) ?_
  refine zw_zmax F hl.1 zq514 (Nat.le_of_ble_eq_true rfl) (Nat.le_of_ble_eq_true rfl) (Nat.le_of_ble_eq_true rfl) (Nat.le_of_ble_eq_true rfl) dX2_init_6 ?_
  refine zint (y := 60) (by decide) ?_
  refine lv_istore_n (lv' := [(2, .int 60), (0, .ref (A0 + 699)), (1, .int 60)]) hx hb dX2_init_9 rfl hl (by decide) rfl (fun ls hl => ?_)
  refine lv_aload_n hx hb dX2_init_10 rfl (lv_at hl 1 rfl) ?_
  refine lv_iload_n hx hb dX2_init_11 rfl (lv_at hl 0 rfl) ?_
  refine zk_newa F Z hz0 rfl (ty := 0) (atype := .int) (N := 60) zs_700 (by decide) zq123 (by decide) rfl (Nat.le_of_ble_eq_true rfl) (Nat.le_of_ble_eq_true rfl) (Nat.le_of_ble_eq_true rfl) dX2_init_12 (fun _ Z => ?_)
  have Z : zhc D A0 σ (zPu P 699 (some [])) 701 s.heap _ _ := Z
  refine W.widen (k := 1) (n := 60) (Nat.le_of_ble_eq_true rfl) (Nat.le_of_ble_eq_true rfl) ?_
  refine zk_putR F Z (P1 := (zPu P 699 (some [0]))) zC2 (a := 699) (k := 0) (ks := []) (by decide) zs_699 (by decide) rfl zg_699_0 (by simp [zPu]) (by simp [zPu]) (fun c9 hc9 => by simp [zPu, hc9]) zq517 rfl ⟨rfl, hin, rfl⟩ (fun _ => ⟨rfl, rfl⟩) dX2_init_14 (fun _ _ Z => ?_)
  refine lv_aload_n hx hb dX2_init_17 rfl (lv_at hl 1 rfl) ?_
  refine lv_iload_n hx hb dX2_init_18 rfl (lv_at hl 0 rfl) ?_
  refine zk_newa F Z hz0 rfl (ty := 0) (atype := .int) (N := 60) zs_701 (by decide) zq123 (by decide) rfl (Nat.le_of_ble_eq_true rfl) (Nat.le_of_ble_eq_true rfl) (Nat.le_of_ble_eq_true rfl) dX2_init_19 (fun _ Z => ?_)
  have Z : zhc D A0 σ (zPu P 699 (some [0])) 702 s.heap _ _ := Z
  refine W.widen (k := 2) (n := 120) (Nat.le_of_ble_eq_true rfl) (Nat.le_of_ble_eq_true rfl) ?_
  refine zk_putR F Z (P1 := (zPu P 699 (some [1, 0]))) zC2 (a := 699) (k := 1) (ks := [0]) (by decide) zs_699 (by decide) rfl zg_699_1 (by simp [zPu]) (by simp [zPu]) (fun c9 hc9 => by simp [zPu, hc9]) zq519 rfl ⟨rfl, hin, rfl⟩ (fun _ => ⟨rfl, rfl⟩) dX2_init_21 (fun _ _ Z => ?_)
  refine lv_aload_n hx hb dX2_init_24 rfl (lv_at hl 1 rfl) ?_
  refine lv_iload_n hx hb dX2_init_25 rfl (lv_at hl 0 rfl) ?_
  refine zk_newa F Z hz0 rfl (ty := 0) (atype := .int) (N := 60) zs_702 (by decide) zq123 (by decide) rfl (Nat.le_of_ble_eq_true rfl) (Nat.le_of_ble_eq_true rfl) (Nat.le_of_ble_eq_true rfl) dX2_init_26 (fun _ Z => ?_)
  have Z : zhc D A0 σ (zPu P 699 (some [1, 0])) 703 s.heap _ _ := Z
  refine W.widen (k := 3) (n := 180) (Nat.le_of_ble_eq_true rfl) (Nat.le_of_ble_eq_true rfl) ?_
  refine zk_putR F Z (P1 := (zPu P 699 (some [2, 1, 0]))) zC2 (a := 699) (k := 2) (ks := [1, 0]) (by decide) zs_699 (by decide) rfl zg_699_2 (by simp [zPu]) (by simp [zPu]) (fun c9 hc9 => by simp [zPu, hc9]) zq521 rfl ⟨rfl, hin, rfl⟩ (fun _ => ⟨rfl, rfl⟩) dX2_init_28 (fun _ _ Z => ?_)
  have Z : zhc D A0 σ P 703 s.heap _ _ := zhc_drop (a := 699) Z (by decide) zPu_s hPb (fun c9 hc9 => (zPu_n hc9).symm) ⟨by rw [show zs 699 = _ from zs_699]; decide +kernel, fun h9 => absurd h9 (by rw [show zs 699 = _ from zs_699]; decide)⟩
  exact ze_vm F Z.1 hr hlocks (Nat.le_of_ble_eq_true rfl) (Nat.le_of_ble_eq_true rfl) rfl rfl dX2_init_31
set_option maxHeartbeats 8000000 in
set_option maxRecDepth 100000 in
theorem zci_Reader_43 (l : Launch) (D : va_G) (A0 : Nat) (σ : Mm) (P : Nat → Option (List Nat)) (h0 : ∀ a, 44 ≤ a → σ a = fun _ => 0) : Met l yX3_init (zws yX3_init cX3_init 2 none) ({ frames := 1, cells := 0, slots := 0, locals := 60 } : Room) (zPcs D A0 σ (zGx 44 (zPu P 43 (some []))) 44 [.ref (A0 + 43), .ref (A0 + 1)]) (zQv D A0 σ (zGx 44 (zPu P 43 (some [0]))) 44) 0 0 (zA A0) := by
  refine zmets (own := RX3) (by decide) rfl (Nat.le_of_ble_eq_true rfl) ?_
  intro p e s m below meth c F hr hlocks hin Z0 hz0 ls hl
  have Z : zhc D A0 σ (zPu P 43 (some [])) 44 s.heap s.heap [] := ⟨Z0, h0⟩
  have hl : lv_has ls 2 [(0, .ref (A0 + 43)), (1, .ref (A0 + 1))] := hl
  have hx := F.1.1
  have hb := F.1.2.1
  have hown := F.1.2.2.2.1
  have hts := F.1.2.2.2.2
  refine lv_aload_n hx hb dX3_init_0 rfl (lv_at hl 0 rfl) ?_
  refine W.objInit hx hb hown (hts _ zq350) (hts _ zq107) (hts _ zq108) rfl (by rw [F.1.2.2.1]; exact hl.1) rfl dX3_init_1 (Nat.le_of_ble_eq_true rfl) (Nat.le_of_ble_eq_true rfl) ?_
  refine W.eq (g2 := F0 m 4 ls []) rfl ?_
  refine lv_aload_n hx hb dX3_init_4 rfl (lv_at hl 0 rfl) ?_
  refine lv_aload_n hx hb dX3_init_5 rfl (lv_at hl 1 rfl) ?_
  refine zk_putR F Z (P1 := (zPu P 43 (some [0]))) zC1 (a := 43) (k := 0) (ks := []) (by decide) zs_43 (by decide) rfl zg_43_0 (by simp [zPu]) (by simp [zPu]) (fun c9 hc9 => by simp [zPu, hc9]) zq353 rfl ⟨rfl, hin, rfl⟩ (fun _ => ⟨rfl, rfl⟩) dX3_init_6 (fun _ _ Z => ?_)
  exact ze_vm F Z.1 hr hlocks (Nat.le_of_ble_eq_true rfl) (Nat.le_of_ble_eq_true rfl) rfl rfl dX3_init_9
set_option maxHeartbeats 8000000 in
set_option maxRecDepth 100000 in
theorem zci_Reader_46 (l : Launch) (D : va_G) (A0 : Nat) (σ : Mm) (P : Nat → Option (List Nat)) (h0 : ∀ a, 47 ≤ a → σ a = fun _ => 0) : Met l yX3_init (zws yX3_init cX3_init 2 none) ({ frames := 1, cells := 0, slots := 0, locals := 60 } : Room) (zPcs D A0 σ (zGx 47 (zPu P 46 (some []))) 47 [.ref (A0 + 46), .ref (A0 + 1)]) (zQv D A0 σ (zGx 47 (zPu P 46 (some [0]))) 47) 0 0 (zA A0) := by
  refine zmets (own := RX3) (by decide) rfl (Nat.le_of_ble_eq_true rfl) ?_
  intro p e s m below meth c F hr hlocks hin Z0 hz0 ls hl
  have Z : zhc D A0 σ (zPu P 46 (some [])) 47 s.heap s.heap [] := ⟨Z0, h0⟩
  have hl : lv_has ls 2 [(0, .ref (A0 + 46)), (1, .ref (A0 + 1))] := hl
  have hx := F.1.1
  have hb := F.1.2.1
  have hown := F.1.2.2.2.1
  have hts := F.1.2.2.2.2
  refine lv_aload_n hx hb dX3_init_0 rfl (lv_at hl 0 rfl) ?_
  refine W.objInit hx hb hown (hts _ zq350) (hts _ zq107) (hts _ zq108) rfl (by rw [F.1.2.2.1]; exact hl.1) rfl dX3_init_1 (Nat.le_of_ble_eq_true rfl) (Nat.le_of_ble_eq_true rfl) ?_
  refine W.eq (g2 := F0 m 4 ls []) rfl ?_
  refine lv_aload_n hx hb dX3_init_4 rfl (lv_at hl 0 rfl) ?_
  refine lv_aload_n hx hb dX3_init_5 rfl (lv_at hl 1 rfl) ?_
  refine zk_putR F Z (P1 := (zPu P 46 (some [0]))) zC5 (a := 46) (k := 0) (ks := []) (by decide) zs_46 (by decide) rfl zg_46_0 (by simp [zPu]) (by simp [zPu]) (fun c9 hc9 => by simp [zPu, hc9]) zq353 rfl ⟨rfl, hin, rfl⟩ (fun _ => ⟨rfl, rfl⟩) dX3_init_6 (fun _ _ Z => ?_)
  exact ze_vm F Z.1 hr hlocks (Nat.le_of_ble_eq_true rfl) (Nat.le_of_ble_eq_true rfl) rfl rfl dX3_init_9
set_option maxHeartbeats 8000000 in
set_option maxRecDepth 100000 in
theorem zci_MarketReader (l : Launch) (D : va_G) (A0 : Nat) (σ : Mm) (P : Nat → Option (List Nat)) (hPb : P 43 = none) (h0 : ∀ a, 44 ≤ a → σ a = fun _ => 0) : Met l yX1_init (zws yX1_init cX1_init 2 none) ({ frames := 2, cells := 2, slots := 16, locals := 81 } : Room) (zPcs D A0 σ (zGx 44 (zPu P 43 (some []))) 44 [.ref (A0 + 43), .ref (A0 + 1)]) (zQv D A0 σ (zGx 46 P) 46) 2 16 (zA A0) := by
  refine zmets (own := RX1) (by decide) rfl (Nat.le_of_ble_eq_true rfl) ?_
  intro p e s m below meth c F hr hlocks hin Z0 hz0 ls hl
  have Z : zhc D A0 σ (zPu P 43 (some [])) 44 s.heap s.heap [] := ⟨Z0, h0⟩
  have hl : lv_has ls 2 [(0, .ref (A0 + 43)), (1, .ref (A0 + 1))] := hl
  have hx := F.1.1
  have hb := F.1.2.1
  have hown := F.1.2.2.2.1
  have hts := F.1.2.2.2.2
  refine lv_aload_n hx hb dX1_init_0 rfl (lv_at hl 0 rfl) ?_
  refine lv_aload_n hx hb dX1_init_1 rfl (lv_at hl 1 rfl) ?_
  refine zsized fun hle => ?_
  refine zc_vm Z.1 (zr_I F Z.1 (a := 43) (zsz Z.1 hz0 rfl hle) (As := [.ref (A0 + 1)]) (zci_Reader_43 l D A0 σ P  Z.2) zBI_Reader_43 zq347 rfl ⟨⟨rfl, rfl⟩, Nat.le_of_ble_eq_true rfl, Nat.le_of_ble_eq_true rfl⟩ hl.1 rfl (Nat.le_of_ble_eq_true rfl) dX1_init_2 ⟨Nat.le_of_ble_eq_true rfl, Nat.le_of_ble_eq_true rfl⟩) (fun _ _ Z1 => ?_)
  have Z : zhc D A0 σ (zPu P 43 (some [0])) 44 s.heap _ _ := ⟨Z1, fun a9 ha9 => Z.2 a9 (Nat.le_trans (by decide) ha9)⟩
  refine W.widen (k := 0) (n := 0) (Nat.le_of_ble_eq_true rfl) (Nat.le_of_ble_eq_true rfl) ?_
  refine lv_aload_n hx hb dX1_init_5 rfl (lv_at hl 0 rfl) ?_
  refine lv_bipush (v := 8) hx hb dX1_init_6 (by decide) ?_
  refine zk_newa F Z hz0 rfl (ty := 0) (atype := .int) (N := 8) zs_44 (by decide) zq123 (by decide) rfl (Nat.le_of_ble_eq_true rfl) (Nat.le_of_ble_eq_true rfl) (Nat.le_of_ble_eq_true rfl) dX1_init_8 (fun _ Z => ?_)
  have Z : zhc D A0 σ (zPu P 43 (some [0])) 45 s.heap _ _ := Z
  refine W.widen (k := 1) (n := 8) (Nat.le_of_ble_eq_true rfl) (Nat.le_of_ble_eq_true rfl) ?_
  refine zk_putR F Z (P1 := (zPu P 43 (some [3, 0]))) zC1 (a := 43) (k := 3) (ks := [0]) (by decide) zs_43 (by decide) rfl zg_43_3 (by simp [zPu]) (by simp [zPu]) (fun c9 hc9 => by simp [zPu, hc9]) zq351 rfl ⟨rfl, hin, rfl⟩ (fun _ => ⟨rfl, rfl⟩) dX1_init_10 (fun _ _ Z => ?_)
  refine lv_aload_n hx hb dX1_init_13 rfl (lv_at hl 0 rfl) ?_
  refine lv_bipush (v := 8) hx hb dX1_init_14 (by decide) ?_
  refine zk_newa F Z hz0 rfl (ty := 1) (atype := .boolean) (N := 8) zs_45 (by decide) zq375 (by decide) rfl (Nat.le_of_ble_eq_true rfl) (Nat.le_of_ble_eq_true rfl) (Nat.le_of_ble_eq_true rfl) dX1_init_16 (fun _ Z => ?_)
  have Z : zhc D A0 σ (zPu P 43 (some [3, 0])) 46 s.heap _ _ := Z
  refine W.widen (k := 2) (n := 16) (Nat.le_of_ble_eq_true rfl) (Nat.le_of_ble_eq_true rfl) ?_
  refine zk_putR F Z (P1 := (zPu P 43 (some [4, 3, 0]))) zC1 (a := 43) (k := 4) (ks := [3, 0]) (by decide) zs_43 (by decide) rfl zg_43_4 (by simp [zPu]) (by simp [zPu]) (fun c9 hc9 => by simp [zPu, hc9]) zq352 rfl ⟨rfl, hin, rfl⟩ (fun _ => ⟨rfl, rfl⟩) dX1_init_18 (fun _ _ Z => ?_)
  have Z : zhc D A0 σ P 46 s.heap _ _ := zhc_drop (a := 43) Z (by decide) zPu_s hPb (fun c9 hc9 => (zPu_n hc9).symm) ⟨by rw [show zs 43 = _ from zs_43]; decide +kernel, fun h9 => absurd h9 (by rw [show zs 43 = _ from zs_43]; decide)⟩
  exact ze_vm F Z.1 hr hlocks (Nat.le_of_ble_eq_true rfl) (Nat.le_of_ble_eq_true rfl) rfl rfl dX1_init_21
set_option maxHeartbeats 8000000 in
set_option maxRecDepth 100000 in
theorem zci_RuleReader (l : Launch) (D : va_G) (A0 : Nat) (σ : Mm) (P : Nat → Option (List Nat)) (hPb : P 46 = none) (h0 : ∀ a, 47 ≤ a → σ a = fun _ => 0) : Met l yX5_init (zws yX5_init cX5_init 2 none) ({ frames := 2, cells := 0, slots := 0, locals := 81 } : Room) (zPcs D A0 σ (zGx 47 (zPu P 46 (some []))) 47 [.ref (A0 + 46), .ref (A0 + 1)]) (zQv D A0 σ (zGx 47 P) 47) 0 0 (zA A0) := by
  refine zmets (own := RX5) (by decide) rfl (Nat.le_of_ble_eq_true rfl) ?_
  intro p e s m below meth c F hr hlocks hin Z0 hz0 ls hl
  have Z : zhc D A0 σ (zPu P 46 (some [])) 47 s.heap s.heap [] := ⟨Z0, h0⟩
  have hl : lv_has ls 2 [(0, .ref (A0 + 46)), (1, .ref (A0 + 1))] := hl
  have hx := F.1.1
  have hb := F.1.2.1
  have hown := F.1.2.2.2.1
  have hts := F.1.2.2.2.2
  refine lv_aload_n hx hb dX5_init_0 rfl (lv_at hl 0 rfl) ?_
  refine lv_aload_n hx hb dX5_init_1 rfl (lv_at hl 1 rfl) ?_
  refine zsized fun hle => ?_
  refine zc_vm Z.1 (zr_I F Z.1 (a := 46) (zsz Z.1 hz0 rfl hle) (As := [.ref (A0 + 1)]) (zci_Reader_46 l D A0 σ P  Z.2) zBI_Reader_46 zq381 rfl ⟨⟨rfl, rfl⟩, Nat.le_of_ble_eq_true rfl, Nat.le_of_ble_eq_true rfl⟩ hl.1 rfl (Nat.le_of_ble_eq_true rfl) dX5_init_2 ⟨Nat.le_of_ble_eq_true rfl, Nat.le_of_ble_eq_true rfl⟩) (fun _ _ Z1 => ?_)
  have Z : zhc D A0 σ (zPu P 46 (some [0])) 47 s.heap _ _ := ⟨Z1, fun a9 ha9 => Z.2 a9 (Nat.le_trans (by decide) ha9)⟩
  refine W.widen (k := 0) (n := 0) (Nat.le_of_ble_eq_true rfl) (Nat.le_of_ble_eq_true rfl) ?_
  have Z : zhc D A0 σ P 47 s.heap _ _ := zhc_drop (a := 46) Z (by decide) zPu_s hPb (fun c9 hc9 => (zPu_n hc9).symm) ⟨by rw [show zs 46 = _ from zs_46]; decide +kernel, fun h9 => absurd h9 (by rw [show zs 46 = _ from zs_46]; decide)⟩
  exact ze_vm F Z.1 hr hlocks (Nat.le_of_ble_eq_true rfl) (Nat.le_of_ble_eq_true rfl) rfl rfl dX5_init_5
set_option maxHeartbeats 8000000 in
set_option maxRecDepth 100000 in
theorem zci_Runner (l : Launch) (D : va_G) (A0 : Nat) (σ : Mm) (P : Nat → Option (List Nat)) (hPb : P 37 = none) (h0 : ∀ a, 38 ≤ a → σ a = fun _ => 0) : Met l yX6_init (zws yX6_init cX6_init 3 none) ({ frames := 1, cells := 5, slots := 30, locals := 60 } : Room) (zPcs D A0 σ (zGx 38 (zPu P 37 (some []))) 38 [.ref (A0 + 37), .ref (A0 + 3), .ref (A0 + 11)]) (zQv D A0 σ (zGx 43 P) 43) 5 30 (zA A0) := by
  refine zmets (own := RX6) (by decide) rfl (Nat.le_of_ble_eq_true rfl) ?_
  intro p e s m below meth c F hr hlocks hin Z0 hz0 ls hl
  have Z : zhc D A0 σ (zPu P 37 (some [])) 38 s.heap s.heap [] := ⟨Z0, h0⟩
  have hl : lv_has ls 3 [(0, .ref (A0 + 37)), (1, .ref (A0 + 3)), (2, .ref (A0 + 11))] := hl
  have hx := F.1.1
  have hb := F.1.2.1
  have hown := F.1.2.2.2.1
  have hts := F.1.2.2.2.2
  refine lv_aload_n hx hb dX6_init_0 rfl (lv_at hl 0 rfl) ?_
  refine W.objInit hx hb hown (hts _ zq300) (hts _ zq107) (hts _ zq108) rfl (by rw [F.1.2.2.1]; exact hl.1) rfl dX6_init_1 (Nat.le_of_ble_eq_true rfl) (Nat.le_of_ble_eq_true rfl) ?_
  refine W.eq (g2 := F0 m 4 ls []) rfl ?_
  refine lv_aload_n hx hb dX6_init_4 rfl (lv_at hl 0 rfl) ?_
  refine lv_bipush (v := 6) hx hb dX6_init_5 (by decide) ?_
  refine zk_newa F Z hz0 rfl (ty := 0) (atype := .int) (N := 6) zs_38 (by decide) zq123 (by decide) rfl (Nat.le_of_ble_eq_true rfl) (Nat.le_of_ble_eq_true rfl) (Nat.le_of_ble_eq_true rfl) dX6_init_7 (fun _ Z => ?_)
  have Z : zhc D A0 σ (zPu P 37 (some [])) 39 s.heap _ _ := Z
  refine W.widen (k := 1) (n := 6) (Nat.le_of_ble_eq_true rfl) (Nat.le_of_ble_eq_true rfl) ?_
  refine zk_putR F Z (P1 := (zPu P 37 (some [2]))) zC6 (a := 37) (k := 2) (ks := []) (by decide) zs_37 (by decide) rfl zg_37_2 (by simp [zPu]) (by simp [zPu]) (fun c9 hc9 => by simp [zPu, hc9]) zq303 rfl ⟨rfl, hin, rfl⟩ (fun _ => ⟨rfl, rfl⟩) dX6_init_9 (fun _ _ Z => ?_)
  refine lv_aload_n hx hb dX6_init_12 rfl (lv_at hl 0 rfl) ?_
  refine lv_bipush (v := 6) hx hb dX6_init_13 (by decide) ?_
  refine zk_newa F Z hz0 rfl (ty := 0) (atype := .int) (N := 6) zs_39 (by decide) zq123 (by decide) rfl (Nat.le_of_ble_eq_true rfl) (Nat.le_of_ble_eq_true rfl) (Nat.le_of_ble_eq_true rfl) dX6_init_15 (fun _ Z => ?_)
  have Z : zhc D A0 σ (zPu P 37 (some [2])) 40 s.heap _ _ := Z
  refine W.widen (k := 2) (n := 12) (Nat.le_of_ble_eq_true rfl) (Nat.le_of_ble_eq_true rfl) ?_
  refine zk_putR F Z (P1 := (zPu P 37 (some [3, 2]))) zC6 (a := 37) (k := 3) (ks := [2]) (by decide) zs_37 (by decide) rfl zg_37_3 (by simp [zPu]) (by simp [zPu]) (fun c9 hc9 => by simp [zPu, hc9]) zq307 rfl ⟨rfl, hin, rfl⟩ (fun _ => ⟨rfl, rfl⟩) dX6_init_17 (fun _ _ Z => ?_)
  refine lv_aload_n hx hb dX6_init_20 rfl (lv_at hl 0 rfl) ?_
  refine lv_bipush (v := 6) hx hb dX6_init_21 (by decide) ?_
  refine zk_newa F Z hz0 rfl (ty := 0) (atype := .int) (N := 6) zs_40 (by decide) zq123 (by decide) rfl (Nat.le_of_ble_eq_true rfl) (Nat.le_of_ble_eq_true rfl) (Nat.le_of_ble_eq_true rfl) dX6_init_23 (fun _ Z => ?_)
  have Z : zhc D A0 σ (zPu P 37 (some [3, 2])) 41 s.heap _ _ := Z
  refine W.widen (k := 3) (n := 18) (Nat.le_of_ble_eq_true rfl) (Nat.le_of_ble_eq_true rfl) ?_
  refine zk_putR F Z (P1 := (zPu P 37 (some [7, 3, 2]))) zC6 (a := 37) (k := 7) (ks := [3, 2]) (by decide) zs_37 (by decide) rfl zg_37_7 (by simp [zPu]) (by simp [zPu]) (fun c9 hc9 => by simp [zPu, hc9]) zq315 rfl ⟨rfl, hin, rfl⟩ (fun _ => ⟨rfl, rfl⟩) dX6_init_25 (fun _ _ Z => ?_)
  refine lv_aload_n hx hb dX6_init_28 rfl (lv_at hl 0 rfl) ?_
  refine lv_bipush (v := 6) hx hb dX6_init_29 (by decide) ?_
  refine zk_newa F Z hz0 rfl (ty := 0) (atype := .int) (N := 6) zs_41 (by decide) zq123 (by decide) rfl (Nat.le_of_ble_eq_true rfl) (Nat.le_of_ble_eq_true rfl) (Nat.le_of_ble_eq_true rfl) dX6_init_31 (fun _ Z => ?_)
  have Z : zhc D A0 σ (zPu P 37 (some [7, 3, 2])) 42 s.heap _ _ := Z
  refine W.widen (k := 4) (n := 24) (Nat.le_of_ble_eq_true rfl) (Nat.le_of_ble_eq_true rfl) ?_
  refine zk_putR F Z (P1 := (zPu P 37 (some [9, 7, 3, 2]))) zC6 (a := 37) (k := 9) (ks := [7, 3, 2]) (by decide) zs_37 (by decide) rfl zg_37_9 (by simp [zPu]) (by simp [zPu]) (fun c9 hc9 => by simp [zPu, hc9]) zq317 rfl ⟨rfl, hin, rfl⟩ (fun _ => ⟨rfl, rfl⟩) dX6_init_33 (fun _ _ Z => ?_)
  refine lv_aload_n hx hb dX6_init_36 rfl (lv_at hl 0 rfl) ?_
  refine lv_bipush (v := 6) hx hb dX6_init_37 (by decide) ?_
  refine zk_newa F Z hz0 rfl (ty := 0) (atype := .int) (N := 6) zs_42 (by decide) zq123 (by decide) rfl (Nat.le_of_ble_eq_true rfl) (Nat.le_of_ble_eq_true rfl) (Nat.le_of_ble_eq_true rfl) dX6_init_39 (fun _ Z => ?_)
  have Z : zhc D A0 σ (zPu P 37 (some [9, 7, 3, 2])) 43 s.heap _ _ := Z
  refine W.widen (k := 5) (n := 30) (Nat.le_of_ble_eq_true rfl) (Nat.le_of_ble_eq_true rfl) ?_
  refine zk_putR F Z (P1 := (zPu P 37 (some [10, 9, 7, 3, 2]))) zC6 (a := 37) (k := 10) (ks := [9, 7, 3, 2]) (by decide) zs_37 (by decide) rfl zg_37_10 (by simp [zPu]) (by simp [zPu]) (fun c9 hc9 => by simp [zPu, hc9]) zq318 rfl ⟨rfl, hin, rfl⟩ (fun _ => ⟨rfl, rfl⟩) dX6_init_41 (fun _ _ Z => ?_)
  refine lv_aload_n hx hb dX6_init_44 rfl (lv_at hl 0 rfl) ?_
  refine lv_aload_n hx hb dX6_init_45 rfl (lv_at hl 1 rfl) ?_
  refine zk_putR F Z (P1 := (zPu P 37 (some [0, 10, 9, 7, 3, 2]))) zC6 (a := 37) (k := 0) (ks := [10, 9, 7, 3, 2]) (by decide) zs_37 (by decide) rfl zg_37_0 (by simp [zPu]) (by simp [zPu]) (fun c9 hc9 => by simp [zPu, hc9]) zq301 rfl ⟨rfl, hin, rfl⟩ (fun _ => ⟨rfl, rfl⟩) dX6_init_46 (fun _ _ Z => ?_)
  refine lv_aload_n hx hb dX6_init_49 rfl (lv_at hl 0 rfl) ?_
  refine lv_aload_n hx hb dX6_init_50 rfl (lv_at hl 2 rfl) ?_
  refine zk_putR F Z (P1 := (zPu P 37 (some [1, 0, 10, 9, 7, 3, 2]))) zC6 (a := 37) (k := 1) (ks := [0, 10, 9, 7, 3, 2]) (by decide) zs_37 (by decide) rfl zg_37_1 (by simp [zPu]) (by simp [zPu]) (fun c9 hc9 => by simp [zPu, hc9]) zq302 rfl ⟨rfl, hin, rfl⟩ (fun _ => ⟨rfl, rfl⟩) dX6_init_51 (fun _ _ Z => ?_)
  have Z : zhc D A0 σ P 43 s.heap _ _ := zhc_drop (a := 37) Z (by decide) zPu_s hPb (fun c9 hc9 => (zPu_n hc9).symm) ⟨by rw [show zs 37 = _ from zs_37]; decide +kernel, fun h9 => absurd h9 (by rw [show zs 37 = _ from zs_37]; decide)⟩
  exact ze_vm F Z.1 hr hlocks (Nat.le_of_ble_eq_true rfl) (Nat.le_of_ble_eq_true rfl) rfl rfl dX6_init_54
set_option maxHeartbeats 8000000 in
set_option maxRecDepth 100000 in
theorem zci_Walk (l : Launch) (D : va_G) (A0 : Nat) (σ : Mm) (P : Nat → Option (List Nat)) (hPn : ∀ a, 68 ≤ a → P a = none) (hPb : P 68 = none) (h0 : ∀ a, 69 ≤ a → σ a = fun _ => 0) : Met l yX10_init (zws yX10_init cX10_init 4 none) ({ frames := 2, cells := 10, slots := 86, locals := 80 } : Room) (zPcs D A0 σ (zGx 69 (zPu P 68 (some []))) 69 [.ref (A0 + 68), .ref (A0 + 3), .ref (A0 + 37), .ref (A0 + 27)]) (zQv D A0 σ (zGx 79 P) 79) 10 86 (zA A0) := by
  refine zmets (own := RX10) (by decide) rfl (Nat.le_of_ble_eq_true rfl) ?_
  intro p e s m below meth c F hr hlocks hin Z0 hz0 ls hl
  have Z : zhc D A0 σ (zPu P 68 (some [])) 69 s.heap s.heap [] := ⟨Z0, h0⟩
  have hl : lv_has ls 4 [(0, .ref (A0 + 68)), (1, .ref (A0 + 3)), (2, .ref (A0 + 37)), (3, .ref (A0 + 27))] := hl
  have hx := F.1.1
  have hb := F.1.2.1
  have hown := F.1.2.2.2.1
  have hts := F.1.2.2.2.2
  refine lv_aload_n hx hb dX10_init_0 rfl (lv_at hl 0 rfl) ?_
  refine W.objInit hx hb hown (hts _ zq394) (hts _ zq107) (hts _ zq108) rfl (by rw [F.1.2.2.1]; exact hl.1) rfl dX10_init_1 (Nat.le_of_ble_eq_true rfl) (Nat.le_of_ble_eq_true rfl) ?_
  refine W.eq (g2 := F0 m 4 ls []) rfl ?_
  refine lv_aload_n hx hb dX10_init_4 rfl (lv_at hl 0 rfl) ?_
  refine zk_new F Z hz0 rfl zC8 zs_69 (by decide +kernel) zq395 zq213 zq81 (Nat.le_of_ble_eq_true rfl) (Nat.le_of_ble_eq_true rfl) dX10_init_5 (fun _ Z => ?_)
  have Z : zhc D A0 σ (zPu (zPu P 68 (some [])) 69 (some [])) 70 s.heap _ _ := Z
  refine W.widen (k := 1) (n := 14) (Nat.le_of_ble_eq_true rfl) (Nat.le_of_ble_eq_true rfl) ?_
  refine lv_dup hx hb dX10_init_8 rfl ?_
  refine zsized fun hle => ?_
  refine zc_vm Z.1 (zr_IN F Z.1 (a := 69) (zsz Z.1 hz0 rfl hle) (As := []) (zci_State l D A0 σ (zPu P 68 (some [])) 69 (Or.inr (Or.inr (Or.inl rfl))) (by simp [zPu]; try exact hPn _ (by decide)) Z.2) zBI_State (by decide) rfl ⟨⟨rfl, rfl⟩, Nat.le_of_ble_eq_true rfl, Nat.le_of_ble_eq_true rfl⟩ hl.1 rfl (Nat.le_of_ble_eq_true rfl) dX10_init_9 ⟨Nat.le_of_ble_eq_true rfl, Nat.le_of_ble_eq_true rfl⟩) (fun _ _ Z1 => ?_)
  have Z : zhc D A0 σ (zPu P 68 (some [])) 79 s.heap _ _ := ⟨Z1, fun a9 ha9 => Z.2 a9 (Nat.le_trans (by decide) ha9)⟩
  refine W.widen (k := 10) (n := 86) (Nat.le_of_ble_eq_true rfl) (Nat.le_of_ble_eq_true rfl) ?_
  refine zk_putR F Z (P1 := (zPu P 68 (some [3]))) zC10 (a := 68) (k := 3) (ks := []) (by decide) zs_68 (by decide) rfl zg_68_3 (by simp [zPu]) (by simp [zPu]) (fun c9 hc9 => by simp [zPu, hc9]) zq400 rfl ⟨rfl, hin, rfl⟩ (fun _ => ⟨rfl, rfl⟩) dX10_init_12 (fun _ _ Z => ?_)
  refine lv_aload_n hx hb dX10_init_15 rfl (lv_at hl 0 rfl) ?_
  refine lv_aload_n hx hb dX10_init_16 rfl (lv_at hl 1 rfl) ?_
  refine zk_putR F Z (P1 := (zPu P 68 (some [0, 3]))) zC10 (a := 68) (k := 0) (ks := [3]) (by decide) zs_68 (by decide) rfl zg_68_0 (by simp [zPu]) (by simp [zPu]) (fun c9 hc9 => by simp [zPu, hc9]) zq397 rfl ⟨rfl, hin, rfl⟩ (fun _ => ⟨rfl, rfl⟩) dX10_init_17 (fun _ _ Z => ?_)
  refine lv_aload_n hx hb dX10_init_20 rfl (lv_at hl 0 rfl) ?_
  refine lv_aload_n hx hb dX10_init_21 rfl (lv_at hl 2 rfl) ?_
  refine zk_putR F Z (P1 := (zPu P 68 (some [1, 0, 3]))) zC10 (a := 68) (k := 1) (ks := [0, 3]) (by decide) zs_68 (by decide) rfl zg_68_1 (by simp [zPu]) (by simp [zPu]) (fun c9 hc9 => by simp [zPu, hc9]) zq398 rfl ⟨rfl, hin, rfl⟩ (fun _ => ⟨rfl, rfl⟩) dX10_init_22 (fun _ _ Z => ?_)
  refine lv_aload_n hx hb dX10_init_25 rfl (lv_at hl 0 rfl) ?_
  refine lv_aload_n hx hb dX10_init_26 rfl (lv_at hl 3 rfl) ?_
  refine zk_putR F Z (P1 := (zPu P 68 (some [2, 1, 0, 3]))) zC10 (a := 68) (k := 2) (ks := [1, 0, 3]) (by decide) zs_68 (by decide) rfl zg_68_2 (by simp [zPu]) (by simp [zPu]) (fun c9 hc9 => by simp [zPu, hc9]) zq399 rfl ⟨rfl, hin, rfl⟩ (fun _ => ⟨rfl, rfl⟩) dX10_init_27 (fun _ _ Z => ?_)
  have Z : zhc D A0 σ P 79 s.heap _ _ := zhc_drop (a := 68) Z (by decide) zPu_s hPb (fun c9 hc9 => (zPu_n hc9).symm) ⟨by rw [show zs 68 = _ from zs_68]; decide +kernel, fun h9 => absurd h9 (by rw [show zs 68 = _ from zs_68]; decide)⟩
  exact ze_vm F Z.1 hr hlocks (Nat.le_of_ble_eq_true rfl) (Nat.le_of_ble_eq_true rfl) rfl rfl dX10_init_30
set_option maxHeartbeats 8000000 in
set_option maxRecDepth 100000 in
theorem zci_Search (l : Launch) (D : va_G) (A0 : Nat) (σ : Mm) (P : Nat → Option (List Nat)) (hPn : ∀ a, 79 ≤ a → P a = none) (hPb : P 79 = none) (h0 : ∀ a, 80 ≤ a → σ a = fun _ => 0) : Met l yX7_init (zws yX7_init cX7_init 5 none) ({ frames := 2, cells := 615, slots := 33093, locals := 80 } : Room) (zPcs D A0 σ (zGx 80 (zPu P 79 (some []))) 80 [.ref (A0 + 79), .ref (A0 + 3), .ref (A0 + 37), .ref (A0 + 27)]) (zQv D A0 σ (zGx 695 P) 695) 615 33093 (zA A0) := by
  refine zmets (own := RX7) (by decide) rfl (Nat.le_of_ble_eq_true rfl) ?_
  intro p e s m below meth c F hr hlocks hin Z0 hz0 ls hl
  have Z : zhc D A0 σ (zPu P 79 (some [])) 80 s.heap s.heap [] := ⟨Z0, h0⟩
  have hl : lv_has ls 5 [(0, .ref (A0 + 79)), (1, .ref (A0 + 3)), (2, .ref (A0 + 37)), (3, .ref (A0 + 27))] := hl
  have hx := F.1.1
  have hb := F.1.2.1
  have hown := F.1.2.2.2.1
  have hts := F.1.2.2.2.2
  refine lv_aload_n hx hb dX7_init_0 rfl (lv_at hl 0 rfl) ?_
  refine W.objInit hx hb hown (hts _ zq454) (hts _ zq107) (hts _ zq108) rfl (by rw [F.1.2.2.1]; exact hl.1) rfl dX7_init_1 (Nat.le_of_ble_eq_true rfl) (Nat.le_of_ble_eq_true rfl) ?_
  refine W.eq (g2 := F0 m 4 ls []) rfl ?_
  refine lv_aload_n hx hb dX7_init_4 rfl (lv_at hl 0 rfl) ?_
  refine lv_bipush (v := 61) hx hb dX7_init_5 (by decide) ?_
  refine zk_anew F Z hz0 rfl (ty := 4) (N := 61) zs_80 (by decide) rfl zq455 F.2.2.1.2.2.2.2.2.2.2.1 (by decide) rfl (Nat.le_of_ble_eq_true rfl) (Nat.le_of_ble_eq_true rfl) (Nat.le_of_ble_eq_true rfl) dX7_init_7 (fun _ Z => ?_)
  have Z : zhc D A0 σ (zPu (zPu P 79 (some [])) 80 (some [])) 81 s.heap _ _ := Z
  refine W.widen (k := 1) (n := 61) (Nat.le_of_ble_eq_true rfl) (Nat.le_of_ble_eq_true rfl) ?_
  refine zk_putR F Z (P1 := (zPu (zPu P 79 (some [3])) 80 (some []))) zC7 (a := 79) (k := 3) (ks := []) (by decide) zs_79 (by decide) rfl zg_79_3 (by simp [zPu]) (by simp [zPu]) (fun c9 hc9 => by simp [zPu, hc9]) zq463 rfl ⟨rfl, hin, rfl⟩ (fun _ => ⟨rfl, rfl⟩) dX7_init_10 (fun _ _ Z => ?_)
  refine lv_aload_n hx hb dX7_init_13 rfl (lv_at hl 0 rfl) ?_
  refine lv_iconst (v := 3) hx hb dX7_init_14 (by decide) ?_
  refine lv_sipush (v := 9261) hx hb dX7_init_15 (by decide) ?_
  refine zk_mna F Z hz0 rfl zs_81 (by decide +kernel) (by decide +kernel) zk_mG (by simp [zPu]; exact hPn _ (by decide)) zq457 zq123 (Nat.le_of_ble_eq_true rfl) (Nat.le_of_ble_eq_true rfl) dX7_init_18 (fun _ Z => ?_)
  have Z : zhc D A0 σ (zPu (zPu P 79 (some [3])) 80 (some [])) 85 s.heap _ _ := Z
  refine W.widen (k := 5) (n := 27847) (Nat.le_of_ble_eq_true rfl) (Nat.le_of_ble_eq_true rfl) ?_
  refine zk_putR F Z (P1 := (zPu (zPu P 79 (some [12, 3])) 80 (some []))) zC7 (a := 79) (k := 12) (ks := [3]) (by decide) zs_79 (by decide) rfl zg_79_12 (by simp [zPu]) (by simp [zPu]) (fun c9 hc9 => by simp [zPu, hc9]) zq476 rfl ⟨rfl, hin, rfl⟩ (fun _ => ⟨rfl, rfl⟩) dX7_init_22 (fun _ _ Z => ?_)
  refine lv_aload_n hx hb dX7_init_25 rfl (lv_at hl 0 rfl) ?_
  refine lv_aload_n hx hb dX7_init_26 rfl (lv_at hl 1 rfl) ?_
  refine zk_putR F Z (P1 := (zPu (zPu P 79 (some [0, 12, 3])) 80 (some []))) zC7 (a := 79) (k := 0) (ks := [12, 3]) (by decide) zs_79 (by decide) rfl zg_79_0 (by simp [zPu]) (by simp [zPu]) (fun c9 hc9 => by simp [zPu, hc9]) zq460 rfl ⟨rfl, hin, rfl⟩ (fun _ => ⟨rfl, rfl⟩) dX7_init_27 (fun _ _ Z => ?_)
  refine lv_aload_n hx hb dX7_init_30 rfl (lv_at hl 0 rfl) ?_
  refine lv_aload_n hx hb dX7_init_31 rfl (lv_at hl 2 rfl) ?_
  refine zk_putR F Z (P1 := (zPu (zPu P 79 (some [1, 0, 12, 3])) 80 (some []))) zC7 (a := 79) (k := 1) (ks := [0, 12, 3]) (by decide) zs_79 (by decide) rfl zg_79_1 (by simp [zPu]) (by simp [zPu]) (fun c9 hc9 => by simp [zPu, hc9]) zq461 rfl ⟨rfl, hin, rfl⟩ (fun _ => ⟨rfl, rfl⟩) dX7_init_32 (fun _ _ Z => ?_)
  refine lv_aload_n hx hb dX7_init_35 rfl (lv_at hl 0 rfl) ?_
  refine lv_aload_n hx hb dX7_init_36 rfl (lv_at hl 3 rfl) ?_
  refine zk_putR F Z (P1 := (zPu (zPu P 79 (some [2, 1, 0, 12, 3])) 80 (some []))) zC7 (a := 79) (k := 2) (ks := [1, 0, 12, 3]) (by decide) zs_79 (by decide) rfl zg_79_2 (by simp [zPu]) (by simp [zPu]) (fun c9 hc9 => by simp [zPu, hc9]) zq462 rfl ⟨rfl, hin, rfl⟩ (fun _ => ⟨rfl, rfl⟩) dX7_init_37 (fun _ _ Z => ?_)
  refine lv_iconst (v := 0) hx hb dX7_init_40 (by decide) ?_
  refine lv_istore (lv' := [(4, .int 0), (0, .ref (A0 + 79)), (1, .ref (A0 + 3)), (2, .ref (A0 + 37)), (3, .ref (A0 + 27))]) hx hb dX7_init_41 hl (by decide) rfl (fun ls hl => ?_)
  refine lv_iload hx hb dX7_init_43 (lv_at hl 0 rfl) ?_
  refine lv_aload_n hx hb dX7_init_45 rfl (lv_at hl 1 rfl) ?_
  refine zw_getR F Z.1 zC7 (a := 79) (k := 3) (by decide) zs_79 (by decide) rfl (b := 80) (by rw [zGx_p (ks := [2, 1, 0, 12, 3]) (by decide) (by simp [zPu])]; exact (if_pos (by decide)).trans zg_79_3) zq463 (Or.inl rfl) dX7_init_46 ?_
  refine zw_alen F Z.1 (ty := 4) (v := 61) (by decide) zs_80 rfl rfl dX7_init_49 ?_
  refine lv_icmp_ge (tgt := 73) hx hb dX7_init_50 (by decide) (fun q => absurd q (by decide)) (fun _ => ?_)
  refine lv_aload_n hx hb dX7_init_53 rfl (lv_at hl 1 rfl) ?_
  refine zw_getR F Z.1 zC7 (a := 79) (k := 3) (by decide) zs_79 (by decide) rfl (b := 80) (by rw [zGx_p (ks := [2, 1, 0, 12, 3]) (by decide) (by simp [zPu])]; exact (if_pos (by decide)).trans zg_79_3) zq463 (Or.inl rfl) dX7_init_54 ?_
  refine lv_iload hx hb dX7_init_57 (lv_at hl 0 rfl) ?_
  refine zk_new F Z hz0 rfl zC8 zs_85 (by decide +kernel) zq455 zq213 zq81 (Nat.le_of_ble_eq_true rfl) (Nat.le_of_ble_eq_true rfl) dX7_init_59 (fun _ Z => ?_)
  have Z : zhc D A0 σ (zPu (zPu (zPu P 79 (some [2, 1, 0, 12, 3])) 80 (some [])) 85 (some [])) 86 s.heap _ _ := Z
  refine W.widen (k := 6) (n := 27861) (Nat.le_of_ble_eq_true rfl) (Nat.le_of_ble_eq_true rfl) ?_
  refine lv_dup hx hb dX7_init_62 rfl ?_
  refine zsized fun hle => ?_
  refine zc_vm Z.1 (zr_IN F Z.1 (a := 85) (zsz Z.1 hz0 rfl hle) (As := []) (zci_State l D A0 σ (zPu (zPu P 79 (some [2, 1, 0, 12, 3])) 80 (some [])) 85 (Or.inr (Or.inr (Or.inr ⟨0, by decide, rfl⟩))) (by simp [zPu]; try exact hPn _ (by decide)) Z.2) zBI_State (by decide) rfl ⟨⟨rfl, rfl⟩, Nat.le_of_ble_eq_true rfl, Nat.le_of_ble_eq_true rfl⟩ hl.1 rfl (Nat.le_of_ble_eq_true rfl) dX7_init_63 ⟨Nat.le_of_ble_eq_true rfl, Nat.le_of_ble_eq_true rfl⟩) (fun _ _ Z1 => ?_)
  have Z : zhc D A0 σ (zPu (zPu P 79 (some [2, 1, 0, 12, 3])) 80 (some [])) 95 s.heap _ _ := ⟨Z1, fun a9 ha9 => Z.2 a9 (Nat.le_trans (by decide) ha9)⟩
  refine W.widen (k := 15) (n := 27933) (Nat.le_of_ble_eq_true rfl) (Nat.le_of_ble_eq_true rfl) ?_
  refine zk_aast F Z (ty := 4) (N := 61) (P1 := (zPu (zPu P 79 (some [2, 1, 0, 12, 3])) 80 (some [0]))) (ks := []) (by decide) zs_80 (by decide) rfl (by decide) zs_85 zC8 (by decide) zg_80_0 (by simp [zPu]) (by simp [zPu]; rfl) (fun c9 hc9 => by simp [zPu, hc9]) dX7_init_66 (fun _ _ Z => ?_)
  refine lv_iinc (v := 1) (lv' := [(4, .int 1), (0, .ref (A0 + 79)), (1, .ref (A0 + 3)), (2, .ref (A0 + 37)), (3, .ref (A0 + 27))]) hx hb dX7_init_67 hl (k := 0) rfl (by decide) (by decide) rfl (fun ls hl => ?_)
  refine lv_goto (tgt := 43) hx hb dX7_init_70 (by decide) ?_
  refine lv_iload hx hb dX7_init_43 (lv_at hl 0 rfl) ?_
  refine lv_aload_n hx hb dX7_init_45 rfl (lv_at hl 1 rfl) ?_
  refine zw_getR F Z.1 zC7 (a := 79) (k := 3) (by decide) zs_79 (by decide) rfl (b := 80) (by rw [zGx_p (ks := [2, 1, 0, 12, 3]) (by decide) (by simp [zPu])]; exact (if_pos (by decide)).trans zg_79_3) zq463 (Or.inl rfl) dX7_init_46 ?_
  refine zw_alen F Z.1 (ty := 4) (v := 61) (by decide) zs_80 rfl rfl dX7_init_49 ?_
  refine lv_icmp_ge (tgt := 73) hx hb dX7_init_50 (by decide) (fun q => absurd q (by decide)) (fun _ => ?_)
  refine lv_aload_n hx hb dX7_init_53 rfl (lv_at hl 1 rfl) ?_
  refine zw_getR F Z.1 zC7 (a := 79) (k := 3) (by decide) zs_79 (by decide) rfl (b := 80) (by rw [zGx_p (ks := [2, 1, 0, 12, 3]) (by decide) (by simp [zPu])]; exact (if_pos (by decide)).trans zg_79_3) zq463 (Or.inl rfl) dX7_init_54 ?_
  refine lv_iload hx hb dX7_init_57 (lv_at hl 0 rfl) ?_
  refine zk_new F Z hz0 rfl zC8 zs_95 (by decide +kernel) zq455 zq213 zq81 (Nat.le_of_ble_eq_true rfl) (Nat.le_of_ble_eq_true rfl) dX7_init_59 (fun _ Z => ?_)
  have Z : zhc D A0 σ (zPu (zPu (zPu P 79 (some [2, 1, 0, 12, 3])) 80 (some [0])) 95 (some [])) 96 s.heap _ _ := Z
  refine W.widen (k := 16) (n := 27947) (Nat.le_of_ble_eq_true rfl) (Nat.le_of_ble_eq_true rfl) ?_
  refine lv_dup hx hb dX7_init_62 rfl ?_
  refine zsized fun hle => ?_
  refine zc_vm Z.1 (zr_IN F Z.1 (a := 95) (zsz Z.1 hz0 rfl hle) (As := []) (zci_State l D A0 σ (zPu (zPu P 79 (some [2, 1, 0, 12, 3])) 80 (some [0])) 95 (Or.inr (Or.inr (Or.inr ⟨1, by decide, rfl⟩))) (by simp [zPu]; try exact hPn _ (by decide)) Z.2) zBI_State (by decide) rfl ⟨⟨rfl, rfl⟩, Nat.le_of_ble_eq_true rfl, Nat.le_of_ble_eq_true rfl⟩ hl.1 rfl (Nat.le_of_ble_eq_true rfl) dX7_init_63 ⟨Nat.le_of_ble_eq_true rfl, Nat.le_of_ble_eq_true rfl⟩) (fun _ _ Z1 => ?_)
  have Z : zhc D A0 σ (zPu (zPu P 79 (some [2, 1, 0, 12, 3])) 80 (some [0])) 105 s.heap _ _ := ⟨Z1, fun a9 ha9 => Z.2 a9 (Nat.le_trans (by decide) ha9)⟩
  refine W.widen (k := 25) (n := 28019) (Nat.le_of_ble_eq_true rfl) (Nat.le_of_ble_eq_true rfl) ?_
  refine zk_aast F Z (ty := 4) (N := 61) (P1 := (zPu (zPu P 79 (some [2, 1, 0, 12, 3])) 80 (some [1, 0]))) (ks := [0]) (by decide) zs_80 (by decide) rfl (by decide) zs_95 zC8 (by decide) zg_80_1 (by simp [zPu]) (by simp [zPu]; rfl) (fun c9 hc9 => by simp [zPu, hc9]) dX7_init_66 (fun _ _ Z => ?_)
  refine lv_iinc (v := 2) (lv' := [(4, .int 2), (0, .ref (A0 + 79)), (1, .ref (A0 + 3)), (2, .ref (A0 + 37)), (3, .ref (A0 + 27))]) hx hb dX7_init_67 hl (k := 0) rfl (by decide) (by decide) rfl (fun ls hl => ?_)
  refine lv_goto (tgt := 43) hx hb dX7_init_70 (by decide) ?_
  refine lv_iload hx hb dX7_init_43 (lv_at hl 0 rfl) ?_
  refine lv_aload_n hx hb dX7_init_45 rfl (lv_at hl 1 rfl) ?_
  refine zw_getR F Z.1 zC7 (a := 79) (k := 3) (by decide) zs_79 (by decide) rfl (b := 80) (by rw [zGx_p (ks := [2, 1, 0, 12, 3]) (by decide) (by simp [zPu])]; exact (if_pos (by decide)).trans zg_79_3) zq463 (Or.inl rfl) dX7_init_46 ?_
  refine zw_alen F Z.1 (ty := 4) (v := 61) (by decide) zs_80 rfl rfl dX7_init_49 ?_
  refine lv_icmp_ge (tgt := 73) hx hb dX7_init_50 (by decide) (fun q => absurd q (by decide)) (fun _ => ?_)
  refine lv_aload_n hx hb dX7_init_53 rfl (lv_at hl 1 rfl) ?_
  refine zw_getR F Z.1 zC7 (a := 79) (k := 3) (by decide) zs_79 (by decide) rfl (b := 80) (by rw [zGx_p (ks := [2, 1, 0, 12, 3]) (by decide) (by simp [zPu])]; exact (if_pos (by decide)).trans zg_79_3) zq463 (Or.inl rfl) dX7_init_54 ?_
  refine lv_iload hx hb dX7_init_57 (lv_at hl 0 rfl) ?_
  refine zk_new F Z hz0 rfl zC8 (zs_pth (i := 2) (j := 0) (by decide) (by decide)) (by decide +kernel) zq455 zq213 zq81 (Nat.le_of_ble_eq_true rfl) (Nat.le_of_ble_eq_true rfl) dX7_init_59 (fun _ Z => ?_)
  have Z : zhc D A0 σ (zPu (zPu (zPu P 79 (some [2, 1, 0, 12, 3])) 80 (some [1, 0])) 105 (some [])) 106 s.heap _ _ := Z
  refine W.widen (k := 26) (n := 28033) (Nat.le_of_ble_eq_true rfl) (Nat.le_of_ble_eq_true rfl) ?_
  refine lv_dup hx hb dX7_init_62 rfl ?_
  refine zsized fun hle => ?_
  refine zc_vm Z.1 (zr_IN F Z.1 (a := 105) (zsz Z.1 hz0 rfl hle) (As := []) (zci_State l D A0 σ (zPu (zPu P 79 (some [2, 1, 0, 12, 3])) 80 (some [1, 0])) 105 (Or.inr (Or.inr (Or.inr ⟨2, by decide, rfl⟩))) (by simp [zPu]; try exact hPn _ (by decide)) Z.2) zBI_State (by decide) rfl ⟨⟨rfl, rfl⟩, Nat.le_of_ble_eq_true rfl, Nat.le_of_ble_eq_true rfl⟩ hl.1 rfl (Nat.le_of_ble_eq_true rfl) dX7_init_63 ⟨Nat.le_of_ble_eq_true rfl, Nat.le_of_ble_eq_true rfl⟩) (fun _ _ Z1 => ?_)
  have Z : zhc D A0 σ (zPu (zPu P 79 (some [2, 1, 0, 12, 3])) 80 (some [1, 0])) 115 s.heap _ _ := ⟨Z1, fun a9 ha9 => Z.2 a9 (Nat.le_trans (by decide) ha9)⟩
  refine W.widen (k := 35) (n := 28105) (Nat.le_of_ble_eq_true rfl) (Nat.le_of_ble_eq_true rfl) ?_
  refine zk_aast F Z (ty := 4) (N := 61) (P1 := (zPu (zPu P 79 (some [2, 1, 0, 12, 3])) 80 (some [2, 1, 0]))) (ks := [1, 0]) (by decide) zs_80 (by decide) rfl (by decide) (zs_pth (i := 2) (j := 0) (by decide) (by decide)) zC8 (by decide) (by unfold GF; rfl) (by simp [zPu]) (by simp [zPu]; rfl) (fun c9 hc9 => by simp [zPu, hc9]) dX7_init_66 (fun _ _ Z => ?_)
  refine lv_iinc (v := 3) (lv' := [(4, .int 3), (0, .ref (A0 + 79)), (1, .ref (A0 + 3)), (2, .ref (A0 + 37)), (3, .ref (A0 + 27))]) hx hb dX7_init_67 hl (k := 0) rfl (by decide) (by decide) rfl (fun ls hl => ?_)
  refine lv_goto (tgt := 43) hx hb dX7_init_70 (by decide) ?_
  refine lv_iload hx hb dX7_init_43 (lv_at hl 0 rfl) ?_
  refine lv_aload_n hx hb dX7_init_45 rfl (lv_at hl 1 rfl) ?_
  refine zw_getR F Z.1 zC7 (a := 79) (k := 3) (by decide) zs_79 (by decide) rfl (b := 80) (by rw [zGx_p (ks := [2, 1, 0, 12, 3]) (by decide) (by simp [zPu])]; exact (if_pos (by decide)).trans zg_79_3) zq463 (Or.inl rfl) dX7_init_46 ?_
  refine zw_alen F Z.1 (ty := 4) (v := 61) (by decide) zs_80 rfl rfl dX7_init_49 ?_
  refine lv_icmp_ge (tgt := 73) hx hb dX7_init_50 (by decide) (fun q => absurd q (by decide)) (fun _ => ?_)
  refine lv_aload_n hx hb dX7_init_53 rfl (lv_at hl 1 rfl) ?_
  refine zw_getR F Z.1 zC7 (a := 79) (k := 3) (by decide) zs_79 (by decide) rfl (b := 80) (by rw [zGx_p (ks := [2, 1, 0, 12, 3]) (by decide) (by simp [zPu])]; exact (if_pos (by decide)).trans zg_79_3) zq463 (Or.inl rfl) dX7_init_54 ?_
  refine lv_iload hx hb dX7_init_57 (lv_at hl 0 rfl) ?_
  refine zk_new F Z hz0 rfl zC8 (zs_pth (i := 3) (j := 0) (by decide) (by decide)) (by decide +kernel) zq455 zq213 zq81 (Nat.le_of_ble_eq_true rfl) (Nat.le_of_ble_eq_true rfl) dX7_init_59 (fun _ Z => ?_)
  have Z : zhc D A0 σ (zPu (zPu (zPu P 79 (some [2, 1, 0, 12, 3])) 80 (some [2, 1, 0])) 115 (some [])) 116 s.heap _ _ := Z
  refine W.widen (k := 36) (n := 28119) (Nat.le_of_ble_eq_true rfl) (Nat.le_of_ble_eq_true rfl) ?_
  refine lv_dup hx hb dX7_init_62 rfl ?_
  refine zsized fun hle => ?_
  refine zc_vm Z.1 (zr_IN F Z.1 (a := 115) (zsz Z.1 hz0 rfl hle) (As := []) (zci_State l D A0 σ (zPu (zPu P 79 (some [2, 1, 0, 12, 3])) 80 (some [2, 1, 0])) 115 (Or.inr (Or.inr (Or.inr ⟨3, by decide, rfl⟩))) (by simp [zPu]; try exact hPn _ (by decide)) Z.2) zBI_State (by decide) rfl ⟨⟨rfl, rfl⟩, Nat.le_of_ble_eq_true rfl, Nat.le_of_ble_eq_true rfl⟩ hl.1 rfl (Nat.le_of_ble_eq_true rfl) dX7_init_63 ⟨Nat.le_of_ble_eq_true rfl, Nat.le_of_ble_eq_true rfl⟩) (fun _ _ Z1 => ?_)
  have Z : zhc D A0 σ (zPu (zPu P 79 (some [2, 1, 0, 12, 3])) 80 (some [2, 1, 0])) 125 s.heap _ _ := ⟨Z1, fun a9 ha9 => Z.2 a9 (Nat.le_trans (by decide) ha9)⟩
  refine W.widen (k := 45) (n := 28191) (Nat.le_of_ble_eq_true rfl) (Nat.le_of_ble_eq_true rfl) ?_
  refine zk_aast F Z (ty := 4) (N := 61) (P1 := (zPu (zPu P 79 (some [2, 1, 0, 12, 3])) 80 (some [3, 2, 1, 0]))) (ks := [2, 1, 0]) (by decide) zs_80 (by decide) rfl (by decide) (zs_pth (i := 3) (j := 0) (by decide) (by decide)) zC8 (by decide) (by unfold GF; rfl) (by simp [zPu]) (by simp [zPu]; rfl) (fun c9 hc9 => by simp [zPu, hc9]) dX7_init_66 (fun _ _ Z => ?_)
  refine lv_iinc (v := 4) (lv' := [(4, .int 4), (0, .ref (A0 + 79)), (1, .ref (A0 + 3)), (2, .ref (A0 + 37)), (3, .ref (A0 + 27))]) hx hb dX7_init_67 hl (k := 0) rfl (by decide) (by decide) rfl (fun ls hl => ?_)
  refine lv_goto (tgt := 43) hx hb dX7_init_70 (by decide) ?_
  refine lv_iload hx hb dX7_init_43 (lv_at hl 0 rfl) ?_
  refine lv_aload_n hx hb dX7_init_45 rfl (lv_at hl 1 rfl) ?_
  refine zw_getR F Z.1 zC7 (a := 79) (k := 3) (by decide) zs_79 (by decide) rfl (b := 80) (by rw [zGx_p (ks := [2, 1, 0, 12, 3]) (by decide) (by simp [zPu])]; exact (if_pos (by decide)).trans zg_79_3) zq463 (Or.inl rfl) dX7_init_46 ?_
  refine zw_alen F Z.1 (ty := 4) (v := 61) (by decide) zs_80 rfl rfl dX7_init_49 ?_
  refine lv_icmp_ge (tgt := 73) hx hb dX7_init_50 (by decide) (fun q => absurd q (by decide)) (fun _ => ?_)
  refine lv_aload_n hx hb dX7_init_53 rfl (lv_at hl 1 rfl) ?_
  refine zw_getR F Z.1 zC7 (a := 79) (k := 3) (by decide) zs_79 (by decide) rfl (b := 80) (by rw [zGx_p (ks := [2, 1, 0, 12, 3]) (by decide) (by simp [zPu])]; exact (if_pos (by decide)).trans zg_79_3) zq463 (Or.inl rfl) dX7_init_54 ?_
  refine lv_iload hx hb dX7_init_57 (lv_at hl 0 rfl) ?_
  refine zk_new F Z hz0 rfl zC8 (zs_pth (i := 4) (j := 0) (by decide) (by decide)) (by decide +kernel) zq455 zq213 zq81 (Nat.le_of_ble_eq_true rfl) (Nat.le_of_ble_eq_true rfl) dX7_init_59 (fun _ Z => ?_)
  have Z : zhc D A0 σ (zPu (zPu (zPu P 79 (some [2, 1, 0, 12, 3])) 80 (some [3, 2, 1, 0])) 125 (some [])) 126 s.heap _ _ := Z
  refine W.widen (k := 46) (n := 28205) (Nat.le_of_ble_eq_true rfl) (Nat.le_of_ble_eq_true rfl) ?_
  refine lv_dup hx hb dX7_init_62 rfl ?_
  refine zsized fun hle => ?_
  refine zc_vm Z.1 (zr_IN F Z.1 (a := 125) (zsz Z.1 hz0 rfl hle) (As := []) (zci_State l D A0 σ (zPu (zPu P 79 (some [2, 1, 0, 12, 3])) 80 (some [3, 2, 1, 0])) 125 (Or.inr (Or.inr (Or.inr ⟨4, by decide, rfl⟩))) (by simp [zPu]; try exact hPn _ (by decide)) Z.2) zBI_State (by decide) rfl ⟨⟨rfl, rfl⟩, Nat.le_of_ble_eq_true rfl, Nat.le_of_ble_eq_true rfl⟩ hl.1 rfl (Nat.le_of_ble_eq_true rfl) dX7_init_63 ⟨Nat.le_of_ble_eq_true rfl, Nat.le_of_ble_eq_true rfl⟩) (fun _ _ Z1 => ?_)
  have Z : zhc D A0 σ (zPu (zPu P 79 (some [2, 1, 0, 12, 3])) 80 (some [3, 2, 1, 0])) 135 s.heap _ _ := ⟨Z1, fun a9 ha9 => Z.2 a9 (Nat.le_trans (by decide) ha9)⟩
  refine W.widen (k := 55) (n := 28277) (Nat.le_of_ble_eq_true rfl) (Nat.le_of_ble_eq_true rfl) ?_
  refine zk_aast F Z (ty := 4) (N := 61) (P1 := (zPu (zPu P 79 (some [2, 1, 0, 12, 3])) 80 (some [4, 3, 2, 1, 0]))) (ks := [3, 2, 1, 0]) (by decide) zs_80 (by decide) rfl (by decide) (zs_pth (i := 4) (j := 0) (by decide) (by decide)) zC8 (by decide) (by unfold GF; rfl) (by simp [zPu]) (by simp [zPu]; rfl) (fun c9 hc9 => by simp [zPu, hc9]) dX7_init_66 (fun _ _ Z => ?_)
  refine lv_iinc (v := 5) (lv' := [(4, .int 5), (0, .ref (A0 + 79)), (1, .ref (A0 + 3)), (2, .ref (A0 + 37)), (3, .ref (A0 + 27))]) hx hb dX7_init_67 hl (k := 0) rfl (by decide) (by decide) rfl (fun ls hl => ?_)
  refine lv_goto (tgt := 43) hx hb dX7_init_70 (by decide) ?_
  refine lv_iload hx hb dX7_init_43 (lv_at hl 0 rfl) ?_
  refine lv_aload_n hx hb dX7_init_45 rfl (lv_at hl 1 rfl) ?_
  refine zw_getR F Z.1 zC7 (a := 79) (k := 3) (by decide) zs_79 (by decide) rfl (b := 80) (by rw [zGx_p (ks := [2, 1, 0, 12, 3]) (by decide) (by simp [zPu])]; exact (if_pos (by decide)).trans zg_79_3) zq463 (Or.inl rfl) dX7_init_46 ?_
  refine zw_alen F Z.1 (ty := 4) (v := 61) (by decide) zs_80 rfl rfl dX7_init_49 ?_
  refine lv_icmp_ge (tgt := 73) hx hb dX7_init_50 (by decide) (fun q => absurd q (by decide)) (fun _ => ?_)
  refine lv_aload_n hx hb dX7_init_53 rfl (lv_at hl 1 rfl) ?_
  refine zw_getR F Z.1 zC7 (a := 79) (k := 3) (by decide) zs_79 (by decide) rfl (b := 80) (by rw [zGx_p (ks := [2, 1, 0, 12, 3]) (by decide) (by simp [zPu])]; exact (if_pos (by decide)).trans zg_79_3) zq463 (Or.inl rfl) dX7_init_54 ?_
  refine lv_iload hx hb dX7_init_57 (lv_at hl 0 rfl) ?_
  refine zk_new F Z hz0 rfl zC8 (zs_pth (i := 5) (j := 0) (by decide) (by decide)) (by decide +kernel) zq455 zq213 zq81 (Nat.le_of_ble_eq_true rfl) (Nat.le_of_ble_eq_true rfl) dX7_init_59 (fun _ Z => ?_)
  have Z : zhc D A0 σ (zPu (zPu (zPu P 79 (some [2, 1, 0, 12, 3])) 80 (some [4, 3, 2, 1, 0])) 135 (some [])) 136 s.heap _ _ := Z
  refine W.widen (k := 56) (n := 28291) (Nat.le_of_ble_eq_true rfl) (Nat.le_of_ble_eq_true rfl) ?_
  refine lv_dup hx hb dX7_init_62 rfl ?_
  refine zsized fun hle => ?_
  refine zc_vm Z.1 (zr_IN F Z.1 (a := 135) (zsz Z.1 hz0 rfl hle) (As := []) (zci_State l D A0 σ (zPu (zPu P 79 (some [2, 1, 0, 12, 3])) 80 (some [4, 3, 2, 1, 0])) 135 (Or.inr (Or.inr (Or.inr ⟨5, by decide, rfl⟩))) (by simp [zPu]; try exact hPn _ (by decide)) Z.2) zBI_State (by decide) rfl ⟨⟨rfl, rfl⟩, Nat.le_of_ble_eq_true rfl, Nat.le_of_ble_eq_true rfl⟩ hl.1 rfl (Nat.le_of_ble_eq_true rfl) dX7_init_63 ⟨Nat.le_of_ble_eq_true rfl, Nat.le_of_ble_eq_true rfl⟩) (fun _ _ Z1 => ?_)
  have Z : zhc D A0 σ (zPu (zPu P 79 (some [2, 1, 0, 12, 3])) 80 (some [4, 3, 2, 1, 0])) 145 s.heap _ _ := ⟨Z1, fun a9 ha9 => Z.2 a9 (Nat.le_trans (by decide) ha9)⟩
  refine W.widen (k := 65) (n := 28363) (Nat.le_of_ble_eq_true rfl) (Nat.le_of_ble_eq_true rfl) ?_
  refine zk_aast F Z (ty := 4) (N := 61) (P1 := (zPu (zPu P 79 (some [2, 1, 0, 12, 3])) 80 (some [5, 4, 3, 2, 1, 0]))) (ks := [4, 3, 2, 1, 0]) (by decide) zs_80 (by decide) rfl (by decide) (zs_pth (i := 5) (j := 0) (by decide) (by decide)) zC8 (by decide) (by unfold GF; rfl) (by simp [zPu]) (by simp [zPu]; rfl) (fun c9 hc9 => by simp [zPu, hc9]) dX7_init_66 (fun _ _ Z => ?_)
  refine lv_iinc (v := 6) (lv' := [(4, .int 6), (0, .ref (A0 + 79)), (1, .ref (A0 + 3)), (2, .ref (A0 + 37)), (3, .ref (A0 + 27))]) hx hb dX7_init_67 hl (k := 0) rfl (by decide) (by decide) rfl (fun ls hl => ?_)
  refine lv_goto (tgt := 43) hx hb dX7_init_70 (by decide) ?_
  refine lv_iload hx hb dX7_init_43 (lv_at hl 0 rfl) ?_
  refine lv_aload_n hx hb dX7_init_45 rfl (lv_at hl 1 rfl) ?_
  refine zw_getR F Z.1 zC7 (a := 79) (k := 3) (by decide) zs_79 (by decide) rfl (b := 80) (by rw [zGx_p (ks := [2, 1, 0, 12, 3]) (by decide) (by simp [zPu])]; exact (if_pos (by decide)).trans zg_79_3) zq463 (Or.inl rfl) dX7_init_46 ?_
  refine zw_alen F Z.1 (ty := 4) (v := 61) (by decide) zs_80 rfl rfl dX7_init_49 ?_
  refine lv_icmp_ge (tgt := 73) hx hb dX7_init_50 (by decide) (fun q => absurd q (by decide)) (fun _ => ?_)
  refine lv_aload_n hx hb dX7_init_53 rfl (lv_at hl 1 rfl) ?_
  refine zw_getR F Z.1 zC7 (a := 79) (k := 3) (by decide) zs_79 (by decide) rfl (b := 80) (by rw [zGx_p (ks := [2, 1, 0, 12, 3]) (by decide) (by simp [zPu])]; exact (if_pos (by decide)).trans zg_79_3) zq463 (Or.inl rfl) dX7_init_54 ?_
  refine lv_iload hx hb dX7_init_57 (lv_at hl 0 rfl) ?_
  refine zk_new F Z hz0 rfl zC8 (zs_pth (i := 6) (j := 0) (by decide) (by decide)) (by decide +kernel) zq455 zq213 zq81 (Nat.le_of_ble_eq_true rfl) (Nat.le_of_ble_eq_true rfl) dX7_init_59 (fun _ Z => ?_)
  have Z : zhc D A0 σ (zPu (zPu (zPu P 79 (some [2, 1, 0, 12, 3])) 80 (some [5, 4, 3, 2, 1, 0])) 145 (some [])) 146 s.heap _ _ := Z
  refine W.widen (k := 66) (n := 28377) (Nat.le_of_ble_eq_true rfl) (Nat.le_of_ble_eq_true rfl) ?_
  refine lv_dup hx hb dX7_init_62 rfl ?_
  refine zsized fun hle => ?_
  refine zc_vm Z.1 (zr_IN F Z.1 (a := 145) (zsz Z.1 hz0 rfl hle) (As := []) (zci_State l D A0 σ (zPu (zPu P 79 (some [2, 1, 0, 12, 3])) 80 (some [5, 4, 3, 2, 1, 0])) 145 (Or.inr (Or.inr (Or.inr ⟨6, by decide, rfl⟩))) (by simp [zPu]; try exact hPn _ (by decide)) Z.2) zBI_State (by decide) rfl ⟨⟨rfl, rfl⟩, Nat.le_of_ble_eq_true rfl, Nat.le_of_ble_eq_true rfl⟩ hl.1 rfl (Nat.le_of_ble_eq_true rfl) dX7_init_63 ⟨Nat.le_of_ble_eq_true rfl, Nat.le_of_ble_eq_true rfl⟩) (fun _ _ Z1 => ?_)
  have Z : zhc D A0 σ (zPu (zPu P 79 (some [2, 1, 0, 12, 3])) 80 (some [5, 4, 3, 2, 1, 0])) 155 s.heap _ _ := ⟨Z1, fun a9 ha9 => Z.2 a9 (Nat.le_trans (by decide) ha9)⟩
  refine W.widen (k := 75) (n := 28449) (Nat.le_of_ble_eq_true rfl) (Nat.le_of_ble_eq_true rfl) ?_
  refine zk_aast F Z (ty := 4) (N := 61) (P1 := (zPu (zPu P 79 (some [2, 1, 0, 12, 3])) 80 (some [6, 5, 4, 3, 2, 1, 0]))) (ks := [5, 4, 3, 2, 1, 0]) (by decide) zs_80 (by decide) rfl (by decide) (zs_pth (i := 6) (j := 0) (by decide) (by decide)) zC8 (by decide) (by unfold GF; rfl) (by simp [zPu]) (by simp [zPu]; rfl) (fun c9 hc9 => by simp [zPu, hc9]) dX7_init_66 (fun _ _ Z => ?_)
  refine lv_iinc (v := 7) (lv' := [(4, .int 7), (0, .ref (A0 + 79)), (1, .ref (A0 + 3)), (2, .ref (A0 + 37)), (3, .ref (A0 + 27))]) hx hb dX7_init_67 hl (k := 0) rfl (by decide) (by decide) rfl (fun ls hl => ?_)
  refine lv_goto (tgt := 43) hx hb dX7_init_70 (by decide) ?_
  refine lv_iload hx hb dX7_init_43 (lv_at hl 0 rfl) ?_
  refine lv_aload_n hx hb dX7_init_45 rfl (lv_at hl 1 rfl) ?_
  refine zw_getR F Z.1 zC7 (a := 79) (k := 3) (by decide) zs_79 (by decide) rfl (b := 80) (by rw [zGx_p (ks := [2, 1, 0, 12, 3]) (by decide) (by simp [zPu])]; exact (if_pos (by decide)).trans zg_79_3) zq463 (Or.inl rfl) dX7_init_46 ?_
  refine zw_alen F Z.1 (ty := 4) (v := 61) (by decide) zs_80 rfl rfl dX7_init_49 ?_
  refine lv_icmp_ge (tgt := 73) hx hb dX7_init_50 (by decide) (fun q => absurd q (by decide)) (fun _ => ?_)
  refine lv_aload_n hx hb dX7_init_53 rfl (lv_at hl 1 rfl) ?_
  refine zw_getR F Z.1 zC7 (a := 79) (k := 3) (by decide) zs_79 (by decide) rfl (b := 80) (by rw [zGx_p (ks := [2, 1, 0, 12, 3]) (by decide) (by simp [zPu])]; exact (if_pos (by decide)).trans zg_79_3) zq463 (Or.inl rfl) dX7_init_54 ?_
  refine lv_iload hx hb dX7_init_57 (lv_at hl 0 rfl) ?_
  refine zk_new F Z hz0 rfl zC8 (zs_pth (i := 7) (j := 0) (by decide) (by decide)) (by decide +kernel) zq455 zq213 zq81 (Nat.le_of_ble_eq_true rfl) (Nat.le_of_ble_eq_true rfl) dX7_init_59 (fun _ Z => ?_)
  have Z : zhc D A0 σ (zPu (zPu (zPu P 79 (some [2, 1, 0, 12, 3])) 80 (some [6, 5, 4, 3, 2, 1, 0])) 155 (some [])) 156 s.heap _ _ := Z
  refine W.widen (k := 76) (n := 28463) (Nat.le_of_ble_eq_true rfl) (Nat.le_of_ble_eq_true rfl) ?_
  refine lv_dup hx hb dX7_init_62 rfl ?_
  refine zsized fun hle => ?_
  refine zc_vm Z.1 (zr_IN F Z.1 (a := 155) (zsz Z.1 hz0 rfl hle) (As := []) (zci_State l D A0 σ (zPu (zPu P 79 (some [2, 1, 0, 12, 3])) 80 (some [6, 5, 4, 3, 2, 1, 0])) 155 (Or.inr (Or.inr (Or.inr ⟨7, by decide, rfl⟩))) (by simp [zPu]; try exact hPn _ (by decide)) Z.2) zBI_State (by decide) rfl ⟨⟨rfl, rfl⟩, Nat.le_of_ble_eq_true rfl, Nat.le_of_ble_eq_true rfl⟩ hl.1 rfl (Nat.le_of_ble_eq_true rfl) dX7_init_63 ⟨Nat.le_of_ble_eq_true rfl, Nat.le_of_ble_eq_true rfl⟩) (fun _ _ Z1 => ?_)
  have Z : zhc D A0 σ (zPu (zPu P 79 (some [2, 1, 0, 12, 3])) 80 (some [6, 5, 4, 3, 2, 1, 0])) 165 s.heap _ _ := ⟨Z1, fun a9 ha9 => Z.2 a9 (Nat.le_trans (by decide) ha9)⟩
  refine W.widen (k := 85) (n := 28535) (Nat.le_of_ble_eq_true rfl) (Nat.le_of_ble_eq_true rfl) ?_
  refine zk_aast F Z (ty := 4) (N := 61) (P1 := (zPu (zPu P 79 (some [2, 1, 0, 12, 3])) 80 (some [7, 6, 5, 4, 3, 2, 1, 0]))) (ks := [6, 5, 4, 3, 2, 1, 0]) (by decide) zs_80 (by decide) rfl (by decide) (zs_pth (i := 7) (j := 0) (by decide) (by decide)) zC8 (by decide) (by unfold GF; rfl) (by simp [zPu]) (by simp [zPu]; rfl) (fun c9 hc9 => by simp [zPu, hc9]) dX7_init_66 (fun _ _ Z => ?_)
  refine lv_iinc (v := 8) (lv' := [(4, .int 8), (0, .ref (A0 + 79)), (1, .ref (A0 + 3)), (2, .ref (A0 + 37)), (3, .ref (A0 + 27))]) hx hb dX7_init_67 hl (k := 0) rfl (by decide) (by decide) rfl (fun ls hl => ?_)
  refine lv_goto (tgt := 43) hx hb dX7_init_70 (by decide) ?_
  refine lv_iload hx hb dX7_init_43 (lv_at hl 0 rfl) ?_
  refine lv_aload_n hx hb dX7_init_45 rfl (lv_at hl 1 rfl) ?_
  refine zw_getR F Z.1 zC7 (a := 79) (k := 3) (by decide) zs_79 (by decide) rfl (b := 80) (by rw [zGx_p (ks := [2, 1, 0, 12, 3]) (by decide) (by simp [zPu])]; exact (if_pos (by decide)).trans zg_79_3) zq463 (Or.inl rfl) dX7_init_46 ?_
  refine zw_alen F Z.1 (ty := 4) (v := 61) (by decide) zs_80 rfl rfl dX7_init_49 ?_
  refine lv_icmp_ge (tgt := 73) hx hb dX7_init_50 (by decide) (fun q => absurd q (by decide)) (fun _ => ?_)
  refine lv_aload_n hx hb dX7_init_53 rfl (lv_at hl 1 rfl) ?_
  refine zw_getR F Z.1 zC7 (a := 79) (k := 3) (by decide) zs_79 (by decide) rfl (b := 80) (by rw [zGx_p (ks := [2, 1, 0, 12, 3]) (by decide) (by simp [zPu])]; exact (if_pos (by decide)).trans zg_79_3) zq463 (Or.inl rfl) dX7_init_54 ?_
  refine lv_iload hx hb dX7_init_57 (lv_at hl 0 rfl) ?_
  refine zk_new F Z hz0 rfl zC8 (zs_pth (i := 8) (j := 0) (by decide) (by decide)) (by decide +kernel) zq455 zq213 zq81 (Nat.le_of_ble_eq_true rfl) (Nat.le_of_ble_eq_true rfl) dX7_init_59 (fun _ Z => ?_)
  have Z : zhc D A0 σ (zPu (zPu (zPu P 79 (some [2, 1, 0, 12, 3])) 80 (some [7, 6, 5, 4, 3, 2, 1, 0])) 165 (some [])) 166 s.heap _ _ := Z
  refine W.widen (k := 86) (n := 28549) (Nat.le_of_ble_eq_true rfl) (Nat.le_of_ble_eq_true rfl) ?_
  refine lv_dup hx hb dX7_init_62 rfl ?_
  refine zsized fun hle => ?_
  refine zc_vm Z.1 (zr_IN F Z.1 (a := 165) (zsz Z.1 hz0 rfl hle) (As := []) (zci_State l D A0 σ (zPu (zPu P 79 (some [2, 1, 0, 12, 3])) 80 (some [7, 6, 5, 4, 3, 2, 1, 0])) 165 (Or.inr (Or.inr (Or.inr ⟨8, by decide, rfl⟩))) (by simp [zPu]; try exact hPn _ (by decide)) Z.2) zBI_State (by decide) rfl ⟨⟨rfl, rfl⟩, Nat.le_of_ble_eq_true rfl, Nat.le_of_ble_eq_true rfl⟩ hl.1 rfl (Nat.le_of_ble_eq_true rfl) dX7_init_63 ⟨Nat.le_of_ble_eq_true rfl, Nat.le_of_ble_eq_true rfl⟩) (fun _ _ Z1 => ?_)
  have Z : zhc D A0 σ (zPu (zPu P 79 (some [2, 1, 0, 12, 3])) 80 (some [7, 6, 5, 4, 3, 2, 1, 0])) 175 s.heap _ _ := ⟨Z1, fun a9 ha9 => Z.2 a9 (Nat.le_trans (by decide) ha9)⟩
  refine W.widen (k := 95) (n := 28621) (Nat.le_of_ble_eq_true rfl) (Nat.le_of_ble_eq_true rfl) ?_
  refine zk_aast F Z (ty := 4) (N := 61) (P1 := (zPu (zPu P 79 (some [2, 1, 0, 12, 3])) 80 (some [8, 7, 6, 5, 4, 3, 2, 1, 0]))) (ks := [7, 6, 5, 4, 3, 2, 1, 0]) (by decide) zs_80 (by decide) rfl (by decide) (zs_pth (i := 8) (j := 0) (by decide) (by decide)) zC8 (by decide) (by unfold GF; rfl) (by simp [zPu]) (by simp [zPu]; rfl) (fun c9 hc9 => by simp [zPu, hc9]) dX7_init_66 (fun _ _ Z => ?_)
  refine lv_iinc (v := 9) (lv' := [(4, .int 9), (0, .ref (A0 + 79)), (1, .ref (A0 + 3)), (2, .ref (A0 + 37)), (3, .ref (A0 + 27))]) hx hb dX7_init_67 hl (k := 0) rfl (by decide) (by decide) rfl (fun ls hl => ?_)
  refine lv_goto (tgt := 43) hx hb dX7_init_70 (by decide) ?_
  refine lv_iload hx hb dX7_init_43 (lv_at hl 0 rfl) ?_
  refine lv_aload_n hx hb dX7_init_45 rfl (lv_at hl 1 rfl) ?_
  refine zw_getR F Z.1 zC7 (a := 79) (k := 3) (by decide) zs_79 (by decide) rfl (b := 80) (by rw [zGx_p (ks := [2, 1, 0, 12, 3]) (by decide) (by simp [zPu])]; exact (if_pos (by decide)).trans zg_79_3) zq463 (Or.inl rfl) dX7_init_46 ?_
  refine zw_alen F Z.1 (ty := 4) (v := 61) (by decide) zs_80 rfl rfl dX7_init_49 ?_
  refine lv_icmp_ge (tgt := 73) hx hb dX7_init_50 (by decide) (fun q => absurd q (by decide)) (fun _ => ?_)
  refine lv_aload_n hx hb dX7_init_53 rfl (lv_at hl 1 rfl) ?_
  refine zw_getR F Z.1 zC7 (a := 79) (k := 3) (by decide) zs_79 (by decide) rfl (b := 80) (by rw [zGx_p (ks := [2, 1, 0, 12, 3]) (by decide) (by simp [zPu])]; exact (if_pos (by decide)).trans zg_79_3) zq463 (Or.inl rfl) dX7_init_54 ?_
  refine lv_iload hx hb dX7_init_57 (lv_at hl 0 rfl) ?_
  refine zk_new F Z hz0 rfl zC8 (zs_pth (i := 9) (j := 0) (by decide) (by decide)) (by decide +kernel) zq455 zq213 zq81 (Nat.le_of_ble_eq_true rfl) (Nat.le_of_ble_eq_true rfl) dX7_init_59 (fun _ Z => ?_)
  have Z : zhc D A0 σ (zPu (zPu (zPu P 79 (some [2, 1, 0, 12, 3])) 80 (some [8, 7, 6, 5, 4, 3, 2, 1, 0])) 175 (some [])) 176 s.heap _ _ := Z
  refine W.widen (k := 96) (n := 28635) (Nat.le_of_ble_eq_true rfl) (Nat.le_of_ble_eq_true rfl) ?_
  refine lv_dup hx hb dX7_init_62 rfl ?_
  refine zsized fun hle => ?_
  refine zc_vm Z.1 (zr_IN F Z.1 (a := 175) (zsz Z.1 hz0 rfl hle) (As := []) (zci_State l D A0 σ (zPu (zPu P 79 (some [2, 1, 0, 12, 3])) 80 (some [8, 7, 6, 5, 4, 3, 2, 1, 0])) 175 (Or.inr (Or.inr (Or.inr ⟨9, by decide, rfl⟩))) (by simp [zPu]; try exact hPn _ (by decide)) Z.2) zBI_State (by decide) rfl ⟨⟨rfl, rfl⟩, Nat.le_of_ble_eq_true rfl, Nat.le_of_ble_eq_true rfl⟩ hl.1 rfl (Nat.le_of_ble_eq_true rfl) dX7_init_63 ⟨Nat.le_of_ble_eq_true rfl, Nat.le_of_ble_eq_true rfl⟩) (fun _ _ Z1 => ?_)
  have Z : zhc D A0 σ (zPu (zPu P 79 (some [2, 1, 0, 12, 3])) 80 (some [8, 7, 6, 5, 4, 3, 2, 1, 0])) 185 s.heap _ _ := ⟨Z1, fun a9 ha9 => Z.2 a9 (Nat.le_trans (by decide) ha9)⟩
  refine W.widen (k := 105) (n := 28707) (Nat.le_of_ble_eq_true rfl) (Nat.le_of_ble_eq_true rfl) ?_
  refine zk_aast F Z (ty := 4) (N := 61) (P1 := (zPu (zPu P 79 (some [2, 1, 0, 12, 3])) 80 (some [9, 8, 7, 6, 5, 4, 3, 2, 1, 0]))) (ks := [8, 7, 6, 5, 4, 3, 2, 1, 0]) (by decide) zs_80 (by decide) rfl (by decide) (zs_pth (i := 9) (j := 0) (by decide) (by decide)) zC8 (by decide) (by unfold GF; rfl) (by simp [zPu]) (by simp [zPu]; rfl) (fun c9 hc9 => by simp [zPu, hc9]) dX7_init_66 (fun _ _ Z => ?_)
  refine lv_iinc (v := 10) (lv' := [(4, .int 10), (0, .ref (A0 + 79)), (1, .ref (A0 + 3)), (2, .ref (A0 + 37)), (3, .ref (A0 + 27))]) hx hb dX7_init_67 hl (k := 0) rfl (by decide) (by decide) rfl (fun ls hl => ?_)
  refine lv_goto (tgt := 43) hx hb dX7_init_70 (by decide) ?_
  refine lv_iload hx hb dX7_init_43 (lv_at hl 0 rfl) ?_
  refine lv_aload_n hx hb dX7_init_45 rfl (lv_at hl 1 rfl) ?_
  refine zw_getR F Z.1 zC7 (a := 79) (k := 3) (by decide) zs_79 (by decide) rfl (b := 80) (by rw [zGx_p (ks := [2, 1, 0, 12, 3]) (by decide) (by simp [zPu])]; exact (if_pos (by decide)).trans zg_79_3) zq463 (Or.inl rfl) dX7_init_46 ?_
  refine zw_alen F Z.1 (ty := 4) (v := 61) (by decide) zs_80 rfl rfl dX7_init_49 ?_
  refine lv_icmp_ge (tgt := 73) hx hb dX7_init_50 (by decide) (fun q => absurd q (by decide)) (fun _ => ?_)
  refine lv_aload_n hx hb dX7_init_53 rfl (lv_at hl 1 rfl) ?_
  refine zw_getR F Z.1 zC7 (a := 79) (k := 3) (by decide) zs_79 (by decide) rfl (b := 80) (by rw [zGx_p (ks := [2, 1, 0, 12, 3]) (by decide) (by simp [zPu])]; exact (if_pos (by decide)).trans zg_79_3) zq463 (Or.inl rfl) dX7_init_54 ?_
  refine lv_iload hx hb dX7_init_57 (lv_at hl 0 rfl) ?_
  refine zk_new F Z hz0 rfl zC8 (zs_pth (i := 10) (j := 0) (by decide) (by decide)) (by decide +kernel) zq455 zq213 zq81 (Nat.le_of_ble_eq_true rfl) (Nat.le_of_ble_eq_true rfl) dX7_init_59 (fun _ Z => ?_)
  have Z : zhc D A0 σ (zPu (zPu (zPu P 79 (some [2, 1, 0, 12, 3])) 80 (some [9, 8, 7, 6, 5, 4, 3, 2, 1, 0])) 185 (some [])) 186 s.heap _ _ := Z
  refine W.widen (k := 106) (n := 28721) (Nat.le_of_ble_eq_true rfl) (Nat.le_of_ble_eq_true rfl) ?_
  refine lv_dup hx hb dX7_init_62 rfl ?_
  refine zsized fun hle => ?_
  refine zc_vm Z.1 (zr_IN F Z.1 (a := 185) (zsz Z.1 hz0 rfl hle) (As := []) (zci_State l D A0 σ (zPu (zPu P 79 (some [2, 1, 0, 12, 3])) 80 (some [9, 8, 7, 6, 5, 4, 3, 2, 1, 0])) 185 (Or.inr (Or.inr (Or.inr ⟨10, by decide, rfl⟩))) (by simp [zPu]; try exact hPn _ (by decide)) Z.2) zBI_State (by decide) rfl ⟨⟨rfl, rfl⟩, Nat.le_of_ble_eq_true rfl, Nat.le_of_ble_eq_true rfl⟩ hl.1 rfl (Nat.le_of_ble_eq_true rfl) dX7_init_63 ⟨Nat.le_of_ble_eq_true rfl, Nat.le_of_ble_eq_true rfl⟩) (fun _ _ Z1 => ?_)
  have Z : zhc D A0 σ (zPu (zPu P 79 (some [2, 1, 0, 12, 3])) 80 (some [9, 8, 7, 6, 5, 4, 3, 2, 1, 0])) 195 s.heap _ _ := ⟨Z1, fun a9 ha9 => Z.2 a9 (Nat.le_trans (by decide) ha9)⟩
  refine W.widen (k := 115) (n := 28793) (Nat.le_of_ble_eq_true rfl) (Nat.le_of_ble_eq_true rfl) ?_
  refine zk_aast F Z (ty := 4) (N := 61) (P1 := (zPu (zPu P 79 (some [2, 1, 0, 12, 3])) 80 (some [10, 9, 8, 7, 6, 5, 4, 3, 2, 1, 0]))) (ks := [9, 8, 7, 6, 5, 4, 3, 2, 1, 0]) (by decide) zs_80 (by decide) rfl (by decide) (zs_pth (i := 10) (j := 0) (by decide) (by decide)) zC8 (by decide) (by unfold GF; rfl) (by simp [zPu]) (by simp [zPu]; rfl) (fun c9 hc9 => by simp [zPu, hc9]) dX7_init_66 (fun _ _ Z => ?_)
  refine lv_iinc (v := 11) (lv' := [(4, .int 11), (0, .ref (A0 + 79)), (1, .ref (A0 + 3)), (2, .ref (A0 + 37)), (3, .ref (A0 + 27))]) hx hb dX7_init_67 hl (k := 0) rfl (by decide) (by decide) rfl (fun ls hl => ?_)
  refine lv_goto (tgt := 43) hx hb dX7_init_70 (by decide) ?_
  refine lv_iload hx hb dX7_init_43 (lv_at hl 0 rfl) ?_
  refine lv_aload_n hx hb dX7_init_45 rfl (lv_at hl 1 rfl) ?_
  refine zw_getR F Z.1 zC7 (a := 79) (k := 3) (by decide) zs_79 (by decide) rfl (b := 80) (by rw [zGx_p (ks := [2, 1, 0, 12, 3]) (by decide) (by simp [zPu])]; exact (if_pos (by decide)).trans zg_79_3) zq463 (Or.inl rfl) dX7_init_46 ?_
  refine zw_alen F Z.1 (ty := 4) (v := 61) (by decide) zs_80 rfl rfl dX7_init_49 ?_
  refine lv_icmp_ge (tgt := 73) hx hb dX7_init_50 (by decide) (fun q => absurd q (by decide)) (fun _ => ?_)
  refine lv_aload_n hx hb dX7_init_53 rfl (lv_at hl 1 rfl) ?_
  refine zw_getR F Z.1 zC7 (a := 79) (k := 3) (by decide) zs_79 (by decide) rfl (b := 80) (by rw [zGx_p (ks := [2, 1, 0, 12, 3]) (by decide) (by simp [zPu])]; exact (if_pos (by decide)).trans zg_79_3) zq463 (Or.inl rfl) dX7_init_54 ?_
  refine lv_iload hx hb dX7_init_57 (lv_at hl 0 rfl) ?_
  refine zk_new F Z hz0 rfl zC8 (zs_pth (i := 11) (j := 0) (by decide) (by decide)) (by decide +kernel) zq455 zq213 zq81 (Nat.le_of_ble_eq_true rfl) (Nat.le_of_ble_eq_true rfl) dX7_init_59 (fun _ Z => ?_)
  have Z : zhc D A0 σ (zPu (zPu (zPu P 79 (some [2, 1, 0, 12, 3])) 80 (some [10, 9, 8, 7, 6, 5, 4, 3, 2, 1, 0])) 195 (some [])) 196 s.heap _ _ := Z
  refine W.widen (k := 116) (n := 28807) (Nat.le_of_ble_eq_true rfl) (Nat.le_of_ble_eq_true rfl) ?_
  refine lv_dup hx hb dX7_init_62 rfl ?_
  refine zsized fun hle => ?_
  refine zc_vm Z.1 (zr_IN F Z.1 (a := 195) (zsz Z.1 hz0 rfl hle) (As := []) (zci_State l D A0 σ (zPu (zPu P 79 (some [2, 1, 0, 12, 3])) 80 (some [10, 9, 8, 7, 6, 5, 4, 3, 2, 1, 0])) 195 (Or.inr (Or.inr (Or.inr ⟨11, by decide, rfl⟩))) (by simp [zPu]; try exact hPn _ (by decide)) Z.2) zBI_State (by decide) rfl ⟨⟨rfl, rfl⟩, Nat.le_of_ble_eq_true rfl, Nat.le_of_ble_eq_true rfl⟩ hl.1 rfl (Nat.le_of_ble_eq_true rfl) dX7_init_63 ⟨Nat.le_of_ble_eq_true rfl, Nat.le_of_ble_eq_true rfl⟩) (fun _ _ Z1 => ?_)
  have Z : zhc D A0 σ (zPu (zPu P 79 (some [2, 1, 0, 12, 3])) 80 (some [10, 9, 8, 7, 6, 5, 4, 3, 2, 1, 0])) 205 s.heap _ _ := ⟨Z1, fun a9 ha9 => Z.2 a9 (Nat.le_trans (by decide) ha9)⟩
  refine W.widen (k := 125) (n := 28879) (Nat.le_of_ble_eq_true rfl) (Nat.le_of_ble_eq_true rfl) ?_
  refine zk_aast F Z (ty := 4) (N := 61) (P1 := (zPu (zPu P 79 (some [2, 1, 0, 12, 3])) 80 (some [11, 10, 9, 8, 7, 6, 5, 4, 3, 2, 1, 0]))) (ks := [10, 9, 8, 7, 6, 5, 4, 3, 2, 1, 0]) (by decide) zs_80 (by decide) rfl (by decide) (zs_pth (i := 11) (j := 0) (by decide) (by decide)) zC8 (by decide) (by unfold GF; rfl) (by simp [zPu]) (by simp [zPu]; rfl) (fun c9 hc9 => by simp [zPu, hc9]) dX7_init_66 (fun _ _ Z => ?_)
  refine lv_iinc (v := 12) (lv' := [(4, .int 12), (0, .ref (A0 + 79)), (1, .ref (A0 + 3)), (2, .ref (A0 + 37)), (3, .ref (A0 + 27))]) hx hb dX7_init_67 hl (k := 0) rfl (by decide) (by decide) rfl (fun ls hl => ?_)
  refine lv_goto (tgt := 43) hx hb dX7_init_70 (by decide) ?_
  refine lv_iload hx hb dX7_init_43 (lv_at hl 0 rfl) ?_
  refine lv_aload_n hx hb dX7_init_45 rfl (lv_at hl 1 rfl) ?_
  refine zw_getR F Z.1 zC7 (a := 79) (k := 3) (by decide) zs_79 (by decide) rfl (b := 80) (by rw [zGx_p (ks := [2, 1, 0, 12, 3]) (by decide) (by simp [zPu])]; exact (if_pos (by decide)).trans zg_79_3) zq463 (Or.inl rfl) dX7_init_46 ?_
  refine zw_alen F Z.1 (ty := 4) (v := 61) (by decide) zs_80 rfl rfl dX7_init_49 ?_
  refine lv_icmp_ge (tgt := 73) hx hb dX7_init_50 (by decide) (fun q => absurd q (by decide)) (fun _ => ?_)
  refine lv_aload_n hx hb dX7_init_53 rfl (lv_at hl 1 rfl) ?_
  refine zw_getR F Z.1 zC7 (a := 79) (k := 3) (by decide) zs_79 (by decide) rfl (b := 80) (by rw [zGx_p (ks := [2, 1, 0, 12, 3]) (by decide) (by simp [zPu])]; exact (if_pos (by decide)).trans zg_79_3) zq463 (Or.inl rfl) dX7_init_54 ?_
  refine lv_iload hx hb dX7_init_57 (lv_at hl 0 rfl) ?_
  refine zk_new F Z hz0 rfl zC8 (zs_pth (i := 12) (j := 0) (by decide) (by decide)) (by decide +kernel) zq455 zq213 zq81 (Nat.le_of_ble_eq_true rfl) (Nat.le_of_ble_eq_true rfl) dX7_init_59 (fun _ Z => ?_)
  have Z : zhc D A0 σ (zPu (zPu (zPu P 79 (some [2, 1, 0, 12, 3])) 80 (some [11, 10, 9, 8, 7, 6, 5, 4, 3, 2, 1, 0])) 205 (some [])) 206 s.heap _ _ := Z
  refine W.widen (k := 126) (n := 28893) (Nat.le_of_ble_eq_true rfl) (Nat.le_of_ble_eq_true rfl) ?_
  refine lv_dup hx hb dX7_init_62 rfl ?_
  refine zsized fun hle => ?_
  refine zc_vm Z.1 (zr_IN F Z.1 (a := 205) (zsz Z.1 hz0 rfl hle) (As := []) (zci_State l D A0 σ (zPu (zPu P 79 (some [2, 1, 0, 12, 3])) 80 (some [11, 10, 9, 8, 7, 6, 5, 4, 3, 2, 1, 0])) 205 (Or.inr (Or.inr (Or.inr ⟨12, by decide, rfl⟩))) (by simp [zPu]; try exact hPn _ (by decide)) Z.2) zBI_State (by decide) rfl ⟨⟨rfl, rfl⟩, Nat.le_of_ble_eq_true rfl, Nat.le_of_ble_eq_true rfl⟩ hl.1 rfl (Nat.le_of_ble_eq_true rfl) dX7_init_63 ⟨Nat.le_of_ble_eq_true rfl, Nat.le_of_ble_eq_true rfl⟩) (fun _ _ Z1 => ?_)
  have Z : zhc D A0 σ (zPu (zPu P 79 (some [2, 1, 0, 12, 3])) 80 (some [11, 10, 9, 8, 7, 6, 5, 4, 3, 2, 1, 0])) 215 s.heap _ _ := ⟨Z1, fun a9 ha9 => Z.2 a9 (Nat.le_trans (by decide) ha9)⟩
  refine W.widen (k := 135) (n := 28965) (Nat.le_of_ble_eq_true rfl) (Nat.le_of_ble_eq_true rfl) ?_
  refine zk_aast F Z (ty := 4) (N := 61) (P1 := (zPu (zPu P 79 (some [2, 1, 0, 12, 3])) 80 (some [12, 11, 10, 9, 8, 7, 6, 5, 4, 3, 2, 1, 0]))) (ks := [11, 10, 9, 8, 7, 6, 5, 4, 3, 2, 1, 0]) (by decide) zs_80 (by decide) rfl (by decide) (zs_pth (i := 12) (j := 0) (by decide) (by decide)) zC8 (by decide) (by unfold GF; rfl) (by simp [zPu]) (by simp [zPu]; rfl) (fun c9 hc9 => by simp [zPu, hc9]) dX7_init_66 (fun _ _ Z => ?_)
  refine lv_iinc (v := 13) (lv' := [(4, .int 13), (0, .ref (A0 + 79)), (1, .ref (A0 + 3)), (2, .ref (A0 + 37)), (3, .ref (A0 + 27))]) hx hb dX7_init_67 hl (k := 0) rfl (by decide) (by decide) rfl (fun ls hl => ?_)
  refine lv_goto (tgt := 43) hx hb dX7_init_70 (by decide) ?_
  refine lv_iload hx hb dX7_init_43 (lv_at hl 0 rfl) ?_
  refine lv_aload_n hx hb dX7_init_45 rfl (lv_at hl 1 rfl) ?_
  refine zw_getR F Z.1 zC7 (a := 79) (k := 3) (by decide) zs_79 (by decide) rfl (b := 80) (by rw [zGx_p (ks := [2, 1, 0, 12, 3]) (by decide) (by simp [zPu])]; exact (if_pos (by decide)).trans zg_79_3) zq463 (Or.inl rfl) dX7_init_46 ?_
  refine zw_alen F Z.1 (ty := 4) (v := 61) (by decide) zs_80 rfl rfl dX7_init_49 ?_
  refine lv_icmp_ge (tgt := 73) hx hb dX7_init_50 (by decide) (fun q => absurd q (by decide)) (fun _ => ?_)
  refine lv_aload_n hx hb dX7_init_53 rfl (lv_at hl 1 rfl) ?_
  refine zw_getR F Z.1 zC7 (a := 79) (k := 3) (by decide) zs_79 (by decide) rfl (b := 80) (by rw [zGx_p (ks := [2, 1, 0, 12, 3]) (by decide) (by simp [zPu])]; exact (if_pos (by decide)).trans zg_79_3) zq463 (Or.inl rfl) dX7_init_54 ?_
  refine lv_iload hx hb dX7_init_57 (lv_at hl 0 rfl) ?_
  refine zk_new F Z hz0 rfl zC8 (zs_pth (i := 13) (j := 0) (by decide) (by decide)) (by decide +kernel) zq455 zq213 zq81 (Nat.le_of_ble_eq_true rfl) (Nat.le_of_ble_eq_true rfl) dX7_init_59 (fun _ Z => ?_)
  have Z : zhc D A0 σ (zPu (zPu (zPu P 79 (some [2, 1, 0, 12, 3])) 80 (some [12, 11, 10, 9, 8, 7, 6, 5, 4, 3, 2, 1, 0])) 215 (some [])) 216 s.heap _ _ := Z
  refine W.widen (k := 136) (n := 28979) (Nat.le_of_ble_eq_true rfl) (Nat.le_of_ble_eq_true rfl) ?_
  refine lv_dup hx hb dX7_init_62 rfl ?_
  refine zsized fun hle => ?_
  refine zc_vm Z.1 (zr_IN F Z.1 (a := 215) (zsz Z.1 hz0 rfl hle) (As := []) (zci_State l D A0 σ (zPu (zPu P 79 (some [2, 1, 0, 12, 3])) 80 (some [12, 11, 10, 9, 8, 7, 6, 5, 4, 3, 2, 1, 0])) 215 (Or.inr (Or.inr (Or.inr ⟨13, by decide, rfl⟩))) (by simp [zPu]; try exact hPn _ (by decide)) Z.2) zBI_State (by decide) rfl ⟨⟨rfl, rfl⟩, Nat.le_of_ble_eq_true rfl, Nat.le_of_ble_eq_true rfl⟩ hl.1 rfl (Nat.le_of_ble_eq_true rfl) dX7_init_63 ⟨Nat.le_of_ble_eq_true rfl, Nat.le_of_ble_eq_true rfl⟩) (fun _ _ Z1 => ?_)
  have Z : zhc D A0 σ (zPu (zPu P 79 (some [2, 1, 0, 12, 3])) 80 (some [12, 11, 10, 9, 8, 7, 6, 5, 4, 3, 2, 1, 0])) 225 s.heap _ _ := ⟨Z1, fun a9 ha9 => Z.2 a9 (Nat.le_trans (by decide) ha9)⟩
  refine W.widen (k := 145) (n := 29051) (Nat.le_of_ble_eq_true rfl) (Nat.le_of_ble_eq_true rfl) ?_
  refine zk_aast F Z (ty := 4) (N := 61) (P1 := (zPu (zPu P 79 (some [2, 1, 0, 12, 3])) 80 (some [13, 12, 11, 10, 9, 8, 7, 6, 5, 4, 3, 2, 1, 0]))) (ks := [12, 11, 10, 9, 8, 7, 6, 5, 4, 3, 2, 1, 0]) (by decide) zs_80 (by decide) rfl (by decide) (zs_pth (i := 13) (j := 0) (by decide) (by decide)) zC8 (by decide) (by unfold GF; rfl) (by simp [zPu]) (by simp [zPu]; rfl) (fun c9 hc9 => by simp [zPu, hc9]) dX7_init_66 (fun _ _ Z => ?_)
  refine lv_iinc (v := 14) (lv' := [(4, .int 14), (0, .ref (A0 + 79)), (1, .ref (A0 + 3)), (2, .ref (A0 + 37)), (3, .ref (A0 + 27))]) hx hb dX7_init_67 hl (k := 0) rfl (by decide) (by decide) rfl (fun ls hl => ?_)
  refine lv_goto (tgt := 43) hx hb dX7_init_70 (by decide) ?_
  refine lv_iload hx hb dX7_init_43 (lv_at hl 0 rfl) ?_
  refine lv_aload_n hx hb dX7_init_45 rfl (lv_at hl 1 rfl) ?_
  refine zw_getR F Z.1 zC7 (a := 79) (k := 3) (by decide) zs_79 (by decide) rfl (b := 80) (by rw [zGx_p (ks := [2, 1, 0, 12, 3]) (by decide) (by simp [zPu])]; exact (if_pos (by decide)).trans zg_79_3) zq463 (Or.inl rfl) dX7_init_46 ?_
  refine zw_alen F Z.1 (ty := 4) (v := 61) (by decide) zs_80 rfl rfl dX7_init_49 ?_
  refine lv_icmp_ge (tgt := 73) hx hb dX7_init_50 (by decide) (fun q => absurd q (by decide)) (fun _ => ?_)
  refine lv_aload_n hx hb dX7_init_53 rfl (lv_at hl 1 rfl) ?_
  refine zw_getR F Z.1 zC7 (a := 79) (k := 3) (by decide) zs_79 (by decide) rfl (b := 80) (by rw [zGx_p (ks := [2, 1, 0, 12, 3]) (by decide) (by simp [zPu])]; exact (if_pos (by decide)).trans zg_79_3) zq463 (Or.inl rfl) dX7_init_54 ?_
  refine lv_iload hx hb dX7_init_57 (lv_at hl 0 rfl) ?_
  refine zk_new F Z hz0 rfl zC8 (zs_pth (i := 14) (j := 0) (by decide) (by decide)) (by decide +kernel) zq455 zq213 zq81 (Nat.le_of_ble_eq_true rfl) (Nat.le_of_ble_eq_true rfl) dX7_init_59 (fun _ Z => ?_)
  have Z : zhc D A0 σ (zPu (zPu (zPu P 79 (some [2, 1, 0, 12, 3])) 80 (some [13, 12, 11, 10, 9, 8, 7, 6, 5, 4, 3, 2, 1, 0])) 225 (some [])) 226 s.heap _ _ := Z
  refine W.widen (k := 146) (n := 29065) (Nat.le_of_ble_eq_true rfl) (Nat.le_of_ble_eq_true rfl) ?_
  refine lv_dup hx hb dX7_init_62 rfl ?_
  refine zsized fun hle => ?_
  refine zc_vm Z.1 (zr_IN F Z.1 (a := 225) (zsz Z.1 hz0 rfl hle) (As := []) (zci_State l D A0 σ (zPu (zPu P 79 (some [2, 1, 0, 12, 3])) 80 (some [13, 12, 11, 10, 9, 8, 7, 6, 5, 4, 3, 2, 1, 0])) 225 (Or.inr (Or.inr (Or.inr ⟨14, by decide, rfl⟩))) (by simp [zPu]; try exact hPn _ (by decide)) Z.2) zBI_State (by decide) rfl ⟨⟨rfl, rfl⟩, Nat.le_of_ble_eq_true rfl, Nat.le_of_ble_eq_true rfl⟩ hl.1 rfl (Nat.le_of_ble_eq_true rfl) dX7_init_63 ⟨Nat.le_of_ble_eq_true rfl, Nat.le_of_ble_eq_true rfl⟩) (fun _ _ Z1 => ?_)
  have Z : zhc D A0 σ (zPu (zPu P 79 (some [2, 1, 0, 12, 3])) 80 (some [13, 12, 11, 10, 9, 8, 7, 6, 5, 4, 3, 2, 1, 0])) 235 s.heap _ _ := ⟨Z1, fun a9 ha9 => Z.2 a9 (Nat.le_trans (by decide) ha9)⟩
  refine W.widen (k := 155) (n := 29137) (Nat.le_of_ble_eq_true rfl) (Nat.le_of_ble_eq_true rfl) ?_
  refine zk_aast F Z (ty := 4) (N := 61) (P1 := (zPu (zPu P 79 (some [2, 1, 0, 12, 3])) 80 (some [14, 13, 12, 11, 10, 9, 8, 7, 6, 5, 4, 3, 2, 1, 0]))) (ks := [13, 12, 11, 10, 9, 8, 7, 6, 5, 4, 3, 2, 1, 0]) (by decide) zs_80 (by decide) rfl (by decide) (zs_pth (i := 14) (j := 0) (by decide) (by decide)) zC8 (by decide) (by unfold GF; rfl) (by simp [zPu]) (by simp [zPu]; rfl) (fun c9 hc9 => by simp [zPu, hc9]) dX7_init_66 (fun _ _ Z => ?_)
  refine lv_iinc (v := 15) (lv' := [(4, .int 15), (0, .ref (A0 + 79)), (1, .ref (A0 + 3)), (2, .ref (A0 + 37)), (3, .ref (A0 + 27))]) hx hb dX7_init_67 hl (k := 0) rfl (by decide) (by decide) rfl (fun ls hl => ?_)
  refine lv_goto (tgt := 43) hx hb dX7_init_70 (by decide) ?_
  refine lv_iload hx hb dX7_init_43 (lv_at hl 0 rfl) ?_
  refine lv_aload_n hx hb dX7_init_45 rfl (lv_at hl 1 rfl) ?_
  refine zw_getR F Z.1 zC7 (a := 79) (k := 3) (by decide) zs_79 (by decide) rfl (b := 80) (by rw [zGx_p (ks := [2, 1, 0, 12, 3]) (by decide) (by simp [zPu])]; exact (if_pos (by decide)).trans zg_79_3) zq463 (Or.inl rfl) dX7_init_46 ?_
  refine zw_alen F Z.1 (ty := 4) (v := 61) (by decide) zs_80 rfl rfl dX7_init_49 ?_
  refine lv_icmp_ge (tgt := 73) hx hb dX7_init_50 (by decide) (fun q => absurd q (by decide)) (fun _ => ?_)
  refine lv_aload_n hx hb dX7_init_53 rfl (lv_at hl 1 rfl) ?_
  refine zw_getR F Z.1 zC7 (a := 79) (k := 3) (by decide) zs_79 (by decide) rfl (b := 80) (by rw [zGx_p (ks := [2, 1, 0, 12, 3]) (by decide) (by simp [zPu])]; exact (if_pos (by decide)).trans zg_79_3) zq463 (Or.inl rfl) dX7_init_54 ?_
  refine lv_iload hx hb dX7_init_57 (lv_at hl 0 rfl) ?_
  refine zk_new F Z hz0 rfl zC8 (zs_pth (i := 15) (j := 0) (by decide) (by decide)) (by decide +kernel) zq455 zq213 zq81 (Nat.le_of_ble_eq_true rfl) (Nat.le_of_ble_eq_true rfl) dX7_init_59 (fun _ Z => ?_)
  have Z : zhc D A0 σ (zPu (zPu (zPu P 79 (some [2, 1, 0, 12, 3])) 80 (some [14, 13, 12, 11, 10, 9, 8, 7, 6, 5, 4, 3, 2, 1, 0])) 235 (some [])) 236 s.heap _ _ := Z
  refine W.widen (k := 156) (n := 29151) (Nat.le_of_ble_eq_true rfl) (Nat.le_of_ble_eq_true rfl) ?_
  refine lv_dup hx hb dX7_init_62 rfl ?_
  refine zsized fun hle => ?_
  refine zc_vm Z.1 (zr_IN F Z.1 (a := 235) (zsz Z.1 hz0 rfl hle) (As := []) (zci_State l D A0 σ (zPu (zPu P 79 (some [2, 1, 0, 12, 3])) 80 (some [14, 13, 12, 11, 10, 9, 8, 7, 6, 5, 4, 3, 2, 1, 0])) 235 (Or.inr (Or.inr (Or.inr ⟨15, by decide, rfl⟩))) (by simp [zPu]; try exact hPn _ (by decide)) Z.2) zBI_State (by decide) rfl ⟨⟨rfl, rfl⟩, Nat.le_of_ble_eq_true rfl, Nat.le_of_ble_eq_true rfl⟩ hl.1 rfl (Nat.le_of_ble_eq_true rfl) dX7_init_63 ⟨Nat.le_of_ble_eq_true rfl, Nat.le_of_ble_eq_true rfl⟩) (fun _ _ Z1 => ?_)
  have Z : zhc D A0 σ (zPu (zPu P 79 (some [2, 1, 0, 12, 3])) 80 (some [14, 13, 12, 11, 10, 9, 8, 7, 6, 5, 4, 3, 2, 1, 0])) 245 s.heap _ _ := ⟨Z1, fun a9 ha9 => Z.2 a9 (Nat.le_trans (by decide) ha9)⟩
  refine W.widen (k := 165) (n := 29223) (Nat.le_of_ble_eq_true rfl) (Nat.le_of_ble_eq_true rfl) ?_
  refine zk_aast F Z (ty := 4) (N := 61) (P1 := (zPu (zPu P 79 (some [2, 1, 0, 12, 3])) 80 (some [15, 14, 13, 12, 11, 10, 9, 8, 7, 6, 5, 4, 3, 2, 1, 0]))) (ks := [14, 13, 12, 11, 10, 9, 8, 7, 6, 5, 4, 3, 2, 1, 0]) (by decide) zs_80 (by decide) rfl (by decide) (zs_pth (i := 15) (j := 0) (by decide) (by decide)) zC8 (by decide) (by unfold GF; rfl) (by simp [zPu]) (by simp [zPu]; rfl) (fun c9 hc9 => by simp [zPu, hc9]) dX7_init_66 (fun _ _ Z => ?_)
  refine lv_iinc (v := 16) (lv' := [(4, .int 16), (0, .ref (A0 + 79)), (1, .ref (A0 + 3)), (2, .ref (A0 + 37)), (3, .ref (A0 + 27))]) hx hb dX7_init_67 hl (k := 0) rfl (by decide) (by decide) rfl (fun ls hl => ?_)
  refine lv_goto (tgt := 43) hx hb dX7_init_70 (by decide) ?_
  refine lv_iload hx hb dX7_init_43 (lv_at hl 0 rfl) ?_
  refine lv_aload_n hx hb dX7_init_45 rfl (lv_at hl 1 rfl) ?_
  refine zw_getR F Z.1 zC7 (a := 79) (k := 3) (by decide) zs_79 (by decide) rfl (b := 80) (by rw [zGx_p (ks := [2, 1, 0, 12, 3]) (by decide) (by simp [zPu])]; exact (if_pos (by decide)).trans zg_79_3) zq463 (Or.inl rfl) dX7_init_46 ?_
  refine zw_alen F Z.1 (ty := 4) (v := 61) (by decide) zs_80 rfl rfl dX7_init_49 ?_
  refine lv_icmp_ge (tgt := 73) hx hb dX7_init_50 (by decide) (fun q => absurd q (by decide)) (fun _ => ?_)
  refine lv_aload_n hx hb dX7_init_53 rfl (lv_at hl 1 rfl) ?_
  refine zw_getR F Z.1 zC7 (a := 79) (k := 3) (by decide) zs_79 (by decide) rfl (b := 80) (by rw [zGx_p (ks := [2, 1, 0, 12, 3]) (by decide) (by simp [zPu])]; exact (if_pos (by decide)).trans zg_79_3) zq463 (Or.inl rfl) dX7_init_54 ?_
  refine lv_iload hx hb dX7_init_57 (lv_at hl 0 rfl) ?_
  refine zk_new F Z hz0 rfl zC8 (zs_pth (i := 16) (j := 0) (by decide) (by decide)) (by decide +kernel) zq455 zq213 zq81 (Nat.le_of_ble_eq_true rfl) (Nat.le_of_ble_eq_true rfl) dX7_init_59 (fun _ Z => ?_)
  have Z : zhc D A0 σ (zPu (zPu (zPu P 79 (some [2, 1, 0, 12, 3])) 80 (some [15, 14, 13, 12, 11, 10, 9, 8, 7, 6, 5, 4, 3, 2, 1, 0])) 245 (some [])) 246 s.heap _ _ := Z
  refine W.widen (k := 166) (n := 29237) (Nat.le_of_ble_eq_true rfl) (Nat.le_of_ble_eq_true rfl) ?_
  refine lv_dup hx hb dX7_init_62 rfl ?_
  refine zsized fun hle => ?_
  refine zc_vm Z.1 (zr_IN F Z.1 (a := 245) (zsz Z.1 hz0 rfl hle) (As := []) (zci_State l D A0 σ (zPu (zPu P 79 (some [2, 1, 0, 12, 3])) 80 (some [15, 14, 13, 12, 11, 10, 9, 8, 7, 6, 5, 4, 3, 2, 1, 0])) 245 (Or.inr (Or.inr (Or.inr ⟨16, by decide, rfl⟩))) (by simp [zPu]; try exact hPn _ (by decide)) Z.2) zBI_State (by decide) rfl ⟨⟨rfl, rfl⟩, Nat.le_of_ble_eq_true rfl, Nat.le_of_ble_eq_true rfl⟩ hl.1 rfl (Nat.le_of_ble_eq_true rfl) dX7_init_63 ⟨Nat.le_of_ble_eq_true rfl, Nat.le_of_ble_eq_true rfl⟩) (fun _ _ Z1 => ?_)
  have Z : zhc D A0 σ (zPu (zPu P 79 (some [2, 1, 0, 12, 3])) 80 (some [15, 14, 13, 12, 11, 10, 9, 8, 7, 6, 5, 4, 3, 2, 1, 0])) 255 s.heap _ _ := ⟨Z1, fun a9 ha9 => Z.2 a9 (Nat.le_trans (by decide) ha9)⟩
  refine W.widen (k := 175) (n := 29309) (Nat.le_of_ble_eq_true rfl) (Nat.le_of_ble_eq_true rfl) ?_
  refine zk_aast F Z (ty := 4) (N := 61) (P1 := (zPu (zPu P 79 (some [2, 1, 0, 12, 3])) 80 (some [16, 15, 14, 13, 12, 11, 10, 9, 8, 7, 6, 5, 4, 3, 2, 1, 0]))) (ks := [15, 14, 13, 12, 11, 10, 9, 8, 7, 6, 5, 4, 3, 2, 1, 0]) (by decide) zs_80 (by decide) rfl (by decide) (zs_pth (i := 16) (j := 0) (by decide) (by decide)) zC8 (by decide) (by unfold GF; rfl) (by simp [zPu]) (by simp [zPu]; rfl) (fun c9 hc9 => by simp [zPu, hc9]) dX7_init_66 (fun _ _ Z => ?_)
  refine lv_iinc (v := 17) (lv' := [(4, .int 17), (0, .ref (A0 + 79)), (1, .ref (A0 + 3)), (2, .ref (A0 + 37)), (3, .ref (A0 + 27))]) hx hb dX7_init_67 hl (k := 0) rfl (by decide) (by decide) rfl (fun ls hl => ?_)
  refine lv_goto (tgt := 43) hx hb dX7_init_70 (by decide) ?_
  refine lv_iload hx hb dX7_init_43 (lv_at hl 0 rfl) ?_
  refine lv_aload_n hx hb dX7_init_45 rfl (lv_at hl 1 rfl) ?_
  refine zw_getR F Z.1 zC7 (a := 79) (k := 3) (by decide) zs_79 (by decide) rfl (b := 80) (by rw [zGx_p (ks := [2, 1, 0, 12, 3]) (by decide) (by simp [zPu])]; exact (if_pos (by decide)).trans zg_79_3) zq463 (Or.inl rfl) dX7_init_46 ?_
  refine zw_alen F Z.1 (ty := 4) (v := 61) (by decide) zs_80 rfl rfl dX7_init_49 ?_
  refine lv_icmp_ge (tgt := 73) hx hb dX7_init_50 (by decide) (fun q => absurd q (by decide)) (fun _ => ?_)
  refine lv_aload_n hx hb dX7_init_53 rfl (lv_at hl 1 rfl) ?_
  refine zw_getR F Z.1 zC7 (a := 79) (k := 3) (by decide) zs_79 (by decide) rfl (b := 80) (by rw [zGx_p (ks := [2, 1, 0, 12, 3]) (by decide) (by simp [zPu])]; exact (if_pos (by decide)).trans zg_79_3) zq463 (Or.inl rfl) dX7_init_54 ?_
  refine lv_iload hx hb dX7_init_57 (lv_at hl 0 rfl) ?_
  refine zk_new F Z hz0 rfl zC8 (zs_pth (i := 17) (j := 0) (by decide) (by decide)) (by decide +kernel) zq455 zq213 zq81 (Nat.le_of_ble_eq_true rfl) (Nat.le_of_ble_eq_true rfl) dX7_init_59 (fun _ Z => ?_)
  have Z : zhc D A0 σ (zPu (zPu (zPu P 79 (some [2, 1, 0, 12, 3])) 80 (some [16, 15, 14, 13, 12, 11, 10, 9, 8, 7, 6, 5, 4, 3, 2, 1, 0])) 255 (some [])) 256 s.heap _ _ := Z
  refine W.widen (k := 176) (n := 29323) (Nat.le_of_ble_eq_true rfl) (Nat.le_of_ble_eq_true rfl) ?_
  refine lv_dup hx hb dX7_init_62 rfl ?_
  refine zsized fun hle => ?_
  refine zc_vm Z.1 (zr_IN F Z.1 (a := 255) (zsz Z.1 hz0 rfl hle) (As := []) (zci_State l D A0 σ (zPu (zPu P 79 (some [2, 1, 0, 12, 3])) 80 (some [16, 15, 14, 13, 12, 11, 10, 9, 8, 7, 6, 5, 4, 3, 2, 1, 0])) 255 (Or.inr (Or.inr (Or.inr ⟨17, by decide, rfl⟩))) (by simp [zPu]; try exact hPn _ (by decide)) Z.2) zBI_State (by decide) rfl ⟨⟨rfl, rfl⟩, Nat.le_of_ble_eq_true rfl, Nat.le_of_ble_eq_true rfl⟩ hl.1 rfl (Nat.le_of_ble_eq_true rfl) dX7_init_63 ⟨Nat.le_of_ble_eq_true rfl, Nat.le_of_ble_eq_true rfl⟩) (fun _ _ Z1 => ?_)
  have Z : zhc D A0 σ (zPu (zPu P 79 (some [2, 1, 0, 12, 3])) 80 (some [16, 15, 14, 13, 12, 11, 10, 9, 8, 7, 6, 5, 4, 3, 2, 1, 0])) 265 s.heap _ _ := ⟨Z1, fun a9 ha9 => Z.2 a9 (Nat.le_trans (by decide) ha9)⟩
  refine W.widen (k := 185) (n := 29395) (Nat.le_of_ble_eq_true rfl) (Nat.le_of_ble_eq_true rfl) ?_
  refine zk_aast F Z (ty := 4) (N := 61) (P1 := (zPu (zPu P 79 (some [2, 1, 0, 12, 3])) 80 (some [17, 16, 15, 14, 13, 12, 11, 10, 9, 8, 7, 6, 5, 4, 3, 2, 1, 0]))) (ks := [16, 15, 14, 13, 12, 11, 10, 9, 8, 7, 6, 5, 4, 3, 2, 1, 0]) (by decide) zs_80 (by decide) rfl (by decide) (zs_pth (i := 17) (j := 0) (by decide) (by decide)) zC8 (by decide) (by unfold GF; rfl) (by simp [zPu]) (by simp [zPu]; rfl) (fun c9 hc9 => by simp [zPu, hc9]) dX7_init_66 (fun _ _ Z => ?_)
  refine lv_iinc (v := 18) (lv' := [(4, .int 18), (0, .ref (A0 + 79)), (1, .ref (A0 + 3)), (2, .ref (A0 + 37)), (3, .ref (A0 + 27))]) hx hb dX7_init_67 hl (k := 0) rfl (by decide) (by decide) rfl (fun ls hl => ?_)
  refine lv_goto (tgt := 43) hx hb dX7_init_70 (by decide) ?_
  refine lv_iload hx hb dX7_init_43 (lv_at hl 0 rfl) ?_
  refine lv_aload_n hx hb dX7_init_45 rfl (lv_at hl 1 rfl) ?_
  refine zw_getR F Z.1 zC7 (a := 79) (k := 3) (by decide) zs_79 (by decide) rfl (b := 80) (by rw [zGx_p (ks := [2, 1, 0, 12, 3]) (by decide) (by simp [zPu])]; exact (if_pos (by decide)).trans zg_79_3) zq463 (Or.inl rfl) dX7_init_46 ?_
  refine zw_alen F Z.1 (ty := 4) (v := 61) (by decide) zs_80 rfl rfl dX7_init_49 ?_
  refine lv_icmp_ge (tgt := 73) hx hb dX7_init_50 (by decide) (fun q => absurd q (by decide)) (fun _ => ?_)
  refine lv_aload_n hx hb dX7_init_53 rfl (lv_at hl 1 rfl) ?_
  refine zw_getR F Z.1 zC7 (a := 79) (k := 3) (by decide) zs_79 (by decide) rfl (b := 80) (by rw [zGx_p (ks := [2, 1, 0, 12, 3]) (by decide) (by simp [zPu])]; exact (if_pos (by decide)).trans zg_79_3) zq463 (Or.inl rfl) dX7_init_54 ?_
  refine lv_iload hx hb dX7_init_57 (lv_at hl 0 rfl) ?_
  refine zk_new F Z hz0 rfl zC8 (zs_pth (i := 18) (j := 0) (by decide) (by decide)) (by decide +kernel) zq455 zq213 zq81 (Nat.le_of_ble_eq_true rfl) (Nat.le_of_ble_eq_true rfl) dX7_init_59 (fun _ Z => ?_)
  have Z : zhc D A0 σ (zPu (zPu (zPu P 79 (some [2, 1, 0, 12, 3])) 80 (some [17, 16, 15, 14, 13, 12, 11, 10, 9, 8, 7, 6, 5, 4, 3, 2, 1, 0])) 265 (some [])) 266 s.heap _ _ := Z
  refine W.widen (k := 186) (n := 29409) (Nat.le_of_ble_eq_true rfl) (Nat.le_of_ble_eq_true rfl) ?_
  refine lv_dup hx hb dX7_init_62 rfl ?_
  refine zsized fun hle => ?_
  refine zc_vm Z.1 (zr_IN F Z.1 (a := 265) (zsz Z.1 hz0 rfl hle) (As := []) (zci_State l D A0 σ (zPu (zPu P 79 (some [2, 1, 0, 12, 3])) 80 (some [17, 16, 15, 14, 13, 12, 11, 10, 9, 8, 7, 6, 5, 4, 3, 2, 1, 0])) 265 (Or.inr (Or.inr (Or.inr ⟨18, by decide, rfl⟩))) (by simp [zPu]; try exact hPn _ (by decide)) Z.2) zBI_State (by decide) rfl ⟨⟨rfl, rfl⟩, Nat.le_of_ble_eq_true rfl, Nat.le_of_ble_eq_true rfl⟩ hl.1 rfl (Nat.le_of_ble_eq_true rfl) dX7_init_63 ⟨Nat.le_of_ble_eq_true rfl, Nat.le_of_ble_eq_true rfl⟩) (fun _ _ Z1 => ?_)
  have Z : zhc D A0 σ (zPu (zPu P 79 (some [2, 1, 0, 12, 3])) 80 (some [17, 16, 15, 14, 13, 12, 11, 10, 9, 8, 7, 6, 5, 4, 3, 2, 1, 0])) 275 s.heap _ _ := ⟨Z1, fun a9 ha9 => Z.2 a9 (Nat.le_trans (by decide) ha9)⟩
  refine W.widen (k := 195) (n := 29481) (Nat.le_of_ble_eq_true rfl) (Nat.le_of_ble_eq_true rfl) ?_
  refine zk_aast F Z (ty := 4) (N := 61) (P1 := (zPu (zPu P 79 (some [2, 1, 0, 12, 3])) 80 (some [18, 17, 16, 15, 14, 13, 12, 11, 10, 9, 8, 7, 6, 5, 4, 3, 2, 1, 0]))) (ks := [17, 16, 15, 14, 13, 12, 11, 10, 9, 8, 7, 6, 5, 4, 3, 2, 1, 0]) (by decide) zs_80 (by decide) rfl (by decide) (zs_pth (i := 18) (j := 0) (by decide) (by decide)) zC8 (by decide) (by unfold GF; rfl) (by simp [zPu]) (by simp [zPu]; rfl) (fun c9 hc9 => by simp [zPu, hc9]) dX7_init_66 (fun _ _ Z => ?_)
  refine lv_iinc (v := 19) (lv' := [(4, .int 19), (0, .ref (A0 + 79)), (1, .ref (A0 + 3)), (2, .ref (A0 + 37)), (3, .ref (A0 + 27))]) hx hb dX7_init_67 hl (k := 0) rfl (by decide) (by decide) rfl (fun ls hl => ?_)
  refine lv_goto (tgt := 43) hx hb dX7_init_70 (by decide) ?_
  refine lv_iload hx hb dX7_init_43 (lv_at hl 0 rfl) ?_
  refine lv_aload_n hx hb dX7_init_45 rfl (lv_at hl 1 rfl) ?_
  refine zw_getR F Z.1 zC7 (a := 79) (k := 3) (by decide) zs_79 (by decide) rfl (b := 80) (by rw [zGx_p (ks := [2, 1, 0, 12, 3]) (by decide) (by simp [zPu])]; exact (if_pos (by decide)).trans zg_79_3) zq463 (Or.inl rfl) dX7_init_46 ?_
  refine zw_alen F Z.1 (ty := 4) (v := 61) (by decide) zs_80 rfl rfl dX7_init_49 ?_
  refine lv_icmp_ge (tgt := 73) hx hb dX7_init_50 (by decide) (fun q => absurd q (by decide)) (fun _ => ?_)
  refine lv_aload_n hx hb dX7_init_53 rfl (lv_at hl 1 rfl) ?_
  refine zw_getR F Z.1 zC7 (a := 79) (k := 3) (by decide) zs_79 (by decide) rfl (b := 80) (by rw [zGx_p (ks := [2, 1, 0, 12, 3]) (by decide) (by simp [zPu])]; exact (if_pos (by decide)).trans zg_79_3) zq463 (Or.inl rfl) dX7_init_54 ?_
  refine lv_iload hx hb dX7_init_57 (lv_at hl 0 rfl) ?_
  refine zk_new F Z hz0 rfl zC8 (zs_pth (i := 19) (j := 0) (by decide) (by decide)) (by decide +kernel) zq455 zq213 zq81 (Nat.le_of_ble_eq_true rfl) (Nat.le_of_ble_eq_true rfl) dX7_init_59 (fun _ Z => ?_)
  have Z : zhc D A0 σ (zPu (zPu (zPu P 79 (some [2, 1, 0, 12, 3])) 80 (some [18, 17, 16, 15, 14, 13, 12, 11, 10, 9, 8, 7, 6, 5, 4, 3, 2, 1, 0])) 275 (some [])) 276 s.heap _ _ := Z
  refine W.widen (k := 196) (n := 29495) (Nat.le_of_ble_eq_true rfl) (Nat.le_of_ble_eq_true rfl) ?_
  refine lv_dup hx hb dX7_init_62 rfl ?_
  refine zsized fun hle => ?_
  refine zc_vm Z.1 (zr_IN F Z.1 (a := 275) (zsz Z.1 hz0 rfl hle) (As := []) (zci_State l D A0 σ (zPu (zPu P 79 (some [2, 1, 0, 12, 3])) 80 (some [18, 17, 16, 15, 14, 13, 12, 11, 10, 9, 8, 7, 6, 5, 4, 3, 2, 1, 0])) 275 (Or.inr (Or.inr (Or.inr ⟨19, by decide, rfl⟩))) (by simp [zPu]; try exact hPn _ (by decide)) Z.2) zBI_State (by decide) rfl ⟨⟨rfl, rfl⟩, Nat.le_of_ble_eq_true rfl, Nat.le_of_ble_eq_true rfl⟩ hl.1 rfl (Nat.le_of_ble_eq_true rfl) dX7_init_63 ⟨Nat.le_of_ble_eq_true rfl, Nat.le_of_ble_eq_true rfl⟩) (fun _ _ Z1 => ?_)
  have Z : zhc D A0 σ (zPu (zPu P 79 (some [2, 1, 0, 12, 3])) 80 (some [18, 17, 16, 15, 14, 13, 12, 11, 10, 9, 8, 7, 6, 5, 4, 3, 2, 1, 0])) 285 s.heap _ _ := ⟨Z1, fun a9 ha9 => Z.2 a9 (Nat.le_trans (by decide) ha9)⟩
  refine W.widen (k := 205) (n := 29567) (Nat.le_of_ble_eq_true rfl) (Nat.le_of_ble_eq_true rfl) ?_
  refine zk_aast F Z (ty := 4) (N := 61) (P1 := (zPu (zPu P 79 (some [2, 1, 0, 12, 3])) 80 (some [19, 18, 17, 16, 15, 14, 13, 12, 11, 10, 9, 8, 7, 6, 5, 4, 3, 2, 1, 0]))) (ks := [18, 17, 16, 15, 14, 13, 12, 11, 10, 9, 8, 7, 6, 5, 4, 3, 2, 1, 0]) (by decide) zs_80 (by decide) rfl (by decide) (zs_pth (i := 19) (j := 0) (by decide) (by decide)) zC8 (by decide) (by unfold GF; rfl) (by simp [zPu]) (by simp [zPu]; rfl) (fun c9 hc9 => by simp [zPu, hc9]) dX7_init_66 (fun _ _ Z => ?_)
  refine lv_iinc (v := 20) (lv' := [(4, .int 20), (0, .ref (A0 + 79)), (1, .ref (A0 + 3)), (2, .ref (A0 + 37)), (3, .ref (A0 + 27))]) hx hb dX7_init_67 hl (k := 0) rfl (by decide) (by decide) rfl (fun ls hl => ?_)
  refine lv_goto (tgt := 43) hx hb dX7_init_70 (by decide) ?_
  refine lv_iload hx hb dX7_init_43 (lv_at hl 0 rfl) ?_
  refine lv_aload_n hx hb dX7_init_45 rfl (lv_at hl 1 rfl) ?_
  refine zw_getR F Z.1 zC7 (a := 79) (k := 3) (by decide) zs_79 (by decide) rfl (b := 80) (by rw [zGx_p (ks := [2, 1, 0, 12, 3]) (by decide) (by simp [zPu])]; exact (if_pos (by decide)).trans zg_79_3) zq463 (Or.inl rfl) dX7_init_46 ?_
  refine zw_alen F Z.1 (ty := 4) (v := 61) (by decide) zs_80 rfl rfl dX7_init_49 ?_
  refine lv_icmp_ge (tgt := 73) hx hb dX7_init_50 (by decide) (fun q => absurd q (by decide)) (fun _ => ?_)
  refine lv_aload_n hx hb dX7_init_53 rfl (lv_at hl 1 rfl) ?_
  refine zw_getR F Z.1 zC7 (a := 79) (k := 3) (by decide) zs_79 (by decide) rfl (b := 80) (by rw [zGx_p (ks := [2, 1, 0, 12, 3]) (by decide) (by simp [zPu])]; exact (if_pos (by decide)).trans zg_79_3) zq463 (Or.inl rfl) dX7_init_54 ?_
  refine lv_iload hx hb dX7_init_57 (lv_at hl 0 rfl) ?_
  refine zk_new F Z hz0 rfl zC8 (zs_pth (i := 20) (j := 0) (by decide) (by decide)) (by decide +kernel) zq455 zq213 zq81 (Nat.le_of_ble_eq_true rfl) (Nat.le_of_ble_eq_true rfl) dX7_init_59 (fun _ Z => ?_)
  have Z : zhc D A0 σ (zPu (zPu (zPu P 79 (some [2, 1, 0, 12, 3])) 80 (some [19, 18, 17, 16, 15, 14, 13, 12, 11, 10, 9, 8, 7, 6, 5, 4, 3, 2, 1, 0])) 285 (some [])) 286 s.heap _ _ := Z
  refine W.widen (k := 206) (n := 29581) (Nat.le_of_ble_eq_true rfl) (Nat.le_of_ble_eq_true rfl) ?_
  refine lv_dup hx hb dX7_init_62 rfl ?_
  refine zsized fun hle => ?_
  refine zc_vm Z.1 (zr_IN F Z.1 (a := 285) (zsz Z.1 hz0 rfl hle) (As := []) (zci_State l D A0 σ (zPu (zPu P 79 (some [2, 1, 0, 12, 3])) 80 (some [19, 18, 17, 16, 15, 14, 13, 12, 11, 10, 9, 8, 7, 6, 5, 4, 3, 2, 1, 0])) 285 (Or.inr (Or.inr (Or.inr ⟨20, by decide, rfl⟩))) (by simp [zPu]; try exact hPn _ (by decide)) Z.2) zBI_State (by decide) rfl ⟨⟨rfl, rfl⟩, Nat.le_of_ble_eq_true rfl, Nat.le_of_ble_eq_true rfl⟩ hl.1 rfl (Nat.le_of_ble_eq_true rfl) dX7_init_63 ⟨Nat.le_of_ble_eq_true rfl, Nat.le_of_ble_eq_true rfl⟩) (fun _ _ Z1 => ?_)
  have Z : zhc D A0 σ (zPu (zPu P 79 (some [2, 1, 0, 12, 3])) 80 (some [19, 18, 17, 16, 15, 14, 13, 12, 11, 10, 9, 8, 7, 6, 5, 4, 3, 2, 1, 0])) 295 s.heap _ _ := ⟨Z1, fun a9 ha9 => Z.2 a9 (Nat.le_trans (by decide) ha9)⟩
  refine W.widen (k := 215) (n := 29653) (Nat.le_of_ble_eq_true rfl) (Nat.le_of_ble_eq_true rfl) ?_
  refine zk_aast F Z (ty := 4) (N := 61) (P1 := (zPu (zPu P 79 (some [2, 1, 0, 12, 3])) 80 (some [20, 19, 18, 17, 16, 15, 14, 13, 12, 11, 10, 9, 8, 7, 6, 5, 4, 3, 2, 1, 0]))) (ks := [19, 18, 17, 16, 15, 14, 13, 12, 11, 10, 9, 8, 7, 6, 5, 4, 3, 2, 1, 0]) (by decide) zs_80 (by decide) rfl (by decide) (zs_pth (i := 20) (j := 0) (by decide) (by decide)) zC8 (by decide) (by unfold GF; rfl) (by simp [zPu]) (by simp [zPu]; rfl) (fun c9 hc9 => by simp [zPu, hc9]) dX7_init_66 (fun _ _ Z => ?_)
  refine lv_iinc (v := 21) (lv' := [(4, .int 21), (0, .ref (A0 + 79)), (1, .ref (A0 + 3)), (2, .ref (A0 + 37)), (3, .ref (A0 + 27))]) hx hb dX7_init_67 hl (k := 0) rfl (by decide) (by decide) rfl (fun ls hl => ?_)
  refine lv_goto (tgt := 43) hx hb dX7_init_70 (by decide) ?_
  refine lv_iload hx hb dX7_init_43 (lv_at hl 0 rfl) ?_
  refine lv_aload_n hx hb dX7_init_45 rfl (lv_at hl 1 rfl) ?_
  refine zw_getR F Z.1 zC7 (a := 79) (k := 3) (by decide) zs_79 (by decide) rfl (b := 80) (by rw [zGx_p (ks := [2, 1, 0, 12, 3]) (by decide) (by simp [zPu])]; exact (if_pos (by decide)).trans zg_79_3) zq463 (Or.inl rfl) dX7_init_46 ?_
  refine zw_alen F Z.1 (ty := 4) (v := 61) (by decide) zs_80 rfl rfl dX7_init_49 ?_
  refine lv_icmp_ge (tgt := 73) hx hb dX7_init_50 (by decide) (fun q => absurd q (by decide)) (fun _ => ?_)
  refine lv_aload_n hx hb dX7_init_53 rfl (lv_at hl 1 rfl) ?_
  refine zw_getR F Z.1 zC7 (a := 79) (k := 3) (by decide) zs_79 (by decide) rfl (b := 80) (by rw [zGx_p (ks := [2, 1, 0, 12, 3]) (by decide) (by simp [zPu])]; exact (if_pos (by decide)).trans zg_79_3) zq463 (Or.inl rfl) dX7_init_54 ?_
  refine lv_iload hx hb dX7_init_57 (lv_at hl 0 rfl) ?_
  refine zk_new F Z hz0 rfl zC8 (zs_pth (i := 21) (j := 0) (by decide) (by decide)) (by decide +kernel) zq455 zq213 zq81 (Nat.le_of_ble_eq_true rfl) (Nat.le_of_ble_eq_true rfl) dX7_init_59 (fun _ Z => ?_)
  have Z : zhc D A0 σ (zPu (zPu (zPu P 79 (some [2, 1, 0, 12, 3])) 80 (some [20, 19, 18, 17, 16, 15, 14, 13, 12, 11, 10, 9, 8, 7, 6, 5, 4, 3, 2, 1, 0])) 295 (some [])) 296 s.heap _ _ := Z
  refine W.widen (k := 216) (n := 29667) (Nat.le_of_ble_eq_true rfl) (Nat.le_of_ble_eq_true rfl) ?_
  refine lv_dup hx hb dX7_init_62 rfl ?_
  refine zsized fun hle => ?_
  refine zc_vm Z.1 (zr_IN F Z.1 (a := 295) (zsz Z.1 hz0 rfl hle) (As := []) (zci_State l D A0 σ (zPu (zPu P 79 (some [2, 1, 0, 12, 3])) 80 (some [20, 19, 18, 17, 16, 15, 14, 13, 12, 11, 10, 9, 8, 7, 6, 5, 4, 3, 2, 1, 0])) 295 (Or.inr (Or.inr (Or.inr ⟨21, by decide, rfl⟩))) (by simp [zPu]; try exact hPn _ (by decide)) Z.2) zBI_State (by decide) rfl ⟨⟨rfl, rfl⟩, Nat.le_of_ble_eq_true rfl, Nat.le_of_ble_eq_true rfl⟩ hl.1 rfl (Nat.le_of_ble_eq_true rfl) dX7_init_63 ⟨Nat.le_of_ble_eq_true rfl, Nat.le_of_ble_eq_true rfl⟩) (fun _ _ Z1 => ?_)
  have Z : zhc D A0 σ (zPu (zPu P 79 (some [2, 1, 0, 12, 3])) 80 (some [20, 19, 18, 17, 16, 15, 14, 13, 12, 11, 10, 9, 8, 7, 6, 5, 4, 3, 2, 1, 0])) 305 s.heap _ _ := ⟨Z1, fun a9 ha9 => Z.2 a9 (Nat.le_trans (by decide) ha9)⟩
  refine W.widen (k := 225) (n := 29739) (Nat.le_of_ble_eq_true rfl) (Nat.le_of_ble_eq_true rfl) ?_
  refine zk_aast F Z (ty := 4) (N := 61) (P1 := (zPu (zPu P 79 (some [2, 1, 0, 12, 3])) 80 (some [21, 20, 19, 18, 17, 16, 15, 14, 13, 12, 11, 10, 9, 8, 7, 6, 5, 4, 3, 2, 1, 0]))) (ks := [20, 19, 18, 17, 16, 15, 14, 13, 12, 11, 10, 9, 8, 7, 6, 5, 4, 3, 2, 1, 0]) (by decide) zs_80 (by decide) rfl (by decide) (zs_pth (i := 21) (j := 0) (by decide) (by decide)) zC8 (by decide) (by unfold GF; rfl) (by simp [zPu]) (by simp [zPu]; rfl) (fun c9 hc9 => by simp [zPu, hc9]) dX7_init_66 (fun _ _ Z => ?_)
  refine lv_iinc (v := 22) (lv' := [(4, .int 22), (0, .ref (A0 + 79)), (1, .ref (A0 + 3)), (2, .ref (A0 + 37)), (3, .ref (A0 + 27))]) hx hb dX7_init_67 hl (k := 0) rfl (by decide) (by decide) rfl (fun ls hl => ?_)
  refine lv_goto (tgt := 43) hx hb dX7_init_70 (by decide) ?_
  refine lv_iload hx hb dX7_init_43 (lv_at hl 0 rfl) ?_
  refine lv_aload_n hx hb dX7_init_45 rfl (lv_at hl 1 rfl) ?_
  refine zw_getR F Z.1 zC7 (a := 79) (k := 3) (by decide) zs_79 (by decide) rfl (b := 80) (by rw [zGx_p (ks := [2, 1, 0, 12, 3]) (by decide) (by simp [zPu])]; exact (if_pos (by decide)).trans zg_79_3) zq463 (Or.inl rfl) dX7_init_46 ?_
  refine zw_alen F Z.1 (ty := 4) (v := 61) (by decide) zs_80 rfl rfl dX7_init_49 ?_
  refine lv_icmp_ge (tgt := 73) hx hb dX7_init_50 (by decide) (fun q => absurd q (by decide)) (fun _ => ?_)
  refine lv_aload_n hx hb dX7_init_53 rfl (lv_at hl 1 rfl) ?_
  refine zw_getR F Z.1 zC7 (a := 79) (k := 3) (by decide) zs_79 (by decide) rfl (b := 80) (by rw [zGx_p (ks := [2, 1, 0, 12, 3]) (by decide) (by simp [zPu])]; exact (if_pos (by decide)).trans zg_79_3) zq463 (Or.inl rfl) dX7_init_54 ?_
  refine lv_iload hx hb dX7_init_57 (lv_at hl 0 rfl) ?_
  refine zk_new F Z hz0 rfl zC8 (zs_pth (i := 22) (j := 0) (by decide) (by decide)) (by decide +kernel) zq455 zq213 zq81 (Nat.le_of_ble_eq_true rfl) (Nat.le_of_ble_eq_true rfl) dX7_init_59 (fun _ Z => ?_)
  have Z : zhc D A0 σ (zPu (zPu (zPu P 79 (some [2, 1, 0, 12, 3])) 80 (some [21, 20, 19, 18, 17, 16, 15, 14, 13, 12, 11, 10, 9, 8, 7, 6, 5, 4, 3, 2, 1, 0])) 305 (some [])) 306 s.heap _ _ := Z
  refine W.widen (k := 226) (n := 29753) (Nat.le_of_ble_eq_true rfl) (Nat.le_of_ble_eq_true rfl) ?_
  refine lv_dup hx hb dX7_init_62 rfl ?_
  refine zsized fun hle => ?_
  refine zc_vm Z.1 (zr_IN F Z.1 (a := 305) (zsz Z.1 hz0 rfl hle) (As := []) (zci_State l D A0 σ (zPu (zPu P 79 (some [2, 1, 0, 12, 3])) 80 (some [21, 20, 19, 18, 17, 16, 15, 14, 13, 12, 11, 10, 9, 8, 7, 6, 5, 4, 3, 2, 1, 0])) 305 (Or.inr (Or.inr (Or.inr ⟨22, by decide, rfl⟩))) (by simp [zPu]; try exact hPn _ (by decide)) Z.2) zBI_State (by decide) rfl ⟨⟨rfl, rfl⟩, Nat.le_of_ble_eq_true rfl, Nat.le_of_ble_eq_true rfl⟩ hl.1 rfl (Nat.le_of_ble_eq_true rfl) dX7_init_63 ⟨Nat.le_of_ble_eq_true rfl, Nat.le_of_ble_eq_true rfl⟩) (fun _ _ Z1 => ?_)
  have Z : zhc D A0 σ (zPu (zPu P 79 (some [2, 1, 0, 12, 3])) 80 (some [21, 20, 19, 18, 17, 16, 15, 14, 13, 12, 11, 10, 9, 8, 7, 6, 5, 4, 3, 2, 1, 0])) 315 s.heap _ _ := ⟨Z1, fun a9 ha9 => Z.2 a9 (Nat.le_trans (by decide) ha9)⟩
  refine W.widen (k := 235) (n := 29825) (Nat.le_of_ble_eq_true rfl) (Nat.le_of_ble_eq_true rfl) ?_
  refine zk_aast F Z (ty := 4) (N := 61) (P1 := (zPu (zPu P 79 (some [2, 1, 0, 12, 3])) 80 (some [22, 21, 20, 19, 18, 17, 16, 15, 14, 13, 12, 11, 10, 9, 8, 7, 6, 5, 4, 3, 2, 1, 0]))) (ks := [21, 20, 19, 18, 17, 16, 15, 14, 13, 12, 11, 10, 9, 8, 7, 6, 5, 4, 3, 2, 1, 0]) (by decide) zs_80 (by decide) rfl (by decide) (zs_pth (i := 22) (j := 0) (by decide) (by decide)) zC8 (by decide) (by unfold GF; rfl) (by simp [zPu]) (by simp [zPu]; rfl) (fun c9 hc9 => by simp [zPu, hc9]) dX7_init_66 (fun _ _ Z => ?_)
  refine lv_iinc (v := 23) (lv' := [(4, .int 23), (0, .ref (A0 + 79)), (1, .ref (A0 + 3)), (2, .ref (A0 + 37)), (3, .ref (A0 + 27))]) hx hb dX7_init_67 hl (k := 0) rfl (by decide) (by decide) rfl (fun ls hl => ?_)
  refine lv_goto (tgt := 43) hx hb dX7_init_70 (by decide) ?_
  refine lv_iload hx hb dX7_init_43 (lv_at hl 0 rfl) ?_
  refine lv_aload_n hx hb dX7_init_45 rfl (lv_at hl 1 rfl) ?_
  refine zw_getR F Z.1 zC7 (a := 79) (k := 3) (by decide) zs_79 (by decide) rfl (b := 80) (by rw [zGx_p (ks := [2, 1, 0, 12, 3]) (by decide) (by simp [zPu])]; exact (if_pos (by decide)).trans zg_79_3) zq463 (Or.inl rfl) dX7_init_46 ?_
  refine zw_alen F Z.1 (ty := 4) (v := 61) (by decide) zs_80 rfl rfl dX7_init_49 ?_
  refine lv_icmp_ge (tgt := 73) hx hb dX7_init_50 (by decide) (fun q => absurd q (by decide)) (fun _ => ?_)
  refine lv_aload_n hx hb dX7_init_53 rfl (lv_at hl 1 rfl) ?_
  refine zw_getR F Z.1 zC7 (a := 79) (k := 3) (by decide) zs_79 (by decide) rfl (b := 80) (by rw [zGx_p (ks := [2, 1, 0, 12, 3]) (by decide) (by simp [zPu])]; exact (if_pos (by decide)).trans zg_79_3) zq463 (Or.inl rfl) dX7_init_54 ?_
  refine lv_iload hx hb dX7_init_57 (lv_at hl 0 rfl) ?_
  refine zk_new F Z hz0 rfl zC8 (zs_pth (i := 23) (j := 0) (by decide) (by decide)) (by decide +kernel) zq455 zq213 zq81 (Nat.le_of_ble_eq_true rfl) (Nat.le_of_ble_eq_true rfl) dX7_init_59 (fun _ Z => ?_)
  have Z : zhc D A0 σ (zPu (zPu (zPu P 79 (some [2, 1, 0, 12, 3])) 80 (some [22, 21, 20, 19, 18, 17, 16, 15, 14, 13, 12, 11, 10, 9, 8, 7, 6, 5, 4, 3, 2, 1, 0])) 315 (some [])) 316 s.heap _ _ := Z
  refine W.widen (k := 236) (n := 29839) (Nat.le_of_ble_eq_true rfl) (Nat.le_of_ble_eq_true rfl) ?_
  refine lv_dup hx hb dX7_init_62 rfl ?_
  refine zsized fun hle => ?_
  refine zc_vm Z.1 (zr_IN F Z.1 (a := 315) (zsz Z.1 hz0 rfl hle) (As := []) (zci_State l D A0 σ (zPu (zPu P 79 (some [2, 1, 0, 12, 3])) 80 (some [22, 21, 20, 19, 18, 17, 16, 15, 14, 13, 12, 11, 10, 9, 8, 7, 6, 5, 4, 3, 2, 1, 0])) 315 (Or.inr (Or.inr (Or.inr ⟨23, by decide, rfl⟩))) (by simp [zPu]; try exact hPn _ (by decide)) Z.2) zBI_State (by decide) rfl ⟨⟨rfl, rfl⟩, Nat.le_of_ble_eq_true rfl, Nat.le_of_ble_eq_true rfl⟩ hl.1 rfl (Nat.le_of_ble_eq_true rfl) dX7_init_63 ⟨Nat.le_of_ble_eq_true rfl, Nat.le_of_ble_eq_true rfl⟩) (fun _ _ Z1 => ?_)
  have Z : zhc D A0 σ (zPu (zPu P 79 (some [2, 1, 0, 12, 3])) 80 (some [22, 21, 20, 19, 18, 17, 16, 15, 14, 13, 12, 11, 10, 9, 8, 7, 6, 5, 4, 3, 2, 1, 0])) 325 s.heap _ _ := ⟨Z1, fun a9 ha9 => Z.2 a9 (Nat.le_trans (by decide) ha9)⟩
  refine W.widen (k := 245) (n := 29911) (Nat.le_of_ble_eq_true rfl) (Nat.le_of_ble_eq_true rfl) ?_
  refine zk_aast F Z (ty := 4) (N := 61) (P1 := (zPu (zPu P 79 (some [2, 1, 0, 12, 3])) 80 (some [23, 22, 21, 20, 19, 18, 17, 16, 15, 14, 13, 12, 11, 10, 9, 8, 7, 6, 5, 4, 3, 2, 1, 0]))) (ks := [22, 21, 20, 19, 18, 17, 16, 15, 14, 13, 12, 11, 10, 9, 8, 7, 6, 5, 4, 3, 2, 1, 0]) (by decide) zs_80 (by decide) rfl (by decide) (zs_pth (i := 23) (j := 0) (by decide) (by decide)) zC8 (by decide) (by unfold GF; rfl) (by simp [zPu]) (by simp [zPu]; rfl) (fun c9 hc9 => by simp [zPu, hc9]) dX7_init_66 (fun _ _ Z => ?_)
  refine lv_iinc (v := 24) (lv' := [(4, .int 24), (0, .ref (A0 + 79)), (1, .ref (A0 + 3)), (2, .ref (A0 + 37)), (3, .ref (A0 + 27))]) hx hb dX7_init_67 hl (k := 0) rfl (by decide) (by decide) rfl (fun ls hl => ?_)
  refine lv_goto (tgt := 43) hx hb dX7_init_70 (by decide) ?_
  refine lv_iload hx hb dX7_init_43 (lv_at hl 0 rfl) ?_
  refine lv_aload_n hx hb dX7_init_45 rfl (lv_at hl 1 rfl) ?_
  refine zw_getR F Z.1 zC7 (a := 79) (k := 3) (by decide) zs_79 (by decide) rfl (b := 80) (by rw [zGx_p (ks := [2, 1, 0, 12, 3]) (by decide) (by simp [zPu])]; exact (if_pos (by decide)).trans zg_79_3) zq463 (Or.inl rfl) dX7_init_46 ?_
  refine zw_alen F Z.1 (ty := 4) (v := 61) (by decide) zs_80 rfl rfl dX7_init_49 ?_
  refine lv_icmp_ge (tgt := 73) hx hb dX7_init_50 (by decide) (fun q => absurd q (by decide)) (fun _ => ?_)
  refine lv_aload_n hx hb dX7_init_53 rfl (lv_at hl 1 rfl) ?_
  refine zw_getR F Z.1 zC7 (a := 79) (k := 3) (by decide) zs_79 (by decide) rfl (b := 80) (by rw [zGx_p (ks := [2, 1, 0, 12, 3]) (by decide) (by simp [zPu])]; exact (if_pos (by decide)).trans zg_79_3) zq463 (Or.inl rfl) dX7_init_54 ?_
  refine lv_iload hx hb dX7_init_57 (lv_at hl 0 rfl) ?_
  refine zk_new F Z hz0 rfl zC8 (zs_pth (i := 24) (j := 0) (by decide) (by decide)) (by decide +kernel) zq455 zq213 zq81 (Nat.le_of_ble_eq_true rfl) (Nat.le_of_ble_eq_true rfl) dX7_init_59 (fun _ Z => ?_)
  have Z : zhc D A0 σ (zPu (zPu (zPu P 79 (some [2, 1, 0, 12, 3])) 80 (some [23, 22, 21, 20, 19, 18, 17, 16, 15, 14, 13, 12, 11, 10, 9, 8, 7, 6, 5, 4, 3, 2, 1, 0])) 325 (some [])) 326 s.heap _ _ := Z
  refine W.widen (k := 246) (n := 29925) (Nat.le_of_ble_eq_true rfl) (Nat.le_of_ble_eq_true rfl) ?_
  refine lv_dup hx hb dX7_init_62 rfl ?_
  refine zsized fun hle => ?_
  refine zc_vm Z.1 (zr_IN F Z.1 (a := 325) (zsz Z.1 hz0 rfl hle) (As := []) (zci_State l D A0 σ (zPu (zPu P 79 (some [2, 1, 0, 12, 3])) 80 (some [23, 22, 21, 20, 19, 18, 17, 16, 15, 14, 13, 12, 11, 10, 9, 8, 7, 6, 5, 4, 3, 2, 1, 0])) 325 (Or.inr (Or.inr (Or.inr ⟨24, by decide, rfl⟩))) (by simp [zPu]; try exact hPn _ (by decide)) Z.2) zBI_State (by decide) rfl ⟨⟨rfl, rfl⟩, Nat.le_of_ble_eq_true rfl, Nat.le_of_ble_eq_true rfl⟩ hl.1 rfl (Nat.le_of_ble_eq_true rfl) dX7_init_63 ⟨Nat.le_of_ble_eq_true rfl, Nat.le_of_ble_eq_true rfl⟩) (fun _ _ Z1 => ?_)
  have Z : zhc D A0 σ (zPu (zPu P 79 (some [2, 1, 0, 12, 3])) 80 (some [23, 22, 21, 20, 19, 18, 17, 16, 15, 14, 13, 12, 11, 10, 9, 8, 7, 6, 5, 4, 3, 2, 1, 0])) 335 s.heap _ _ := ⟨Z1, fun a9 ha9 => Z.2 a9 (Nat.le_trans (by decide) ha9)⟩
  refine W.widen (k := 255) (n := 29997) (Nat.le_of_ble_eq_true rfl) (Nat.le_of_ble_eq_true rfl) ?_
  refine zk_aast F Z (ty := 4) (N := 61) (P1 := (zPu (zPu P 79 (some [2, 1, 0, 12, 3])) 80 (some [24, 23, 22, 21, 20, 19, 18, 17, 16, 15, 14, 13, 12, 11, 10, 9, 8, 7, 6, 5, 4, 3, 2, 1, 0]))) (ks := [23, 22, 21, 20, 19, 18, 17, 16, 15, 14, 13, 12, 11, 10, 9, 8, 7, 6, 5, 4, 3, 2, 1, 0]) (by decide) zs_80 (by decide) rfl (by decide) (zs_pth (i := 24) (j := 0) (by decide) (by decide)) zC8 (by decide) (by unfold GF; rfl) (by simp [zPu]) (by simp [zPu]; rfl) (fun c9 hc9 => by simp [zPu, hc9]) dX7_init_66 (fun _ _ Z => ?_)
  refine lv_iinc (v := 25) (lv' := [(4, .int 25), (0, .ref (A0 + 79)), (1, .ref (A0 + 3)), (2, .ref (A0 + 37)), (3, .ref (A0 + 27))]) hx hb dX7_init_67 hl (k := 0) rfl (by decide) (by decide) rfl (fun ls hl => ?_)
  refine lv_goto (tgt := 43) hx hb dX7_init_70 (by decide) ?_
  refine lv_iload hx hb dX7_init_43 (lv_at hl 0 rfl) ?_
  refine lv_aload_n hx hb dX7_init_45 rfl (lv_at hl 1 rfl) ?_
  refine zw_getR F Z.1 zC7 (a := 79) (k := 3) (by decide) zs_79 (by decide) rfl (b := 80) (by rw [zGx_p (ks := [2, 1, 0, 12, 3]) (by decide) (by simp [zPu])]; exact (if_pos (by decide)).trans zg_79_3) zq463 (Or.inl rfl) dX7_init_46 ?_
  refine zw_alen F Z.1 (ty := 4) (v := 61) (by decide) zs_80 rfl rfl dX7_init_49 ?_
  refine lv_icmp_ge (tgt := 73) hx hb dX7_init_50 (by decide) (fun q => absurd q (by decide)) (fun _ => ?_)
  refine lv_aload_n hx hb dX7_init_53 rfl (lv_at hl 1 rfl) ?_
  refine zw_getR F Z.1 zC7 (a := 79) (k := 3) (by decide) zs_79 (by decide) rfl (b := 80) (by rw [zGx_p (ks := [2, 1, 0, 12, 3]) (by decide) (by simp [zPu])]; exact (if_pos (by decide)).trans zg_79_3) zq463 (Or.inl rfl) dX7_init_54 ?_
  refine lv_iload hx hb dX7_init_57 (lv_at hl 0 rfl) ?_
  refine zk_new F Z hz0 rfl zC8 (zs_pth (i := 25) (j := 0) (by decide) (by decide)) (by decide +kernel) zq455 zq213 zq81 (Nat.le_of_ble_eq_true rfl) (Nat.le_of_ble_eq_true rfl) dX7_init_59 (fun _ Z => ?_)
  have Z : zhc D A0 σ (zPu (zPu (zPu P 79 (some [2, 1, 0, 12, 3])) 80 (some [24, 23, 22, 21, 20, 19, 18, 17, 16, 15, 14, 13, 12, 11, 10, 9, 8, 7, 6, 5, 4, 3, 2, 1, 0])) 335 (some [])) 336 s.heap _ _ := Z
  refine W.widen (k := 256) (n := 30011) (Nat.le_of_ble_eq_true rfl) (Nat.le_of_ble_eq_true rfl) ?_
  refine lv_dup hx hb dX7_init_62 rfl ?_
  refine zsized fun hle => ?_
  refine zc_vm Z.1 (zr_IN F Z.1 (a := 335) (zsz Z.1 hz0 rfl hle) (As := []) (zci_State l D A0 σ (zPu (zPu P 79 (some [2, 1, 0, 12, 3])) 80 (some [24, 23, 22, 21, 20, 19, 18, 17, 16, 15, 14, 13, 12, 11, 10, 9, 8, 7, 6, 5, 4, 3, 2, 1, 0])) 335 (Or.inr (Or.inr (Or.inr ⟨25, by decide, rfl⟩))) (by simp [zPu]; try exact hPn _ (by decide)) Z.2) zBI_State (by decide) rfl ⟨⟨rfl, rfl⟩, Nat.le_of_ble_eq_true rfl, Nat.le_of_ble_eq_true rfl⟩ hl.1 rfl (Nat.le_of_ble_eq_true rfl) dX7_init_63 ⟨Nat.le_of_ble_eq_true rfl, Nat.le_of_ble_eq_true rfl⟩) (fun _ _ Z1 => ?_)
  have Z : zhc D A0 σ (zPu (zPu P 79 (some [2, 1, 0, 12, 3])) 80 (some [24, 23, 22, 21, 20, 19, 18, 17, 16, 15, 14, 13, 12, 11, 10, 9, 8, 7, 6, 5, 4, 3, 2, 1, 0])) 345 s.heap _ _ := ⟨Z1, fun a9 ha9 => Z.2 a9 (Nat.le_trans (by decide) ha9)⟩
  refine W.widen (k := 265) (n := 30083) (Nat.le_of_ble_eq_true rfl) (Nat.le_of_ble_eq_true rfl) ?_
  refine zk_aast F Z (ty := 4) (N := 61) (P1 := (zPu (zPu P 79 (some [2, 1, 0, 12, 3])) 80 (some [25, 24, 23, 22, 21, 20, 19, 18, 17, 16, 15, 14, 13, 12, 11, 10, 9, 8, 7, 6, 5, 4, 3, 2, 1, 0]))) (ks := [24, 23, 22, 21, 20, 19, 18, 17, 16, 15, 14, 13, 12, 11, 10, 9, 8, 7, 6, 5, 4, 3, 2, 1, 0]) (by decide) zs_80 (by decide) rfl (by decide) (zs_pth (i := 25) (j := 0) (by decide) (by decide)) zC8 (by decide) (by unfold GF; rfl) (by simp [zPu]) (by simp [zPu]; rfl) (fun c9 hc9 => by simp [zPu, hc9]) dX7_init_66 (fun _ _ Z => ?_)
  refine lv_iinc (v := 26) (lv' := [(4, .int 26), (0, .ref (A0 + 79)), (1, .ref (A0 + 3)), (2, .ref (A0 + 37)), (3, .ref (A0 + 27))]) hx hb dX7_init_67 hl (k := 0) rfl (by decide) (by decide) rfl (fun ls hl => ?_)
  refine lv_goto (tgt := 43) hx hb dX7_init_70 (by decide) ?_
  refine lv_iload hx hb dX7_init_43 (lv_at hl 0 rfl) ?_
  refine lv_aload_n hx hb dX7_init_45 rfl (lv_at hl 1 rfl) ?_
  refine zw_getR F Z.1 zC7 (a := 79) (k := 3) (by decide) zs_79 (by decide) rfl (b := 80) (by rw [zGx_p (ks := [2, 1, 0, 12, 3]) (by decide) (by simp [zPu])]; exact (if_pos (by decide)).trans zg_79_3) zq463 (Or.inl rfl) dX7_init_46 ?_
  refine zw_alen F Z.1 (ty := 4) (v := 61) (by decide) zs_80 rfl rfl dX7_init_49 ?_
  refine lv_icmp_ge (tgt := 73) hx hb dX7_init_50 (by decide) (fun q => absurd q (by decide)) (fun _ => ?_)
  refine lv_aload_n hx hb dX7_init_53 rfl (lv_at hl 1 rfl) ?_
  refine zw_getR F Z.1 zC7 (a := 79) (k := 3) (by decide) zs_79 (by decide) rfl (b := 80) (by rw [zGx_p (ks := [2, 1, 0, 12, 3]) (by decide) (by simp [zPu])]; exact (if_pos (by decide)).trans zg_79_3) zq463 (Or.inl rfl) dX7_init_54 ?_
  refine lv_iload hx hb dX7_init_57 (lv_at hl 0 rfl) ?_
  refine zk_new F Z hz0 rfl zC8 (zs_pth (i := 26) (j := 0) (by decide) (by decide)) (by decide +kernel) zq455 zq213 zq81 (Nat.le_of_ble_eq_true rfl) (Nat.le_of_ble_eq_true rfl) dX7_init_59 (fun _ Z => ?_)
  have Z : zhc D A0 σ (zPu (zPu (zPu P 79 (some [2, 1, 0, 12, 3])) 80 (some [25, 24, 23, 22, 21, 20, 19, 18, 17, 16, 15, 14, 13, 12, 11, 10, 9, 8, 7, 6, 5, 4, 3, 2, 1, 0])) 345 (some [])) 346 s.heap _ _ := Z
  refine W.widen (k := 266) (n := 30097) (Nat.le_of_ble_eq_true rfl) (Nat.le_of_ble_eq_true rfl) ?_
  refine lv_dup hx hb dX7_init_62 rfl ?_
  refine zsized fun hle => ?_
  refine zc_vm Z.1 (zr_IN F Z.1 (a := 345) (zsz Z.1 hz0 rfl hle) (As := []) (zci_State l D A0 σ (zPu (zPu P 79 (some [2, 1, 0, 12, 3])) 80 (some [25, 24, 23, 22, 21, 20, 19, 18, 17, 16, 15, 14, 13, 12, 11, 10, 9, 8, 7, 6, 5, 4, 3, 2, 1, 0])) 345 (Or.inr (Or.inr (Or.inr ⟨26, by decide, rfl⟩))) (by simp [zPu]; try exact hPn _ (by decide)) Z.2) zBI_State (by decide) rfl ⟨⟨rfl, rfl⟩, Nat.le_of_ble_eq_true rfl, Nat.le_of_ble_eq_true rfl⟩ hl.1 rfl (Nat.le_of_ble_eq_true rfl) dX7_init_63 ⟨Nat.le_of_ble_eq_true rfl, Nat.le_of_ble_eq_true rfl⟩) (fun _ _ Z1 => ?_)
  have Z : zhc D A0 σ (zPu (zPu P 79 (some [2, 1, 0, 12, 3])) 80 (some [25, 24, 23, 22, 21, 20, 19, 18, 17, 16, 15, 14, 13, 12, 11, 10, 9, 8, 7, 6, 5, 4, 3, 2, 1, 0])) 355 s.heap _ _ := ⟨Z1, fun a9 ha9 => Z.2 a9 (Nat.le_trans (by decide) ha9)⟩
  refine W.widen (k := 275) (n := 30169) (Nat.le_of_ble_eq_true rfl) (Nat.le_of_ble_eq_true rfl) ?_
  refine zk_aast F Z (ty := 4) (N := 61) (P1 := (zPu (zPu P 79 (some [2, 1, 0, 12, 3])) 80 (some [26, 25, 24, 23, 22, 21, 20, 19, 18, 17, 16, 15, 14, 13, 12, 11, 10, 9, 8, 7, 6, 5, 4, 3, 2, 1, 0]))) (ks := [25, 24, 23, 22, 21, 20, 19, 18, 17, 16, 15, 14, 13, 12, 11, 10, 9, 8, 7, 6, 5, 4, 3, 2, 1, 0]) (by decide) zs_80 (by decide) rfl (by decide) (zs_pth (i := 26) (j := 0) (by decide) (by decide)) zC8 (by decide) (by unfold GF; rfl) (by simp [zPu]) (by simp [zPu]; rfl) (fun c9 hc9 => by simp [zPu, hc9]) dX7_init_66 (fun _ _ Z => ?_)
  refine lv_iinc (v := 27) (lv' := [(4, .int 27), (0, .ref (A0 + 79)), (1, .ref (A0 + 3)), (2, .ref (A0 + 37)), (3, .ref (A0 + 27))]) hx hb dX7_init_67 hl (k := 0) rfl (by decide) (by decide) rfl (fun ls hl => ?_)
  refine lv_goto (tgt := 43) hx hb dX7_init_70 (by decide) ?_
  refine lv_iload hx hb dX7_init_43 (lv_at hl 0 rfl) ?_
  refine lv_aload_n hx hb dX7_init_45 rfl (lv_at hl 1 rfl) ?_
  refine zw_getR F Z.1 zC7 (a := 79) (k := 3) (by decide) zs_79 (by decide) rfl (b := 80) (by rw [zGx_p (ks := [2, 1, 0, 12, 3]) (by decide) (by simp [zPu])]; exact (if_pos (by decide)).trans zg_79_3) zq463 (Or.inl rfl) dX7_init_46 ?_
  refine zw_alen F Z.1 (ty := 4) (v := 61) (by decide) zs_80 rfl rfl dX7_init_49 ?_
  refine lv_icmp_ge (tgt := 73) hx hb dX7_init_50 (by decide) (fun q => absurd q (by decide)) (fun _ => ?_)
  refine lv_aload_n hx hb dX7_init_53 rfl (lv_at hl 1 rfl) ?_
  refine zw_getR F Z.1 zC7 (a := 79) (k := 3) (by decide) zs_79 (by decide) rfl (b := 80) (by rw [zGx_p (ks := [2, 1, 0, 12, 3]) (by decide) (by simp [zPu])]; exact (if_pos (by decide)).trans zg_79_3) zq463 (Or.inl rfl) dX7_init_54 ?_
  refine lv_iload hx hb dX7_init_57 (lv_at hl 0 rfl) ?_
  refine zk_new F Z hz0 rfl zC8 (zs_pth (i := 27) (j := 0) (by decide) (by decide)) (by decide +kernel) zq455 zq213 zq81 (Nat.le_of_ble_eq_true rfl) (Nat.le_of_ble_eq_true rfl) dX7_init_59 (fun _ Z => ?_)
  have Z : zhc D A0 σ (zPu (zPu (zPu P 79 (some [2, 1, 0, 12, 3])) 80 (some [26, 25, 24, 23, 22, 21, 20, 19, 18, 17, 16, 15, 14, 13, 12, 11, 10, 9, 8, 7, 6, 5, 4, 3, 2, 1, 0])) 355 (some [])) 356 s.heap _ _ := Z
  refine W.widen (k := 276) (n := 30183) (Nat.le_of_ble_eq_true rfl) (Nat.le_of_ble_eq_true rfl) ?_
  refine lv_dup hx hb dX7_init_62 rfl ?_
  refine zsized fun hle => ?_
  refine zc_vm Z.1 (zr_IN F Z.1 (a := 355) (zsz Z.1 hz0 rfl hle) (As := []) (zci_State l D A0 σ (zPu (zPu P 79 (some [2, 1, 0, 12, 3])) 80 (some [26, 25, 24, 23, 22, 21, 20, 19, 18, 17, 16, 15, 14, 13, 12, 11, 10, 9, 8, 7, 6, 5, 4, 3, 2, 1, 0])) 355 (Or.inr (Or.inr (Or.inr ⟨27, by decide, rfl⟩))) (by simp [zPu]; try exact hPn _ (by decide)) Z.2) zBI_State (by decide) rfl ⟨⟨rfl, rfl⟩, Nat.le_of_ble_eq_true rfl, Nat.le_of_ble_eq_true rfl⟩ hl.1 rfl (Nat.le_of_ble_eq_true rfl) dX7_init_63 ⟨Nat.le_of_ble_eq_true rfl, Nat.le_of_ble_eq_true rfl⟩) (fun _ _ Z1 => ?_)
  have Z : zhc D A0 σ (zPu (zPu P 79 (some [2, 1, 0, 12, 3])) 80 (some [26, 25, 24, 23, 22, 21, 20, 19, 18, 17, 16, 15, 14, 13, 12, 11, 10, 9, 8, 7, 6, 5, 4, 3, 2, 1, 0])) 365 s.heap _ _ := ⟨Z1, fun a9 ha9 => Z.2 a9 (Nat.le_trans (by decide) ha9)⟩
  refine W.widen (k := 285) (n := 30255) (Nat.le_of_ble_eq_true rfl) (Nat.le_of_ble_eq_true rfl) ?_
  refine zk_aast F Z (ty := 4) (N := 61) (P1 := (zPu (zPu P 79 (some [2, 1, 0, 12, 3])) 80 (some [27, 26, 25, 24, 23, 22, 21, 20, 19, 18, 17, 16, 15, 14, 13, 12, 11, 10, 9, 8, 7, 6, 5, 4, 3, 2, 1, 0]))) (ks := [26, 25, 24, 23, 22, 21, 20, 19, 18, 17, 16, 15, 14, 13, 12, 11, 10, 9, 8, 7, 6, 5, 4, 3, 2, 1, 0]) (by decide) zs_80 (by decide) rfl (by decide) (zs_pth (i := 27) (j := 0) (by decide) (by decide)) zC8 (by decide) (by unfold GF; rfl) (by simp [zPu]) (by simp [zPu]; rfl) (fun c9 hc9 => by simp [zPu, hc9]) dX7_init_66 (fun _ _ Z => ?_)
  refine lv_iinc (v := 28) (lv' := [(4, .int 28), (0, .ref (A0 + 79)), (1, .ref (A0 + 3)), (2, .ref (A0 + 37)), (3, .ref (A0 + 27))]) hx hb dX7_init_67 hl (k := 0) rfl (by decide) (by decide) rfl (fun ls hl => ?_)
  refine lv_goto (tgt := 43) hx hb dX7_init_70 (by decide) ?_
  refine lv_iload hx hb dX7_init_43 (lv_at hl 0 rfl) ?_
  refine lv_aload_n hx hb dX7_init_45 rfl (lv_at hl 1 rfl) ?_
  refine zw_getR F Z.1 zC7 (a := 79) (k := 3) (by decide) zs_79 (by decide) rfl (b := 80) (by rw [zGx_p (ks := [2, 1, 0, 12, 3]) (by decide) (by simp [zPu])]; exact (if_pos (by decide)).trans zg_79_3) zq463 (Or.inl rfl) dX7_init_46 ?_
  refine zw_alen F Z.1 (ty := 4) (v := 61) (by decide) zs_80 rfl rfl dX7_init_49 ?_
  refine lv_icmp_ge (tgt := 73) hx hb dX7_init_50 (by decide) (fun q => absurd q (by decide)) (fun _ => ?_)
  refine lv_aload_n hx hb dX7_init_53 rfl (lv_at hl 1 rfl) ?_
  refine zw_getR F Z.1 zC7 (a := 79) (k := 3) (by decide) zs_79 (by decide) rfl (b := 80) (by rw [zGx_p (ks := [2, 1, 0, 12, 3]) (by decide) (by simp [zPu])]; exact (if_pos (by decide)).trans zg_79_3) zq463 (Or.inl rfl) dX7_init_54 ?_
  refine lv_iload hx hb dX7_init_57 (lv_at hl 0 rfl) ?_
  refine zk_new F Z hz0 rfl zC8 (zs_pth (i := 28) (j := 0) (by decide) (by decide)) (by decide +kernel) zq455 zq213 zq81 (Nat.le_of_ble_eq_true rfl) (Nat.le_of_ble_eq_true rfl) dX7_init_59 (fun _ Z => ?_)
  have Z : zhc D A0 σ (zPu (zPu (zPu P 79 (some [2, 1, 0, 12, 3])) 80 (some [27, 26, 25, 24, 23, 22, 21, 20, 19, 18, 17, 16, 15, 14, 13, 12, 11, 10, 9, 8, 7, 6, 5, 4, 3, 2, 1, 0])) 365 (some [])) 366 s.heap _ _ := Z
  refine W.widen (k := 286) (n := 30269) (Nat.le_of_ble_eq_true rfl) (Nat.le_of_ble_eq_true rfl) ?_
  refine lv_dup hx hb dX7_init_62 rfl ?_
  refine zsized fun hle => ?_
  refine zc_vm Z.1 (zr_IN F Z.1 (a := 365) (zsz Z.1 hz0 rfl hle) (As := []) (zci_State l D A0 σ (zPu (zPu P 79 (some [2, 1, 0, 12, 3])) 80 (some [27, 26, 25, 24, 23, 22, 21, 20, 19, 18, 17, 16, 15, 14, 13, 12, 11, 10, 9, 8, 7, 6, 5, 4, 3, 2, 1, 0])) 365 (Or.inr (Or.inr (Or.inr ⟨28, by decide, rfl⟩))) (by simp [zPu]; try exact hPn _ (by decide)) Z.2) zBI_State (by decide) rfl ⟨⟨rfl, rfl⟩, Nat.le_of_ble_eq_true rfl, Nat.le_of_ble_eq_true rfl⟩ hl.1 rfl (Nat.le_of_ble_eq_true rfl) dX7_init_63 ⟨Nat.le_of_ble_eq_true rfl, Nat.le_of_ble_eq_true rfl⟩) (fun _ _ Z1 => ?_)
  have Z : zhc D A0 σ (zPu (zPu P 79 (some [2, 1, 0, 12, 3])) 80 (some [27, 26, 25, 24, 23, 22, 21, 20, 19, 18, 17, 16, 15, 14, 13, 12, 11, 10, 9, 8, 7, 6, 5, 4, 3, 2, 1, 0])) 375 s.heap _ _ := ⟨Z1, fun a9 ha9 => Z.2 a9 (Nat.le_trans (by decide) ha9)⟩
  refine W.widen (k := 295) (n := 30341) (Nat.le_of_ble_eq_true rfl) (Nat.le_of_ble_eq_true rfl) ?_
  refine zk_aast F Z (ty := 4) (N := 61) (P1 := (zPu (zPu P 79 (some [2, 1, 0, 12, 3])) 80 (some [28, 27, 26, 25, 24, 23, 22, 21, 20, 19, 18, 17, 16, 15, 14, 13, 12, 11, 10, 9, 8, 7, 6, 5, 4, 3, 2, 1, 0]))) (ks := [27, 26, 25, 24, 23, 22, 21, 20, 19, 18, 17, 16, 15, 14, 13, 12, 11, 10, 9, 8, 7, 6, 5, 4, 3, 2, 1, 0]) (by decide) zs_80 (by decide) rfl (by decide) (zs_pth (i := 28) (j := 0) (by decide) (by decide)) zC8 (by decide) (by unfold GF; rfl) (by simp [zPu]) (by simp [zPu]; rfl) (fun c9 hc9 => by simp [zPu, hc9]) dX7_init_66 (fun _ _ Z => ?_)
  refine lv_iinc (v := 29) (lv' := [(4, .int 29), (0, .ref (A0 + 79)), (1, .ref (A0 + 3)), (2, .ref (A0 + 37)), (3, .ref (A0 + 27))]) hx hb dX7_init_67 hl (k := 0) rfl (by decide) (by decide) rfl (fun ls hl => ?_)
  refine lv_goto (tgt := 43) hx hb dX7_init_70 (by decide) ?_
  refine lv_iload hx hb dX7_init_43 (lv_at hl 0 rfl) ?_
  refine lv_aload_n hx hb dX7_init_45 rfl (lv_at hl 1 rfl) ?_
  refine zw_getR F Z.1 zC7 (a := 79) (k := 3) (by decide) zs_79 (by decide) rfl (b := 80) (by rw [zGx_p (ks := [2, 1, 0, 12, 3]) (by decide) (by simp [zPu])]; exact (if_pos (by decide)).trans zg_79_3) zq463 (Or.inl rfl) dX7_init_46 ?_
  refine zw_alen F Z.1 (ty := 4) (v := 61) (by decide) zs_80 rfl rfl dX7_init_49 ?_
  refine lv_icmp_ge (tgt := 73) hx hb dX7_init_50 (by decide) (fun q => absurd q (by decide)) (fun _ => ?_)
  refine lv_aload_n hx hb dX7_init_53 rfl (lv_at hl 1 rfl) ?_
  refine zw_getR F Z.1 zC7 (a := 79) (k := 3) (by decide) zs_79 (by decide) rfl (b := 80) (by rw [zGx_p (ks := [2, 1, 0, 12, 3]) (by decide) (by simp [zPu])]; exact (if_pos (by decide)).trans zg_79_3) zq463 (Or.inl rfl) dX7_init_54 ?_
  refine lv_iload hx hb dX7_init_57 (lv_at hl 0 rfl) ?_
  refine zk_new F Z hz0 rfl zC8 (zs_pth (i := 29) (j := 0) (by decide) (by decide)) (by decide +kernel) zq455 zq213 zq81 (Nat.le_of_ble_eq_true rfl) (Nat.le_of_ble_eq_true rfl) dX7_init_59 (fun _ Z => ?_)
  have Z : zhc D A0 σ (zPu (zPu (zPu P 79 (some [2, 1, 0, 12, 3])) 80 (some [28, 27, 26, 25, 24, 23, 22, 21, 20, 19, 18, 17, 16, 15, 14, 13, 12, 11, 10, 9, 8, 7, 6, 5, 4, 3, 2, 1, 0])) 375 (some [])) 376 s.heap _ _ := Z
  refine W.widen (k := 296) (n := 30355) (Nat.le_of_ble_eq_true rfl) (Nat.le_of_ble_eq_true rfl) ?_
  refine lv_dup hx hb dX7_init_62 rfl ?_
  refine zsized fun hle => ?_
  refine zc_vm Z.1 (zr_IN F Z.1 (a := 375) (zsz Z.1 hz0 rfl hle) (As := []) (zci_State l D A0 σ (zPu (zPu P 79 (some [2, 1, 0, 12, 3])) 80 (some [28, 27, 26, 25, 24, 23, 22, 21, 20, 19, 18, 17, 16, 15, 14, 13, 12, 11, 10, 9, 8, 7, 6, 5, 4, 3, 2, 1, 0])) 375 (Or.inr (Or.inr (Or.inr ⟨29, by decide, rfl⟩))) (by simp [zPu]; try exact hPn _ (by decide)) Z.2) zBI_State (by decide) rfl ⟨⟨rfl, rfl⟩, Nat.le_of_ble_eq_true rfl, Nat.le_of_ble_eq_true rfl⟩ hl.1 rfl (Nat.le_of_ble_eq_true rfl) dX7_init_63 ⟨Nat.le_of_ble_eq_true rfl, Nat.le_of_ble_eq_true rfl⟩) (fun _ _ Z1 => ?_)
  have Z : zhc D A0 σ (zPu (zPu P 79 (some [2, 1, 0, 12, 3])) 80 (some [28, 27, 26, 25, 24, 23, 22, 21, 20, 19, 18, 17, 16, 15, 14, 13, 12, 11, 10, 9, 8, 7, 6, 5, 4, 3, 2, 1, 0])) 385 s.heap _ _ := ⟨Z1, fun a9 ha9 => Z.2 a9 (Nat.le_trans (by decide) ha9)⟩
  refine W.widen (k := 305) (n := 30427) (Nat.le_of_ble_eq_true rfl) (Nat.le_of_ble_eq_true rfl) ?_
  refine zk_aast F Z (ty := 4) (N := 61) (P1 := (zPu (zPu P 79 (some [2, 1, 0, 12, 3])) 80 (some [29, 28, 27, 26, 25, 24, 23, 22, 21, 20, 19, 18, 17, 16, 15, 14, 13, 12, 11, 10, 9, 8, 7, 6, 5, 4, 3, 2, 1, 0]))) (ks := [28, 27, 26, 25, 24, 23, 22, 21, 20, 19, 18, 17, 16, 15, 14, 13, 12, 11, 10, 9, 8, 7, 6, 5, 4, 3, 2, 1, 0]) (by decide) zs_80 (by decide) rfl (by decide) (zs_pth (i := 29) (j := 0) (by decide) (by decide)) zC8 (by decide) (by unfold GF; rfl) (by simp [zPu]) (by simp [zPu]; rfl) (fun c9 hc9 => by simp [zPu, hc9]) dX7_init_66 (fun _ _ Z => ?_)
  refine lv_iinc (v := 30) (lv' := [(4, .int 30), (0, .ref (A0 + 79)), (1, .ref (A0 + 3)), (2, .ref (A0 + 37)), (3, .ref (A0 + 27))]) hx hb dX7_init_67 hl (k := 0) rfl (by decide) (by decide) rfl (fun ls hl => ?_)
  refine lv_goto (tgt := 43) hx hb dX7_init_70 (by decide) ?_
  refine lv_iload hx hb dX7_init_43 (lv_at hl 0 rfl) ?_
  refine lv_aload_n hx hb dX7_init_45 rfl (lv_at hl 1 rfl) ?_
  refine zw_getR F Z.1 zC7 (a := 79) (k := 3) (by decide) zs_79 (by decide) rfl (b := 80) (by rw [zGx_p (ks := [2, 1, 0, 12, 3]) (by decide) (by simp [zPu])]; exact (if_pos (by decide)).trans zg_79_3) zq463 (Or.inl rfl) dX7_init_46 ?_
  refine zw_alen F Z.1 (ty := 4) (v := 61) (by decide) zs_80 rfl rfl dX7_init_49 ?_
  refine lv_icmp_ge (tgt := 73) hx hb dX7_init_50 (by decide) (fun q => absurd q (by decide)) (fun _ => ?_)
  refine lv_aload_n hx hb dX7_init_53 rfl (lv_at hl 1 rfl) ?_
  refine zw_getR F Z.1 zC7 (a := 79) (k := 3) (by decide) zs_79 (by decide) rfl (b := 80) (by rw [zGx_p (ks := [2, 1, 0, 12, 3]) (by decide) (by simp [zPu])]; exact (if_pos (by decide)).trans zg_79_3) zq463 (Or.inl rfl) dX7_init_54 ?_
  refine lv_iload hx hb dX7_init_57 (lv_at hl 0 rfl) ?_
  refine zk_new F Z hz0 rfl zC8 (zs_pth (i := 30) (j := 0) (by decide) (by decide)) (by decide +kernel) zq455 zq213 zq81 (Nat.le_of_ble_eq_true rfl) (Nat.le_of_ble_eq_true rfl) dX7_init_59 (fun _ Z => ?_)
  have Z : zhc D A0 σ (zPu (zPu (zPu P 79 (some [2, 1, 0, 12, 3])) 80 (some [29, 28, 27, 26, 25, 24, 23, 22, 21, 20, 19, 18, 17, 16, 15, 14, 13, 12, 11, 10, 9, 8, 7, 6, 5, 4, 3, 2, 1, 0])) 385 (some [])) 386 s.heap _ _ := Z
  refine W.widen (k := 306) (n := 30441) (Nat.le_of_ble_eq_true rfl) (Nat.le_of_ble_eq_true rfl) ?_
  refine lv_dup hx hb dX7_init_62 rfl ?_
  refine zsized fun hle => ?_
  refine zc_vm Z.1 (zr_IN F Z.1 (a := 385) (zsz Z.1 hz0 rfl hle) (As := []) (zci_State l D A0 σ (zPu (zPu P 79 (some [2, 1, 0, 12, 3])) 80 (some [29, 28, 27, 26, 25, 24, 23, 22, 21, 20, 19, 18, 17, 16, 15, 14, 13, 12, 11, 10, 9, 8, 7, 6, 5, 4, 3, 2, 1, 0])) 385 (Or.inr (Or.inr (Or.inr ⟨30, by decide, rfl⟩))) (by simp [zPu]; try exact hPn _ (by decide)) Z.2) zBI_State (by decide) rfl ⟨⟨rfl, rfl⟩, Nat.le_of_ble_eq_true rfl, Nat.le_of_ble_eq_true rfl⟩ hl.1 rfl (Nat.le_of_ble_eq_true rfl) dX7_init_63 ⟨Nat.le_of_ble_eq_true rfl, Nat.le_of_ble_eq_true rfl⟩) (fun _ _ Z1 => ?_)
  have Z : zhc D A0 σ (zPu (zPu P 79 (some [2, 1, 0, 12, 3])) 80 (some [29, 28, 27, 26, 25, 24, 23, 22, 21, 20, 19, 18, 17, 16, 15, 14, 13, 12, 11, 10, 9, 8, 7, 6, 5, 4, 3, 2, 1, 0])) 395 s.heap _ _ := ⟨Z1, fun a9 ha9 => Z.2 a9 (Nat.le_trans (by decide) ha9)⟩
  refine W.widen (k := 315) (n := 30513) (Nat.le_of_ble_eq_true rfl) (Nat.le_of_ble_eq_true rfl) ?_
  refine zk_aast F Z (ty := 4) (N := 61) (P1 := (zPu (zPu P 79 (some [2, 1, 0, 12, 3])) 80 (some [30, 29, 28, 27, 26, 25, 24, 23, 22, 21, 20, 19, 18, 17, 16, 15, 14, 13, 12, 11, 10, 9, 8, 7, 6, 5, 4, 3, 2, 1, 0]))) (ks := [29, 28, 27, 26, 25, 24, 23, 22, 21, 20, 19, 18, 17, 16, 15, 14, 13, 12, 11, 10, 9, 8, 7, 6, 5, 4, 3, 2, 1, 0]) (by decide) zs_80 (by decide) rfl (by decide) (zs_pth (i := 30) (j := 0) (by decide) (by decide)) zC8 (by decide) (by unfold GF; rfl) (by simp [zPu]) (by simp [zPu]; rfl) (fun c9 hc9 => by simp [zPu, hc9]) dX7_init_66 (fun _ _ Z => ?_)
  refine lv_iinc (v := 31) (lv' := [(4, .int 31), (0, .ref (A0 + 79)), (1, .ref (A0 + 3)), (2, .ref (A0 + 37)), (3, .ref (A0 + 27))]) hx hb dX7_init_67 hl (k := 0) rfl (by decide) (by decide) rfl (fun ls hl => ?_)
  refine lv_goto (tgt := 43) hx hb dX7_init_70 (by decide) ?_
  refine lv_iload hx hb dX7_init_43 (lv_at hl 0 rfl) ?_
  refine lv_aload_n hx hb dX7_init_45 rfl (lv_at hl 1 rfl) ?_
  refine zw_getR F Z.1 zC7 (a := 79) (k := 3) (by decide) zs_79 (by decide) rfl (b := 80) (by rw [zGx_p (ks := [2, 1, 0, 12, 3]) (by decide) (by simp [zPu])]; exact (if_pos (by decide)).trans zg_79_3) zq463 (Or.inl rfl) dX7_init_46 ?_
  refine zw_alen F Z.1 (ty := 4) (v := 61) (by decide) zs_80 rfl rfl dX7_init_49 ?_
  refine lv_icmp_ge (tgt := 73) hx hb dX7_init_50 (by decide) (fun q => absurd q (by decide)) (fun _ => ?_)
  refine lv_aload_n hx hb dX7_init_53 rfl (lv_at hl 1 rfl) ?_
  refine zw_getR F Z.1 zC7 (a := 79) (k := 3) (by decide) zs_79 (by decide) rfl (b := 80) (by rw [zGx_p (ks := [2, 1, 0, 12, 3]) (by decide) (by simp [zPu])]; exact (if_pos (by decide)).trans zg_79_3) zq463 (Or.inl rfl) dX7_init_54 ?_
  refine lv_iload hx hb dX7_init_57 (lv_at hl 0 rfl) ?_
  refine zk_new F Z hz0 rfl zC8 (zs_pth (i := 31) (j := 0) (by decide) (by decide)) (by decide +kernel) zq455 zq213 zq81 (Nat.le_of_ble_eq_true rfl) (Nat.le_of_ble_eq_true rfl) dX7_init_59 (fun _ Z => ?_)
  have Z : zhc D A0 σ (zPu (zPu (zPu P 79 (some [2, 1, 0, 12, 3])) 80 (some [30, 29, 28, 27, 26, 25, 24, 23, 22, 21, 20, 19, 18, 17, 16, 15, 14, 13, 12, 11, 10, 9, 8, 7, 6, 5, 4, 3, 2, 1, 0])) 395 (some [])) 396 s.heap _ _ := Z
  refine W.widen (k := 316) (n := 30527) (Nat.le_of_ble_eq_true rfl) (Nat.le_of_ble_eq_true rfl) ?_
  refine lv_dup hx hb dX7_init_62 rfl ?_
  refine zsized fun hle => ?_
  refine zc_vm Z.1 (zr_IN F Z.1 (a := 395) (zsz Z.1 hz0 rfl hle) (As := []) (zci_State l D A0 σ (zPu (zPu P 79 (some [2, 1, 0, 12, 3])) 80 (some [30, 29, 28, 27, 26, 25, 24, 23, 22, 21, 20, 19, 18, 17, 16, 15, 14, 13, 12, 11, 10, 9, 8, 7, 6, 5, 4, 3, 2, 1, 0])) 395 (Or.inr (Or.inr (Or.inr ⟨31, by decide, rfl⟩))) (by simp [zPu]; try exact hPn _ (by decide)) Z.2) zBI_State (by decide) rfl ⟨⟨rfl, rfl⟩, Nat.le_of_ble_eq_true rfl, Nat.le_of_ble_eq_true rfl⟩ hl.1 rfl (Nat.le_of_ble_eq_true rfl) dX7_init_63 ⟨Nat.le_of_ble_eq_true rfl, Nat.le_of_ble_eq_true rfl⟩) (fun _ _ Z1 => ?_)
  have Z : zhc D A0 σ (zPu (zPu P 79 (some [2, 1, 0, 12, 3])) 80 (some [30, 29, 28, 27, 26, 25, 24, 23, 22, 21, 20, 19, 18, 17, 16, 15, 14, 13, 12, 11, 10, 9, 8, 7, 6, 5, 4, 3, 2, 1, 0])) 405 s.heap _ _ := ⟨Z1, fun a9 ha9 => Z.2 a9 (Nat.le_trans (by decide) ha9)⟩
  refine W.widen (k := 325) (n := 30599) (Nat.le_of_ble_eq_true rfl) (Nat.le_of_ble_eq_true rfl) ?_
  refine zk_aast F Z (ty := 4) (N := 61) (P1 := (zPu (zPu P 79 (some [2, 1, 0, 12, 3])) 80 (some [31, 30, 29, 28, 27, 26, 25, 24, 23, 22, 21, 20, 19, 18, 17, 16, 15, 14, 13, 12, 11, 10, 9, 8, 7, 6, 5, 4, 3, 2, 1, 0]))) (ks := [30, 29, 28, 27, 26, 25, 24, 23, 22, 21, 20, 19, 18, 17, 16, 15, 14, 13, 12, 11, 10, 9, 8, 7, 6, 5, 4, 3, 2, 1, 0]) (by decide) zs_80 (by decide) rfl (by decide) (zs_pth (i := 31) (j := 0) (by decide) (by decide)) zC8 (by decide) (by unfold GF; rfl) (by simp [zPu]) (by simp [zPu]; rfl) (fun c9 hc9 => by simp [zPu, hc9]) dX7_init_66 (fun _ _ Z => ?_)
  refine lv_iinc (v := 32) (lv' := [(4, .int 32), (0, .ref (A0 + 79)), (1, .ref (A0 + 3)), (2, .ref (A0 + 37)), (3, .ref (A0 + 27))]) hx hb dX7_init_67 hl (k := 0) rfl (by decide) (by decide) rfl (fun ls hl => ?_)
  refine lv_goto (tgt := 43) hx hb dX7_init_70 (by decide) ?_
  refine lv_iload hx hb dX7_init_43 (lv_at hl 0 rfl) ?_
  refine lv_aload_n hx hb dX7_init_45 rfl (lv_at hl 1 rfl) ?_
  refine zw_getR F Z.1 zC7 (a := 79) (k := 3) (by decide) zs_79 (by decide) rfl (b := 80) (by rw [zGx_p (ks := [2, 1, 0, 12, 3]) (by decide) (by simp [zPu])]; exact (if_pos (by decide)).trans zg_79_3) zq463 (Or.inl rfl) dX7_init_46 ?_
  refine zw_alen F Z.1 (ty := 4) (v := 61) (by decide) zs_80 rfl rfl dX7_init_49 ?_
  refine lv_icmp_ge (tgt := 73) hx hb dX7_init_50 (by decide) (fun q => absurd q (by decide)) (fun _ => ?_)
  refine lv_aload_n hx hb dX7_init_53 rfl (lv_at hl 1 rfl) ?_
  refine zw_getR F Z.1 zC7 (a := 79) (k := 3) (by decide) zs_79 (by decide) rfl (b := 80) (by rw [zGx_p (ks := [2, 1, 0, 12, 3]) (by decide) (by simp [zPu])]; exact (if_pos (by decide)).trans zg_79_3) zq463 (Or.inl rfl) dX7_init_54 ?_
  refine lv_iload hx hb dX7_init_57 (lv_at hl 0 rfl) ?_
  refine zk_new F Z hz0 rfl zC8 (zs_pth (i := 32) (j := 0) (by decide) (by decide)) (by decide +kernel) zq455 zq213 zq81 (Nat.le_of_ble_eq_true rfl) (Nat.le_of_ble_eq_true rfl) dX7_init_59 (fun _ Z => ?_)
  have Z : zhc D A0 σ (zPu (zPu (zPu P 79 (some [2, 1, 0, 12, 3])) 80 (some [31, 30, 29, 28, 27, 26, 25, 24, 23, 22, 21, 20, 19, 18, 17, 16, 15, 14, 13, 12, 11, 10, 9, 8, 7, 6, 5, 4, 3, 2, 1, 0])) 405 (some [])) 406 s.heap _ _ := Z
  refine W.widen (k := 326) (n := 30613) (Nat.le_of_ble_eq_true rfl) (Nat.le_of_ble_eq_true rfl) ?_
  refine lv_dup hx hb dX7_init_62 rfl ?_
  refine zsized fun hle => ?_
  refine zc_vm Z.1 (zr_IN F Z.1 (a := 405) (zsz Z.1 hz0 rfl hle) (As := []) (zci_State l D A0 σ (zPu (zPu P 79 (some [2, 1, 0, 12, 3])) 80 (some [31, 30, 29, 28, 27, 26, 25, 24, 23, 22, 21, 20, 19, 18, 17, 16, 15, 14, 13, 12, 11, 10, 9, 8, 7, 6, 5, 4, 3, 2, 1, 0])) 405 (Or.inr (Or.inr (Or.inr ⟨32, by decide, rfl⟩))) (by simp [zPu]; try exact hPn _ (by decide)) Z.2) zBI_State (by decide) rfl ⟨⟨rfl, rfl⟩, Nat.le_of_ble_eq_true rfl, Nat.le_of_ble_eq_true rfl⟩ hl.1 rfl (Nat.le_of_ble_eq_true rfl) dX7_init_63 ⟨Nat.le_of_ble_eq_true rfl, Nat.le_of_ble_eq_true rfl⟩) (fun _ _ Z1 => ?_)
  have Z : zhc D A0 σ (zPu (zPu P 79 (some [2, 1, 0, 12, 3])) 80 (some [31, 30, 29, 28, 27, 26, 25, 24, 23, 22, 21, 20, 19, 18, 17, 16, 15, 14, 13, 12, 11, 10, 9, 8, 7, 6, 5, 4, 3, 2, 1, 0])) 415 s.heap _ _ := ⟨Z1, fun a9 ha9 => Z.2 a9 (Nat.le_trans (by decide) ha9)⟩
  refine W.widen (k := 335) (n := 30685) (Nat.le_of_ble_eq_true rfl) (Nat.le_of_ble_eq_true rfl) ?_
  refine zk_aast F Z (ty := 4) (N := 61) (P1 := (zPu (zPu P 79 (some [2, 1, 0, 12, 3])) 80 (some [32, 31, 30, 29, 28, 27, 26, 25, 24, 23, 22, 21, 20, 19, 18, 17, 16, 15, 14, 13, 12, 11, 10, 9, 8, 7, 6, 5, 4, 3, 2, 1, 0]))) (ks := [31, 30, 29, 28, 27, 26, 25, 24, 23, 22, 21, 20, 19, 18, 17, 16, 15, 14, 13, 12, 11, 10, 9, 8, 7, 6, 5, 4, 3, 2, 1, 0]) (by decide) zs_80 (by decide) rfl (by decide) (zs_pth (i := 32) (j := 0) (by decide) (by decide)) zC8 (by decide) (by unfold GF; rfl) (by simp [zPu]) (by simp [zPu]; rfl) (fun c9 hc9 => by simp [zPu, hc9]) dX7_init_66 (fun _ _ Z => ?_)
  refine lv_iinc (v := 33) (lv' := [(4, .int 33), (0, .ref (A0 + 79)), (1, .ref (A0 + 3)), (2, .ref (A0 + 37)), (3, .ref (A0 + 27))]) hx hb dX7_init_67 hl (k := 0) rfl (by decide) (by decide) rfl (fun ls hl => ?_)
  refine lv_goto (tgt := 43) hx hb dX7_init_70 (by decide) ?_
  refine lv_iload hx hb dX7_init_43 (lv_at hl 0 rfl) ?_
  refine lv_aload_n hx hb dX7_init_45 rfl (lv_at hl 1 rfl) ?_
  refine zw_getR F Z.1 zC7 (a := 79) (k := 3) (by decide) zs_79 (by decide) rfl (b := 80) (by rw [zGx_p (ks := [2, 1, 0, 12, 3]) (by decide) (by simp [zPu])]; exact (if_pos (by decide)).trans zg_79_3) zq463 (Or.inl rfl) dX7_init_46 ?_
  refine zw_alen F Z.1 (ty := 4) (v := 61) (by decide) zs_80 rfl rfl dX7_init_49 ?_
  refine lv_icmp_ge (tgt := 73) hx hb dX7_init_50 (by decide) (fun q => absurd q (by decide)) (fun _ => ?_)
  refine lv_aload_n hx hb dX7_init_53 rfl (lv_at hl 1 rfl) ?_
  refine zw_getR F Z.1 zC7 (a := 79) (k := 3) (by decide) zs_79 (by decide) rfl (b := 80) (by rw [zGx_p (ks := [2, 1, 0, 12, 3]) (by decide) (by simp [zPu])]; exact (if_pos (by decide)).trans zg_79_3) zq463 (Or.inl rfl) dX7_init_54 ?_
  refine lv_iload hx hb dX7_init_57 (lv_at hl 0 rfl) ?_
  refine zk_new F Z hz0 rfl zC8 (zs_pth (i := 33) (j := 0) (by decide) (by decide)) (by decide +kernel) zq455 zq213 zq81 (Nat.le_of_ble_eq_true rfl) (Nat.le_of_ble_eq_true rfl) dX7_init_59 (fun _ Z => ?_)
  have Z : zhc D A0 σ (zPu (zPu (zPu P 79 (some [2, 1, 0, 12, 3])) 80 (some [32, 31, 30, 29, 28, 27, 26, 25, 24, 23, 22, 21, 20, 19, 18, 17, 16, 15, 14, 13, 12, 11, 10, 9, 8, 7, 6, 5, 4, 3, 2, 1, 0])) 415 (some [])) 416 s.heap _ _ := Z
  refine W.widen (k := 336) (n := 30699) (Nat.le_of_ble_eq_true rfl) (Nat.le_of_ble_eq_true rfl) ?_
  refine lv_dup hx hb dX7_init_62 rfl ?_
  refine zsized fun hle => ?_
  refine zc_vm Z.1 (zr_IN F Z.1 (a := 415) (zsz Z.1 hz0 rfl hle) (As := []) (zci_State l D A0 σ (zPu (zPu P 79 (some [2, 1, 0, 12, 3])) 80 (some [32, 31, 30, 29, 28, 27, 26, 25, 24, 23, 22, 21, 20, 19, 18, 17, 16, 15, 14, 13, 12, 11, 10, 9, 8, 7, 6, 5, 4, 3, 2, 1, 0])) 415 (Or.inr (Or.inr (Or.inr ⟨33, by decide, rfl⟩))) (by simp [zPu]; try exact hPn _ (by decide)) Z.2) zBI_State (by decide) rfl ⟨⟨rfl, rfl⟩, Nat.le_of_ble_eq_true rfl, Nat.le_of_ble_eq_true rfl⟩ hl.1 rfl (Nat.le_of_ble_eq_true rfl) dX7_init_63 ⟨Nat.le_of_ble_eq_true rfl, Nat.le_of_ble_eq_true rfl⟩) (fun _ _ Z1 => ?_)
  have Z : zhc D A0 σ (zPu (zPu P 79 (some [2, 1, 0, 12, 3])) 80 (some [32, 31, 30, 29, 28, 27, 26, 25, 24, 23, 22, 21, 20, 19, 18, 17, 16, 15, 14, 13, 12, 11, 10, 9, 8, 7, 6, 5, 4, 3, 2, 1, 0])) 425 s.heap _ _ := ⟨Z1, fun a9 ha9 => Z.2 a9 (Nat.le_trans (by decide) ha9)⟩
  refine W.widen (k := 345) (n := 30771) (Nat.le_of_ble_eq_true rfl) (Nat.le_of_ble_eq_true rfl) ?_
  refine zk_aast F Z (ty := 4) (N := 61) (P1 := (zPu (zPu P 79 (some [2, 1, 0, 12, 3])) 80 (some [33, 32, 31, 30, 29, 28, 27, 26, 25, 24, 23, 22, 21, 20, 19, 18, 17, 16, 15, 14, 13, 12, 11, 10, 9, 8, 7, 6, 5, 4, 3, 2, 1, 0]))) (ks := [32, 31, 30, 29, 28, 27, 26, 25, 24, 23, 22, 21, 20, 19, 18, 17, 16, 15, 14, 13, 12, 11, 10, 9, 8, 7, 6, 5, 4, 3, 2, 1, 0]) (by decide) zs_80 (by decide) rfl (by decide) (zs_pth (i := 33) (j := 0) (by decide) (by decide)) zC8 (by decide) (by unfold GF; rfl) (by simp [zPu]) (by simp [zPu]; rfl) (fun c9 hc9 => by simp [zPu, hc9]) dX7_init_66 (fun _ _ Z => ?_)
  refine lv_iinc (v := 34) (lv' := [(4, .int 34), (0, .ref (A0 + 79)), (1, .ref (A0 + 3)), (2, .ref (A0 + 37)), (3, .ref (A0 + 27))]) hx hb dX7_init_67 hl (k := 0) rfl (by decide) (by decide) rfl (fun ls hl => ?_)
  refine lv_goto (tgt := 43) hx hb dX7_init_70 (by decide) ?_
  refine lv_iload hx hb dX7_init_43 (lv_at hl 0 rfl) ?_
  refine lv_aload_n hx hb dX7_init_45 rfl (lv_at hl 1 rfl) ?_
  refine zw_getR F Z.1 zC7 (a := 79) (k := 3) (by decide) zs_79 (by decide) rfl (b := 80) (by rw [zGx_p (ks := [2, 1, 0, 12, 3]) (by decide) (by simp [zPu])]; exact (if_pos (by decide)).trans zg_79_3) zq463 (Or.inl rfl) dX7_init_46 ?_
  refine zw_alen F Z.1 (ty := 4) (v := 61) (by decide) zs_80 rfl rfl dX7_init_49 ?_
  refine lv_icmp_ge (tgt := 73) hx hb dX7_init_50 (by decide) (fun q => absurd q (by decide)) (fun _ => ?_)
  refine lv_aload_n hx hb dX7_init_53 rfl (lv_at hl 1 rfl) ?_
  refine zw_getR F Z.1 zC7 (a := 79) (k := 3) (by decide) zs_79 (by decide) rfl (b := 80) (by rw [zGx_p (ks := [2, 1, 0, 12, 3]) (by decide) (by simp [zPu])]; exact (if_pos (by decide)).trans zg_79_3) zq463 (Or.inl rfl) dX7_init_54 ?_
  refine lv_iload hx hb dX7_init_57 (lv_at hl 0 rfl) ?_
  refine zk_new F Z hz0 rfl zC8 (zs_pth (i := 34) (j := 0) (by decide) (by decide)) (by decide +kernel) zq455 zq213 zq81 (Nat.le_of_ble_eq_true rfl) (Nat.le_of_ble_eq_true rfl) dX7_init_59 (fun _ Z => ?_)
  have Z : zhc D A0 σ (zPu (zPu (zPu P 79 (some [2, 1, 0, 12, 3])) 80 (some [33, 32, 31, 30, 29, 28, 27, 26, 25, 24, 23, 22, 21, 20, 19, 18, 17, 16, 15, 14, 13, 12, 11, 10, 9, 8, 7, 6, 5, 4, 3, 2, 1, 0])) 425 (some [])) 426 s.heap _ _ := Z
  refine W.widen (k := 346) (n := 30785) (Nat.le_of_ble_eq_true rfl) (Nat.le_of_ble_eq_true rfl) ?_
  refine lv_dup hx hb dX7_init_62 rfl ?_
  refine zsized fun hle => ?_
  refine zc_vm Z.1 (zr_IN F Z.1 (a := 425) (zsz Z.1 hz0 rfl hle) (As := []) (zci_State l D A0 σ (zPu (zPu P 79 (some [2, 1, 0, 12, 3])) 80 (some [33, 32, 31, 30, 29, 28, 27, 26, 25, 24, 23, 22, 21, 20, 19, 18, 17, 16, 15, 14, 13, 12, 11, 10, 9, 8, 7, 6, 5, 4, 3, 2, 1, 0])) 425 (Or.inr (Or.inr (Or.inr ⟨34, by decide, rfl⟩))) (by simp [zPu]; try exact hPn _ (by decide)) Z.2) zBI_State (by decide) rfl ⟨⟨rfl, rfl⟩, Nat.le_of_ble_eq_true rfl, Nat.le_of_ble_eq_true rfl⟩ hl.1 rfl (Nat.le_of_ble_eq_true rfl) dX7_init_63 ⟨Nat.le_of_ble_eq_true rfl, Nat.le_of_ble_eq_true rfl⟩) (fun _ _ Z1 => ?_)
  have Z : zhc D A0 σ (zPu (zPu P 79 (some [2, 1, 0, 12, 3])) 80 (some [33, 32, 31, 30, 29, 28, 27, 26, 25, 24, 23, 22, 21, 20, 19, 18, 17, 16, 15, 14, 13, 12, 11, 10, 9, 8, 7, 6, 5, 4, 3, 2, 1, 0])) 435 s.heap _ _ := ⟨Z1, fun a9 ha9 => Z.2 a9 (Nat.le_trans (by decide) ha9)⟩
  refine W.widen (k := 355) (n := 30857) (Nat.le_of_ble_eq_true rfl) (Nat.le_of_ble_eq_true rfl) ?_
  refine zk_aast F Z (ty := 4) (N := 61) (P1 := (zPu (zPu P 79 (some [2, 1, 0, 12, 3])) 80 (some [34, 33, 32, 31, 30, 29, 28, 27, 26, 25, 24, 23, 22, 21, 20, 19, 18, 17, 16, 15, 14, 13, 12, 11, 10, 9, 8, 7, 6, 5, 4, 3, 2, 1, 0]))) (ks := [33, 32, 31, 30, 29, 28, 27, 26, 25, 24, 23, 22, 21, 20, 19, 18, 17, 16, 15, 14, 13, 12, 11, 10, 9, 8, 7, 6, 5, 4, 3, 2, 1, 0]) (by decide) zs_80 (by decide) rfl (by decide) (zs_pth (i := 34) (j := 0) (by decide) (by decide)) zC8 (by decide) (by unfold GF; rfl) (by simp [zPu]) (by simp [zPu]; rfl) (fun c9 hc9 => by simp [zPu, hc9]) dX7_init_66 (fun _ _ Z => ?_)
  refine lv_iinc (v := 35) (lv' := [(4, .int 35), (0, .ref (A0 + 79)), (1, .ref (A0 + 3)), (2, .ref (A0 + 37)), (3, .ref (A0 + 27))]) hx hb dX7_init_67 hl (k := 0) rfl (by decide) (by decide) rfl (fun ls hl => ?_)
  refine lv_goto (tgt := 43) hx hb dX7_init_70 (by decide) ?_
  refine lv_iload hx hb dX7_init_43 (lv_at hl 0 rfl) ?_
  refine lv_aload_n hx hb dX7_init_45 rfl (lv_at hl 1 rfl) ?_
  refine zw_getR F Z.1 zC7 (a := 79) (k := 3) (by decide) zs_79 (by decide) rfl (b := 80) (by rw [zGx_p (ks := [2, 1, 0, 12, 3]) (by decide) (by simp [zPu])]; exact (if_pos (by decide)).trans zg_79_3) zq463 (Or.inl rfl) dX7_init_46 ?_
  refine zw_alen F Z.1 (ty := 4) (v := 61) (by decide) zs_80 rfl rfl dX7_init_49 ?_
  refine lv_icmp_ge (tgt := 73) hx hb dX7_init_50 (by decide) (fun q => absurd q (by decide)) (fun _ => ?_)
  refine lv_aload_n hx hb dX7_init_53 rfl (lv_at hl 1 rfl) ?_
  refine zw_getR F Z.1 zC7 (a := 79) (k := 3) (by decide) zs_79 (by decide) rfl (b := 80) (by rw [zGx_p (ks := [2, 1, 0, 12, 3]) (by decide) (by simp [zPu])]; exact (if_pos (by decide)).trans zg_79_3) zq463 (Or.inl rfl) dX7_init_54 ?_
  refine lv_iload hx hb dX7_init_57 (lv_at hl 0 rfl) ?_
  refine zk_new F Z hz0 rfl zC8 (zs_pth (i := 35) (j := 0) (by decide) (by decide)) (by decide +kernel) zq455 zq213 zq81 (Nat.le_of_ble_eq_true rfl) (Nat.le_of_ble_eq_true rfl) dX7_init_59 (fun _ Z => ?_)
  have Z : zhc D A0 σ (zPu (zPu (zPu P 79 (some [2, 1, 0, 12, 3])) 80 (some [34, 33, 32, 31, 30, 29, 28, 27, 26, 25, 24, 23, 22, 21, 20, 19, 18, 17, 16, 15, 14, 13, 12, 11, 10, 9, 8, 7, 6, 5, 4, 3, 2, 1, 0])) 435 (some [])) 436 s.heap _ _ := Z
  refine W.widen (k := 356) (n := 30871) (Nat.le_of_ble_eq_true rfl) (Nat.le_of_ble_eq_true rfl) ?_
  refine lv_dup hx hb dX7_init_62 rfl ?_
  refine zsized fun hle => ?_
  refine zc_vm Z.1 (zr_IN F Z.1 (a := 435) (zsz Z.1 hz0 rfl hle) (As := []) (zci_State l D A0 σ (zPu (zPu P 79 (some [2, 1, 0, 12, 3])) 80 (some [34, 33, 32, 31, 30, 29, 28, 27, 26, 25, 24, 23, 22, 21, 20, 19, 18, 17, 16, 15, 14, 13, 12, 11, 10, 9, 8, 7, 6, 5, 4, 3, 2, 1, 0])) 435 (Or.inr (Or.inr (Or.inr ⟨35, by decide, rfl⟩))) (by simp [zPu]; try exact hPn _ (by decide)) Z.2) zBI_State (by decide) rfl ⟨⟨rfl, rfl⟩, Nat.le_of_ble_eq_true rfl, Nat.le_of_ble_eq_true rfl⟩ hl.1 rfl (Nat.le_of_ble_eq_true rfl) dX7_init_63 ⟨Nat.le_of_ble_eq_true rfl, Nat.le_of_ble_eq_true rfl⟩) (fun _ _ Z1 => ?_)
  have Z : zhc D A0 σ (zPu (zPu P 79 (some [2, 1, 0, 12, 3])) 80 (some [34, 33, 32, 31, 30, 29, 28, 27, 26, 25, 24, 23, 22, 21, 20, 19, 18, 17, 16, 15, 14, 13, 12, 11, 10, 9, 8, 7, 6, 5, 4, 3, 2, 1, 0])) 445 s.heap _ _ := ⟨Z1, fun a9 ha9 => Z.2 a9 (Nat.le_trans (by decide) ha9)⟩
  refine W.widen (k := 365) (n := 30943) (Nat.le_of_ble_eq_true rfl) (Nat.le_of_ble_eq_true rfl) ?_
  refine zk_aast F Z (ty := 4) (N := 61) (P1 := (zPu (zPu P 79 (some [2, 1, 0, 12, 3])) 80 (some [35, 34, 33, 32, 31, 30, 29, 28, 27, 26, 25, 24, 23, 22, 21, 20, 19, 18, 17, 16, 15, 14, 13, 12, 11, 10, 9, 8, 7, 6, 5, 4, 3, 2, 1, 0]))) (ks := [34, 33, 32, 31, 30, 29, 28, 27, 26, 25, 24, 23, 22, 21, 20, 19, 18, 17, 16, 15, 14, 13, 12, 11, 10, 9, 8, 7, 6, 5, 4, 3, 2, 1, 0]) (by decide) zs_80 (by decide) rfl (by decide) (zs_pth (i := 35) (j := 0) (by decide) (by decide)) zC8 (by decide) (by unfold GF; rfl) (by simp [zPu]) (by simp [zPu]; rfl) (fun c9 hc9 => by simp [zPu, hc9]) dX7_init_66 (fun _ _ Z => ?_)
  refine lv_iinc (v := 36) (lv' := [(4, .int 36), (0, .ref (A0 + 79)), (1, .ref (A0 + 3)), (2, .ref (A0 + 37)), (3, .ref (A0 + 27))]) hx hb dX7_init_67 hl (k := 0) rfl (by decide) (by decide) rfl (fun ls hl => ?_)
  refine lv_goto (tgt := 43) hx hb dX7_init_70 (by decide) ?_
  refine lv_iload hx hb dX7_init_43 (lv_at hl 0 rfl) ?_
  refine lv_aload_n hx hb dX7_init_45 rfl (lv_at hl 1 rfl) ?_
  refine zw_getR F Z.1 zC7 (a := 79) (k := 3) (by decide) zs_79 (by decide) rfl (b := 80) (by rw [zGx_p (ks := [2, 1, 0, 12, 3]) (by decide) (by simp [zPu])]; exact (if_pos (by decide)).trans zg_79_3) zq463 (Or.inl rfl) dX7_init_46 ?_
  refine zw_alen F Z.1 (ty := 4) (v := 61) (by decide) zs_80 rfl rfl dX7_init_49 ?_
  refine lv_icmp_ge (tgt := 73) hx hb dX7_init_50 (by decide) (fun q => absurd q (by decide)) (fun _ => ?_)
  refine lv_aload_n hx hb dX7_init_53 rfl (lv_at hl 1 rfl) ?_
  refine zw_getR F Z.1 zC7 (a := 79) (k := 3) (by decide) zs_79 (by decide) rfl (b := 80) (by rw [zGx_p (ks := [2, 1, 0, 12, 3]) (by decide) (by simp [zPu])]; exact (if_pos (by decide)).trans zg_79_3) zq463 (Or.inl rfl) dX7_init_54 ?_
  refine lv_iload hx hb dX7_init_57 (lv_at hl 0 rfl) ?_
  refine zk_new F Z hz0 rfl zC8 (zs_pth (i := 36) (j := 0) (by decide) (by decide)) (by decide +kernel) zq455 zq213 zq81 (Nat.le_of_ble_eq_true rfl) (Nat.le_of_ble_eq_true rfl) dX7_init_59 (fun _ Z => ?_)
  have Z : zhc D A0 σ (zPu (zPu (zPu P 79 (some [2, 1, 0, 12, 3])) 80 (some [35, 34, 33, 32, 31, 30, 29, 28, 27, 26, 25, 24, 23, 22, 21, 20, 19, 18, 17, 16, 15, 14, 13, 12, 11, 10, 9, 8, 7, 6, 5, 4, 3, 2, 1, 0])) 445 (some [])) 446 s.heap _ _ := Z
  refine W.widen (k := 366) (n := 30957) (Nat.le_of_ble_eq_true rfl) (Nat.le_of_ble_eq_true rfl) ?_
  refine lv_dup hx hb dX7_init_62 rfl ?_
  refine zsized fun hle => ?_
  refine zc_vm Z.1 (zr_IN F Z.1 (a := 445) (zsz Z.1 hz0 rfl hle) (As := []) (zci_State l D A0 σ (zPu (zPu P 79 (some [2, 1, 0, 12, 3])) 80 (some [35, 34, 33, 32, 31, 30, 29, 28, 27, 26, 25, 24, 23, 22, 21, 20, 19, 18, 17, 16, 15, 14, 13, 12, 11, 10, 9, 8, 7, 6, 5, 4, 3, 2, 1, 0])) 445 (Or.inr (Or.inr (Or.inr ⟨36, by decide, rfl⟩))) (by simp [zPu]; try exact hPn _ (by decide)) Z.2) zBI_State (by decide) rfl ⟨⟨rfl, rfl⟩, Nat.le_of_ble_eq_true rfl, Nat.le_of_ble_eq_true rfl⟩ hl.1 rfl (Nat.le_of_ble_eq_true rfl) dX7_init_63 ⟨Nat.le_of_ble_eq_true rfl, Nat.le_of_ble_eq_true rfl⟩) (fun _ _ Z1 => ?_)
  have Z : zhc D A0 σ (zPu (zPu P 79 (some [2, 1, 0, 12, 3])) 80 (some [35, 34, 33, 32, 31, 30, 29, 28, 27, 26, 25, 24, 23, 22, 21, 20, 19, 18, 17, 16, 15, 14, 13, 12, 11, 10, 9, 8, 7, 6, 5, 4, 3, 2, 1, 0])) 455 s.heap _ _ := ⟨Z1, fun a9 ha9 => Z.2 a9 (Nat.le_trans (by decide) ha9)⟩
  refine W.widen (k := 375) (n := 31029) (Nat.le_of_ble_eq_true rfl) (Nat.le_of_ble_eq_true rfl) ?_
  refine zk_aast F Z (ty := 4) (N := 61) (P1 := (zPu (zPu P 79 (some [2, 1, 0, 12, 3])) 80 (some [36, 35, 34, 33, 32, 31, 30, 29, 28, 27, 26, 25, 24, 23, 22, 21, 20, 19, 18, 17, 16, 15, 14, 13, 12, 11, 10, 9, 8, 7, 6, 5, 4, 3, 2, 1, 0]))) (ks := [35, 34, 33, 32, 31, 30, 29, 28, 27, 26, 25, 24, 23, 22, 21, 20, 19, 18, 17, 16, 15, 14, 13, 12, 11, 10, 9, 8, 7, 6, 5, 4, 3, 2, 1, 0]) (by decide) zs_80 (by decide) rfl (by decide) (zs_pth (i := 36) (j := 0) (by decide) (by decide)) zC8 (by decide) (by unfold GF; rfl) (by simp [zPu]) (by simp [zPu]; rfl) (fun c9 hc9 => by simp [zPu, hc9]) dX7_init_66 (fun _ _ Z => ?_)
  refine lv_iinc (v := 37) (lv' := [(4, .int 37), (0, .ref (A0 + 79)), (1, .ref (A0 + 3)), (2, .ref (A0 + 37)), (3, .ref (A0 + 27))]) hx hb dX7_init_67 hl (k := 0) rfl (by decide) (by decide) rfl (fun ls hl => ?_)
  refine lv_goto (tgt := 43) hx hb dX7_init_70 (by decide) ?_
  refine lv_iload hx hb dX7_init_43 (lv_at hl 0 rfl) ?_
  refine lv_aload_n hx hb dX7_init_45 rfl (lv_at hl 1 rfl) ?_
  refine zw_getR F Z.1 zC7 (a := 79) (k := 3) (by decide) zs_79 (by decide) rfl (b := 80) (by rw [zGx_p (ks := [2, 1, 0, 12, 3]) (by decide) (by simp [zPu])]; exact (if_pos (by decide)).trans zg_79_3) zq463 (Or.inl rfl) dX7_init_46 ?_
  refine zw_alen F Z.1 (ty := 4) (v := 61) (by decide) zs_80 rfl rfl dX7_init_49 ?_
  refine lv_icmp_ge (tgt := 73) hx hb dX7_init_50 (by decide) (fun q => absurd q (by decide)) (fun _ => ?_)
  refine lv_aload_n hx hb dX7_init_53 rfl (lv_at hl 1 rfl) ?_
  refine zw_getR F Z.1 zC7 (a := 79) (k := 3) (by decide) zs_79 (by decide) rfl (b := 80) (by rw [zGx_p (ks := [2, 1, 0, 12, 3]) (by decide) (by simp [zPu])]; exact (if_pos (by decide)).trans zg_79_3) zq463 (Or.inl rfl) dX7_init_54 ?_
  refine lv_iload hx hb dX7_init_57 (lv_at hl 0 rfl) ?_
  refine zk_new F Z hz0 rfl zC8 (zs_pth (i := 37) (j := 0) (by decide) (by decide)) (by decide +kernel) zq455 zq213 zq81 (Nat.le_of_ble_eq_true rfl) (Nat.le_of_ble_eq_true rfl) dX7_init_59 (fun _ Z => ?_)
  have Z : zhc D A0 σ (zPu (zPu (zPu P 79 (some [2, 1, 0, 12, 3])) 80 (some [36, 35, 34, 33, 32, 31, 30, 29, 28, 27, 26, 25, 24, 23, 22, 21, 20, 19, 18, 17, 16, 15, 14, 13, 12, 11, 10, 9, 8, 7, 6, 5, 4, 3, 2, 1, 0])) 455 (some [])) 456 s.heap _ _ := Z
  refine W.widen (k := 376) (n := 31043) (Nat.le_of_ble_eq_true rfl) (Nat.le_of_ble_eq_true rfl) ?_
  refine lv_dup hx hb dX7_init_62 rfl ?_
  refine zsized fun hle => ?_
  refine zc_vm Z.1 (zr_IN F Z.1 (a := 455) (zsz Z.1 hz0 rfl hle) (As := []) (zci_State l D A0 σ (zPu (zPu P 79 (some [2, 1, 0, 12, 3])) 80 (some [36, 35, 34, 33, 32, 31, 30, 29, 28, 27, 26, 25, 24, 23, 22, 21, 20, 19, 18, 17, 16, 15, 14, 13, 12, 11, 10, 9, 8, 7, 6, 5, 4, 3, 2, 1, 0])) 455 (Or.inr (Or.inr (Or.inr ⟨37, by decide, rfl⟩))) (by simp [zPu]; try exact hPn _ (by decide)) Z.2) zBI_State (by decide) rfl ⟨⟨rfl, rfl⟩, Nat.le_of_ble_eq_true rfl, Nat.le_of_ble_eq_true rfl⟩ hl.1 rfl (Nat.le_of_ble_eq_true rfl) dX7_init_63 ⟨Nat.le_of_ble_eq_true rfl, Nat.le_of_ble_eq_true rfl⟩) (fun _ _ Z1 => ?_)
  have Z : zhc D A0 σ (zPu (zPu P 79 (some [2, 1, 0, 12, 3])) 80 (some [36, 35, 34, 33, 32, 31, 30, 29, 28, 27, 26, 25, 24, 23, 22, 21, 20, 19, 18, 17, 16, 15, 14, 13, 12, 11, 10, 9, 8, 7, 6, 5, 4, 3, 2, 1, 0])) 465 s.heap _ _ := ⟨Z1, fun a9 ha9 => Z.2 a9 (Nat.le_trans (by decide) ha9)⟩
  refine W.widen (k := 385) (n := 31115) (Nat.le_of_ble_eq_true rfl) (Nat.le_of_ble_eq_true rfl) ?_
  refine zk_aast F Z (ty := 4) (N := 61) (P1 := (zPu (zPu P 79 (some [2, 1, 0, 12, 3])) 80 (some [37, 36, 35, 34, 33, 32, 31, 30, 29, 28, 27, 26, 25, 24, 23, 22, 21, 20, 19, 18, 17, 16, 15, 14, 13, 12, 11, 10, 9, 8, 7, 6, 5, 4, 3, 2, 1, 0]))) (ks := [36, 35, 34, 33, 32, 31, 30, 29, 28, 27, 26, 25, 24, 23, 22, 21, 20, 19, 18, 17, 16, 15, 14, 13, 12, 11, 10, 9, 8, 7, 6, 5, 4, 3, 2, 1, 0]) (by decide) zs_80 (by decide) rfl (by decide) (zs_pth (i := 37) (j := 0) (by decide) (by decide)) zC8 (by decide) (by unfold GF; rfl) (by simp [zPu]) (by simp [zPu]; rfl) (fun c9 hc9 => by simp [zPu, hc9]) dX7_init_66 (fun _ _ Z => ?_)
  refine lv_iinc (v := 38) (lv' := [(4, .int 38), (0, .ref (A0 + 79)), (1, .ref (A0 + 3)), (2, .ref (A0 + 37)), (3, .ref (A0 + 27))]) hx hb dX7_init_67 hl (k := 0) rfl (by decide) (by decide) rfl (fun ls hl => ?_)
  refine lv_goto (tgt := 43) hx hb dX7_init_70 (by decide) ?_
  refine lv_iload hx hb dX7_init_43 (lv_at hl 0 rfl) ?_
  refine lv_aload_n hx hb dX7_init_45 rfl (lv_at hl 1 rfl) ?_
  refine zw_getR F Z.1 zC7 (a := 79) (k := 3) (by decide) zs_79 (by decide) rfl (b := 80) (by rw [zGx_p (ks := [2, 1, 0, 12, 3]) (by decide) (by simp [zPu])]; exact (if_pos (by decide)).trans zg_79_3) zq463 (Or.inl rfl) dX7_init_46 ?_
  refine zw_alen F Z.1 (ty := 4) (v := 61) (by decide) zs_80 rfl rfl dX7_init_49 ?_
  refine lv_icmp_ge (tgt := 73) hx hb dX7_init_50 (by decide) (fun q => absurd q (by decide)) (fun _ => ?_)
  refine lv_aload_n hx hb dX7_init_53 rfl (lv_at hl 1 rfl) ?_
  refine zw_getR F Z.1 zC7 (a := 79) (k := 3) (by decide) zs_79 (by decide) rfl (b := 80) (by rw [zGx_p (ks := [2, 1, 0, 12, 3]) (by decide) (by simp [zPu])]; exact (if_pos (by decide)).trans zg_79_3) zq463 (Or.inl rfl) dX7_init_54 ?_
  refine lv_iload hx hb dX7_init_57 (lv_at hl 0 rfl) ?_
  refine zk_new F Z hz0 rfl zC8 (zs_pth (i := 38) (j := 0) (by decide) (by decide)) (by decide +kernel) zq455 zq213 zq81 (Nat.le_of_ble_eq_true rfl) (Nat.le_of_ble_eq_true rfl) dX7_init_59 (fun _ Z => ?_)
  have Z : zhc D A0 σ (zPu (zPu (zPu P 79 (some [2, 1, 0, 12, 3])) 80 (some [37, 36, 35, 34, 33, 32, 31, 30, 29, 28, 27, 26, 25, 24, 23, 22, 21, 20, 19, 18, 17, 16, 15, 14, 13, 12, 11, 10, 9, 8, 7, 6, 5, 4, 3, 2, 1, 0])) 465 (some [])) 466 s.heap _ _ := Z
  refine W.widen (k := 386) (n := 31129) (Nat.le_of_ble_eq_true rfl) (Nat.le_of_ble_eq_true rfl) ?_
  refine lv_dup hx hb dX7_init_62 rfl ?_
  refine zsized fun hle => ?_
  refine zc_vm Z.1 (zr_IN F Z.1 (a := 465) (zsz Z.1 hz0 rfl hle) (As := []) (zci_State l D A0 σ (zPu (zPu P 79 (some [2, 1, 0, 12, 3])) 80 (some [37, 36, 35, 34, 33, 32, 31, 30, 29, 28, 27, 26, 25, 24, 23, 22, 21, 20, 19, 18, 17, 16, 15, 14, 13, 12, 11, 10, 9, 8, 7, 6, 5, 4, 3, 2, 1, 0])) 465 (Or.inr (Or.inr (Or.inr ⟨38, by decide, rfl⟩))) (by simp [zPu]; try exact hPn _ (by decide)) Z.2) zBI_State (by decide) rfl ⟨⟨rfl, rfl⟩, Nat.le_of_ble_eq_true rfl, Nat.le_of_ble_eq_true rfl⟩ hl.1 rfl (Nat.le_of_ble_eq_true rfl) dX7_init_63 ⟨Nat.le_of_ble_eq_true rfl, Nat.le_of_ble_eq_true rfl⟩) (fun _ _ Z1 => ?_)
  have Z : zhc D A0 σ (zPu (zPu P 79 (some [2, 1, 0, 12, 3])) 80 (some [37, 36, 35, 34, 33, 32, 31, 30, 29, 28, 27, 26, 25, 24, 23, 22, 21, 20, 19, 18, 17, 16, 15, 14, 13, 12, 11, 10, 9, 8, 7, 6, 5, 4, 3, 2, 1, 0])) 475 s.heap _ _ := ⟨Z1, fun a9 ha9 => Z.2 a9 (Nat.le_trans (by decide) ha9)⟩
  refine W.widen (k := 395) (n := 31201) (Nat.le_of_ble_eq_true rfl) (Nat.le_of_ble_eq_true rfl) ?_
  refine zk_aast F Z (ty := 4) (N := 61) (P1 := (zPu (zPu P 79 (some [2, 1, 0, 12, 3])) 80 (some [38, 37, 36, 35, 34, 33, 32, 31, 30, 29, 28, 27, 26, 25, 24, 23, 22, 21, 20, 19, 18, 17, 16, 15, 14, 13, 12, 11, 10, 9, 8, 7, 6, 5, 4, 3, 2, 1, 0]))) (ks := [37, 36, 35, 34, 33, 32, 31, 30, 29, 28, 27, 26, 25, 24, 23, 22, 21, 20, 19, 18, 17, 16, 15, 14, 13, 12, 11, 10, 9, 8, 7, 6, 5, 4, 3, 2, 1, 0]) (by decide) zs_80 (by decide) rfl (by decide) (zs_pth (i := 38) (j := 0) (by decide) (by decide)) zC8 (by decide) (by unfold GF; rfl) (by simp [zPu]) (by simp [zPu]; rfl) (fun c9 hc9 => by simp [zPu, hc9]) dX7_init_66 (fun _ _ Z => ?_)
  refine lv_iinc (v := 39) (lv' := [(4, .int 39), (0, .ref (A0 + 79)), (1, .ref (A0 + 3)), (2, .ref (A0 + 37)), (3, .ref (A0 + 27))]) hx hb dX7_init_67 hl (k := 0) rfl (by decide) (by decide) rfl (fun ls hl => ?_)
  refine lv_goto (tgt := 43) hx hb dX7_init_70 (by decide) ?_
  refine lv_iload hx hb dX7_init_43 (lv_at hl 0 rfl) ?_
  refine lv_aload_n hx hb dX7_init_45 rfl (lv_at hl 1 rfl) ?_
  refine zw_getR F Z.1 zC7 (a := 79) (k := 3) (by decide) zs_79 (by decide) rfl (b := 80) (by rw [zGx_p (ks := [2, 1, 0, 12, 3]) (by decide) (by simp [zPu])]; exact (if_pos (by decide)).trans zg_79_3) zq463 (Or.inl rfl) dX7_init_46 ?_
  refine zw_alen F Z.1 (ty := 4) (v := 61) (by decide) zs_80 rfl rfl dX7_init_49 ?_
  refine lv_icmp_ge (tgt := 73) hx hb dX7_init_50 (by decide) (fun q => absurd q (by decide)) (fun _ => ?_)
  refine lv_aload_n hx hb dX7_init_53 rfl (lv_at hl 1 rfl) ?_
  refine zw_getR F Z.1 zC7 (a := 79) (k := 3) (by decide) zs_79 (by decide) rfl (b := 80) (by rw [zGx_p (ks := [2, 1, 0, 12, 3]) (by decide) (by simp [zPu])]; exact (if_pos (by decide)).trans zg_79_3) zq463 (Or.inl rfl) dX7_init_54 ?_
  refine lv_iload hx hb dX7_init_57 (lv_at hl 0 rfl) ?_
  refine zk_new F Z hz0 rfl zC8 (zs_pth (i := 39) (j := 0) (by decide) (by decide)) (by decide +kernel) zq455 zq213 zq81 (Nat.le_of_ble_eq_true rfl) (Nat.le_of_ble_eq_true rfl) dX7_init_59 (fun _ Z => ?_)
  have Z : zhc D A0 σ (zPu (zPu (zPu P 79 (some [2, 1, 0, 12, 3])) 80 (some [38, 37, 36, 35, 34, 33, 32, 31, 30, 29, 28, 27, 26, 25, 24, 23, 22, 21, 20, 19, 18, 17, 16, 15, 14, 13, 12, 11, 10, 9, 8, 7, 6, 5, 4, 3, 2, 1, 0])) 475 (some [])) 476 s.heap _ _ := Z
  refine W.widen (k := 396) (n := 31215) (Nat.le_of_ble_eq_true rfl) (Nat.le_of_ble_eq_true rfl) ?_
  refine lv_dup hx hb dX7_init_62 rfl ?_
  refine zsized fun hle => ?_
  refine zc_vm Z.1 (zr_IN F Z.1 (a := 475) (zsz Z.1 hz0 rfl hle) (As := []) (zci_State l D A0 σ (zPu (zPu P 79 (some [2, 1, 0, 12, 3])) 80 (some [38, 37, 36, 35, 34, 33, 32, 31, 30, 29, 28, 27, 26, 25, 24, 23, 22, 21, 20, 19, 18, 17, 16, 15, 14, 13, 12, 11, 10, 9, 8, 7, 6, 5, 4, 3, 2, 1, 0])) 475 (Or.inr (Or.inr (Or.inr ⟨39, by decide, rfl⟩))) (by simp [zPu]; try exact hPn _ (by decide)) Z.2) zBI_State (by decide) rfl ⟨⟨rfl, rfl⟩, Nat.le_of_ble_eq_true rfl, Nat.le_of_ble_eq_true rfl⟩ hl.1 rfl (Nat.le_of_ble_eq_true rfl) dX7_init_63 ⟨Nat.le_of_ble_eq_true rfl, Nat.le_of_ble_eq_true rfl⟩) (fun _ _ Z1 => ?_)
  have Z : zhc D A0 σ (zPu (zPu P 79 (some [2, 1, 0, 12, 3])) 80 (some [38, 37, 36, 35, 34, 33, 32, 31, 30, 29, 28, 27, 26, 25, 24, 23, 22, 21, 20, 19, 18, 17, 16, 15, 14, 13, 12, 11, 10, 9, 8, 7, 6, 5, 4, 3, 2, 1, 0])) 485 s.heap _ _ := ⟨Z1, fun a9 ha9 => Z.2 a9 (Nat.le_trans (by decide) ha9)⟩
  refine W.widen (k := 405) (n := 31287) (Nat.le_of_ble_eq_true rfl) (Nat.le_of_ble_eq_true rfl) ?_
  refine zk_aast F Z (ty := 4) (N := 61) (P1 := (zPu (zPu P 79 (some [2, 1, 0, 12, 3])) 80 (some [39, 38, 37, 36, 35, 34, 33, 32, 31, 30, 29, 28, 27, 26, 25, 24, 23, 22, 21, 20, 19, 18, 17, 16, 15, 14, 13, 12, 11, 10, 9, 8, 7, 6, 5, 4, 3, 2, 1, 0]))) (ks := [38, 37, 36, 35, 34, 33, 32, 31, 30, 29, 28, 27, 26, 25, 24, 23, 22, 21, 20, 19, 18, 17, 16, 15, 14, 13, 12, 11, 10, 9, 8, 7, 6, 5, 4, 3, 2, 1, 0]) (by decide) zs_80 (by decide) rfl (by decide) (zs_pth (i := 39) (j := 0) (by decide) (by decide)) zC8 (by decide) (by unfold GF; rfl) (by simp [zPu]) (by simp [zPu]; rfl) (fun c9 hc9 => by simp [zPu, hc9]) dX7_init_66 (fun _ _ Z => ?_)
  refine lv_iinc (v := 40) (lv' := [(4, .int 40), (0, .ref (A0 + 79)), (1, .ref (A0 + 3)), (2, .ref (A0 + 37)), (3, .ref (A0 + 27))]) hx hb dX7_init_67 hl (k := 0) rfl (by decide) (by decide) rfl (fun ls hl => ?_)
  refine lv_goto (tgt := 43) hx hb dX7_init_70 (by decide) ?_
  refine lv_iload hx hb dX7_init_43 (lv_at hl 0 rfl) ?_
  refine lv_aload_n hx hb dX7_init_45 rfl (lv_at hl 1 rfl) ?_
  refine zw_getR F Z.1 zC7 (a := 79) (k := 3) (by decide) zs_79 (by decide) rfl (b := 80) (by rw [zGx_p (ks := [2, 1, 0, 12, 3]) (by decide) (by simp [zPu])]; exact (if_pos (by decide)).trans zg_79_3) zq463 (Or.inl rfl) dX7_init_46 ?_
  refine zw_alen F Z.1 (ty := 4) (v := 61) (by decide) zs_80 rfl rfl dX7_init_49 ?_
  refine lv_icmp_ge (tgt := 73) hx hb dX7_init_50 (by decide) (fun q => absurd q (by decide)) (fun _ => ?_)
  refine lv_aload_n hx hb dX7_init_53 rfl (lv_at hl 1 rfl) ?_
  refine zw_getR F Z.1 zC7 (a := 79) (k := 3) (by decide) zs_79 (by decide) rfl (b := 80) (by rw [zGx_p (ks := [2, 1, 0, 12, 3]) (by decide) (by simp [zPu])]; exact (if_pos (by decide)).trans zg_79_3) zq463 (Or.inl rfl) dX7_init_54 ?_
  refine lv_iload hx hb dX7_init_57 (lv_at hl 0 rfl) ?_
  refine zk_new F Z hz0 rfl zC8 (zs_pth (i := 40) (j := 0) (by decide) (by decide)) (by decide +kernel) zq455 zq213 zq81 (Nat.le_of_ble_eq_true rfl) (Nat.le_of_ble_eq_true rfl) dX7_init_59 (fun _ Z => ?_)
  have Z : zhc D A0 σ (zPu (zPu (zPu P 79 (some [2, 1, 0, 12, 3])) 80 (some [39, 38, 37, 36, 35, 34, 33, 32, 31, 30, 29, 28, 27, 26, 25, 24, 23, 22, 21, 20, 19, 18, 17, 16, 15, 14, 13, 12, 11, 10, 9, 8, 7, 6, 5, 4, 3, 2, 1, 0])) 485 (some [])) 486 s.heap _ _ := Z
  refine W.widen (k := 406) (n := 31301) (Nat.le_of_ble_eq_true rfl) (Nat.le_of_ble_eq_true rfl) ?_
  refine lv_dup hx hb dX7_init_62 rfl ?_
  refine zsized fun hle => ?_
  refine zc_vm Z.1 (zr_IN F Z.1 (a := 485) (zsz Z.1 hz0 rfl hle) (As := []) (zci_State l D A0 σ (zPu (zPu P 79 (some [2, 1, 0, 12, 3])) 80 (some [39, 38, 37, 36, 35, 34, 33, 32, 31, 30, 29, 28, 27, 26, 25, 24, 23, 22, 21, 20, 19, 18, 17, 16, 15, 14, 13, 12, 11, 10, 9, 8, 7, 6, 5, 4, 3, 2, 1, 0])) 485 (Or.inr (Or.inr (Or.inr ⟨40, by decide, rfl⟩))) (by simp [zPu]; try exact hPn _ (by decide)) Z.2) zBI_State (by decide) rfl ⟨⟨rfl, rfl⟩, Nat.le_of_ble_eq_true rfl, Nat.le_of_ble_eq_true rfl⟩ hl.1 rfl (Nat.le_of_ble_eq_true rfl) dX7_init_63 ⟨Nat.le_of_ble_eq_true rfl, Nat.le_of_ble_eq_true rfl⟩) (fun _ _ Z1 => ?_)
  have Z : zhc D A0 σ (zPu (zPu P 79 (some [2, 1, 0, 12, 3])) 80 (some [39, 38, 37, 36, 35, 34, 33, 32, 31, 30, 29, 28, 27, 26, 25, 24, 23, 22, 21, 20, 19, 18, 17, 16, 15, 14, 13, 12, 11, 10, 9, 8, 7, 6, 5, 4, 3, 2, 1, 0])) 495 s.heap _ _ := ⟨Z1, fun a9 ha9 => Z.2 a9 (Nat.le_trans (by decide) ha9)⟩
  refine W.widen (k := 415) (n := 31373) (Nat.le_of_ble_eq_true rfl) (Nat.le_of_ble_eq_true rfl) ?_
  refine zk_aast F Z (ty := 4) (N := 61) (P1 := (zPu (zPu P 79 (some [2, 1, 0, 12, 3])) 80 (some [40, 39, 38, 37, 36, 35, 34, 33, 32, 31, 30, 29, 28, 27, 26, 25, 24, 23, 22, 21, 20, 19, 18, 17, 16, 15, 14, 13, 12, 11, 10, 9, 8, 7, 6, 5, 4, 3, 2, 1, 0]))) (ks := [39, 38, 37, 36, 35, 34, 33, 32, 31, 30, 29, 28, 27, 26, 25, 24, 23, 22, 21, 20, 19, 18, 17, 16, 15, 14, 13, 12, 11, 10, 9, 8, 7, 6, 5, 4, 3, 2, 1, 0]) (by decide) zs_80 (by decide) rfl (by decide) (zs_pth (i := 40) (j := 0) (by decide) (by decide)) zC8 (by decide) (by unfold GF; rfl) (by simp [zPu]) (by simp [zPu]; rfl) (fun c9 hc9 => by simp [zPu, hc9]) dX7_init_66 (fun _ _ Z => ?_)
  refine lv_iinc (v := 41) (lv' := [(4, .int 41), (0, .ref (A0 + 79)), (1, .ref (A0 + 3)), (2, .ref (A0 + 37)), (3, .ref (A0 + 27))]) hx hb dX7_init_67 hl (k := 0) rfl (by decide) (by decide) rfl (fun ls hl => ?_)
  refine lv_goto (tgt := 43) hx hb dX7_init_70 (by decide) ?_
  refine lv_iload hx hb dX7_init_43 (lv_at hl 0 rfl) ?_
  refine lv_aload_n hx hb dX7_init_45 rfl (lv_at hl 1 rfl) ?_
  refine zw_getR F Z.1 zC7 (a := 79) (k := 3) (by decide) zs_79 (by decide) rfl (b := 80) (by rw [zGx_p (ks := [2, 1, 0, 12, 3]) (by decide) (by simp [zPu])]; exact (if_pos (by decide)).trans zg_79_3) zq463 (Or.inl rfl) dX7_init_46 ?_
  refine zw_alen F Z.1 (ty := 4) (v := 61) (by decide) zs_80 rfl rfl dX7_init_49 ?_
  refine lv_icmp_ge (tgt := 73) hx hb dX7_init_50 (by decide) (fun q => absurd q (by decide)) (fun _ => ?_)
  refine lv_aload_n hx hb dX7_init_53 rfl (lv_at hl 1 rfl) ?_
  refine zw_getR F Z.1 zC7 (a := 79) (k := 3) (by decide) zs_79 (by decide) rfl (b := 80) (by rw [zGx_p (ks := [2, 1, 0, 12, 3]) (by decide) (by simp [zPu])]; exact (if_pos (by decide)).trans zg_79_3) zq463 (Or.inl rfl) dX7_init_54 ?_
  refine lv_iload hx hb dX7_init_57 (lv_at hl 0 rfl) ?_
  refine zk_new F Z hz0 rfl zC8 (zs_pth (i := 41) (j := 0) (by decide) (by decide)) (by decide +kernel) zq455 zq213 zq81 (Nat.le_of_ble_eq_true rfl) (Nat.le_of_ble_eq_true rfl) dX7_init_59 (fun _ Z => ?_)
  have Z : zhc D A0 σ (zPu (zPu (zPu P 79 (some [2, 1, 0, 12, 3])) 80 (some [40, 39, 38, 37, 36, 35, 34, 33, 32, 31, 30, 29, 28, 27, 26, 25, 24, 23, 22, 21, 20, 19, 18, 17, 16, 15, 14, 13, 12, 11, 10, 9, 8, 7, 6, 5, 4, 3, 2, 1, 0])) 495 (some [])) 496 s.heap _ _ := Z
  refine W.widen (k := 416) (n := 31387) (Nat.le_of_ble_eq_true rfl) (Nat.le_of_ble_eq_true rfl) ?_
  refine lv_dup hx hb dX7_init_62 rfl ?_
  refine zsized fun hle => ?_
  refine zc_vm Z.1 (zr_IN F Z.1 (a := 495) (zsz Z.1 hz0 rfl hle) (As := []) (zci_State l D A0 σ (zPu (zPu P 79 (some [2, 1, 0, 12, 3])) 80 (some [40, 39, 38, 37, 36, 35, 34, 33, 32, 31, 30, 29, 28, 27, 26, 25, 24, 23, 22, 21, 20, 19, 18, 17, 16, 15, 14, 13, 12, 11, 10, 9, 8, 7, 6, 5, 4, 3, 2, 1, 0])) 495 (Or.inr (Or.inr (Or.inr ⟨41, by decide, rfl⟩))) (by simp [zPu]; try exact hPn _ (by decide)) Z.2) zBI_State (by decide) rfl ⟨⟨rfl, rfl⟩, Nat.le_of_ble_eq_true rfl, Nat.le_of_ble_eq_true rfl⟩ hl.1 rfl (Nat.le_of_ble_eq_true rfl) dX7_init_63 ⟨Nat.le_of_ble_eq_true rfl, Nat.le_of_ble_eq_true rfl⟩) (fun _ _ Z1 => ?_)
  have Z : zhc D A0 σ (zPu (zPu P 79 (some [2, 1, 0, 12, 3])) 80 (some [40, 39, 38, 37, 36, 35, 34, 33, 32, 31, 30, 29, 28, 27, 26, 25, 24, 23, 22, 21, 20, 19, 18, 17, 16, 15, 14, 13, 12, 11, 10, 9, 8, 7, 6, 5, 4, 3, 2, 1, 0])) 505 s.heap _ _ := ⟨Z1, fun a9 ha9 => Z.2 a9 (Nat.le_trans (by decide) ha9)⟩
  refine W.widen (k := 425) (n := 31459) (Nat.le_of_ble_eq_true rfl) (Nat.le_of_ble_eq_true rfl) ?_
  refine zk_aast F Z (ty := 4) (N := 61) (P1 := (zPu (zPu P 79 (some [2, 1, 0, 12, 3])) 80 (some [41, 40, 39, 38, 37, 36, 35, 34, 33, 32, 31, 30, 29, 28, 27, 26, 25, 24, 23, 22, 21, 20, 19, 18, 17, 16, 15, 14, 13, 12, 11, 10, 9, 8, 7, 6, 5, 4, 3, 2, 1, 0]))) (ks := [40, 39, 38, 37, 36, 35, 34, 33, 32, 31, 30, 29, 28, 27, 26, 25, 24, 23, 22, 21, 20, 19, 18, 17, 16, 15, 14, 13, 12, 11, 10, 9, 8, 7, 6, 5, 4, 3, 2, 1, 0]) (by decide) zs_80 (by decide) rfl (by decide) (zs_pth (i := 41) (j := 0) (by decide) (by decide)) zC8 (by decide) (by unfold GF; rfl) (by simp [zPu]) (by simp [zPu]; rfl) (fun c9 hc9 => by simp [zPu, hc9]) dX7_init_66 (fun _ _ Z => ?_)
  refine lv_iinc (v := 42) (lv' := [(4, .int 42), (0, .ref (A0 + 79)), (1, .ref (A0 + 3)), (2, .ref (A0 + 37)), (3, .ref (A0 + 27))]) hx hb dX7_init_67 hl (k := 0) rfl (by decide) (by decide) rfl (fun ls hl => ?_)
  refine lv_goto (tgt := 43) hx hb dX7_init_70 (by decide) ?_
  refine lv_iload hx hb dX7_init_43 (lv_at hl 0 rfl) ?_
  refine lv_aload_n hx hb dX7_init_45 rfl (lv_at hl 1 rfl) ?_
  refine zw_getR F Z.1 zC7 (a := 79) (k := 3) (by decide) zs_79 (by decide) rfl (b := 80) (by rw [zGx_p (ks := [2, 1, 0, 12, 3]) (by decide) (by simp [zPu])]; exact (if_pos (by decide)).trans zg_79_3) zq463 (Or.inl rfl) dX7_init_46 ?_
  refine zw_alen F Z.1 (ty := 4) (v := 61) (by decide) zs_80 rfl rfl dX7_init_49 ?_
  refine lv_icmp_ge (tgt := 73) hx hb dX7_init_50 (by decide) (fun q => absurd q (by decide)) (fun _ => ?_)
  refine lv_aload_n hx hb dX7_init_53 rfl (lv_at hl 1 rfl) ?_
  refine zw_getR F Z.1 zC7 (a := 79) (k := 3) (by decide) zs_79 (by decide) rfl (b := 80) (by rw [zGx_p (ks := [2, 1, 0, 12, 3]) (by decide) (by simp [zPu])]; exact (if_pos (by decide)).trans zg_79_3) zq463 (Or.inl rfl) dX7_init_54 ?_
  refine lv_iload hx hb dX7_init_57 (lv_at hl 0 rfl) ?_
  refine zk_new F Z hz0 rfl zC8 (zs_pth (i := 42) (j := 0) (by decide) (by decide)) (by decide +kernel) zq455 zq213 zq81 (Nat.le_of_ble_eq_true rfl) (Nat.le_of_ble_eq_true rfl) dX7_init_59 (fun _ Z => ?_)
  have Z : zhc D A0 σ (zPu (zPu (zPu P 79 (some [2, 1, 0, 12, 3])) 80 (some [41, 40, 39, 38, 37, 36, 35, 34, 33, 32, 31, 30, 29, 28, 27, 26, 25, 24, 23, 22, 21, 20, 19, 18, 17, 16, 15, 14, 13, 12, 11, 10, 9, 8, 7, 6, 5, 4, 3, 2, 1, 0])) 505 (some [])) 506 s.heap _ _ := Z
  refine W.widen (k := 426) (n := 31473) (Nat.le_of_ble_eq_true rfl) (Nat.le_of_ble_eq_true rfl) ?_
  refine lv_dup hx hb dX7_init_62 rfl ?_
  refine zsized fun hle => ?_
  refine zc_vm Z.1 (zr_IN F Z.1 (a := 505) (zsz Z.1 hz0 rfl hle) (As := []) (zci_State l D A0 σ (zPu (zPu P 79 (some [2, 1, 0, 12, 3])) 80 (some [41, 40, 39, 38, 37, 36, 35, 34, 33, 32, 31, 30, 29, 28, 27, 26, 25, 24, 23, 22, 21, 20, 19, 18, 17, 16, 15, 14, 13, 12, 11, 10, 9, 8, 7, 6, 5, 4, 3, 2, 1, 0])) 505 (Or.inr (Or.inr (Or.inr ⟨42, by decide, rfl⟩))) (by simp [zPu]; try exact hPn _ (by decide)) Z.2) zBI_State (by decide) rfl ⟨⟨rfl, rfl⟩, Nat.le_of_ble_eq_true rfl, Nat.le_of_ble_eq_true rfl⟩ hl.1 rfl (Nat.le_of_ble_eq_true rfl) dX7_init_63 ⟨Nat.le_of_ble_eq_true rfl, Nat.le_of_ble_eq_true rfl⟩) (fun _ _ Z1 => ?_)
  have Z : zhc D A0 σ (zPu (zPu P 79 (some [2, 1, 0, 12, 3])) 80 (some [41, 40, 39, 38, 37, 36, 35, 34, 33, 32, 31, 30, 29, 28, 27, 26, 25, 24, 23, 22, 21, 20, 19, 18, 17, 16, 15, 14, 13, 12, 11, 10, 9, 8, 7, 6, 5, 4, 3, 2, 1, 0])) 515 s.heap _ _ := ⟨Z1, fun a9 ha9 => Z.2 a9 (Nat.le_trans (by decide) ha9)⟩
  refine W.widen (k := 435) (n := 31545) (Nat.le_of_ble_eq_true rfl) (Nat.le_of_ble_eq_true rfl) ?_
  refine zk_aast F Z (ty := 4) (N := 61) (P1 := (zPu (zPu P 79 (some [2, 1, 0, 12, 3])) 80 (some [42, 41, 40, 39, 38, 37, 36, 35, 34, 33, 32, 31, 30, 29, 28, 27, 26, 25, 24, 23, 22, 21, 20, 19, 18, 17, 16, 15, 14, 13, 12, 11, 10, 9, 8, 7, 6, 5, 4, 3, 2, 1, 0]))) (ks := [41, 40, 39, 38, 37, 36, 35, 34, 33, 32, 31, 30, 29, 28, 27, 26, 25, 24, 23, 22, 21, 20, 19, 18, 17, 16, 15, 14, 13, 12, 11, 10, 9, 8, 7, 6, 5, 4, 3, 2, 1, 0]) (by decide) zs_80 (by decide) rfl (by decide) (zs_pth (i := 42) (j := 0) (by decide) (by decide)) zC8 (by decide) (by unfold GF; rfl) (by simp [zPu]) (by simp [zPu]; rfl) (fun c9 hc9 => by simp [zPu, hc9]) dX7_init_66 (fun _ _ Z => ?_)
  refine lv_iinc (v := 43) (lv' := [(4, .int 43), (0, .ref (A0 + 79)), (1, .ref (A0 + 3)), (2, .ref (A0 + 37)), (3, .ref (A0 + 27))]) hx hb dX7_init_67 hl (k := 0) rfl (by decide) (by decide) rfl (fun ls hl => ?_)
  refine lv_goto (tgt := 43) hx hb dX7_init_70 (by decide) ?_
  refine lv_iload hx hb dX7_init_43 (lv_at hl 0 rfl) ?_
  refine lv_aload_n hx hb dX7_init_45 rfl (lv_at hl 1 rfl) ?_
  refine zw_getR F Z.1 zC7 (a := 79) (k := 3) (by decide) zs_79 (by decide) rfl (b := 80) (by rw [zGx_p (ks := [2, 1, 0, 12, 3]) (by decide) (by simp [zPu])]; exact (if_pos (by decide)).trans zg_79_3) zq463 (Or.inl rfl) dX7_init_46 ?_
  refine zw_alen F Z.1 (ty := 4) (v := 61) (by decide) zs_80 rfl rfl dX7_init_49 ?_
  refine lv_icmp_ge (tgt := 73) hx hb dX7_init_50 (by decide) (fun q => absurd q (by decide)) (fun _ => ?_)
  refine lv_aload_n hx hb dX7_init_53 rfl (lv_at hl 1 rfl) ?_
  refine zw_getR F Z.1 zC7 (a := 79) (k := 3) (by decide) zs_79 (by decide) rfl (b := 80) (by rw [zGx_p (ks := [2, 1, 0, 12, 3]) (by decide) (by simp [zPu])]; exact (if_pos (by decide)).trans zg_79_3) zq463 (Or.inl rfl) dX7_init_54 ?_
  refine lv_iload hx hb dX7_init_57 (lv_at hl 0 rfl) ?_
  refine zk_new F Z hz0 rfl zC8 (zs_pth (i := 43) (j := 0) (by decide) (by decide)) (by decide +kernel) zq455 zq213 zq81 (Nat.le_of_ble_eq_true rfl) (Nat.le_of_ble_eq_true rfl) dX7_init_59 (fun _ Z => ?_)
  have Z : zhc D A0 σ (zPu (zPu (zPu P 79 (some [2, 1, 0, 12, 3])) 80 (some [42, 41, 40, 39, 38, 37, 36, 35, 34, 33, 32, 31, 30, 29, 28, 27, 26, 25, 24, 23, 22, 21, 20, 19, 18, 17, 16, 15, 14, 13, 12, 11, 10, 9, 8, 7, 6, 5, 4, 3, 2, 1, 0])) 515 (some [])) 516 s.heap _ _ := Z
  refine W.widen (k := 436) (n := 31559) (Nat.le_of_ble_eq_true rfl) (Nat.le_of_ble_eq_true rfl) ?_
  refine lv_dup hx hb dX7_init_62 rfl ?_
  refine zsized fun hle => ?_
  refine zc_vm Z.1 (zr_IN F Z.1 (a := 515) (zsz Z.1 hz0 rfl hle) (As := []) (zci_State l D A0 σ (zPu (zPu P 79 (some [2, 1, 0, 12, 3])) 80 (some [42, 41, 40, 39, 38, 37, 36, 35, 34, 33, 32, 31, 30, 29, 28, 27, 26, 25, 24, 23, 22, 21, 20, 19, 18, 17, 16, 15, 14, 13, 12, 11, 10, 9, 8, 7, 6, 5, 4, 3, 2, 1, 0])) 515 (Or.inr (Or.inr (Or.inr ⟨43, by decide, rfl⟩))) (by simp [zPu]; try exact hPn _ (by decide)) Z.2) zBI_State (by decide) rfl ⟨⟨rfl, rfl⟩, Nat.le_of_ble_eq_true rfl, Nat.le_of_ble_eq_true rfl⟩ hl.1 rfl (Nat.le_of_ble_eq_true rfl) dX7_init_63 ⟨Nat.le_of_ble_eq_true rfl, Nat.le_of_ble_eq_true rfl⟩) (fun _ _ Z1 => ?_)
  have Z : zhc D A0 σ (zPu (zPu P 79 (some [2, 1, 0, 12, 3])) 80 (some [42, 41, 40, 39, 38, 37, 36, 35, 34, 33, 32, 31, 30, 29, 28, 27, 26, 25, 24, 23, 22, 21, 20, 19, 18, 17, 16, 15, 14, 13, 12, 11, 10, 9, 8, 7, 6, 5, 4, 3, 2, 1, 0])) 525 s.heap _ _ := ⟨Z1, fun a9 ha9 => Z.2 a9 (Nat.le_trans (by decide) ha9)⟩
  refine W.widen (k := 445) (n := 31631) (Nat.le_of_ble_eq_true rfl) (Nat.le_of_ble_eq_true rfl) ?_
  refine zk_aast F Z (ty := 4) (N := 61) (P1 := (zPu (zPu P 79 (some [2, 1, 0, 12, 3])) 80 (some [43, 42, 41, 40, 39, 38, 37, 36, 35, 34, 33, 32, 31, 30, 29, 28, 27, 26, 25, 24, 23, 22, 21, 20, 19, 18, 17, 16, 15, 14, 13, 12, 11, 10, 9, 8, 7, 6, 5, 4, 3, 2, 1, 0]))) (ks := [42, 41, 40, 39, 38, 37, 36, 35, 34, 33, 32, 31, 30, 29, 28, 27, 26, 25, 24, 23, 22, 21, 20, 19, 18, 17, 16, 15, 14, 13, 12, 11, 10, 9, 8, 7, 6, 5, 4, 3, 2, 1, 0]) (by decide) zs_80 (by decide) rfl (by decide) (zs_pth (i := 43) (j := 0) (by decide) (by decide)) zC8 (by decide) (by unfold GF; rfl) (by simp [zPu]) (by simp [zPu]; rfl) (fun c9 hc9 => by simp [zPu, hc9]) dX7_init_66 (fun _ _ Z => ?_)
  refine lv_iinc (v := 44) (lv' := [(4, .int 44), (0, .ref (A0 + 79)), (1, .ref (A0 + 3)), (2, .ref (A0 + 37)), (3, .ref (A0 + 27))]) hx hb dX7_init_67 hl (k := 0) rfl (by decide) (by decide) rfl (fun ls hl => ?_)
  refine lv_goto (tgt := 43) hx hb dX7_init_70 (by decide) ?_
  refine lv_iload hx hb dX7_init_43 (lv_at hl 0 rfl) ?_
  refine lv_aload_n hx hb dX7_init_45 rfl (lv_at hl 1 rfl) ?_
  refine zw_getR F Z.1 zC7 (a := 79) (k := 3) (by decide) zs_79 (by decide) rfl (b := 80) (by rw [zGx_p (ks := [2, 1, 0, 12, 3]) (by decide) (by simp [zPu])]; exact (if_pos (by decide)).trans zg_79_3) zq463 (Or.inl rfl) dX7_init_46 ?_
  refine zw_alen F Z.1 (ty := 4) (v := 61) (by decide) zs_80 rfl rfl dX7_init_49 ?_
  refine lv_icmp_ge (tgt := 73) hx hb dX7_init_50 (by decide) (fun q => absurd q (by decide)) (fun _ => ?_)
  refine lv_aload_n hx hb dX7_init_53 rfl (lv_at hl 1 rfl) ?_
  refine zw_getR F Z.1 zC7 (a := 79) (k := 3) (by decide) zs_79 (by decide) rfl (b := 80) (by rw [zGx_p (ks := [2, 1, 0, 12, 3]) (by decide) (by simp [zPu])]; exact (if_pos (by decide)).trans zg_79_3) zq463 (Or.inl rfl) dX7_init_54 ?_
  refine lv_iload hx hb dX7_init_57 (lv_at hl 0 rfl) ?_
  refine zk_new F Z hz0 rfl zC8 (zs_pth (i := 44) (j := 0) (by decide) (by decide)) (by decide +kernel) zq455 zq213 zq81 (Nat.le_of_ble_eq_true rfl) (Nat.le_of_ble_eq_true rfl) dX7_init_59 (fun _ Z => ?_)
  have Z : zhc D A0 σ (zPu (zPu (zPu P 79 (some [2, 1, 0, 12, 3])) 80 (some [43, 42, 41, 40, 39, 38, 37, 36, 35, 34, 33, 32, 31, 30, 29, 28, 27, 26, 25, 24, 23, 22, 21, 20, 19, 18, 17, 16, 15, 14, 13, 12, 11, 10, 9, 8, 7, 6, 5, 4, 3, 2, 1, 0])) 525 (some [])) 526 s.heap _ _ := Z
  refine W.widen (k := 446) (n := 31645) (Nat.le_of_ble_eq_true rfl) (Nat.le_of_ble_eq_true rfl) ?_
  refine lv_dup hx hb dX7_init_62 rfl ?_
  refine zsized fun hle => ?_
  refine zc_vm Z.1 (zr_IN F Z.1 (a := 525) (zsz Z.1 hz0 rfl hle) (As := []) (zci_State l D A0 σ (zPu (zPu P 79 (some [2, 1, 0, 12, 3])) 80 (some [43, 42, 41, 40, 39, 38, 37, 36, 35, 34, 33, 32, 31, 30, 29, 28, 27, 26, 25, 24, 23, 22, 21, 20, 19, 18, 17, 16, 15, 14, 13, 12, 11, 10, 9, 8, 7, 6, 5, 4, 3, 2, 1, 0])) 525 (Or.inr (Or.inr (Or.inr ⟨44, by decide, rfl⟩))) (by simp [zPu]; try exact hPn _ (by decide)) Z.2) zBI_State (by decide) rfl ⟨⟨rfl, rfl⟩, Nat.le_of_ble_eq_true rfl, Nat.le_of_ble_eq_true rfl⟩ hl.1 rfl (Nat.le_of_ble_eq_true rfl) dX7_init_63 ⟨Nat.le_of_ble_eq_true rfl, Nat.le_of_ble_eq_true rfl⟩) (fun _ _ Z1 => ?_)
  have Z : zhc D A0 σ (zPu (zPu P 79 (some [2, 1, 0, 12, 3])) 80 (some [43, 42, 41, 40, 39, 38, 37, 36, 35, 34, 33, 32, 31, 30, 29, 28, 27, 26, 25, 24, 23, 22, 21, 20, 19, 18, 17, 16, 15, 14, 13, 12, 11, 10, 9, 8, 7, 6, 5, 4, 3, 2, 1, 0])) 535 s.heap _ _ := ⟨Z1, fun a9 ha9 => Z.2 a9 (Nat.le_trans (by decide) ha9)⟩
  refine W.widen (k := 455) (n := 31717) (Nat.le_of_ble_eq_true rfl) (Nat.le_of_ble_eq_true rfl) ?_
  refine zk_aast F Z (ty := 4) (N := 61) (P1 := (zPu (zPu P 79 (some [2, 1, 0, 12, 3])) 80 (some [44, 43, 42, 41, 40, 39, 38, 37, 36, 35, 34, 33, 32, 31, 30, 29, 28, 27, 26, 25, 24, 23, 22, 21, 20, 19, 18, 17, 16, 15, 14, 13, 12, 11, 10, 9, 8, 7, 6, 5, 4, 3, 2, 1, 0]))) (ks := [43, 42, 41, 40, 39, 38, 37, 36, 35, 34, 33, 32, 31, 30, 29, 28, 27, 26, 25, 24, 23, 22, 21, 20, 19, 18, 17, 16, 15, 14, 13, 12, 11, 10, 9, 8, 7, 6, 5, 4, 3, 2, 1, 0]) (by decide) zs_80 (by decide) rfl (by decide) (zs_pth (i := 44) (j := 0) (by decide) (by decide)) zC8 (by decide) (by unfold GF; rfl) (by simp [zPu]) (by simp [zPu]; rfl) (fun c9 hc9 => by simp [zPu, hc9]) dX7_init_66 (fun _ _ Z => ?_)
  refine lv_iinc (v := 45) (lv' := [(4, .int 45), (0, .ref (A0 + 79)), (1, .ref (A0 + 3)), (2, .ref (A0 + 37)), (3, .ref (A0 + 27))]) hx hb dX7_init_67 hl (k := 0) rfl (by decide) (by decide) rfl (fun ls hl => ?_)
  refine lv_goto (tgt := 43) hx hb dX7_init_70 (by decide) ?_
  refine lv_iload hx hb dX7_init_43 (lv_at hl 0 rfl) ?_
  refine lv_aload_n hx hb dX7_init_45 rfl (lv_at hl 1 rfl) ?_
  refine zw_getR F Z.1 zC7 (a := 79) (k := 3) (by decide) zs_79 (by decide) rfl (b := 80) (by rw [zGx_p (ks := [2, 1, 0, 12, 3]) (by decide) (by simp [zPu])]; exact (if_pos (by decide)).trans zg_79_3) zq463 (Or.inl rfl) dX7_init_46 ?_
  refine zw_alen F Z.1 (ty := 4) (v := 61) (by decide) zs_80 rfl rfl dX7_init_49 ?_
  refine lv_icmp_ge (tgt := 73) hx hb dX7_init_50 (by decide) (fun q => absurd q (by decide)) (fun _ => ?_)
  refine lv_aload_n hx hb dX7_init_53 rfl (lv_at hl 1 rfl) ?_
  refine zw_getR F Z.1 zC7 (a := 79) (k := 3) (by decide) zs_79 (by decide) rfl (b := 80) (by rw [zGx_p (ks := [2, 1, 0, 12, 3]) (by decide) (by simp [zPu])]; exact (if_pos (by decide)).trans zg_79_3) zq463 (Or.inl rfl) dX7_init_54 ?_
  refine lv_iload hx hb dX7_init_57 (lv_at hl 0 rfl) ?_
  refine zk_new F Z hz0 rfl zC8 (zs_pth (i := 45) (j := 0) (by decide) (by decide)) (by decide +kernel) zq455 zq213 zq81 (Nat.le_of_ble_eq_true rfl) (Nat.le_of_ble_eq_true rfl) dX7_init_59 (fun _ Z => ?_)
  have Z : zhc D A0 σ (zPu (zPu (zPu P 79 (some [2, 1, 0, 12, 3])) 80 (some [44, 43, 42, 41, 40, 39, 38, 37, 36, 35, 34, 33, 32, 31, 30, 29, 28, 27, 26, 25, 24, 23, 22, 21, 20, 19, 18, 17, 16, 15, 14, 13, 12, 11, 10, 9, 8, 7, 6, 5, 4, 3, 2, 1, 0])) 535 (some [])) 536 s.heap _ _ := Z
  refine W.widen (k := 456) (n := 31731) (Nat.le_of_ble_eq_true rfl) (Nat.le_of_ble_eq_true rfl) ?_
  refine lv_dup hx hb dX7_init_62 rfl ?_
  refine zsized fun hle => ?_
  refine zc_vm Z.1 (zr_IN F Z.1 (a := 535) (zsz Z.1 hz0 rfl hle) (As := []) (zci_State l D A0 σ (zPu (zPu P 79 (some [2, 1, 0, 12, 3])) 80 (some [44, 43, 42, 41, 40, 39, 38, 37, 36, 35, 34, 33, 32, 31, 30, 29, 28, 27, 26, 25, 24, 23, 22, 21, 20, 19, 18, 17, 16, 15, 14, 13, 12, 11, 10, 9, 8, 7, 6, 5, 4, 3, 2, 1, 0])) 535 (Or.inr (Or.inr (Or.inr ⟨45, by decide, rfl⟩))) (by simp [zPu]; try exact hPn _ (by decide)) Z.2) zBI_State (by decide) rfl ⟨⟨rfl, rfl⟩, Nat.le_of_ble_eq_true rfl, Nat.le_of_ble_eq_true rfl⟩ hl.1 rfl (Nat.le_of_ble_eq_true rfl) dX7_init_63 ⟨Nat.le_of_ble_eq_true rfl, Nat.le_of_ble_eq_true rfl⟩) (fun _ _ Z1 => ?_)
  have Z : zhc D A0 σ (zPu (zPu P 79 (some [2, 1, 0, 12, 3])) 80 (some [44, 43, 42, 41, 40, 39, 38, 37, 36, 35, 34, 33, 32, 31, 30, 29, 28, 27, 26, 25, 24, 23, 22, 21, 20, 19, 18, 17, 16, 15, 14, 13, 12, 11, 10, 9, 8, 7, 6, 5, 4, 3, 2, 1, 0])) 545 s.heap _ _ := ⟨Z1, fun a9 ha9 => Z.2 a9 (Nat.le_trans (by decide) ha9)⟩
  refine W.widen (k := 465) (n := 31803) (Nat.le_of_ble_eq_true rfl) (Nat.le_of_ble_eq_true rfl) ?_
  refine zk_aast F Z (ty := 4) (N := 61) (P1 := (zPu (zPu P 79 (some [2, 1, 0, 12, 3])) 80 (some [45, 44, 43, 42, 41, 40, 39, 38, 37, 36, 35, 34, 33, 32, 31, 30, 29, 28, 27, 26, 25, 24, 23, 22, 21, 20, 19, 18, 17, 16, 15, 14, 13, 12, 11, 10, 9, 8, 7, 6, 5, 4, 3, 2, 1, 0]))) (ks := [44, 43, 42, 41, 40, 39, 38, 37, 36, 35, 34, 33, 32, 31, 30, 29, 28, 27, 26, 25, 24, 23, 22, 21, 20, 19, 18, 17, 16, 15, 14, 13, 12, 11, 10, 9, 8, 7, 6, 5, 4, 3, 2, 1, 0]) (by decide) zs_80 (by decide) rfl (by decide) (zs_pth (i := 45) (j := 0) (by decide) (by decide)) zC8 (by decide) (by unfold GF; rfl) (by simp [zPu]) (by simp [zPu]; rfl) (fun c9 hc9 => by simp [zPu, hc9]) dX7_init_66 (fun _ _ Z => ?_)
  refine lv_iinc (v := 46) (lv' := [(4, .int 46), (0, .ref (A0 + 79)), (1, .ref (A0 + 3)), (2, .ref (A0 + 37)), (3, .ref (A0 + 27))]) hx hb dX7_init_67 hl (k := 0) rfl (by decide) (by decide) rfl (fun ls hl => ?_)
  refine lv_goto (tgt := 43) hx hb dX7_init_70 (by decide) ?_
  refine lv_iload hx hb dX7_init_43 (lv_at hl 0 rfl) ?_
  refine lv_aload_n hx hb dX7_init_45 rfl (lv_at hl 1 rfl) ?_
  refine zw_getR F Z.1 zC7 (a := 79) (k := 3) (by decide) zs_79 (by decide) rfl (b := 80) (by rw [zGx_p (ks := [2, 1, 0, 12, 3]) (by decide) (by simp [zPu])]; exact (if_pos (by decide)).trans zg_79_3) zq463 (Or.inl rfl) dX7_init_46 ?_
  refine zw_alen F Z.1 (ty := 4) (v := 61) (by decide) zs_80 rfl rfl dX7_init_49 ?_
  refine lv_icmp_ge (tgt := 73) hx hb dX7_init_50 (by decide) (fun q => absurd q (by decide)) (fun _ => ?_)
  refine lv_aload_n hx hb dX7_init_53 rfl (lv_at hl 1 rfl) ?_
  refine zw_getR F Z.1 zC7 (a := 79) (k := 3) (by decide) zs_79 (by decide) rfl (b := 80) (by rw [zGx_p (ks := [2, 1, 0, 12, 3]) (by decide) (by simp [zPu])]; exact (if_pos (by decide)).trans zg_79_3) zq463 (Or.inl rfl) dX7_init_54 ?_
  refine lv_iload hx hb dX7_init_57 (lv_at hl 0 rfl) ?_
  refine zk_new F Z hz0 rfl zC8 (zs_pth (i := 46) (j := 0) (by decide) (by decide)) (by decide +kernel) zq455 zq213 zq81 (Nat.le_of_ble_eq_true rfl) (Nat.le_of_ble_eq_true rfl) dX7_init_59 (fun _ Z => ?_)
  have Z : zhc D A0 σ (zPu (zPu (zPu P 79 (some [2, 1, 0, 12, 3])) 80 (some [45, 44, 43, 42, 41, 40, 39, 38, 37, 36, 35, 34, 33, 32, 31, 30, 29, 28, 27, 26, 25, 24, 23, 22, 21, 20, 19, 18, 17, 16, 15, 14, 13, 12, 11, 10, 9, 8, 7, 6, 5, 4, 3, 2, 1, 0])) 545 (some [])) 546 s.heap _ _ := Z
  refine W.widen (k := 466) (n := 31817) (Nat.le_of_ble_eq_true rfl) (Nat.le_of_ble_eq_true rfl) ?_
  refine lv_dup hx hb dX7_init_62 rfl ?_
  refine zsized fun hle => ?_
  refine zc_vm Z.1 (zr_IN F Z.1 (a := 545) (zsz Z.1 hz0 rfl hle) (As := []) (zci_State l D A0 σ (zPu (zPu P 79 (some [2, 1, 0, 12, 3])) 80 (some [45, 44, 43, 42, 41, 40, 39, 38, 37, 36, 35, 34, 33, 32, 31, 30, 29, 28, 27, 26, 25, 24, 23, 22, 21, 20, 19, 18, 17, 16, 15, 14, 13, 12, 11, 10, 9, 8, 7, 6, 5, 4, 3, 2, 1, 0])) 545 (Or.inr (Or.inr (Or.inr ⟨46, by decide, rfl⟩))) (by simp [zPu]; try exact hPn _ (by decide)) Z.2) zBI_State (by decide) rfl ⟨⟨rfl, rfl⟩, Nat.le_of_ble_eq_true rfl, Nat.le_of_ble_eq_true rfl⟩ hl.1 rfl (Nat.le_of_ble_eq_true rfl) dX7_init_63 ⟨Nat.le_of_ble_eq_true rfl, Nat.le_of_ble_eq_true rfl⟩) (fun _ _ Z1 => ?_)
  have Z : zhc D A0 σ (zPu (zPu P 79 (some [2, 1, 0, 12, 3])) 80 (some [45, 44, 43, 42, 41, 40, 39, 38, 37, 36, 35, 34, 33, 32, 31, 30, 29, 28, 27, 26, 25, 24, 23, 22, 21, 20, 19, 18, 17, 16, 15, 14, 13, 12, 11, 10, 9, 8, 7, 6, 5, 4, 3, 2, 1, 0])) 555 s.heap _ _ := ⟨Z1, fun a9 ha9 => Z.2 a9 (Nat.le_trans (by decide) ha9)⟩
  refine W.widen (k := 475) (n := 31889) (Nat.le_of_ble_eq_true rfl) (Nat.le_of_ble_eq_true rfl) ?_
  refine zk_aast F Z (ty := 4) (N := 61) (P1 := (zPu (zPu P 79 (some [2, 1, 0, 12, 3])) 80 (some [46, 45, 44, 43, 42, 41, 40, 39, 38, 37, 36, 35, 34, 33, 32, 31, 30, 29, 28, 27, 26, 25, 24, 23, 22, 21, 20, 19, 18, 17, 16, 15, 14, 13, 12, 11, 10, 9, 8, 7, 6, 5, 4, 3, 2, 1, 0]))) (ks := [45, 44, 43, 42, 41, 40, 39, 38, 37, 36, 35, 34, 33, 32, 31, 30, 29, 28, 27, 26, 25, 24, 23, 22, 21, 20, 19, 18, 17, 16, 15, 14, 13, 12, 11, 10, 9, 8, 7, 6, 5, 4, 3, 2, 1, 0]) (by decide) zs_80 (by decide) rfl (by decide) (zs_pth (i := 46) (j := 0) (by decide) (by decide)) zC8 (by decide) (by unfold GF; rfl) (by simp [zPu]) (by simp [zPu]; rfl) (fun c9 hc9 => by simp [zPu, hc9]) dX7_init_66 (fun _ _ Z => ?_)
  refine lv_iinc (v := 47) (lv' := [(4, .int 47), (0, .ref (A0 + 79)), (1, .ref (A0 + 3)), (2, .ref (A0 + 37)), (3, .ref (A0 + 27))]) hx hb dX7_init_67 hl (k := 0) rfl (by decide) (by decide) rfl (fun ls hl => ?_)
  refine lv_goto (tgt := 43) hx hb dX7_init_70 (by decide) ?_
  refine lv_iload hx hb dX7_init_43 (lv_at hl 0 rfl) ?_
  refine lv_aload_n hx hb dX7_init_45 rfl (lv_at hl 1 rfl) ?_
  refine zw_getR F Z.1 zC7 (a := 79) (k := 3) (by decide) zs_79 (by decide) rfl (b := 80) (by rw [zGx_p (ks := [2, 1, 0, 12, 3]) (by decide) (by simp [zPu])]; exact (if_pos (by decide)).trans zg_79_3) zq463 (Or.inl rfl) dX7_init_46 ?_
  refine zw_alen F Z.1 (ty := 4) (v := 61) (by decide) zs_80 rfl rfl dX7_init_49 ?_
  refine lv_icmp_ge (tgt := 73) hx hb dX7_init_50 (by decide) (fun q => absurd q (by decide)) (fun _ => ?_)
  refine lv_aload_n hx hb dX7_init_53 rfl (lv_at hl 1 rfl) ?_
  refine zw_getR F Z.1 zC7 (a := 79) (k := 3) (by decide) zs_79 (by decide) rfl (b := 80) (by rw [zGx_p (ks := [2, 1, 0, 12, 3]) (by decide) (by simp [zPu])]; exact (if_pos (by decide)).trans zg_79_3) zq463 (Or.inl rfl) dX7_init_54 ?_
  refine lv_iload hx hb dX7_init_57 (lv_at hl 0 rfl) ?_
  refine zk_new F Z hz0 rfl zC8 (zs_pth (i := 47) (j := 0) (by decide) (by decide)) (by decide +kernel) zq455 zq213 zq81 (Nat.le_of_ble_eq_true rfl) (Nat.le_of_ble_eq_true rfl) dX7_init_59 (fun _ Z => ?_)
  have Z : zhc D A0 σ (zPu (zPu (zPu P 79 (some [2, 1, 0, 12, 3])) 80 (some [46, 45, 44, 43, 42, 41, 40, 39, 38, 37, 36, 35, 34, 33, 32, 31, 30, 29, 28, 27, 26, 25, 24, 23, 22, 21, 20, 19, 18, 17, 16, 15, 14, 13, 12, 11, 10, 9, 8, 7, 6, 5, 4, 3, 2, 1, 0])) 555 (some [])) 556 s.heap _ _ := Z
  refine W.widen (k := 476) (n := 31903) (Nat.le_of_ble_eq_true rfl) (Nat.le_of_ble_eq_true rfl) ?_
  refine lv_dup hx hb dX7_init_62 rfl ?_
  refine zsized fun hle => ?_
  refine zc_vm Z.1 (zr_IN F Z.1 (a := 555) (zsz Z.1 hz0 rfl hle) (As := []) (zci_State l D A0 σ (zPu (zPu P 79 (some [2, 1, 0, 12, 3])) 80 (some [46, 45, 44, 43, 42, 41, 40, 39, 38, 37, 36, 35, 34, 33, 32, 31, 30, 29, 28, 27, 26, 25, 24, 23, 22, 21, 20, 19, 18, 17, 16, 15, 14, 13, 12, 11, 10, 9, 8, 7, 6, 5, 4, 3, 2, 1, 0])) 555 (Or.inr (Or.inr (Or.inr ⟨47, by decide, rfl⟩))) (by simp [zPu]; try exact hPn _ (by decide)) Z.2) zBI_State (by decide) rfl ⟨⟨rfl, rfl⟩, Nat.le_of_ble_eq_true rfl, Nat.le_of_ble_eq_true rfl⟩ hl.1 rfl (Nat.le_of_ble_eq_true rfl) dX7_init_63 ⟨Nat.le_of_ble_eq_true rfl, Nat.le_of_ble_eq_true rfl⟩) (fun _ _ Z1 => ?_)
  have Z : zhc D A0 σ (zPu (zPu P 79 (some [2, 1, 0, 12, 3])) 80 (some [46, 45, 44, 43, 42, 41, 40, 39, 38, 37, 36, 35, 34, 33, 32, 31, 30, 29, 28, 27, 26, 25, 24, 23, 22, 21, 20, 19, 18, 17, 16, 15, 14, 13, 12, 11, 10, 9, 8, 7, 6, 5, 4, 3, 2, 1, 0])) 565 s.heap _ _ := ⟨Z1, fun a9 ha9 => Z.2 a9 (Nat.le_trans (by decide) ha9)⟩
  refine W.widen (k := 485) (n := 31975) (Nat.le_of_ble_eq_true rfl) (Nat.le_of_ble_eq_true rfl) ?_
  refine zk_aast F Z (ty := 4) (N := 61) (P1 := (zPu (zPu P 79 (some [2, 1, 0, 12, 3])) 80 (some [47, 46, 45, 44, 43, 42, 41, 40, 39, 38, 37, 36, 35, 34, 33, 32, 31, 30, 29, 28, 27, 26, 25, 24, 23, 22, 21, 20, 19, 18, 17, 16, 15, 14, 13, 12, 11, 10, 9, 8, 7, 6, 5, 4, 3, 2, 1, 0]))) (ks := [46, 45, 44, 43, 42, 41, 40, 39, 38, 37, 36, 35, 34, 33, 32, 31, 30, 29, 28, 27, 26, 25, 24, 23, 22, 21, 20, 19, 18, 17, 16, 15, 14, 13, 12, 11, 10, 9, 8, 7, 6, 5, 4, 3, 2, 1, 0]) (by decide) zs_80 (by decide) rfl (by decide) (zs_pth (i := 47) (j := 0) (by decide) (by decide)) zC8 (by decide) (by unfold GF; rfl) (by simp [zPu]) (by simp [zPu]; rfl) (fun c9 hc9 => by simp [zPu, hc9]) dX7_init_66 (fun _ _ Z => ?_)
  refine lv_iinc (v := 48) (lv' := [(4, .int 48), (0, .ref (A0 + 79)), (1, .ref (A0 + 3)), (2, .ref (A0 + 37)), (3, .ref (A0 + 27))]) hx hb dX7_init_67 hl (k := 0) rfl (by decide) (by decide) rfl (fun ls hl => ?_)
  refine lv_goto (tgt := 43) hx hb dX7_init_70 (by decide) ?_
  refine lv_iload hx hb dX7_init_43 (lv_at hl 0 rfl) ?_
  refine lv_aload_n hx hb dX7_init_45 rfl (lv_at hl 1 rfl) ?_
  refine zw_getR F Z.1 zC7 (a := 79) (k := 3) (by decide) zs_79 (by decide) rfl (b := 80) (by rw [zGx_p (ks := [2, 1, 0, 12, 3]) (by decide) (by simp [zPu])]; exact (if_pos (by decide)).trans zg_79_3) zq463 (Or.inl rfl) dX7_init_46 ?_
  refine zw_alen F Z.1 (ty := 4) (v := 61) (by decide) zs_80 rfl rfl dX7_init_49 ?_
  refine lv_icmp_ge (tgt := 73) hx hb dX7_init_50 (by decide) (fun q => absurd q (by decide)) (fun _ => ?_)
  refine lv_aload_n hx hb dX7_init_53 rfl (lv_at hl 1 rfl) ?_
  refine zw_getR F Z.1 zC7 (a := 79) (k := 3) (by decide) zs_79 (by decide) rfl (b := 80) (by rw [zGx_p (ks := [2, 1, 0, 12, 3]) (by decide) (by simp [zPu])]; exact (if_pos (by decide)).trans zg_79_3) zq463 (Or.inl rfl) dX7_init_54 ?_
  refine lv_iload hx hb dX7_init_57 (lv_at hl 0 rfl) ?_
  refine zk_new F Z hz0 rfl zC8 (zs_pth (i := 48) (j := 0) (by decide) (by decide)) (by decide +kernel) zq455 zq213 zq81 (Nat.le_of_ble_eq_true rfl) (Nat.le_of_ble_eq_true rfl) dX7_init_59 (fun _ Z => ?_)
  have Z : zhc D A0 σ (zPu (zPu (zPu P 79 (some [2, 1, 0, 12, 3])) 80 (some [47, 46, 45, 44, 43, 42, 41, 40, 39, 38, 37, 36, 35, 34, 33, 32, 31, 30, 29, 28, 27, 26, 25, 24, 23, 22, 21, 20, 19, 18, 17, 16, 15, 14, 13, 12, 11, 10, 9, 8, 7, 6, 5, 4, 3, 2, 1, 0])) 565 (some [])) 566 s.heap _ _ := Z
  refine W.widen (k := 486) (n := 31989) (Nat.le_of_ble_eq_true rfl) (Nat.le_of_ble_eq_true rfl) ?_
  refine lv_dup hx hb dX7_init_62 rfl ?_
  refine zsized fun hle => ?_
  refine zc_vm Z.1 (zr_IN F Z.1 (a := 565) (zsz Z.1 hz0 rfl hle) (As := []) (zci_State l D A0 σ (zPu (zPu P 79 (some [2, 1, 0, 12, 3])) 80 (some [47, 46, 45, 44, 43, 42, 41, 40, 39, 38, 37, 36, 35, 34, 33, 32, 31, 30, 29, 28, 27, 26, 25, 24, 23, 22, 21, 20, 19, 18, 17, 16, 15, 14, 13, 12, 11, 10, 9, 8, 7, 6, 5, 4, 3, 2, 1, 0])) 565 (Or.inr (Or.inr (Or.inr ⟨48, by decide, rfl⟩))) (by simp [zPu]; try exact hPn _ (by decide)) Z.2) zBI_State (by decide) rfl ⟨⟨rfl, rfl⟩, Nat.le_of_ble_eq_true rfl, Nat.le_of_ble_eq_true rfl⟩ hl.1 rfl (Nat.le_of_ble_eq_true rfl) dX7_init_63 ⟨Nat.le_of_ble_eq_true rfl, Nat.le_of_ble_eq_true rfl⟩) (fun _ _ Z1 => ?_)
  have Z : zhc D A0 σ (zPu (zPu P 79 (some [2, 1, 0, 12, 3])) 80 (some [47, 46, 45, 44, 43, 42, 41, 40, 39, 38, 37, 36, 35, 34, 33, 32, 31, 30, 29, 28, 27, 26, 25, 24, 23, 22, 21, 20, 19, 18, 17, 16, 15, 14, 13, 12, 11, 10, 9, 8, 7, 6, 5, 4, 3, 2, 1, 0])) 575 s.heap _ _ := ⟨Z1, fun a9 ha9 => Z.2 a9 (Nat.le_trans (by decide) ha9)⟩
  refine W.widen (k := 495) (n := 32061) (Nat.le_of_ble_eq_true rfl) (Nat.le_of_ble_eq_true rfl) ?_
  refine zk_aast F Z (ty := 4) (N := 61) (P1 := (zPu (zPu P 79 (some [2, 1, 0, 12, 3])) 80 (some [48, 47, 46, 45, 44, 43, 42, 41, 40, 39, 38, 37, 36, 35, 34, 33, 32, 31, 30, 29, 28, 27, 26, 25, 24, 23, 22, 21, 20, 19, 18, 17, 16, 15, 14, 13, 12, 11, 10, 9, 8, 7, 6, 5, 4, 3, 2, 1, 0]))) (ks := [47, 46, 45, 44, 43, 42, 41, 40, 39, 38, 37, 36, 35, 34, 33, 32, 31, 30, 29, 28, 27, 26, 25, 24, 23, 22, 21, 20, 19, 18, 17, 16, 15, 14, 13, 12, 11, 10, 9, 8, 7, 6, 5, 4, 3, 2, 1, 0]) (by decide) zs_80 (by decide) rfl (by decide) (zs_pth (i := 48) (j := 0) (by decide) (by decide)) zC8 (by decide) (by unfold GF; rfl) (by simp [zPu]) (by simp [zPu]; rfl) (fun c9 hc9 => by simp [zPu, hc9]) dX7_init_66 (fun _ _ Z => ?_)
  refine lv_iinc (v := 49) (lv' := [(4, .int 49), (0, .ref (A0 + 79)), (1, .ref (A0 + 3)), (2, .ref (A0 + 37)), (3, .ref (A0 + 27))]) hx hb dX7_init_67 hl (k := 0) rfl (by decide) (by decide) rfl (fun ls hl => ?_)
  refine lv_goto (tgt := 43) hx hb dX7_init_70 (by decide) ?_
  refine lv_iload hx hb dX7_init_43 (lv_at hl 0 rfl) ?_
  refine lv_aload_n hx hb dX7_init_45 rfl (lv_at hl 1 rfl) ?_
  refine zw_getR F Z.1 zC7 (a := 79) (k := 3) (by decide) zs_79 (by decide) rfl (b := 80) (by rw [zGx_p (ks := [2, 1, 0, 12, 3]) (by decide) (by simp [zPu])]; exact (if_pos (by decide)).trans zg_79_3) zq463 (Or.inl rfl) dX7_init_46 ?_
  refine zw_alen F Z.1 (ty := 4) (v := 61) (by decide) zs_80 rfl rfl dX7_init_49 ?_
  refine lv_icmp_ge (tgt := 73) hx hb dX7_init_50 (by decide) (fun q => absurd q (by decide)) (fun _ => ?_)
  refine lv_aload_n hx hb dX7_init_53 rfl (lv_at hl 1 rfl) ?_
  refine zw_getR F Z.1 zC7 (a := 79) (k := 3) (by decide) zs_79 (by decide) rfl (b := 80) (by rw [zGx_p (ks := [2, 1, 0, 12, 3]) (by decide) (by simp [zPu])]; exact (if_pos (by decide)).trans zg_79_3) zq463 (Or.inl rfl) dX7_init_54 ?_
  refine lv_iload hx hb dX7_init_57 (lv_at hl 0 rfl) ?_
  refine zk_new F Z hz0 rfl zC8 (zs_pth (i := 49) (j := 0) (by decide) (by decide)) (by decide +kernel) zq455 zq213 zq81 (Nat.le_of_ble_eq_true rfl) (Nat.le_of_ble_eq_true rfl) dX7_init_59 (fun _ Z => ?_)
  have Z : zhc D A0 σ (zPu (zPu (zPu P 79 (some [2, 1, 0, 12, 3])) 80 (some [48, 47, 46, 45, 44, 43, 42, 41, 40, 39, 38, 37, 36, 35, 34, 33, 32, 31, 30, 29, 28, 27, 26, 25, 24, 23, 22, 21, 20, 19, 18, 17, 16, 15, 14, 13, 12, 11, 10, 9, 8, 7, 6, 5, 4, 3, 2, 1, 0])) 575 (some [])) 576 s.heap _ _ := Z
  refine W.widen (k := 496) (n := 32075) (Nat.le_of_ble_eq_true rfl) (Nat.le_of_ble_eq_true rfl) ?_
  refine lv_dup hx hb dX7_init_62 rfl ?_
  refine zsized fun hle => ?_
  refine zc_vm Z.1 (zr_IN F Z.1 (a := 575) (zsz Z.1 hz0 rfl hle) (As := []) (zci_State l D A0 σ (zPu (zPu P 79 (some [2, 1, 0, 12, 3])) 80 (some [48, 47, 46, 45, 44, 43, 42, 41, 40, 39, 38, 37, 36, 35, 34, 33, 32, 31, 30, 29, 28, 27, 26, 25, 24, 23, 22, 21, 20, 19, 18, 17, 16, 15, 14, 13, 12, 11, 10, 9, 8, 7, 6, 5, 4, 3, 2, 1, 0])) 575 (Or.inr (Or.inr (Or.inr ⟨49, by decide, rfl⟩))) (by simp [zPu]; try exact hPn _ (by decide)) Z.2) zBI_State (by decide) rfl ⟨⟨rfl, rfl⟩, Nat.le_of_ble_eq_true rfl, Nat.le_of_ble_eq_true rfl⟩ hl.1 rfl (Nat.le_of_ble_eq_true rfl) dX7_init_63 ⟨Nat.le_of_ble_eq_true rfl, Nat.le_of_ble_eq_true rfl⟩) (fun _ _ Z1 => ?_)
  have Z : zhc D A0 σ (zPu (zPu P 79 (some [2, 1, 0, 12, 3])) 80 (some [48, 47, 46, 45, 44, 43, 42, 41, 40, 39, 38, 37, 36, 35, 34, 33, 32, 31, 30, 29, 28, 27, 26, 25, 24, 23, 22, 21, 20, 19, 18, 17, 16, 15, 14, 13, 12, 11, 10, 9, 8, 7, 6, 5, 4, 3, 2, 1, 0])) 585 s.heap _ _ := ⟨Z1, fun a9 ha9 => Z.2 a9 (Nat.le_trans (by decide) ha9)⟩
  refine W.widen (k := 505) (n := 32147) (Nat.le_of_ble_eq_true rfl) (Nat.le_of_ble_eq_true rfl) ?_
  refine zk_aast F Z (ty := 4) (N := 61) (P1 := (zPu (zPu P 79 (some [2, 1, 0, 12, 3])) 80 (some [49, 48, 47, 46, 45, 44, 43, 42, 41, 40, 39, 38, 37, 36, 35, 34, 33, 32, 31, 30, 29, 28, 27, 26, 25, 24, 23, 22, 21, 20, 19, 18, 17, 16, 15, 14, 13, 12, 11, 10, 9, 8, 7, 6, 5, 4, 3, 2, 1, 0]))) (ks := [48, 47, 46, 45, 44, 43, 42, 41, 40, 39, 38, 37, 36, 35, 34, 33, 32, 31, 30, 29, 28, 27, 26, 25, 24, 23, 22, 21, 20, 19, 18, 17, 16, 15, 14, 13, 12, 11, 10, 9, 8, 7, 6, 5, 4, 3, 2, 1, 0]) (by decide) zs_80 (by decide) rfl (by decide) (zs_pth (i := 49) (j := 0) (by decide) (by decide)) zC8 (by decide) (by unfold GF; rfl) (by simp [zPu]) (by simp [zPu]; rfl) (fun c9 hc9 => by simp [zPu, hc9]) dX7_init_66 (fun _ _ Z => ?_)
  refine lv_iinc (v := 50) (lv' := [(4, .int 50), (0, .ref (A0 + 79)), (1, .ref (A0 + 3)), (2, .ref (A0 + 37)), (3, .ref (A0 + 27))]) hx hb dX7_init_67 hl (k := 0) rfl (by decide) (by decide) rfl (fun ls hl => ?_)
  refine lv_goto (tgt := 43) hx hb dX7_init_70 (by decide) ?_
  refine lv_iload hx hb dX7_init_43 (lv_at hl 0 rfl) ?_
  refine lv_aload_n hx hb dX7_init_45 rfl (lv_at hl 1 rfl) ?_
  refine zw_getR F Z.1 zC7 (a := 79) (k := 3) (by decide) zs_79 (by decide) rfl (b := 80) (by rw [zGx_p (ks := [2, 1, 0, 12, 3]) (by decide) (by simp [zPu])]; exact (if_pos (by decide)).trans zg_79_3) zq463 (Or.inl rfl) dX7_init_46 ?_
  refine zw_alen F Z.1 (ty := 4) (v := 61) (by decide) zs_80 rfl rfl dX7_init_49 ?_
  refine lv_icmp_ge (tgt := 73) hx hb dX7_init_50 (by decide) (fun q => absurd q (by decide)) (fun _ => ?_)
  refine lv_aload_n hx hb dX7_init_53 rfl (lv_at hl 1 rfl) ?_
  refine zw_getR F Z.1 zC7 (a := 79) (k := 3) (by decide) zs_79 (by decide) rfl (b := 80) (by rw [zGx_p (ks := [2, 1, 0, 12, 3]) (by decide) (by simp [zPu])]; exact (if_pos (by decide)).trans zg_79_3) zq463 (Or.inl rfl) dX7_init_54 ?_
  refine lv_iload hx hb dX7_init_57 (lv_at hl 0 rfl) ?_
  refine zk_new F Z hz0 rfl zC8 (zs_pth (i := 50) (j := 0) (by decide) (by decide)) (by decide +kernel) zq455 zq213 zq81 (Nat.le_of_ble_eq_true rfl) (Nat.le_of_ble_eq_true rfl) dX7_init_59 (fun _ Z => ?_)
  have Z : zhc D A0 σ (zPu (zPu (zPu P 79 (some [2, 1, 0, 12, 3])) 80 (some [49, 48, 47, 46, 45, 44, 43, 42, 41, 40, 39, 38, 37, 36, 35, 34, 33, 32, 31, 30, 29, 28, 27, 26, 25, 24, 23, 22, 21, 20, 19, 18, 17, 16, 15, 14, 13, 12, 11, 10, 9, 8, 7, 6, 5, 4, 3, 2, 1, 0])) 585 (some [])) 586 s.heap _ _ := Z
  refine W.widen (k := 506) (n := 32161) (Nat.le_of_ble_eq_true rfl) (Nat.le_of_ble_eq_true rfl) ?_
  refine lv_dup hx hb dX7_init_62 rfl ?_
  refine zsized fun hle => ?_
  refine zc_vm Z.1 (zr_IN F Z.1 (a := 585) (zsz Z.1 hz0 rfl hle) (As := []) (zci_State l D A0 σ (zPu (zPu P 79 (some [2, 1, 0, 12, 3])) 80 (some [49, 48, 47, 46, 45, 44, 43, 42, 41, 40, 39, 38, 37, 36, 35, 34, 33, 32, 31, 30, 29, 28, 27, 26, 25, 24, 23, 22, 21, 20, 19, 18, 17, 16, 15, 14, 13, 12, 11, 10, 9, 8, 7, 6, 5, 4, 3, 2, 1, 0])) 585 (Or.inr (Or.inr (Or.inr ⟨50, by decide, rfl⟩))) (by simp [zPu]; try exact hPn _ (by decide)) Z.2) zBI_State (by decide) rfl ⟨⟨rfl, rfl⟩, Nat.le_of_ble_eq_true rfl, Nat.le_of_ble_eq_true rfl⟩ hl.1 rfl (Nat.le_of_ble_eq_true rfl) dX7_init_63 ⟨Nat.le_of_ble_eq_true rfl, Nat.le_of_ble_eq_true rfl⟩) (fun _ _ Z1 => ?_)
  have Z : zhc D A0 σ (zPu (zPu P 79 (some [2, 1, 0, 12, 3])) 80 (some [49, 48, 47, 46, 45, 44, 43, 42, 41, 40, 39, 38, 37, 36, 35, 34, 33, 32, 31, 30, 29, 28, 27, 26, 25, 24, 23, 22, 21, 20, 19, 18, 17, 16, 15, 14, 13, 12, 11, 10, 9, 8, 7, 6, 5, 4, 3, 2, 1, 0])) 595 s.heap _ _ := ⟨Z1, fun a9 ha9 => Z.2 a9 (Nat.le_trans (by decide) ha9)⟩
  refine W.widen (k := 515) (n := 32233) (Nat.le_of_ble_eq_true rfl) (Nat.le_of_ble_eq_true rfl) ?_
  refine zk_aast F Z (ty := 4) (N := 61) (P1 := (zPu (zPu P 79 (some [2, 1, 0, 12, 3])) 80 (some [50, 49, 48, 47, 46, 45, 44, 43, 42, 41, 40, 39, 38, 37, 36, 35, 34, 33, 32, 31, 30, 29, 28, 27, 26, 25, 24, 23, 22, 21, 20, 19, 18, 17, 16, 15, 14, 13, 12, 11, 10, 9, 8, 7, 6, 5, 4, 3, 2, 1, 0]))) (ks := [49, 48, 47, 46, 45, 44, 43, 42, 41, 40, 39, 38, 37, 36, 35, 34, 33, 32, 31, 30, 29, 28, 27, 26, 25, 24, 23, 22, 21, 20, 19, 18, 17, 16, 15, 14, 13, 12, 11, 10, 9, 8, 7, 6, 5, 4, 3, 2, 1, 0]) (by decide) zs_80 (by decide) rfl (by decide) (zs_pth (i := 50) (j := 0) (by decide) (by decide)) zC8 (by decide) (by unfold GF; rfl) (by simp [zPu]) (by simp [zPu]; rfl) (fun c9 hc9 => by simp [zPu, hc9]) dX7_init_66 (fun _ _ Z => ?_)
  refine lv_iinc (v := 51) (lv' := [(4, .int 51), (0, .ref (A0 + 79)), (1, .ref (A0 + 3)), (2, .ref (A0 + 37)), (3, .ref (A0 + 27))]) hx hb dX7_init_67 hl (k := 0) rfl (by decide) (by decide) rfl (fun ls hl => ?_)
  refine lv_goto (tgt := 43) hx hb dX7_init_70 (by decide) ?_
  refine lv_iload hx hb dX7_init_43 (lv_at hl 0 rfl) ?_
  refine lv_aload_n hx hb dX7_init_45 rfl (lv_at hl 1 rfl) ?_
  refine zw_getR F Z.1 zC7 (a := 79) (k := 3) (by decide) zs_79 (by decide) rfl (b := 80) (by rw [zGx_p (ks := [2, 1, 0, 12, 3]) (by decide) (by simp [zPu])]; exact (if_pos (by decide)).trans zg_79_3) zq463 (Or.inl rfl) dX7_init_46 ?_
  refine zw_alen F Z.1 (ty := 4) (v := 61) (by decide) zs_80 rfl rfl dX7_init_49 ?_
  refine lv_icmp_ge (tgt := 73) hx hb dX7_init_50 (by decide) (fun q => absurd q (by decide)) (fun _ => ?_)
  refine lv_aload_n hx hb dX7_init_53 rfl (lv_at hl 1 rfl) ?_
  refine zw_getR F Z.1 zC7 (a := 79) (k := 3) (by decide) zs_79 (by decide) rfl (b := 80) (by rw [zGx_p (ks := [2, 1, 0, 12, 3]) (by decide) (by simp [zPu])]; exact (if_pos (by decide)).trans zg_79_3) zq463 (Or.inl rfl) dX7_init_54 ?_
  refine lv_iload hx hb dX7_init_57 (lv_at hl 0 rfl) ?_
  refine zk_new F Z hz0 rfl zC8 (zs_pth (i := 51) (j := 0) (by decide) (by decide)) (by decide +kernel) zq455 zq213 zq81 (Nat.le_of_ble_eq_true rfl) (Nat.le_of_ble_eq_true rfl) dX7_init_59 (fun _ Z => ?_)
  have Z : zhc D A0 σ (zPu (zPu (zPu P 79 (some [2, 1, 0, 12, 3])) 80 (some [50, 49, 48, 47, 46, 45, 44, 43, 42, 41, 40, 39, 38, 37, 36, 35, 34, 33, 32, 31, 30, 29, 28, 27, 26, 25, 24, 23, 22, 21, 20, 19, 18, 17, 16, 15, 14, 13, 12, 11, 10, 9, 8, 7, 6, 5, 4, 3, 2, 1, 0])) 595 (some [])) 596 s.heap _ _ := Z
  refine W.widen (k := 516) (n := 32247) (Nat.le_of_ble_eq_true rfl) (Nat.le_of_ble_eq_true rfl) ?_
  refine lv_dup hx hb dX7_init_62 rfl ?_
  refine zsized fun hle => ?_
  refine zc_vm Z.1 (zr_IN F Z.1 (a := 595) (zsz Z.1 hz0 rfl hle) (As := []) (zci_State l D A0 σ (zPu (zPu P 79 (some [2, 1, 0, 12, 3])) 80 (some [50, 49, 48, 47, 46, 45, 44, 43, 42, 41, 40, 39, 38, 37, 36, 35, 34, 33, 32, 31, 30, 29, 28, 27, 26, 25, 24, 23, 22, 21, 20, 19, 18, 17, 16, 15, 14, 13, 12, 11, 10, 9, 8, 7, 6, 5, 4, 3, 2, 1, 0])) 595 (Or.inr (Or.inr (Or.inr ⟨51, by decide, rfl⟩))) (by simp [zPu]; try exact hPn _ (by decide)) Z.2) zBI_State (by decide) rfl ⟨⟨rfl, rfl⟩, Nat.le_of_ble_eq_true rfl, Nat.le_of_ble_eq_true rfl⟩ hl.1 rfl (Nat.le_of_ble_eq_true rfl) dX7_init_63 ⟨Nat.le_of_ble_eq_true rfl, Nat.le_of_ble_eq_true rfl⟩) (fun _ _ Z1 => ?_)
  have Z : zhc D A0 σ (zPu (zPu P 79 (some [2, 1, 0, 12, 3])) 80 (some [50, 49, 48, 47, 46, 45, 44, 43, 42, 41, 40, 39, 38, 37, 36, 35, 34, 33, 32, 31, 30, 29, 28, 27, 26, 25, 24, 23, 22, 21, 20, 19, 18, 17, 16, 15, 14, 13, 12, 11, 10, 9, 8, 7, 6, 5, 4, 3, 2, 1, 0])) 605 s.heap _ _ := ⟨Z1, fun a9 ha9 => Z.2 a9 (Nat.le_trans (by decide) ha9)⟩
  refine W.widen (k := 525) (n := 32319) (Nat.le_of_ble_eq_true rfl) (Nat.le_of_ble_eq_true rfl) ?_
  refine zk_aast F Z (ty := 4) (N := 61) (P1 := (zPu (zPu P 79 (some [2, 1, 0, 12, 3])) 80 (some [51, 50, 49, 48, 47, 46, 45, 44, 43, 42, 41, 40, 39, 38, 37, 36, 35, 34, 33, 32, 31, 30, 29, 28, 27, 26, 25, 24, 23, 22, 21, 20, 19, 18, 17, 16, 15, 14, 13, 12, 11, 10, 9, 8, 7, 6, 5, 4, 3, 2, 1, 0]))) (ks := [50, 49, 48, 47, 46, 45, 44, 43, 42, 41, 40, 39, 38, 37, 36, 35, 34, 33, 32, 31, 30, 29, 28, 27, 26, 25, 24, 23, 22, 21, 20, 19, 18, 17, 16, 15, 14, 13, 12, 11, 10, 9, 8, 7, 6, 5, 4, 3, 2, 1, 0]) (by decide) zs_80 (by decide) rfl (by decide) (zs_pth (i := 51) (j := 0) (by decide) (by decide)) zC8 (by decide) (by unfold GF; rfl) (by simp [zPu]) (by simp [zPu]; rfl) (fun c9 hc9 => by simp [zPu, hc9]) dX7_init_66 (fun _ _ Z => ?_)
  refine lv_iinc (v := 52) (lv' := [(4, .int 52), (0, .ref (A0 + 79)), (1, .ref (A0 + 3)), (2, .ref (A0 + 37)), (3, .ref (A0 + 27))]) hx hb dX7_init_67 hl (k := 0) rfl (by decide) (by decide) rfl (fun ls hl => ?_)
  refine lv_goto (tgt := 43) hx hb dX7_init_70 (by decide) ?_
  refine lv_iload hx hb dX7_init_43 (lv_at hl 0 rfl) ?_
  refine lv_aload_n hx hb dX7_init_45 rfl (lv_at hl 1 rfl) ?_
  refine zw_getR F Z.1 zC7 (a := 79) (k := 3) (by decide) zs_79 (by decide) rfl (b := 80) (by rw [zGx_p (ks := [2, 1, 0, 12, 3]) (by decide) (by simp [zPu])]; exact (if_pos (by decide)).trans zg_79_3) zq463 (Or.inl rfl) dX7_init_46 ?_
  refine zw_alen F Z.1 (ty := 4) (v := 61) (by decide) zs_80 rfl rfl dX7_init_49 ?_
  refine lv_icmp_ge (tgt := 73) hx hb dX7_init_50 (by decide) (fun q => absurd q (by decide)) (fun _ => ?_)
  refine lv_aload_n hx hb dX7_init_53 rfl (lv_at hl 1 rfl) ?_
  refine zw_getR F Z.1 zC7 (a := 79) (k := 3) (by decide) zs_79 (by decide) rfl (b := 80) (by rw [zGx_p (ks := [2, 1, 0, 12, 3]) (by decide) (by simp [zPu])]; exact (if_pos (by decide)).trans zg_79_3) zq463 (Or.inl rfl) dX7_init_54 ?_
  refine lv_iload hx hb dX7_init_57 (lv_at hl 0 rfl) ?_
  refine zk_new F Z hz0 rfl zC8 (zs_pth (i := 52) (j := 0) (by decide) (by decide)) (by decide +kernel) zq455 zq213 zq81 (Nat.le_of_ble_eq_true rfl) (Nat.le_of_ble_eq_true rfl) dX7_init_59 (fun _ Z => ?_)
  have Z : zhc D A0 σ (zPu (zPu (zPu P 79 (some [2, 1, 0, 12, 3])) 80 (some [51, 50, 49, 48, 47, 46, 45, 44, 43, 42, 41, 40, 39, 38, 37, 36, 35, 34, 33, 32, 31, 30, 29, 28, 27, 26, 25, 24, 23, 22, 21, 20, 19, 18, 17, 16, 15, 14, 13, 12, 11, 10, 9, 8, 7, 6, 5, 4, 3, 2, 1, 0])) 605 (some [])) 606 s.heap _ _ := Z
  refine W.widen (k := 526) (n := 32333) (Nat.le_of_ble_eq_true rfl) (Nat.le_of_ble_eq_true rfl) ?_
  refine lv_dup hx hb dX7_init_62 rfl ?_
  refine zsized fun hle => ?_
  refine zc_vm Z.1 (zr_IN F Z.1 (a := 605) (zsz Z.1 hz0 rfl hle) (As := []) (zci_State l D A0 σ (zPu (zPu P 79 (some [2, 1, 0, 12, 3])) 80 (some [51, 50, 49, 48, 47, 46, 45, 44, 43, 42, 41, 40, 39, 38, 37, 36, 35, 34, 33, 32, 31, 30, 29, 28, 27, 26, 25, 24, 23, 22, 21, 20, 19, 18, 17, 16, 15, 14, 13, 12, 11, 10, 9, 8, 7, 6, 5, 4, 3, 2, 1, 0])) 605 (Or.inr (Or.inr (Or.inr ⟨52, by decide, rfl⟩))) (by simp [zPu]; try exact hPn _ (by decide)) Z.2) zBI_State (by decide) rfl ⟨⟨rfl, rfl⟩, Nat.le_of_ble_eq_true rfl, Nat.le_of_ble_eq_true rfl⟩ hl.1 rfl (Nat.le_of_ble_eq_true rfl) dX7_init_63 ⟨Nat.le_of_ble_eq_true rfl, Nat.le_of_ble_eq_true rfl⟩) (fun _ _ Z1 => ?_)
  have Z : zhc D A0 σ (zPu (zPu P 79 (some [2, 1, 0, 12, 3])) 80 (some [51, 50, 49, 48, 47, 46, 45, 44, 43, 42, 41, 40, 39, 38, 37, 36, 35, 34, 33, 32, 31, 30, 29, 28, 27, 26, 25, 24, 23, 22, 21, 20, 19, 18, 17, 16, 15, 14, 13, 12, 11, 10, 9, 8, 7, 6, 5, 4, 3, 2, 1, 0])) 615 s.heap _ _ := ⟨Z1, fun a9 ha9 => Z.2 a9 (Nat.le_trans (by decide) ha9)⟩
  refine W.widen (k := 535) (n := 32405) (Nat.le_of_ble_eq_true rfl) (Nat.le_of_ble_eq_true rfl) ?_
  refine zk_aast F Z (ty := 4) (N := 61) (P1 := (zPu (zPu P 79 (some [2, 1, 0, 12, 3])) 80 (some [52, 51, 50, 49, 48, 47, 46, 45, 44, 43, 42, 41, 40, 39, 38, 37, 36, 35, 34, 33, 32, 31, 30, 29, 28, 27, 26, 25, 24, 23, 22, 21, 20, 19, 18, 17, 16, 15, 14, 13, 12, 11, 10, 9, 8, 7, 6, 5, 4, 3, 2, 1, 0]))) (ks := [51, 50, 49, 48, 47, 46, 45, 44, 43, 42, 41, 40, 39, 38, 37, 36, 35, 34, 33, 32, 31, 30, 29, 28, 27, 26, 25, 24, 23, 22, 21, 20, 19, 18, 17, 16, 15, 14, 13, 12, 11, 10, 9, 8, 7, 6, 5, 4, 3, 2, 1, 0]) (by decide) zs_80 (by decide) rfl (by decide) (zs_pth (i := 52) (j := 0) (by decide) (by decide)) zC8 (by decide) (by unfold GF; rfl) (by simp [zPu]) (by simp [zPu]; rfl) (fun c9 hc9 => by simp [zPu, hc9]) dX7_init_66 (fun _ _ Z => ?_)
  refine lv_iinc (v := 53) (lv' := [(4, .int 53), (0, .ref (A0 + 79)), (1, .ref (A0 + 3)), (2, .ref (A0 + 37)), (3, .ref (A0 + 27))]) hx hb dX7_init_67 hl (k := 0) rfl (by decide) (by decide) rfl (fun ls hl => ?_)
  refine lv_goto (tgt := 43) hx hb dX7_init_70 (by decide) ?_
  refine lv_iload hx hb dX7_init_43 (lv_at hl 0 rfl) ?_
  refine lv_aload_n hx hb dX7_init_45 rfl (lv_at hl 1 rfl) ?_
  refine zw_getR F Z.1 zC7 (a := 79) (k := 3) (by decide) zs_79 (by decide) rfl (b := 80) (by rw [zGx_p (ks := [2, 1, 0, 12, 3]) (by decide) (by simp [zPu])]; exact (if_pos (by decide)).trans zg_79_3) zq463 (Or.inl rfl) dX7_init_46 ?_
  refine zw_alen F Z.1 (ty := 4) (v := 61) (by decide) zs_80 rfl rfl dX7_init_49 ?_
  refine lv_icmp_ge (tgt := 73) hx hb dX7_init_50 (by decide) (fun q => absurd q (by decide)) (fun _ => ?_)
  refine lv_aload_n hx hb dX7_init_53 rfl (lv_at hl 1 rfl) ?_
  refine zw_getR F Z.1 zC7 (a := 79) (k := 3) (by decide) zs_79 (by decide) rfl (b := 80) (by rw [zGx_p (ks := [2, 1, 0, 12, 3]) (by decide) (by simp [zPu])]; exact (if_pos (by decide)).trans zg_79_3) zq463 (Or.inl rfl) dX7_init_54 ?_
  refine lv_iload hx hb dX7_init_57 (lv_at hl 0 rfl) ?_
  refine zk_new F Z hz0 rfl zC8 (zs_pth (i := 53) (j := 0) (by decide) (by decide)) (by decide +kernel) zq455 zq213 zq81 (Nat.le_of_ble_eq_true rfl) (Nat.le_of_ble_eq_true rfl) dX7_init_59 (fun _ Z => ?_)
  have Z : zhc D A0 σ (zPu (zPu (zPu P 79 (some [2, 1, 0, 12, 3])) 80 (some [52, 51, 50, 49, 48, 47, 46, 45, 44, 43, 42, 41, 40, 39, 38, 37, 36, 35, 34, 33, 32, 31, 30, 29, 28, 27, 26, 25, 24, 23, 22, 21, 20, 19, 18, 17, 16, 15, 14, 13, 12, 11, 10, 9, 8, 7, 6, 5, 4, 3, 2, 1, 0])) 615 (some [])) 616 s.heap _ _ := Z
  refine W.widen (k := 536) (n := 32419) (Nat.le_of_ble_eq_true rfl) (Nat.le_of_ble_eq_true rfl) ?_
  refine lv_dup hx hb dX7_init_62 rfl ?_
  refine zsized fun hle => ?_
  refine zc_vm Z.1 (zr_IN F Z.1 (a := 615) (zsz Z.1 hz0 rfl hle) (As := []) (zci_State l D A0 σ (zPu (zPu P 79 (some [2, 1, 0, 12, 3])) 80 (some [52, 51, 50, 49, 48, 47, 46, 45, 44, 43, 42, 41, 40, 39, 38, 37, 36, 35, 34, 33, 32, 31, 30, 29, 28, 27, 26, 25, 24, 23, 22, 21, 20, 19, 18, 17, 16, 15, 14, 13, 12, 11, 10, 9, 8, 7, 6, 5, 4, 3, 2, 1, 0])) 615 (Or.inr (Or.inr (Or.inr ⟨53, by decide, rfl⟩))) (by simp [zPu]; try exact hPn _ (by decide)) Z.2) zBI_State (by decide) rfl ⟨⟨rfl, rfl⟩, Nat.le_of_ble_eq_true rfl, Nat.le_of_ble_eq_true rfl⟩ hl.1 rfl (Nat.le_of_ble_eq_true rfl) dX7_init_63 ⟨Nat.le_of_ble_eq_true rfl, Nat.le_of_ble_eq_true rfl⟩) (fun _ _ Z1 => ?_)
  have Z : zhc D A0 σ (zPu (zPu P 79 (some [2, 1, 0, 12, 3])) 80 (some [52, 51, 50, 49, 48, 47, 46, 45, 44, 43, 42, 41, 40, 39, 38, 37, 36, 35, 34, 33, 32, 31, 30, 29, 28, 27, 26, 25, 24, 23, 22, 21, 20, 19, 18, 17, 16, 15, 14, 13, 12, 11, 10, 9, 8, 7, 6, 5, 4, 3, 2, 1, 0])) 625 s.heap _ _ := ⟨Z1, fun a9 ha9 => Z.2 a9 (Nat.le_trans (by decide) ha9)⟩
  refine W.widen (k := 545) (n := 32491) (Nat.le_of_ble_eq_true rfl) (Nat.le_of_ble_eq_true rfl) ?_
  refine zk_aast F Z (ty := 4) (N := 61) (P1 := (zPu (zPu P 79 (some [2, 1, 0, 12, 3])) 80 (some [53, 52, 51, 50, 49, 48, 47, 46, 45, 44, 43, 42, 41, 40, 39, 38, 37, 36, 35, 34, 33, 32, 31, 30, 29, 28, 27, 26, 25, 24, 23, 22, 21, 20, 19, 18, 17, 16, 15, 14, 13, 12, 11, 10, 9, 8, 7, 6, 5, 4, 3, 2, 1, 0]))) (ks := [52, 51, 50, 49, 48, 47, 46, 45, 44, 43, 42, 41, 40, 39, 38, 37, 36, 35, 34, 33, 32, 31, 30, 29, 28, 27, 26, 25, 24, 23, 22, 21, 20, 19, 18, 17, 16, 15, 14, 13, 12, 11, 10, 9, 8, 7, 6, 5, 4, 3, 2, 1, 0]) (by decide) zs_80 (by decide) rfl (by decide) (zs_pth (i := 53) (j := 0) (by decide) (by decide)) zC8 (by decide) (by unfold GF; rfl) (by simp [zPu]) (by simp [zPu]; rfl) (fun c9 hc9 => by simp [zPu, hc9]) dX7_init_66 (fun _ _ Z => ?_)
  refine lv_iinc (v := 54) (lv' := [(4, .int 54), (0, .ref (A0 + 79)), (1, .ref (A0 + 3)), (2, .ref (A0 + 37)), (3, .ref (A0 + 27))]) hx hb dX7_init_67 hl (k := 0) rfl (by decide) (by decide) rfl (fun ls hl => ?_)
  refine lv_goto (tgt := 43) hx hb dX7_init_70 (by decide) ?_
  refine lv_iload hx hb dX7_init_43 (lv_at hl 0 rfl) ?_
  refine lv_aload_n hx hb dX7_init_45 rfl (lv_at hl 1 rfl) ?_
  refine zw_getR F Z.1 zC7 (a := 79) (k := 3) (by decide) zs_79 (by decide) rfl (b := 80) (by rw [zGx_p (ks := [2, 1, 0, 12, 3]) (by decide) (by simp [zPu])]; exact (if_pos (by decide)).trans zg_79_3) zq463 (Or.inl rfl) dX7_init_46 ?_
  refine zw_alen F Z.1 (ty := 4) (v := 61) (by decide) zs_80 rfl rfl dX7_init_49 ?_
  refine lv_icmp_ge (tgt := 73) hx hb dX7_init_50 (by decide) (fun q => absurd q (by decide)) (fun _ => ?_)
  refine lv_aload_n hx hb dX7_init_53 rfl (lv_at hl 1 rfl) ?_
  refine zw_getR F Z.1 zC7 (a := 79) (k := 3) (by decide) zs_79 (by decide) rfl (b := 80) (by rw [zGx_p (ks := [2, 1, 0, 12, 3]) (by decide) (by simp [zPu])]; exact (if_pos (by decide)).trans zg_79_3) zq463 (Or.inl rfl) dX7_init_54 ?_
  refine lv_iload hx hb dX7_init_57 (lv_at hl 0 rfl) ?_
  refine zk_new F Z hz0 rfl zC8 (zs_pth (i := 54) (j := 0) (by decide) (by decide)) (by decide +kernel) zq455 zq213 zq81 (Nat.le_of_ble_eq_true rfl) (Nat.le_of_ble_eq_true rfl) dX7_init_59 (fun _ Z => ?_)
  have Z : zhc D A0 σ (zPu (zPu (zPu P 79 (some [2, 1, 0, 12, 3])) 80 (some [53, 52, 51, 50, 49, 48, 47, 46, 45, 44, 43, 42, 41, 40, 39, 38, 37, 36, 35, 34, 33, 32, 31, 30, 29, 28, 27, 26, 25, 24, 23, 22, 21, 20, 19, 18, 17, 16, 15, 14, 13, 12, 11, 10, 9, 8, 7, 6, 5, 4, 3, 2, 1, 0])) 625 (some [])) 626 s.heap _ _ := Z
  refine W.widen (k := 546) (n := 32505) (Nat.le_of_ble_eq_true rfl) (Nat.le_of_ble_eq_true rfl) ?_
  refine lv_dup hx hb dX7_init_62 rfl ?_
  refine zsized fun hle => ?_
  refine zc_vm Z.1 (zr_IN F Z.1 (a := 625) (zsz Z.1 hz0 rfl hle) (As := []) (zci_State l D A0 σ (zPu (zPu P 79 (some [2, 1, 0, 12, 3])) 80 (some [53, 52, 51, 50, 49, 48, 47, 46, 45, 44, 43, 42, 41, 40, 39, 38, 37, 36, 35, 34, 33, 32, 31, 30, 29, 28, 27, 26, 25, 24, 23, 22, 21, 20, 19, 18, 17, 16, 15, 14, 13, 12, 11, 10, 9, 8, 7, 6, 5, 4, 3, 2, 1, 0])) 625 (Or.inr (Or.inr (Or.inr ⟨54, by decide, rfl⟩))) (by simp [zPu]; try exact hPn _ (by decide)) Z.2) zBI_State (by decide) rfl ⟨⟨rfl, rfl⟩, Nat.le_of_ble_eq_true rfl, Nat.le_of_ble_eq_true rfl⟩ hl.1 rfl (Nat.le_of_ble_eq_true rfl) dX7_init_63 ⟨Nat.le_of_ble_eq_true rfl, Nat.le_of_ble_eq_true rfl⟩) (fun _ _ Z1 => ?_)
  have Z : zhc D A0 σ (zPu (zPu P 79 (some [2, 1, 0, 12, 3])) 80 (some [53, 52, 51, 50, 49, 48, 47, 46, 45, 44, 43, 42, 41, 40, 39, 38, 37, 36, 35, 34, 33, 32, 31, 30, 29, 28, 27, 26, 25, 24, 23, 22, 21, 20, 19, 18, 17, 16, 15, 14, 13, 12, 11, 10, 9, 8, 7, 6, 5, 4, 3, 2, 1, 0])) 635 s.heap _ _ := ⟨Z1, fun a9 ha9 => Z.2 a9 (Nat.le_trans (by decide) ha9)⟩
  refine W.widen (k := 555) (n := 32577) (Nat.le_of_ble_eq_true rfl) (Nat.le_of_ble_eq_true rfl) ?_
  refine zk_aast F Z (ty := 4) (N := 61) (P1 := (zPu (zPu P 79 (some [2, 1, 0, 12, 3])) 80 (some [54, 53, 52, 51, 50, 49, 48, 47, 46, 45, 44, 43, 42, 41, 40, 39, 38, 37, 36, 35, 34, 33, 32, 31, 30, 29, 28, 27, 26, 25, 24, 23, 22, 21, 20, 19, 18, 17, 16, 15, 14, 13, 12, 11, 10, 9, 8, 7, 6, 5, 4, 3, 2, 1, 0]))) (ks := [53, 52, 51, 50, 49, 48, 47, 46, 45, 44, 43, 42, 41, 40, 39, 38, 37, 36, 35, 34, 33, 32, 31, 30, 29, 28, 27, 26, 25, 24, 23, 22, 21, 20, 19, 18, 17, 16, 15, 14, 13, 12, 11, 10, 9, 8, 7, 6, 5, 4, 3, 2, 1, 0]) (by decide) zs_80 (by decide) rfl (by decide) (zs_pth (i := 54) (j := 0) (by decide) (by decide)) zC8 (by decide) (by unfold GF; rfl) (by simp [zPu]) (by simp [zPu]; rfl) (fun c9 hc9 => by simp [zPu, hc9]) dX7_init_66 (fun _ _ Z => ?_)
  refine lv_iinc (v := 55) (lv' := [(4, .int 55), (0, .ref (A0 + 79)), (1, .ref (A0 + 3)), (2, .ref (A0 + 37)), (3, .ref (A0 + 27))]) hx hb dX7_init_67 hl (k := 0) rfl (by decide) (by decide) rfl (fun ls hl => ?_)
  refine lv_goto (tgt := 43) hx hb dX7_init_70 (by decide) ?_
  refine lv_iload hx hb dX7_init_43 (lv_at hl 0 rfl) ?_
  refine lv_aload_n hx hb dX7_init_45 rfl (lv_at hl 1 rfl) ?_
  refine zw_getR F Z.1 zC7 (a := 79) (k := 3) (by decide) zs_79 (by decide) rfl (b := 80) (by rw [zGx_p (ks := [2, 1, 0, 12, 3]) (by decide) (by simp [zPu])]; exact (if_pos (by decide)).trans zg_79_3) zq463 (Or.inl rfl) dX7_init_46 ?_
  refine zw_alen F Z.1 (ty := 4) (v := 61) (by decide) zs_80 rfl rfl dX7_init_49 ?_
  refine lv_icmp_ge (tgt := 73) hx hb dX7_init_50 (by decide) (fun q => absurd q (by decide)) (fun _ => ?_)
  refine lv_aload_n hx hb dX7_init_53 rfl (lv_at hl 1 rfl) ?_
  refine zw_getR F Z.1 zC7 (a := 79) (k := 3) (by decide) zs_79 (by decide) rfl (b := 80) (by rw [zGx_p (ks := [2, 1, 0, 12, 3]) (by decide) (by simp [zPu])]; exact (if_pos (by decide)).trans zg_79_3) zq463 (Or.inl rfl) dX7_init_54 ?_
  refine lv_iload hx hb dX7_init_57 (lv_at hl 0 rfl) ?_
  refine zk_new F Z hz0 rfl zC8 (zs_pth (i := 55) (j := 0) (by decide) (by decide)) (by decide +kernel) zq455 zq213 zq81 (Nat.le_of_ble_eq_true rfl) (Nat.le_of_ble_eq_true rfl) dX7_init_59 (fun _ Z => ?_)
  have Z : zhc D A0 σ (zPu (zPu (zPu P 79 (some [2, 1, 0, 12, 3])) 80 (some [54, 53, 52, 51, 50, 49, 48, 47, 46, 45, 44, 43, 42, 41, 40, 39, 38, 37, 36, 35, 34, 33, 32, 31, 30, 29, 28, 27, 26, 25, 24, 23, 22, 21, 20, 19, 18, 17, 16, 15, 14, 13, 12, 11, 10, 9, 8, 7, 6, 5, 4, 3, 2, 1, 0])) 635 (some [])) 636 s.heap _ _ := Z
  refine W.widen (k := 556) (n := 32591) (Nat.le_of_ble_eq_true rfl) (Nat.le_of_ble_eq_true rfl) ?_
  refine lv_dup hx hb dX7_init_62 rfl ?_
  refine zsized fun hle => ?_
  refine zc_vm Z.1 (zr_IN F Z.1 (a := 635) (zsz Z.1 hz0 rfl hle) (As := []) (zci_State l D A0 σ (zPu (zPu P 79 (some [2, 1, 0, 12, 3])) 80 (some [54, 53, 52, 51, 50, 49, 48, 47, 46, 45, 44, 43, 42, 41, 40, 39, 38, 37, 36, 35, 34, 33, 32, 31, 30, 29, 28, 27, 26, 25, 24, 23, 22, 21, 20, 19, 18, 17, 16, 15, 14, 13, 12, 11, 10, 9, 8, 7, 6, 5, 4, 3, 2, 1, 0])) 635 (Or.inr (Or.inr (Or.inr ⟨55, by decide, rfl⟩))) (by simp [zPu]; try exact hPn _ (by decide)) Z.2) zBI_State (by decide) rfl ⟨⟨rfl, rfl⟩, Nat.le_of_ble_eq_true rfl, Nat.le_of_ble_eq_true rfl⟩ hl.1 rfl (Nat.le_of_ble_eq_true rfl) dX7_init_63 ⟨Nat.le_of_ble_eq_true rfl, Nat.le_of_ble_eq_true rfl⟩) (fun _ _ Z1 => ?_)
  have Z : zhc D A0 σ (zPu (zPu P 79 (some [2, 1, 0, 12, 3])) 80 (some [54, 53, 52, 51, 50, 49, 48, 47, 46, 45, 44, 43, 42, 41, 40, 39, 38, 37, 36, 35, 34, 33, 32, 31, 30, 29, 28, 27, 26, 25, 24, 23, 22, 21, 20, 19, 18, 17, 16, 15, 14, 13, 12, 11, 10, 9, 8, 7, 6, 5, 4, 3, 2, 1, 0])) 645 s.heap _ _ := ⟨Z1, fun a9 ha9 => Z.2 a9 (Nat.le_trans (by decide) ha9)⟩
  refine W.widen (k := 565) (n := 32663) (Nat.le_of_ble_eq_true rfl) (Nat.le_of_ble_eq_true rfl) ?_
  refine zk_aast F Z (ty := 4) (N := 61) (P1 := (zPu (zPu P 79 (some [2, 1, 0, 12, 3])) 80 (some [55, 54, 53, 52, 51, 50, 49, 48, 47, 46, 45, 44, 43, 42, 41, 40, 39, 38, 37, 36, 35, 34, 33, 32, 31, 30, 29, 28, 27, 26, 25, 24, 23, 22, 21, 20, 19, 18, 17, 16, 15, 14, 13, 12, 11, 10, 9, 8, 7, 6, 5, 4, 3, 2, 1, 0]))) (ks := [54, 53, 52, 51, 50, 49, 48, 47, 46, 45, 44, 43, 42, 41, 40, 39, 38, 37, 36, 35, 34, 33, 32, 31, 30, 29, 28, 27, 26, 25, 24, 23, 22, 21, 20, 19, 18, 17, 16, 15, 14, 13, 12, 11, 10, 9, 8, 7, 6, 5, 4, 3, 2, 1, 0]) (by decide) zs_80 (by decide) rfl (by decide) (zs_pth (i := 55) (j := 0) (by decide) (by decide)) zC8 (by decide) (by unfold GF; rfl) (by simp [zPu]) (by simp [zPu]; rfl) (fun c9 hc9 => by simp [zPu, hc9]) dX7_init_66 (fun _ _ Z => ?_)
  refine lv_iinc (v := 56) (lv' := [(4, .int 56), (0, .ref (A0 + 79)), (1, .ref (A0 + 3)), (2, .ref (A0 + 37)), (3, .ref (A0 + 27))]) hx hb dX7_init_67 hl (k := 0) rfl (by decide) (by decide) rfl (fun ls hl => ?_)
  refine lv_goto (tgt := 43) hx hb dX7_init_70 (by decide) ?_
  refine lv_iload hx hb dX7_init_43 (lv_at hl 0 rfl) ?_
  refine lv_aload_n hx hb dX7_init_45 rfl (lv_at hl 1 rfl) ?_
  refine zw_getR F Z.1 zC7 (a := 79) (k := 3) (by decide) zs_79 (by decide) rfl (b := 80) (by rw [zGx_p (ks := [2, 1, 0, 12, 3]) (by decide) (by simp [zPu])]; exact (if_pos (by decide)).trans zg_79_3) zq463 (Or.inl rfl) dX7_init_46 ?_
  refine zw_alen F Z.1 (ty := 4) (v := 61) (by decide) zs_80 rfl rfl dX7_init_49 ?_
  refine lv_icmp_ge (tgt := 73) hx hb dX7_init_50 (by decide) (fun q => absurd q (by decide)) (fun _ => ?_)
  refine lv_aload_n hx hb dX7_init_53 rfl (lv_at hl 1 rfl) ?_
  refine zw_getR F Z.1 zC7 (a := 79) (k := 3) (by decide) zs_79 (by decide) rfl (b := 80) (by rw [zGx_p (ks := [2, 1, 0, 12, 3]) (by decide) (by simp [zPu])]; exact (if_pos (by decide)).trans zg_79_3) zq463 (Or.inl rfl) dX7_init_54 ?_
  refine lv_iload hx hb dX7_init_57 (lv_at hl 0 rfl) ?_
  refine zk_new F Z hz0 rfl zC8 (zs_pth (i := 56) (j := 0) (by decide) (by decide)) (by decide +kernel) zq455 zq213 zq81 (Nat.le_of_ble_eq_true rfl) (Nat.le_of_ble_eq_true rfl) dX7_init_59 (fun _ Z => ?_)
  have Z : zhc D A0 σ (zPu (zPu (zPu P 79 (some [2, 1, 0, 12, 3])) 80 (some [55, 54, 53, 52, 51, 50, 49, 48, 47, 46, 45, 44, 43, 42, 41, 40, 39, 38, 37, 36, 35, 34, 33, 32, 31, 30, 29, 28, 27, 26, 25, 24, 23, 22, 21, 20, 19, 18, 17, 16, 15, 14, 13, 12, 11, 10, 9, 8, 7, 6, 5, 4, 3, 2, 1, 0])) 645 (some [])) 646 s.heap _ _ := Z
  refine W.widen (k := 566) (n := 32677) (Nat.le_of_ble_eq_true rfl) (Nat.le_of_ble_eq_true rfl) ?_
  refine lv_dup hx hb dX7_init_62 rfl ?_
  refine zsized fun hle => ?_
  refine zc_vm Z.1 (zr_IN F Z.1 (a := 645) (zsz Z.1 hz0 rfl hle) (As := []) (zci_State l D A0 σ (zPu (zPu P 79 (some [2, 1, 0, 12, 3])) 80 (some [55, 54, 53, 52, 51, 50, 49, 48, 47, 46, 45, 44, 43, 42, 41, 40, 39, 38, 37, 36, 35, 34, 33, 32, 31, 30, 29, 28, 27, 26, 25, 24, 23, 22, 21, 20, 19, 18, 17, 16, 15, 14, 13, 12, 11, 10, 9, 8, 7, 6, 5, 4, 3, 2, 1, 0])) 645 (Or.inr (Or.inr (Or.inr ⟨56, by decide, rfl⟩))) (by simp [zPu]; try exact hPn _ (by decide)) Z.2) zBI_State (by decide) rfl ⟨⟨rfl, rfl⟩, Nat.le_of_ble_eq_true rfl, Nat.le_of_ble_eq_true rfl⟩ hl.1 rfl (Nat.le_of_ble_eq_true rfl) dX7_init_63 ⟨Nat.le_of_ble_eq_true rfl, Nat.le_of_ble_eq_true rfl⟩) (fun _ _ Z1 => ?_)
  have Z : zhc D A0 σ (zPu (zPu P 79 (some [2, 1, 0, 12, 3])) 80 (some [55, 54, 53, 52, 51, 50, 49, 48, 47, 46, 45, 44, 43, 42, 41, 40, 39, 38, 37, 36, 35, 34, 33, 32, 31, 30, 29, 28, 27, 26, 25, 24, 23, 22, 21, 20, 19, 18, 17, 16, 15, 14, 13, 12, 11, 10, 9, 8, 7, 6, 5, 4, 3, 2, 1, 0])) 655 s.heap _ _ := ⟨Z1, fun a9 ha9 => Z.2 a9 (Nat.le_trans (by decide) ha9)⟩
  refine W.widen (k := 575) (n := 32749) (Nat.le_of_ble_eq_true rfl) (Nat.le_of_ble_eq_true rfl) ?_
  refine zk_aast F Z (ty := 4) (N := 61) (P1 := (zPu (zPu P 79 (some [2, 1, 0, 12, 3])) 80 (some [56, 55, 54, 53, 52, 51, 50, 49, 48, 47, 46, 45, 44, 43, 42, 41, 40, 39, 38, 37, 36, 35, 34, 33, 32, 31, 30, 29, 28, 27, 26, 25, 24, 23, 22, 21, 20, 19, 18, 17, 16, 15, 14, 13, 12, 11, 10, 9, 8, 7, 6, 5, 4, 3, 2, 1, 0]))) (ks := [55, 54, 53, 52, 51, 50, 49, 48, 47, 46, 45, 44, 43, 42, 41, 40, 39, 38, 37, 36, 35, 34, 33, 32, 31, 30, 29, 28, 27, 26, 25, 24, 23, 22, 21, 20, 19, 18, 17, 16, 15, 14, 13, 12, 11, 10, 9, 8, 7, 6, 5, 4, 3, 2, 1, 0]) (by decide) zs_80 (by decide) rfl (by decide) (zs_pth (i := 56) (j := 0) (by decide) (by decide)) zC8 (by decide) (by unfold GF; rfl) (by simp [zPu]) (by simp [zPu]; rfl) (fun c9 hc9 => by simp [zPu, hc9]) dX7_init_66 (fun _ _ Z => ?_)
  refine lv_iinc (v := 57) (lv' := [(4, .int 57), (0, .ref (A0 + 79)), (1, .ref (A0 + 3)), (2, .ref (A0 + 37)), (3, .ref (A0 + 27))]) hx hb dX7_init_67 hl (k := 0) rfl (by decide) (by decide) rfl (fun ls hl => ?_)
  refine lv_goto (tgt := 43) hx hb dX7_init_70 (by decide) ?_
  refine lv_iload hx hb dX7_init_43 (lv_at hl 0 rfl) ?_
  refine lv_aload_n hx hb dX7_init_45 rfl (lv_at hl 1 rfl) ?_
  refine zw_getR F Z.1 zC7 (a := 79) (k := 3) (by decide) zs_79 (by decide) rfl (b := 80) (by rw [zGx_p (ks := [2, 1, 0, 12, 3]) (by decide) (by simp [zPu])]; exact (if_pos (by decide)).trans zg_79_3) zq463 (Or.inl rfl) dX7_init_46 ?_
  refine zw_alen F Z.1 (ty := 4) (v := 61) (by decide) zs_80 rfl rfl dX7_init_49 ?_
  refine lv_icmp_ge (tgt := 73) hx hb dX7_init_50 (by decide) (fun q => absurd q (by decide)) (fun _ => ?_)
  refine lv_aload_n hx hb dX7_init_53 rfl (lv_at hl 1 rfl) ?_
  refine zw_getR F Z.1 zC7 (a := 79) (k := 3) (by decide) zs_79 (by decide) rfl (b := 80) (by rw [zGx_p (ks := [2, 1, 0, 12, 3]) (by decide) (by simp [zPu])]; exact (if_pos (by decide)).trans zg_79_3) zq463 (Or.inl rfl) dX7_init_54 ?_
  refine lv_iload hx hb dX7_init_57 (lv_at hl 0 rfl) ?_
  refine zk_new F Z hz0 rfl zC8 (zs_pth (i := 57) (j := 0) (by decide) (by decide)) (by decide +kernel) zq455 zq213 zq81 (Nat.le_of_ble_eq_true rfl) (Nat.le_of_ble_eq_true rfl) dX7_init_59 (fun _ Z => ?_)
  have Z : zhc D A0 σ (zPu (zPu (zPu P 79 (some [2, 1, 0, 12, 3])) 80 (some [56, 55, 54, 53, 52, 51, 50, 49, 48, 47, 46, 45, 44, 43, 42, 41, 40, 39, 38, 37, 36, 35, 34, 33, 32, 31, 30, 29, 28, 27, 26, 25, 24, 23, 22, 21, 20, 19, 18, 17, 16, 15, 14, 13, 12, 11, 10, 9, 8, 7, 6, 5, 4, 3, 2, 1, 0])) 655 (some [])) 656 s.heap _ _ := Z
  refine W.widen (k := 576) (n := 32763) (Nat.le_of_ble_eq_true rfl) (Nat.le_of_ble_eq_true rfl) ?_
  refine lv_dup hx hb dX7_init_62 rfl ?_
  refine zsized fun hle => ?_
  refine zc_vm Z.1 (zr_IN F Z.1 (a := 655) (zsz Z.1 hz0 rfl hle) (As := []) (zci_State l D A0 σ (zPu (zPu P 79 (some [2, 1, 0, 12, 3])) 80 (some [56, 55, 54, 53, 52, 51, 50, 49, 48, 47, 46, 45, 44, 43, 42, 41, 40, 39, 38, 37, 36, 35, 34, 33, 32, 31, 30, 29, 28, 27, 26, 25, 24, 23, 22, 21, 20, 19, 18, 17, 16, 15, 14, 13, 12, 11, 10, 9, 8, 7, 6, 5, 4, 3, 2, 1, 0])) 655 (Or.inr (Or.inr (Or.inr ⟨57, by decide, rfl⟩))) (by simp [zPu]; try exact hPn _ (by decide)) Z.2) zBI_State (by decide) rfl ⟨⟨rfl, rfl⟩, Nat.le_of_ble_eq_true rfl, Nat.le_of_ble_eq_true rfl⟩ hl.1 rfl (Nat.le_of_ble_eq_true rfl) dX7_init_63 ⟨Nat.le_of_ble_eq_true rfl, Nat.le_of_ble_eq_true rfl⟩) (fun _ _ Z1 => ?_)
  have Z : zhc D A0 σ (zPu (zPu P 79 (some [2, 1, 0, 12, 3])) 80 (some [56, 55, 54, 53, 52, 51, 50, 49, 48, 47, 46, 45, 44, 43, 42, 41, 40, 39, 38, 37, 36, 35, 34, 33, 32, 31, 30, 29, 28, 27, 26, 25, 24, 23, 22, 21, 20, 19, 18, 17, 16, 15, 14, 13, 12, 11, 10, 9, 8, 7, 6, 5, 4, 3, 2, 1, 0])) 665 s.heap _ _ := ⟨Z1, fun a9 ha9 => Z.2 a9 (Nat.le_trans (by decide) ha9)⟩
  refine W.widen (k := 585) (n := 32835) (Nat.le_of_ble_eq_true rfl) (Nat.le_of_ble_eq_true rfl) ?_
  refine zk_aast F Z (ty := 4) (N := 61) (P1 := (zPu (zPu P 79 (some [2, 1, 0, 12, 3])) 80 (some [57, 56, 55, 54, 53, 52, 51, 50, 49, 48, 47, 46, 45, 44, 43, 42, 41, 40, 39, 38, 37, 36, 35, 34, 33, 32, 31, 30, 29, 28, 27, 26, 25, 24, 23, 22, 21, 20, 19, 18, 17, 16, 15, 14, 13, 12, 11, 10, 9, 8, 7, 6, 5, 4, 3, 2, 1, 0]))) (ks := [56, 55, 54, 53, 52, 51, 50, 49, 48, 47, 46, 45, 44, 43, 42, 41, 40, 39, 38, 37, 36, 35, 34, 33, 32, 31, 30, 29, 28, 27, 26, 25, 24, 23, 22, 21, 20, 19, 18, 17, 16, 15, 14, 13, 12, 11, 10, 9, 8, 7, 6, 5, 4, 3, 2, 1, 0]) (by decide) zs_80 (by decide) rfl (by decide) (zs_pth (i := 57) (j := 0) (by decide) (by decide)) zC8 (by decide) (by unfold GF; rfl) (by simp [zPu]) (by simp [zPu]; rfl) (fun c9 hc9 => by simp [zPu, hc9]) dX7_init_66 (fun _ _ Z => ?_)
  refine lv_iinc (v := 58) (lv' := [(4, .int 58), (0, .ref (A0 + 79)), (1, .ref (A0 + 3)), (2, .ref (A0 + 37)), (3, .ref (A0 + 27))]) hx hb dX7_init_67 hl (k := 0) rfl (by decide) (by decide) rfl (fun ls hl => ?_)
  refine lv_goto (tgt := 43) hx hb dX7_init_70 (by decide) ?_
  refine lv_iload hx hb dX7_init_43 (lv_at hl 0 rfl) ?_
  refine lv_aload_n hx hb dX7_init_45 rfl (lv_at hl 1 rfl) ?_
  refine zw_getR F Z.1 zC7 (a := 79) (k := 3) (by decide) zs_79 (by decide) rfl (b := 80) (by rw [zGx_p (ks := [2, 1, 0, 12, 3]) (by decide) (by simp [zPu])]; exact (if_pos (by decide)).trans zg_79_3) zq463 (Or.inl rfl) dX7_init_46 ?_
  refine zw_alen F Z.1 (ty := 4) (v := 61) (by decide) zs_80 rfl rfl dX7_init_49 ?_
  refine lv_icmp_ge (tgt := 73) hx hb dX7_init_50 (by decide) (fun q => absurd q (by decide)) (fun _ => ?_)
  refine lv_aload_n hx hb dX7_init_53 rfl (lv_at hl 1 rfl) ?_
  refine zw_getR F Z.1 zC7 (a := 79) (k := 3) (by decide) zs_79 (by decide) rfl (b := 80) (by rw [zGx_p (ks := [2, 1, 0, 12, 3]) (by decide) (by simp [zPu])]; exact (if_pos (by decide)).trans zg_79_3) zq463 (Or.inl rfl) dX7_init_54 ?_
  refine lv_iload hx hb dX7_init_57 (lv_at hl 0 rfl) ?_
  refine zk_new F Z hz0 rfl zC8 (zs_pth (i := 58) (j := 0) (by decide) (by decide)) (by decide +kernel) zq455 zq213 zq81 (Nat.le_of_ble_eq_true rfl) (Nat.le_of_ble_eq_true rfl) dX7_init_59 (fun _ Z => ?_)
  have Z : zhc D A0 σ (zPu (zPu (zPu P 79 (some [2, 1, 0, 12, 3])) 80 (some [57, 56, 55, 54, 53, 52, 51, 50, 49, 48, 47, 46, 45, 44, 43, 42, 41, 40, 39, 38, 37, 36, 35, 34, 33, 32, 31, 30, 29, 28, 27, 26, 25, 24, 23, 22, 21, 20, 19, 18, 17, 16, 15, 14, 13, 12, 11, 10, 9, 8, 7, 6, 5, 4, 3, 2, 1, 0])) 665 (some [])) 666 s.heap _ _ := Z
  refine W.widen (k := 586) (n := 32849) (Nat.le_of_ble_eq_true rfl) (Nat.le_of_ble_eq_true rfl) ?_
  refine lv_dup hx hb dX7_init_62 rfl ?_
  refine zsized fun hle => ?_
  refine zc_vm Z.1 (zr_IN F Z.1 (a := 665) (zsz Z.1 hz0 rfl hle) (As := []) (zci_State l D A0 σ (zPu (zPu P 79 (some [2, 1, 0, 12, 3])) 80 (some [57, 56, 55, 54, 53, 52, 51, 50, 49, 48, 47, 46, 45, 44, 43, 42, 41, 40, 39, 38, 37, 36, 35, 34, 33, 32, 31, 30, 29, 28, 27, 26, 25, 24, 23, 22, 21, 20, 19, 18, 17, 16, 15, 14, 13, 12, 11, 10, 9, 8, 7, 6, 5, 4, 3, 2, 1, 0])) 665 (Or.inr (Or.inr (Or.inr ⟨58, by decide, rfl⟩))) (by simp [zPu]; try exact hPn _ (by decide)) Z.2) zBI_State (by decide) rfl ⟨⟨rfl, rfl⟩, Nat.le_of_ble_eq_true rfl, Nat.le_of_ble_eq_true rfl⟩ hl.1 rfl (Nat.le_of_ble_eq_true rfl) dX7_init_63 ⟨Nat.le_of_ble_eq_true rfl, Nat.le_of_ble_eq_true rfl⟩) (fun _ _ Z1 => ?_)
  have Z : zhc D A0 σ (zPu (zPu P 79 (some [2, 1, 0, 12, 3])) 80 (some [57, 56, 55, 54, 53, 52, 51, 50, 49, 48, 47, 46, 45, 44, 43, 42, 41, 40, 39, 38, 37, 36, 35, 34, 33, 32, 31, 30, 29, 28, 27, 26, 25, 24, 23, 22, 21, 20, 19, 18, 17, 16, 15, 14, 13, 12, 11, 10, 9, 8, 7, 6, 5, 4, 3, 2, 1, 0])) 675 s.heap _ _ := ⟨Z1, fun a9 ha9 => Z.2 a9 (Nat.le_trans (by decide) ha9)⟩
  refine W.widen (k := 595) (n := 32921) (Nat.le_of_ble_eq_true rfl) (Nat.le_of_ble_eq_true rfl) ?_
  refine zk_aast F Z (ty := 4) (N := 61) (P1 := (zPu (zPu P 79 (some [2, 1, 0, 12, 3])) 80 (some [58, 57, 56, 55, 54, 53, 52, 51, 50, 49, 48, 47, 46, 45, 44, 43, 42, 41, 40, 39, 38, 37, 36, 35, 34, 33, 32, 31, 30, 29, 28, 27, 26, 25, 24, 23, 22, 21, 20, 19, 18, 17, 16, 15, 14, 13, 12, 11, 10, 9, 8, 7, 6, 5, 4, 3, 2, 1, 0]))) (ks := [57, 56, 55, 54, 53, 52, 51, 50, 49, 48, 47, 46, 45, 44, 43, 42, 41, 40, 39, 38, 37, 36, 35, 34, 33, 32, 31, 30, 29, 28, 27, 26, 25, 24, 23, 22, 21, 20, 19, 18, 17, 16, 15, 14, 13, 12, 11, 10, 9, 8, 7, 6, 5, 4, 3, 2, 1, 0]) (by decide) zs_80 (by decide) rfl (by decide) (zs_pth (i := 58) (j := 0) (by decide) (by decide)) zC8 (by decide) (by unfold GF; rfl) (by simp [zPu]) (by simp [zPu]; rfl) (fun c9 hc9 => by simp [zPu, hc9]) dX7_init_66 (fun _ _ Z => ?_)
  refine lv_iinc (v := 59) (lv' := [(4, .int 59), (0, .ref (A0 + 79)), (1, .ref (A0 + 3)), (2, .ref (A0 + 37)), (3, .ref (A0 + 27))]) hx hb dX7_init_67 hl (k := 0) rfl (by decide) (by decide) rfl (fun ls hl => ?_)
  refine lv_goto (tgt := 43) hx hb dX7_init_70 (by decide) ?_
  refine lv_iload hx hb dX7_init_43 (lv_at hl 0 rfl) ?_
  refine lv_aload_n hx hb dX7_init_45 rfl (lv_at hl 1 rfl) ?_
  refine zw_getR F Z.1 zC7 (a := 79) (k := 3) (by decide) zs_79 (by decide) rfl (b := 80) (by rw [zGx_p (ks := [2, 1, 0, 12, 3]) (by decide) (by simp [zPu])]; exact (if_pos (by decide)).trans zg_79_3) zq463 (Or.inl rfl) dX7_init_46 ?_
  refine zw_alen F Z.1 (ty := 4) (v := 61) (by decide) zs_80 rfl rfl dX7_init_49 ?_
  refine lv_icmp_ge (tgt := 73) hx hb dX7_init_50 (by decide) (fun q => absurd q (by decide)) (fun _ => ?_)
  refine lv_aload_n hx hb dX7_init_53 rfl (lv_at hl 1 rfl) ?_
  refine zw_getR F Z.1 zC7 (a := 79) (k := 3) (by decide) zs_79 (by decide) rfl (b := 80) (by rw [zGx_p (ks := [2, 1, 0, 12, 3]) (by decide) (by simp [zPu])]; exact (if_pos (by decide)).trans zg_79_3) zq463 (Or.inl rfl) dX7_init_54 ?_
  refine lv_iload hx hb dX7_init_57 (lv_at hl 0 rfl) ?_
  refine zk_new F Z hz0 rfl zC8 (zs_pth (i := 59) (j := 0) (by decide) (by decide)) (by decide +kernel) zq455 zq213 zq81 (Nat.le_of_ble_eq_true rfl) (Nat.le_of_ble_eq_true rfl) dX7_init_59 (fun _ Z => ?_)
  have Z : zhc D A0 σ (zPu (zPu (zPu P 79 (some [2, 1, 0, 12, 3])) 80 (some [58, 57, 56, 55, 54, 53, 52, 51, 50, 49, 48, 47, 46, 45, 44, 43, 42, 41, 40, 39, 38, 37, 36, 35, 34, 33, 32, 31, 30, 29, 28, 27, 26, 25, 24, 23, 22, 21, 20, 19, 18, 17, 16, 15, 14, 13, 12, 11, 10, 9, 8, 7, 6, 5, 4, 3, 2, 1, 0])) 675 (some [])) 676 s.heap _ _ := Z
  refine W.widen (k := 596) (n := 32935) (Nat.le_of_ble_eq_true rfl) (Nat.le_of_ble_eq_true rfl) ?_
  refine lv_dup hx hb dX7_init_62 rfl ?_
  refine zsized fun hle => ?_
  refine zc_vm Z.1 (zr_IN F Z.1 (a := 675) (zsz Z.1 hz0 rfl hle) (As := []) (zci_State l D A0 σ (zPu (zPu P 79 (some [2, 1, 0, 12, 3])) 80 (some [58, 57, 56, 55, 54, 53, 52, 51, 50, 49, 48, 47, 46, 45, 44, 43, 42, 41, 40, 39, 38, 37, 36, 35, 34, 33, 32, 31, 30, 29, 28, 27, 26, 25, 24, 23, 22, 21, 20, 19, 18, 17, 16, 15, 14, 13, 12, 11, 10, 9, 8, 7, 6, 5, 4, 3, 2, 1, 0])) 675 (Or.inr (Or.inr (Or.inr ⟨59, by decide, rfl⟩))) (by simp [zPu]; try exact hPn _ (by decide)) Z.2) zBI_State (by decide) rfl ⟨⟨rfl, rfl⟩, Nat.le_of_ble_eq_true rfl, Nat.le_of_ble_eq_true rfl⟩ hl.1 rfl (Nat.le_of_ble_eq_true rfl) dX7_init_63 ⟨Nat.le_of_ble_eq_true rfl, Nat.le_of_ble_eq_true rfl⟩) (fun _ _ Z1 => ?_)
  have Z : zhc D A0 σ (zPu (zPu P 79 (some [2, 1, 0, 12, 3])) 80 (some [58, 57, 56, 55, 54, 53, 52, 51, 50, 49, 48, 47, 46, 45, 44, 43, 42, 41, 40, 39, 38, 37, 36, 35, 34, 33, 32, 31, 30, 29, 28, 27, 26, 25, 24, 23, 22, 21, 20, 19, 18, 17, 16, 15, 14, 13, 12, 11, 10, 9, 8, 7, 6, 5, 4, 3, 2, 1, 0])) 685 s.heap _ _ := ⟨Z1, fun a9 ha9 => Z.2 a9 (Nat.le_trans (by decide) ha9)⟩
  refine W.widen (k := 605) (n := 33007) (Nat.le_of_ble_eq_true rfl) (Nat.le_of_ble_eq_true rfl) ?_
  refine zk_aast F Z (ty := 4) (N := 61) (P1 := (zPu (zPu P 79 (some [2, 1, 0, 12, 3])) 80 (some [59, 58, 57, 56, 55, 54, 53, 52, 51, 50, 49, 48, 47, 46, 45, 44, 43, 42, 41, 40, 39, 38, 37, 36, 35, 34, 33, 32, 31, 30, 29, 28, 27, 26, 25, 24, 23, 22, 21, 20, 19, 18, 17, 16, 15, 14, 13, 12, 11, 10, 9, 8, 7, 6, 5, 4, 3, 2, 1, 0]))) (ks := [58, 57, 56, 55, 54, 53, 52, 51, 50, 49, 48, 47, 46, 45, 44, 43, 42, 41, 40, 39, 38, 37, 36, 35, 34, 33, 32, 31, 30, 29, 28, 27, 26, 25, 24, 23, 22, 21, 20, 19, 18, 17, 16, 15, 14, 13, 12, 11, 10, 9, 8, 7, 6, 5, 4, 3, 2, 1, 0]) (by decide) zs_80 (by decide) rfl (by decide) (zs_pth (i := 59) (j := 0) (by decide) (by decide)) zC8 (by decide) (by unfold GF; rfl) (by simp [zPu]) (by simp [zPu]; rfl) (fun c9 hc9 => by simp [zPu, hc9]) dX7_init_66 (fun _ _ Z => ?_)
  refine lv_iinc (v := 60) (lv' := [(4, .int 60), (0, .ref (A0 + 79)), (1, .ref (A0 + 3)), (2, .ref (A0 + 37)), (3, .ref (A0 + 27))]) hx hb dX7_init_67 hl (k := 0) rfl (by decide) (by decide) rfl (fun ls hl => ?_)
  refine lv_goto (tgt := 43) hx hb dX7_init_70 (by decide) ?_
  refine lv_iload hx hb dX7_init_43 (lv_at hl 0 rfl) ?_
  refine lv_aload_n hx hb dX7_init_45 rfl (lv_at hl 1 rfl) ?_
  refine zw_getR F Z.1 zC7 (a := 79) (k := 3) (by decide) zs_79 (by decide) rfl (b := 80) (by rw [zGx_p (ks := [2, 1, 0, 12, 3]) (by decide) (by simp [zPu])]; exact (if_pos (by decide)).trans zg_79_3) zq463 (Or.inl rfl) dX7_init_46 ?_
  refine zw_alen F Z.1 (ty := 4) (v := 61) (by decide) zs_80 rfl rfl dX7_init_49 ?_
  refine lv_icmp_ge (tgt := 73) hx hb dX7_init_50 (by decide) (fun q => absurd q (by decide)) (fun _ => ?_)
  refine lv_aload_n hx hb dX7_init_53 rfl (lv_at hl 1 rfl) ?_
  refine zw_getR F Z.1 zC7 (a := 79) (k := 3) (by decide) zs_79 (by decide) rfl (b := 80) (by rw [zGx_p (ks := [2, 1, 0, 12, 3]) (by decide) (by simp [zPu])]; exact (if_pos (by decide)).trans zg_79_3) zq463 (Or.inl rfl) dX7_init_54 ?_
  refine lv_iload hx hb dX7_init_57 (lv_at hl 0 rfl) ?_
  refine zk_new F Z hz0 rfl zC8 (zs_pth (i := 60) (j := 0) (by decide) (by decide)) (by decide +kernel) zq455 zq213 zq81 (Nat.le_of_ble_eq_true rfl) (Nat.le_of_ble_eq_true rfl) dX7_init_59 (fun _ Z => ?_)
  have Z : zhc D A0 σ (zPu (zPu (zPu P 79 (some [2, 1, 0, 12, 3])) 80 (some [59, 58, 57, 56, 55, 54, 53, 52, 51, 50, 49, 48, 47, 46, 45, 44, 43, 42, 41, 40, 39, 38, 37, 36, 35, 34, 33, 32, 31, 30, 29, 28, 27, 26, 25, 24, 23, 22, 21, 20, 19, 18, 17, 16, 15, 14, 13, 12, 11, 10, 9, 8, 7, 6, 5, 4, 3, 2, 1, 0])) 685 (some [])) 686 s.heap _ _ := Z
  refine W.widen (k := 606) (n := 33021) (Nat.le_of_ble_eq_true rfl) (Nat.le_of_ble_eq_true rfl) ?_
  refine lv_dup hx hb dX7_init_62 rfl ?_
  refine zsized fun hle => ?_
  refine zc_vm Z.1 (zr_IN F Z.1 (a := 685) (zsz Z.1 hz0 rfl hle) (As := []) (zci_State l D A0 σ (zPu (zPu P 79 (some [2, 1, 0, 12, 3])) 80 (some [59, 58, 57, 56, 55, 54, 53, 52, 51, 50, 49, 48, 47, 46, 45, 44, 43, 42, 41, 40, 39, 38, 37, 36, 35, 34, 33, 32, 31, 30, 29, 28, 27, 26, 25, 24, 23, 22, 21, 20, 19, 18, 17, 16, 15, 14, 13, 12, 11, 10, 9, 8, 7, 6, 5, 4, 3, 2, 1, 0])) 685 (Or.inr (Or.inr (Or.inr ⟨60, by decide, rfl⟩))) (by simp [zPu]; try exact hPn _ (by decide)) Z.2) zBI_State (by decide) rfl ⟨⟨rfl, rfl⟩, Nat.le_of_ble_eq_true rfl, Nat.le_of_ble_eq_true rfl⟩ hl.1 rfl (Nat.le_of_ble_eq_true rfl) dX7_init_63 ⟨Nat.le_of_ble_eq_true rfl, Nat.le_of_ble_eq_true rfl⟩) (fun _ _ Z1 => ?_)
  have Z : zhc D A0 σ (zPu (zPu P 79 (some [2, 1, 0, 12, 3])) 80 (some [59, 58, 57, 56, 55, 54, 53, 52, 51, 50, 49, 48, 47, 46, 45, 44, 43, 42, 41, 40, 39, 38, 37, 36, 35, 34, 33, 32, 31, 30, 29, 28, 27, 26, 25, 24, 23, 22, 21, 20, 19, 18, 17, 16, 15, 14, 13, 12, 11, 10, 9, 8, 7, 6, 5, 4, 3, 2, 1, 0])) 695 s.heap _ _ := ⟨Z1, fun a9 ha9 => Z.2 a9 (Nat.le_trans (by decide) ha9)⟩
  refine W.widen (k := 615) (n := 33093) (Nat.le_of_ble_eq_true rfl) (Nat.le_of_ble_eq_true rfl) ?_
  refine zk_aast F Z (ty := 4) (N := 61) (P1 := (zPu (zPu P 79 (some [2, 1, 0, 12, 3])) 80 (some [60, 59, 58, 57, 56, 55, 54, 53, 52, 51, 50, 49, 48, 47, 46, 45, 44, 43, 42, 41, 40, 39, 38, 37, 36, 35, 34, 33, 32, 31, 30, 29, 28, 27, 26, 25, 24, 23, 22, 21, 20, 19, 18, 17, 16, 15, 14, 13, 12, 11, 10, 9, 8, 7, 6, 5, 4, 3, 2, 1, 0]))) (ks := [59, 58, 57, 56, 55, 54, 53, 52, 51, 50, 49, 48, 47, 46, 45, 44, 43, 42, 41, 40, 39, 38, 37, 36, 35, 34, 33, 32, 31, 30, 29, 28, 27, 26, 25, 24, 23, 22, 21, 20, 19, 18, 17, 16, 15, 14, 13, 12, 11, 10, 9, 8, 7, 6, 5, 4, 3, 2, 1, 0]) (by decide) zs_80 (by decide) rfl (by decide) (zs_pth (i := 60) (j := 0) (by decide) (by decide)) zC8 (by decide) (by unfold GF; rfl) (by simp [zPu]) (by simp [zPu]; rfl) (fun c9 hc9 => by simp [zPu, hc9]) dX7_init_66 (fun _ _ Z => ?_)
  have Z : zhc D A0 σ (zPu P 79 (some [2, 1, 0, 12, 3])) 695 s.heap _ _ := zhc_drop (a := 80) Z (by decide) (by simp [zPu]; rfl) (by simp [zPu]; exact hPn 80 (by decide)) (fun c9 hc9 => by simp [zPu, hc9]) ⟨by rw [zs_80]; decide +kernel, fun _ => zGh_80⟩
  refine lv_iinc (v := 61) (lv' := [(4, .int 61), (0, .ref (A0 + 79)), (1, .ref (A0 + 3)), (2, .ref (A0 + 37)), (3, .ref (A0 + 27))]) hx hb dX7_init_67 hl (k := 0) rfl (by decide) (by decide) rfl (fun ls hl => ?_)
  refine lv_goto (tgt := 43) hx hb dX7_init_70 (by decide) ?_
  refine lv_iload hx hb dX7_init_43 (lv_at hl 0 rfl) ?_
  refine lv_aload_n hx hb dX7_init_45 rfl (lv_at hl 1 rfl) ?_
  refine zw_getR F Z.1 zC7 (a := 79) (k := 3) (by decide) zs_79 (by decide) rfl (b := 80) (by rw [zGx_p (ks := [2, 1, 0, 12, 3]) (by decide) (by simp [zPu])]; exact (if_pos (by decide)).trans zg_79_3) zq463 (Or.inl rfl) dX7_init_46 ?_
  refine zw_alen F Z.1 (ty := 4) (v := 61) (by decide) zs_80 rfl rfl dX7_init_49 ?_
  refine lv_icmp_ge (tgt := 73) hx hb dX7_init_50 (by decide) (fun _ => ?_) (fun q => absurd (by decide) q)
  have Z : zhc D A0 σ P 695 s.heap _ _ := zhc_drop (a := 79) Z (by decide) zPu_s hPb (fun c9 hc9 => (zPu_n hc9).symm) ⟨by rw [show zs 79 = _ from zs_79]; decide +kernel, fun h9 => absurd h9 (by rw [show zs 79 = _ from zs_79]; decide)⟩
  exact ze_vm F Z.1 hr hlocks (Nat.le_of_ble_eq_true rfl) (Nat.le_of_ble_eq_true rfl) rfl rfl dX7_init_73
set_option maxHeartbeats 8000000 in
set_option maxRecDepth 100000 in
theorem zci_UnsoldPrice (l : Launch) (D : va_G) (A0 : Nat) (σ : Mm) (P : Nat → Option (List Nat)) (hPn : ∀ a, 0 ≤ a → P a = none) (hPb : P 0 = none) (h0 : ∀ a, 1 ≤ a → σ a = fun _ => 0) : Met l yX11_init (zws yX11_init cX11_init 6 none) ({ frames := 3, cells := 702, slots := 36866, locals := 104 } : Room) (zPcs D A0 σ (zGx 1 (zPu P 0 (some []))) 1 [.ref (A0 + 0)]) (zQv D A0 σ (zGx 703 P) 703) 702 36866 (zA A0) := by
  refine zmets (own := RX11) (by decide) rfl (Nat.le_of_ble_eq_true rfl) ?_
  intro p e s m below meth c F hr hlocks hin Z0 hz0 ls hl
  have Z : zhc D A0 σ (zPu P 0 (some [])) 1 s.heap s.heap [] := ⟨Z0, h0⟩
  have hl : lv_has ls 6 [(0, .ref (A0 + 0))] := hl
  have hx := F.1.1
  have hb := F.1.2.1
  have hown := F.1.2.2.2.1
  have hts := F.1.2.2.2.2
  refine lv_aload_n hx hb dX11_init_0 rfl (lv_at hl 0 rfl) ?_
  refine W.objInit hx hb hown (hts _ zq106) (hts _ zq107) (hts _ zq108) rfl (by rw [F.1.2.2.1]; exact hl.1) rfl dX11_init_1 (Nat.le_of_ble_eq_true rfl) (Nat.le_of_ble_eq_true rfl) ?_
  refine W.eq (g2 := F0 m 4 ls []) rfl ?_
  refine zk_new F Z hz0 rfl zC9 zs_1 (by decide +kernel) zq109 zq110 zq78 (Nat.le_of_ble_eq_true rfl) (Nat.le_of_ble_eq_true rfl) dX11_init_4 (fun _ Z => ?_)
  have Z : zhc D A0 σ (zPu (zPu P 0 (some [])) 1 (some [])) 2 s.heap _ _ := Z
  refine W.widen (k := 1) (n := 2) (Nat.le_of_ble_eq_true rfl) (Nat.le_of_ble_eq_true rfl) ?_
  refine lv_dup hx hb dX11_init_7 rfl ?_
  refine zsized fun hle => ?_
  refine zc_vm Z.1 (zr_IN F Z.1 (a := 1) (zsz Z.1 hz0 rfl hle) (As := []) (zci_Tape l D A0 σ (zPu P 0 (some []))  (by simp [zPu]; try exact hPn _ (by decide)) Z.2) zBI_Tape (by decide) rfl ⟨⟨rfl, rfl⟩, Nat.le_of_ble_eq_true rfl, Nat.le_of_ble_eq_true rfl⟩ hl.1 rfl (Nat.le_of_ble_eq_true rfl) dX11_init_8 ⟨Nat.le_of_ble_eq_true rfl, Nat.le_of_ble_eq_true rfl⟩) (fun _ _ Z1 => ?_)
  have Z : zhc D A0 σ (zPu P 0 (some [])) 3 s.heap _ _ := ⟨Z1, fun a9 ha9 => Z.2 a9 (Nat.le_trans (by decide) ha9)⟩
  refine W.widen (k := 2) (n := 162) (Nat.le_of_ble_eq_true rfl) (Nat.le_of_ble_eq_true rfl) ?_
  refine lv_astore_n (lv' := [(1, .ref (A0 + 1)), (0, .ref (A0 + 0))]) hx hb dX11_init_11 rfl hl (by decide) rfl (fun ls hl => ?_)
  refine zk_new F Z hz0 rfl zC0 zs_3 (by decide +kernel) zq124 zq125 zq79 (Nat.le_of_ble_eq_true rfl) (Nat.le_of_ble_eq_true rfl) dX11_init_12 (fun _ Z => ?_)
  have Z : zhc D A0 σ (zPu (zPu P 0 (some [])) 3 (some [])) 4 s.heap _ _ := Z
  refine W.widen (k := 3) (n := 174) (Nat.le_of_ble_eq_true rfl) (Nat.le_of_ble_eq_true rfl) ?_
  refine lv_dup hx hb dX11_init_15 rfl ?_
  refine zsized fun hle => ?_
  refine zc_vm Z.1 (zr_IN F Z.1 (a := 3) (zsz Z.1 hz0 rfl hle) (As := []) (zci_Market l D A0 σ (zPu P 0 (some [])) 3 (Or.inl rfl) (by simp [zPu]; try exact hPn _ (by decide)) Z.2) zBI_Market (by decide) rfl ⟨⟨rfl, rfl⟩, Nat.le_of_ble_eq_true rfl, Nat.le_of_ble_eq_true rfl⟩ hl.1 rfl (Nat.le_of_ble_eq_true rfl) dX11_init_16 ⟨Nat.le_of_ble_eq_true rfl, Nat.le_of_ble_eq_true rfl⟩) (fun _ _ Z1 => ?_)
  have Z : zhc D A0 σ (zPu P 0 (some [])) 11 s.heap _ _ := ⟨Z1, fun a9 ha9 => Z.2 a9 (Nat.le_trans (by decide) ha9)⟩
  refine W.widen (k := 10) (n := 216) (Nat.le_of_ble_eq_true rfl) (Nat.le_of_ble_eq_true rfl) ?_
  refine lv_astore_n (lv' := [(2, .ref (A0 + 3)), (1, .ref (A0 + 1)), (0, .ref (A0 + 0))]) hx hb dX11_init_19 rfl hl (by decide) rfl (fun ls hl => ?_)
  refine lv_iconst (v := 5) hx hb dX11_init_20 (by decide) ?_
  refine zk_anew F Z hz0 rfl (ty := 5) (N := 5) zs_11 (by decide) rfl zq194 F.2.2.1.2.2.2.2.2.2.1 (by decide) rfl (Nat.le_of_ble_eq_true rfl) (Nat.le_of_ble_eq_true rfl) (Nat.le_of_ble_eq_true rfl) dX11_init_21 (fun _ Z => ?_)
  have Z : zhc D A0 σ (zPu (zPu P 0 (some [])) 11 (some [])) 12 s.heap _ _ := Z
  refine W.widen (k := 11) (n := 221) (Nat.le_of_ble_eq_true rfl) (Nat.le_of_ble_eq_true rfl) ?_
  refine lv_astore_n (lv' := [(3, .ref (A0 + 11)), (2, .ref (A0 + 3)), (1, .ref (A0 + 1)), (0, .ref (A0 + 0))]) hx hb dX11_init_24 rfl hl (by decide) rfl (fun ls hl => ?_)
  refine lv_iconst (v := 0) hx hb dX11_init_25 (by decide) ?_
  refine lv_istore (lv' := [(4, .int 0), (3, .ref (A0 + 11)), (2, .ref (A0 + 3)), (1, .ref (A0 + 1)), (0, .ref (A0 + 0))]) hx hb dX11_init_26 hl (by decide) rfl (fun ls hl => ?_)
  refine lv_iload hx hb dX11_init_28 (lv_at hl 0 rfl) ?_
  refine lv_iconst (v := 5) hx hb dX11_init_30 (by decide) ?_
  refine lv_icmp_ge (tgt := 51) hx hb dX11_init_31 (by decide) (fun q => absurd q (by decide)) (fun _ => ?_)
  refine lv_aload_n hx hb dX11_init_34 rfl (lv_at hl 1 rfl) ?_
  refine lv_iload hx hb dX11_init_35 (lv_at hl 0 rfl) ?_
  refine zk_new F Z hz0 rfl zC4 zs_12 (by decide +kernel) zq194 zq196 zq80 (Nat.le_of_ble_eq_true rfl) (Nat.le_of_ble_eq_true rfl) dX11_init_37 (fun _ Z => ?_)
  have Z : zhc D A0 σ (zPu (zPu (zPu P 0 (some [])) 11 (some [])) 12 (some [])) 13 s.heap _ _ := Z
  refine W.widen (k := 12) (n := 224) (Nat.le_of_ble_eq_true rfl) (Nat.le_of_ble_eq_true rfl) ?_
  refine lv_dup hx hb dX11_init_40 rfl ?_
  refine zsized fun hle => ?_
  refine zc_vm Z.1 (zr_IN F Z.1 (a := 12) (zsz Z.1 hz0 rfl hle) (As := []) (zci_Rule l D A0 σ (zPu (zPu P 0 (some [])) 11 (some [])) 12 (by decide) (by simp [zPu]; try exact hPn _ (by decide)) Z.2) zBI_Rule (by decide) rfl ⟨⟨rfl, rfl⟩, Nat.le_of_ble_eq_true rfl, Nat.le_of_ble_eq_true rfl⟩ hl.1 rfl (Nat.le_of_ble_eq_true rfl) dX11_init_41 ⟨Nat.le_of_ble_eq_true rfl, Nat.le_of_ble_eq_true rfl⟩) (fun _ _ Z1 => ?_)
  have Z : zhc D A0 σ (zPu (zPu P 0 (some [])) 11 (some [])) 15 s.heap _ _ := ⟨Z1, fun a9 ha9 => Z.2 a9 (Nat.le_trans (by decide) ha9)⟩
  refine W.widen (k := 14) (n := 704) (Nat.le_of_ble_eq_true rfl) (Nat.le_of_ble_eq_true rfl) ?_
  refine zk_aast F Z (ty := 5) (N := 5) (P1 := (zPu (zPu P 0 (some [])) 11 (some [0]))) (ks := []) (by decide) zs_11 (by decide) rfl (by decide) zs_12 zC4 (by decide) zg_11_0 (by simp [zPu]) (by simp [zPu]; rfl) (fun c9 hc9 => by simp [zPu, hc9]) dX11_init_44 (fun _ _ Z => ?_)
  refine lv_iinc (v := 1) (lv' := [(4, .int 1), (3, .ref (A0 + 11)), (2, .ref (A0 + 3)), (1, .ref (A0 + 1)), (0, .ref (A0 + 0))]) hx hb dX11_init_45 hl (k := 0) rfl (by decide) (by decide) rfl (fun ls hl => ?_)
  refine lv_goto (tgt := 28) hx hb dX11_init_48 (by decide) ?_
  refine lv_iload hx hb dX11_init_28 (lv_at hl 0 rfl) ?_
  refine lv_iconst (v := 5) hx hb dX11_init_30 (by decide) ?_
  refine lv_icmp_ge (tgt := 51) hx hb dX11_init_31 (by decide) (fun q => absurd q (by decide)) (fun _ => ?_)
  refine lv_aload_n hx hb dX11_init_34 rfl (lv_at hl 1 rfl) ?_
  refine lv_iload hx hb dX11_init_35 (lv_at hl 0 rfl) ?_
  refine zk_new F Z hz0 rfl zC4 zs_15 (by decide +kernel) zq194 zq196 zq80 (Nat.le_of_ble_eq_true rfl) (Nat.le_of_ble_eq_true rfl) dX11_init_37 (fun _ Z => ?_)
  have Z : zhc D A0 σ (zPu (zPu (zPu P 0 (some [])) 11 (some [0])) 15 (some [])) 16 s.heap _ _ := Z
  refine W.widen (k := 15) (n := 707) (Nat.le_of_ble_eq_true rfl) (Nat.le_of_ble_eq_true rfl) ?_
  refine lv_dup hx hb dX11_init_40 rfl ?_
  refine zsized fun hle => ?_
  refine zc_vm Z.1 (zr_IN F Z.1 (a := 15) (zsz Z.1 hz0 rfl hle) (As := []) (zci_Rule l D A0 σ (zPu (zPu P 0 (some [])) 11 (some [0])) 15 (by decide) (by simp [zPu]; try exact hPn _ (by decide)) Z.2) zBI_Rule (by decide) rfl ⟨⟨rfl, rfl⟩, Nat.le_of_ble_eq_true rfl, Nat.le_of_ble_eq_true rfl⟩ hl.1 rfl (Nat.le_of_ble_eq_true rfl) dX11_init_41 ⟨Nat.le_of_ble_eq_true rfl, Nat.le_of_ble_eq_true rfl⟩) (fun _ _ Z1 => ?_)
  have Z : zhc D A0 σ (zPu (zPu P 0 (some [])) 11 (some [0])) 18 s.heap _ _ := ⟨Z1, fun a9 ha9 => Z.2 a9 (Nat.le_trans (by decide) ha9)⟩
  refine W.widen (k := 17) (n := 1187) (Nat.le_of_ble_eq_true rfl) (Nat.le_of_ble_eq_true rfl) ?_
  refine zk_aast F Z (ty := 5) (N := 5) (P1 := (zPu (zPu P 0 (some [])) 11 (some [1, 0]))) (ks := [0]) (by decide) zs_11 (by decide) rfl (by decide) zs_15 zC4 (by decide) zg_11_1 (by simp [zPu]) (by simp [zPu]; rfl) (fun c9 hc9 => by simp [zPu, hc9]) dX11_init_44 (fun _ _ Z => ?_)
  refine lv_iinc (v := 2) (lv' := [(4, .int 2), (3, .ref (A0 + 11)), (2, .ref (A0 + 3)), (1, .ref (A0 + 1)), (0, .ref (A0 + 0))]) hx hb dX11_init_45 hl (k := 0) rfl (by decide) (by decide) rfl (fun ls hl => ?_)
  refine lv_goto (tgt := 28) hx hb dX11_init_48 (by decide) ?_
  refine lv_iload hx hb dX11_init_28 (lv_at hl 0 rfl) ?_
  refine lv_iconst (v := 5) hx hb dX11_init_30 (by decide) ?_
  refine lv_icmp_ge (tgt := 51) hx hb dX11_init_31 (by decide) (fun q => absurd q (by decide)) (fun _ => ?_)
  refine lv_aload_n hx hb dX11_init_34 rfl (lv_at hl 1 rfl) ?_
  refine lv_iload hx hb dX11_init_35 (lv_at hl 0 rfl) ?_
  refine zk_new F Z hz0 rfl zC4 zs_18 (by decide +kernel) zq194 zq196 zq80 (Nat.le_of_ble_eq_true rfl) (Nat.le_of_ble_eq_true rfl) dX11_init_37 (fun _ Z => ?_)
  have Z : zhc D A0 σ (zPu (zPu (zPu P 0 (some [])) 11 (some [1, 0])) 18 (some [])) 19 s.heap _ _ := Z
  refine W.widen (k := 18) (n := 1190) (Nat.le_of_ble_eq_true rfl) (Nat.le_of_ble_eq_true rfl) ?_
  refine lv_dup hx hb dX11_init_40 rfl ?_
  refine zsized fun hle => ?_
  refine zc_vm Z.1 (zr_IN F Z.1 (a := 18) (zsz Z.1 hz0 rfl hle) (As := []) (zci_Rule l D A0 σ (zPu (zPu P 0 (some [])) 11 (some [1, 0])) 18 (by decide) (by simp [zPu]; try exact hPn _ (by decide)) Z.2) zBI_Rule (by decide) rfl ⟨⟨rfl, rfl⟩, Nat.le_of_ble_eq_true rfl, Nat.le_of_ble_eq_true rfl⟩ hl.1 rfl (Nat.le_of_ble_eq_true rfl) dX11_init_41 ⟨Nat.le_of_ble_eq_true rfl, Nat.le_of_ble_eq_true rfl⟩) (fun _ _ Z1 => ?_)
  have Z : zhc D A0 σ (zPu (zPu P 0 (some [])) 11 (some [1, 0])) 21 s.heap _ _ := ⟨Z1, fun a9 ha9 => Z.2 a9 (Nat.le_trans (by decide) ha9)⟩
  refine W.widen (k := 20) (n := 1670) (Nat.le_of_ble_eq_true rfl) (Nat.le_of_ble_eq_true rfl) ?_
  refine zk_aast F Z (ty := 5) (N := 5) (P1 := (zPu (zPu P 0 (some [])) 11 (some [2, 1, 0]))) (ks := [1, 0]) (by decide) zs_11 (by decide) rfl (by decide) zs_18 zC4 (by decide) zg_11_2 (by simp [zPu]) (by simp [zPu]; rfl) (fun c9 hc9 => by simp [zPu, hc9]) dX11_init_44 (fun _ _ Z => ?_)
  refine lv_iinc (v := 3) (lv' := [(4, .int 3), (3, .ref (A0 + 11)), (2, .ref (A0 + 3)), (1, .ref (A0 + 1)), (0, .ref (A0 + 0))]) hx hb dX11_init_45 hl (k := 0) rfl (by decide) (by decide) rfl (fun ls hl => ?_)
  refine lv_goto (tgt := 28) hx hb dX11_init_48 (by decide) ?_
  refine lv_iload hx hb dX11_init_28 (lv_at hl 0 rfl) ?_
  refine lv_iconst (v := 5) hx hb dX11_init_30 (by decide) ?_
  refine lv_icmp_ge (tgt := 51) hx hb dX11_init_31 (by decide) (fun q => absurd q (by decide)) (fun _ => ?_)
  refine lv_aload_n hx hb dX11_init_34 rfl (lv_at hl 1 rfl) ?_
  refine lv_iload hx hb dX11_init_35 (lv_at hl 0 rfl) ?_
  refine zk_new F Z hz0 rfl zC4 zs_21 (by decide +kernel) zq194 zq196 zq80 (Nat.le_of_ble_eq_true rfl) (Nat.le_of_ble_eq_true rfl) dX11_init_37 (fun _ Z => ?_)
  have Z : zhc D A0 σ (zPu (zPu (zPu P 0 (some [])) 11 (some [2, 1, 0])) 21 (some [])) 22 s.heap _ _ := Z
  refine W.widen (k := 21) (n := 1673) (Nat.le_of_ble_eq_true rfl) (Nat.le_of_ble_eq_true rfl) ?_
  refine lv_dup hx hb dX11_init_40 rfl ?_
  refine zsized fun hle => ?_
  refine zc_vm Z.1 (zr_IN F Z.1 (a := 21) (zsz Z.1 hz0 rfl hle) (As := []) (zci_Rule l D A0 σ (zPu (zPu P 0 (some [])) 11 (some [2, 1, 0])) 21 (by decide) (by simp [zPu]; try exact hPn _ (by decide)) Z.2) zBI_Rule (by decide) rfl ⟨⟨rfl, rfl⟩, Nat.le_of_ble_eq_true rfl, Nat.le_of_ble_eq_true rfl⟩ hl.1 rfl (Nat.le_of_ble_eq_true rfl) dX11_init_41 ⟨Nat.le_of_ble_eq_true rfl, Nat.le_of_ble_eq_true rfl⟩) (fun _ _ Z1 => ?_)
  have Z : zhc D A0 σ (zPu (zPu P 0 (some [])) 11 (some [2, 1, 0])) 24 s.heap _ _ := ⟨Z1, fun a9 ha9 => Z.2 a9 (Nat.le_trans (by decide) ha9)⟩
  refine W.widen (k := 23) (n := 2153) (Nat.le_of_ble_eq_true rfl) (Nat.le_of_ble_eq_true rfl) ?_
  refine zk_aast F Z (ty := 5) (N := 5) (P1 := (zPu (zPu P 0 (some [])) 11 (some [3, 2, 1, 0]))) (ks := [2, 1, 0]) (by decide) zs_11 (by decide) rfl (by decide) zs_21 zC4 (by decide) zg_11_3 (by simp [zPu]) (by simp [zPu]; rfl) (fun c9 hc9 => by simp [zPu, hc9]) dX11_init_44 (fun _ _ Z => ?_)
  refine lv_iinc (v := 4) (lv' := [(4, .int 4), (3, .ref (A0 + 11)), (2, .ref (A0 + 3)), (1, .ref (A0 + 1)), (0, .ref (A0 + 0))]) hx hb dX11_init_45 hl (k := 0) rfl (by decide) (by decide) rfl (fun ls hl => ?_)
  refine lv_goto (tgt := 28) hx hb dX11_init_48 (by decide) ?_
  refine lv_iload hx hb dX11_init_28 (lv_at hl 0 rfl) ?_
  refine lv_iconst (v := 5) hx hb dX11_init_30 (by decide) ?_
  refine lv_icmp_ge (tgt := 51) hx hb dX11_init_31 (by decide) (fun q => absurd q (by decide)) (fun _ => ?_)
  refine lv_aload_n hx hb dX11_init_34 rfl (lv_at hl 1 rfl) ?_
  refine lv_iload hx hb dX11_init_35 (lv_at hl 0 rfl) ?_
  refine zk_new F Z hz0 rfl zC4 zs_24 (by decide +kernel) zq194 zq196 zq80 (Nat.le_of_ble_eq_true rfl) (Nat.le_of_ble_eq_true rfl) dX11_init_37 (fun _ Z => ?_)
  have Z : zhc D A0 σ (zPu (zPu (zPu P 0 (some [])) 11 (some [3, 2, 1, 0])) 24 (some [])) 25 s.heap _ _ := Z
  refine W.widen (k := 24) (n := 2156) (Nat.le_of_ble_eq_true rfl) (Nat.le_of_ble_eq_true rfl) ?_
  refine lv_dup hx hb dX11_init_40 rfl ?_
  refine zsized fun hle => ?_
  refine zc_vm Z.1 (zr_IN F Z.1 (a := 24) (zsz Z.1 hz0 rfl hle) (As := []) (zci_Rule l D A0 σ (zPu (zPu P 0 (some [])) 11 (some [3, 2, 1, 0])) 24 (by decide) (by simp [zPu]; try exact hPn _ (by decide)) Z.2) zBI_Rule (by decide) rfl ⟨⟨rfl, rfl⟩, Nat.le_of_ble_eq_true rfl, Nat.le_of_ble_eq_true rfl⟩ hl.1 rfl (Nat.le_of_ble_eq_true rfl) dX11_init_41 ⟨Nat.le_of_ble_eq_true rfl, Nat.le_of_ble_eq_true rfl⟩) (fun _ _ Z1 => ?_)
  have Z : zhc D A0 σ (zPu (zPu P 0 (some [])) 11 (some [3, 2, 1, 0])) 27 s.heap _ _ := ⟨Z1, fun a9 ha9 => Z.2 a9 (Nat.le_trans (by decide) ha9)⟩
  refine W.widen (k := 26) (n := 2636) (Nat.le_of_ble_eq_true rfl) (Nat.le_of_ble_eq_true rfl) ?_
  refine zk_aast F Z (ty := 5) (N := 5) (P1 := (zPu (zPu P 0 (some [])) 11 (some [4, 3, 2, 1, 0]))) (ks := [3, 2, 1, 0]) (by decide) zs_11 (by decide) rfl (by decide) zs_24 zC4 (by decide) zg_11_4 (by simp [zPu]) (by simp [zPu]; rfl) (fun c9 hc9 => by simp [zPu, hc9]) dX11_init_44 (fun _ _ Z => ?_)
  have Z : zhc D A0 σ (zPu P 0 (some [])) 27 s.heap _ _ := zhc_drop (a := 11) Z (by decide) (by simp [zPu]; rfl) (by simp [zPu]; exact hPn 11 (by decide)) (fun c9 hc9 => by simp [zPu, hc9]) ⟨by rw [zs_11]; decide +kernel, fun _ => zGh_11⟩
  refine lv_iinc (v := 5) (lv' := [(4, .int 5), (3, .ref (A0 + 11)), (2, .ref (A0 + 3)), (1, .ref (A0 + 1)), (0, .ref (A0 + 0))]) hx hb dX11_init_45 hl (k := 0) rfl (by decide) (by decide) rfl (fun ls hl => ?_)
  refine lv_goto (tgt := 28) hx hb dX11_init_48 (by decide) ?_
  refine lv_iload hx hb dX11_init_28 (lv_at hl 0 rfl) ?_
  refine lv_iconst (v := 5) hx hb dX11_init_30 (by decide) ?_
  refine lv_icmp_ge (tgt := 51) hx hb dX11_init_31 (by decide) (fun _ => ?_) (fun q => absurd (by decide) q)
  refine zk_new F Z hz0 rfl zC8 zs_27 (by decide +kernel) zq212 zq213 zq81 (Nat.le_of_ble_eq_true rfl) (Nat.le_of_ble_eq_true rfl) dX11_init_51 (fun _ Z => ?_)
  have Z : zhc D A0 σ (zPu (zPu P 0 (some [])) 27 (some [])) 28 s.heap _ _ := Z
  refine W.widen (k := 27) (n := 2650) (Nat.le_of_ble_eq_true rfl) (Nat.le_of_ble_eq_true rfl) ?_
  refine lv_dup hx hb dX11_init_54 rfl ?_
  refine zsized fun hle => ?_
  refine zc_vm Z.1 (zr_IN F Z.1 (a := 27) (zsz Z.1 hz0 rfl hle) (As := []) (zci_State l D A0 σ (zPu P 0 (some [])) 27 (Or.inl rfl) (by simp [zPu]; try exact hPn _ (by decide)) Z.2) zBI_State (by decide) rfl ⟨⟨rfl, rfl⟩, Nat.le_of_ble_eq_true rfl, Nat.le_of_ble_eq_true rfl⟩ hl.1 rfl (Nat.le_of_ble_eq_true rfl) dX11_init_55 ⟨Nat.le_of_ble_eq_true rfl, Nat.le_of_ble_eq_true rfl⟩) (fun _ _ Z1 => ?_)
  have Z : zhc D A0 σ (zPu P 0 (some [])) 37 s.heap _ _ := ⟨Z1, fun a9 ha9 => Z.2 a9 (Nat.le_trans (by decide) ha9)⟩
  refine W.widen (k := 36) (n := 2722) (Nat.le_of_ble_eq_true rfl) (Nat.le_of_ble_eq_true rfl) ?_
  refine lv_astore (lv' := [(4, .ref (A0 + 27)), (3, .ref (A0 + 11)), (2, .ref (A0 + 3)), (1, .ref (A0 + 1)), (0, .ref (A0 + 0))]) hx hb dX11_init_58 hl (by decide) rfl (fun ls hl => ?_)
  refine zk_new F Z hz0 rfl zC6 zs_37 (by decide +kernel) zq295 zq296 zq82 (Nat.le_of_ble_eq_true rfl) (Nat.le_of_ble_eq_true rfl) dX11_init_60 (fun _ Z => ?_)
  have Z : zhc D A0 σ (zPu (zPu P 0 (some [])) 37 (some [])) 38 s.heap _ _ := Z
  refine W.widen (k := 37) (n := 2733) (Nat.le_of_ble_eq_true rfl) (Nat.le_of_ble_eq_true rfl) ?_
  refine lv_dup hx hb dX11_init_63 rfl ?_
  refine lv_aload_n hx hb dX11_init_64 rfl (lv_at hl 2 rfl) ?_
  refine lv_aload_n hx hb dX11_init_65 rfl (lv_at hl 1 rfl) ?_
  refine zsized fun hle => ?_
  refine zc_vm Z.1 (zr_I F Z.1 (a := 37) (zsz Z.1 hz0 rfl hle) (As := [.ref (A0 + 3), .ref (A0 + 11)]) (zci_Runner l D A0 σ (zPu P 0 (some []))  (by simp [zPu]; try exact hPn _ (by decide)) Z.2) zBI_Runner zq297 rfl ⟨⟨rfl, rfl⟩, Nat.le_of_ble_eq_true rfl, Nat.le_of_ble_eq_true rfl⟩ hl.1 rfl (Nat.le_of_ble_eq_true rfl) dX11_init_66 ⟨Nat.le_of_ble_eq_true rfl, Nat.le_of_ble_eq_true rfl⟩) (fun _ _ Z1 => ?_)
  have Z : zhc D A0 σ (zPu P 0 (some [])) 43 s.heap _ _ := ⟨Z1, fun a9 ha9 => Z.2 a9 (Nat.le_trans (by decide) ha9)⟩
  refine W.widen (k := 42) (n := 2763) (Nat.le_of_ble_eq_true rfl) (Nat.le_of_ble_eq_true rfl) ?_
  refine lv_astore (lv' := [(5, .ref (A0 + 37)), (4, .ref (A0 + 27)), (3, .ref (A0 + 11)), (2, .ref (A0 + 3)), (1, .ref (A0 + 1)), (0, .ref (A0 + 0))]) hx hb dX11_init_69 hl (by decide) rfl (fun ls hl => ?_)
  refine lv_aload_n hx hb dX11_init_71 rfl (lv_at hl 5 rfl) ?_
  refine lv_aload_n hx hb dX11_init_72 rfl (lv_at hl 4 rfl) ?_
  refine zk_putR F Z (P1 := (zPu P 0 (some [0]))) zC11 (a := 0) (k := 0) (ks := []) (by decide) zs_0 (by decide) rfl zg_0_0 (by simp [zPu]) (by simp [zPu]) (fun c9 hc9 => by simp [zPu, hc9]) zq534 rfl ⟨rfl, hin, rfl⟩ (fun _ => ⟨rfl, rfl⟩) dX11_init_73 (fun _ _ Z => ?_)
  refine lv_aload_n hx hb dX11_init_76 rfl (lv_at hl 5 rfl) ?_
  refine zk_new F Z hz0 rfl zC1 zs_43 (by decide +kernel) zq342 zq343 zq84 (Nat.le_of_ble_eq_true rfl) (Nat.le_of_ble_eq_true rfl) dX11_init_77 (fun _ Z => ?_)
  have Z : zhc D A0 σ (zPu (zPu P 0 (some [0])) 43 (some [])) 44 s.heap _ _ := Z
  refine W.widen (k := 43) (n := 2768) (Nat.le_of_ble_eq_true rfl) (Nat.le_of_ble_eq_true rfl) ?_
  refine lv_dup hx hb dX11_init_80 rfl ?_
  refine lv_aload_n hx hb dX11_init_81 rfl (lv_at hl 4 rfl) ?_
  refine zsized fun hle => ?_
  refine zc_vm Z.1 (zr_I F Z.1 (a := 43) (zsz Z.1 hz0 rfl hle) (As := [.ref (A0 + 1)]) (zci_MarketReader l D A0 σ (zPu P 0 (some [0]))  (by simp [zPu]; try exact hPn _ (by decide)) Z.2) zBI_MarketReader zq344 rfl ⟨⟨rfl, rfl⟩, Nat.le_of_ble_eq_true rfl, Nat.le_of_ble_eq_true rfl⟩ hl.1 rfl (Nat.le_of_ble_eq_true rfl) dX11_init_82 ⟨Nat.le_of_ble_eq_true rfl, Nat.le_of_ble_eq_true rfl⟩) (fun _ _ Z1 => ?_)
  have Z : zhc D A0 σ (zPu P 0 (some [0])) 46 s.heap _ _ := ⟨Z1, fun a9 ha9 => Z.2 a9 (Nat.le_trans (by decide) ha9)⟩
  refine W.widen (k := 45) (n := 2784) (Nat.le_of_ble_eq_true rfl) (Nat.le_of_ble_eq_true rfl) ?_
  refine zk_putR F Z (P1 := (zPu P 0 (some [1, 0]))) zC11 (a := 0) (k := 1) (ks := [0]) (by decide) zs_0 (by decide) rfl zg_0_1 (by simp [zPu]) (by simp [zPu]) (fun c9 hc9 => by simp [zPu, hc9]) zq535 rfl ⟨rfl, hin, rfl⟩ (fun _ => ⟨rfl, rfl⟩) dX11_init_85 (fun _ _ Z => ?_)
  refine lv_aload_n hx hb dX11_init_88 rfl (lv_at hl 5 rfl) ?_
  refine zk_new F Z hz0 rfl zC5 zs_46 (by decide +kernel) zq376 zq377 zq85 (Nat.le_of_ble_eq_true rfl) (Nat.le_of_ble_eq_true rfl) dX11_init_89 (fun _ Z => ?_)
  have Z : zhc D A0 σ (zPu (zPu P 0 (some [1, 0])) 46 (some [])) 47 s.heap _ _ := Z
  refine W.widen (k := 46) (n := 2788) (Nat.le_of_ble_eq_true rfl) (Nat.le_of_ble_eq_true rfl) ?_
  refine lv_dup hx hb dX11_init_92 rfl ?_
  refine lv_aload_n hx hb dX11_init_93 rfl (lv_at hl 4 rfl) ?_
  refine zsized fun hle => ?_
  refine zc_vm Z.1 (zr_I F Z.1 (a := 46) (zsz Z.1 hz0 rfl hle) (As := [.ref (A0 + 1)]) (zci_RuleReader l D A0 σ (zPu P 0 (some [1, 0]))  (by simp [zPu]; try exact hPn _ (by decide)) Z.2) zBI_RuleReader zq378 rfl ⟨⟨rfl, rfl⟩, Nat.le_of_ble_eq_true rfl, Nat.le_of_ble_eq_true rfl⟩ hl.1 rfl (Nat.le_of_ble_eq_true rfl) dX11_init_94 ⟨Nat.le_of_ble_eq_true rfl, Nat.le_of_ble_eq_true rfl⟩) (fun _ _ Z1 => ?_)
  have Z : zhc D A0 σ (zPu P 0 (some [1, 0])) 47 s.heap _ _ := ⟨Z1, fun a9 ha9 => Z.2 a9 (Nat.le_trans (by decide) ha9)⟩
  refine W.widen (k := 46) (n := 2788) (Nat.le_of_ble_eq_true rfl) (Nat.le_of_ble_eq_true rfl) ?_
  refine zk_putR F Z (P1 := (zPu P 0 (some [2, 1, 0]))) zC11 (a := 0) (k := 2) (ks := [1, 0]) (by decide) zs_0 (by decide) rfl zg_0_2 (by simp [zPu]) (by simp [zPu]) (fun c9 hc9 => by simp [zPu, hc9]) zq536 rfl ⟨rfl, hin, rfl⟩ (fun _ => ⟨rfl, rfl⟩) dX11_init_97 (fun _ _ Z => ?_)
  refine lv_aload_n hx hb dX11_init_100 rfl (lv_at hl 5 rfl) ?_
  refine lv_aload_n hx hb dX11_init_101 rfl (lv_at hl 3 rfl) ?_
  refine zk_putR F Z (P1 := (zPu P 0 (some [3, 2, 1, 0]))) zC11 (a := 0) (k := 3) (ks := [2, 1, 0]) (by decide) zs_0 (by decide) rfl zg_0_3 (by simp [zPu]) (by simp [zPu]) (fun c9 hc9 => by simp [zPu, hc9]) zq537 rfl ⟨rfl, hin, rfl⟩ (fun _ => ⟨rfl, rfl⟩) dX11_init_102 (fun _ _ Z => ?_)
  refine lv_aload_n hx hb dX11_init_105 rfl (lv_at hl 5 rfl) ?_
  refine zk_new F Z hz0 rfl zC0 zs_47 (by decide +kernel) zq124 zq125 zq79 (Nat.le_of_ble_eq_true rfl) (Nat.le_of_ble_eq_true rfl) dX11_init_106 (fun _ Z => ?_)
  have Z : zhc D A0 σ (zPu (zPu P 0 (some [3, 2, 1, 0])) 47 (some [])) 48 s.heap _ _ := Z
  refine W.widen (k := 47) (n := 2800) (Nat.le_of_ble_eq_true rfl) (Nat.le_of_ble_eq_true rfl) ?_
  refine lv_dup hx hb dX11_init_109 rfl ?_
  refine zsized fun hle => ?_
  refine zc_vm Z.1 (zr_IN F Z.1 (a := 47) (zsz Z.1 hz0 rfl hle) (As := []) (zci_Market l D A0 σ (zPu P 0 (some [3, 2, 1, 0])) 47 (Or.inr rfl) (by simp [zPu]; try exact hPn _ (by decide)) Z.2) zBI_Market (by decide) rfl ⟨⟨rfl, rfl⟩, Nat.le_of_ble_eq_true rfl, Nat.le_of_ble_eq_true rfl⟩ hl.1 rfl (Nat.le_of_ble_eq_true rfl) dX11_init_110 ⟨Nat.le_of_ble_eq_true rfl, Nat.le_of_ble_eq_true rfl⟩) (fun _ _ Z1 => ?_)
  have Z : zhc D A0 σ (zPu P 0 (some [3, 2, 1, 0])) 55 s.heap _ _ := ⟨Z1, fun a9 ha9 => Z.2 a9 (Nat.le_trans (by decide) ha9)⟩
  refine W.widen (k := 54) (n := 2842) (Nat.le_of_ble_eq_true rfl) (Nat.le_of_ble_eq_true rfl) ?_
  refine zk_putR F Z (P1 := (zPu P 0 (some [4, 3, 2, 1, 0]))) zC11 (a := 0) (k := 4) (ks := [3, 2, 1, 0]) (by decide) zs_0 (by decide) rfl zg_0_4 (by simp [zPu]) (by simp [zPu]) (fun c9 hc9 => by simp [zPu, hc9]) zq538 rfl ⟨rfl, hin, rfl⟩ (fun _ => ⟨rfl, rfl⟩) dX11_init_113 (fun _ _ Z => ?_)
  refine lv_aload_n hx hb dX11_init_116 rfl (lv_at hl 5 rfl) ?_
  refine lv_aload_n hx hb dX11_init_117 rfl (lv_at hl 2 rfl) ?_
  refine zk_putR F Z (P1 := (zPu P 0 (some [5, 4, 3, 2, 1, 0]))) zC11 (a := 0) (k := 5) (ks := [4, 3, 2, 1, 0]) (by decide) zs_0 (by decide) rfl zg_0_5 (by simp [zPu]) (by simp [zPu]) (fun c9 hc9 => by simp [zPu, hc9]) zq539 rfl ⟨rfl, hin, rfl⟩ (fun _ => ⟨rfl, rfl⟩) dX11_init_118 (fun _ _ Z => ?_)
  refine lv_aload_n hx hb dX11_init_121 rfl (lv_at hl 5 rfl) ?_
  refine zk_new F Z hz0 rfl zC4 zs_55 (by decide +kernel) zq194 zq196 zq80 (Nat.le_of_ble_eq_true rfl) (Nat.le_of_ble_eq_true rfl) dX11_init_122 (fun _ Z => ?_)
  have Z : zhc D A0 σ (zPu (zPu P 0 (some [5, 4, 3, 2, 1, 0])) 55 (some [])) 56 s.heap _ _ := Z
  refine W.widen (k := 55) (n := 2845) (Nat.le_of_ble_eq_true rfl) (Nat.le_of_ble_eq_true rfl) ?_
  refine lv_dup hx hb dX11_init_125 rfl ?_
  refine zsized fun hle => ?_
  refine zc_vm Z.1 (zr_IN F Z.1 (a := 55) (zsz Z.1 hz0 rfl hle) (As := []) (zci_Rule l D A0 σ (zPu P 0 (some [5, 4, 3, 2, 1, 0])) 55 (by decide) (by simp [zPu]; try exact hPn _ (by decide)) Z.2) zBI_Rule (by decide) rfl ⟨⟨rfl, rfl⟩, Nat.le_of_ble_eq_true rfl, Nat.le_of_ble_eq_true rfl⟩ hl.1 rfl (Nat.le_of_ble_eq_true rfl) dX11_init_126 ⟨Nat.le_of_ble_eq_true rfl, Nat.le_of_ble_eq_true rfl⟩) (fun _ _ Z1 => ?_)
  have Z : zhc D A0 σ (zPu P 0 (some [5, 4, 3, 2, 1, 0])) 58 s.heap _ _ := ⟨Z1, fun a9 ha9 => Z.2 a9 (Nat.le_trans (by decide) ha9)⟩
  refine W.widen (k := 57) (n := 3325) (Nat.le_of_ble_eq_true rfl) (Nat.le_of_ble_eq_true rfl) ?_
  refine zk_putR F Z (P1 := (zPu P 0 (some [6, 5, 4, 3, 2, 1, 0]))) zC11 (a := 0) (k := 6) (ks := [5, 4, 3, 2, 1, 0]) (by decide) zs_0 (by decide) rfl zg_0_6 (by simp [zPu]) (by simp [zPu]) (fun c9 hc9 => by simp [zPu, hc9]) zq540 rfl ⟨rfl, hin, rfl⟩ (fun _ => ⟨rfl, rfl⟩) dX11_init_129 (fun _ _ Z => ?_)
  refine lv_aload_n hx hb dX11_init_132 rfl (lv_at hl 5 rfl) ?_
  refine lv_aload hx hb dX11_init_133 (lv_at hl 1 rfl) ?_
  refine zk_putR F Z (P1 := (zPu P 0 (some [7, 6, 5, 4, 3, 2, 1, 0]))) zC11 (a := 0) (k := 7) (ks := [6, 5, 4, 3, 2, 1, 0]) (by decide) zs_0 (by decide) rfl zg_0_7 (by simp [zPu]) (by simp [zPu]) (fun c9 hc9 => by simp [zPu, hc9]) zq541 rfl ⟨rfl, hin, rfl⟩ (fun _ => ⟨rfl, rfl⟩) dX11_init_135 (fun _ _ Z => ?_)
  refine lv_aload_n hx hb dX11_init_138 rfl (lv_at hl 5 rfl) ?_
  refine zk_new F Z hz0 rfl zC8 zs_58 (by decide +kernel) zq212 zq213 zq81 (Nat.le_of_ble_eq_true rfl) (Nat.le_of_ble_eq_true rfl) dX11_init_139 (fun _ Z => ?_)
  have Z : zhc D A0 σ (zPu (zPu P 0 (some [7, 6, 5, 4, 3, 2, 1, 0])) 58 (some [])) 59 s.heap _ _ := Z
  refine W.widen (k := 58) (n := 3339) (Nat.le_of_ble_eq_true rfl) (Nat.le_of_ble_eq_true rfl) ?_
  refine lv_dup hx hb dX11_init_142 rfl ?_
  refine zsized fun hle => ?_
  refine zc_vm Z.1 (zr_IN F Z.1 (a := 58) (zsz Z.1 hz0 rfl hle) (As := []) (zci_State l D A0 σ (zPu P 0 (some [7, 6, 5, 4, 3, 2, 1, 0])) 58 (Or.inr (Or.inl rfl)) (by simp [zPu]; try exact hPn _ (by decide)) Z.2) zBI_State (by decide) rfl ⟨⟨rfl, rfl⟩, Nat.le_of_ble_eq_true rfl, Nat.le_of_ble_eq_true rfl⟩ hl.1 rfl (Nat.le_of_ble_eq_true rfl) dX11_init_143 ⟨Nat.le_of_ble_eq_true rfl, Nat.le_of_ble_eq_true rfl⟩) (fun _ _ Z1 => ?_)
  have Z : zhc D A0 σ (zPu P 0 (some [7, 6, 5, 4, 3, 2, 1, 0])) 68 s.heap _ _ := ⟨Z1, fun a9 ha9 => Z.2 a9 (Nat.le_trans (by decide) ha9)⟩
  refine W.widen (k := 67) (n := 3411) (Nat.le_of_ble_eq_true rfl) (Nat.le_of_ble_eq_true rfl) ?_
  refine zk_putR F Z (P1 := (zPu P 0 (some [8, 7, 6, 5, 4, 3, 2, 1, 0]))) zC11 (a := 0) (k := 8) (ks := [7, 6, 5, 4, 3, 2, 1, 0]) (by decide) zs_0 (by decide) rfl zg_0_8 (by simp [zPu]) (by simp [zPu]) (fun c9 hc9 => by simp [zPu, hc9]) zq542 rfl ⟨rfl, hin, rfl⟩ (fun _ => ⟨rfl, rfl⟩) dX11_init_146 (fun _ _ Z => ?_)
  refine lv_aload_n hx hb dX11_init_149 rfl (lv_at hl 5 rfl) ?_
  refine lv_aload hx hb dX11_init_150 (lv_at hl 0 rfl) ?_
  refine zk_putR F Z (P1 := (zPu P 0 (some [9, 8, 7, 6, 5, 4, 3, 2, 1, 0]))) zC11 (a := 0) (k := 9) (ks := [8, 7, 6, 5, 4, 3, 2, 1, 0]) (by decide) zs_0 (by decide) rfl zg_0_9 (by simp [zPu]) (by simp [zPu]) (fun c9 hc9 => by simp [zPu, hc9]) zq543 rfl ⟨rfl, hin, rfl⟩ (fun _ => ⟨rfl, rfl⟩) dX11_init_152 (fun _ _ Z => ?_)
  refine lv_aload_n hx hb dX11_init_155 rfl (lv_at hl 5 rfl) ?_
  refine zk_new F Z hz0 rfl zC10 zs_68 (by decide +kernel) zq389 zq390 zq86 (Nat.le_of_ble_eq_true rfl) (Nat.le_of_ble_eq_true rfl) dX11_init_156 (fun _ Z => ?_)
  have Z : zhc D A0 σ (zPu (zPu P 0 (some [9, 8, 7, 6, 5, 4, 3, 2, 1, 0])) 68 (some [])) 69 s.heap _ _ := Z
  refine W.widen (k := 68) (n := 3425) (Nat.le_of_ble_eq_true rfl) (Nat.le_of_ble_eq_true rfl) ?_
  refine lv_dup hx hb dX11_init_159 rfl ?_
  refine lv_aload_n hx hb dX11_init_160 rfl (lv_at hl 3 rfl) ?_
  refine lv_aload hx hb dX11_init_161 (lv_at hl 0 rfl) ?_
  refine lv_aload hx hb dX11_init_163 (lv_at hl 1 rfl) ?_
  refine zsized fun hle => ?_
  refine zc_vm Z.1 (zr_I F Z.1 (a := 68) (zsz Z.1 hz0 rfl hle) (As := [.ref (A0 + 3), .ref (A0 + 37), .ref (A0 + 27)]) (zci_Walk l D A0 σ (zPu P 0 (some [9, 8, 7, 6, 5, 4, 3, 2, 1, 0])) (fun a9 ha9 => (zPu_n (by omega)).trans (hPn a9 (by omega))) (by simp [zPu]; try exact hPn _ (by decide)) Z.2) zBI_Walk zq391 rfl ⟨⟨rfl, rfl⟩, Nat.le_of_ble_eq_true rfl, Nat.le_of_ble_eq_true rfl⟩ hl.1 rfl (Nat.le_of_ble_eq_true rfl) dX11_init_165 ⟨Nat.le_of_ble_eq_true rfl, Nat.le_of_ble_eq_true rfl⟩) (fun _ _ Z1 => ?_)
  have Z : zhc D A0 σ (zPu P 0 (some [9, 8, 7, 6, 5, 4, 3, 2, 1, 0])) 79 s.heap _ _ := ⟨Z1, fun a9 ha9 => Z.2 a9 (Nat.le_trans (by decide) ha9)⟩
  refine W.widen (k := 78) (n := 3511) (Nat.le_of_ble_eq_true rfl) (Nat.le_of_ble_eq_true rfl) ?_
  refine zk_putR F Z (P1 := (zPu P 0 (some [10, 9, 8, 7, 6, 5, 4, 3, 2, 1, 0]))) zC11 (a := 0) (k := 10) (ks := [9, 8, 7, 6, 5, 4, 3, 2, 1, 0]) (by decide) zs_0 (by decide) rfl zg_0_10 (by simp [zPu]) (by simp [zPu]) (fun c9 hc9 => by simp [zPu, hc9]) zq544 rfl ⟨rfl, hin, rfl⟩ (fun _ => ⟨rfl, rfl⟩) dX11_init_168 (fun _ _ Z => ?_)
  refine lv_aload_n hx hb dX11_init_171 rfl (lv_at hl 5 rfl) ?_
  refine zk_new F Z hz0 rfl zC7 zs_79 (by decide +kernel) zq449 zq450 zq87 (Nat.le_of_ble_eq_true rfl) (Nat.le_of_ble_eq_true rfl) dX11_init_172 (fun _ Z => ?_)
  have Z : zhc D A0 σ (zPu (zPu P 0 (some [10, 9, 8, 7, 6, 5, 4, 3, 2, 1, 0])) 79 (some [])) 80 s.heap _ _ := Z
  refine W.widen (k := 79) (n := 3525) (Nat.le_of_ble_eq_true rfl) (Nat.le_of_ble_eq_true rfl) ?_
  refine lv_dup hx hb dX11_init_175 rfl ?_
  refine lv_aload_n hx hb dX11_init_176 rfl (lv_at hl 3 rfl) ?_
  refine lv_aload hx hb dX11_init_177 (lv_at hl 0 rfl) ?_
  refine lv_aload hx hb dX11_init_179 (lv_at hl 1 rfl) ?_
  refine zsized fun hle => ?_
  refine zc_vm Z.1 (zr_I F Z.1 (a := 79) (zsz Z.1 hz0 rfl hle) (As := [.ref (A0 + 3), .ref (A0 + 37), .ref (A0 + 27)]) (zci_Search l D A0 σ (zPu P 0 (some [10, 9, 8, 7, 6, 5, 4, 3, 2, 1, 0])) (fun a9 ha9 => (zPu_n (by omega)).trans (hPn a9 (by omega))) (by simp [zPu]; try exact hPn _ (by decide)) Z.2) zBI_Search zq451 rfl ⟨⟨rfl, rfl⟩, Nat.le_of_ble_eq_true rfl, Nat.le_of_ble_eq_true rfl⟩ hl.1 rfl (Nat.le_of_ble_eq_true rfl) dX11_init_181 ⟨Nat.le_of_ble_eq_true rfl, Nat.le_of_ble_eq_true rfl⟩) (fun _ _ Z1 => ?_)
  have Z : zhc D A0 σ (zPu P 0 (some [10, 9, 8, 7, 6, 5, 4, 3, 2, 1, 0])) 695 s.heap _ _ := ⟨Z1, fun a9 ha9 => Z.2 a9 (Nat.le_trans (by decide) ha9)⟩
  refine W.widen (k := 694) (n := 36618) (Nat.le_of_ble_eq_true rfl) (Nat.le_of_ble_eq_true rfl) ?_
  refine zk_putR F Z (P1 := (zPu P 0 (some [11, 10, 9, 8, 7, 6, 5, 4, 3, 2, 1, 0]))) zC11 (a := 0) (k := 11) (ks := [10, 9, 8, 7, 6, 5, 4, 3, 2, 1, 0]) (by decide) zs_0 (by decide) rfl zg_0_11 (by simp [zPu]) (by simp [zPu]) (fun c9 hc9 => by simp [zPu, hc9]) zq545 rfl ⟨rfl, hin, rfl⟩ (fun _ => ⟨rfl, rfl⟩) dX11_init_184 (fun _ _ Z => ?_)
  refine lv_aload_n hx hb dX11_init_187 rfl (lv_at hl 5 rfl) ?_
  refine zk_new F Z hz0 rfl zC2 zs_695 (by decide +kernel) zq508 zq509 zq88 (Nat.le_of_ble_eq_true rfl) (Nat.le_of_ble_eq_true rfl) dX11_init_188 (fun _ Z => ?_)
  have Z : zhc D A0 σ (zPu (zPu P 0 (some [11, 10, 9, 8, 7, 6, 5, 4, 3, 2, 1, 0])) 695 (some [])) 696 s.heap _ _ := Z
  refine W.widen (k := 695) (n := 36622) (Nat.le_of_ble_eq_true rfl) (Nat.le_of_ble_eq_true rfl) ?_
  refine lv_dup hx hb dX11_init_191 rfl ?_
  refine lv_bipush (v := 20) hx hb dX11_init_192 (by decide) ?_
  refine zsized fun hle => ?_
  refine zc_vm Z.1 (zr_I F Z.1 (a := 695) (zsz Z.1 hz0 rfl hle) (As := [.int 20]) (zci_Notes_695 l D A0 σ (zPu P 0 (some [11, 10, 9, 8, 7, 6, 5, 4, 3, 2, 1, 0]))  (by simp [zPu]; try exact hPn _ (by decide)) Z.2) zBI_Notes_695 zq510 rfl ⟨⟨rfl, rfl⟩, Nat.le_of_ble_eq_true rfl, Nat.le_of_ble_eq_true rfl⟩ hl.1 rfl (Nat.le_of_ble_eq_true rfl) dX11_init_194 ⟨Nat.le_of_ble_eq_true rfl, Nat.le_of_ble_eq_true rfl⟩) (fun _ _ Z1 => ?_)
  have Z : zhc D A0 σ (zPu P 0 (some [11, 10, 9, 8, 7, 6, 5, 4, 3, 2, 1, 0])) 699 s.heap _ _ := ⟨Z1, fun a9 ha9 => Z.2 a9 (Nat.le_trans (by decide) ha9)⟩
  refine W.widen (k := 698) (n := 36682) (Nat.le_of_ble_eq_true rfl) (Nat.le_of_ble_eq_true rfl) ?_
  refine zk_putR F Z (P1 := (zPu P 0 (some [12, 11, 10, 9, 8, 7, 6, 5, 4, 3, 2, 1, 0]))) zC11 (a := 0) (k := 12) (ks := [11, 10, 9, 8, 7, 6, 5, 4, 3, 2, 1, 0]) (by decide) zs_0 (by decide) rfl zg_0_12 (by simp [zPu]) (by simp [zPu]) (fun c9 hc9 => by simp [zPu, hc9]) zq546 rfl ⟨rfl, hin, rfl⟩ (fun _ => ⟨rfl, rfl⟩) dX11_init_197 (fun _ _ Z => ?_)
  refine lv_aload_n hx hb dX11_init_200 rfl (lv_at hl 5 rfl) ?_
  refine zk_new F Z hz0 rfl zC2 zs_699 (by decide +kernel) zq508 zq509 zq88 (Nat.le_of_ble_eq_true rfl) (Nat.le_of_ble_eq_true rfl) dX11_init_201 (fun _ Z => ?_)
  have Z : zhc D A0 σ (zPu (zPu P 0 (some [12, 11, 10, 9, 8, 7, 6, 5, 4, 3, 2, 1, 0])) 699 (some [])) 700 s.heap _ _ := Z
  refine W.widen (k := 699) (n := 36686) (Nat.le_of_ble_eq_true rfl) (Nat.le_of_ble_eq_true rfl) ?_
  refine lv_dup hx hb dX11_init_204 rfl ?_
  refine lv_bipush (v := 60) hx hb dX11_init_205 (by decide) ?_
  refine zsized fun hle => ?_
  refine zc_vm Z.1 (zr_I F Z.1 (a := 699) (zsz Z.1 hz0 rfl hle) (As := [.int 60]) (zci_Notes_699 l D A0 σ (zPu P 0 (some [12, 11, 10, 9, 8, 7, 6, 5, 4, 3, 2, 1, 0]))  (by simp [zPu]; try exact hPn _ (by decide)) Z.2) zBI_Notes_699 zq510 rfl ⟨⟨rfl, rfl⟩, Nat.le_of_ble_eq_true rfl, Nat.le_of_ble_eq_true rfl⟩ hl.1 rfl (Nat.le_of_ble_eq_true rfl) dX11_init_207 ⟨Nat.le_of_ble_eq_true rfl, Nat.le_of_ble_eq_true rfl⟩) (fun _ _ Z1 => ?_)
  have Z : zhc D A0 σ (zPu P 0 (some [12, 11, 10, 9, 8, 7, 6, 5, 4, 3, 2, 1, 0])) 703 s.heap _ _ := ⟨Z1, fun a9 ha9 => Z.2 a9 (Nat.le_trans (by decide) ha9)⟩
  refine W.widen (k := 702) (n := 36866) (Nat.le_of_ble_eq_true rfl) (Nat.le_of_ble_eq_true rfl) ?_
  refine zk_putR F Z (P1 := (zPu P 0 (some [13, 12, 11, 10, 9, 8, 7, 6, 5, 4, 3, 2, 1, 0]))) zC11 (a := 0) (k := 13) (ks := [12, 11, 10, 9, 8, 7, 6, 5, 4, 3, 2, 1, 0]) (by decide) zs_0 (by decide) rfl zg_0_13 (by simp [zPu]) (by simp [zPu]) (fun c9 hc9 => by simp [zPu, hc9]) zq547 rfl ⟨rfl, hin, rfl⟩ (fun _ => ⟨rfl, rfl⟩) dX11_init_210 (fun _ _ Z => ?_)
  have Z : zhc D A0 σ P 703 s.heap _ _ := zhc_drop (a := 0) Z (by decide) zPu_s hPb (fun c9 hc9 => (zPu_n hc9).symm) ⟨by rw [show zs 0 = _ from zs_0]; decide +kernel, fun h9 => absurd h9 (by rw [show zs 0 = _ from zs_0]; decide)⟩
  exact ze_vm F Z.1 hr hlocks (Nat.le_of_ble_eq_true rfl) (Nat.le_of_ble_eq_true rfl) rfl rfl dX11_init_213
set_option maxHeartbeats 8000000 in
set_option maxRecDepth 100000 in
theorem zci_Model (l : Launch) (D : va_G) (A0 : Nat) (σ : Mm) (P : Nat → Option (List Nat)) (hPb : P 703 = none) (h0 : ∀ a, 704 ≤ a → σ a = fun _ => 0) : Met l yX12_init (zws yX12_init cX12_init 1 none) ({ frames := 1, cells := 35, slots := 4684, locals := 60 } : Room) (zPcs D A0 σ (zGx 704 (zPu P 703 (some []))) 704 [.ref (A0 + 703)]) (zQv D A0 (zst (zst (zst (zst (zst (zst (σ) 703 5 (nI 704)) 717 (ix 0) (-1)) 717 (ix 1) (-1)) 717 (ix 2) (-1)) 717 (ix 3) (-1)) 717 (ix 4) (-1)) (zGx 739 P) 739) 35 4684 (zA A0) := by
  refine zmets (own := RX12) (by decide) rfl (Nat.le_of_ble_eq_true rfl) ?_
  intro p e s m below meth c F hr hlocks hin Z0 hz0 ls hl
  have Z : zhc D A0 σ (zPu P 703 (some [])) 704 s.heap s.heap [] := ⟨Z0, h0⟩
  have hl : lv_has ls 1 [(0, .ref (A0 + 703))] := hl
  have hx := F.1.1
  have hb := F.1.2.1
  have hown := F.1.2.2.2.1
  have hts := F.1.2.2.2.2
  refine lv_aload_n hx hb dX12_init_0 rfl (lv_at hl 0 rfl) ?_
  refine W.objInit hx hb hown (hts _ zq1247) (hts _ zq107) (hts _ zq108) rfl (by rw [F.1.2.2.1]; exact hl.1) rfl dX12_init_1 (Nat.le_of_ble_eq_true rfl) (Nat.le_of_ble_eq_true rfl) ?_
  refine W.eq (g2 := F0 m 4 ls []) rfl ?_
  refine lv_aload_n hx hb dX12_init_4 rfl (lv_at hl 0 rfl) ?_
  refine lv_sipush (v := 160) hx hb dX12_init_5 (by decide) ?_
  refine zk_newa F Z hz0 rfl (ty := 2) (atype := .byte) (N := 160) zs_704 (by decide) zq793 (by decide) rfl (Nat.le_of_ble_eq_true rfl) (Nat.le_of_ble_eq_true rfl) (Nat.le_of_ble_eq_true rfl) dX12_init_8 (fun _ Z => ?_)
  have Z : zhc D A0 σ (zPu P 703 (some [])) 705 s.heap _ _ := Z
  refine W.widen (k := 1) (n := 160) (Nat.le_of_ble_eq_true rfl) (Nat.le_of_ble_eq_true rfl) ?_
  refine zk_putR F Z (P1 := (zPu P 703 (some [1]))) zC12 (a := 703) (k := 1) (ks := []) (by decide) zs_703 (by decide) rfl zg_703_1 (by simp [zPu]) (by simp [zPu]) (fun c9 hc9 => by simp [zPu, hc9]) zq1251 rfl ⟨rfl, hin, rfl⟩ (fun _ => ⟨rfl, rfl⟩) dX12_init_10 (fun _ _ Z => ?_)
  refine lv_aload_n hx hb dX12_init_13 rfl (lv_at hl 0 rfl) ?_
  refine lv_sipush (v := 800) hx hb dX12_init_14 (by decide) ?_
  refine zk_newa F Z hz0 rfl (ty := 2) (atype := .byte) (N := 800) zs_705 (by decide) zq793 (by decide) rfl (Nat.le_of_ble_eq_true rfl) (Nat.le_of_ble_eq_true rfl) (Nat.le_of_ble_eq_true rfl) dX12_init_17 (fun _ Z => ?_)
  have Z : zhc D A0 σ (zPu P 703 (some [1])) 706 s.heap _ _ := Z
  refine W.widen (k := 2) (n := 960) (Nat.le_of_ble_eq_true rfl) (Nat.le_of_ble_eq_true rfl) ?_
  refine zk_putR F Z (P1 := (zPu P 703 (some [2, 1]))) zC12 (a := 703) (k := 2) (ks := [1]) (by decide) zs_703 (by decide) rfl zg_703_2 (by simp [zPu]) (by simp [zPu]) (fun c9 hc9 => by simp [zPu, hc9]) zq1252 rfl ⟨rfl, hin, rfl⟩ (fun _ => ⟨rfl, rfl⟩) dX12_init_19 (fun _ _ Z => ?_)
  refine lv_aload_n hx hb dX12_init_22 rfl (lv_at hl 0 rfl) ?_
  refine lv_iconst (v := 5) hx hb dX12_init_23 (by decide) ?_
  refine zk_newa F Z hz0 rfl (ty := 0) (atype := .int) (N := 5) zs_706 (by decide) zq123 (by decide) rfl (Nat.le_of_ble_eq_true rfl) (Nat.le_of_ble_eq_true rfl) (Nat.le_of_ble_eq_true rfl) dX12_init_24 (fun _ Z => ?_)
  have Z : zhc D A0 σ (zPu P 703 (some [2, 1])) 707 s.heap _ _ := Z
  refine W.widen (k := 3) (n := 965) (Nat.le_of_ble_eq_true rfl) (Nat.le_of_ble_eq_true rfl) ?_
  refine zk_putR F Z (P1 := (zPu P 703 (some [3, 2, 1]))) zC12 (a := 703) (k := 3) (ks := [2, 1]) (by decide) zs_703 (by decide) rfl zg_703_3 (by simp [zPu]) (by simp [zPu]) (fun c9 hc9 => by simp [zPu, hc9]) zq1253 rfl ⟨rfl, hin, rfl⟩ (fun _ => ⟨rfl, rfl⟩) dX12_init_26 (fun _ _ Z => ?_)
  refine lv_aload_n hx hb dX12_init_29 rfl (lv_at hl 0 rfl) ?_
  refine lv_sipush (v := 128) hx hb dX12_init_30 (by decide) ?_
  refine zk_newa F Z hz0 rfl (ty := 0) (atype := .int) (N := 128) zs_707 (by decide) zq123 (by decide) rfl (Nat.le_of_ble_eq_true rfl) (Nat.le_of_ble_eq_true rfl) (Nat.le_of_ble_eq_true rfl) dX12_init_33 (fun _ Z => ?_)
  have Z : zhc D A0 σ (zPu P 703 (some [3, 2, 1])) 708 s.heap _ _ := Z
  refine W.widen (k := 4) (n := 1093) (Nat.le_of_ble_eq_true rfl) (Nat.le_of_ble_eq_true rfl) ?_
  refine zk_putR F Z (P1 := (zPu P 703 (some [4, 3, 2, 1]))) zC12 (a := 703) (k := 4) (ks := [3, 2, 1]) (by decide) zs_703 (by decide) rfl zg_703_4 (by simp [zPu]) (by simp [zPu]) (fun c9 hc9 => by simp [zPu, hc9]) zq1254 rfl ⟨rfl, hin, rfl⟩ (fun _ => ⟨rfl, rfl⟩) dX12_init_35 (fun _ _ Z => ?_)
  refine lv_aload_n hx hb dX12_init_38 rfl (lv_at hl 0 rfl) ?_
  refine lv_aload_n hx hb dX12_init_39 rfl (lv_at hl 0 rfl) ?_
  refine zw_getR F Z.1 zC12 (a := 703) (k := 1) (by decide) zs_703 (by decide) rfl (b := 704) (by rw [zGx_p (ks := [4, 3, 2, 1]) (by decide) (by simp [zPu])]; exact (if_pos (by decide)).trans zg_703_1) zq1251 (Or.inl rfl) dX12_init_40 ?_
  refine zw_putM F Z.1 zC12 (a := 703) (k := 5) (b := 704) (by decide) zs_703 (by decide) rfl (by decide) (by decide) (by decide) zq1255 (Or.inl rfl) rfl (fun _ => ⟨rfl, rfl⟩) dX12_init_43 (fun σ43 _ _ eσ43 Z1 => ?_)
  have Z := zhc_put Z (by decide) eσ43 Z1
  refine lv_aload_n hx hb dX12_init_46 rfl (lv_at hl 0 rfl) ?_
  refine zw_ldcS F (i := 2) (tx := "y") (by decide) dX12_init_47 ?_
  refine zk_putS F Z (P1 := (zPu P 703 (some [15, 4, 3, 2, 1]))) zC12 (a := 703) (k := 15) (ks := [4, 3, 2, 1]) (by decide) zs_703 (by decide) rfl rfl (by simp [zPu]) (by simp [zPu]) (fun c9 hc9 => by simp [zPu, hc9]) zq1265 rfl ⟨rfl, hin, rfl⟩ (fun _ => ⟨rfl, rfl⟩) dX12_init_49 (fun _ _ Z => ?_)
  refine lv_aload_n hx hb dX12_init_52 rfl (lv_at hl 0 rfl) ?_
  refine zw_ldcS F (i := 1) (tx := "pgcduw") (by decide) dX12_init_53 ?_
  refine zk_putS F Z (P1 := (zPu P 703 (some [16, 15, 4, 3, 2, 1]))) zC12 (a := 703) (k := 16) (ks := [15, 4, 3, 2, 1]) (by decide) zs_703 (by decide) rfl rfl (by simp [zPu]) (by simp [zPu]) (fun c9 hc9 => by simp [zPu, hc9]) zq1266 rfl ⟨rfl, hin, rfl⟩ (fun _ => ⟨rfl, rfl⟩) dX12_init_55 (fun _ _ Z => ?_)
  refine lv_aload_n hx hb dX12_init_58 rfl (lv_at hl 0 rfl) ?_
  refine lv_bipush (v := 15) hx hb dX12_init_59 (by decide) ?_
  refine zk_newa F Z hz0 rfl (ty := 0) (atype := .int) (N := 15) zs_708 (by decide) zq123 (by decide) rfl (Nat.le_of_ble_eq_true rfl) (Nat.le_of_ble_eq_true rfl) (Nat.le_of_ble_eq_true rfl) dX12_init_61 (fun _ Z => ?_)
  have Z : zhc D A0 σ43 (zPu P 703 (some [16, 15, 4, 3, 2, 1])) 709 s.heap _ _ := Z
  refine W.widen (k := 5) (n := 1108) (Nat.le_of_ble_eq_true rfl) (Nat.le_of_ble_eq_true rfl) ?_
  refine zk_putR F Z (P1 := (zPu P 703 (some [18, 16, 15, 4, 3, 2, 1]))) zC12 (a := 703) (k := 18) (ks := [16, 15, 4, 3, 2, 1]) (by decide) zs_703 (by decide) rfl zg_703_18 (by simp [zPu]) (by simp [zPu]) (fun c9 hc9 => by simp [zPu, hc9]) zq1268 rfl ⟨rfl, hin, rfl⟩ (fun _ => ⟨rfl, rfl⟩) dX12_init_63 (fun _ _ Z => ?_)
  refine lv_aload_n hx hb dX12_init_66 rfl (lv_at hl 0 rfl) ?_
  refine lv_bipush (v := 18) hx hb dX12_init_67 (by decide) ?_
  refine zk_newa F Z hz0 rfl (ty := 0) (atype := .int) (N := 18) zs_709 (by decide) zq123 (by decide) rfl (Nat.le_of_ble_eq_true rfl) (Nat.le_of_ble_eq_true rfl) (Nat.le_of_ble_eq_true rfl) dX12_init_69 (fun _ Z => ?_)
  have Z : zhc D A0 σ43 (zPu P 703 (some [18, 16, 15, 4, 3, 2, 1])) 710 s.heap _ _ := Z
  refine W.widen (k := 6) (n := 1126) (Nat.le_of_ble_eq_true rfl) (Nat.le_of_ble_eq_true rfl) ?_
  refine zk_putR F Z (P1 := (zPu P 703 (some [19, 18, 16, 15, 4, 3, 2, 1]))) zC12 (a := 703) (k := 19) (ks := [18, 16, 15, 4, 3, 2, 1]) (by decide) zs_703 (by decide) rfl zg_703_19 (by simp [zPu]) (by simp [zPu]) (fun c9 hc9 => by simp [zPu, hc9]) zq1269 rfl ⟨rfl, hin, rfl⟩ (fun _ => ⟨rfl, rfl⟩) dX12_init_71 (fun _ _ Z => ?_)
  refine lv_aload_n hx hb dX12_init_74 rfl (lv_at hl 0 rfl) ?_
  refine lv_iconst (v := 2) hx hb dX12_init_75 (by decide) ?_
  refine zk_newa F Z hz0 rfl (ty := 0) (atype := .int) (N := 2) zs_710 (by decide) zq123 (by decide) rfl (Nat.le_of_ble_eq_true rfl) (Nat.le_of_ble_eq_true rfl) (Nat.le_of_ble_eq_true rfl) dX12_init_76 (fun _ Z => ?_)
  have Z : zhc D A0 σ43 (zPu P 703 (some [19, 18, 16, 15, 4, 3, 2, 1])) 711 s.heap _ _ := Z
  refine W.widen (k := 7) (n := 1128) (Nat.le_of_ble_eq_true rfl) (Nat.le_of_ble_eq_true rfl) ?_
  refine zk_putR F Z (P1 := (zPu P 703 (some [20, 19, 18, 16, 15, 4, 3, 2, 1]))) zC12 (a := 703) (k := 20) (ks := [19, 18, 16, 15, 4, 3, 2, 1]) (by decide) zs_703 (by decide) rfl zg_703_20 (by simp [zPu]) (by simp [zPu]) (fun c9 hc9 => by simp [zPu, hc9]) zq1270 rfl ⟨rfl, hin, rfl⟩ (fun _ => ⟨rfl, rfl⟩) dX12_init_78 (fun _ _ Z => ?_)
  refine lv_aload_n hx hb dX12_init_81 rfl (lv_at hl 0 rfl) ?_
  refine lv_bipush (v := 15) hx hb dX12_init_82 (by decide) ?_
  refine zk_newa F Z hz0 rfl (ty := 0) (atype := .int) (N := 15) zs_711 (by decide) zq123 (by decide) rfl (Nat.le_of_ble_eq_true rfl) (Nat.le_of_ble_eq_true rfl) (Nat.le_of_ble_eq_true rfl) dX12_init_84 (fun _ Z => ?_)
  have Z : zhc D A0 σ43 (zPu P 703 (some [20, 19, 18, 16, 15, 4, 3, 2, 1])) 712 s.heap _ _ := Z
  refine W.widen (k := 8) (n := 1143) (Nat.le_of_ble_eq_true rfl) (Nat.le_of_ble_eq_true rfl) ?_
  refine zk_putR F Z (P1 := (zPu P 703 (some [21, 20, 19, 18, 16, 15, 4, 3, 2, 1]))) zC12 (a := 703) (k := 21) (ks := [20, 19, 18, 16, 15, 4, 3, 2, 1]) (by decide) zs_703 (by decide) rfl zg_703_21 (by simp [zPu]) (by simp [zPu]) (fun c9 hc9 => by simp [zPu, hc9]) zq1271 rfl ⟨rfl, hin, rfl⟩ (fun _ => ⟨rfl, rfl⟩) dX12_init_86 (fun _ _ Z => ?_)
  refine lv_aload_n hx hb dX12_init_89 rfl (lv_at hl 0 rfl) ?_
  refine lv_bipush (v := 18) hx hb dX12_init_90 (by decide) ?_
  refine zk_newa F Z hz0 rfl (ty := 0) (atype := .int) (N := 18) zs_712 (by decide) zq123 (by decide) rfl (Nat.le_of_ble_eq_true rfl) (Nat.le_of_ble_eq_true rfl) (Nat.le_of_ble_eq_true rfl) dX12_init_92 (fun _ Z => ?_)
  have Z : zhc D A0 σ43 (zPu P 703 (some [21, 20, 19, 18, 16, 15, 4, 3, 2, 1])) 713 s.heap _ _ := Z
  refine W.widen (k := 9) (n := 1161) (Nat.le_of_ble_eq_true rfl) (Nat.le_of_ble_eq_true rfl) ?_
  refine zk_putR F Z (P1 := (zPu P 703 (some [22, 21, 20, 19, 18, 16, 15, 4, 3, 2, 1]))) zC12 (a := 703) (k := 22) (ks := [21, 20, 19, 18, 16, 15, 4, 3, 2, 1]) (by decide) zs_703 (by decide) rfl zg_703_22 (by simp [zPu]) (by simp [zPu]) (fun c9 hc9 => by simp [zPu, hc9]) zq1272 rfl ⟨rfl, hin, rfl⟩ (fun _ => ⟨rfl, rfl⟩) dX12_init_94 (fun _ _ Z => ?_)
  refine lv_aload_n hx hb dX12_init_97 rfl (lv_at hl 0 rfl) ?_
  refine lv_iconst (v := 2) hx hb dX12_init_98 (by decide) ?_
  refine zk_newa F Z hz0 rfl (ty := 0) (atype := .int) (N := 2) zs_713 (by decide) zq123 (by decide) rfl (Nat.le_of_ble_eq_true rfl) (Nat.le_of_ble_eq_true rfl) (Nat.le_of_ble_eq_true rfl) dX12_init_99 (fun _ Z => ?_)
  have Z : zhc D A0 σ43 (zPu P 703 (some [22, 21, 20, 19, 18, 16, 15, 4, 3, 2, 1])) 714 s.heap _ _ := Z
  refine W.widen (k := 10) (n := 1163) (Nat.le_of_ble_eq_true rfl) (Nat.le_of_ble_eq_true rfl) ?_
  refine zk_putR F Z (P1 := (zPu P 703 (some [23, 22, 21, 20, 19, 18, 16, 15, 4, 3, 2, 1]))) zC12 (a := 703) (k := 23) (ks := [22, 21, 20, 19, 18, 16, 15, 4, 3, 2, 1]) (by decide) zs_703 (by decide) rfl zg_703_23 (by simp [zPu]) (by simp [zPu]) (fun c9 hc9 => by simp [zPu, hc9]) zq1273 rfl ⟨rfl, hin, rfl⟩ (fun _ => ⟨rfl, rfl⟩) dX12_init_101 (fun _ _ Z => ?_)
  refine lv_aload_n hx hb dX12_init_104 rfl (lv_at hl 0 rfl) ?_
  refine lv_bipush (v := 57) hx hb dX12_init_105 (by decide) ?_
  refine zk_newa F Z hz0 rfl (ty := 0) (atype := .int) (N := 57) zs_714 (by decide) zq123 (by decide) rfl (Nat.le_of_ble_eq_true rfl) (Nat.le_of_ble_eq_true rfl) (Nat.le_of_ble_eq_true rfl) dX12_init_107 (fun _ Z => ?_)
  have Z : zhc D A0 σ43 (zPu P 703 (some [23, 22, 21, 20, 19, 18, 16, 15, 4, 3, 2, 1])) 715 s.heap _ _ := Z
  refine W.widen (k := 11) (n := 1220) (Nat.le_of_ble_eq_true rfl) (Nat.le_of_ble_eq_true rfl) ?_
  refine zk_putR F Z (P1 := (zPu P 703 (some [29, 23, 22, 21, 20, 19, 18, 16, 15, 4, 3, 2, 1]))) zC12 (a := 703) (k := 29) (ks := [23, 22, 21, 20, 19, 18, 16, 15, 4, 3, 2, 1]) (by decide) zs_703 (by decide) rfl zg_703_29 (by simp [zPu]) (by simp [zPu]) (fun c9 hc9 => by simp [zPu, hc9]) zq1279 rfl ⟨rfl, hin, rfl⟩ (fun _ => ⟨rfl, rfl⟩) dX12_init_109 (fun _ _ Z => ?_)
  refine lv_aload_n hx hb dX12_init_112 rfl (lv_at hl 0 rfl) ?_
  refine lv_bipush (v := 57) hx hb dX12_init_113 (by decide) ?_
  refine zk_newa F Z hz0 rfl (ty := 0) (atype := .int) (N := 57) zs_715 (by decide) zq123 (by decide) rfl (Nat.le_of_ble_eq_true rfl) (Nat.le_of_ble_eq_true rfl) (Nat.le_of_ble_eq_true rfl) dX12_init_115 (fun _ Z => ?_)
  have Z : zhc D A0 σ43 (zPu P 703 (some [29, 23, 22, 21, 20, 19, 18, 16, 15, 4, 3, 2, 1])) 716 s.heap _ _ := Z
  refine W.widen (k := 12) (n := 1277) (Nat.le_of_ble_eq_true rfl) (Nat.le_of_ble_eq_true rfl) ?_
  refine zk_putR F Z (P1 := (zPu P 703 (some [30, 29, 23, 22, 21, 20, 19, 18, 16, 15, 4, 3, 2, 1]))) zC12 (a := 703) (k := 30) (ks := [29, 23, 22, 21, 20, 19, 18, 16, 15, 4, 3, 2, 1]) (by decide) zs_703 (by decide) rfl zg_703_30 (by simp [zPu]) (by simp [zPu]) (fun c9 hc9 => by simp [zPu, hc9]) zq1280 rfl ⟨rfl, hin, rfl⟩ (fun _ => ⟨rfl, rfl⟩) dX12_init_117 (fun _ _ Z => ?_)
  refine lv_aload_n hx hb dX12_init_120 rfl (lv_at hl 0 rfl) ?_
  refine lv_iconst (v := 5) hx hb dX12_init_121 (by decide) ?_
  refine zk_newa F Z hz0 rfl (ty := 0) (atype := .int) (N := 5) zs_716 (by decide) zq123 (by decide) rfl (Nat.le_of_ble_eq_true rfl) (Nat.le_of_ble_eq_true rfl) (Nat.le_of_ble_eq_true rfl) dX12_init_122 (fun _ Z => ?_)
  have Z : zhc D A0 σ43 (zPu P 703 (some [30, 29, 23, 22, 21, 20, 19, 18, 16, 15, 4, 3, 2, 1])) 717 s.heap _ _ := Z
  refine W.widen (k := 13) (n := 1282) (Nat.le_of_ble_eq_true rfl) (Nat.le_of_ble_eq_true rfl) ?_
  refine zk_putR F Z (P1 := (zPu P 703 (some [31, 30, 29, 23, 22, 21, 20, 19, 18, 16, 15, 4, 3, 2, 1]))) zC12 (a := 703) (k := 31) (ks := [30, 29, 23, 22, 21, 20, 19, 18, 16, 15, 4, 3, 2, 1]) (by decide) zs_703 (by decide) rfl zg_703_31 (by simp [zPu]) (by simp [zPu]) (fun c9 hc9 => by simp [zPu, hc9]) zq1281 rfl ⟨rfl, hin, rfl⟩ (fun _ => ⟨rfl, rfl⟩) dX12_init_124 (fun _ _ Z => ?_)
  refine lv_aload_n hx hb dX12_init_127 rfl (lv_at hl 0 rfl) ?_
  refine lv_iconst (v := 5) hx hb dX12_init_128 (by decide) ?_
  refine zk_newa F Z hz0 rfl (ty := 0) (atype := .int) (N := 5) zs_717 (by decide) zq123 (by decide) rfl (Nat.le_of_ble_eq_true rfl) (Nat.le_of_ble_eq_true rfl) (Nat.le_of_ble_eq_true rfl) dX12_init_129 (fun _ Z => ?_)
  have Z : zhc D A0 σ43 (zPu P 703 (some [31, 30, 29, 23, 22, 21, 20, 19, 18, 16, 15, 4, 3, 2, 1])) 718 s.heap _ _ := Z
  refine W.widen (k := 14) (n := 1287) (Nat.le_of_ble_eq_true rfl) (Nat.le_of_ble_eq_true rfl) ?_
  refine lv_dup hx hb dX12_init_131 rfl ?_
  refine lv_iconst (v := 0) hx hb dX12_init_132 (by decide) ?_
  refine lv_iconst (v := (-1)) hx hb dX12_init_133 (by decide) ?_
  refine zw_iast F Z.1 (by decide) zs_717 (by decide) dX12_init_134 (fun σ134 _ _ eσ134 Z1 => ?_)
  have Z := zhc_put Z (by decide) eσ134 Z1
  refine lv_dup hx hb dX12_init_135 rfl ?_
  refine lv_iconst (v := 1) hx hb dX12_init_136 (by decide) ?_
  refine lv_iconst (v := (-1)) hx hb dX12_init_137 (by decide) ?_
  refine zw_iast F Z.1 (by decide) zs_717 (by decide) dX12_init_138 (fun σ138 _ _ eσ138 Z1 => ?_)
  have Z := zhc_put Z (by decide) eσ138 Z1
  refine lv_dup hx hb dX12_init_139 rfl ?_
  refine lv_iconst (v := 2) hx hb dX12_init_140 (by decide) ?_
  refine lv_iconst (v := (-1)) hx hb dX12_init_141 (by decide) ?_
  refine zw_iast F Z.1 (by decide) zs_717 (by decide) dX12_init_142 (fun σ142 _ _ eσ142 Z1 => ?_)
  have Z := zhc_put Z (by decide) eσ142 Z1
  refine lv_dup hx hb dX12_init_143 rfl ?_
  refine lv_iconst (v := 3) hx hb dX12_init_144 (by decide) ?_
  refine lv_iconst (v := (-1)) hx hb dX12_init_145 (by decide) ?_
  refine zw_iast F Z.1 (by decide) zs_717 (by decide) dX12_init_146 (fun σ146 _ _ eσ146 Z1 => ?_)
  have Z := zhc_put Z (by decide) eσ146 Z1
  refine lv_dup hx hb dX12_init_147 rfl ?_
  refine lv_iconst (v := 4) hx hb dX12_init_148 (by decide) ?_
  refine lv_iconst (v := (-1)) hx hb dX12_init_149 (by decide) ?_
  refine zw_iast F Z.1 (by decide) zs_717 (by decide) dX12_init_150 (fun σ150 _ _ eσ150 Z1 => ?_)
  have Z := zhc_put Z (by decide) eσ150 Z1
  refine zk_putR F Z (P1 := (zPu P 703 (some [35, 31, 30, 29, 23, 22, 21, 20, 19, 18, 16, 15, 4, 3, 2, 1]))) zC12 (a := 703) (k := 35) (ks := [31, 30, 29, 23, 22, 21, 20, 19, 18, 16, 15, 4, 3, 2, 1]) (by decide) zs_703 (by decide) rfl zg_703_35 (by simp [zPu]) (by simp [zPu]) (fun c9 hc9 => by simp [zPu, hc9]) zq1285 rfl ⟨rfl, hin, rfl⟩ (fun _ => ⟨rfl, rfl⟩) dX12_init_151 (fun _ _ Z => ?_)
  refine lv_aload_n hx hb dX12_init_154 rfl (lv_at hl 0 rfl) ?_
  refine lv_bipush (v := 6) hx hb dX12_init_155 (by decide) ?_
  refine zk_newa F Z hz0 rfl (ty := 0) (atype := .int) (N := 6) zs_718 (by decide) zq123 (by decide) rfl (Nat.le_of_ble_eq_true rfl) (Nat.le_of_ble_eq_true rfl) (Nat.le_of_ble_eq_true rfl) dX12_init_157 (fun _ Z => ?_)
  have Z : zhc D A0 σ150 (zPu P 703 (some [35, 31, 30, 29, 23, 22, 21, 20, 19, 18, 16, 15, 4, 3, 2, 1])) 719 s.heap _ _ := Z
  refine W.widen (k := 15) (n := 1293) (Nat.le_of_ble_eq_true rfl) (Nat.le_of_ble_eq_true rfl) ?_
  refine zk_putR F Z (P1 := (zPu P 703 (some [36, 35, 31, 30, 29, 23, 22, 21, 20, 19, 18, 16, 15, 4, 3, 2, 1]))) zC12 (a := 703) (k := 36) (ks := [35, 31, 30, 29, 23, 22, 21, 20, 19, 18, 16, 15, 4, 3, 2, 1]) (by decide) zs_703 (by decide) rfl zg_703_36 (by simp [zPu]) (by simp [zPu]) (fun c9 hc9 => by simp [zPu, hc9]) zq1286 rfl ⟨rfl, hin, rfl⟩ (fun _ => ⟨rfl, rfl⟩) dX12_init_159 (fun _ _ Z => ?_)
  refine lv_aload_n hx hb dX12_init_162 rfl (lv_at hl 0 rfl) ?_
  refine lv_bipush (v := 6) hx hb dX12_init_163 (by decide) ?_
  refine zk_newa F Z hz0 rfl (ty := 0) (atype := .int) (N := 6) zs_719 (by decide) zq123 (by decide) rfl (Nat.le_of_ble_eq_true rfl) (Nat.le_of_ble_eq_true rfl) (Nat.le_of_ble_eq_true rfl) dX12_init_165 (fun _ Z => ?_)
  have Z : zhc D A0 σ150 (zPu P 703 (some [36, 35, 31, 30, 29, 23, 22, 21, 20, 19, 18, 16, 15, 4, 3, 2, 1])) 720 s.heap _ _ := Z
  refine W.widen (k := 16) (n := 1299) (Nat.le_of_ble_eq_true rfl) (Nat.le_of_ble_eq_true rfl) ?_
  refine zk_putR F Z (P1 := (zPu P 703 (some [37, 36, 35, 31, 30, 29, 23, 22, 21, 20, 19, 18, 16, 15, 4, 3, 2, 1]))) zC12 (a := 703) (k := 37) (ks := [36, 35, 31, 30, 29, 23, 22, 21, 20, 19, 18, 16, 15, 4, 3, 2, 1]) (by decide) zs_703 (by decide) rfl zg_703_37 (by simp [zPu]) (by simp [zPu]) (fun c9 hc9 => by simp [zPu, hc9]) zq1287 rfl ⟨rfl, hin, rfl⟩ (fun _ => ⟨rfl, rfl⟩) dX12_init_167 (fun _ _ Z => ?_)
  refine lv_aload_n hx hb dX12_init_170 rfl (lv_at hl 0 rfl) ?_
  refine lv_bipush (v := 6) hx hb dX12_init_171 (by decide) ?_
  refine zk_newa F Z hz0 rfl (ty := 0) (atype := .int) (N := 6) zs_720 (by decide) zq123 (by decide) rfl (Nat.le_of_ble_eq_true rfl) (Nat.le_of_ble_eq_true rfl) (Nat.le_of_ble_eq_true rfl) dX12_init_173 (fun _ Z => ?_)
  have Z : zhc D A0 σ150 (zPu P 703 (some [37, 36, 35, 31, 30, 29, 23, 22, 21, 20, 19, 18, 16, 15, 4, 3, 2, 1])) 721 s.heap _ _ := Z
  refine W.widen (k := 17) (n := 1305) (Nat.le_of_ble_eq_true rfl) (Nat.le_of_ble_eq_true rfl) ?_
  refine zk_putR F Z (P1 := (zPu P 703 (some [38, 37, 36, 35, 31, 30, 29, 23, 22, 21, 20, 19, 18, 16, 15, 4, 3, 2, 1]))) zC12 (a := 703) (k := 38) (ks := [37, 36, 35, 31, 30, 29, 23, 22, 21, 20, 19, 18, 16, 15, 4, 3, 2, 1]) (by decide) zs_703 (by decide) rfl zg_703_38 (by simp [zPu]) (by simp [zPu]) (fun c9 hc9 => by simp [zPu, hc9]) zq1288 rfl ⟨rfl, hin, rfl⟩ (fun _ => ⟨rfl, rfl⟩) dX12_init_175 (fun _ _ Z => ?_)
  refine lv_aload_n hx hb dX12_init_178 rfl (lv_at hl 0 rfl) ?_
  refine lv_bipush (v := 24) hx hb dX12_init_179 (by decide) ?_
  refine zk_newa F Z hz0 rfl (ty := 0) (atype := .int) (N := 24) zs_721 (by decide) zq123 (by decide) rfl (Nat.le_of_ble_eq_true rfl) (Nat.le_of_ble_eq_true rfl) (Nat.le_of_ble_eq_true rfl) dX12_init_181 (fun _ Z => ?_)
  have Z : zhc D A0 σ150 (zPu P 703 (some [38, 37, 36, 35, 31, 30, 29, 23, 22, 21, 20, 19, 18, 16, 15, 4, 3, 2, 1])) 722 s.heap _ _ := Z
  refine W.widen (k := 18) (n := 1329) (Nat.le_of_ble_eq_true rfl) (Nat.le_of_ble_eq_true rfl) ?_
  refine zk_putR F Z (P1 := (zPu P 703 (some [39, 38, 37, 36, 35, 31, 30, 29, 23, 22, 21, 20, 19, 18, 16, 15, 4, 3, 2, 1]))) zC12 (a := 703) (k := 39) (ks := [38, 37, 36, 35, 31, 30, 29, 23, 22, 21, 20, 19, 18, 16, 15, 4, 3, 2, 1]) (by decide) zs_703 (by decide) rfl zg_703_39 (by simp [zPu]) (by simp [zPu]) (fun c9 hc9 => by simp [zPu, hc9]) zq1289 rfl ⟨rfl, hin, rfl⟩ (fun _ => ⟨rfl, rfl⟩) dX12_init_183 (fun _ _ Z => ?_)
  refine lv_aload_n hx hb dX12_init_186 rfl (lv_at hl 0 rfl) ?_
  refine lv_bipush (v := 6) hx hb dX12_init_187 (by decide) ?_
  refine zk_newa F Z hz0 rfl (ty := 0) (atype := .int) (N := 6) zs_722 (by decide) zq123 (by decide) rfl (Nat.le_of_ble_eq_true rfl) (Nat.le_of_ble_eq_true rfl) (Nat.le_of_ble_eq_true rfl) dX12_init_189 (fun _ Z => ?_)
  have Z : zhc D A0 σ150 (zPu P 703 (some [39, 38, 37, 36, 35, 31, 30, 29, 23, 22, 21, 20, 19, 18, 16, 15, 4, 3, 2, 1])) 723 s.heap _ _ := Z
  refine W.widen (k := 19) (n := 1335) (Nat.le_of_ble_eq_true rfl) (Nat.le_of_ble_eq_true rfl) ?_
  refine zk_putR F Z (P1 := (zPu P 703 (some [40, 39, 38, 37, 36, 35, 31, 30, 29, 23, 22, 21, 20, 19, 18, 16, 15, 4, 3, 2, 1]))) zC12 (a := 703) (k := 40) (ks := [39, 38, 37, 36, 35, 31, 30, 29, 23, 22, 21, 20, 19, 18, 16, 15, 4, 3, 2, 1]) (by decide) zs_703 (by decide) rfl zg_703_40 (by simp [zPu]) (by simp [zPu]) (fun c9 hc9 => by simp [zPu, hc9]) zq1290 rfl ⟨rfl, hin, rfl⟩ (fun _ => ⟨rfl, rfl⟩) dX12_init_191 (fun _ _ Z => ?_)
  refine lv_aload_n hx hb dX12_init_194 rfl (lv_at hl 0 rfl) ?_
  refine lv_bipush (v := 6) hx hb dX12_init_195 (by decide) ?_
  refine zk_newa F Z hz0 rfl (ty := 0) (atype := .int) (N := 6) zs_723 (by decide) zq123 (by decide) rfl (Nat.le_of_ble_eq_true rfl) (Nat.le_of_ble_eq_true rfl) (Nat.le_of_ble_eq_true rfl) dX12_init_197 (fun _ Z => ?_)
  have Z : zhc D A0 σ150 (zPu P 703 (some [40, 39, 38, 37, 36, 35, 31, 30, 29, 23, 22, 21, 20, 19, 18, 16, 15, 4, 3, 2, 1])) 724 s.heap _ _ := Z
  refine W.widen (k := 20) (n := 1341) (Nat.le_of_ble_eq_true rfl) (Nat.le_of_ble_eq_true rfl) ?_
  refine zk_putR F Z (P1 := (zPu P 703 (some [47, 40, 39, 38, 37, 36, 35, 31, 30, 29, 23, 22, 21, 20, 19, 18, 16, 15, 4, 3, 2, 1]))) zC12 (a := 703) (k := 47) (ks := [40, 39, 38, 37, 36, 35, 31, 30, 29, 23, 22, 21, 20, 19, 18, 16, 15, 4, 3, 2, 1]) (by decide) zs_703 (by decide) rfl zg_703_47 (by simp [zPu]) (by simp [zPu]) (fun c9 hc9 => by simp [zPu, hc9]) zq1297 rfl ⟨rfl, hin, rfl⟩ (fun _ => ⟨rfl, rfl⟩) dX12_init_199 (fun _ _ Z => ?_)
  refine lv_aload_n hx hb dX12_init_202 rfl (lv_at hl 0 rfl) ?_
  refine lv_bipush (v := 6) hx hb dX12_init_203 (by decide) ?_
  refine zk_newa F Z hz0 rfl (ty := 0) (atype := .int) (N := 6) zs_724 (by decide) zq123 (by decide) rfl (Nat.le_of_ble_eq_true rfl) (Nat.le_of_ble_eq_true rfl) (Nat.le_of_ble_eq_true rfl) dX12_init_205 (fun _ Z => ?_)
  have Z : zhc D A0 σ150 (zPu P 703 (some [47, 40, 39, 38, 37, 36, 35, 31, 30, 29, 23, 22, 21, 20, 19, 18, 16, 15, 4, 3, 2, 1])) 725 s.heap _ _ := Z
  refine W.widen (k := 21) (n := 1347) (Nat.le_of_ble_eq_true rfl) (Nat.le_of_ble_eq_true rfl) ?_
  refine zk_putR F Z (P1 := (zPu P 703 (some [48, 47, 40, 39, 38, 37, 36, 35, 31, 30, 29, 23, 22, 21, 20, 19, 18, 16, 15, 4, 3, 2, 1]))) zC12 (a := 703) (k := 48) (ks := [47, 40, 39, 38, 37, 36, 35, 31, 30, 29, 23, 22, 21, 20, 19, 18, 16, 15, 4, 3, 2, 1]) (by decide) zs_703 (by decide) rfl zg_703_48 (by simp [zPu]) (by simp [zPu]) (fun c9 hc9 => by simp [zPu, hc9]) zq1298 rfl ⟨rfl, hin, rfl⟩ (fun _ => ⟨rfl, rfl⟩) dX12_init_207 (fun _ _ Z => ?_)
  refine lv_aload_n hx hb dX12_init_210 rfl (lv_at hl 0 rfl) ?_
  refine lv_bipush (v := 61) hx hb dX12_init_211 (by decide) ?_
  refine zk_newa F Z hz0 rfl (ty := 0) (atype := .int) (N := 61) zs_725 (by decide) zq123 (by decide) rfl (Nat.le_of_ble_eq_true rfl) (Nat.le_of_ble_eq_true rfl) (Nat.le_of_ble_eq_true rfl) dX12_init_213 (fun _ Z => ?_)
  have Z : zhc D A0 σ150 (zPu P 703 (some [48, 47, 40, 39, 38, 37, 36, 35, 31, 30, 29, 23, 22, 21, 20, 19, 18, 16, 15, 4, 3, 2, 1])) 726 s.heap _ _ := Z
  refine W.widen (k := 22) (n := 1408) (Nat.le_of_ble_eq_true rfl) (Nat.le_of_ble_eq_true rfl) ?_
  refine zk_putR F Z (P1 := (zPu P 703 (some [49, 48, 47, 40, 39, 38, 37, 36, 35, 31, 30, 29, 23, 22, 21, 20, 19, 18, 16, 15, 4, 3, 2, 1]))) zC12 (a := 703) (k := 49) (ks := [48, 47, 40, 39, 38, 37, 36, 35, 31, 30, 29, 23, 22, 21, 20, 19, 18, 16, 15, 4, 3, 2, 1]) (by decide) zs_703 (by decide) rfl zg_703_49 (by simp [zPu]) (by simp [zPu]) (fun c9 hc9 => by simp [zPu, hc9]) zq1299 rfl ⟨rfl, hin, rfl⟩ (fun _ => ⟨rfl, rfl⟩) dX12_init_215 (fun _ _ Z => ?_)
  refine lv_aload_n hx hb dX12_init_218 rfl (lv_at hl 0 rfl) ?_
  refine lv_bipush (v := 61) hx hb dX12_init_219 (by decide) ?_
  refine zk_newa F Z hz0 rfl (ty := 1) (atype := .boolean) (N := 61) zs_726 (by decide) zq375 (by decide) rfl (Nat.le_of_ble_eq_true rfl) (Nat.le_of_ble_eq_true rfl) (Nat.le_of_ble_eq_true rfl) dX12_init_221 (fun _ Z => ?_)
  have Z : zhc D A0 σ150 (zPu P 703 (some [49, 48, 47, 40, 39, 38, 37, 36, 35, 31, 30, 29, 23, 22, 21, 20, 19, 18, 16, 15, 4, 3, 2, 1])) 727 s.heap _ _ := Z
  refine W.widen (k := 23) (n := 1469) (Nat.le_of_ble_eq_true rfl) (Nat.le_of_ble_eq_true rfl) ?_
  refine zk_putR F Z (P1 := (zPu P 703 (some [50, 49, 48, 47, 40, 39, 38, 37, 36, 35, 31, 30, 29, 23, 22, 21, 20, 19, 18, 16, 15, 4, 3, 2, 1]))) zC12 (a := 703) (k := 50) (ks := [49, 48, 47, 40, 39, 38, 37, 36, 35, 31, 30, 29, 23, 22, 21, 20, 19, 18, 16, 15, 4, 3, 2, 1]) (by decide) zs_703 (by decide) rfl zg_703_50 (by simp [zPu]) (by simp [zPu]) (fun c9 hc9 => by simp [zPu, hc9]) zq1300 rfl ⟨rfl, hin, rfl⟩ (fun _ => ⟨rfl, rfl⟩) dX12_init_223 (fun _ _ Z => ?_)
  refine lv_aload_n hx hb dX12_init_226 rfl (lv_at hl 0 rfl) ?_
  refine lv_sipush (v := 2135) hx hb dX12_init_227 (by decide) ?_
  refine zk_newa F Z hz0 rfl (ty := 0) (atype := .int) (N := 2135) zs_727 (by decide) zq123 (by decide) rfl (Nat.le_of_ble_eq_true rfl) (Nat.le_of_ble_eq_true rfl) (Nat.le_of_ble_eq_true rfl) dX12_init_230 (fun _ Z => ?_)
  have Z : zhc D A0 σ150 (zPu P 703 (some [50, 49, 48, 47, 40, 39, 38, 37, 36, 35, 31, 30, 29, 23, 22, 21, 20, 19, 18, 16, 15, 4, 3, 2, 1])) 728 s.heap _ _ := Z
  refine W.widen (k := 24) (n := 3604) (Nat.le_of_ble_eq_true rfl) (Nat.le_of_ble_eq_true rfl) ?_
  refine zk_putR F Z (P1 := (zPu P 703 (some [51, 50, 49, 48, 47, 40, 39, 38, 37, 36, 35, 31, 30, 29, 23, 22, 21, 20, 19, 18, 16, 15, 4, 3, 2, 1]))) zC12 (a := 703) (k := 51) (ks := [50, 49, 48, 47, 40, 39, 38, 37, 36, 35, 31, 30, 29, 23, 22, 21, 20, 19, 18, 16, 15, 4, 3, 2, 1]) (by decide) zs_703 (by decide) rfl zg_703_51 (by simp [zPu]) (by simp [zPu]) (fun c9 hc9 => by simp [zPu, hc9]) zq1301 rfl ⟨rfl, hin, rfl⟩ (fun _ => ⟨rfl, rfl⟩) dX12_init_232 (fun _ _ Z => ?_)
  refine lv_aload_n hx hb dX12_init_235 rfl (lv_at hl 0 rfl) ?_
  refine lv_bipush (v := 57) hx hb dX12_init_236 (by decide) ?_
  refine zk_newa F Z hz0 rfl (ty := 0) (atype := .int) (N := 57) zs_728 (by decide) zq123 (by decide) rfl (Nat.le_of_ble_eq_true rfl) (Nat.le_of_ble_eq_true rfl) (Nat.le_of_ble_eq_true rfl) dX12_init_238 (fun _ Z => ?_)
  have Z : zhc D A0 σ150 (zPu P 703 (some [51, 50, 49, 48, 47, 40, 39, 38, 37, 36, 35, 31, 30, 29, 23, 22, 21, 20, 19, 18, 16, 15, 4, 3, 2, 1])) 729 s.heap _ _ := Z
  refine W.widen (k := 25) (n := 3661) (Nat.le_of_ble_eq_true rfl) (Nat.le_of_ble_eq_true rfl) ?_
  refine zk_putR F Z (P1 := (zPu P 703 (some [54, 51, 50, 49, 48, 47, 40, 39, 38, 37, 36, 35, 31, 30, 29, 23, 22, 21, 20, 19, 18, 16, 15, 4, 3, 2, 1]))) zC12 (a := 703) (k := 54) (ks := [51, 50, 49, 48, 47, 40, 39, 38, 37, 36, 35, 31, 30, 29, 23, 22, 21, 20, 19, 18, 16, 15, 4, 3, 2, 1]) (by decide) zs_703 (by decide) rfl zg_703_54 (by simp [zPu]) (by simp [zPu]) (fun c9 hc9 => by simp [zPu, hc9]) zq1304 rfl ⟨rfl, hin, rfl⟩ (fun _ => ⟨rfl, rfl⟩) dX12_init_240 (fun _ _ Z => ?_)
  refine lv_aload_n hx hb dX12_init_243 rfl (lv_at hl 0 rfl) ?_
  refine lv_bipush (v := 57) hx hb dX12_init_244 (by decide) ?_
  refine zk_newa F Z hz0 rfl (ty := 0) (atype := .int) (N := 57) zs_729 (by decide) zq123 (by decide) rfl (Nat.le_of_ble_eq_true rfl) (Nat.le_of_ble_eq_true rfl) (Nat.le_of_ble_eq_true rfl) dX12_init_246 (fun _ Z => ?_)
  have Z : zhc D A0 σ150 (zPu P 703 (some [54, 51, 50, 49, 48, 47, 40, 39, 38, 37, 36, 35, 31, 30, 29, 23, 22, 21, 20, 19, 18, 16, 15, 4, 3, 2, 1])) 730 s.heap _ _ := Z
  refine W.widen (k := 26) (n := 3718) (Nat.le_of_ble_eq_true rfl) (Nat.le_of_ble_eq_true rfl) ?_
  refine zk_putR F Z (P1 := (zPu P 703 (some [55, 54, 51, 50, 49, 48, 47, 40, 39, 38, 37, 36, 35, 31, 30, 29, 23, 22, 21, 20, 19, 18, 16, 15, 4, 3, 2, 1]))) zC12 (a := 703) (k := 55) (ks := [54, 51, 50, 49, 48, 47, 40, 39, 38, 37, 36, 35, 31, 30, 29, 23, 22, 21, 20, 19, 18, 16, 15, 4, 3, 2, 1]) (by decide) zs_703 (by decide) rfl zg_703_55 (by simp [zPu]) (by simp [zPu]) (fun c9 hc9 => by simp [zPu, hc9]) zq1305 rfl ⟨rfl, hin, rfl⟩ (fun _ => ⟨rfl, rfl⟩) dX12_init_248 (fun _ _ Z => ?_)
  refine lv_aload_n hx hb dX12_init_251 rfl (lv_at hl 0 rfl) ?_
  refine lv_bipush (v := 57) hx hb dX12_init_252 (by decide) ?_
  refine zk_newa F Z hz0 rfl (ty := 0) (atype := .int) (N := 57) zs_730 (by decide) zq123 (by decide) rfl (Nat.le_of_ble_eq_true rfl) (Nat.le_of_ble_eq_true rfl) (Nat.le_of_ble_eq_true rfl) dX12_init_254 (fun _ Z => ?_)
  have Z : zhc D A0 σ150 (zPu P 703 (some [55, 54, 51, 50, 49, 48, 47, 40, 39, 38, 37, 36, 35, 31, 30, 29, 23, 22, 21, 20, 19, 18, 16, 15, 4, 3, 2, 1])) 731 s.heap _ _ := Z
  refine W.widen (k := 27) (n := 3775) (Nat.le_of_ble_eq_true rfl) (Nat.le_of_ble_eq_true rfl) ?_
  refine zk_putR F Z (P1 := (zPu P 703 (some [56, 55, 54, 51, 50, 49, 48, 47, 40, 39, 38, 37, 36, 35, 31, 30, 29, 23, 22, 21, 20, 19, 18, 16, 15, 4, 3, 2, 1]))) zC12 (a := 703) (k := 56) (ks := [55, 54, 51, 50, 49, 48, 47, 40, 39, 38, 37, 36, 35, 31, 30, 29, 23, 22, 21, 20, 19, 18, 16, 15, 4, 3, 2, 1]) (by decide) zs_703 (by decide) rfl zg_703_56 (by simp [zPu]) (by simp [zPu]) (fun c9 hc9 => by simp [zPu, hc9]) zq1306 rfl ⟨rfl, hin, rfl⟩ (fun _ => ⟨rfl, rfl⟩) dX12_init_256 (fun _ _ Z => ?_)
  refine lv_aload_n hx hb dX12_init_259 rfl (lv_at hl 0 rfl) ?_
  refine lv_bipush (v := 20) hx hb dX12_init_260 (by decide) ?_
  refine zk_newa F Z hz0 rfl (ty := 0) (atype := .int) (N := 20) zs_731 (by decide) zq123 (by decide) rfl (Nat.le_of_ble_eq_true rfl) (Nat.le_of_ble_eq_true rfl) (Nat.le_of_ble_eq_true rfl) dX12_init_262 (fun _ Z => ?_)
  have Z : zhc D A0 σ150 (zPu P 703 (some [56, 55, 54, 51, 50, 49, 48, 47, 40, 39, 38, 37, 36, 35, 31, 30, 29, 23, 22, 21, 20, 19, 18, 16, 15, 4, 3, 2, 1])) 732 s.heap _ _ := Z
  refine W.widen (k := 28) (n := 3795) (Nat.le_of_ble_eq_true rfl) (Nat.le_of_ble_eq_true rfl) ?_
  refine zk_putR F Z (P1 := (zPu P 703 (some [60, 56, 55, 54, 51, 50, 49, 48, 47, 40, 39, 38, 37, 36, 35, 31, 30, 29, 23, 22, 21, 20, 19, 18, 16, 15, 4, 3, 2, 1]))) zC12 (a := 703) (k := 60) (ks := [56, 55, 54, 51, 50, 49, 48, 47, 40, 39, 38, 37, 36, 35, 31, 30, 29, 23, 22, 21, 20, 19, 18, 16, 15, 4, 3, 2, 1]) (by decide) zs_703 (by decide) rfl zg_703_60 (by simp [zPu]) (by simp [zPu]) (fun c9 hc9 => by simp [zPu, hc9]) zq1310 rfl ⟨rfl, hin, rfl⟩ (fun _ => ⟨rfl, rfl⟩) dX12_init_264 (fun _ _ Z => ?_)
  refine lv_aload_n hx hb dX12_init_267 rfl (lv_at hl 0 rfl) ?_
  refine lv_bipush (v := 20) hx hb dX12_init_268 (by decide) ?_
  refine zk_newa F Z hz0 rfl (ty := 0) (atype := .int) (N := 20) zs_732 (by decide) zq123 (by decide) rfl (Nat.le_of_ble_eq_true rfl) (Nat.le_of_ble_eq_true rfl) (Nat.le_of_ble_eq_true rfl) dX12_init_270 (fun _ Z => ?_)
  have Z : zhc D A0 σ150 (zPu P 703 (some [60, 56, 55, 54, 51, 50, 49, 48, 47, 40, 39, 38, 37, 36, 35, 31, 30, 29, 23, 22, 21, 20, 19, 18, 16, 15, 4, 3, 2, 1])) 733 s.heap _ _ := Z
  refine W.widen (k := 29) (n := 3815) (Nat.le_of_ble_eq_true rfl) (Nat.le_of_ble_eq_true rfl) ?_
  refine zk_putR F Z (P1 := (zPu P 703 (some [61, 60, 56, 55, 54, 51, 50, 49, 48, 47, 40, 39, 38, 37, 36, 35, 31, 30, 29, 23, 22, 21, 20, 19, 18, 16, 15, 4, 3, 2, 1]))) zC12 (a := 703) (k := 61) (ks := [60, 56, 55, 54, 51, 50, 49, 48, 47, 40, 39, 38, 37, 36, 35, 31, 30, 29, 23, 22, 21, 20, 19, 18, 16, 15, 4, 3, 2, 1]) (by decide) zs_703 (by decide) rfl zg_703_61 (by simp [zPu]) (by simp [zPu]) (fun c9 hc9 => by simp [zPu, hc9]) zq1311 rfl ⟨rfl, hin, rfl⟩ (fun _ => ⟨rfl, rfl⟩) dX12_init_272 (fun _ _ Z => ?_)
  refine lv_aload_n hx hb dX12_init_275 rfl (lv_at hl 0 rfl) ?_
  refine lv_bipush (v := 60) hx hb dX12_init_276 (by decide) ?_
  refine zk_newa F Z hz0 rfl (ty := 0) (atype := .int) (N := 60) zs_733 (by decide) zq123 (by decide) rfl (Nat.le_of_ble_eq_true rfl) (Nat.le_of_ble_eq_true rfl) (Nat.le_of_ble_eq_true rfl) dX12_init_278 (fun _ Z => ?_)
  have Z : zhc D A0 σ150 (zPu P 703 (some [61, 60, 56, 55, 54, 51, 50, 49, 48, 47, 40, 39, 38, 37, 36, 35, 31, 30, 29, 23, 22, 21, 20, 19, 18, 16, 15, 4, 3, 2, 1])) 734 s.heap _ _ := Z
  refine W.widen (k := 30) (n := 3875) (Nat.le_of_ble_eq_true rfl) (Nat.le_of_ble_eq_true rfl) ?_
  refine zk_putR F Z (P1 := (zPu P 703 (some [63, 61, 60, 56, 55, 54, 51, 50, 49, 48, 47, 40, 39, 38, 37, 36, 35, 31, 30, 29, 23, 22, 21, 20, 19, 18, 16, 15, 4, 3, 2, 1]))) zC12 (a := 703) (k := 63) (ks := [61, 60, 56, 55, 54, 51, 50, 49, 48, 47, 40, 39, 38, 37, 36, 35, 31, 30, 29, 23, 22, 21, 20, 19, 18, 16, 15, 4, 3, 2, 1]) (by decide) zs_703 (by decide) rfl zg_703_63 (by simp [zPu]) (by simp [zPu]) (fun c9 hc9 => by simp [zPu, hc9]) zq1313 rfl ⟨rfl, hin, rfl⟩ (fun _ => ⟨rfl, rfl⟩) dX12_init_280 (fun _ _ Z => ?_)
  refine lv_aload_n hx hb dX12_init_283 rfl (lv_at hl 0 rfl) ?_
  refine lv_bipush (v := 60) hx hb dX12_init_284 (by decide) ?_
  refine zk_newa F Z hz0 rfl (ty := 0) (atype := .int) (N := 60) zs_734 (by decide) zq123 (by decide) rfl (Nat.le_of_ble_eq_true rfl) (Nat.le_of_ble_eq_true rfl) (Nat.le_of_ble_eq_true rfl) dX12_init_286 (fun _ Z => ?_)
  have Z : zhc D A0 σ150 (zPu P 703 (some [63, 61, 60, 56, 55, 54, 51, 50, 49, 48, 47, 40, 39, 38, 37, 36, 35, 31, 30, 29, 23, 22, 21, 20, 19, 18, 16, 15, 4, 3, 2, 1])) 735 s.heap _ _ := Z
  refine W.widen (k := 31) (n := 3935) (Nat.le_of_ble_eq_true rfl) (Nat.le_of_ble_eq_true rfl) ?_
  refine zk_putR F Z (P1 := (zPu P 703 (some [64, 63, 61, 60, 56, 55, 54, 51, 50, 49, 48, 47, 40, 39, 38, 37, 36, 35, 31, 30, 29, 23, 22, 21, 20, 19, 18, 16, 15, 4, 3, 2, 1]))) zC12 (a := 703) (k := 64) (ks := [63, 61, 60, 56, 55, 54, 51, 50, 49, 48, 47, 40, 39, 38, 37, 36, 35, 31, 30, 29, 23, 22, 21, 20, 19, 18, 16, 15, 4, 3, 2, 1]) (by decide) zs_703 (by decide) rfl zg_703_64 (by simp [zPu]) (by simp [zPu]) (fun c9 hc9 => by simp [zPu, hc9]) zq1314 rfl ⟨rfl, hin, rfl⟩ (fun _ => ⟨rfl, rfl⟩) dX12_init_288 (fun _ _ Z => ?_)
  refine lv_aload_n hx hb dX12_init_291 rfl (lv_at hl 0 rfl) ?_
  refine lv_bipush (v := 60) hx hb dX12_init_292 (by decide) ?_
  refine zk_newa F Z hz0 rfl (ty := 0) (atype := .int) (N := 60) zs_735 (by decide) zq123 (by decide) rfl (Nat.le_of_ble_eq_true rfl) (Nat.le_of_ble_eq_true rfl) (Nat.le_of_ble_eq_true rfl) dX12_init_294 (fun _ Z => ?_)
  have Z : zhc D A0 σ150 (zPu P 703 (some [64, 63, 61, 60, 56, 55, 54, 51, 50, 49, 48, 47, 40, 39, 38, 37, 36, 35, 31, 30, 29, 23, 22, 21, 20, 19, 18, 16, 15, 4, 3, 2, 1])) 736 s.heap _ _ := Z
  refine W.widen (k := 32) (n := 3995) (Nat.le_of_ble_eq_true rfl) (Nat.le_of_ble_eq_true rfl) ?_
  refine zk_putR F Z (P1 := (zPu P 703 (some [65, 64, 63, 61, 60, 56, 55, 54, 51, 50, 49, 48, 47, 40, 39, 38, 37, 36, 35, 31, 30, 29, 23, 22, 21, 20, 19, 18, 16, 15, 4, 3, 2, 1]))) zC12 (a := 703) (k := 65) (ks := [64, 63, 61, 60, 56, 55, 54, 51, 50, 49, 48, 47, 40, 39, 38, 37, 36, 35, 31, 30, 29, 23, 22, 21, 20, 19, 18, 16, 15, 4, 3, 2, 1]) (by decide) zs_703 (by decide) rfl zg_703_65 (by simp [zPu]) (by simp [zPu]) (fun c9 hc9 => by simp [zPu, hc9]) zq1315 rfl ⟨rfl, hin, rfl⟩ (fun _ => ⟨rfl, rfl⟩) dX12_init_296 (fun _ _ Z => ?_)
  refine lv_aload_n hx hb dX12_init_299 rfl (lv_at hl 0 rfl) ?_
  refine lv_sipush (v := 627) hx hb dX12_init_300 (by decide) ?_
  refine zk_newa F Z hz0 rfl (ty := 0) (atype := .int) (N := 627) zs_736 (by decide) zq123 (by decide) rfl (Nat.le_of_ble_eq_true rfl) (Nat.le_of_ble_eq_true rfl) (Nat.le_of_ble_eq_true rfl) dX12_init_303 (fun _ Z => ?_)
  have Z : zhc D A0 σ150 (zPu P 703 (some [65, 64, 63, 61, 60, 56, 55, 54, 51, 50, 49, 48, 47, 40, 39, 38, 37, 36, 35, 31, 30, 29, 23, 22, 21, 20, 19, 18, 16, 15, 4, 3, 2, 1])) 737 s.heap _ _ := Z
  refine W.widen (k := 33) (n := 4622) (Nat.le_of_ble_eq_true rfl) (Nat.le_of_ble_eq_true rfl) ?_
  refine zk_putR F Z (P1 := (zPu P 703 (some [68, 65, 64, 63, 61, 60, 56, 55, 54, 51, 50, 49, 48, 47, 40, 39, 38, 37, 36, 35, 31, 30, 29, 23, 22, 21, 20, 19, 18, 16, 15, 4, 3, 2, 1]))) zC12 (a := 703) (k := 68) (ks := [65, 64, 63, 61, 60, 56, 55, 54, 51, 50, 49, 48, 47, 40, 39, 38, 37, 36, 35, 31, 30, 29, 23, 22, 21, 20, 19, 18, 16, 15, 4, 3, 2, 1]) (by decide) zs_703 (by decide) rfl zg_703_68 (by simp [zPu]) (by simp [zPu]) (fun c9 hc9 => by simp [zPu, hc9]) zq1318 rfl ⟨rfl, hin, rfl⟩ (fun _ => ⟨rfl, rfl⟩) dX12_init_305 (fun _ _ Z => ?_)
  refine lv_aload_n hx hb dX12_init_308 rfl (lv_at hl 0 rfl) ?_
  refine lv_bipush (v := 57) hx hb dX12_init_309 (by decide) ?_
  refine zk_newa F Z hz0 rfl (ty := 0) (atype := .int) (N := 57) zs_737 (by decide) zq123 (by decide) rfl (Nat.le_of_ble_eq_true rfl) (Nat.le_of_ble_eq_true rfl) (Nat.le_of_ble_eq_true rfl) dX12_init_311 (fun _ Z => ?_)
  have Z : zhc D A0 σ150 (zPu P 703 (some [68, 65, 64, 63, 61, 60, 56, 55, 54, 51, 50, 49, 48, 47, 40, 39, 38, 37, 36, 35, 31, 30, 29, 23, 22, 21, 20, 19, 18, 16, 15, 4, 3, 2, 1])) 738 s.heap _ _ := Z
  refine W.widen (k := 34) (n := 4679) (Nat.le_of_ble_eq_true rfl) (Nat.le_of_ble_eq_true rfl) ?_
  refine zk_putR F Z (P1 := (zPu P 703 (some [69, 68, 65, 64, 63, 61, 60, 56, 55, 54, 51, 50, 49, 48, 47, 40, 39, 38, 37, 36, 35, 31, 30, 29, 23, 22, 21, 20, 19, 18, 16, 15, 4, 3, 2, 1]))) zC12 (a := 703) (k := 69) (ks := [68, 65, 64, 63, 61, 60, 56, 55, 54, 51, 50, 49, 48, 47, 40, 39, 38, 37, 36, 35, 31, 30, 29, 23, 22, 21, 20, 19, 18, 16, 15, 4, 3, 2, 1]) (by decide) zs_703 (by decide) rfl zg_703_69 (by simp [zPu]) (by simp [zPu]) (fun c9 hc9 => by simp [zPu, hc9]) zq1319 rfl ⟨rfl, hin, rfl⟩ (fun _ => ⟨rfl, rfl⟩) dX12_init_313 (fun _ _ Z => ?_)
  refine lv_aload_n hx hb dX12_init_316 rfl (lv_at hl 0 rfl) ?_
  refine lv_iconst (v := 5) hx hb dX12_init_317 (by decide) ?_
  refine zk_newa F Z hz0 rfl (ty := 0) (atype := .int) (N := 5) zs_738 (by decide) zq123 (by decide) rfl (Nat.le_of_ble_eq_true rfl) (Nat.le_of_ble_eq_true rfl) (Nat.le_of_ble_eq_true rfl) dX12_init_318 (fun _ Z => ?_)
  have Z : zhc D A0 σ150 (zPu P 703 (some [69, 68, 65, 64, 63, 61, 60, 56, 55, 54, 51, 50, 49, 48, 47, 40, 39, 38, 37, 36, 35, 31, 30, 29, 23, 22, 21, 20, 19, 18, 16, 15, 4, 3, 2, 1])) 739 s.heap _ _ := Z
  refine W.widen (k := 35) (n := 4684) (Nat.le_of_ble_eq_true rfl) (Nat.le_of_ble_eq_true rfl) ?_
  refine zk_putR F Z (P1 := (zPu P 703 (some [70, 69, 68, 65, 64, 63, 61, 60, 56, 55, 54, 51, 50, 49, 48, 47, 40, 39, 38, 37, 36, 35, 31, 30, 29, 23, 22, 21, 20, 19, 18, 16, 15, 4, 3, 2, 1]))) zC12 (a := 703) (k := 70) (ks := [69, 68, 65, 64, 63, 61, 60, 56, 55, 54, 51, 50, 49, 48, 47, 40, 39, 38, 37, 36, 35, 31, 30, 29, 23, 22, 21, 20, 19, 18, 16, 15, 4, 3, 2, 1]) (by decide) zs_703 (by decide) rfl zg_703_70 (by simp [zPu]) (by simp [zPu]) (fun c9 hc9 => by simp [zPu, hc9]) zq1320 rfl ⟨rfl, hin, rfl⟩ (fun _ => ⟨rfl, rfl⟩) dX12_init_320 (fun _ _ Z => ?_)
  have Z : zhc D A0 σ150 P 739 s.heap _ _ := zhc_drop (a := 703) Z (by decide) zPu_s hPb (fun c9 hc9 => (zPu_n hc9).symm) ⟨by rw [show zs 703 = _ from zs_703]; decide +kernel, fun h9 => absurd h9 (by rw [show zs 703 = _ from zs_703]; decide)⟩
  exact ze_vm F Z.1 hr hlocks (Nat.le_of_ble_eq_true rfl) (Nat.le_of_ble_eq_true rfl) (by rw [eσ150]; rw [eσ146]; rw [eσ142]; rw [eσ138]; rw [eσ134]; rw [eσ43]) rfl dX12_init_323
