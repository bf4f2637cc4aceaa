/-! ===== up ===== -/
theorem up_F {B : Nat} {x y : Int32} {P : Pm} {rc : Nat} {s σ : Mm} (hI : Ivx B P rc s σ) (hA : ¬ ((0 < pn P ∧ Rok 1 30 x) ∧ Rok 0 20 y)) : zfX11_up x y σ = some (-1, σ) := by
  unfold zfX11_up
  refine lt_i (fun J hJ => ?_)
  have fin : J σ = some (-1, σ) := by rw [hJ]
  by_cases c0 : zfX11_noDays x σ = 0
  case neg => rw [if_neg c0]; exact fin
  case pos =>
  rw [if_pos c0]
  by_cases c1 : zfX11_noPrice y = 0
  case neg => rw [if_neg c1]; exact fin
  case pos =>
  rw [if_pos c1]
  exact absurd ⟨((g_days hI).1.mp c0), (g_price.mp c1)⟩ hA
theorem up_G {B : Nat} {x y : Int32} {P : Pm} {rc : Nat} {s σ : Mm} (hI : Ivx B P rc s (zst σ 703 0 0)) (hA : ¬ ((0 < pn P ∧ Rok 1 30 x) ∧ Rok 0 20 y)) : zfX12_up x y σ = some (-1, zst σ 703 0 0) := by
  unfold zfX12_up
  refine lt_i (fun υ hυe => ?_)
  refine lt_i (fun J hJ => ?_)
  rw [← hυe] at hI ⊢
  have hυ := hI
  have fin : J υ = some (-1, υ) := by rw [hJ]
  by_cases c0 : zfX12_isReady x υ = 0
  case pos => rw [if_pos c0]; exact fin
  case neg =>
  rw [if_neg c0]
  by_cases c1 : zfX12_isIn y.toInt64 0 20 = 0
  case pos => rw [if_pos c1]; exact fin
  case neg =>
  rw [if_neg c1]
  exact absurd ⟨(Classical.byContradiction (fun h9 => c0 ((g_days hυ).2.mpr h9))), (Classical.byContradiction (fun h9 => c1 (g_in20.mpr h9)))⟩ hA
theorem shl_n {n : Nat} (hn : n ≤ 5) : (1 : Int32) <<< (nI n &&& 31) = nI (2 ^ n) := by
  have : n = 0 ∨ n = 1 ∨ n = 2 ∨ n = 3 ∨ n = 4 ∨ n = 5 := by omega
  rcases this with rfl | rfl | rfl | rfl | rfl | rfl <;> decide
theorem pow5 {n : Nat} (hn : n ≤ 5) : 2 ^ n ≤ 32 := by
  have : n = 0 ∨ n = 1 ∨ n = 2 ∨ n = 3 ∨ n = 4 ∨ n = 5 := by omega
  rcases this with rfl | rfl | rfl | rfl | rfl | rfl <;> decide
theorem hob_n {m k : Nat} (hk : k < 32) : hob (nI m) k ↔ m.testBit k = true := by
  rw [hob_iff hk]
  show (BitVec.ofNat 32 m).getLsbD k = true ↔ _
  rw [BitVec.getLsbD_ofNat]
  simp [hk]
theorem set_no {n m : Nat} (hm : m < 2 ^ n) : ∀ k, n ≤ k → k < 6 → ¬ hob (nI m) k := by
  intro k h1 h2 h
  rw [hob_n (by omega)] at h
  have : m < 2 ^ k := Nat.lt_of_lt_of_le hm (Nat.pow_le_pow_right (by omega) h1)
  rw [Nat.testBit_lt_two_pow this] at h
  exact absurd h (by decide)
/-- the class's walk with other holders, begun anew -/
theorem cq_vwalk0 {B : Nat} {P : Pm} {rc d : Nat} {s σ : Mm} {v : Int32} {β : Type} {K : Mm → Option β} {Q : β → Prop} (hB : B < 900000) (hI : Ivx B P rc s σ) (h0 : 0 < pn P) (hd : d ≤ 30)
    (hK : ∀ υ, AgS 69 υ (dys P (zst s 0 3 v) d) → FrS σ υ → Ok (K υ) Q) : Ok (bd (zfX10_begin σ) (fun σ64 => lt (zst σ64 69 3 v) (fun σ76 => bd (zfX10_pass (nI d) σ76) K))) Q := by
  obtain ⟨h1, h2, h3, ⟨r1, r2, r3, r4, r5⟩, ⟨hS, s4⟩, h6⟩ := id hI
  rw [ok_bd]
  refine ok_mono (cq_begin h2 h3 r4 hS h0) (fun τ hτ => ?_)
  obtain ⟨b1, b2, b3, b4, b5⟩ := hτ
  refine ok_lg (fun τ1 e1 => ?_)
  rw [e1]
  exact cq_vwalk hB hI hd b1 b3 b4 b5 (fun υ g1 _ g3 => hK υ g1 g3)
noncomputable def upp (P : Pm) (s : Mm) (d : Nat) (y : Int32) : Nat → Int32
  | 0 => -1
  | m + 1 => if upp P s d y m ≠ -1 ∧ ¬ zfJ6_bitCount_0f7a4 (nI m) < zfJ6_bitCount_0f7a4 (upp P s d y m) then upp P s d y m else if dys P (zst s 0 3 (nI m)) d 0 0 < y then upp P s d y m else nI m
theorem c_up {B : Nat} {P : Pm} {rc d : Nat} {y : Int32} {s σ : Mm} {K : Int32 → Mm → Option (Int32 × Mm)} {Q : Int32 × Mm → Prop} (hB : B < 900000) (hI : Ivx B P rc s σ) (h0 : 0 < pn P) (hd : d ≤ 30)
    (hK : ∀ τ, FrS σ τ → Ok (K (upp P s d y (2 ^ pn P)) τ) Q) : Ok (zfX11_up_L33 (nI (2 ^ pn P)) K (nI d) y NF (-1) 0 σ) Q := by
  have hn := hI.n
  have hp := pow5 hn.1
  generalize hN : 2 ^ pn P = N at hK hp ⊢
  refine ok_up (F := fun fu (x : Int32 × Int32 × Mm) => zfX11_up_L33 (nI N) K (nI d) y fu x.1 x.2.1 x.2.2) N (fun j x => x.1 = upp P s d y j ∧ x.2.1 = nI j ∧ FrS σ x.2.2) ?_ ?_ 0 NF (-1, 0, σ) ⟨rfl, rfl, FrS.refl⟩ (by omega) (by unfold NF; omega)
  · rintro j fu ⟨a, z, τ⟩ hj ⟨ha, hz, hf⟩ hk
    have ha : a = upp P s d y j := ha
    have hz : z = nI j := hz
    subst ha hz
    have hf : FrS σ τ := hf
    show Ok (zfX11_up_L33 (nI N) K (nI d) y (fu + 1) (upp P s d y j) (nI j) τ) Q
    unfold zfX11_up_L33
    rw [if_neg (by rw [n_le (by omega) (by omega)]; omega)]
    refine ok_lg (fun J hJ => ?_)
    have go : ∀ (p : Int32) (φ : Mm), FrS σ φ → upp P s d y (j + 1) = p → Ok (J p φ) Q := fun p φ h1 h2 => by
      simp only [hJ]
      refine ok_lg (fun y2 ey => ?_)
      rw [show nI j + 1 = nI (j + 1) from n_add _ 1] at ey
      exact hk (p, y2, φ) ⟨h2.symm, ey, h1⟩
    have step : upp P s d y (j + 1) = if upp P s d y j ≠ -1 ∧ ¬ zfJ6_bitCount_0f7a4 (nI j) < zfJ6_bitCount_0f7a4 (upp P s d y j) then upp P s d y j else if dys P (zst s 0 3 (nI j)) d 0 0 < y then upp P s d y j else nI j := rfl
    refine ok_lg (fun J2 hJ2 => ?_)
    have try_ : ¬ (upp P s d y j ≠ -1 ∧ ¬ zfJ6_bitCount_0f7a4 (nI j) < zfJ6_bitCount_0f7a4 (upp P s d y j)) → Ok (J2 τ) Q := fun h => by
      simp only [hJ2]
      refine cq_vwalk0 hB (hI.fr hf) h0 hd (fun υ a1 a2 => ?_)
      rw [a1.1 0 (by omega)]
      by_cases c : dys P (zst s 0 3 (nI j)) d 0 0 < y
      · rw [if_pos c]; exact go _ υ (hf.trans a2) (by rw [step, if_neg h, if_pos c])
      · rw [if_neg c]; exact go _ υ (hf.trans a2) (by rw [step, if_neg h, if_neg c])
    by_cases c1 : upp P s d y j = -1
    · rw [if_pos c1]; exact try_ (fun h => h.1 c1)
    · rw [if_neg c1]
      by_cases c2 : zfJ6_bitCount_0f7a4 (nI j) < zfJ6_bitCount_0f7a4 (upp P s d y j)
      · rw [if_pos c2]; exact try_ (fun h => h.2 c2)
      · rw [if_neg c2]; exact go _ τ hf (by rw [step, if_pos ⟨c1, c2⟩])
  · rintro fu ⟨a, z, τ⟩ ⟨ha, hz, hf⟩
    have ha : a = upp P s d y N := ha
    have hz : z = nI N := hz
    subst ha hz
    have hf : FrS σ τ := hf
    show Ok (zfX11_up_L33 (nI N) K (nI d) y (fu + 1) _ (nI N) τ) Q
    unfold zfX11_up_L33
    rw [if_pos (Int32.le_refl _)]
    exact hK τ hf
theorem r_up {B : Nat} {P : Pm} {rc d : Nat} {y : Int32} {s υ τ : Mm} {K : Int32 → Mm → Option (Int32 × Mm)} {Q : Int32 × Mm → Prop} (hI : Ivx B P rc s υ) (hs : Ks P rc B s) (hkb : Kb P rc s υ τ) (hd : d ≤ 30)
    (hK : ∀ φ, Kb P rc s υ φ → Ok (K (upp P s d y (2 ^ pn P)) φ) Q) : Ok (zfX12_up_L36 K (nI d) y NF (-1) 0 τ) Q := by
  have hn := hI.n
  have hm := hI.2.1.1.2.1
  have hp := pow5 hn.1
  have hsl := shl_n hn.1
  generalize hN : 2 ^ pn P = N at hK hp hsl
  refine ok_up (F := fun fu (x : Int32 × Int32 × Mm) => zfX12_up_L36 K (nI d) y fu x.1 x.2.1 x.2.2) N (fun j x => x.1 = upp P s d y j ∧ x.2.1 = nI j ∧ Kb P rc s υ x.2.2) ?_ ?_ 0 NF (-1, 0, τ) ⟨rfl, rfl, hkb⟩ (by omega) (by unfold NF; omega)
  · rintro j fu ⟨a, z, τ⟩ hj ⟨ha, hz, hf⟩ hk
    have ha : a = upp P s d y j := ha
    have hz : z = nI j := hz
    subst ha hz
    have hf : Kb P rc s υ τ := hf
    show Ok (zfX12_up_L36 K (nI d) y (fu + 1) (upp P s d y j) (nI j) τ) Q
    unfold zfX12_up_L36
    rw [hf.2.2.2.1.1, hsl, if_neg (by rw [n_le (by omega) (by omega)]; omega)]
    refine ok_lg (fun J hJ => ?_)
    have go : ∀ (p : Int32) (φ : Mm), Kb P rc s υ φ → upp P s d y (j + 1) = p → Ok (J p φ) Q := fun p φ h1 h2 => by
      simp only [hJ]
      refine ok_lg (fun y2 ey => ?_)
      rw [show nI j + 1 = nI (j + 1) from n_add _ 1] at ey
      exact hk (p, y2, φ) ⟨h2.symm, ey, h1⟩
    have step : upp P s d y (j + 1) = if upp P s d y j ≠ -1 ∧ ¬ zfJ6_bitCount_0f7a4 (nI j) < zfJ6_bitCount_0f7a4 (upp P s d y j) then upp P s d y j else if dys P (zst s 0 3 (nI j)) d 0 0 < y then upp P s d y j else nI j := rfl
    refine ok_lg (fun J2 hJ2 => ?_)
    have try_ : ¬ (upp P s d y j ≠ -1 ∧ ¬ zfJ6_bitCount_0f7a4 (nI j) < zfJ6_bitCount_0f7a4 (upp P s d y j)) → Ok (J2 τ) Q := fun h => by
      simp only [hJ2]
      refine ok_lg (fun τ1 e1 => ?_)
      rw [e1, ok_bd]
      refine ok_mono (hf.tries hs (set_no (by rw [hN]; exact hj)) (show d ≤ 60 by omega)) (fun φ hφ => ?_)
      obtain ⟨b1, b2, b3⟩ := hφ
      rw [ok_bd]
      refine ok_mono (hf.back hn.1 hm b3) (fun ψ hψ => ?_)
      obtain ⟨c1, c2, c3⟩ := hψ
      rw [ck_t ((n_in (by omega)).mpr (by omega)), n_ix (by omega), c3 725 (by omega), b2 d (by omega)]
      by_cases c : dys P (zst s 0 3 (nI j)) d 0 0 < y
      · rw [if_pos c]; exact go _ ψ c1 (by rw [step, if_neg h, if_pos c])
      · rw [if_neg c]; exact go _ ψ c1 (by rw [step, if_neg h, if_neg c])
    by_cases c1 : upp P s d y j = -1
    · rw [if_pos c1]; exact try_ (fun h => h.1 c1)
    · rw [if_neg c1]
      by_cases c2 : zfJ6_bitCount_0f7a4 (nI j) < zfJ6_bitCount_0f7a4 (upp P s d y j)
      · rw [if_pos c2]; exact try_ (fun h => h.2 c2)
      · rw [if_neg c2]; exact go _ τ hf (by rw [step, if_pos ⟨c1, c2⟩])
  · rintro fu ⟨a, z, τ⟩ ⟨ha, hz, hf⟩
    have ha : a = upp P s d y N := ha
    have hz : z = nI N := hz
    subst ha hz
    have hf : Kb P rc s υ τ := hf
    show Ok (zfX12_up_L36 K (nI d) y (fu + 1) _ (nI N) τ) Q
    unfold zfX12_up_L36
    rw [hf.2.2.2.1.1, hsl, if_pos (Int32.le_refl _)]
    exact hK τ hf
theorem q_up {B : Nat} (hB : B < 900000) (x y : Int32) : Qy B (zfX11_up x y) (zfX12_up x y) := by
  refine q_gen (-1) (fun P => (0 < pn P ∧ Rok 1 30 x) ∧ Rok 0 20 y) (fun P rc s σ hI hA => up_F hI hA) (fun P rc s σ hI hA => up_G hI hA) (fun P rc s σ hI hA => ?_)
  obtain ⟨hA1, hz⟩ := hA
  obtain ⟨h0, d, d1, d2, d3⟩ := id hA1
  have hn := hI.n
  unfold zfX11_up
  refine ok_lg (fun J _ => ?_)
  rw [if_pos ((g_days hI).1.mpr hA1), if_pos (g_price.mpr hz), hn.2.1, shl_n hn.1]
  subst d3
  refine ok_lg (fun n2 hn2 => ?_)
  subst hn2
  refine ok_lg (fun K hK => ?_)
  refine c_up hB hI h0 d2 (fun τ fr => ?_)
  simp only [hK]
  rw [ok_s]
  refine ⟨fr, fun υ hυ e => ?_⟩
  dsimp only at e ⊢
  unfold zfX12_up
  refine ok_lg (fun υ' e' => ?_)
  have : υ' = υ := e'.trans e.symm
  subst this
  refine ok_lg (fun J2 _ => ?_)
  rw [if_neg (fun c => (g_days hυ).2.mp c hA1), if_neg (fun c => g_in20.mp c hz)]
  refine rq_keptb hB hυ h0 (fun τ1 k1 k2 k3 => ?_)
  refine ok_lg (fun K2 hK2 => ?_)
  refine r_up hυ (hυ.ks hB) k1 d2 (fun φ hkb => ?_)
  simp only [hK2]
  rw [ok_s]
  exact ⟨rfl, hkb.1⟩
