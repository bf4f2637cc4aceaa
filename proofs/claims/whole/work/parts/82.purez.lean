/-! ===== glut ===== -/
def fui (g : Nat → Int32) : Nat → Nat
  | 0 => 0
  | k + 1 => if g k ≤ g (fui g k) then fui g k else k
theorem fui_lt {g : Nat → Int32} : ∀ {k : Nat}, fui g (k + 1) < k + 1 := by
  intro k
  induction k with
  | zero => unfold fui; split <;> (try unfold fui) <;> omega
  | succ k ih => rw [fui]; split <;> omega
theorem c_fullest {σ : Mm} {n : Nat} {g : Nat → Int32} (hn : n ≤ 5) (h0 : 0 < n) (h3 : σ 3 0 = nI n) (hg : ∀ k, k < n → σ 70 k = g k) : Ok (zfX10_fullest σ) (fun r => r = nI (fui g n)) := by
  unfold zfX10_fullest
  refine ok_lg (fun K hK => ?_)
  have h1 : fui g 1 = 0 := by have : fui g 1 < 1 := fui_lt (g := g) (k := 0); omega
  refine ok_up (F := fun fu (x : Int32 × Int32) => zfX10_fullest_L4 σ K fu x.1 x.2) n (fun k x => 1 ≤ k ∧ x.1 = nI (fui g k) ∧ x.2 = nI k) ?_ ?_ 1 NF (0, 1) ⟨Nat.le_refl _, by rw [h1]; rfl, rfl⟩ (by omega) (by unfold NF; omega)
  · rintro k fu ⟨a, y⟩ hk ⟨h1, ha, hy⟩ hn2
    have ha : a = nI (fui g k) := ha
    have hy : y = nI k := hy
    have h1 : 1 ≤ k := h1
    subst ha
    subst hy
    obtain ⟨k2, rfl⟩ : ∃ k2, k = k2 + 1 := ⟨k - 1, by omega⟩
    have hf := fui_lt (g := g) (k := k2)
    show Ok (zfX10_fullest_L4 σ K (fu + 1) (nI (fui g (k2 + 1))) (nI (k2 + 1))) _
    unfold zfX10_fullest_L4
    rw [if_neg (by rw [h3, n_le (by omega) (by omega)]; omega), ck_t ((n_in (by omega)).mpr (by omega)), ck_t ((n_in (by omega)).mpr (by omega))]
    refine ok_lg (fun J hJ => ?_)
    have go : ∀ v, fui g (k2 + 1 + 1) = v → Ok (J (nI v)) (fun r => r = nI (fui g n)) := fun v hv => by
      simp only [hJ]
      refine ok_lg (fun y2 ey => ?_)
      rw [show nI (k2 + 1) + 1 = nI (k2 + 1 + 1) from n_add _ 1] at ey
      exact hn2 (nI v, y2) ⟨by omega, by dsimp only; rw [hv], ey⟩
    rw [n_ix (by omega), n_ix (by omega), hg (k2 + 1) hk, hg _ (by omega)]
    by_cases c : g (k2 + 1) ≤ g (fui g (k2 + 1))
    · rw [if_pos c]; exact go _ (by rw [fui, if_pos c])
    · rw [if_neg c]; exact go _ (by rw [fui, if_neg c])
  · rintro fu ⟨a, y⟩ ⟨h1, ha, hy⟩
    have ha : a = nI (fui g n) := ha
    have hy : y = nI n := hy
    subst ha
    subst hy
    show Ok (zfX10_fullest_L4 σ K (fu + 1) (nI (fui g n)) (nI n)) _
    unfold zfX10_fullest_L4
    rw [if_pos (by rw [h3]; exact Int32.le_refl _), hK, ok_s]
theorem r_fullest {φ : Mm} {n : Nat} {g : Nat → Int32} {K : Int32 → Mm → Option (Int32 × Mm)} {Q : Int32 × Mm → Prop} (hn : n ≤ 5) (h0 : 0 < n) (h3 : φ 703 24 = nI n) (hg : ∀ k, k < n → φ 714 k = g k) (hK : Ok (K (nI (fui g n)) φ) Q) : Ok (zfX12_glut_L125 K NF 0 1 φ) Q := by
  have h1 : fui g 1 = 0 := by have : fui g 1 < 1 := fui_lt (g := g) (k := 0); omega
  refine ok_up (F := fun fu (x : Int32 × Int32) => zfX12_glut_L125 K fu x.1 x.2 φ) n (fun k x => 1 ≤ k ∧ x.1 = nI (fui g k) ∧ x.2 = nI k) ?_ ?_ 1 NF (0, 1) ⟨Nat.le_refl _, by rw [h1]; rfl, rfl⟩ (by omega) (by unfold NF; omega)
  · rintro k fu ⟨a, y⟩ hk ⟨h1, ha, hy⟩ hn2
    have ha : a = nI (fui g k) := ha
    have hy : y = nI k := hy
    have h1 : 1 ≤ k := h1
    subst ha
    subst hy
    obtain ⟨k2, rfl⟩ : ∃ k2, k = k2 + 1 := ⟨k - 1, by omega⟩
    have hf := fui_lt (g := g) (k := k2)
    show Ok (zfX12_glut_L125 K (fu + 1) (nI (fui g (k2 + 1))) (nI (k2 + 1)) φ) _
    unfold zfX12_glut_L125
    rw [if_neg (by rw [h3, n_le (by omega) (by omega)]; omega), ck_t ((n_in (by omega)).mpr (by omega)), ck_t ((n_in (by omega)).mpr (by omega))]
    refine ok_lg (fun J hJ => ?_)
    have go : ∀ v, fui g (k2 + 1 + 1) = v → Ok (J (nI v) φ) Q := fun v hv => by
      simp only [hJ]
      refine ok_lg (fun y2 ey => ?_)
      rw [show nI (k2 + 1) + 1 = nI (k2 + 1 + 1) from n_add _ 1] at ey
      exact hn2 (nI v, y2) ⟨by omega, by dsimp only; rw [hv], ey⟩
    rw [n_ix (by omega), n_ix (by omega), hg (k2 + 1) hk, hg _ (by omega)]
    by_cases c : g (k2 + 1) ≤ g (fui g (k2 + 1))
    · rw [if_pos c]; exact go _ (by rw [fui, if_pos c])
    · rw [if_neg c]; exact go _ (by rw [fui, if_neg c])
  · rintro fu ⟨a, y⟩ ⟨h1, ha, hy⟩
    have ha : a = nI (fui g n) := ha
    have hy : y = nI n := hy
    subst ha
    subst hy
    show Ok (zfX12_glut_L125 K (fu + 1) (nI (fui g n)) (nI n) φ) _
    unfold zfX12_glut_L125
    rw [if_pos (by rw [h3]; exact Int32.le_refl _)]
    exact hK
theorem r_glut51 {φ : Mm} {n : Nat} {g b : Nat → Nat} {K : Int32 → Mm → Option (Int32 × Mm)} {Q : Int32 × Mm → Prop} (hn : n ≤ 5) (h3 : φ 703 24 = nI n) (hg : ∀ k, k < n → φ 714 (6 + k) = nI (g k) ∧ g k ≤ 99 ∧ φ 708 (3 * k) = nI (b k) ∧ b k ≤ 99) (hK : Ok (K (if anyG g b n = true then 1 else 0) φ) Q) : Ok (zfX12_glut_L51 K NF 0 0 φ) Q := by
  refine ok_up (F := fun fu (x : Int32 × Int32) => zfX12_glut_L51 K fu x.1 x.2 φ) n (fun k x => x.1 = (if anyG g b k = true then 1 else 0) ∧ x.2 = nI k) ?_ ?_ 0 NF (0, 0) ⟨rfl, rfl⟩ (by omega) (by unfold NF; omega)
  · rintro k fu ⟨a, y⟩ hk ⟨ha, hy⟩ hn2
    have ha : a = (if anyG g b k = true then 1 else 0) := ha
    have hy : y = nI k := hy
    subst ha
    subst hy
    show Ok (zfX12_glut_L51 K (fu + 1) (if anyG g b k = true then 1 else 0) (nI k) φ) _
    unfold zfX12_glut_L51
    rw [if_neg (by rw [h3, n_le (by omega) (by omega)]; omega)]
    refine ok_lg (fun J hJ => ?_)
    refine ok_lg (fun J2 hJ2 => ?_)
    have go : ∀ v, (if anyG g b (k + 1) = true then (1 : Int32) else 0) = v → Ok (J v φ) Q := fun v hv => by
      simp only [hJ]
      refine ok_lg (fun y2 ey => ?_)
      rw [show nI k + 1 = nI (k + 1) from n_add _ 1] at ey
      exact hn2 (v, y2) ⟨hv.symm, ey⟩
    by_cases c : anyG g b k = true
    · rw [if_pos c, if_neg (by decide)]
      simp only [hJ2]
      exact go 1 (by rw [anyG, c, Bool.true_or, if_pos rfl])
    · have c' : anyG g b k = false := by cases h : anyG g b k with
        | true => exact absurd h c
        | false => rfl
      rw [if_neg c, if_pos rfl]
      rw [show (6 : Int32) + nI k = nI (6 + k) from n_add 6 k, show (3 : Int32) * nI k = nI (3 * k) from n_mul 3 k, ck_t ((n_in (by omega)).mpr (by omega)), ck_t ((n_in (by omega)).mpr (by omega)), n_ix (by omega), n_ix (by omega), (hg k hk).1, (hg k hk).2.2.1]
      have hle := n_le (a := g k) (b := b k) (by have := (hg k hk).2.1; omega) (by have := (hg k hk).2.2.2; omega)
      by_cases c2 : g k ≤ b k
      · rw [if_pos (hle.mpr c2)]
        exact go 0 (by rw [anyG, c', Bool.false_or, decide_eq_false (by omega), if_neg (by decide)])
      · rw [if_neg (fun h => c2 (hle.mp h))]
        simp only [hJ2]
        exact go 1 (by rw [anyG, c', Bool.false_or, decide_eq_true (by omega), if_pos rfl])
  · rintro fu ⟨a, y⟩ ⟨ha, hy⟩
    have ha : a = (if anyG g b n = true then 1 else 0) := ha
    have hy : y = nI n := hy
    subst ha
    subst hy
    show Ok (zfX12_glut_L51 K (fu + 1) (if anyG g b n = true then 1 else 0) (nI n) φ) _
    unfold zfX12_glut_L51
    rw [if_pos (by rw [h3]; exact Int32.le_refl _)]
    exact hK
theorem nDay_10 {P : Pm} {s : Mm} {N : Nat → Int32} : nDay P s N 10 = N 10 + (if anyG (dgl P 0 s) (pbr P) (pn P) = true then 1 else 0) := by
  unfold nDay
  rw [upd_n (by omega)]
  unfold nG
  by_cases c : anyG (dgl P 0 s) (pbr P) (pn P) = true
  · rw [if_pos c, if_pos c, upd_s, nC_k (by omega) (by omega), nB_o (by omega)]
  · rw [if_neg c, if_neg c, nC_k (by omega) (by omega), nB_o (by omega)]; grind
theorem r_glut34 {P : Pm} {rc B d : Nat} {s τ0 : Mm} {R : Nat → Int32} {K : Int32 → Mm → Option (Int32 × Mm)} {Q : Int32 × Mm → Prop} (h : Kp P rc B s τ0) (hA : RRs P τ0 s) (hd : d ≤ 30)
    (hK : ∀ τ, FrT τ0 τ → RRs P τ (dys P s d) → Ok (K (nts P s (n0 (s 0 0) R) d 10) τ) Q) : Ok (zfX12_glut_L34 (nI d) K NF 0 0 τ0) Q := by
  refine ok_up (F := fun fu (x : Int32 × Int32 × Mm) => zfX12_glut_L34 (nI d) K fu x.1 x.2.1 x.2.2) d (fun j x => x.1 = nts P s (n0 (s 0 0) R) j 10 ∧ x.2.1 = nI j ∧ FrT τ0 x.2.2 ∧ RRs P x.2.2 (dys P s j)) ?_ ?_ 0 NF (0, 0, τ0) ⟨rfl, rfl, FrT.refl, hA⟩ (by omega) (by unfold NF; omega)
  · rintro j fu ⟨a, y, τ⟩ hj ⟨ha, hy, f, hR⟩ hk
    have ha : a = nts P s (n0 (s 0 0) R) j 10 := ha
    have hy : y = nI j := hy
    subst ha
    subst hy
    have f : FrT τ0 τ := f
    have hR : RRs P τ (dys P s j) := hR
    show Ok (zfX12_glut_L34 (nI d) K (fu + 1) (nts P s (n0 (s 0 0) R) j 10) (nI j) τ) Q
    unfold zfX12_glut_L34
    rw [if_neg (by rw [n_le (by omega) (by omega)]; omega), ok_bd]
    refine ok_mono (r_goesj h f hR (by omega)) (fun φ hφ => ?_)
    obtain ⟨g1, g2, g3, g4⟩ := hφ
    refine ok_lg (fun J hJ => ?_)
    have hs := (dys_wf h.1.1 h.2.1 h.2.2.1 h.2.2.2.1 j (by omega)).1
    have hpn := h.1.1.1
    refine r_glut51 (g := dgl P 0 (dys P s j)) (b := pbr P) hpn (by rw [g2.1 24 (by omega)]; exact h.2.2.2.2.2.2.1.1) (fun k hk => ⟨?_, ?_, ?_, ?_⟩) ?_
    · rw [(g1.1 k hk).2.1]
      show (if k < pN P then nI (dgl P 0 (dys P s j) k) else _) = _
      rw [if_pos (by have := h.1.2.2.1; omega)]
    · have := dG_le (P := P) hs k
      unfold dgl; omega
    · rw [g2.c (by omega)]
      exact (h.2.2.2.2.2.2.1.2.2.2.2.2.1 k hk).1
    · have := (h.1.1.2.2.2.2.1 k (by have := h.1.2.2.1; omega)).1; omega
    · simp only [hJ]
      refine ok_lg (fun J2 hJ2 => ?_)
      have go : ∀ v, nts P s (n0 (s 0 0) R) (j + 1) 10 = nts P s (n0 (s 0 0) R) j 10 + v → Ok (J2 v φ) Q := fun v hv => by
        simp only [hJ2]
        refine ok_lg (fun a2 ea => ?_)
        refine ok_lg (fun y2 ey => ?_)
        rw [show nI j + 1 = nI (j + 1) from n_add _ 1] at ey
        exact hk (a2, y2, φ) ⟨by dsimp only; rw [ea, hv], ey, g2, g1⟩
      have e10 : nts P s (n0 (s 0 0) R) (j + 1) 10 = nts P s (n0 (s 0 0) R) j 10 + (if anyG (dgl P 0 (dys P s j)) (pbr P) (pn P) = true then 1 else 0) := nDay_10
      by_cases c : anyG (dgl P 0 (dys P s j)) (pbr P) (pn P) = true
      · rw [if_pos c] at e10
        rw [if_pos c, if_neg (by decide)]; exact go 1 e10
      · rw [if_neg c] at e10
        rw [if_neg c, if_pos rfl]; exact go 0 e10
  · rintro fu ⟨a, y, τ⟩ ⟨ha, hy, f, hR⟩
    have ha : a = nts P s (n0 (s 0 0) R) d 10 := ha
    have hy : y = nI d := hy
    subst ha
    subst hy
    show Ok (zfX12_glut_L34 (nI d) K (fu + 1) (nts P s (n0 (s 0 0) R) d 10) (nI d) τ) Q
    unfold zfX12_glut_L34
    rw [if_pos (Int32.le_refl _)]
    exact hK τ f hR
theorem q_glut {B : Nat} (hB : B < 900000) (x y : Int32) : Qy B (zfX11_glut x y) (zfX12_glut x y) := by
  refine q_gate1 x y (fun _ => rfl) (fun _ => rfl) (fun P rc s σ d hI h0 d1 d2 hx hy => ?_)
  subst hx
  refine cq_walk hB hI h0 d2 (fun τ t1 t2 t3 => ?_)
  have yes : ∀ v : Int32, v = (if y = 0 then nts P s (n0 (s 0 0) (σ 68)) d 10 else nI (fui (dys P s d 1) (pn P))) → ∀ υ, Ivx B P rc s υ → Ok (bd (zfX12_keep υ) (fun σ26 => lt (fun (x3_119 : Int32) (σ119 : Mm) => lt (fun (x4_166 : Int32) (σ166 : Mm) => bd (zfX12_putBack σ166) (fun σ167 => if y = 0 then (some (x3_119, σ167)) else (some (x4_166, σ167)))) (fun k166 => zfX12_glut_L125 k166 NF 0 1 σ119)) (fun k119 => zfX12_glut_L34 (nI d) k119 NF 0 0 σ26))) (fun b => b.1 = v ∧ FrS υ b.2) := fun v hv υ hυ => by
    refine rq_kept hB hυ h0 (fun τ0 k1 k2 k3 k4 k5 => ?_)
    refine ok_lg (fun K hK => ?_)
    refine r_glut34 (R := σ 68) k1 k2 d2 (fun τ1 f hR => ?_)
    simp only [hK]
    refine ok_lg (fun K2 hK2 => ?_)
    refine r_fullest (g := dys P s d 1) hI.n.1 h0 (by rw [f.1 24 (by omega)]; exact k1.2.2.2.2.2.2.1.1) (fun k hk => (hR.1 k hk).1) ?_
    simp only [hK2]
    rw [ok_bd]
    refine ok_mono (rq_back k4 k3 f) (fun φ hφ => ?_)
    rw [hv]
    by_cases c2 : y = 0
    · rw [if_pos c2, if_pos c2, ok_s]; exact ⟨rfl, hφ.1⟩
    · rw [if_neg c2, if_neg c2, ok_s]; exact ⟨rfl, hφ.1⟩
  by_cases c : y = 0
  · rw [if_pos c, ok_s]
    exact ⟨t3, yes _ (by rw [if_pos c, t2])⟩
  · rw [if_neg c, ok_bd]
    refine ok_mono (c_fullest (g := dys P s d 1) hI.n.1 h0 (by rw [t3.1 3 (by omega)]; exact hI.n.2.1) (fun k hk => t1.2.2.2.1 1 k (by omega) (by have := hI.n.1; omega))) (fun r hr => ?_)
    rw [ok_s]
    exact ⟨t3, yes _ (by rw [if_neg c]; exact hr)⟩
