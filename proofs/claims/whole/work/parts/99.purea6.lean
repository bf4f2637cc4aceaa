/-! ===== text: the reference opens a market ===== -/
theorem r_tx133 {K : Mm → Option (Int32 × Mm)} {Q : Int32 × Mm → Prop} {σ : Mm} (hK : ∀ τ, (∀ j, j < 15 → τ 708 j = σ 711 j) → (∀ c, c ≠ 708 → τ c = σ c) → Ok (K τ) Q) : Ok (zfX12_text_L133 K NF 0 σ) Q := by
  refine ok_up (F := fun fu (s : Int32 × Mm) => zfX12_text_L133 K fu s.1 s.2) 15 (fun i s => s.1 = nI i ∧ (∀ j, j < i → s.2 708 j = σ 711 j) ∧ (∀ c, c ≠ 708 → s.2 c = σ c)) ?_ ?_ 0 NF (0, σ) ⟨rfl, fun j hj => absurd hj (Nat.not_lt_zero j), fun _ _ => rfl⟩ (by omega) (by unfold NF; omega)
  · rintro i fu ⟨y, τ⟩ hi ⟨hy, h1, h2⟩ hk
    have hy : y = nI i := hy
    subst hy
    have h1 : ∀ j, j < i → τ 708 j = σ 711 j := h1
    have h2 : ∀ c, c ≠ 708 → τ c = σ c := h2
    show Ok (zfX12_text_L133 K (fu + 1) (nI i) τ) _
    unfold zfX12_text_L133
    have hin : inb (nI i) 15 := (n_in (by omega)).mpr (by omega)
    rw [if_neg (by rw [show (15 : Int32) = nI 15 from rfl, n_le (by decide) (by omega)]; omega), ck_t hin, ck_t hin, ok_lt, ok_lt, n_ix (by omega), h2 711 (by omega), show nI i + 1 = nI (i + 1) from n_add _ 1]
    refine hk (nI (i + 1), zst τ 708 i (σ 711 i)) ⟨rfl, fun j hj => ?_, fun c hc => by dsimp only; rw [zst_n hc]; exact h2 c hc⟩
    dsimp only
    by_cases e : j = i
    · subst e; rw [zst_v]
    · rw [zst_k e]; exact h1 j (by omega)
  · rintro fu ⟨y, τ⟩ ⟨hy, h1, h2⟩
    have hy : y = nI 15 := hy
    subst hy
    show Ok (zfX12_text_L133 K (fu + 1) (nI 15) τ) _
    unfold zfX12_text_L133
    rw [if_pos (by decide)]
    exact hK τ h1 h2
theorem r_tx159 {K : Mm → Option (Int32 × Mm)} {Q : Int32 × Mm → Prop} {σ : Mm} (hK : ∀ τ, (∀ j, j < 18 → τ 709 j = σ 712 j) → (∀ c, c ≠ 709 → τ c = σ c) → Ok (K τ) Q) : Ok (zfX12_text_L159 K NF 0 σ) Q := by
  refine ok_up (F := fun fu (s : Int32 × Mm) => zfX12_text_L159 K fu s.1 s.2) 18 (fun i s => s.1 = nI i ∧ (∀ j, j < i → s.2 709 j = σ 712 j) ∧ (∀ c, c ≠ 709 → s.2 c = σ c)) ?_ ?_ 0 NF (0, σ) ⟨rfl, fun j hj => absurd hj (Nat.not_lt_zero j), fun _ _ => rfl⟩ (by omega) (by unfold NF; omega)
  · rintro i fu ⟨y, τ⟩ hi ⟨hy, h1, h2⟩ hk
    have hy : y = nI i := hy
    subst hy
    have h1 : ∀ j, j < i → τ 709 j = σ 712 j := h1
    have h2 : ∀ c, c ≠ 709 → τ c = σ c := h2
    show Ok (zfX12_text_L159 K (fu + 1) (nI i) τ) _
    unfold zfX12_text_L159
    have hin : inb (nI i) 18 := (n_in (by omega)).mpr (by omega)
    rw [if_neg (by rw [show (18 : Int32) = nI 18 from rfl, n_le (by decide) (by omega)]; omega), ck_t hin, ck_t hin, ok_lt, ok_lt, n_ix (by omega), h2 712 (by omega), show nI i + 1 = nI (i + 1) from n_add _ 1]
    refine hk (nI (i + 1), zst τ 709 i (σ 712 i)) ⟨rfl, fun j hj => ?_, fun c hc => by dsimp only; rw [zst_n hc]; exact h2 c hc⟩
    dsimp only
    by_cases e : j = i
    · subst e; rw [zst_v]
    · rw [zst_k e]; exact h1 j (by omega)
  · rintro fu ⟨y, τ⟩ ⟨hy, h1, h2⟩
    have hy : y = nI 18 := hy
    subst hy
    show Ok (zfX12_text_L159 K (fu + 1) (nI 18) τ) _
    unfold zfX12_text_L159
    rw [if_pos (by decide)]
    exact hK τ h1 h2
theorem r_tx209 {K : Mm → Option (Int32 × Mm)} {Q : Int32 × Mm → Prop} {σ : Mm} (hK : ∀ τ, (∀ a j, τ a j = if a = 714 ∧ j < 57 then 0 else σ a j) → Ok (K τ) Q) : Ok (zfX12_text_L209 K NF 0 σ) Q := by
  refine ok_up (F := fun fu (s : Int32 × Mm) => zfX12_text_L209 K fu s.1 s.2) 57 (fun i s => s.1 = nI i ∧ ∀ a j, s.2 a j = if a = 714 ∧ j < i then 0 else σ a j) ?_ ?_ 0 NF (0, σ) ⟨rfl, fun a j => by rw [if_neg (by omega)]⟩ (by omega) (by unfold NF; omega)
  · rintro i fu ⟨y, τ⟩ hi ⟨hy, h1⟩ hk
    have hy : y = nI i := hy
    subst hy
    have h1 : ∀ a j, τ a j = if a = 714 ∧ j < i then 0 else σ a j := h1
    show Ok (zfX12_text_L209 K (fu + 1) (nI i) τ) _
    unfold zfX12_text_L209
    rw [if_neg (by rw [show (57 : Int32) = nI 57 from rfl, n_le (by decide) (by omega)]; omega), ck_t ((n_in (by omega)).mpr (by omega))]
    refine ok_lg (fun φ1 e1 => ?_)
    refine ok_lg (fun x ex => ?_)
    rw [show nI i + 1 = nI (i + 1) from n_add _ 1] at ex
    subst ex
    rw [n_ix (by omega)] at e1
    refine hk (nI (i + 1), φ1) ⟨rfl, fun a j => ?_⟩
    dsimp only
    rw [e1, zst_a, h1]
    by_cases c : a = 714 ∧ j = i
    · rw [if_pos c, if_pos (by omega)]
    · rw [if_neg c]
      by_cases c2 : a = 714 ∧ j < i
      · rw [if_pos c2, if_pos (by omega)]
      · rw [if_neg c2, if_neg (by omega)]
  · rintro fu ⟨y, τ⟩ ⟨hy, h1⟩
    have hy : y = nI 57 := hy
    subst hy
    show Ok (zfX12_text_L209 K (fu + 1) (nI 57) τ) _
    unfold zfX12_text_L209
    rw [if_pos (by decide)]
    exact hK τ h1
theorem r_tx230 {K : Mm → Option (Int32 × Mm)} {Q : Int32 × Mm → Prop} {σ : Mm} (hK : ∀ τ, (∀ a j, τ a j = if a = 714 ∧ 18 ≤ j ∧ j < 23 ∨ a = 716 ∧ j < 5 then -1 else σ a j) → Ok (K τ) Q) : Ok (zfX12_text_L230 K NF 0 σ) Q := by
  refine ok_up (F := fun fu (s : Int32 × Mm) => zfX12_text_L230 K fu s.1 s.2) 5 (fun i s => s.1 = nI i ∧ ∀ a j, s.2 a j = if a = 714 ∧ 18 ≤ j ∧ j < 18 + i ∨ a = 716 ∧ j < i then -1 else σ a j) ?_ ?_ 0 NF (0, σ) ⟨rfl, fun a j => by rw [if_neg (by omega)]⟩ (by omega) (by unfold NF; omega)
  · rintro i fu ⟨y, τ⟩ hi ⟨hy, h1⟩ hk
    have hy : y = nI i := hy
    subst hy
    have h1 : ∀ a j, τ a j = if a = 714 ∧ 18 ≤ j ∧ j < 18 + i ∨ a = 716 ∧ j < i then -1 else σ a j := h1
    show Ok (zfX12_text_L230 K (fu + 1) (nI i) τ) _
    unfold zfX12_text_L230
    rw [if_neg (by rw [show (5 : Int32) = nI 5 from rfl, n_le (by decide) (by omega)]; omega), show (18 : Int32) + nI i = nI (18 + i) from n_add 18 i, ck_t ((n_in (by omega)).mpr (by omega))]
    refine ok_lg (fun φ1 e1 => ?_)
    rw [ck_t ((n_in (by omega)).mpr (by omega))]
    refine ok_lg (fun φ2 e2 => ?_)
    refine ok_lg (fun x ex => ?_)
    rw [show nI i + 1 = nI (i + 1) from n_add _ 1] at ex
    subst ex
    rw [n_ix (by omega)] at e1 e2
    refine hk (nI (i + 1), φ2) ⟨rfl, fun a j => ?_⟩
    dsimp only
    rw [e2, e1, zst_a, zst_a, h1]
    by_cases c : a = 716 ∧ j = i
    · rw [if_pos c, if_pos (by omega)]
    · rw [if_neg c]
      by_cases c3 : a = 714 ∧ j = 18 + i
      · rw [if_pos c3, if_pos (by omega)]
      · rw [if_neg c3]
        by_cases c2 : a = 714 ∧ 18 ≤ j ∧ j < 18 + i ∨ a = 716 ∧ j < i
        · rw [if_pos c2, if_pos (by omega)]
        · rw [if_neg c2, if_neg (by omega)]
  · rintro fu ⟨y, τ⟩ ⟨hy, h1⟩
    have hy : y = nI 5 := hy
    subst hy
    show Ok (zfX12_text_L230 K (fu + 1) (nI 5) τ) _
    unfold zfX12_text_L230
    rw [if_pos (by decide)]
    exact hK τ h1
/-- a market opened by the reference -/
theorem r_text0 {n : Nat} {t : Nat → Int32} {σ : Mm} {D : MD} (ht : ∀ k, k < n → 0 ≤ (t k).toInt ∧ (t k).toInt < 256) (hn : n ≤ 160) (h6 : σ 703 6 = nI n) (hT : Tp t (σ 704) n) (hm : mkS t n 400 0 D0 = .ok D) :
    Ok (zfX12_text 0 σ) (fun b => b.1 = nI D.1.1 ∧ b.2 703 24 = nI D.1.1 ∧ b.2 703 25 = nI D.1.2.1 ∧ (∀ k, k < 3 * D.1.1 → b.2 708 k = D.2.1 k) ∧ (∀ k, k < 3 * D.1.2.1 → b.2 709 k = D.2.2.1 k) ∧ b.2 710 0 = D.2.2.2 0 ∧ b.2 710 1 = D.2.2.2 1 ∧
      (∀ j, j < 57 → b.2 714 j = if j = 54 then D.2.2.2 1 else if 18 ≤ j ∧ j < 23 then -1 else 0) ∧ (∀ j, j < 5 → b.2 716 j = -1) ∧ b.2 703 6 = 0 ∧ b.2 703 32 = 0 ∧ b.2 703 62 = 0 ∧ b.2 703 66 = 0 ∧ b.2 703 73 = 0 ∧
      (∀ k, (k = 7 ∨ 33 ≤ k ∧ k ≤ 34 ∨ k = 234 ∨ k = 71 ∨ k = 72 ∨ k = 272) → b.2 703 k = σ 703 k) ∧ ∀ c, c ≠ 703 → (c < 708 ∨ 714 < c) → c ≠ 716 → b.2 c = σ c) := by
  unfold zfX12_text
  refine ok_lg (fun υ e => ?_)
  refine ok_lg (fun J hJ => ?_)
  rw [if_neg (fun h => (q_sort01.mp h).1 rfl)]
  refine ok_lg (fun J2 hJ2 => ?_)
  rw [if_neg (by decide)]
  simp only [hJ2]
  rw [ok_bd2]
  refine ok_mono (r_fault0 (σ := υ) ht hn (by rw [e, zst_k (by omega)]; exact h6) (by rw [e, zst_n (by omega)]; exact hT)) (fun b hb => ?_)
  rw [hm] at hb
  obtain ⟨v1, ⟨d1, d2, d3, d4, d5, d6, d7, d8, d9⟩, f1, f2⟩ := hb
  rw [if_pos v1]
  refine ok_lg (fun x2 _ => ?_)
  refine ok_lg (fun φ1 g1 => ?_)
  rw [if_neg (by decide)]
  refine ok_lg (fun φ2 g2 => ?_)
  refine ok_lg (fun φ3 g3 => ?_)
  refine ok_lg (fun K1 hK1 => ?_)
  refine r_tx133 (fun φ4 g4 g4' => ?_)
  simp only [hK1]
  refine ok_lg (fun K2 hK2 => ?_)
  refine r_tx159 (fun φ5 g5 g5' => ?_)
  simp only [hK2]
  refine ok_lg (fun φ6 g6 => ?_)
  refine ok_lg (fun φ7 g7 => ?_)
  refine ok_lg (fun K3 hK3 => ?_)
  refine r_tx209 (fun φ8 g8 => ?_)
  simp only [hK3]
  refine ok_lg (fun K4 hK4 => ?_)
  refine r_tx230 (fun φ9 g9 => ?_)
  simp only [hK4]
  refine ok_lg (fun ψ1 l1 => ?_)
  refine ok_lg (fun ψ2 l2 => ?_)
  refine ok_lg (fun ψ3 l3 => ?_)
  refine ok_lg (fun ψ4 l4 => ?_)
  refine ok_lg (fun ψ5 l5 => ?_)
  rw [ok_s]
  dsimp only
  rw [show ix 0 = 0 by decide] at g6
  rw [show ix 1 = 1 by decide] at g7 l1
  rw [show ix 54 = 54 by decide] at l1
  have u0 : ∀ c, c ≠ 703 → υ c = σ c := fun c hc => by rw [e, zst_n hc]
  have a3 : ∀ c, c ≠ 703 → φ3 c = b.2 c := fun c hc => by rw [g3, zst_n hc, g2, zst_n hc, g1, zst_n hc]
  have w5 : ∀ c, c ≠ 703 → ψ5 c = ψ1 c := fun c hc => by rw [l5, zst_n hc, l4, zst_n hc, l3, zst_n hc, l2, zst_n hc]
  have w9 : ∀ c, c ≠ 714 → c ≠ 716 → ψ1 c = φ7 c := fun c h1 h2 => by
    rw [l1, zst_n h1]
    funext j
    rw [g9, if_neg (by omega), g8, if_neg (by omega)]
  have w7 : ∀ c, c ≠ 710 → φ7 c = φ5 c := fun c hc => by rw [g7, zst_n hc, g6, zst_n hc]
  have k703 : ∀ k, k ≠ 6 → k ≠ 24 → k ≠ 25 → k ≠ 32 → k ≠ 62 → k ≠ 66 → k ≠ 73 → ψ5 703 k = b.2 703 k := fun k h1 h2 h3 h4 h5 h6 h7 => by
    rw [l5, zst_k h7, l4, zst_k h6, l3, zst_k h5, l2, zst_k h4, w9 703 (by omega) (by omega), w7 703 (by omega), g5' 703 (by omega), g4' 703 (by omega), g3, zst_k h3, g2, zst_k h2, g1, zst_k h1]
  have i703 : ∀ k, φ5 703 k = φ3 703 k := fun k => by rw [g5' 703 (by omega), g4' 703 (by omega)]
  have r710 : ψ5 710 0 = D.2.2.2 0 ∧ ψ5 710 1 = D.2.2.2 1 := by
    have h0 : φ6 710 0 = D.2.2.2 0 := by rw [g6, zst_v, g5' 713 (by omega), g4' 713 (by omega), a3 713 (by omega)]; exact d9 0 (by omega)
    refine ⟨?_, ?_⟩
    · rw [w5 710 (by omega), w9 710 (by omega) (by omega), g7, zst_k (by omega)]; exact h0
    · rw [w5 710 (by omega), w9 710 (by omega) (by omega), g7, zst_v, g6, zst_n (by omega), g5' 713 (by omega), g4' 713 (by omega), a3 713 (by omega)]; exact d9 1 (by omega)
  refine ⟨?_, ?_, ?_, fun k hk => ?_, fun k hk => ?_, r710.1, r710.2, fun j hj => ?_, fun j hj => ?_, ?_, ?_, ?_, ?_, ?_, fun k hk => ?_, fun c h1 h2 h3 => ?_⟩
  · rw [l5, zst_k (by omega), l4, zst_k (by omega), l3, zst_k (by omega), l2, zst_k (by omega), w9 703 (by omega) (by omega), w7 703 (by omega), i703, g3, zst_k (by omega), g2, zst_v, g1, zst_k (by omega)]; exact d4
  · rw [l5, zst_k (by omega), l4, zst_k (by omega), l3, zst_k (by omega), l2, zst_k (by omega), w9 703 (by omega) (by omega), w7 703 (by omega), i703, g3, zst_k (by omega), g2, zst_v, g1, zst_k (by omega)]; exact d4
  · rw [l5, zst_k (by omega), l4, zst_k (by omega), l3, zst_k (by omega), l2, zst_k (by omega), w9 703 (by omega) (by omega), w7 703 (by omega), i703, g3, zst_v, g2, zst_k (by omega), g1, zst_k (by omega)]; exact d5
  · rw [w5 708 (by omega), w9 708 (by omega) (by omega), w7 708 (by omega), g5' 708 (by omega), g4 k (by omega), a3 711 (by omega)]; exact d7 k hk
  · rw [w5 709 (by omega), w9 709 (by omega) (by omega), w7 709 (by omega), g5 k (by omega), g4' 712 (by omega), a3 712 (by omega)]; exact d8 k hk
  · rw [w5 714 (by omega), l1]
    by_cases c : j = 54
    · subst c
      rw [if_pos rfl, zst_v, g9, if_neg (by omega), g8, if_neg (by omega), ← w9 710 (by omega) (by omega), ← w5 710 (by omega)]; exact r710.2
    · rw [if_neg c, zst_k c, g9]
      by_cases c2 : 18 ≤ j ∧ j < 23
      · rw [if_pos (by omega), if_pos c2]
      · rw [if_neg (by omega), if_neg c2, g8, if_pos ⟨rfl, hj⟩]
  · rw [w5 716 (by omega), l1, zst_n (by omega), g9, if_pos (by omega)]
  · rw [l5, zst_k (by omega), l4, zst_k (by omega), l3, zst_k (by omega), l2, zst_k (by omega), w9 703 (by omega) (by omega), w7 703 (by omega), i703, g3, zst_k (by omega), g2, zst_k (by omega), g1, zst_v]
  · rw [l5, zst_k (by omega), l4, zst_k (by omega), l3, zst_k (by omega), l2, zst_v]
  · rw [l5, zst_k (by omega), l4, zst_k (by omega), l3, zst_v]
  · rw [l5, zst_k (by omega), l4, zst_v]
  · rw [l5, zst_v]
  · rw [k703 k (by omega) (by omega) (by omega) (by omega) (by omega) (by omega) (by omega), f2 k (by omega), zst_k (by omega), e, zst_k (by omega)]
  · rw [w5 c h1, w9 c (by omega) h3, w7 c (by omega), g5' c (by omega), g4' c (by omega), a3 c h1, f1 c h1 (by omega) (by omega) (by omega), zst_n h1, u0 c h1]
