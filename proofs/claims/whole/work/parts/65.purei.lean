/-! ===== the reference opens a day ===== -/
section
variable {n m : Nat} {br ma wa go : Nat → Nat} {co : Nat → Int32} {σ : Mm} {f : Int32}
theorem r_open {K : Mm → Option Mm} {Q : Mm → Prop} (hn : n ≤ 5) (h24 : σ 703 24 = nI n) (hgo : ∀ k, k < n → σ 714 k = nI (go k) ∧ go k ≤ 99) (hbr : ∀ k, k < n → σ 708 (3 * k) = nI (br k) ∧ br k ≤ 99 ∧ σ 708 (3 * k + 1) = co k)
    (hK : ∀ τ, (∀ k, k < n → τ 714 k = nI (go k + brt br go k) ∧ τ 714 (12 + k) = σ 714 (12 + k) - nI (brt br go k) * co k ∧ τ 714 (24 + k) = 0 ∧ τ 719 k = 0 ∧ τ 720 k = nI (go k + brt br go k)) → (∀ j, (n ≤ j ∧ j < 12 ∨ 12 + n ≤ j ∧ j < 24 ∨ 24 + n ≤ j) → τ 714 j = σ 714 j) → (∀ c, c ≠ 714 → c ≠ 719 → c ≠ 720 → τ c = σ c) → Ok (K τ) Q) : Ok (zfX12_goes_L7 K NF 0 σ) Q := by
  refine ok_up (F := fun fu (s : Int32 × Mm) => zfX12_goes_L7 K fu s.1 s.2) n (fun i s => s.1 = nI i ∧ (∀ k, k < i → s.2 714 k = nI (go k + brt br go k) ∧ s.2 714 (12 + k) = σ 714 (12 + k) - nI (brt br go k) * co k ∧ s.2 714 (24 + k) = 0 ∧ s.2 719 k = 0 ∧ s.2 720 k = nI (go k + brt br go k)) ∧ (∀ j, (i ≤ j ∧ j < 12 ∨ 12 + i ≤ j ∧ j < 24 ∨ 24 + i ≤ j) → s.2 714 j = σ 714 j) ∧ (∀ c, c ≠ 714 → c ≠ 719 → c ≠ 720 → s.2 c = σ c)) ?_ ?_ 0 NF (0, σ) ⟨rfl, fun k hk => absurd hk (Nat.not_lt_zero k), fun _ _ => rfl, fun _ _ _ _ => rfl⟩ (by omega) (by unfold NF; omega)
  · rintro i fu ⟨y, τ⟩ hi ⟨hy, h1, h2, h3⟩ hk
    have hy : y = nI i := hy
    subst hy
    have h1 : ∀ k, k < i → τ 714 k = nI (go k + brt br go k) ∧ τ 714 (12 + k) = σ 714 (12 + k) - nI (brt br go k) * co k ∧ τ 714 (24 + k) = 0 ∧ τ 719 k = 0 ∧ τ 720 k = nI (go k + brt br go k) := h1
    have h2 : ∀ j, (i ≤ j ∧ j < 12 ∨ 12 + i ≤ j ∧ j < 24 ∨ 24 + i ≤ j) → τ 714 j = σ 714 j := h2
    have h3 : ∀ c, c ≠ 714 → c ≠ 719 → c ≠ 720 → τ c = σ c := h3
    obtain ⟨g1, g2⟩ := hgo i hi
    obtain ⟨b1, b2, b3⟩ := hbr i hi
    show Ok (zfX12_goes_L7 K (fu + 1) (nI i) τ) _
    unfold zfX12_goes_L7
    have e3 : (3 : Int32) * nI i = nI (3 * i) := n_mul 3 i
    have e31 : nI (3 * i) + 1 = nI (3 * i + 1) := n_add _ 1
    have e12 : (12 : Int32) + nI i = nI (12 + i) := n_add 12 i
    have e24 : (24 : Int32) + nI i = nI (24 + i) := n_add 24 i
    have e0 : (99 : Int32) = nI 99 := rfl
    have ezm : zmin (nI (br i)) (99 - nI (go i)) = nI (brt br go i) := by
      rw [e0, n_sub g2, n_zmin (by omega) (by omega)]; rfl
    rw [h3 703 (by decide) (by decide) (by decide), h24, if_neg (by rw [n_le (by omega) (by omega)]; omega)]
    simp only [e3, e31, e12, e24, show nI i + 1 = nI (i + 1) from n_add _ 1, ck_t (show inb (nI (3 * i)) 15 from (n_in (by omega)).mpr (by omega)), ck_t (show inb (nI (3 * i + 1)) 15 from (n_in (by omega)).mpr (by omega)), ck_t (show inb (nI i) 57 from (n_in (by omega)).mpr (by omega)), ck_t (show inb (nI i) 6 from (n_in (by omega)).mpr (by omega)), ck_t (show inb (nI (12 + i)) 57 from (n_in (by omega)).mpr (by omega)), ck_t (show inb (nI (24 + i)) 57 from (n_in (by omega)).mpr (by omega)), lt_p, n_ix (show i < 2147483648 by omega), n_ix (show 3 * i < 2147483648 by omega), n_ix (show 3 * i + 1 < 2147483648 by omega), n_ix (show 12 + i < 2147483648 by omega), n_ix (show 24 + i < 2147483648 by omega)]
    rw [h3 708 (by decide) (by decide) (by decide), b1, h2 i (by omega), g1, ezm, n_add, zst_k (show 12 + i ≠ i by omega), h2 (12 + i) (by omega), zst_n (show 708 ≠ 714 by decide), h3 708 (by decide) (by decide) (by decide), b3, zst_k (show i ≠ 12 + i by omega), zst_v]
    generalize hφ : zst (zst (zst (zst (zst τ 714 i (nI (go i + brt br go i))) 714 (12 + i) (σ 714 (12 + i) - nI (brt br go i) * co i)) 720 i (nI (go i + brt br go i))) 714 (24 + i) 0) 719 i 0 = φ
    have f714 : ∀ j, φ 714 j = if j = 24 + i then 0 else if j = 12 + i then σ 714 (12 + i) - nI (brt br go i) * co i else if j = i then nI (go i + brt br go i) else τ 714 j := by
      intro j
      rw [← hφ, zst_n (by decide), zst_s]
      by_cases y1 : j = 24 + i
      · rw [if_pos y1, y1, upd_s]
      · rw [if_neg y1, upd_n y1, zst_n (by decide), zst_s]
        by_cases y2 : j = 12 + i
        · rw [if_pos y2, y2, upd_s]
        · rw [if_neg y2, upd_n y2, zst_s]
          by_cases y3 : j = i
          · rw [if_pos y3, y3, upd_s]
          · rw [if_neg y3, upd_n y3]
    have f719 : φ 719 = upd (τ 719) i 0 := by rw [← hφ, zst_s, zst_n (by decide), zst_n (by decide), zst_n (by decide), zst_n (by decide)]
    have f720 : φ 720 = upd (τ 720) i (nI (go i + brt br go i)) := by rw [← hφ, zst_n (by decide), zst_n (by decide), zst_s, zst_n (by decide), zst_n (by decide)]
    refine hk (nI (i + 1), φ) ⟨rfl, fun k hk => ?_, fun j hj => ?_, fun c a1 a2 a3 => ?_⟩
    · dsimp only; rw [f714, f714, f714, f719, f720]
      by_cases e : k = i
      · subst e
        rw [if_neg (by omega), if_neg (by omega), if_pos rfl, if_neg (by omega), if_pos rfl, if_pos rfl, upd_s, upd_s]; exact ⟨rfl, rfl, rfl, rfl, rfl⟩
      · rw [if_neg (by omega), if_neg (by omega), if_neg (by omega), if_neg (by omega), if_neg (by omega), if_neg (by omega), if_neg (by omega), if_neg (by omega), if_neg (by omega), upd_n e, upd_n e]; exact h1 k (by omega)
    · dsimp only; rw [f714, if_neg (by omega), if_neg (by omega), if_neg (by omega)]; exact h2 j (by omega)
    · dsimp only; rw [← hφ, zst_n a2, zst_n a1, zst_n a3, zst_n a1, zst_n a1]; exact h3 c a1 a2 a3
  · rintro fu ⟨y, τ⟩ ⟨hy, h1, h2, h3⟩
    have hy : y = nI n := hy
    subst hy
    have h3 : ∀ c, c ≠ 714 → c ≠ 719 → c ≠ 720 → τ c = σ c := h3
    show Ok (zfX12_goes_L7 K (fu + 1) (nI n) τ) _
    unfold zfX12_goes_L7
    rw [h3 703 (by decide) (by decide) (by decide), h24, if_pos (by rw [n_le (by omega) (by omega)]; omega)]
    exact hK τ h1 h2 h3
/-- who comes: by how many days more they wait -/
theorem r_comes {K : Mm → Option Mm} {Q : Mm → Prop} {W7 dw : Nat → Nat} (hm : m ≤ 6) (h25 : σ 703 25 = nI m) (hs : ∀ i, i < m → σ 709 (3 * i + 1) = nI (ma i) ∧ σ 709 (3 * i + 2) = nI (wa i) ∧ wa i ≤ 3) (hw : ∀ i k, i < m → k < 4 → σ 714 (30 + (4 * i + k)) = nI (if k < wa i then W7 (4 * i + (wa i - k)) else 0))
    (hd0 : ∀ i, i < m → dw (4 * i) = (if f = 0 then ma i else 2 * ma i)) (hdw : ∀ i a, i < m → 0 < a → a < 4 → dw (4 * i + a) = W7 (4 * i + a))
    (hK : ∀ τ, (∀ i k, i < m → k < 4 → τ 721 (4 * i + k) = nI (fK i (wa i) k dw)) → (∀ c, c ≠ 721 → τ c = σ c) → Ok (K τ) Q) : Ok (zfX12_goes_L117 K f NF 0 σ) Q := by
  refine ok_up (F := fun fu (s : Int32 × Mm) => zfX12_goes_L117 K f fu s.1 s.2) m (fun i s => s.1 = nI i ∧ (∀ j k, j < i → k < 4 → s.2 721 (4 * j + k) = nI (fK j (wa j) k dw)) ∧ (∀ c, c ≠ 721 → s.2 c = σ c)) ?_ ?_ 0 NF (0, σ) ⟨rfl, fun j k hj => absurd hj (Nat.not_lt_zero j), fun _ _ => rfl⟩ (by omega) (by unfold NF; omega)
  · rintro i fu ⟨y, τ⟩ hi ⟨hy, h1, h3⟩ hk
    have hy : y = nI i := hy
    subst hy
    have h1 : ∀ j k, j < i → k < 4 → τ 721 (4 * j + k) = nI (fK j (wa j) k dw) := h1
    have h3 : ∀ c, c ≠ 721 → τ c = σ c := h3
    obtain ⟨s1, s2, s3⟩ := hs i hi
    show Ok (zfX12_goes_L117 K f (fu + 1) (nI i) τ) _
    unfold zfX12_goes_L117
    rw [h3 703 (by decide), h25, if_neg (by rw [n_le (by omega) (by omega)]; omega)]
    refine ok_lg (fun k161 h161 => ?_)
    have e4 : (4 : Int32) * nI i = nI (4 * i) := n_mul 4 i
    refine ok_up (F := fun fu (s : Int32 × Mm) => zfX12_goes_L127 k161 (nI i) fu s.1 s.2) 4 (fun k s => s.1 = nI k ∧ (∀ x, x < k → s.2 721 (4 * i + x) = nI (if x < wa i then W7 (4 * i + (wa i - x)) else 0)) ∧ (∀ j, j < 4 * i → s.2 721 j = τ 721 j) ∧ (∀ c, c ≠ 721 → s.2 c = σ c)) ?_ ?_ 0 NF (0, τ) ⟨rfl, fun x hx => absurd hx (Nat.not_lt_zero x), fun _ _ => rfl, h3⟩ (by omega) (by unfold NF; omega)
    · rintro k fu2 ⟨y, υ⟩ hk4 ⟨hy, i1, i2, i3⟩ hk'
      have hy : y = nI k := hy
      subst hy
      have i1 : ∀ x, x < k → υ 721 (4 * i + x) = nI (if x < wa i then W7 (4 * i + (wa i - x)) else 0) := i1
      have i2 : ∀ j, j < 4 * i → υ 721 j = τ 721 j := i2
      have i3 : ∀ c, c ≠ 721 → υ c = σ c := i3
      show Ok (zfX12_goes_L127 k161 (nI i) (fu2 + 1) (nI k) υ) _
      unfold zfX12_goes_L127
      rw [if_neg (by rw [show (4 : Int32) = nI 4 from rfl, n_le (by decide) (by omega)]; omega), e4, n_add, show (30 : Int32) + nI (4 * i) = nI (30 + 4 * i) from n_add 30 _, n_add, ck_t ((n_in (by omega)).mpr (by omega)), ck_t ((n_in (by omega)).mpr (by omega)), ok_lt, ok_lt, n_ix (show 4 * i + k < 2147483648 by omega), n_ix (show 30 + 4 * i + k < 2147483648 by omega), i3 714 (by decide), show 30 + 4 * i + k = 30 + (4 * i + k) by omega, hw i k hi hk4, show nI k + 1 = nI (k + 1) from n_add _ 1]
      refine hk' (nI (k + 1), zst υ 721 (4 * i + k) (nI (if k < wa i then W7 (4 * i + (wa i - k)) else 0))) ⟨rfl, fun x hx => ?_, fun j hj => by dsimp only; rw [zst_k (by omega)]; exact i2 j hj, fun c hc => by dsimp only; rw [zst_n hc]; exact i3 c hc⟩
      dsimp only
      by_cases e : x = k
      · subst e; rw [zst_v]
      · rw [zst_k (by omega)]; exact i1 x (by omega)
    · rintro fu2 ⟨y, υ⟩ ⟨hy, i1, i2, i3⟩
      have hy : y = nI 4 := hy
      subst hy
      have i1 : ∀ x, x < 4 → υ 721 (4 * i + x) = nI (if x < wa i then W7 (4 * i + (wa i - x)) else 0) := i1
      have i2 : ∀ j, j < 4 * i → υ 721 j = τ 721 j := i2
      have i3 : ∀ c, c ≠ 721 → υ c = σ c := i3
      show Ok (zfX12_goes_L127 k161 (nI i) (fu2 + 1) (nI 4) υ) _
      unfold zfX12_goes_L127
      have e3 : (3 : Int32) * nI i = nI (3 * i) := n_mul 3 i
      have e31 : nI (3 * i) + 1 = nI (3 * i + 1) := n_add _ 1
      have e32 : nI (3 * i) + 2 = nI (3 * i + 2) := n_add _ 2
      rw [if_pos (by decide), h161]
      simp only [e3, e31, e32, e4, ck_t (show inb (nI (3 * i + 2)) 18 from (n_in (by omega)).mpr (by omega)), ck_t (show inb (nI (3 * i + 1)) 18 from (n_in (by omega)).mpr (by omega)), n_ix (show 3 * i + 2 < 2147483648 by omega), n_ix (show 3 * i + 1 < 2147483648 by omega), i3 709 (by decide), s1, s2, n_add, ck_t (show inb (nI (4 * i + wa i)) 24 from (n_in (by omega)).mpr (by omega)), n_ix (show 4 * i + wa i < 2147483648 by omega), show nI i + 1 = nI (i + 1) from n_add _ 1, lt_p]
      have go : ∀ v, v = nI (dw (4 * i)) → Ok (zfX12_goes_L117 K f fu (nI (i + 1)) (zst υ 721 (4 * i + wa i) (υ 721 (4 * i + wa i) + v))) Q := by
        intro v hv
        refine hk (nI (i + 1), zst υ 721 (4 * i + wa i) (υ 721 (4 * i + wa i) + v)) ⟨rfl, fun j k hj hk4 => ?_, fun c hc => by dsimp only; rw [zst_n hc]; exact i3 c hc⟩
        dsimp only
        by_cases e : j = i
        · subst e
          unfold fK
          by_cases e2 : k = wa j
          · rw [e2, zst_v, i1 (wa j) (by omega), if_neg (by omega), hv, if_pos (Nat.le_refl _), Nat.sub_self, Nat.add_zero, n_0]; grind
          · rw [zst_k (by omega), i1 k hk4]
            by_cases c : k < wa j
            · rw [if_pos c, if_pos (by omega), hdw j (wa j - k) hi (by omega) (by omega)]
            · rw [if_neg c, if_neg (by omega)]
        · rw [zst_k (by omega), i2 _ (by omega)]; exact h1 j k (by omega) hk4
      by_cases c : f = 0
      · rw [if_pos c]
        refine go _ ?_
        rw [hd0 i hi, if_pos c]; grind
      · rw [if_neg c]
        refine go _ ?_
        rw [hd0 i hi, if_neg c, show (2 : Int32) = nI 2 from rfl, n_mul]; congr 1; omega
  · rintro fu ⟨y, τ⟩ ⟨hy, h1, h3⟩
    have hy : y = nI m := hy
    subst hy
    have h3 : ∀ c, c ≠ 721 → τ c = σ c := h3
    show Ok (zfX12_goes_L117 K f (fu + 1) (nI m) τ) _
    unfold zfX12_goes_L117
    rw [h3 703 (by decide), h25, if_pos (by rw [n_le (by omega) (by omega)]; omega)]
    exact hK τ h1 h3
theorem r_zero {K : Mm → Option Mm} {Q : Mm → Prop} (hm : m ≤ 6) (hK : ∀ τ, (∀ j, j < 4 * m → τ 721 j = σ 721 j) → (∀ j, 4 * m ≤ j → j < 24 → τ 721 j = 0) → (∀ c, c ≠ 721 → τ c = σ c) → Ok (K τ) Q) : Ok (zfX12_goes_L214 K NF (nI m) σ) Q := by
  refine ok_up (F := fun fu (s : Int32 × Mm) => zfX12_goes_L214 K fu s.1 s.2) 6 (fun i s => m ≤ i ∧ s.1 = nI i ∧ (∀ j, j < 4 * m → s.2 721 j = σ 721 j) ∧ (∀ j, 4 * m ≤ j → j < 4 * i → s.2 721 j = 0) ∧ (∀ c, c ≠ 721 → s.2 c = σ c)) ?_ ?_ m NF (nI m, σ) ⟨Nat.le_refl _, rfl, fun _ _ => rfl, fun j h1 h2 => by omega, fun _ _ => rfl⟩ (by omega) (by unfold NF; omega)
  · rintro i fu ⟨y, τ⟩ hi ⟨hmi, hy, h1, h2, h3⟩ hk
    have hy : y = nI i := hy
    subst hy
    have h1 : ∀ j, j < 4 * m → τ 721 j = σ 721 j := h1
    have h2 : ∀ j, 4 * m ≤ j → j < 4 * i → τ 721 j = 0 := h2
    have h3 : ∀ c, c ≠ 721 → τ c = σ c := h3
    show Ok (zfX12_goes_L214 K (fu + 1) (nI i) τ) _
    unfold zfX12_goes_L214
    rw [if_neg (by rw [show (6 : Int32) = nI 6 from rfl, n_le (by decide) (by omega)]; omega)]
    refine ok_lg (fun k244 h244 => ?_)
    have e4 : (4 : Int32) * nI i = nI (4 * i) := n_mul 4 i
    refine ok_up (F := fun fu (s : Int32 × Mm) => zfX12_goes_L222 k244 (nI i) fu s.1 s.2) 4 (fun k s => s.1 = nI k ∧ (∀ j, j < 4 * m → s.2 721 j = σ 721 j) ∧ (∀ j, 4 * m ≤ j → j < 4 * i + k → s.2 721 j = 0) ∧ (∀ c, c ≠ 721 → s.2 c = σ c)) ?_ ?_ 0 NF (0, τ) ⟨rfl, h1, fun j a1 a2 => h2 j a1 (by omega), h3⟩ (by omega) (by unfold NF; omega)
    · rintro k fu2 ⟨y, υ⟩ hk4 ⟨hy, i1, i2, i3⟩ hk'
      have hy : y = nI k := hy
      subst hy
      have i1 : ∀ j, j < 4 * m → υ 721 j = σ 721 j := i1
      have i2 : ∀ j, 4 * m ≤ j → j < 4 * i + k → υ 721 j = 0 := i2
      have i3 : ∀ c, c ≠ 721 → υ c = σ c := i3
      show Ok (zfX12_goes_L222 k244 (nI i) (fu2 + 1) (nI k) υ) _
      unfold zfX12_goes_L222
      rw [if_neg (by rw [show (4 : Int32) = nI 4 from rfl, n_le (by decide) (by omega)]; omega), e4, n_add, ck_t ((n_in (by omega)).mpr (by omega)), ok_lt, ok_lt, n_ix (by omega), show nI k + 1 = nI (k + 1) from n_add _ 1]
      refine hk' (nI (k + 1), zst υ 721 (4 * i + k) 0) ⟨rfl, fun j hj => by dsimp only; rw [zst_k (by omega)]; exact i1 j hj, fun j a1 a2 => ?_, fun c hc => by dsimp only; rw [zst_n hc]; exact i3 c hc⟩
      dsimp only
      by_cases e : j = 4 * i + k
      · rw [e, zst_v]
      · rw [zst_k e]; exact i2 j a1 (by omega)
    · rintro fu2 ⟨y, υ⟩ ⟨hy, i1, i2, i3⟩
      have hy : y = nI 4 := hy
      subst hy
      show Ok (zfX12_goes_L222 k244 (nI i) (fu2 + 1) (nI 4) υ) _
      unfold zfX12_goes_L222
      rw [if_pos (by decide), h244, ok_lt, show nI i + 1 = nI (i + 1) from n_add _ 1]
      exact hk (nI (i + 1), υ) ⟨by omega, rfl, i1, fun j a1 a2 => i2 j a1 (by omega), i3⟩
  · rintro fu ⟨y, τ⟩ ⟨hmi, hy, h1, h2, h3⟩
    have hy : y = nI 6 := hy
    subst hy
    show Ok (zfX12_goes_L214 K (fu + 1) (nI 6) τ) _
    unfold zfX12_goes_L214
    rw [if_pos (by decide)]
    exact hK τ h1 (fun j a1 a2 => h2 j a1 (by omega)) h3
end
