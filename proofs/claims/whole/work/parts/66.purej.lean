/-! ===== the reference sets the askings ===== -/
def tsum (f : Nat → Nat) : Nat → Nat
  | 0 => 0
  | j + 1 => tsum f j + f j
theorem tsum_le {f : Nat → Nat} {B : Nat} (h : ∀ j, f j ≤ B) : ∀ {j : Nat}, tsum f j ≤ B * j := by
  intro j
  induction j with
  | zero => exact Nat.le_refl _
  | succ j ih =>
    unfold tsum
    have := h j
    rw [Nat.mul_succ]; omega
theorem tsum_comes {m : Nat} {wa dw cN : Nat → Nat} (hwa : ∀ i, i < m → wa i ≤ 3) (hz : ∀ i a, i < m → a < 4 → wa i < a → dw (4 * i + a) = 0) (hc : ∀ i k, i < m → k < 4 → cN (4 * i + k) = fK i (wa i) k dw) : ∀ i, i ≤ m → tsum cN (4 * i) = wsum dw i := by
  intro i
  induction i with
  | zero => intro _; rfl
  | succ i ih =>
    intro hi
    have e : tsum cN (4 * (i + 1)) = tsum cN (4 * i) + cN (4 * i + 0) + cN (4 * i + 1) + cN (4 * i + 2) + cN (4 * i + 3) := rfl
    rw [e, ih (by omega), hc i 0 (by omega) (by omega), hc i 1 (by omega) (by omega), hc i 2 (by omega) (by omega), hc i 3 (by omega) (by omega)]
    have e2 : wsum dw (i + 1) = wsum dw i + dw (4 * i + 0) + dw (4 * i + 1) + dw (4 * i + 2) + dw (4 * i + 3) := rfl
    rw [e2]
    have h3 := hwa i (by omega)
    have z1 := hz i 1 (by omega) (by omega)
    have z2 := hz i 2 (by omega) (by omega)
    have z3 := hz i 3 (by omega) (by omega)
    unfold fK
    have : wa i = 0 ∨ wa i = 1 ∨ wa i = 2 ∨ wa i = 3 := by omega
    rcases this with h | h | h | h
    · simp only [h] at z1 z2 z3 ⊢
      rw [z1 (by omega), z2 (by omega), z3 (by omega)]
      simp
    · simp only [h] at z1 z2 z3 ⊢
      rw [z2 (by omega), z3 (by omega)]
      simp; omega
    · simp only [h] at z1 z2 z3 ⊢
      rw [z3 (by omega)]
      simp; omega
    · simp only [h]
      simp; omega
theorem tsum_zero {f : Nat → Nat} {a : Nat} : ∀ b, (∀ j, a ≤ j → j < a + b → f j = 0) → tsum f (a + b) = tsum f a := by
  intro b
  induction b with
  | zero => intro _; rfl
  | succ b ih =>
    intro h
    show tsum f (a + b) + f (a + b) = _
    rw [ih (fun j h1 h2 => h j h1 (by omega)), h _ (by omega) (by omega)]; rfl
theorem r_sum24 {k78 : Int32 → Mm → Option (Int32 × Mm)} {σ : Mm} {cN : Nat → Nat} (hc : ∀ j, j < 24 → σ 721 j = nI (cN j)) : zfX12_askOf_L55 k78 NF 0 0 σ = k78 (nI (tsum cN 24)) σ := by
  have key : ∀ r j fu, j + r = 24 → r < fu → zfX12_askOf_L55 k78 fu (nI (tsum cN j)) (nI j) σ = k78 (nI (tsum cN 24)) σ := by
    intro r
    induction r with
    | zero =>
      intro j fu hj hf
      obtain ⟨fu, rfl⟩ : ∃ g, fu = g + 1 := ⟨fu - 1, by omega⟩
      have : j = 24 := by omega
      subst this
      unfold zfX12_askOf_L55
      rw [if_pos (by decide)]
    | succ r ih =>
      intro j fu hj hf
      obtain ⟨fu, rfl⟩ : ∃ g, fu = g + 1 := ⟨fu - 1, by omega⟩
      conv => lhs; unfold zfX12_askOf_L55
      rw [if_neg (by rw [show (24 : Int32) = nI 24 from rfl, n_le (by decide) (by omega)]; omega), ck_t ((n_in (by omega)).mpr (by omega)), lt_p, lt_p, n_ix (by omega), hc j (by omega), n_add, show nI j + 1 = nI (j + 1) from n_add _ 1]
      exact ih (j + 1) fu (by omega) (by omega)
  exact key 24 0 NF rfl (by unfold NF; omega)
section
variable {n rc : Nat} {g : Nat → Nat} {to ru co left : Nat → Int32} {holds board day : Int32} {W : Nat → (Nat → Int32) → Int32} {cN : Nat → Nat}
/-- what the reference looks at to ask -/
def AK (n : Nat) (g : Nat → Nat) (to ru co left : Nat → Int32) (holds board day : Int32) (cN : Nat → Nat) (σ : Mm) : Prop :=
  σ 703 24 = nI n ∧ σ 714 54 = board ∧ σ 714 56 = day ∧ σ 703 41 = holds ∧ (∀ k, k < n → σ 717 k = to k ∧ σ 716 k = ru k ∧ σ 714 k = nI (g k) ∧ σ 708 (3 * k + 1) = co k ∧ σ 714 (6 + k) = left k) ∧ ∀ j, j < 24 → σ 721 j = nI (cN j)
theorem r_askOf {σ : Mm} {k : Nat} (hn : n ≤ 5) (hk : k < n) (hA : AK n g to ru co left holds board day cN σ) (hru : ru k = -1 ∨ ru k = nI (ix (ru k)) ∧ ix (ru k) < 5)
    (hW : to k = -1 → ru k = nI (ix (ru k)) → ix (ru k) < 5 → ∀ τ, τ 705 = σ 705 → (∀ j, j < 6 → lamR τ j = ltr board day (nI (tsum cN 24)) g co left k j) →
      Ok (zfX12_goThrough 705 (160 * ru k) (σ 706 (ix (ru k))) τ) (fun τ' => τ' 703 14 = W (ix (ru k)) (ltr board day (nI (tsum cN 24)) g co left k) ∧ FrG τ τ')) :
    Ok (zfX12_askOf (nI k) σ) (fun a => a.1 = asV to ru holds board W (ltr board day (nI (tsum cN 24)) g co left) k ∧ (∀ c, c ≠ 703 → c ≠ 707 → a.2 c = σ c) ∧ ∀ x, (x < 5 ∨ x = 6 ∨ x = 7 ∨ x = 15 ∨ x = 16 ∨ 17 < x) → a.2 703 x = σ 703 x) := by
  obtain ⟨a1, a2, a3, a4, a5, a6⟩ := hA
  obtain ⟨t1, t2, t3, t4, t5⟩ := a5 k hk
  have hin : inb (nI k) 5 := (n_in (by omega)).mpr (by omega)
  unfold zfX12_askOf
  rw [show ix 54 = 54 by decide, a2, ok_lt, ck_t hin, n_ix (by omega), t1, t2, a4]
  by_cases ct : to k = -1
  case neg =>
    rw [if_neg ct, ck_t hin, ok_s]
    exact ⟨by dsimp only; unfold asV; rw [if_neg ct], fun _ _ _ => rfl, fun _ _ => rfl⟩
  case pos =>
  rw [if_pos ct]
  have ehold : (zfX12_has holds (nI k) = 0) ↔ (holds >>> (nI k &&& 31)) &&& 1 = 0 := by
    rw [r_has]; unfold hob
    exact ⟨fun h => Classical.byContradiction fun h2 => h h2, fun h h2 => h2 h⟩
  by_cases chd : (holds >>> (nI k &&& 31)) &&& 1 = 0
  case neg =>
    rw [if_neg (fun h => chd (ehold.mp h)), ok_s]
    exact ⟨by dsimp only; unfold asV; rw [if_pos ct, if_neg chd], fun _ _ _ => rfl, fun _ _ => rfl⟩
  case pos =>
  rw [if_pos (ehold.mpr chd), ck_t hin]
  rcases hru with hr | ⟨hr, hr5⟩
  · rw [if_pos hr, ok_s]
    refine ⟨?_, fun _ _ _ => rfl, fun _ _ => rfl⟩
    dsimp only; unfold asV
    rw [if_pos ct, if_pos chd, hr, if_pos (by decide)]
  · rw [if_neg (by rw [hr]; exact n_ne1 (by omega))]
    refine ok_lg (fun k78 h78 => ?_)
    rw [r_sum24 a6, h78]
    have e3 : (3 : Int32) * nI k = nI (3 * k) := n_mul 3 k
    have e31 : nI (3 * k) + 1 = nI (3 * k + 1) := n_add _ 1
    have e6 : (6 : Int32) + nI k = nI (6 + k) := n_add 6 k
    have hinr : inb (ru k) 5 := by rw [hr]; exact (n_in (by omega)).mpr hr5
    simp only [lt_p, e3, e31, e6, ck_t hin, ck_t (show inb (nI k) 57 from (n_in (by omega)).mpr (by omega)), ck_t (show inb (nI (3 * k + 1)) 15 from (n_in (by omega)).mpr (by omega)), ck_t (show inb (nI (6 + k)) 57 from (n_in (by omega)).mpr (by omega)), n_ix (show k < 2147483648 by omega), n_ix (show 3 * k + 1 < 2147483648 by omega), n_ix (show 6 + k < 2147483648 by omega), show ix 112 = 112 by decide, show ix 103 = 103 by decide, show ix 99 = 99 by decide, show ix 100 = 100 by decide, show ix 117 = 117 by decide, show ix 119 = 119 by decide, show ix 56 = 56 by decide]
    rw [zst_n (show 714 ≠ 707 by decide), t3, zst_n (show 708 ≠ 707 by decide), zst_n (show 708 ≠ 707 by decide), t4, zst_n (show 714 ≠ 707 by decide), zst_n (show 714 ≠ 707 by decide), zst_n (show 714 ≠ 707 by decide), a3, zst_n (show 714 ≠ 707 by decide), zst_n (show 714 ≠ 707 by decide), zst_n (show 714 ≠ 707 by decide), zst_n (show 714 ≠ 707 by decide), t5]
    generalize hτ : zst (zst (zst (zst (zst (zst σ 707 112 board) 707 103 (nI (g k))) 707 99 (co k)) 707 100 day) 707 117 (left k)) 707 119 (nI (tsum cN 24)) = τ
    have tc : ∀ c, c ≠ 707 → τ c = σ c := fun c hc => by rw [← hτ]; simp only [zst_n hc]
    rw [tc 716 (by decide), tc 706 (by decide), t2, ck_t hinr, ok_bd]
    refine ok_mono (hW ct hr hr5 τ (tc 705 (by decide)) (fun j hj => ?_)) (fun τ' h' => ?_)
    · unfold lamR
      have : j = 0 ∨ j = 1 ∨ j = 2 ∨ j = 3 ∨ j = 4 ∨ j = 5 := by omega
      rcases this with rfl | rfl | rfl | rfl | rfl | rfl
      · rw [show ix (lett 0) = 112 by decide, ← hτ, zst_k (by decide), zst_k (by decide), zst_k (by decide), zst_k (by decide), zst_k (by decide), zst_v]; rfl
      · rw [show ix (lett 1) = 103 by decide, ← hτ, zst_k (by decide), zst_k (by decide), zst_k (by decide), zst_k (by decide), zst_v]; rfl
      · rw [show ix (lett 2) = 99 by decide, ← hτ, zst_k (by decide), zst_k (by decide), zst_k (by decide), zst_v]; rfl
      · rw [show ix (lett 3) = 100 by decide, ← hτ, zst_k (by decide), zst_k (by decide), zst_v]; rfl
      · rw [show ix (lett 4) = 117 by decide, ← hτ, zst_k (by decide), zst_v]; rfl
      · rw [show ix (lett 5) = 119 by decide, ← hτ, zst_v]; rfl
    · obtain ⟨f1, f2, f3⟩ := h'
      rw [ok_s]
      refine ⟨?_, fun c x1 x2 => by dsimp only; rw [f2 c x1]; exact tc c x2, fun x hx => by dsimp only; rw [f3 x (by omega)]; rw [tc 703 (by decide)]⟩
      dsimp only
      rw [f1]
      unfold asV
      have n0 : ¬ ru k < 0 := by rw [hr]; exact n_nlt0 (by omega)
      have n5 : ¬ 5 ≤ ru k := by rw [hr, show (5 : Int32) = nI 5 from rfl, n_le (by decide) (by omega)]; omega
      rw [if_pos ct, if_pos chd, if_neg n0, if_neg n5]
theorem r_asks {K : Mm → Option Mm} {Q : Mm → Prop} {σ : Mm} {A : Nat → Int32} (hn : n ≤ 5) (hA : AK n g to ru co left holds board day cN σ) (hru : ∀ k, k < n → ru k = -1 ∨ ru k = nI (ix (ru k)) ∧ ix (ru k) < 5) (hAs : ∀ k, k < n → A k = asV to ru holds board W (ltr board day (nI (tsum cN 24)) g co left) k)
    (hW : ∀ k, k < n → to k = -1 → ru k = nI (ix (ru k)) → ix (ru k) < 5 → ∀ τ, τ 705 = σ 705 → (∀ j, j < 6 → lamR τ j = ltr board day (nI (tsum cN 24)) g co left k j) →
      Ok (zfX12_goThrough 705 (160 * ru k) (σ 706 (ix (ru k))) τ) (fun τ' => τ' 703 14 = W (ix (ru k)) (ltr board day (nI (tsum cN 24)) g co left k) ∧ FrG τ τ'))
    (hK : ∀ τ, (∀ k, k < n → τ 718 k = A k ∧ τ 714 (18 + k) = A k) → (∀ j, (j < 18 ∨ 18 + n ≤ j) → τ 714 j = σ 714 j) → (∀ k, n ≤ k → τ 718 k = σ 718 k) → (∀ x, (x < 5 ∨ x = 6 ∨ x = 7 ∨ x = 15 ∨ x = 16 ∨ 17 < x) → τ 703 x = σ 703 x) → (∀ c, c ≠ 703 → c ≠ 707 → c ≠ 714 → c ≠ 718 → τ c = σ c) → Ok (K τ) Q) : Ok (zfX12_goes_L252 K NF 0 σ) Q := by
  refine ok_up (F := fun fu (s : Int32 × Mm) => zfX12_goes_L252 K fu s.1 s.2) n (fun i s => s.1 = nI i ∧ (∀ k, k < i → s.2 718 k = A k ∧ s.2 714 (18 + k) = A k) ∧ (∀ j, (j < 18 ∨ 18 + i ≤ j) → s.2 714 j = σ 714 j) ∧ (∀ k, i ≤ k → s.2 718 k = σ 718 k) ∧ (∀ x, (x < 5 ∨ x = 6 ∨ x = 7 ∨ x = 15 ∨ x = 16 ∨ 17 < x) → s.2 703 x = σ 703 x) ∧ (∀ c, c ≠ 703 → c ≠ 707 → c ≠ 714 → c ≠ 718 → s.2 c = σ c)) ?_ ?_ 0 NF (0, σ) ⟨rfl, fun k hk => absurd hk (Nat.not_lt_zero k), fun _ _ => rfl, fun _ _ => rfl, fun _ _ => rfl, fun _ _ _ _ _ => rfl⟩ (by omega) (by unfold NF; omega)
  · rintro i fu ⟨y, τ⟩ hi ⟨hy, h1, h2, h3, h4, h5⟩ hk
    have hy : y = nI i := hy
    subst hy
    have h1 : ∀ k, k < i → τ 718 k = A k ∧ τ 714 (18 + k) = A k := h1
    have h2 : ∀ j, (j < 18 ∨ 18 + i ≤ j) → τ 714 j = σ 714 j := h2
    have h3 : ∀ k, i ≤ k → τ 718 k = σ 718 k := h3
    have h4 : ∀ x, (x < 5 ∨ x = 6 ∨ x = 7 ∨ x = 15 ∨ x = 16 ∨ 17 < x) → τ 703 x = σ 703 x := h4
    have h5 : ∀ c, c ≠ 703 → c ≠ 707 → c ≠ 714 → c ≠ 718 → τ c = σ c := h5
    have hA' : AK n g to ru co left holds board day cN τ := by
      obtain ⟨a1, a2, a3, a4, a5, a6⟩ := hA
      refine ⟨by rw [h4 24 (by omega)]; exact a1, by rw [h2 54 (by omega)]; exact a2, by rw [h2 56 (by omega)]; exact a3, by rw [h4 41 (by omega)]; exact a4, fun k hk => ?_, fun j hj => by rw [h5 721 (by decide) (by decide) (by decide) (by decide)]; exact a6 j hj⟩
      rw [h5 717 (by decide) (by decide) (by decide) (by decide), h5 716 (by decide) (by decide) (by decide) (by decide), h2 k (by omega), h5 708 (by decide) (by decide) (by decide) (by decide), h2 (6 + k) (by omega)]
      exact a5 k hk
    show Ok (zfX12_goes_L252 K (fu + 1) (nI i) τ) _
    unfold zfX12_goes_L252
    rw [hA'.1, if_neg (by rw [n_le (by omega) (by omega)]; omega), ok_bd2]
    refine ok_mono (r_askOf hn hi hA' (hru i hi) (fun x1 x2 x3 φ p1 p2 => by
      rw [h5 706 (by decide) (by decide) (by decide) (by decide)]
      exact hW i hi x1 x2 x3 φ (by rw [p1, h5 705 (by decide) (by decide) (by decide) (by decide)]) p2)) (fun a ha => ?_)
    obtain ⟨b1, b2, b3⟩ := ha
    have e18 : (18 : Int32) + nI i = nI (18 + i) := n_add 18 i
    rw [ck_t ((n_in (by omega)).mpr (by omega)), ok_lt, ck_t ((n_in (by omega)).mpr (by omega)), e18, ck_t ((n_in (by omega)).mpr (by omega)), ok_lt, ok_lt, n_ix (show i < 2147483648 by omega), n_ix (show 18 + i < 2147483648 by omega), zst_v, show nI i + 1 = nI (i + 1) from n_add _ 1, b1, ← hAs i hi]
    generalize hφ : zst (zst a.2 718 i (A i)) 714 (18 + i) (A i) = φ
    have p718 : φ 718 = upd (τ 718) i (A i) := by rw [← hφ, zst_n (by decide), zst_s, b2 718 (by decide) (by decide)]
    have p714 : φ 714 = upd (τ 714) (18 + i) (A i) := by rw [← hφ, zst_s, zst_n (by decide), b2 714 (by decide) (by decide)]
    have pc : ∀ c, c ≠ 714 → c ≠ 718 → φ c = a.2 c := fun c x1 x2 => by rw [← hφ, zst_n x1, zst_n x2]
    refine hk (nI (i + 1), φ) ⟨rfl, fun k hk => ?_, fun j hj => ?_, fun k hk => ?_, fun x hx => ?_, fun c x1 x2 x3 x4 => ?_⟩
    · dsimp only; rw [p718, p714]
      by_cases e : k = i
      · subst e; rw [upd_s, upd_s]; exact ⟨rfl, rfl⟩
      · rw [upd_n e, upd_n (by omega)]; exact h1 k (by omega)
    · dsimp only; rw [p714, upd_n (by omega)]; exact h2 j (by omega)
    · dsimp only; rw [p718, upd_n (by omega)]; exact h3 k (by omega)
    · dsimp only; rw [pc 703 (by decide) (by decide), b3 x hx]; exact h4 x hx
    · dsimp only; rw [pc c x3 x4, b2 c x1 x2]; exact h5 c x1 x2 x3 x4
  · rintro fu ⟨y, τ⟩ ⟨hy, h1, h2, h3, h4, h5⟩
    have hy : y = nI n := hy
    subst hy
    have h4' : ∀ x, (x < 5 ∨ x = 6 ∨ x = 7 ∨ x = 15 ∨ x = 16 ∨ 17 < x) → τ 703 x = σ 703 x := h4
    show Ok (zfX12_goes_L252 K (fu + 1) (nI n) τ) _
    unfold zfX12_goes_L252
    rw [h4' 24 (by omega), hA.1, if_pos (by rw [n_le (by omega) (by omega)]; omega)]
    exact hK τ h1 h2 h3 h4 h5
end
