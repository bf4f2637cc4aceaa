/-! ===== the class opens a day ===== -/
def wsum (wt : Nat → Nat) : Nat → Nat
  | 0 => 0
  | i + 1 => wsum wt i + wt (4 * i) + wt (4 * i + 1) + wt (4 * i + 2) + wt (4 * i + 3)
theorem wsum_congr {wt wt2 : Nat → Nat} : ∀ {i : Nat}, (∀ k, k < 4 * i → wt k = wt2 k) → wsum wt i = wsum wt2 i := by
  intro i
  induction i with
  | zero => intro _; rfl
  | succ i ih =>
    intro h
    unfold wsum
    rw [ih (fun k hk => h k (by omega)), h _ (by omega), h _ (by omega), h _ (by omega), h _ (by omega)]
theorem wsum_le {wt : Nat → Nat} (h : ∀ k, wt k ≤ 1000) : ∀ {i : Nat}, wsum wt i ≤ 4000 * i := by
  intro i
  induction i with
  | zero => exact Nat.le_refl _
  | succ i ih =>
    unfold wsum
    have h0 := h (4 * i); have h1 := h (4 * i + 1); have h2 := h (4 * i + 2); have h3 := h (4 * i + 3)
    omega
/-- the waiting rows of the first j sorts with today's buyers -/
def owt (j : Nat) (mm wt : Nat → Nat) : Nat → Nat := fun k => if k < 4 * j ∧ k % 4 = 0 then mm (k / 4) else wt k
section
variable {N m q : Nat} {br ma go wt : Nat → Nat} {co : Nat → Int32} {σ : Mm} {f : Int32}
def brt (br go : Nat → Nat) (k : Nat) : Nat := min (br k) (99 - go k)
theorem c_sum4 {x3 i : Nat} {k175 : Int32 → Mm → Option (Int32 × Mm)} {τ : Mm} {wt : Nat → Nat} (hi : i < 6) (hw : ∀ k, k < 24 → τ (q + 7) k = nI (wt k)) : zfX6_openDay_L148 k175 (nI i) q NF (nI x3) 0 τ = k175 (nI (x3 + wt (4 * i) + wt (4 * i + 1) + wt (4 * i + 2) + wt (4 * i + 3))) τ := by
  obtain ⟨M, hM⟩ : ∃ M, NF = M + 1 + 1 + 1 + 1 + 1 := ⟨19995, rfl⟩
  rw [hM]
  have g : ∀ a fu x, a < 4 → zfX6_openDay_L148 k175 (nI i) q (fu + 1) (nI x) (nI a) τ = zfX6_openDay_L148 k175 (nI i) q fu (nI (x + wt (4 * i + a))) (nI (a + 1)) τ := by
    intro a fu x ha
    have e : nI i * 4 + nI a = nI (4 * i + a) := by rw [show (4 : Int32) = nI 4 from rfl, n_mul, n_add]; congr 1; omega
    conv => lhs; unfold zfX6_openDay_L148
    rw [if_neg (by rw [show (4 : Int32) = nI 4 from rfl, n_le (by decide) (by omega)]; omega), e, ck_t ((n_in (by omega)).mpr (by omega)), lt_p, lt_p, n_ix (by omega), hw _ (by omega), n_add, show nI a + 1 = nI (a + 1) from n_add _ 1]
  have ge : ∀ fu x, zfX6_openDay_L148 k175 (nI i) q (fu + 1) x (nI 4) τ = k175 x τ := by
    intro fu x
    unfold zfX6_openDay_L148
    rw [if_pos (by decide)]
  rw [← n_0, g 0 _ _ (by omega), g 1 _ _ (by omega), g 2 _ _ (by omega), g 3 _ _ (by omega), ge]
  rfl
theorem c_open (hq : 43 ≤ q ∨ q + 9 < 37) (hq11 : 11 ≤ q) (hN : N ≤ 6) (hm : m ≤ 6) (h5 : σ 37 5 = nI N) (hm1 : σ 3 1 = nI m) (hgo : ∀ k, k < N → σ (q + 1) k = nI (go k) ∧ go k ≤ 99) (hbr : ∀ k, k < N → σ 4 k = nI (br k) ∧ br k ≤ 99 ∧ σ 5 k = co k) (hwt : ∀ k, k < 24 → σ (q + 7) k = nI (wt k)) (hma : ∀ i, i < m → σ 8 i = nI (ma i)) :
    Ok (zfX6_openDay q f σ) (fun a => a.1 = nI (wsum (owt m (fun i => if f = 0 then ma i else 2 * ma i) wt) m) ∧
      (∀ k, k < N → a.2 (q + 1) k = nI (go k + brt br go k) ∧ a.2 (q + 3) k = σ (q + 3) k - nI (brt br go k) * co k ∧ a.2 (q + 5) k = 0 ∧ a.2 39 k = nI (go k + brt br go k)) ∧
      (∀ k, N ≤ k → a.2 (q + 1) k = σ (q + 1) k ∧ a.2 (q + 3) k = σ (q + 3) k ∧ a.2 (q + 5) k = σ (q + 5) k) ∧
      (∀ k, k < 24 → a.2 (q + 7) k = nI (owt m (fun i => if f = 0 then ma i else 2 * ma i) wt k)) ∧ (∀ k, 24 ≤ k → a.2 (q + 7) k = σ (q + 7) k) ∧
      (∀ c, c ≠ q + 1 → c ≠ q + 3 → c ≠ q + 5 → c ≠ q + 7 → c ≠ 39 → a.2 c = σ c)) := by
  unfold zfX6_openDay
  rw [ok_lt]
  generalize hmm : (fun i => if f = 0 then ma i else 2 * ma i) = mm
  refine ok_up (F := fun fu (s : Int32 × Mm) => zfX6_openDay_L2 (fun σ90 => lt (fun (x3_181 : Int32) (σ181 : Mm) => some (x3_181, σ181)) (fun k181 => zfX6_openDay_L95 k181 q f NF 0 0 σ90)) q fu s.1 s.2) N (fun i s => s.1 = nI i ∧ (∀ k, k < i → s.2 (q + 1) k = nI (go k + brt br go k) ∧ s.2 (q + 3) k = σ (q + 3) k - nI (brt br go k) * co k ∧ s.2 (q + 5) k = 0 ∧ s.2 39 k = nI (go k + brt br go k)) ∧ (∀ k, i ≤ k → s.2 (q + 1) k = σ (q + 1) k ∧ s.2 (q + 3) k = σ (q + 3) k ∧ s.2 (q + 5) k = σ (q + 5) k) ∧ (∀ c, c ≠ q + 1 → c ≠ q + 3 → c ≠ q + 5 → c ≠ 39 → s.2 c = σ c)) ?_ ?_ 0 NF (0, σ) ⟨rfl, fun k hk => absurd hk (Nat.not_lt_zero k), fun _ _ => ⟨rfl, rfl, rfl⟩, fun _ _ _ _ _ => rfl⟩ (by omega) (by unfold NF; omega)
  · rintro i fu ⟨y, τ⟩ hi ⟨hy, h1, h2, h3⟩ hk
    have hy : y = nI i := hy
    subst hy
    have h1 : ∀ k, k < i → τ (q + 1) k = nI (go k + brt br go k) ∧ τ (q + 3) k = σ (q + 3) k - nI (brt br go k) * co k ∧ τ (q + 5) k = 0 ∧ τ 39 k = nI (go k + brt br go k) := h1
    have h2 : ∀ k, i ≤ k → τ (q + 1) k = σ (q + 1) k ∧ τ (q + 3) k = σ (q + 3) k ∧ τ (q + 5) k = σ (q + 5) k := h2
    have h3 : ∀ c, c ≠ q + 1 → c ≠ q + 3 → c ≠ q + 5 → c ≠ 39 → τ c = σ c := h3
    show Ok (zfX6_openDay_L2 _ q (fu + 1) (nI i) τ) _
    unfold zfX6_openDay_L2
    have hin : inb (nI i) 6 := (n_in (by omega)).mpr (by omega)
    obtain ⟨g1, g2⟩ := hgo i hi
    obtain ⟨b1, b2, b3⟩ := hbr i hi
    have e0 : (99 : Int32) = nI 99 := rfl
    have ezm : zmin (nI (br i)) (99 - nI (go i)) = nI (brt br go i) := by
      rw [e0, n_sub g2, n_zmin (by omega) (by omega)]; rfl
    rw [h3 37 (by omega) (by omega) (by omega) (by omega), h5, if_neg (by rw [n_le (by omega) (by omega)]; omega)]
    simp only [ck_t hin, lt_p, n_ix (show i < 2147483648 by omega)]
    rw [h3 4 (by omega) (by omega) (by omega) (by omega), b1, (h2 i (Nat.le_refl _)).1, g1, ezm, n_add, zst_n (show q + 3 ≠ q + 1 by omega), (h2 i (Nat.le_refl _)).2.1, zst_n (show 5 ≠ q + 1 by omega), h3 5 (by omega) (by omega) (by omega) (by omega), b3]
    rw [zst_n (show q + 1 ≠ q + 5 by omega), zst_n (show q + 1 ≠ q + 3 by omega), zst_v, show nI i + 1 = nI (i + 1) from n_add _ 1]
    generalize hφ : zst (zst (zst (zst τ (q + 1) i (nI (go i + brt br go i))) (q + 3) i (σ (q + 3) i - nI (brt br go i) * co i)) (q + 5) i 0) 39 i (nI (go i + brt br go i)) = φ
    have f1 : φ (q + 1) = upd (τ (q + 1)) i (nI (go i + brt br go i)) := by rw [← hφ, zst_n (by omega), zst_n (by omega), zst_n (by omega), zst_s]
    have f3 : φ (q + 3) = upd (τ (q + 3)) i (σ (q + 3) i - nI (brt br go i) * co i) := by rw [← hφ, zst_n (by omega), zst_n (by omega), zst_s, zst_n (by omega)]
    have f5 : φ (q + 5) = upd (τ (q + 5)) i 0 := by rw [← hφ, zst_n (by omega), zst_s, zst_n (by omega), zst_n (by omega)]
    have f39 : φ 39 = upd (τ 39) i (nI (go i + brt br go i)) := by rw [← hφ, zst_s, zst_n (by omega), zst_n (by omega), zst_n (by omega)]
    have fc : ∀ c, c ≠ q + 1 → c ≠ q + 3 → c ≠ q + 5 → c ≠ 39 → φ c = τ c := fun c a1 a2 a3 a4 => by rw [← hφ, zst_n a4, zst_n a3, zst_n a2, zst_n a1]
    refine hk (nI (i + 1), φ) ⟨rfl, fun k hk => ?_, fun k hk => ?_, fun c a1 a2 a3 a4 => ?_⟩
    · show φ (q + 1) k = _ ∧ φ (q + 3) k = _ ∧ φ (q + 5) k = _ ∧ φ 39 k = _
      rw [f1, f3, f5, f39]
      by_cases e : k = i
      · subst e; rw [upd_s, upd_s, upd_s, upd_s]; exact ⟨rfl, rfl, rfl, rfl⟩
      · rw [upd_n e, upd_n e, upd_n e, upd_n e]; exact h1 k (by omega)
    · show φ (q + 1) k = _ ∧ φ (q + 3) k = _ ∧ φ (q + 5) k = _
      rw [f1, f3, f5, upd_n (by omega), upd_n (by omega), upd_n (by omega)]; exact h2 k (by omega)
    · show φ c = σ c
      rw [fc c a1 a2 a3 a4]; exact h3 c a1 a2 a3 a4
  · rintro fu ⟨y, τ⟩ ⟨hy, h1, h2, h3⟩
    have hy : y = nI N := hy
    subst hy
    have h1 : ∀ k, k < N → τ (q + 1) k = nI (go k + brt br go k) ∧ τ (q + 3) k = σ (q + 3) k - nI (brt br go k) * co k ∧ τ (q + 5) k = 0 ∧ τ 39 k = nI (go k + brt br go k) := h1
    have h2 : ∀ k, N ≤ k → τ (q + 1) k = σ (q + 1) k ∧ τ (q + 3) k = σ (q + 3) k ∧ τ (q + 5) k = σ (q + 5) k := h2
    have h3 : ∀ c, c ≠ q + 1 → c ≠ q + 3 → c ≠ q + 5 → c ≠ 39 → τ c = σ c := h3
    show Ok (zfX6_openDay_L2 _ q (fu + 1) (nI N) τ) _
    unfold zfX6_openDay_L2
    rw [h3 37 (by omega) (by omega) (by omega) (by omega), h5, if_pos (by rw [n_le (by omega) (by omega)]; omega), ok_lt]
    refine ok_up (F := fun fu (s : (Int32 × Int32) × Mm) => zfX6_openDay_L95 (fun (x3_181 : Int32) (σ181 : Mm) => some (x3_181, σ181)) q f fu s.1.1 s.1.2 s.2) m (fun i s => s.1.1 = nI (wsum (owt i mm wt) i) ∧ s.1.2 = nI i ∧ (∀ k, k < 24 → s.2 (q + 7) k = nI (owt i mm wt k)) ∧ (∀ k, 24 ≤ k → s.2 (q + 7) k = σ (q + 7) k) ∧ (∀ c, c ≠ q + 7 → s.2 c = τ c)) ?_ ?_ 0 NF ((0, 0), τ) ⟨rfl, rfl, fun k hk => ?_, fun k _ => by dsimp only; rw [h3 (q + 7) (by omega) (by omega) (by omega) (by omega)], fun _ _ => rfl⟩ (by omega) (by unfold NF; omega)
    · rintro i fu ⟨⟨x, y⟩, υ⟩ hi ⟨hx, hy, k1, k2, k3⟩ hk
      have hx : x = nI (wsum (owt i mm wt) i) := hx
      have hy : y = nI i := hy
      subst hx hy
      have k1 : ∀ k, k < 24 → υ (q + 7) k = nI (owt i mm wt k) := k1
      have k2 : ∀ k, 24 ≤ k → υ (q + 7) k = σ (q + 7) k := k2
      have k3 : ∀ c, c ≠ q + 7 → υ c = τ c := k3
      show Ok (zfX6_openDay_L95 _ q f (fu + 1) (nI (wsum (owt i mm wt) i)) (nI i) υ) _
      unfold zfX6_openDay_L95
      have hin : inb (nI i) 6 := (n_in (by omega)).mpr (by omega)
      have c3 : υ 3 = σ 3 := by rw [k3 3 (by omega), h3 3 (by omega) (by omega) (by omega) (by omega)]
      have c8 : υ 8 = σ 8 := by rw [k3 8 (by omega), h3 8 (by omega) (by omega) (by omega) (by omega)]
      have e4 : nI i * 4 = nI (4 * i) := by rw [show (4 : Int32) = nI 4 from rfl, n_mul]; congr 1; omega
      have emm : (if f = 0 then nI (ma i) else 2 * nI (ma i)) = nI (mm i) := by
        rw [← hmm]; dsimp only
        by_cases c : f = 0
        · rw [if_pos c, if_pos c]
        · rw [if_neg c, if_neg c, show (2 : Int32) = nI 2 from rfl, n_mul]
      rw [c3, hm1, if_neg (by rw [n_le (by omega) (by omega)]; omega)]
      simp only [ck_t hin, lt_p, n_ix (show i < 2147483648 by omega), c8, hma i hi, e4, ck_t (show inb (nI (4 * i)) 24 from (n_in (by omega)).mpr (by omega)), n_ix (show 4 * i < 2147483648 by omega), show nI i + 1 = nI (i + 1) from n_add _ 1]
      have hw' : ∀ k, k < 24 → zst υ (q + 7) (4 * i) (nI (mm i)) (q + 7) k = nI (owt (i + 1) mm wt k) := by
        intro k hk
        rw [zst_s]
        by_cases e : k = 4 * i
        · subst e; rw [upd_s]; unfold owt; rw [if_pos ⟨by omega, by omega⟩, show 4 * i / 4 = i by omega]
        · rw [upd_n e, k1 k hk]
          unfold owt
          by_cases c : k < 4 * i ∧ k % 4 = 0
          · rw [if_pos c, if_pos ⟨by omega, c.2⟩]
          · rw [if_neg c, if_neg (fun q => c ⟨by omega, q.2⟩)]
      have fin : Ok (zfX6_openDay_L148 (fun x3_175 σ175 => zfX6_openDay_L95 (fun (x3_181 : Int32) (σ181 : Mm) => some (x3_181, σ181)) q f fu x3_175 (nI (i + 1)) σ175) (nI i) q NF (nI (wsum (owt i mm wt) i)) 0 (zst υ (q + 7) (4 * i) (nI (mm i)))) (fun a => a.1 = nI (wsum (owt m mm wt) m) ∧
      (∀ k, k < N → a.2 (q + 1) k = nI (go k + brt br go k) ∧ a.2 (q + 3) k = σ (q + 3) k - nI (brt br go k) * co k ∧ a.2 (q + 5) k = 0 ∧ a.2 39 k = nI (go k + brt br go k)) ∧
      (∀ k, N ≤ k → a.2 (q + 1) k = σ (q + 1) k ∧ a.2 (q + 3) k = σ (q + 3) k ∧ a.2 (q + 5) k = σ (q + 5) k) ∧
      (∀ k, k < 24 → a.2 (q + 7) k = nI (owt m mm wt k)) ∧ (∀ k, 24 ≤ k → a.2 (q + 7) k = σ (q + 7) k) ∧
      (∀ c, c ≠ q + 1 → c ≠ q + 3 → c ≠ q + 5 → c ≠ q + 7 → c ≠ 39 → a.2 c = σ c)) := by
        rw [c_sum4 (by omega) hw']
        refine hk ((_, nI (i + 1)), zst υ (q + 7) (4 * i) (nI (mm i))) ⟨?_, rfl, hw', fun k hk => by dsimp only; rw [zst_k (by omega)]; exact k2 k hk, fun c hc => by dsimp only; rw [zst_n hc]; exact k3 c hc⟩
        dsimp only
        have : wsum (owt i mm wt) i = wsum (owt (i + 1) mm wt) i := wsum_congr (fun k hk => by
          unfold owt
          by_cases c : k % 4 = 0
          · rw [if_pos ⟨hk, c⟩, if_pos ⟨by omega, c⟩]
          · rw [if_neg (fun q => c q.2), if_neg (fun q => c q.2)])
        rw [this]
        rfl
      by_cases c : f = 0
      · rw [if_pos c] at emm ⊢
        rw [emm]; exact fin
      · rw [if_neg c] at emm ⊢
        rw [emm]; exact fin
    · rintro fu ⟨⟨x, y⟩, υ⟩ ⟨hx, hy, k1, k2, k3⟩
      have hx : x = nI (wsum (owt m mm wt) m) := hx
      have hy : y = nI m := hy
      subst hx hy
      have k3 : ∀ c, c ≠ q + 7 → υ c = τ c := k3
      show Ok (zfX6_openDay_L95 _ q f (fu + 1) (nI (wsum (owt m mm wt) m)) (nI m) υ) _
      unfold zfX6_openDay_L95
      rw [k3 3 (by omega), h3 3 (by omega) (by omega) (by omega) (by omega), hm1, if_pos (by rw [n_le (by omega) (by omega)]; omega), ok_s]
      refine ⟨rfl, fun k hk => ?_, fun k hk => ?_, k1, k2, fun c a1 a2 a3 a4 a5 => ?_⟩
      · dsimp only; rw [k3 (q + 1) (by omega), k3 (q + 3) (by omega), k3 (q + 5) (by omega), k3 39 (by omega)]; exact h1 k hk
      · dsimp only; rw [k3 (q + 1) (by omega), k3 (q + 3) (by omega), k3 (q + 5) (by omega)]; exact h2 k hk
      · dsimp only; rw [k3 c a4]; exact h3 c a1 a2 a3 a5
    · dsimp only
      rw [h3 (q + 7) (by omega) (by omega) (by omega) (by omega), hwt k hk]
      unfold owt
      rw [if_neg (fun q => by omega)]
end
