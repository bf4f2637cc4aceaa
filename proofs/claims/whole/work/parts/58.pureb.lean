/-! ===== the class closes a day ===== -/
def cwt (j : Nat) (wa wt : Nat → Nat) (k : Nat) : Nat := if k < 4 * j then (if k % 4 = 0 then 0 else if k % 4 ≤ wa (k / 4) then wt (k - 1) else 0) else wt k
section
variable {q i wa : Nat} {R : Nat → Nat} {g0 : Int32} {τ0 : Mm} {k156 : Mm → Option Mm} {Q : Mm → Prop}
/-- how the waiting of one sort stands when so many ages are still to be gone through -/
def CW (q i wa : Nat) (R : Nat → Nat) (g0 : Int32) (τ0 : Mm) (r : Nat) (τ : Mm) : Prop :=
  (∀ b, b < r → τ (q + 7) (4 * i + b) = nI (R b)) ∧ (r < 4 → τ (q + 7) (4 * i + r) = 0) ∧ (∀ b, r < b → b < 4 → τ (q + 7) (4 * i + b) = nI (if b ≤ wa then R (b - 1) else 0)) ∧
  τ (q + 9) i = g0 + nI (if r ≤ wa then R wa else 0) ∧ (∀ k, (k < 4 * i ∨ 4 * i + 4 ≤ k) → τ (q + 7) k = τ0 (q + 7) k) ∧ (∀ k, k ≠ i → τ (q + 9) k = τ0 (q + 9) k) ∧ (∀ c, c ≠ q + 7 → c ≠ q + 9 → τ c = τ0 c)
theorem c_waits (hi : i < 6) (hwa : wa ≤ 3) (h9 : τ0 9 i = nI wa) (hq : 11 ≤ q) (hz : ∀ b, b < 4 → wa < b → R b = 0) (hK : ∀ τ, CW q i wa R g0 τ0 0 τ → Ok (k156 τ) Q) : ∀ r fu τ, r ≤ 4 → r < fu → CW q i wa R g0 τ0 r τ → Ok (zfX6_closeDay_L75 k156 (nI (4 * i)) q (nI i) fu (nI r + (-1)) τ) Q := by
  intro r
  induction r with
  | zero =>
    intro fu τ _ hf hC
    obtain ⟨fu, rfl⟩ : ∃ g, fu = g + 1 := ⟨fu - 1, by omega⟩
    unfold zfX6_closeDay_L75
    rw [if_pos (by decide)]
    exact hK τ hC
  | succ r ih =>
    intro fu τ hr hf hC
    obtain ⟨fu, rfl⟩ : ∃ g, fu = g + 1 := ⟨fu - 1, by omega⟩
    obtain ⟨c1, c2, c3, c4, c5, c6, c7⟩ := hC
    have hin : inb (nI (4 * i + r)) 24 := (n_in (by omega)).mpr (by omega)
    have hii : inb (nI i) 6 := (n_in (by omega)).mpr hi
    rw [show nI (r + 1) + (-1) = nI r from n_neg r]
    unfold zfX6_closeDay_L75
    have e4 : ¬ (4 : Int32) ≤ nI r + 1 ↔ r < 3 := by rw [show nI r + 1 = nI (r + 1) from n_add _ 1, show (4 : Int32) = nI 4 from rfl, n_le (by decide) (by omega)]; omega
    rw [if_neg (n_nlt0 (by omega)), n_add]
    simp only [ck_t hin, ck_t hii, lt_p, n_ix (show 4 * i + r < 2147483648 by omega), n_ix (show i < 2147483648 by omega)]
    rw [zst_n (show 9 ≠ q + 7 by omega), c7 9 (by omega) (by omega), h9, c1 r (by omega)]
    by_cases cw : wa ≤ r
    · rw [if_pos (by rw [n_le (by omega) (by omega)]; exact cw), zst_n (show q + 9 ≠ q + 7 by omega), c4]
      refine ih fu _ (by omega) (by omega) ⟨fun b hb => ?_, fun _ => ?_, fun b hb1 hb2 => ?_, ?_, fun k hk => ?_, fun k hk => ?_, fun c a1 a2 => ?_⟩
      · rw [zst_n (by omega), zst_k (by omega)]; exact c1 b (by omega)
      · rw [zst_n (by omega), zst_v]
      · rw [zst_n (by omega), zst_k (by omega)]
        by_cases e : b = r + 1
        · subst e; rw [c2 (by omega), if_neg (by omega)]; rfl
        · exact c3 b (by omega) hb2
      · rw [zst_v, if_neg (show ¬ r + 1 ≤ wa by omega)]
        by_cases e : r ≤ wa
        · have : r = wa := by omega
          subst this
          rw [if_pos (Nat.le_refl _), n_0]; grind
        · rw [if_neg e, hz r (by omega) (by omega), n_0]; grind
      · rw [zst_n (by omega), zst_k (by omega)]; exact c5 k hk
      · rw [zst_k hk, zst_n (by omega)]; exact c6 k hk
      · rw [zst_n a2, zst_n a1]; exact c7 c a1 a2
    · rw [if_neg (by rw [n_le (by omega) (by omega)]; exact cw), if_neg (e4.mpr (by omega)), show nI (4 * i + r) + 1 = nI (4 * i + r + 1) from n_add _ 1, ck_t ((n_in (by omega)).mpr (by omega)), n_ix (show 4 * i + r + 1 < 2147483648 by omega)]
      refine ih fu _ (by omega) (by omega) ⟨fun b hb => ?_, fun _ => ?_, fun b hb1 hb2 => ?_, ?_, fun k hk => ?_, fun k hk => ?_, fun c a1 a2 => ?_⟩
      · rw [zst_k (by omega), zst_k (by omega)]; exact c1 b (by omega)
      · rw [zst_k (by omega), zst_v]
      · by_cases e : b = r + 1
        · subst e
          rw [show 4 * i + (r + 1) = 4 * i + r + 1 by omega, zst_v, if_pos (by omega), show r + 1 - 1 = r by omega]
        · rw [zst_k (by omega), zst_k (by omega)]; exact c3 b (by omega) hb2
      · rw [zst_n (by omega), zst_n (by omega), c4, if_pos (show r + 1 ≤ wa by omega), if_pos (show r ≤ wa by omega)]
      · rw [zst_k (by omega), zst_k (by omega)]; exact c5 k hk
      · rw [zst_n (by omega), zst_n (by omega)]; exact c6 k hk
      · rw [zst_n a1, zst_n a1]; exact c7 c a1 a2
end
theorem c_close {N m q : Nat} {gl ro wa wt : Nat → Nat} {σ : Mm} (hq : 43 ≤ q ∨ q + 9 < 37) (hq11 : 11 ≤ q) (hN : N ≤ 6) (hm : m ≤ 6) (h5 : σ 37 5 = nI N) (hm1 : σ 3 1 = nI m) (hgl : ∀ k, k < N → σ (q + 1) k = nI (gl k) ∧ gl k ≤ 99) (hro : ∀ k, k < N → σ 6 k = nI (ro k) ∧ ro k ≤ 99) (hwa : ∀ i, i < m → σ 9 i = nI (wa i) ∧ wa i ≤ 3)
    (hwt : ∀ k, k < 24 → σ (q + 7) k = nI (wt k)) (hz : ∀ i b, i < m → b < 4 → wa i < b → wt (4 * i + b) = 0) :
    Ok (zfX6_closeDay q σ) (fun τ => (∀ k, k < N → τ (q + 2) k = nI (gl k) ∧ τ (q + 1) k = nI (gl k - min (ro k) (gl k))) ∧ (∀ k, N ≤ k → τ (q + 2) k = σ (q + 2) k ∧ τ (q + 1) k = σ (q + 1) k) ∧
      (∀ k, k < 24 → τ (q + 7) k = nI (cwt m wa wt k)) ∧ (∀ k, 24 ≤ k → τ (q + 7) k = σ (q + 7) k) ∧ (∀ i, i < m → τ (q + 9) i = σ (q + 9) i + nI (wt (4 * i + wa i))) ∧ (∀ i, m ≤ i → τ (q + 9) i = σ (q + 9) i) ∧
      τ q 1 = σ q 1 + 1 ∧ (∀ k, k ≠ 1 → τ q k = σ q k) ∧ ∀ c, c ≠ q → c ≠ q + 1 → c ≠ q + 2 → c ≠ q + 7 → c ≠ q + 9 → τ c = σ c) := by
  unfold zfX6_closeDay
  refine ok_lg (fun k55 hk55 => ?_)
  refine ok_up (F := fun fu (s : Int32 × Mm) => zfX6_closeDay_L2 k55 q fu s.1 s.2) N (fun i s => s.1 = nI i ∧ (∀ k, k < i → s.2 (q + 2) k = nI (gl k) ∧ s.2 (q + 1) k = nI (gl k - min (ro k) (gl k))) ∧ (∀ k, i ≤ k → s.2 (q + 2) k = σ (q + 2) k ∧ s.2 (q + 1) k = σ (q + 1) k) ∧ (∀ c, c ≠ q + 1 → c ≠ q + 2 → s.2 c = σ c)) ?_ ?_ 0 NF (0, σ) ⟨rfl, fun k hk => absurd hk (Nat.not_lt_zero k), fun _ _ => ⟨rfl, rfl⟩, fun _ _ _ => rfl⟩ (by omega) (by unfold NF; omega)
  · rintro i fu ⟨y, τ⟩ hi ⟨hy, h1, h2, h3⟩ hk
    have hy : y = nI i := hy
    subst hy
    have h1 : ∀ k, k < i → τ (q + 2) k = nI (gl k) ∧ τ (q + 1) k = nI (gl k - min (ro k) (gl k)) := h1
    have h2 : ∀ k, i ≤ k → τ (q + 2) k = σ (q + 2) k ∧ τ (q + 1) k = σ (q + 1) k := h2
    have h3 : ∀ c, c ≠ q + 1 → c ≠ q + 2 → τ c = σ c := h3
    show Ok (zfX6_closeDay_L2 _ q (fu + 1) (nI i) τ) _
    unfold zfX6_closeDay_L2
    have hin : inb (nI i) 6 := (n_in (by omega)).mpr (by omega)
    obtain ⟨g1, g2⟩ := hgl i hi
    obtain ⟨r1, r2⟩ := hro i hi
    rw [h3 37 (by omega) (by omega), h5, if_neg (by rw [n_le (by omega) (by omega)]; omega)]
    simp only [ck_t hin, lt_p, n_ix (show i < 2147483648 by omega), show nI i + 1 = nI (i + 1) from n_add _ 1]
    rw [(h2 i (Nat.le_refl _)).2, g1, zst_n (show q + 1 ≠ q + 2 by omega), (h2 i (Nat.le_refl _)).2, g1, zst_n (show 6 ≠ q + 2 by omega), h3 6 (by omega) (by omega), r1, n_zmin (by omega) (by omega), n_sub (Nat.min_le_right _ _)]
    generalize hφ : zst (zst τ (q + 2) i (nI (gl i))) (q + 1) i (nI (gl i - min (ro i) (gl i))) = φ
    have f1 : φ (q + 1) = upd (τ (q + 1)) i (nI (gl i - min (ro i) (gl i))) := by rw [← hφ, zst_s, zst_n (by omega)]
    have f2 : φ (q + 2) = upd (τ (q + 2)) i (nI (gl i)) := by rw [← hφ, zst_n (by omega), zst_s]
    refine hk (nI (i + 1), φ) ⟨rfl, fun k hk => ?_, fun k hk => ?_, fun c a1 a2 => ?_⟩
    · dsimp only; rw [f1, f2]
      by_cases e : k = i
      · subst e; rw [upd_s, upd_s]; exact ⟨rfl, rfl⟩
      · rw [upd_n e, upd_n e]; exact h1 k (by omega)
    · dsimp only; rw [f1, f2, upd_n (by omega), upd_n (by omega)]; exact h2 k (by omega)
    · dsimp only; rw [← hφ, zst_n a1, zst_n a2]; exact h3 c a1 a2
  · rintro fu ⟨y, τ⟩ ⟨hy, h1, h2, h3⟩
    have hy : y = nI N := hy
    subst hy
    have h1 : ∀ k, k < N → τ (q + 2) k = nI (gl k) ∧ τ (q + 1) k = nI (gl k - min (ro k) (gl k)) := h1
    have h2 : ∀ k, N ≤ k → τ (q + 2) k = σ (q + 2) k ∧ τ (q + 1) k = σ (q + 1) k := h2
    have h3 : ∀ c, c ≠ q + 1 → c ≠ q + 2 → τ c = σ c := h3
    show Ok (zfX6_closeDay_L2 _ q (fu + 1) (nI N) τ) _
    unfold zfX6_closeDay_L2
    rw [h3 37 (by omega) (by omega), h5, if_pos (by rw [n_le (by omega) (by omega)]; omega), hk55]
    refine ok_lg (fun k162 hk162 => ?_)
    refine ok_up (F := fun fu (s : Int32 × Mm) => zfX6_closeDay_L57 k162 q fu s.1 s.2) m (fun i s => s.1 = nI i ∧ (∀ k, k < 24 → s.2 (q + 7) k = nI (cwt i wa wt k)) ∧ (∀ k, 24 ≤ k → s.2 (q + 7) k = σ (q + 7) k) ∧ (∀ k, k < i → s.2 (q + 9) k = σ (q + 9) k + nI (wt (4 * k + wa k))) ∧ (∀ k, i ≤ k → s.2 (q + 9) k = σ (q + 9) k) ∧ (∀ c, c ≠ q + 7 → c ≠ q + 9 → s.2 c = τ c)) ?_ ?_ 0 NF (0, τ) ⟨rfl, fun k hk => ?_, fun k _ => by dsimp only; rw [h3 (q + 7) (by omega) (by omega)], fun k hk => absurd hk (Nat.not_lt_zero k), fun k _ => by dsimp only; rw [h3 (q + 9) (by omega) (by omega)], fun _ _ _ => rfl⟩ (by omega) (by unfold NF; omega)
    · rintro i fu ⟨y, υ⟩ hi ⟨hy, k1, k2, k3, k4, k5⟩ hk
      have hy : y = nI i := hy
      subst hy
      have k1 : ∀ k, k < 24 → υ (q + 7) k = nI (cwt i wa wt k) := k1
      have k2 : ∀ k, 24 ≤ k → υ (q + 7) k = σ (q + 7) k := k2
      have k3 : ∀ k, k < i → υ (q + 9) k = σ (q + 9) k + nI (wt (4 * k + wa k)) := k3
      have k4 : ∀ k, i ≤ k → υ (q + 9) k = σ (q + 9) k := k4
      have k5 : ∀ c, c ≠ q + 7 → c ≠ q + 9 → υ c = τ c := k5
      show Ok (zfX6_closeDay_L57 _ q (fu + 1) (nI i) υ) _
      unfold zfX6_closeDay_L57
      obtain ⟨w1, w2⟩ := hwa i hi
      have e4 : nI i * 4 = nI (4 * i) := by rw [show (4 : Int32) = nI 4 from rfl, n_mul]; congr 1; omega
      have k5' : ∀ c, c ≠ q + 7 → c ≠ q + 9 → c ≠ q + 1 → c ≠ q + 2 → υ c = σ c := fun c a1 a2 a3 a4 => by rw [k5 c a1 a2, h3 c a3 a4]
      rw [k5' 3 (by omega) (by omega) (by omega) (by omega), hm1, if_neg (by rw [n_le (by omega) (by omega)]; omega), ok_lt, ok_lt, e4, show (3 : Int32) = nI 4 + (-1) by decide]
      refine c_waits (wa := wa i) (R := fun b => wt (4 * i + b)) (g0 := σ (q + 9) i) (τ0 := υ) (by omega) w2 (by rw [k5' 9 (by omega) (by omega) (by omega) (by omega)]; exact w1) hq11 (fun b hb1 hb2 => hz i b hi hb1 hb2) (fun φ hφ => ?_) 4 NF υ (by omega) (by unfold NF; omega) ⟨fun b hb => ?_, fun h => by omega, fun b h1 h2 => by omega, ?_, fun _ _ => rfl, fun _ _ => rfl, fun _ _ _ => rfl⟩
      · obtain ⟨c1, c2, c3, c4, c5, c6, c7⟩ := hφ
        rw [ok_lt, show nI i + 1 = nI (i + 1) from n_add _ 1]
        refine hk (nI (i + 1), φ) ⟨rfl, fun k hk => ?_, fun k hk => ?_, fun k hk => ?_, fun k hk => ?_, fun c a1 a2 => ?_⟩
        · dsimp only
          by_cases c : 4 * i ≤ k ∧ k < 4 * i + 4
          · obtain ⟨b, rfl⟩ : ∃ b, k = 4 * i + b := ⟨k - 4 * i, by omega⟩
            unfold cwt
            rw [if_pos (by omega), show (4 * i + b) % 4 = b by omega, show (4 * i + b) / 4 = i by omega]
            by_cases e : b = 0
            · subst e; rw [c2 (by omega), if_pos rfl]; rfl
            · rw [c3 b (by omega) (by omega), if_neg e]
              dsimp only
              rw [show 4 * i + (b - 1) = 4 * i + b - 1 by omega]
          · rw [c5 k (by omega), k1 k hk]
            unfold cwt
            by_cases c' : k < 4 * i
            · rw [if_pos c', if_pos (show k < 4 * (i + 1) by omega)]
            · rw [if_neg c', if_neg (show ¬ k < 4 * (i + 1) by omega)]
        · dsimp only; rw [c5 k (by omega)]; exact k2 k hk
        · dsimp only
          by_cases e : k = i
          · subst e; rw [c4, if_pos (Nat.zero_le _)]
          · rw [c6 k e]; exact k3 k (by omega)
        · dsimp only; rw [c6 k (by omega)]; exact k4 k (by omega)
        · dsimp only; rw [c7 c a1 a2]; exact k5 c a1 a2
      · rw [k1 _ (by omega)]
        unfold cwt
        rw [if_neg (by omega)]
      · rw [k4 i (Nat.le_refl _), if_neg (by omega), n_0]; grind
    · rintro fu ⟨y, υ⟩ ⟨hy, k1, k2, k3, k4, k5⟩
      have hy : y = nI m := hy
      subst hy
      have k1 : ∀ k, k < 24 → υ (q + 7) k = nI (cwt m wa wt k) := k1
      have k2 : ∀ k, 24 ≤ k → υ (q + 7) k = σ (q + 7) k := k2
      have k3 : ∀ k, k < m → υ (q + 9) k = σ (q + 9) k + nI (wt (4 * k + wa k)) := k3
      have k4 : ∀ k, m ≤ k → υ (q + 9) k = σ (q + 9) k := k4
      have k5 : ∀ c, c ≠ q + 7 → c ≠ q + 9 → υ c = τ c := k5
      show Ok (zfX6_closeDay_L57 _ q (fu + 1) (nI m) υ) _
      unfold zfX6_closeDay_L57
      rw [k5 3 (by omega) (by omega), h3 3 (by omega) (by omega), hm1, if_pos (by rw [n_le (by omega) (by omega)]; omega), hk162, ok_lt, ok_s]
      have hqq : υ q = σ q := by rw [k5 q (by omega) (by omega), h3 q (by omega) (by omega)]
      refine ⟨fun k hk => ?_, fun k hk => ?_, fun k hk => ?_, fun k hk => ?_, fun k hk => ?_, fun k hk => ?_, by rw [zst_v, hqq], fun k hk => by rw [zst_k hk, hqq], fun c a1 a2 a3 a4 a5 => by rw [zst_n a1, k5 c a4 a5, h3 c a2 a3]⟩
      · rw [zst_n (by omega), zst_n (by omega), k5 (q + 2) (by omega) (by omega), k5 (q + 1) (by omega) (by omega)]; exact h1 k hk
      · rw [zst_n (by omega), zst_n (by omega), k5 (q + 2) (by omega) (by omega), k5 (q + 1) (by omega) (by omega)]; exact h2 k hk
      · rw [zst_n (by omega)]; exact k1 k hk
      · rw [zst_n (by omega)]; exact k2 k hk
      · rw [zst_n (by omega)]; exact k3 k hk
      · rw [zst_n (by omega)]; exact k4 k hk
    · dsimp only
      rw [h3 (q + 7) (by omega) (by omega), hwt k hk]
      unfold cwt
      rw [if_neg (by omega)]
