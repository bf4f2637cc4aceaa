/-! ===== text: the reference takes a rule ===== -/
theorem nar_b8 (x : Int32) : vp_nar .byte x &&& 255 = x &&& 255 ∧ -128 ≤ (vp_nar .byte x).toInt ∧ (vp_nar .byte x).toInt < 128 := by
  have e : vp_nar .byte x = vp_nar .byte ((Int32.toInt8 x).toInt32) := by rw [vp_nar_byte, pk_vb]
  rw [e]
  exact ⟨rb_and x, rb_in x⟩
theorem r_tx56 {n rc : Nat} {K : Mm → Option (Int32 × Mm)} {Q : Int32 × Mm → Prop} {σ : Mm} (hn : n ≤ 160) (hr : rc < 5) (h7 : σ 703 7 = nI rc) (hK : ∀ τ, (∀ a j, τ a j = if a = 705 ∧ 160 * rc ≤ j ∧ j < 160 * rc + n then vp_nar .byte (σ 704 (j - 160 * rc)) else σ a j) → Ok (K τ) Q) : Ok (zfX12_text_L56 (nI n) K NF 0 σ) Q := by
  refine ok_up (F := fun fu (s : Int32 × Mm) => zfX12_text_L56 (nI n) K fu s.1 s.2) n (fun i s => s.1 = nI i ∧ ∀ a j, s.2 a j = if a = 705 ∧ 160 * rc ≤ j ∧ j < 160 * rc + i then vp_nar .byte (σ 704 (j - 160 * rc)) else σ a j) ?_ ?_ 0 NF (0, σ) ⟨rfl, fun a j => by rw [if_neg (by omega)]⟩ (by omega) (by unfold NF; omega)
  · rintro i fu ⟨y, τ⟩ hi ⟨hy, h1⟩ hk
    have hy : y = nI i := hy
    subst hy
    have h1 : ∀ a j, τ a j = if a = 705 ∧ 160 * rc ≤ j ∧ j < 160 * rc + i then vp_nar .byte (σ 704 (j - 160 * rc)) else σ a j := h1
    show Ok (zfX12_text_L56 (nI n) K (fu + 1) (nI i) τ) _
    unfold zfX12_text_L56
    have e7 : τ 703 7 = nI rc := by rw [h1, if_neg (by omega)]; exact h7
    have e4 : τ 704 i = σ 704 i := by rw [h1, if_neg (by omega)]
    rw [if_neg (by rw [n_le (by omega) (by omega)]; omega), ck_t ((n_in (by omega)).mpr (by omega)), e7, show (160 : Int32) * nI rc + nI i = nI (160 * rc + i) by rw [show (160 : Int32) * nI rc = nI (160 * rc) from n_mul 160 rc, n_add], ck_t ((n_in (by omega)).mpr (by omega))]
    refine ok_lg (fun φ1 e1 => ?_)
    refine ok_lg (fun x ex => ?_)
    rw [show nI i + 1 = nI (i + 1) from n_add _ 1] at ex
    subst ex
    rw [n_ix (by omega), n_ix (by omega), e4] at e1
    refine hk (nI (i + 1), φ1) ⟨rfl, fun a j => ?_⟩
    dsimp only
    rw [e1, zst_a, h1]
    by_cases c : a = 705 ∧ j = 160 * rc + i
    · rw [if_pos c, if_pos (by omega), show j - 160 * rc = i by omega]
    · rw [if_neg c]
      by_cases c2 : a = 705 ∧ 160 * rc ≤ j ∧ j < 160 * rc + i
      · rw [if_pos c2, if_pos (by omega)]
      · rw [if_neg c2, if_neg (by omega)]
  · rintro fu ⟨y, τ⟩ ⟨hy, h1⟩
    have hy : y = nI n := hy
    subst hy
    show Ok (zfX12_text_L56 (nI n) K (fu + 1) (nI n) τ) _
    unfold zfX12_text_L56
    rw [if_pos (Int32.le_refl _)]
    exact hK τ h1
theorem r_fault1 {n : Nat} {t : Nat → Int32} {σ : Mm} {v : Int32} (h6 : σ 703 6 = nI n) (h : ∀ υ, υ 704 = σ 704 → ∃ φ, zfX12_goThrough 704 0 (nI n) υ = some φ ∧ φ 703 11 = v ∧ FrG υ φ) :
    Ok (zfX12_fault 1 σ) (fun b => b.1 = v ∧ FrG (zst σ 703 0 0) b.2) := by
  unfold zfX12_fault
  refine ok_lg (fun υ e => ?_)
  rw [if_neg (fun h => (q_sort01.mp h).2 rfl)]
  refine ok_lg (fun J hJ => ?_)
  rw [if_neg (by decide), show υ 703 6 = nI n by rw [e, zst_k (by omega)]; exact h6, ok_bd]
  obtain ⟨φ, k1, k2, k3⟩ := h υ (by rw [e, zst_n (by omega)])
  rw [k1, ok_s]
  simp only [hJ]
  rw [ok_s, ← e]
  exact ⟨k2, k3⟩
/-- a rule taken by the reference -/
theorem r_text1 {n rc : Nat} {σ : Mm} (hn : n ≤ 160) (hr : rc < 5) (h6 : σ 703 6 = nI n) (h7 : σ 703 7 = nI rc) (h : ∀ υ, υ 704 = σ 704 → ∃ φ, zfX12_goThrough 704 0 (nI n) υ = some φ ∧ φ 703 11 = -1 ∧ FrG υ φ) :
    Ok (zfX12_text 1 σ) (fun b => b.1 = nI rc ∧ (∀ j, b.2 705 j = if 160 * rc ≤ j ∧ j < 160 * rc + n then vp_nar .byte (σ 704 (j - 160 * rc)) else σ 705 j) ∧ (∀ r, b.2 706 r = if r = rc then nI n else σ 706 r) ∧ b.2 703 6 = 0 ∧ b.2 703 7 = nI (rc + 1) ∧
      (∀ k, (15 ≤ k ∧ k ≤ 16 ∨ 17 < k) → b.2 703 k = σ 703 k) ∧ ∀ c, c ≠ 703 → c ≠ 705 → c ≠ 706 → b.2 c = σ c) := by
  unfold zfX12_text
  refine ok_lg (fun υ e => ?_)
  refine ok_lg (fun J hJ => ?_)
  rw [if_neg (fun h => (q_sort01.mp h).2 rfl)]
  refine ok_lg (fun J2 hJ2 => ?_)
  have u7 : υ 703 7 = nI rc := by rw [e, zst_k (by omega)]; exact h7
  rw [if_pos rfl, u7, if_neg (show ¬ nI rc = 5 by rw [show (5 : Int32) = nI 5 from rfl, n_eq (by omega) (by omega)]; omega)]
  simp only [hJ2]
  rw [ok_bd2]
  refine ok_mono (r_fault1 (t := fun _ => 0) (σ := υ) (n := n) (by rw [e, zst_k (by omega)]; exact h6) (fun υ2 h2 => h υ2 (by rw [h2, e, zst_n (by omega)]))) (fun b hb => ?_)
  obtain ⟨v1, f1, f2⟩ := hb
  rw [if_pos v1]
  have b6 : b.2 703 6 = nI n := by rw [f2 6 (by omega), zst_k (by omega), e, zst_k (by omega)]; exact h6
  refine ok_lg (fun x2 ex2 => ?_)
  rw [b6] at ex2
  subst ex2
  refine ok_lg (fun φ1 g1 => ?_)
  rw [if_pos trivial]
  refine ok_lg (fun K1 hK1 => ?_)
  have p7 : φ1 703 7 = nI rc := by rw [g1, zst_k (by omega), f2 7 (by omega), zst_k (by omega)]; exact u7
  refine r_tx56 hn hr p7 (fun φ2 g2 => ?_)
  simp only [hK1]
  have q7 : φ2 703 7 = nI rc := by rw [g2, if_neg (by omega)]; exact p7
  rw [q7, ck_t ((n_in (by omega)).mpr (by omega)), n_ix (by omega)]
  refine ok_lg (fun φ3 g3 => ?_)
  refine ok_lg (fun φ4 g4 => ?_)
  rw [ok_s]
  have r7 : φ4 703 7 = nI (rc + 1) := by rw [g4, zst_v, g3, zst_n (by omega), q7]; exact n_add rc 1
  have z1 : ∀ c, c ≠ 703 → φ1 c = σ c := fun c hc => by rw [g1, zst_n hc, f1 c hc, zst_n hc, e, zst_n hc]
  have z2 : ∀ c, c ≠ 705 → φ2 c = φ1 c := fun c hc => by funext j; rw [g2, if_neg (by omega)]
  refine ⟨?_, fun j => ?_, fun r => ?_, ?_, r7, fun k hk => ?_, fun c a1 a2 a3 => ?_⟩
  · dsimp only
    rw [r7, show (1 : Int32) = nI 1 from rfl, n_sub (by omega)]; congr 1
  · dsimp only
    rw [g4, zst_n (by omega), g3, zst_n (by omega), g2, z1 704 (by omega), z1 705 (by omega)]
    by_cases c : 160 * rc ≤ j ∧ j < 160 * rc + n
    · rw [if_pos c, if_pos ⟨rfl, c⟩]
    · rw [if_neg c, if_neg (fun h => c h.2)]
  · dsimp only
    rw [g4, zst_n (by omega), g3]
    by_cases c : r = rc
    · rw [if_pos c, c, zst_v]
    · rw [if_neg c, zst_k c, z2 706 (by omega), z1 706 (by omega)]
  · dsimp only
    rw [g4, zst_k (by omega), g3, zst_n (by omega), z2 703 (by omega), g1, zst_v]
  · dsimp only
    rw [g4, zst_k (by omega), g3, zst_n (by omega), z2 703 (by omega), g1, zst_k (by omega), f2 k (by omega), zst_k (by omega), e, zst_k (by omega)]
  · dsimp only
    rw [g4, zst_n a1, g3, zst_n a3, z2 c a2, z1 c a1]
/-! ===== what rules are worth ===== -/
theorem stp_cg {lam lam2 : Nat → Int32} (h : ∀ j, j < 6 → lam j = lam2 j) : stp lam = stp lam2 := by
  funext c st
  unfold stp
  by_cases c1 : c < 20000
  · rw [if_pos c1, if_pos c1]
    by_cases c2 : c < 10000
    · rw [if_pos c2, if_pos c2]
    · rw [if_neg c2, if_neg c2]
      by_cases c3 : c < 10006
      · rw [if_pos c3, if_pos c3, h]
        rw [Int32.lt_iff_toInt_lt] at c2 c3
        have e1 : (10000 : Int32).toInt = 10000 := by decide
        have e2 : (10006 : Int32).toInt = 10006 := by decide
        have e : ((2 ^ 32 : Nat) : Int) = 4294967296 := rfl
        have e3 : (c - 10000).toInt = c.toInt - 10000 := by
          rw [Int32.toInt_sub, e1, Int.bmod_eq_of_le (by omega) (by omega)]
        unfold ix Int32.toNatClampNeg
        omega
      · rw [if_neg c3, if_neg c3]
  · rw [if_neg c1, if_neg c1]
theorem run_cg {lam lam2 : Nat → Int32} (h : ∀ j, j < 6 → lam j = lam2 j) : run lam = run lam2 := by
  funext C st
  unfold run
  rw [stp_cg h]
