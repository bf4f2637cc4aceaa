/-! ===== copies of states ===== -/
theorem zcp_a {σ : Mm} {a0 a : Nat} {sp dp k : Int32} : zcp σ a0 a sp dp k a = va_cpy (σ a0) (σ a) (ix sp) (ix dp) (ix k) := if_pos rfl
theorem zcp_n {σ : Mm} {a0 a b : Nat} {sp dp k : Int32} (h : b ≠ a) : zcp σ a0 a sp dp k b = σ b := if_neg h
theorem cpy_in {f g : Nat → Int32} {n j : Nat} (h : j < n) : va_cpy f g 0 0 n j = f j := by
  unfold va_cpy
  simp [h]
theorem zjh_zj (hi lo : Int32) : zjh (zj hi lo) = hi := by
  unfold zj zjh
  apply Int32.toBitVec_inj.mp
  rw [Int64.toBitVec_ofBitVec, Int32.toBitVec_ofBitVec]
  apply BitVec.eq_of_getLsbD_eq
  intro i h
  rw [BitVec.getLsbD_extractLsb', BitVec.getLsbD_append]
  simp [h]
theorem zjl_zj (hi lo : Int32) : zjl (zj hi lo) = lo := by
  unfold zj zjl
  apply Int32.toBitVec_inj.mp
  rw [Int64.toBitVec_ofBitVec, Int32.toBitVec_ofBitVec]
  apply BitVec.eq_of_getLsbD_eq
  intro i h
  rw [BitVec.getLsbD_extractLsb', BitVec.getLsbD_append]
  simp [h]
theorem c_copy {q0 q1 : Nat} {σ s : Mm} (h : q0 + 9 < q1 ∨ q1 + 9 < q0) (hA : AgS q1 σ s) : Ok (zfX8_copyFrom q0 q1 σ) (fun τ => AgS q0 τ s ∧ ∀ c, (c < q0 ∨ q0 + 9 < c) → τ c = σ c) := by
  obtain ⟨a1, a2, a3, a4, a5⟩ := hA
  have i0 : ix (0 : Int32) = 0 := by decide
  have i6 : ix (6 : Int32) = 6 := by decide
  have i24 : ix (24 : Int32) = 24 := by decide
  unfold zfX8_copyFrom
  refine ok_lg (fun t0 ht0 => ?_)
  refine ok_lg (fun t1 ht1 => ?_)
  refine ok_lg (fun t2 ht2 => ?_)
  refine ok_lg (fun t3 ht3 => ?_)
  refine ok_lg (fun t4 ht4 => ?_)
  refine ok_lg (fun r1 hr1 => ?_)
  refine ok_lg (fun r2 hr2 => ?_)
  refine ok_lg (fun r3 hr3 => ?_)
  refine ok_lg (fun r4 hr4 => ?_)
  refine ok_lg (fun r5 hr5 => ?_)
  refine ok_lg (fun r6 hr6 => ?_)
  refine ok_lg (fun r7 hr7 => ?_)
  refine ok_lg (fun r8 hr8 => ?_)
  refine ok_lg (fun r9 hr9 => ?_)
  rw [ok_s]
  have ct0 : ∀ c, c ≠ q0 → t0 c = σ c := fun c hc => by rw [ht0, zst_n hc]
  have ct1 : ∀ c, c ≠ q0 → t1 c = t0 c := fun c hc => by rw [ht1, zst_n hc]
  have ct2 : ∀ c, c ≠ q0 → t2 c = t1 c := fun c hc => by rw [ht2, zst_n hc]
  have ct3 : ∀ c, c ≠ q0 → t3 c = t2 c := fun c hc => by rw [ht3, zst_n hc]
  have ct4 : ∀ c, c ≠ q0 → t4 c = t3 c := fun c hc => by rw [ht4]; unfold zstL; rw [zst_n hc, zst_n hc]
  have cr1 : ∀ c, c ≠ q0 + 1 → r1 c = t4 c := fun c hc => by rw [hr1, zcp_n hc]
  have cr2 : ∀ c, c ≠ q0 + 2 → r2 c = r1 c := fun c hc => by rw [hr2, zcp_n hc]
  have cr3 : ∀ c, c ≠ q0 + 3 → r3 c = r2 c := fun c hc => by rw [hr3, zcp_n hc]
  have cr4 : ∀ c, c ≠ q0 + 4 → r4 c = r3 c := fun c hc => by rw [hr4, zcp_n hc]
  have cr5 : ∀ c, c ≠ q0 + 5 → r5 c = r4 c := fun c hc => by rw [hr5, zcp_n hc]
  have cr6 : ∀ c, c ≠ q0 + 6 → r6 c = r5 c := fun c hc => by rw [hr6, zcp_n hc]
  have cr7 : ∀ c, c ≠ q0 + 7 → r7 c = r6 c := fun c hc => by rw [hr7, zcp_n hc]
  have cr8 : ∀ c, c ≠ q0 + 8 → r8 c = r7 c := fun c hc => by rw [hr8, zcp_n hc]
  have cr9 : ∀ c, c ≠ q0 + 9 → r9 c = r8 c := fun c hc => by rw [hr9, zcp_n hc]
  have b4 : ∀ c, c ≠ q0 → t4 c = σ c := fun c hc => by rw [ct4 c hc, ct3 c hc, ct2 c hc, ct1 c hc, ct0 c hc]
  have b : ∀ c, (c < q0 ∨ q0 + 9 < c) → r9 c = σ c := fun c hc => by rw [cr9 c (by omega), cr8 c (by omega), cr7 c (by omega), cr6 c (by omega), cr5 c (by omega), cr4 c (by omega), cr3 c (by omega), cr2 c (by omega), cr1 c (by omega), b4 c (by omega)]
  have e1 : ∀ j, j < 6 → r9 (q0 + 1) j = σ (q1 + 1) j := fun j hj => by rw [cr9 (q0 + 1) (by omega), cr8 (q0 + 1) (by omega), cr7 (q0 + 1) (by omega), cr6 (q0 + 1) (by omega), cr5 (q0 + 1) (by omega), cr4 (q0 + 1) (by omega), cr3 (q0 + 1) (by omega), cr2 (q0 + 1) (by omega), hr1, zcp_a, i0, i6, cpy_in hj, b4 (q1 + 1) (by omega)]
  have e2 : ∀ j, j < 6 → r9 (q0 + 2) j = σ (q1 + 2) j := fun j hj => by rw [cr9 (q0 + 2) (by omega), cr8 (q0 + 2) (by omega), cr7 (q0 + 2) (by omega), cr6 (q0 + 2) (by omega), cr5 (q0 + 2) (by omega), cr4 (q0 + 2) (by omega), cr3 (q0 + 2) (by omega), hr2, zcp_a, i0, i6, cpy_in hj, cr1 (q1 + 2) (by omega), b4 (q1 + 2) (by omega)]
  have e3 : ∀ j, j < 6 → r9 (q0 + 3) j = σ (q1 + 3) j := fun j hj => by rw [cr9 (q0 + 3) (by omega), cr8 (q0 + 3) (by omega), cr7 (q0 + 3) (by omega), cr6 (q0 + 3) (by omega), cr5 (q0 + 3) (by omega), cr4 (q0 + 3) (by omega), hr3, zcp_a, i0, i6, cpy_in hj, cr2 (q1 + 3) (by omega), cr1 (q1 + 3) (by omega), b4 (q1 + 3) (by omega)]
  have e4 : ∀ j, j < 6 → r9 (q0 + 4) j = σ (q1 + 4) j := fun j hj => by rw [cr9 (q0 + 4) (by omega), cr8 (q0 + 4) (by omega), cr7 (q0 + 4) (by omega), cr6 (q0 + 4) (by omega), cr5 (q0 + 4) (by omega), hr4, zcp_a, i0, i6, cpy_in hj, cr3 (q1 + 4) (by omega), cr2 (q1 + 4) (by omega), cr1 (q1 + 4) (by omega), b4 (q1 + 4) (by omega)]
  have e5 : ∀ j, j < 6 → r9 (q0 + 5) j = σ (q1 + 5) j := fun j hj => by rw [cr9 (q0 + 5) (by omega), cr8 (q0 + 5) (by omega), cr7 (q0 + 5) (by omega), cr6 (q0 + 5) (by omega), hr5, zcp_a, i0, i6, cpy_in hj, cr4 (q1 + 5) (by omega), cr3 (q1 + 5) (by omega), cr2 (q1 + 5) (by omega), cr1 (q1 + 5) (by omega), b4 (q1 + 5) (by omega)]
  have e6 : ∀ j, j < 6 → r9 (q0 + 6) j = σ (q1 + 6) j := fun j hj => by rw [cr9 (q0 + 6) (by omega), cr8 (q0 + 6) (by omega), cr7 (q0 + 6) (by omega), hr6, zcp_a, i0, i6, cpy_in hj, cr5 (q1 + 6) (by omega), cr4 (q1 + 6) (by omega), cr3 (q1 + 6) (by omega), cr2 (q1 + 6) (by omega), cr1 (q1 + 6) (by omega), b4 (q1 + 6) (by omega)]
  have e7 : ∀ j, j < 24 → r9 (q0 + 7) j = σ (q1 + 7) j := fun j hj => by rw [cr9 (q0 + 7) (by omega), cr8 (q0 + 7) (by omega), hr7, zcp_a, i0, i24, cpy_in hj, cr6 (q1 + 7) (by omega), cr5 (q1 + 7) (by omega), cr4 (q1 + 7) (by omega), cr3 (q1 + 7) (by omega), cr2 (q1 + 7) (by omega), cr1 (q1 + 7) (by omega), b4 (q1 + 7) (by omega)]
  have e8 : ∀ j, j < 6 → r9 (q0 + 8) j = σ (q1 + 8) j := fun j hj => by rw [cr9 (q0 + 8) (by omega), hr8, zcp_a, i0, i6, cpy_in hj, cr7 (q1 + 8) (by omega), cr6 (q1 + 8) (by omega), cr5 (q1 + 8) (by omega), cr4 (q1 + 8) (by omega), cr3 (q1 + 8) (by omega), cr2 (q1 + 8) (by omega), cr1 (q1 + 8) (by omega), b4 (q1 + 8) (by omega)]
  have e9 : ∀ j, j < 6 → r9 (q0 + 9) j = σ (q1 + 9) j := fun j hj => by rw [hr9, zcp_a, i0, i6, cpy_in hj, cr8 (q1 + 9) (by omega), cr7 (q1 + 9) (by omega), cr6 (q1 + 9) (by omega), cr5 (q1 + 9) (by omega), cr4 (q1 + 9) (by omega), cr3 (q1 + 9) (by omega), cr2 (q1 + 9) (by omega), cr1 (q1 + 9) (by omega), b4 (q1 + 9) (by omega)]
  have q0r : ∀ k, r9 q0 k = t4 q0 k := fun k => by rw [cr9 q0 (by omega), cr8 q0 (by omega), cr7 q0 (by omega), cr6 q0 (by omega), cr5 q0 (by omega), cr4 q0 (by omega), cr3 q0 (by omega), cr2 q0 (by omega), cr1 q0 (by omega)]
  have p1 : ∀ k, t0 q1 k = σ q1 k := fun k => by rw [ct0 q1 (by omega)]
  have p2 : ∀ k, t1 q1 k = σ q1 k := fun k => by rw [ct1 q1 (by omega)]; exact p1 k
  have p3 : ∀ k, t2 q1 k = σ q1 k := fun k => by rw [ct2 q1 (by omega)]; exact p2 k
  have p4 : ∀ k, t3 q1 k = σ q1 k := fun k => by rw [ct3 q1 (by omega)]; exact p3 k
  have f4 : t4 q0 4 = σ q1 4 := by
    rw [ht4]; unfold zstL
    rw [zst_k (by omega), zst_v, p4, p4, zjh_zj]
  have f204 : t4 q0 204 = σ q1 204 := by
    rw [ht4]; unfold zstL
    rw [zst_v, p4, p4, zjl_zj]
  have fk : ∀ k, k < 4 → t4 q0 k = t3 q0 k := fun k hk => by
    rw [ht4]; unfold zstL
    rw [zst_k (by omega), zst_k (by omega)]
  have g0 : t3 q0 0 = σ q1 0 := by rw [ht3, zst_k (by omega), ht2, zst_k (by omega), ht1, zst_k (by omega), ht0, zst_v]
  have g1 : t3 q0 1 = σ q1 1 := by rw [ht3, zst_k (by omega), ht2, zst_k (by omega), ht1, zst_v]; exact p1 1
  have g2 : t3 q0 2 = σ q1 2 := by rw [ht3, zst_k (by omega), ht2, zst_v]; exact p2 2
  have g3 : t3 q0 3 = σ q1 3 := by rw [ht3, zst_v]; exact p3 3
  refine ⟨⟨fun k hk => ?_, by rw [q0r, f4]; exact a2, by rw [q0r, f204]; exact a3, fun i k hi hk => ?_, fun k hk => by rw [e7 k hk]; exact a5 k hk⟩, b⟩
  · rw [q0r, fk k hk, ← a1 k hk]
    have : k = 0 ∨ k = 1 ∨ k = 2 ∨ k = 3 := by omega
    rcases this with rfl | rfl | rfl | rfl
    · exact g0
    · exact g1
    · exact g2
    · exact g3
  · rw [← a4 i k hi hk]
    have hi' : i = 1 ∨ i = 2 ∨ i = 3 ∨ i = 4 ∨ i = 5 ∨ i = 6 ∨ i = 8 ∨ i = 9 := by omega
    rcases hi' with rfl | rfl | rfl | rfl | rfl | rfl | rfl | rfl
    · exact e1 k hk
    · exact e2 k hk
    · exact e3 k hk
    · exact e4 k hk
    · exact e5 k hk
    · exact e6 k hk
    · exact e8 k hk
    · exact e9 k hk
/-! ===== the reference's copies ===== -/
theorem r_keepL {K : Mm → Option Mm} {Q : Mm → Prop} {σ : Mm} (hK : ∀ τ, (∀ j, j < 57 → τ 715 j = σ 714 j) → (∀ c, c ≠ 715 → τ c = σ c) → Ok (K τ) Q) : Ok (zfX12_keep_L2 K NF 0 σ) Q := by
  refine ok_up (F := fun fu (s : Int32 × Mm) => zfX12_keep_L2 K fu s.1 s.2) 57 (fun i s => s.1 = nI i ∧ (∀ j, j < i → s.2 715 j = σ 714 j) ∧ (∀ c, c ≠ 715 → s.2 c = σ c)) ?_ ?_ 0 NF (0, σ) ⟨rfl, fun j hj => absurd hj (Nat.not_lt_zero j), fun _ _ => rfl⟩ (by omega) (by unfold NF; omega)
  · rintro i fu ⟨y, τ⟩ hi ⟨hy, h1, h2⟩ hk
    have hy : y = nI i := hy
    subst hy
    have h1 : ∀ j, j < i → τ 715 j = σ 714 j := h1
    have h2 : ∀ c, c ≠ 715 → τ c = σ c := h2
    show Ok (zfX12_keep_L2 K (fu + 1) (nI i) τ) _
    unfold zfX12_keep_L2
    have hin : inb (nI i) 57 := (n_in (by omega)).mpr (by omega)
    rw [if_neg (by rw [show (57 : Int32) = nI 57 from rfl, n_le (by decide) (by omega)]; omega), ck_t hin, ck_t hin, ok_lt, ok_lt, n_ix (by omega), h2 714 (by omega), show nI i + 1 = nI (i + 1) from n_add _ 1]
    refine hk (nI (i + 1), zst τ 715 i (σ 714 i)) ⟨rfl, fun j hj => ?_, fun c hc => by dsimp only; rw [zst_n hc]; exact h2 c hc⟩
    dsimp only
    by_cases e : j = i
    · subst e; rw [zst_v]
    · rw [zst_k e]; exact h1 j (by omega)
  · rintro fu ⟨y, τ⟩ ⟨hy, h1, h2⟩
    have hy : y = nI 57 := hy
    subst hy
    show Ok (zfX12_keep_L2 K (fu + 1) (nI 57) τ) _
    unfold zfX12_keep_L2
    rw [if_pos (by decide)]
    exact hK τ h1 h2
theorem r_putBack {σ : Mm} : Ok (zfX12_putBack σ) (fun τ => (∀ j, j < 57 → τ 714 j = σ 715 j) ∧ (∀ c, c ≠ 714 → τ c = σ c)) := by
  unfold zfX12_putBack
  refine ok_lg (fun K hK => ?_)
  refine ok_up (F := fun fu (s : Int32 × Mm) => zfX12_putBack_L2 K fu s.1 s.2) 57 (fun i s => s.1 = nI i ∧ (∀ j, j < i → s.2 714 j = σ 715 j) ∧ (∀ c, c ≠ 714 → s.2 c = σ c)) ?_ ?_ 0 NF (0, σ) ⟨rfl, fun j hj => absurd hj (Nat.not_lt_zero j), fun _ _ => rfl⟩ (by omega) (by unfold NF; omega)
  · rintro i fu ⟨y, τ⟩ hi ⟨hy, h1, h2⟩ hk
    have hy : y = nI i := hy
    subst hy
    have h1 : ∀ j, j < i → τ 714 j = σ 715 j := h1
    have h2 : ∀ c, c ≠ 714 → τ c = σ c := h2
    show Ok (zfX12_putBack_L2 K (fu + 1) (nI i) τ) _
    unfold zfX12_putBack_L2
    have hin : inb (nI i) 57 := (n_in (by omega)).mpr (by omega)
    rw [if_neg (by rw [show (57 : Int32) = nI 57 from rfl, n_le (by decide) (by omega)]; omega), ck_t hin, ck_t hin, ok_lt, ok_lt, n_ix (by omega), h2 715 (by omega), show nI i + 1 = nI (i + 1) from n_add _ 1]
    refine hk (nI (i + 1), zst τ 714 i (σ 715 i)) ⟨rfl, fun j hj => ?_, fun c hc => by dsimp only; rw [zst_n hc]; exact h2 c hc⟩
    dsimp only
    by_cases e : j = i
    · subst e; rw [zst_v]
    · rw [zst_k e]; exact h1 j (by omega)
  · rintro fu ⟨y, τ⟩ ⟨hy, h1, h2⟩
    have hy : y = nI 57 := hy
    subst hy
    show Ok (zfX12_putBack_L2 K (fu + 1) (nI 57) τ) _
    unfold zfX12_putBack_L2
    rw [if_pos (by decide), hK, ok_s]
    exact ⟨h1, h2⟩
theorem r_plainly {σ : Mm} : Ok (zfX12_plainly σ) (fun τ => τ 703 41 = σ 703 32 ∧ τ 703 42 = σ 710 0 ∧ τ 703 43 = 0 ∧ (∀ k, k ≠ 41 → k ≠ 42 → k ≠ 43 → τ 703 k = σ 703 k) ∧ (∀ k, k < 5 → τ 717 k = -1) ∧ (∀ k, 5 ≤ k → τ 717 k = σ 717 k) ∧ ∀ c, c ≠ 703 → c ≠ 717 → τ c = σ c) := by
  unfold zfX12_plainly
  refine ok_lg (fun t1 h1 => ?_)
  refine ok_lg (fun t2 h2 => ?_)
  refine ok_lg (fun t3 h3 => ?_)
  refine ok_lg (fun K hK => ?_)
  have q1 : ∀ c, c ≠ 703 → t3 c = σ c := fun c hc => by rw [h3, zst_n hc, h2, zst_n hc, h1, zst_n hc]
  have k41 : t3 703 41 = σ 703 32 := by rw [h3, zst_k (by omega), h2, zst_k (by omega), h1, zst_v]
  have k42 : t3 703 42 = σ 710 0 := by rw [h3, zst_k (by omega), h2, zst_v, show ix 0 = 0 by decide, h1, zst_n (by omega)]
  have k43 : t3 703 43 = 0 := by rw [h3, zst_v]
  have kk : ∀ k, k ≠ 41 → k ≠ 42 → k ≠ 43 → t3 703 k = σ 703 k := fun k a b c => by rw [h3, zst_k c, h2, zst_k b, h1, zst_k a]
  refine ok_up (F := fun fu (s : Int32 × Mm) => zfX12_plainly_L25 K fu s.1 s.2) 5 (fun i s => s.1 = nI i ∧ (∀ j, j < i → s.2 717 j = -1) ∧ (∀ j, i ≤ j → s.2 717 j = σ 717 j) ∧ (∀ c, c ≠ 717 → s.2 c = t3 c)) ?_ ?_ 0 NF (0, t3) ⟨rfl, fun j hj => absurd hj (Nat.not_lt_zero j), fun j _ => by dsimp only; rw [q1 717 (by omega)], fun _ _ => rfl⟩ (by omega) (by unfold NF; omega)
  · rintro i fu ⟨y, τ⟩ hi ⟨hy, i1, i2, i3⟩ hk
    have hy : y = nI i := hy
    subst hy
    have i1 : ∀ j, j < i → τ 717 j = -1 := i1
    have i2 : ∀ j, i ≤ j → τ 717 j = σ 717 j := i2
    have i3 : ∀ c, c ≠ 717 → τ c = t3 c := i3
    show Ok (zfX12_plainly_L25 K (fu + 1) (nI i) τ) _
    unfold zfX12_plainly_L25
    rw [if_neg (by rw [show (5 : Int32) = nI 5 from rfl, n_le (by decide) (by omega)]; omega), ck_t ((n_in (by omega)).mpr (by omega)), ok_lt, ok_lt, n_ix (by omega), show nI i + 1 = nI (i + 1) from n_add _ 1]
    refine hk (nI (i + 1), zst τ 717 i (-1)) ⟨rfl, fun j hj => ?_, fun j hj => by dsimp only; rw [zst_k (by omega)]; exact i2 j (by omega), fun c hc => by dsimp only; rw [zst_n hc]; exact i3 c hc⟩
    dsimp only
    by_cases e : j = i
    · subst e; rw [zst_v]
    · rw [zst_k e]; exact i1 j (by omega)
  · rintro fu ⟨y, τ⟩ ⟨hy, i1, i2, i3⟩
    have hy : y = nI 5 := hy
    subst hy
    have i1 : ∀ j, j < 5 → τ 717 j = -1 := i1
    have i2 : ∀ j, 5 ≤ j → τ 717 j = σ 717 j := i2
    have i3 : ∀ c, c ≠ 717 → τ c = t3 c := i3
    show Ok (zfX12_plainly_L25 K (fu + 1) (nI 5) τ) _
    unfold zfX12_plainly_L25
    rw [if_pos (by decide), hK, ok_s]
    exact ⟨by rw [i3 703 (by omega)]; exact k41, by rw [i3 703 (by omega)]; exact k42, by rw [i3 703 (by omega)]; exact k43, fun k a b c => by rw [i3 703 (by omega)]; exact kk k a b c, i1, i2, fun c a b => by rw [i3 c b]; exact q1 c a⟩
theorem r_keep {σ : Mm} : Ok (zfX12_keep σ) (fun τ => (∀ j, j < 57 → τ 715 j = σ 714 j) ∧ τ 703 41 = σ 703 32 ∧ τ 703 42 = σ 710 0 ∧ τ 703 43 = 0 ∧ (∀ k, k ≠ 41 → k ≠ 42 → k ≠ 43 → τ 703 k = σ 703 k) ∧ (∀ k, k < 5 → τ 717 k = -1) ∧ ∀ c, c ≠ 703 → c ≠ 715 → c ≠ 717 → τ c = σ c) := by
  unfold zfX12_keep
  refine ok_lg (fun K hK => ?_)
  refine r_keepL (fun τ h1 h2 => ?_)
  rw [hK, ok_bd]
  refine ok_mono r_plainly (fun υ hυ => ?_)
  obtain ⟨p1, p2, p3, p4, p5, p6, p7⟩ := hυ
  rw [ok_s]
  exact ⟨fun j hj => by rw [p7 715 (by omega) (by omega)]; exact h1 j hj, by rw [p1, h2 703 (by omega)], by rw [p2, h2 710 (by omega)], p3, fun k a b c => by rw [p4 k a b c, h2 703 (by omega)], p5, fun c a b d => by rw [p7 c a d, h2 c b]⟩
