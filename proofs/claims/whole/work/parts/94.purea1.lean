/-! ===== image and back ===== -/
theorem r_im16 {K : Mm → Option (Int32 × Mm)} {Q : Int32 × Mm → Prop} {σ : Mm} (hK : ∀ τ, (∀ j, j < 57 → τ 737 j = σ 714 j) → (∀ c, c ≠ 737 → τ c = σ c) → Ok (K τ) Q) : Ok (zfX12_image_L16 K NF 0 σ) Q := by
  refine ok_up (F := fun fu (s : Int32 × Mm) => zfX12_image_L16 K fu s.1 s.2) 57 (fun i s => s.1 = nI i ∧ (∀ j, j < i → s.2 737 j = σ 714 j) ∧ (∀ c, c ≠ 737 → s.2 c = σ c)) ?_ ?_ 0 NF (0, σ) ⟨rfl, fun j hj => absurd hj (Nat.not_lt_zero j), fun _ _ => rfl⟩ (by omega) (by unfold NF; omega)
  · rintro i fu ⟨y, τ⟩ hi ⟨hy, h1, h2⟩ hk
    have hy : y = nI i := hy
    subst hy
    have h1 : ∀ j, j < i → τ 737 j = σ 714 j := h1
    have h2 : ∀ c, c ≠ 737 → τ c = σ c := h2
    show Ok (zfX12_image_L16 K (fu + 1) (nI i) τ) _
    unfold zfX12_image_L16
    have hin : inb (nI i) 57 := (n_in (by omega)).mpr (by omega)
    rw [if_neg (by rw [show (57 : Int32) = nI 57 from rfl, n_le (by decide) (by omega)]; omega), ck_t hin, ck_t hin, ok_lt, ok_lt, n_ix (by omega), h2 714 (by omega), show nI i + 1 = nI (i + 1) from n_add _ 1]
    refine hk (nI (i + 1), zst τ 737 i (σ 714 i)) ⟨rfl, fun j hj => ?_, fun c hc => by dsimp only; rw [zst_n hc]; exact h2 c hc⟩
    dsimp only
    by_cases e : j = i
    · subst e; rw [zst_v]
    · rw [zst_k e]; exact h1 j (by omega)
  · rintro fu ⟨y, τ⟩ ⟨hy, h1, h2⟩
    have hy : y = nI 57 := hy
    subst hy
    show Ok (zfX12_image_L16 K (fu + 1) (nI 57) τ) _
    unfold zfX12_image_L16
    rw [if_pos (by decide)]
    exact hK τ h1 h2
theorem r_im42 {K : Mm → Option (Int32 × Mm)} {Q : Int32 × Mm → Prop} {σ : Mm} (hK : ∀ τ, (∀ j, j < 5 → τ 738 j = σ 716 j) → (∀ c, c ≠ 738 → τ c = σ c) → Ok (K τ) Q) : Ok (zfX12_image_L42 K NF 0 σ) Q := by
  refine ok_up (F := fun fu (s : Int32 × Mm) => zfX12_image_L42 K fu s.1 s.2) 5 (fun i s => s.1 = nI i ∧ (∀ j, j < i → s.2 738 j = σ 716 j) ∧ (∀ c, c ≠ 738 → s.2 c = σ c)) ?_ ?_ 0 NF (0, σ) ⟨rfl, fun j hj => absurd hj (Nat.not_lt_zero j), fun _ _ => rfl⟩ (by omega) (by unfold NF; omega)
  · rintro i fu ⟨y, τ⟩ hi ⟨hy, h1, h2⟩ hk
    have hy : y = nI i := hy
    subst hy
    have h1 : ∀ j, j < i → τ 738 j = σ 716 j := h1
    have h2 : ∀ c, c ≠ 738 → τ c = σ c := h2
    show Ok (zfX12_image_L42 K (fu + 1) (nI i) τ) _
    unfold zfX12_image_L42
    have hin : inb (nI i) 5 := (n_in (by omega)).mpr (by omega)
    rw [if_neg (by rw [show (5 : Int32) = nI 5 from rfl, n_le (by decide) (by omega)]; omega), ck_t hin, ck_t hin, ok_lt, ok_lt, n_ix (by omega), h2 716 (by omega), show nI i + 1 = nI (i + 1) from n_add _ 1]
    refine hk (nI (i + 1), zst τ 738 i (σ 716 i)) ⟨rfl, fun j hj => ?_, fun c hc => by dsimp only; rw [zst_n hc]; exact h2 c hc⟩
    dsimp only
    by_cases e : j = i
    · subst e; rw [zst_v]
    · rw [zst_k e]; exact h1 j (by omega)
  · rintro fu ⟨y, τ⟩ ⟨hy, h1, h2⟩
    have hy : y = nI 5 := hy
    subst hy
    show Ok (zfX12_image_L42 K (fu + 1) (nI 5) τ) _
    unfold zfX12_image_L42
    rw [if_pos (by decide)]
    exact hK τ h1 h2
theorem r_bk16 {K : Mm → Option (Int32 × Mm)} {Q : Int32 × Mm → Prop} {σ : Mm} (hK : ∀ τ, (∀ j, j < 57 → τ 714 j = σ 737 j) → (∀ c, c ≠ 714 → τ c = σ c) → Ok (K τ) Q) : Ok (zfX12_back_L16 K NF 0 σ) Q := by
  refine ok_up (F := fun fu (s : Int32 × Mm) => zfX12_back_L16 K fu s.1 s.2) 57 (fun i s => s.1 = nI i ∧ (∀ j, j < i → s.2 714 j = σ 737 j) ∧ (∀ c, c ≠ 714 → s.2 c = σ c)) ?_ ?_ 0 NF (0, σ) ⟨rfl, fun j hj => absurd hj (Nat.not_lt_zero j), fun _ _ => rfl⟩ (by omega) (by unfold NF; omega)
  · rintro i fu ⟨y, τ⟩ hi ⟨hy, h1, h2⟩ hk
    have hy : y = nI i := hy
    subst hy
    have h1 : ∀ j, j < i → τ 714 j = σ 737 j := h1
    have h2 : ∀ c, c ≠ 714 → τ c = σ c := h2
    show Ok (zfX12_back_L16 K (fu + 1) (nI i) τ) _
    unfold zfX12_back_L16
    have hin : inb (nI i) 57 := (n_in (by omega)).mpr (by omega)
    rw [if_neg (by rw [show (57 : Int32) = nI 57 from rfl, n_le (by decide) (by omega)]; omega), ck_t hin, ck_t hin, ok_lt, ok_lt, n_ix (by omega), h2 737 (by omega), show nI i + 1 = nI (i + 1) from n_add _ 1]
    refine hk (nI (i + 1), zst τ 714 i (σ 737 i)) ⟨rfl, fun j hj => ?_, fun c hc => by dsimp only; rw [zst_n hc]; exact h2 c hc⟩
    dsimp only
    by_cases e : j = i
    · subst e; rw [zst_v]
    · rw [zst_k e]; exact h1 j (by omega)
  · rintro fu ⟨y, τ⟩ ⟨hy, h1, h2⟩
    have hy : y = nI 57 := hy
    subst hy
    show Ok (zfX12_back_L16 K (fu + 1) (nI 57) τ) _
    unfold zfX12_back_L16
    rw [if_pos (by decide)]
    exact hK τ h1 h2
theorem r_bk42 {K : Mm → Option (Int32 × Mm)} {Q : Int32 × Mm → Prop} {σ : Mm} (hK : ∀ τ, (∀ j, j < 5 → τ 716 j = σ 738 j) → (∀ c, c ≠ 716 → τ c = σ c) → Ok (K τ) Q) : Ok (zfX12_back_L42 K NF 0 σ) Q := by
  refine ok_up (F := fun fu (s : Int32 × Mm) => zfX12_back_L42 K fu s.1 s.2) 5 (fun i s => s.1 = nI i ∧ (∀ j, j < i → s.2 716 j = σ 738 j) ∧ (∀ c, c ≠ 716 → s.2 c = σ c)) ?_ ?_ 0 NF (0, σ) ⟨rfl, fun j hj => absurd hj (Nat.not_lt_zero j), fun _ _ => rfl⟩ (by omega) (by unfold NF; omega)
  · rintro i fu ⟨y, τ⟩ hi ⟨hy, h1, h2⟩ hk
    have hy : y = nI i := hy
    subst hy
    have h1 : ∀ j, j < i → τ 716 j = σ 738 j := h1
    have h2 : ∀ c, c ≠ 716 → τ c = σ c := h2
    show Ok (zfX12_back_L42 K (fu + 1) (nI i) τ) _
    unfold zfX12_back_L42
    have hin : inb (nI i) 5 := (n_in (by omega)).mpr (by omega)
    rw [if_neg (by rw [show (5 : Int32) = nI 5 from rfl, n_le (by decide) (by omega)]; omega), ck_t hin, ck_t hin, ok_lt, ok_lt, n_ix (by omega), h2 738 (by omega), show nI i + 1 = nI (i + 1) from n_add _ 1]
    refine hk (nI (i + 1), zst τ 716 i (σ 738 i)) ⟨rfl, fun j hj => ?_, fun c hc => by dsimp only; rw [zst_n hc]; exact h2 c hc⟩
    dsimp only
    by_cases e : j = i
    · subst e; rw [zst_v]
    · rw [zst_k e]; exact h1 j (by omega)
  · rintro fu ⟨y, τ⟩ ⟨hy, h1, h2⟩
    have hy : y = nI 5 := hy
    subst hy
    show Ok (zfX12_back_L42 K (fu + 1) (nI 5) τ) _
    unfold zfX12_back_L42
    rw [if_pos (by decide)]
    exact hK τ h1 h2
theorem Ivx.chgI {B : Nat} {P : Pm} {rc : Nat} {s σ τ : Mm} (h : Ivx B P rc s σ)
    (fc : ∀ c, (1 ≤ c ∧ c ≤ 10 ∨ 12 ≤ c ∧ c < 37 ∧ ¬ stk c ∨ 695 ≤ c ∧ c ≤ 702 ∨ 704 ≤ c ∧ c ≤ 706 ∨ 708 ≤ c ∧ c ≤ 710 ∨ c = 714 ∨ c = 716 ∨ 731 ≤ c ∧ c ≤ 735) → τ c = σ c)
    (f0 : ∀ k, k ≠ 16 → τ 0 k = σ 0 k) (f7 : ∀ k, (k = 6 ∨ k = 7 ∨ k = 24 ∨ k = 25 ∨ 32 ≤ k ∧ k ≤ 34 ∨ k = 234 ∨ k = 62 ∨ k = 66) → τ 703 k = σ 703 k) (hI : IvI P rc B τ) : Ivx B P rc s τ := by
  obtain ⟨h1, h2, ⟨m1, m2, m3, m4, m5, m6, m7, m8⟩, ⟨r1, r2, r3, r4, r5⟩, hW, ⟨k1, k2⟩, _, ⟨⟨n, n1, n2, n3, n4⟩, ⟨a, a1, a2, a3, a4⟩⟩⟩ := h
  refine ⟨h1.of (by rw [fc 1 (by omega)]) (fc 2 (by omega)) (f7 6 (by omega)) (fc 704 (by omega)), h2, ⟨by rw [fc 3 (by omega)]; exact m1, by rw [fc 3 (by omega)]; exact m2, by rw [f7 24 (by omega)]; exact m3, by rw [f7 25 (by omega)]; exact m4, by rw [fc 3 (by omega), fc 710 (by omega)]; exact m5, fun k hk => ?_, fun i hi => ?_, fun k a b => by rw [fc 4 (by omega), fc 5 (by omega), fc 6 (by omega)]; exact m8 k a b⟩,
    ⟨by rw [f0 14 (by omega)]; exact r1, by rw [f7 7 (by omega)]; exact r2, r3, r4.of (fun r hr => ⟨fc _ (Or.inr (Or.inl ⟨by omega, by omega, stk_n (by omega)⟩)), fc _ (Or.inr (Or.inl ⟨by omega, by omega, stk_n (by omega)⟩))⟩), r5.of (fc 705 (by omega)) (fun r hr => by rw [fc 706 (by omega)])⟩,
    IvW.of hW (fun c hc => by
      by_cases e : c ≤ 36
      · exact fc c (Or.inr (Or.inl ⟨by omega, by omega, stk_n (by omega)⟩))
      · exact fc c (by omega)) (fun k hk => f7 k (by omega)), ⟨by rw [f0 15 (by omega), f7 33 (by omega)]; exact k1, by rw [f0 15 (by omega)]; exact k2⟩, hI, ⟨⟨n, n1, by rw [fc 695 (by omega)]; exact n2, by rw [f7 62 (by omega)]; exact n3, fun k hk => ?_⟩, ⟨a, a1, by rw [fc 699 (by omega)]; exact a2, by rw [f7 66 (by omega)]; exact a3, fun k hk => ?_⟩⟩⟩
  · rw [fc 4 (by omega), fc 5 (by omega), fc 6 (by omega), fc 708 (by omega)]; exact m6 k hk
  · rw [fc 7 (by omega), fc 8 (by omega), fc 9 (by omega), fc 10 (by omega), fc 709 (by omega)]; exact m7 i hi
  · rw [fc 696 (by omega), fc 697 (by omega), fc 731 (by omega), fc 732 (by omega)]; exact n4 k hk
  · rw [fc 700 (by omega), fc 701 (by omega), fc 702 (by omega), fc 733 (by omega), fc 734 (by omega), fc 735 (by omega)]; exact a4 k hk
theorem q_nom {σ : Mm} {n : Nat} (hn : n ≤ 5) (h1 : σ 3 0 = nI n) : (zfX11_noMarket σ = 0 ↔ 0 < n) ∧ (σ 3 0 = 0 ↔ n = 0) := by
  have e : σ 3 0 = 0 ↔ n = 0 := by rw [h1, show (0 : Int32) = nI 0 from rfl, n_eq (by omega) (by omega)]
  refine ⟨?_, e⟩
  unfold zfX11_noMarket
  by_cases c : n = 0
  · rw [if_pos (e.mpr c)]; exact ⟨fun h => absurd h (by decide), fun h => by omega⟩
  · rw [if_neg (fun h => c (e.mp h))]; exact ⟨fun _ => by omega, fun _ => rfl⟩
theorem RRs.to {P : Pm} {σ τ s : Mm} (hn : pn P ≤ 5) (hm : pm P ≤ 6) {c : Nat} (h : RRs P (wr σ 714 (σ c)) s) (f : ∀ k, k < 57 → τ 714 k = σ c k) : RRs P τ s :=
  h.row hn hm (fun k hk => by rw [wr_s]; exact f k hk)
theorem q_image {B : Nat} : Qy B zfX11_image zfX12_image := by
  rintro σ ⟨P, rc, s, hI⟩
  have hn := hI.n
  have hm := hI.2.1.1.2.1
  have g1 := q_nom hn.1 hn.2.1
  have e24 : σ 703 24 = 0 ↔ pn P = 0 := by rw [hn.2.2, show (0 : Int32) = nI 0 from rfl, n_eq (by omega) (by omega)]
  unfold zfX11_image
  by_cases c0 : zfX11_noMarket σ = 0
  case neg =>
    rw [if_neg c0, ok_s]
    unfold zfX12_image
    refine ok_lg (fun υ e => ?_)
    rw [show υ 703 24 = σ 703 24 by rw [e, zst_k (by omega)], if_pos (e24.mpr (by have h9 : ¬ 0 < pn P := fun h => c0 (g1.1.mpr h); omega)), ok_s, e]
    exact ⟨rfl, Iv.up ⟨P, rc, s, hI.z0⟩ (by omega)⟩
  case pos =>
  have h0 := g1.1.mp c0
  rw [if_pos c0, ok_bd]
  have hW := hI.2.2.2.2.1
  refine ok_mono (c_copy (q0 := 58) (q1 := 27) (by omega) hW.1.1) (fun τ1 hτ => ?_)
  obtain ⟨b1, b2⟩ := hτ
  refine ok_lg (fun τ eτ => ?_)
  rw [ok_s]
  dsimp only
  have p0 : ∀ c, c ≠ 0 → τ c = τ1 c := fun c hc => by rw [eτ, zst_n hc]
  have v16 : τ 0 16 = 1 := by rw [eτ, zst_v]
  have q0 : ∀ k, k ≠ 16 → τ 0 k = σ 0 k := fun k hk => by rw [eτ, zst_k hk, b2 0 (by omega)]
  have q : ∀ c, c ≠ 0 → (c < 58 ∨ 67 < c) → τ c = σ c := fun c a b => by rw [p0 c a, b2 c (by omega)]
  have ag : AgS 58 τ s := b1.fr (fun c a b => p0 c (by omega))
  unfold zfX12_image
  refine ok_lg (fun υ e => ?_)
  have u : ∀ c, c ≠ 703 → υ c = τ c := fun c hc => by rw [e, zst_n hc]
  have u7 : ∀ k, k ≠ 0 → υ 703 k = σ 703 k := fun k hk => by rw [e, zst_k hk, q 703 (by omega) (by omega)]
  rw [u7 24 (by omega), if_neg (fun h => by have := e24.mp h; omega)]
  refine ok_lg (fun K hK => ?_)
  refine r_im16 (fun φ1 k1 k2 => ?_)
  simp only [hK]
  refine ok_lg (fun K2 hK2 => ?_)
  refine r_im42 (fun φ2 l1 l2 => ?_)
  simp only [hK2]
  refine ok_lg (fun φ3 w1 => ?_)
  refine ok_lg (fun φ4 w2 => ?_)
  refine ok_lg (fun φ w3 => ?_)
  rw [ok_s]
  unfold zstL at w2
  rw [zjh_zj, zjl_zj] at w2
  have z2 : ∀ c, c ≠ 737 → c ≠ 738 → φ2 c = υ c := fun c a b => by rw [l2 c b, k2 c a]
  have z : ∀ c, c ≠ 703 → c ≠ 737 → c ≠ 738 → φ c = τ c := fun c a b d => by rw [w3, zst_n a, w2, zst_n a, zst_n a, w1, zst_n a, z2 c b d, u c a]
  have z7 : ∀ k, k ≠ 0 → k ≠ 71 → k ≠ 72 → k ≠ 272 → k ≠ 73 → φ 703 k = σ 703 k := fun k a b d f g => by rw [w3, zst_k g, w2, zst_k (by omega), zst_k (by omega), w1, zst_k b, z2 703 (by omega) (by omega), u7 k a]
  have r7 : ∀ j, j < 57 → φ 737 j = σ 714 j := fun j hj => by rw [w3, zst_n (by omega), w2, zst_n (by omega), zst_n (by omega), w1, zst_n (by omega), l2 737 (by omega), k1 j hj, u 714 (by omega), q 714 (by omega) (by omega)]
  have r8 : ∀ j, j < 5 → φ 738 j = σ 716 j := fun j hj => by rw [w3, zst_n (by omega), w2, zst_n (by omega), zst_n (by omega), w1, zst_n (by omega), l1 j hj, k2 716 (by omega), u 716 (by omega), q 716 (by omega) (by omega)]
  have x71 : φ 703 71 = σ 703 32 := by rw [w3, zst_k (by omega), w2, zst_k (by omega), zst_k (by omega), w1, zst_v, z2 703 (by omega) (by omega), u7 32 (by omega)]
  have x72 : φ 703 72 = σ 703 34 := by rw [w3, zst_k (by omega), w2, zst_k (by omega), zst_v, w1, zst_k (by omega), z2 703 (by omega) (by omega), u7 34 (by omega)]
  have x272 : φ 703 272 = σ 703 234 := by rw [w3, zst_k (by omega), w2, zst_v, w1, zst_k (by omega), z2 703 (by omega) (by omega), u7 234 (by omega)]
  have x73 : φ 703 73 = 1 := by rw [w3, zst_v]
  obtain ⟨⟨s1, s2, s3⟩, s4, s5, s6, s7⟩ := id hW
  have s2' := s2
  rw [wr_self] at s2'
  refine ⟨?_, ?_⟩
  · dsimp only
    rw [z 714 (by omega) (by omega) (by omega), q 714 (by omega) (by omega), q 27 (by omega) (by omega)]
    exact s2'.2.2.2.1.trans (s1.1 1 (by omega)).symm
  · show Iv (B + 31) φ
    refine Iv.up ⟨P, rc, s, hI.chgI (fun c hc => by rw [z c (by omega) (by omega) (by omega), q c (by omega) (by omega)]) (fun k hk => by rw [z 0 (by omega) (by omega) (by omega)]; exact q0 k hk) (fun k hk => z7 k (by omega) (by omega) (by omega) (by omega) (by omega)) ⟨by rw [z 0 (by omega) (by omega) (by omega), v16, x73], Or.inr ⟨by rw [z 0 (by omega) (by omega) (by omega), v16], h0, s, ⟨ag.fr (fun c a b => z c (by omega) (by omega) (by omega)), ?_, s3⟩, by rw [x71]; exact s4, fun k hk => by rw [r8 k (by omega)]; exact s5 k hk, by rw [x72]; exact s6, by rw [x272]; exact s7⟩⟩⟩ (by omega)
    exact RRs.to hn.1 hm s2 (fun k hk => by rw [wr_s]; exact r7 k hk)
theorem q_back {B : Nat} : Qy B zfX11_back zfX12_back := by
  rintro σ ⟨P, rc, s, hI⟩
  have hn := hI.n
  have hm := hI.2.1.1.2.1
  obtain ⟨i1, i2⟩ := id hI.2.2.2.2.2.2.1
  unfold zfX11_back
  by_cases c0 : σ 0 16 = 0
  case pos =>
    rw [if_pos c0, ok_s]
    unfold zfX12_back
    refine ok_lg (fun υ e => ?_)
    rw [show υ 703 73 = σ 703 73 by rw [e, zst_k (by omega)], ← i1, if_pos c0, ok_s, e]
    exact ⟨rfl, Iv.up ⟨P, rc, s, hI.z0⟩ (by omega)⟩
  case neg =>
  obtain ⟨c1, h0, s', ⟨t1, t2, t3⟩, t4, t5, t6, t7⟩ := i2.resolve_left c0
  rw [if_neg c0, ok_bd]
  refine ok_mono (c_copy (q0 := 27) (q1 := 58) (by omega) t1) (fun τ hτ => ?_)
  obtain ⟨b1, b2⟩ := hτ
  rw [ok_s]
  dsimp only
  unfold zfX12_back
  refine ok_lg (fun υ e => ?_)
  have u : ∀ c, c ≠ 703 → υ c = τ c := fun c hc => by rw [e, zst_n hc]
  have u7 : ∀ k, k ≠ 0 → υ 703 k = σ 703 k := fun k hk => by rw [e, zst_k hk, b2 703 (by omega)]
  rw [u7 73 (by omega), ← i1, if_neg c0]
  refine ok_lg (fun K hK => ?_)
  refine r_bk16 (fun φ1 k1 k2 => ?_)
  simp only [hK]
  refine ok_lg (fun K2 hK2 => ?_)
  refine r_bk42 (fun φ2 l1 l2 => ?_)
  simp only [hK2]
  refine ok_lg (fun φ3 w1 => ?_)
  refine ok_lg (fun φ w2 => ?_)
  rw [ok_s]
  unfold zstL at w2
  rw [zjh_zj, zjl_zj] at w2
  have z2 : ∀ c, c ≠ 714 → c ≠ 716 → φ2 c = υ c := fun c a b => by rw [l2 c b, k2 c a]
  have z : ∀ c, c ≠ 703 → c ≠ 714 → c ≠ 716 → φ c = τ c := fun c a b d => by rw [w2, zst_n a, zst_n a, w1, zst_n a, z2 c b d, u c a]
  have z7 : ∀ k, k ≠ 0 → k ≠ 32 → k ≠ 34 → k ≠ 234 → φ 703 k = σ 703 k := fun k a b d f => by rw [w2, zst_k f, zst_k d, w1, zst_k b, z2 703 (by omega) (by omega), u7 k a]
  have r7 : ∀ j, j < 57 → φ 714 j = σ 737 j := fun j hj => by rw [w2, zst_n (by omega), zst_n (by omega), w1, zst_n (by omega), l2 714 (by omega), k1 j hj, u 737 (by omega), b2 737 (by omega)]
  have r8 : ∀ j, j < 5 → φ 716 j = σ 738 j := fun j hj => by rw [w2, zst_n (by omega), zst_n (by omega), w1, zst_n (by omega), l1 j hj, k2 738 (by omega), u 738 (by omega), b2 738 (by omega)]
  have x32 : φ 703 32 = σ 703 71 := by rw [w2, zst_k (by omega), zst_k (by omega), w1, zst_v, z2 703 (by omega) (by omega), u7 71 (by omega)]
  have x34 : φ 703 34 = σ 703 72 := by rw [w2, zst_k (by omega), zst_v, w1, zst_k (by omega), z2 703 (by omega) (by omega), u7 72 (by omega)]
  have x234 : φ 703 234 = σ 703 272 := by rw [w2, zst_v, w1, zst_k (by omega), z2 703 (by omega) (by omega), u7 272 (by omega)]
  have q : ∀ c, c ≠ 703 → c ≠ 714 → c ≠ 716 → (c < 27 ∨ 36 < c) → φ c = σ c := fun c a b d f => by rw [z c a b d, b2 c (by omega)]
  have rr : RRs P φ s' := RRs.to hn.1 hm t2 r7
  refine ⟨?_, ?_⟩
  · dsimp only
    exact rr.2.2.2.1.trans (b1.1 1 (by omega)).symm
  · show Iv (B + 31) φ
    refine Iv.up ⟨P, rc, s', hI.chg (fun c hc => q c (by omega) (by omega) (by omega) (by omega)) ⟨by rw [q 0 (by omega) (by omega) (by omega) (by omega)], by rw [q 0 (by omega) (by omega) (by omega) (by omega)]⟩ (fun k hk => z7 k (by omega) (by omega) (by omega) (by omega)) (hI.1.of (by rw [q 1 (by omega) (by omega) (by omega) (by omega)]) (q 2 (by omega) (by omega) (by omega) (by omega)) (z7 6 (by omega) (by omega) (by omega) (by omega)) (q 704 (by omega) (by omega) (by omega) (by omega))) ⟨⟨b1.fr (fun c a b => z c (by omega) (by omega) (by omega)), by rw [wr_self]; exact rr, t3⟩, by rw [x32]; exact t4, fun k hk => by rw [r8 k (by omega)]; exact t5 k hk, by rw [x34]; exact t6, by rw [x234]; exact t7⟩ ⟨by rw [q 0 (by omega) (by omega) (by omega) (by omega), z7 33 (by omega) (by omega) (by omega) (by omega)]; exact hI.2.2.2.2.2.1.1, by rw [q 0 (by omega) (by omega) (by omega) (by omega)]; exact hI.2.2.2.2.2.1.2⟩⟩ (by omega)
