/-! ===== text ===== -/
theorem c_openM {n : Nat} {t : Nat → Int32} {σ : Mm} {D : MD} (ht : ∀ k, k < n → 0 ≤ (t k).toInt ∧ (t k).toInt < 256) (hc : CT σ t n) (hm : mkS t n 400 0 D0 = .ok D) :
    Ok (zfX11_openMarket σ) (fun a => a.1 = nI D.1.1 ∧ CD 3 a.2 D ∧ AgS 27 a.2 (st0 (D.2.2.2 1) (σ 27 4) (σ 27 204)) ∧ a.2 695 3 = 0 ∧ a.2 699 3 = 0 ∧ a.2 0 16 = 0 ∧ a.2 1 1 = 0 ∧ (∀ k, k ≠ 16 → a.2 0 k = σ 0 k) ∧
      ∀ c, c ≠ 0 → c ≠ 1 → c ≠ 43 → c ≠ 44 → c ≠ 45 → c ≠ 695 → c ≠ 699 → (c < 3 ∨ 10 < c) → (c < 27 ∨ 36 < c) → a.2 c = σ c) := by
  unfold zfX11_openMarket
  rw [ok_bd2]
  refine ok_mono (c_market (q := 3) ht (Or.inl rfl) hc) (fun a ha => ?_)
  rw [hm] at ha
  obtain ⟨_, a2, a3⟩ := ha
  have hD := a2
  obtain ⟨b1, b2, b3, b4, b5, b6, b7, b8, b9⟩ := a2
  rw [b8, ok_bd]
  refine ok_mono (c_clear8 (v := D.2.2.2 1) (σ := a.2)) (fun τ hτ => ?_)
  obtain ⟨g1, g2⟩ := hτ
  refine ok_lg (fun φ1 e1 => ?_)
  refine ok_lg (fun φ2 e2 => ?_)
  refine ok_lg (fun φ3 e3 => ?_)
  refine ok_lg (fun φ4 e4 => ?_)
  rw [ok_s]
  dsimp only
  have q : ∀ c, c ≠ 0 → c ≠ 1 → c ≠ 695 → c ≠ 699 → φ4 c = τ c := fun c h1 h2 h3 h4 => by rw [e4, zst_n h2, e3, zst_n h1, e2, zst_n h4, e1, zst_n h3]
  have f27 : a.2 27 = σ 27 := a3 27 (by omega) (by omega) (by omega) (by omega)
  rw [f27] at g1
  refine ⟨?_, ?_, g1.fr (fun c h1 h2 => q c (by omega) (by omega) (by omega) (by omega)), ?_, ?_, ?_, ?_, fun k hk => ?_, fun c h0 h1 h2 h3 h4 h5 h6 h7 h8 => ?_⟩
  · rw [q 3 (by omega) (by omega) (by omega) (by omega), g2 3 (by omega)]; exact b4
  · exact hD.on (fun c h1 h2 => by rw [q c (by omega) (by omega) (by omega) (by omega), g2 c (by omega)])
  · rw [e4, zst_n (by omega), e3, zst_n (by omega), e2, zst_n (by omega), e1, zst_v]
  · rw [e4, zst_n (by omega), e3, zst_n (by omega), e2, zst_v]
  · rw [e4, zst_n (by omega), e3, zst_v]
  · rw [e4, zst_v]
  · rw [e4, zst_n (by omega), e3, zst_k hk, e2, zst_n (by omega), e1, zst_n (by omega), g2 0 (by omega), a3 0 (by omega) (by omega) (by omega) (by omega)]
  · rw [q c h0 h1 h5 h6, g2 c h8, a3 c h2 h3 h4 (by omega)]
theorem st0_w {P : Pm} {rc B : Nat} {v d1 d2 : Int32} (hv : sm 20 v) (hrc : RuS P rc (fun _ _ => -1)) : WFs P (st0 v d1 d2) ∧ RuS P rc (st0 v d1 d2) ∧ sm B (st0 v d1 d2 0 1) ∧ ∀ k, pn P ≤ k → k < 6 → ¬ hob (st0 v d1 d2 0 3) k := by
  refine ⟨⟨hv, ⟨rfl, Nat.zero_le _⟩, fun k _ => ⟨rfl, Nat.zero_le _⟩, fun k _ => ⟨rfl, Nat.zero_le _⟩, fun k _ => ⟨rfl, Nat.zero_le _⟩, fun i b _ _ _ => rfl, fun k _ _ => rfl⟩, ⟨hrc.1, hrc.2.1, fun k _ => Or.inl rfl⟩, ⟨rfl, Nat.zero_le _⟩, fun k h1 h2 h => ?_⟩
  have : k = 0 ∨ k = 1 ∨ k = 2 ∨ k = 3 ∨ k = 4 ∨ k = 5 := by omega
  have h : hob 0 k := h
  unfold hob at h
  rcases this with rfl | rfl | rfl | rfl | rfl | rfl <;> exact h (by decide)
theorem iv_market {B n : Nat} {P : Pm} {rc : Nat} {s σ τ φ : Mm} {D : MD} (hI : Ivx B P rc s σ) (hD : CD 3 τ D) (hM : MB D) (a1 : AgS 27 τ (st0 (D.2.2.2 1) (σ 27 4) (σ 27 204))) (a2 : τ 695 3 = 0) (a3 : τ 699 3 = 0) (a4 : τ 0 16 = 0) (a5 : τ 1 1 = 0) (a6 : ∀ k, k ≠ 16 → τ 0 k = σ 0 k)
    (a7 : ∀ c, (12 ≤ c ∧ c < 27 ∨ 703 ≤ c) → τ c = σ c)
    (b1 : φ 703 24 = nI D.1.1) (b2 : φ 703 25 = nI D.1.2.1) (b3 : ∀ k, k < 3 * D.1.1 → φ 708 k = D.2.1 k) (b4 : ∀ k, k < 3 * D.1.2.1 → φ 709 k = D.2.2.1 k) (b5 : φ 710 0 = D.2.2.2 0) (b6 : φ 710 1 = D.2.2.2 1)
    (b7 : ∀ j, j < 57 → φ 714 j = if j = 54 then D.2.2.2 1 else if 18 ≤ j ∧ j < 23 then -1 else 0) (b8 : ∀ j, j < 5 → φ 716 j = -1) (c1 : φ 703 6 = 0) (c2 : φ 703 32 = 0) (c3 : φ 703 62 = 0) (c4 : φ 703 66 = 0) (c5 : φ 703 73 = 0)
    (d1 : ∀ k, (k = 7 ∨ 33 ≤ k ∧ k ≤ 34 ∨ k = 234 ∨ k = 71 ∨ k = 72 ∨ k = 272) → φ 703 k = τ 703 k) (d2 : ∀ c, c ≠ 703 → (c < 708 ∨ 714 < c) → c ≠ 716 → φ c = τ c) : Iv B φ := by
  obtain ⟨h1, h2, h3, ⟨r1, r2, r3, r4, r5⟩, ⟨⟨s1, s2, s3, s4', s5', s6'⟩, s4, s5, s6, s7⟩, ⟨k1, k2⟩, h7, h8⟩ := hI
  obtain ⟨e1, e2, e3, e4, e5, e6, e7, e8, e9, e10, e11, w, w1, w2, w3⟩ := hD
  have hP : IvP (mkP D w (pW P)) := mkP_ok e1 e2 hM (fun k hk => (w1 k hk).2) w2 w3
  have q : ∀ c, (c ≤ 10 ∨ 12 ≤ c ∧ c < 37 ∨ 695 ≤ c ∧ c ≤ 702 ∨ 704 ≤ c ∧ c ≤ 706) → φ c = τ c := fun c hc => d2 c (by omega) (by omega) (by omega)
  have hst := st0_w (P := mkP D w (pW P)) (rc := rc) (B := B) (v := D.2.2.2 1) (d1 := σ 27 4) (d2 := σ 27 204) hM.l ⟨r3, s4'.2.1, fun k _ => Or.inl rfl⟩
  refine ⟨mkP D w (pW P), rc, st0 (D.2.2.2 1) (σ 27 4) (σ 27 204), ⟨0, fun _ => 0, by omega, by rw [q 1 (by omega)]; exact a5, c1, fun k hk => absurd hk (Nat.not_lt_zero k), fun k hk => absurd hk (Nat.not_lt_zero k)⟩, hP, ⟨by rw [q 3 (by omega)]; exact e4, by rw [q 3 (by omega)]; exact e5, b1, b2, ⟨by rw [q 3 (by omega)]; exact e7, by rw [q 3 (by omega)]; exact e8, b5, b6⟩, fun k hk => ?_, fun i hi => ?_, fun k a b => by rw [q 4 (by omega), q 5 (by omega), q 6 (by omega)]; exact e10 k a b⟩,
    ⟨by rw [q 0 (by omega), a6 14 (by omega)]; exact r1, by rw [d1 7 (by omega), a7 703 (by omega)]; exact r2, r3, ?_, ?_⟩, ⟨⟨a1.fr (fun c g1 g2 => q c (by omega)), ?_, hst⟩, ?_, fun k hk => ?_, ?_, ?_⟩, ⟨by rw [q 0 (by omega), a6 15 (by omega), d1 33 (by omega), a7 703 (by omega)]; exact k1, by rw [q 0 (by omega), a6 15 (by omega)]; exact k2⟩, ⟨by rw [q 0 (by omega), a4, c5], Or.inl (by rw [q 0 (by omega)]; exact a4)⟩, ⟨⟨0, by omega, by rw [q 695 (by omega)]; exact a2, c3, fun k hk => absurd hk (Nat.not_lt_zero k)⟩, ⟨0, by omega, by rw [q 699 (by omega)]; exact a3, c4, fun k hk => absurd hk (Nat.not_lt_zero k)⟩⟩⟩
  · have hk : k < D.1.1 := hk
    have hs := hM.s hk
    have he := e9 k hk
    rw [q 4 (by omega), q 5 (by omega), q 6 (by omega), b3 _ (by omega), b3 _ (by omega), b3 _ (by omega)]
    exact ⟨he.1.trans hs.1.1, he.2.1, he.2.2.trans hs.2.2.1, hs.1.1, rfl, hs.2.2.1⟩
  · have hi : i < D.1.2.1 := hi
    have hs := hM.b hi
    have he := e11 i hi
    rw [q 7 (by omega), q 8 (by omega), q 9 (by omega), q 10 (by omega), b4 _ (by omega), b4 _ (by omega), b4 _ (by omega)]
    exact ⟨he.1, he.2.1.trans hs.2.1.1, he.2.2.trans hs.2.2.1, (w1 i hi).1, rfl, hs.2.1.1, hs.2.2.1⟩
  · have : RuC P rc φ := r4.of (fun r hr => ⟨by rw [q _ (by omega), a7 _ (by omega)], by rw [q _ (by omega), a7 _ (by omega)]⟩)
    exact this
  · have : RuR P rc φ := r5.of (by rw [q 705 (by omega), a7 705 (by omega)]) (fun r _ => by rw [q 706 (by omega), a7 706 (by omega)])
    exact this
  · rw [wr_self]
    have hn : D.1.1 ≤ 5 := e1
    refine ⟨fun k hk => ?_, ?_, ?_, ?_, fun i k hi hk => ?_, fun j g1 g2 => ?_⟩
    · have hk : k < D.1.1 := hk
      rw [b7 k (by omega), b7 (6 + k) (by omega), b7 (12 + k) (by omega), b7 (18 + k) (by omega), b7 (24 + k) (by omega), if_neg (by omega), if_neg (by omega), if_neg (by omega), if_neg (by omega), if_neg (by omega), if_neg (by omega), if_neg (by omega), if_pos (by omega), if_neg (by omega), if_neg (by omega)]
      exact ⟨rfl, rfl, rfl, rfl, rfl⟩
    · rw [b7 54 (by omega), if_pos rfl]; rfl
    · rw [b7 55 (by omega), if_neg (by omega), if_neg (by omega)]; rfl
    · rw [b7 56 (by omega), if_neg (by omega), if_neg (by omega)]; rfl
    · have hi : i < D.1.2.1 := hi
      rw [b7 _ (by omega), if_neg (by omega), if_neg (by omega)]
      split <;> rfl
    · have g1 : 4 * D.1.2.1 ≤ j := g1
      rw [b7 _ (by omega), if_neg (by omega), if_neg (by omega)]
  · rw [c2]; rfl
  · have hk : k < D.1.1 := hk
    rw [b8 k (by omega)]; rfl
  · rw [d1 34 (by omega), a7 703 (by omega), s6]
    show s 0 4 = σ 27 4
    exact s1.2.1.symm
  · rw [d1 234 (by omega), a7 703 (by omega), s7]
    show s 0 204 = σ 27 204
    exact s1.2.2.1.symm
theorem iv_rule {B n : Nat} {P : Pm} {rc : Nat} {s σ τ φ : Mm} {t : Nat → Int32} {cs : List (Option (List Int32) × List Int32)} (hI : Ivx B P rc s σ) (hrc : rc < 5) (hn : n ≤ 160) (hl : plen cs ≤ n) (hT : Tp t (σ 704) n) (hR : ∀ τ, τ 704 = σ 704 → RT (gst τ 704 0 (nI n)) t n)
    (hx : ∀ σ c b, RT (gst σ c b (nI n)) t n → ∃ τ, zfX12_goThrough c b (nI n) σ = some τ ∧ τ 703 11 = -1 ∧ FrG σ τ ∧ (LO σ → PV (lamR σ) cs (τ 703 14)))
    (a1 : τ (12 + 3 * rc) 2 = nI (plen cs)) (a2 : ∀ i, i < plen cs → τ (13 + 3 * rc) i = (prg 0 cs).getD i 0) (a3 : τ 0 14 = nI (rc + 1)) (a4 : τ 1 1 = 0) (a5 : ∀ k, k ≠ 14 → τ 0 k = σ 0 k) (a6 : ∀ c, c ≠ 0 → c ≠ 1 → c ≠ 46 → c ≠ 55 → c ≠ 56 → c ≠ 12 + 3 * rc → c ≠ 13 + 3 * rc → τ c = σ c)
    (b1 : ∀ j, φ 705 j = if 160 * rc ≤ j ∧ j < 160 * rc + n then vp_nar .byte (τ 704 (j - 160 * rc)) else τ 705 j) (b2 : ∀ r, φ 706 r = if r = rc then nI n else τ 706 r) (b3 : φ 703 6 = 0) (b4 : φ 703 7 = nI (rc + 1)) (b5 : ∀ k, (15 ≤ k ∧ k ≤ 16 ∨ 17 < k) → φ 703 k = τ 703 k) (b6 : ∀ c, c ≠ 703 → c ≠ 705 → c ≠ 706 → φ c = τ c) : Iv B φ := by
  obtain ⟨h1, h2, h3, ⟨r1, r2, r3, r4, r5⟩, hW, ⟨k1, k2⟩, ⟨i1, i2⟩, h8⟩ := hI
  have q : ∀ c, c ≠ 0 → c ≠ 1 → c ≠ 46 → c ≠ 55 → c ≠ 56 → c ≠ 703 → c ≠ 705 → c ≠ 706 → c ≠ 12 + 3 * rc → c ≠ 13 + 3 * rc → φ c = σ c := fun c g0 g1 g2 g3 g4 g5 g6 g7 g8 g9 => by rw [b6 c g5 g6 g7, a6 c g0 g1 g2 g3 g4 g8 g9]
  have q7 : ∀ k, (15 ≤ k ∧ k ≤ 16 ∨ 17 < k) → φ 703 k = σ 703 k := fun k hk => by rw [b5 k hk, a6 703 (by omega) (by omega) (by omega) (by omega) (by omega) (by omega) (by omega)]
  have q0 : ∀ k, k ≠ 14 → φ 0 k = σ 0 k := fun k hk => by rw [b6 0 (by omega) (by omega) (by omega)]; exact a5 k hk
  have z : ∀ c, (2 ≤ c ∧ c ≤ 10 ∨ 27 ≤ c ∧ c < 37 ∨ 58 ≤ c ∧ c ≤ 67 ∨ 695 ≤ c ∧ c ≤ 702 ∨ c = 704 ∨ 707 ≤ c) → φ c = σ c := fun c hc => q c (by omega) (by omega) (by omega) (by omega) (by omega) (by omega) (by omega) (by omega) (by omega) (by omega)
  have e704 : τ 704 = σ 704 := a6 704 (by omega) (by omega) (by omega) (by omega) (by omega) (by omega) (by omega)
  have e705 : τ 705 = σ 705 := a6 705 (by omega) (by omega) (by omega) (by omega) (by omega) (by omega) (by omega)
  have e706 : τ 706 = σ 706 := a6 706 (by omega) (by omega) (by omega) (by omega) (by omega) (by omega) (by omega)
  rw [e704, e705] at b1
  rw [e706] at b2
  have hn5 := h2.1.1
  have hm6 := h2.1.2.1
  refine ⟨addP P rc cs, rc + 1, s, ⟨0, fun _ => 0, by omega, by rw [b6 1 (by omega) (by omega) (by omega)]; exact a4, b3, fun k hk => absurd hk (Nat.not_lt_zero k), fun k hk => absurd hk (Nat.not_lt_zero k)⟩, h2, ?_,
    ⟨by rw [b6 0 (by omega) (by omega) (by omega)]; exact a3, b4, by omega, addP_C hrc hl hn r4 (fun r hr => ⟨q _ (by omega) (by omega) (by omega) (by omega) (by omega) (by omega) (by omega) (by omega) (by omega) (by omega), q _ (by omega) (by omega) (by omega) (by omega) (by omega) (by omega) (by omega) (by omega) (by omega) (by omega)⟩) (by rw [b6 _ (by omega) (by omega) (by omega)]; exact a1) (fun i hi => by rw [b6 _ (by omega) (by omega) (by omega)]; exact a2 i hi) hR hx, addP_R hrc hn hT r5 b1 b2 hx⟩, ?_, ⟨by rw [q0 15 (by omega), q7 33 (by omega)]; exact k1, by rw [q0 15 (by omega)]; exact k2⟩, ⟨by rw [q0 16 (by omega), q7 73 (by omega)]; exact i1, ?_⟩, ?_⟩
  · obtain ⟨m1, m2, m3, m4, m5, m6, m7, m8⟩ := h3
    refine ⟨by rw [z 3 (by omega)]; exact m1, by rw [z 3 (by omega)]; exact m2, by rw [q7 24 (by omega)]; exact m3, by rw [q7 25 (by omega)]; exact m4, by rw [z 3 (by omega), z 710 (by omega)]; exact m5, fun k hk => ?_, fun i hi => ?_, fun k a b => by rw [z 4 (by omega), z 5 (by omega), z 6 (by omega)]; exact m8 k a b⟩
    · rw [z 4 (by omega), z 5 (by omega), z 6 (by omega), z 708 (by omega)]; exact m6 k hk
    · rw [z 7 (by omega), z 8 (by omega), z 9 (by omega), z 10 (by omega), z 709 (by omega)]; exact m7 i hi
  · have hW2 : IvW P rc B s φ := IvW.of hW (fun c hc => z c (by omega)) (fun k hk => q7 k (by omega))
    obtain ⟨⟨s1, s2, s3, s4, s5⟩, s6⟩ := hW2
    exact ⟨⟨s1, s2, s3, addP_S hrc s4, s5⟩, s6⟩
  · rw [q0 16 (by omega)]
    refine i2.imp id (fun h => ⟨h.1, h.2.1, ?_⟩)
    obtain ⟨s', ⟨s1, s2, s3, s4', s5'⟩, s4, s5, s6, s7⟩ := h.2.2
    refine ⟨s', ⟨s1.fr (fun c a b => z c (by omega)), ?_, s3, addP_S hrc s4', s5'⟩, by rw [q7 71 (by omega)]; exact s4, fun k hk => by rw [z 738 (by omega)]; exact s5 k hk, by rw [q7 72 (by omega)]; exact s6, by rw [q7 272 (by omega)]; exact s7⟩
    have : RRs P (wr φ 714 (φ 737)) s' := s2.row hn5 hm6 (fun k hk => by rw [wr_s, wr_s, z 737 (by omega)])
    exact this
  · obtain ⟨⟨m, n1, n2, n3, n4⟩, ⟨a, a1, a2, a3, a4⟩⟩ := h8
    refine ⟨⟨m, n1, by rw [z 695 (by omega)]; exact n2, by rw [q7 62 (by omega)]; exact n3, fun k hk => ?_⟩, ⟨a, a1, by rw [z 699 (by omega)]; exact a2, by rw [q7 66 (by omega)]; exact a3, fun k hk => ?_⟩⟩
    · rw [z 696 (by omega), z 697 (by omega), z 731 (by omega), z 732 (by omega)]; exact n4 k hk
    · rw [z 700 (by omega), z 701 (by omega), z 702 (by omega), z 733 (by omega), z 734 (by omega), z 735 (by omega)]; exact a4 k hk
