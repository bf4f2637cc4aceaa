/-! ===== ring: the reference ===== -/
/-- a row of what is kept of a day -/
def rk (a : Nat → Int32) (k : Nat) : Int32 := if k < 10 then (if k % 2 = 0 then a (k / 2) else a (6 + k / 2)) else if k < 34 then a (30 + (k - 10)) else a 54
theorem r_keepSt {τ : Mm} {j : Nat} (hj : j ≤ 60) : Ok (zfX12_keepState (nI j) τ) (fun φ => (∀ c, c ≠ 727 → φ c = τ c) ∧ (∀ k, k < 35 → φ 727 (35 * j + k) = rk (τ 714) k) ∧ ∀ x, (x < 35 * j ∨ 35 * j + 35 ≤ x) → φ 727 x = τ 727 x) := by
  unfold zfX12_keepState
  refine ok_lg (fun w hw => ?_)
  have hw : w = nI (35 * j) := hw.trans (n_mul 35 j)
  subst hw
  refine ok_lg (fun K1 hK1 => ?_)
  refine ok_up (F := fun fu (x : Int32 × Mm) => zfX12_keepState_L7 K1 (nI (35 * j)) fu x.1 x.2) 5 (fun i x => x.1 = nI i ∧ (∀ c, c ≠ 727 → x.2 c = τ c) ∧ ∀ y, x.2 727 y = if 35 * j ≤ y ∧ y < 35 * j + 2 * i then rk (τ 714) (y - 35 * j) else τ 727 y) ?_ ?_ 0 NF (0, τ) ⟨rfl, fun _ _ => rfl, fun y => by rw [if_neg (by omega)]⟩ (by omega) (by unfold NF; omega)
  · rintro i fu ⟨x, φ⟩ hi ⟨hx, h1, h2⟩ hk
    have hx : x = nI i := hx
    subst hx
    have h1 : ∀ c, c ≠ 727 → φ c = τ c := h1
    have h2 : ∀ y, φ 727 y = if 35 * j ≤ y ∧ y < 35 * j + 2 * i then rk (τ 714) (y - 35 * j) else τ 727 y := h2
    show Ok (zfX12_keepState_L7 K1 (nI (35 * j)) (fu + 1) (nI i) φ) _
    unfold zfX12_keepState_L7
    have e2 : nI (35 * j) + 2 * nI i = nI (35 * j + 2 * i) := by rw [show (2 : Int32) * nI i = nI (2 * i) from n_mul 2 i, n_add]
    have e3 : nI (35 * j + 2 * i) + 1 = nI (35 * j + 2 * i + 1) := n_add _ 1
    have e6 : (6 : Int32) + nI i = nI (6 + i) := n_add 6 i
    rw [if_neg (by rw [show (5 : Int32) = nI 5 from rfl, n_le (by omega) (by omega)]; omega), ck_t ((n_in (by omega)).mpr (by omega)), e2, ck_t ((n_in (by omega)).mpr (by omega)), n_ix (by omega), n_ix (by omega)]
    refine ok_lg (fun φ1 g1 => ?_)
    rw [e6, ck_t ((n_in (by omega)).mpr (by omega)), e3, ck_t ((n_in (by omega)).mpr (by omega)), n_ix (by omega), n_ix (by omega)]
    refine ok_lg (fun φ2 g2 => ?_)
    refine ok_lg (fun x2 ex => ?_)
    rw [show nI i + 1 = nI (i + 1) from n_add _ 1] at ex
    have q1 : ∀ c, c ≠ 727 → φ1 c = τ c := fun c hc => by rw [g1, zst_n hc]; exact h1 c hc
    refine hk (x2, φ2) ⟨ex, fun c hc => by dsimp only; rw [g2, zst_n hc]; exact q1 c hc, fun y => ?_⟩
    dsimp only
    rw [g2, q1 714 (by omega)]
    by_cases c1 : y = 35 * j + 2 * i + 1
    · rw [c1, zst_v, if_pos (by omega), show 35 * j + 2 * i + 1 - 35 * j = 2 * i + 1 by omega]
      unfold rk
      rw [if_pos (by omega), if_neg (by omega), show (2 * i + 1) / 2 = i by omega]
    · rw [zst_k c1, g1, h1 714 (by omega)]
      by_cases c2 : y = 35 * j + 2 * i
      · rw [c2, zst_v, if_pos (by omega), show 35 * j + 2 * i - 35 * j = 2 * i by omega]
        unfold rk
        rw [if_pos (by omega), if_pos (by omega), show 2 * i / 2 = i by omega]
      · rw [zst_k c2, h2 y]
        by_cases c3 : 35 * j ≤ y ∧ y < 35 * j + 2 * i
        · rw [if_pos c3, if_pos (by omega)]
        · rw [if_neg c3, if_neg (by omega)]
  · rintro fu ⟨x, φ⟩ ⟨hx, h1, h2⟩
    have hx : x = nI 5 := hx
    subst hx
    have h1 : ∀ c, c ≠ 727 → φ c = τ c := h1
    have h2 : ∀ y, φ 727 y = if 35 * j ≤ y ∧ y < 35 * j + 2 * 5 then rk (τ 714) (y - 35 * j) else τ 727 y := h2
    show Ok (zfX12_keepState_L7 K1 (nI (35 * j)) (fu + 1) (nI 5) φ) _
    unfold zfX12_keepState_L7
    rw [if_pos (by decide)]
    simp only [hK1]
    refine ok_lg (fun K2 hK2 => ?_)
    refine ok_up (F := fun fu (x : Int32 × Mm) => zfX12_keepState_L57 K2 (nI (35 * j)) fu x.1 x.2) 24 (fun i x => x.1 = nI i ∧ (∀ c, c ≠ 727 → x.2 c = τ c) ∧ ∀ y, x.2 727 y = if 35 * j ≤ y ∧ y < 35 * j + 10 + i then rk (τ 714) (y - 35 * j) else τ 727 y) ?_ ?_ 0 NF (0, φ) ⟨rfl, h1, h2⟩ (by omega) (by unfold NF; omega)
    · rintro i fu ⟨x, φ⟩ hi ⟨hx, h1, h2⟩ hk
      have hx : x = nI i := hx
      subst hx
      have h1 : ∀ c, c ≠ 727 → φ c = τ c := h1
      have h2 : ∀ y, φ 727 y = if 35 * j ≤ y ∧ y < 35 * j + 10 + i then rk (τ 714) (y - 35 * j) else τ 727 y := h2
      show Ok (zfX12_keepState_L57 K2 (nI (35 * j)) (fu + 1) (nI i) φ) _
      unfold zfX12_keepState_L57
      have e3 : nI (35 * j) + 10 + nI i = nI (35 * j + 10 + i) := by rw [show nI (35 * j) + 10 = nI (35 * j + 10) from n_add _ 10, n_add]
      have e30 : (30 : Int32) + nI i = nI (30 + i) := n_add 30 i
      rw [if_neg (by rw [show (24 : Int32) = nI 24 from rfl, n_le (by omega) (by omega)]; omega), e30, ck_t ((n_in (by omega)).mpr (by omega)), e3, ck_t ((n_in (by omega)).mpr (by omega)), n_ix (by omega), n_ix (by omega)]
      refine ok_lg (fun φ1 g1 => ?_)
      refine ok_lg (fun x2 ex => ?_)
      rw [show nI i + 1 = nI (i + 1) from n_add _ 1] at ex
      refine hk (x2, φ1) ⟨ex, fun c hc => by dsimp only; rw [g1, zst_n hc]; exact h1 c hc, fun y => ?_⟩
      dsimp only
      rw [g1, h1 714 (by omega)]
      by_cases c1 : y = 35 * j + 10 + i
      · rw [c1, zst_v, if_pos (by omega), show 35 * j + 10 + i - 35 * j = 10 + i by omega]
        unfold rk
        rw [if_neg (by omega), if_pos (by omega), show 10 + i - 10 = i by omega]
      · rw [zst_k c1, h2 y]
        by_cases c3 : 35 * j ≤ y ∧ y < 35 * j + 10 + i
        · rw [if_pos c3, if_pos (by omega)]
        · rw [if_neg c3, if_neg (by omega)]
    · rintro fu ⟨x, φ⟩ ⟨hx, h1, h2⟩
      have hx : x = nI 24 := hx
      subst hx
      have h1 : ∀ c, c ≠ 727 → φ c = τ c := h1
      have h2 : ∀ y, φ 727 y = if 35 * j ≤ y ∧ y < 35 * j + 10 + 24 then rk (τ 714) (y - 35 * j) else τ 727 y := h2
      show Ok (zfX12_keepState_L57 K2 (nI (35 * j)) (fu + 1) (nI 24) φ) _
      unfold zfX12_keepState_L57
      rw [if_pos (by decide)]
      simp only [hK2]
      have e3 : nI (35 * j) + 35 - 1 = nI (35 * j + 34) := by rw [show nI (35 * j) + 35 = nI (35 * j + 35) from n_add _ 35, show (1 : Int32) = nI 1 from rfl, n_sub (by omega), show 35 * j + 35 - 1 = 35 * j + 34 by omega]
      rw [e3, ck_t ((n_in (by omega)).mpr (by omega)), n_ix (by omega), show ix 54 = 54 by decide, h1 714 (by omega)]
      refine ok_lg (fun φ1 g1 => ?_)
      rw [ok_s]
      refine ⟨fun c hc => by rw [g1, zst_n hc]; exact h1 c hc, fun k hk => ?_, fun y hy => ?_⟩
      · rw [g1]
        by_cases e : k = 34
        · subst e
          rw [zst_v]; rfl
        · rw [zst_k (by omega), h2, if_pos (by omega), show 35 * j + k - 35 * j = k by omega]
      · rw [g1, zst_k (by omega), h2, if_neg (by omega)]
theorem r_alike {τ : Mm} {i j : Nat} {R T : Nat → Int32} (hi : i ≤ 60) (hj : j ≤ 60) (h1 : ∀ k, k < 35 → τ 727 (35 * i + k) = R k) (h2 : ∀ k, k < 35 → τ 727 (35 * j + k) = T k) : Ok (zfX12_areAlike (nI i) (nI j) τ) (fun r => Fl r (∀ k, k < 35 → R k = T k)) := by
  unfold zfX12_areAlike
  refine ok_lg (fun K1 hK1 => ?_)
  refine ok_lg (fun K2 hK2 => ?_)
  refine ok_up (F := fun fu (x : Int32) => zfX12_areAlike_L2 K2 (nI i) (nI j) τ K1 fu x) 35 (fun m x => x = nI m ∧ ∀ k, k < m → R k = T k) ?_ ?_ 0 NF 0 ⟨rfl, fun k hk => absurd hk (Nat.not_lt_zero k)⟩ (by omega) (by unfold NF; omega)
  · rintro m fu x hm ⟨hx, h⟩ hk
    subst hx
    show Ok (zfX12_areAlike_L2 K2 (nI i) (nI j) τ K1 (fu + 1) (nI m)) _
    unfold zfX12_areAlike_L2
    have e1 : (35 : Int32) * nI i + nI m = nI (35 * i + m) := by rw [show (35 : Int32) * nI i = nI (35 * i) from n_mul 35 i, n_add]
    have e2 : (35 : Int32) * nI j + nI m = nI (35 * j + m) := by rw [show (35 : Int32) * nI j = nI (35 * j) from n_mul 35 j, n_add]
    rw [if_neg (by rw [show (35 : Int32) = nI 35 from rfl, n_le (by omega) (by omega)]; omega), e1, e2, ck_t ((n_in (by omega)).mpr (by omega)), ck_t ((n_in (by omega)).mpr (by omega)), n_ix (by omega), n_ix (by omega), h1 m hm, h2 m hm]
    by_cases c : R m = T m
    · rw [if_pos c]
      refine ok_lg (fun x2 ex => ?_)
      rw [show nI m + 1 = nI (m + 1) from n_add _ 1] at ex
      refine hk x2 ⟨ex, fun k hk => ?_⟩
      by_cases e : k = m
      · subst e; exact c
      · exact h k (by omega)
    · rw [if_neg c]
      simp only [hK1]
      rw [ok_s]
      exact Or.inl ⟨rfl, fun h => c (h m hm)⟩
  · rintro fu x ⟨hx, h⟩
    subst hx
    show Ok (zfX12_areAlike_L2 K2 (nI i) (nI j) τ K1 (fu + 1) (nI 35)) _
    unfold zfX12_areAlike_L2
    rw [if_pos (by decide)]
    simp only [hK2]
    rw [ok_s]
    exact Or.inr ⟨rfl, h⟩
/-- the row of a day, out of its state and what stands behind the sellers -/
def rwS (P : Pm) (c : Nat → Int32) (t : Mm) (k : Nat) : Int32 :=
  if k < 10 then (if k / 2 < pn P then (if k % 2 = 0 then t 1 (k / 2) else t 2 (k / 2)) else (if k % 2 = 0 then c (k / 2) else c (6 + k / 2)))
  else if k < 34 then (if k - 10 < 4 * pm P then (if (k - 10) % 4 < pwa P ((k - 10) / 4) then t 7 (4 * ((k - 10) / 4) + (pwa P ((k - 10) / 4) - (k - 10) % 4)) else 0) else 0) else t 0 0
theorem rwS_of {P : Pm} {c : Nat → Int32} {τ t : Mm} (h : RRs P τ t) (hc : ∀ k, pn P ≤ k → k < 6 → τ 714 k = c k ∧ τ 714 (6 + k) = c (6 + k)) {k : Nat} (hk : k < 35) : rk (τ 714) k = rwS P c t k := by
  obtain ⟨b1, b2, b3, b4, b5, b6⟩ := h
  unfold rk rwS
  by_cases c1 : k < 10
  · rw [if_pos c1, if_pos c1]
    by_cases c2 : k / 2 < pn P
    · rw [if_pos c2, (b1 _ c2).1, (b1 _ c2).2.1]
    · rw [if_neg c2, (hc (k / 2) (by omega) (by omega)).1, (hc (k / 2) (by omega) (by omega)).2]
  · rw [if_neg c1, if_neg c1]
    by_cases c2 : k < 34
    · rw [if_pos c2, if_pos c2]
      by_cases c3 : k - 10 < 4 * pm P
      · rw [if_pos c3]
        have := b5 ((k - 10) / 4) ((k - 10) % 4) (by omega) (by omega)
        rw [show 4 * ((k - 10) / 4) + (k - 10) % 4 = k - 10 by omega] at this
        exact this
      · rw [if_neg c3]; exact b6 (k - 10) (by omega) (by omega)
    · rw [if_neg c2, if_neg c2]; exact b2
theorem rwS_like {P : Pm} {c : Nat → Int32} {s t : Mm} (hn : pn P ≤ 5) (hm : pm P ≤ 6) (hwa : ∀ i, i < pm P → pwa P i ≤ 3) (hs : WFs P s) (ht : WFs P t) (e : ∀ k, pn P ≤ k → s 1 k = t 1 k ∧ s 2 k = t 2 k) : (∀ k, k < 35 → rwS P c s k = rwS P c t k) ↔ LkS s t := by
  obtain ⟨_, _, _, _, _, s6, s7⟩ := hs
  obtain ⟨_, _, _, _, _, t6, t7⟩ := ht
  constructor
  · intro h
    refine ⟨?_, fun k hk => ?_, fun k hk => ?_⟩
    · have := h 34 (by omega)
      unfold rwS at this
      rw [if_neg (by omega), if_neg (by omega), if_neg (by omega), if_neg (by omega)] at this
      exact this
    · by_cases c1 : k < pn P
      · have h1 := h (2 * k) (by omega)
        have h2 := h (2 * k + 1) (by omega)
        unfold rwS at h1 h2
        rw [if_pos (by omega), if_pos (by omega), if_pos (by omega), if_pos (by omega), if_pos (by omega), if_pos (by omega), show 2 * k / 2 = k by omega] at h1
        rw [if_pos (by omega), if_pos (by omega), if_neg (by omega), if_pos (by omega), if_pos (by omega), if_neg (by omega), show (2 * k + 1) / 2 = k by omega] at h2
        exact ⟨h1, h2⟩
      · exact e k (by omega)
    · by_cases c1 : k < 4 * pm P
      · by_cases c2 : k % 4 = 0 ∨ pwa P (k / 4) < k % 4
        · have a := s6 (k / 4) (k % 4) (by omega) (by omega) c2
          have b := t6 (k / 4) (k % 4) (by omega) (by omega) c2
          rw [show 4 * (k / 4) + k % 4 = k by omega] at a b
          rw [a, b]
        · have hw := hwa (k / 4) (by omega)
          have h1 := h (10 + (4 * (k / 4) + (pwa P (k / 4) - k % 4))) (by omega)
          unfold rwS at h1
          have e1 : (10 + (4 * (k / 4) + (pwa P (k / 4) - k % 4)) - 10) / 4 = k / 4 := by omega
          have e2 : (10 + (4 * (k / 4) + (pwa P (k / 4) - k % 4)) - 10) % 4 = pwa P (k / 4) - k % 4 := by omega
          rw [if_neg (by omega), if_pos (by omega), if_pos (by omega), e1, e2, if_pos (by omega), if_neg (by omega), if_pos (by omega), if_pos (by omega), if_pos (by omega), show 4 * (k / 4) + (pwa P (k / 4) - (pwa P (k / 4) - k % 4)) = k by omega] at h1
          exact h1
      · rw [s7 k (by omega) hk, t7 k (by omega) hk]
  · rintro ⟨h1, h2, h3⟩ k hk
    unfold rwS
    by_cases c1 : k < 10
    · rw [if_pos c1, if_pos c1, (h2 (k / 2) (by omega)).1, (h2 (k / 2) (by omega)).2]
    · rw [if_neg c1, if_neg c1]
      by_cases c2 : k < 34
      · rw [if_pos c2, if_pos c2]
        by_cases c3 : k - 10 < 4 * pm P
        · have hw := hwa ((k - 10) / 4) (by omega)
          rw [if_pos c3, if_pos c3, h3 (4 * ((k - 10) / 4) + (pwa P ((k - 10) / 4) - (k - 10) % 4)) (by omega)]
        · rw [if_neg c3, if_neg c3]
      · rw [if_neg c2, if_neg c2]; exact h1
theorem dys_hi {P : Pm} {s : Mm} {k : Nat} (hk : pN P ≤ k) : ∀ j, dys P s j 1 k = s 1 k ∧ dys P s j 2 k = s 2 k := by
  intro j
  induction j with
  | zero => exact ⟨rfl, rfl⟩
  | succ j ih =>
    constructor
    · show (if k < pN P then _ else dys P s j 1 k) = _
      rw [if_neg (by omega)]; exact ih.1
    · show (if k < pN P then _ else dys P s j 2 k) = _
      rw [if_neg (by omega)]; exact ih.2
theorem r_goesx {P : Pm} {rc B j : Nat} {s τ0 τ : Mm} (h : Kp P rc B s τ0) (f : FrT τ0 τ) (hA : RRs P τ (dys P s j)) (hj : j ≤ 900) :
    Ok (zfX12_goes 0 τ) (fun φ => RRs P φ (dys P s (j + 1)) ∧ FrT τ0 φ ∧ ∀ k, pn P ≤ k → k < 6 → φ 714 k = τ 714 k ∧ φ 714 (6 + k) = τ 714 (6 + k)) := by
  obtain ⟨h1, h2, h3, h4, h5, h6, h7, h8, h9⟩ := h
  refine ok_mono (r_day0 (f := 0) (rc := rc) h1.1 h1.2.1 (dys_wf h1.1 h2 h3 h4 j (by omega)).1 (dys_ru h5 j) (by rw [dys_3]; exact h6) hA (h7.fr f (dys_3 j) (dys_6 j)) (Or.inl ⟨h1.2.2.1, by rw [f.1 43 (by omega)]; exact h8⟩) (h9.fr f)) (fun φ hφ => ?_)
  obtain ⟨⟨g1, g2, g3, g4, g5, g6, g7⟩, g8⟩ := hφ
  exact ⟨g1, f.trans ⟨fun x hx => g6 x hx, fun c a1 a2 a3 a4 a5 a6 a7 a8 a9 a10 a11 a12 => g7 c a1 a2 a3 a4 a5 a6 a7 a8 a9 a10⟩, g8⟩
theorem Kp.w727 {P : Pm} {rc B : Nat} {s τ : Mm} {r : Nat → Int32} (h : Kp P rc B s τ) : Kp P rc B s (wr τ 727 r) := by
  obtain ⟨h1, h2, h3, h4, h5, h6, ⟨p1, p2, p3, p4, p5, p6, p7⟩, h8, h9⟩ := h
  have q : ∀ c, c ≠ 727 → wr τ 727 r c = τ c := fun c hc => wr_n hc
  refine ⟨h1, h2, h3, h4, h5, h6, ⟨by rw [q 703 (by omega)]; exact p1, by rw [q 703 (by omega)]; exact p2, by rw [q 703 (by omega)]; exact p3, by rw [q 703 (by omega)]; exact p4, by rw [q 710 (by omega)]; exact p5, fun k hk => ?_, fun i hi => ?_⟩, by rw [q 703 (by omega)]; exact h8, h9.of (q 705 (by omega)) (fun r _ => by rw [q 706 (by omega)])⟩
  · rw [q 708 (by omega), q 717 (by omega), q 716 (by omega)]; exact p6 k hk
  · rw [q 709 (by omega)]; exact p7 i hi
theorem FrT.w727 {τ φ : Mm} {r : Nat → Int32} (f : FrT τ φ) : FrT (wr τ 727 r) (wr φ 727 r) := by
  refine ⟨fun x hx => by rw [wr_n (by omega), wr_n (by omega)]; exact f.1 x hx, fun c a1 a2 a3 a4 a5 a6 a7 a8 a9 a10 a11 a12 => ?_⟩
  by_cases e : c = 727
  · rw [e, wr_s, wr_s]
  · rw [wr_n e, wr_n e]; exact f.2 c a1 a2 a3 a4 a5 a6 a7 a8 a9 a10 a11 a12
theorem wr_of {σ τ : Mm} {c : Nat} (h : ∀ a, a ≠ c → τ a = σ a) : τ = wr σ c (τ c) := by
  funext a
  by_cases e : a = c
  · rw [e, wr_s]
  · rw [wr_n e]; exact h a e
/-- the reference looks for a ring -/
theorem r_ring {B : Nat} {P : Pm} {rc : Nat} {s τ0 : Mm} {K : Int32 → Int32 → Mm → Option (Int32 × Mm)} {Q : Int32 × Mm → Prop} (h : Kp P rc B s τ0) (hA : RRs P τ0 s)
    (hK : ∀ p q r φ, RgE P s p q → FrT (wr τ0 727 r) φ → Ok (K p q φ) Q) : Ok (zfX12_ring_L35 K NF (-1) (-1) 0 τ0) Q := by
  obtain ⟨p1, p2, p3, p4, p5, p6, p7, p8, p9⟩ := id h
  have hn := p1.1.1
  have hm := p1.1.2.1
  have hN := p1.2.2.1
  have hwa : ∀ i, i < pm P → pwa P i ≤ 3 := fun i hi => (p1.1.2.2.2.2.2.1 i hi).2.1
  have hlk : ∀ i j, i ≤ 60 → j ≤ 60 → ((∀ k, k < 35 → rwS P (τ0 714) (dys P s i) k = rwS P (τ0 714) (dys P s j) k) ↔ LkS (dys P s i) (dys P s j)) := fun i j hi hj =>
    rwS_like hn hm hwa (dys_wf p1.1 p2 p3 p4 i (by omega)).1 (dys_wf p1.1 p2 p3 p4 j (by omega)).1 (fun k hk => by rw [(dys_hi (P := P) (s := s) (by omega) i).1, (dys_hi (P := P) (s := s) (by omega) i).2, (dys_hi (P := P) (s := s) (by omega) j).1, (dys_hi (P := P) (s := s) (by omega) j).2]; exact ⟨rfl, rfl⟩)
  refine ok_up (F := fun fu (x : Int32 × Int32 × Int32 × Mm) => zfX12_ring_L35 K fu x.1 x.2.1 x.2.2.1 x.2.2.2) 61 (fun j x => x.2.2.1 = nI j ∧ (∃ r, FrT (wr τ0 727 r) x.2.2.2) ∧ RRs P x.2.2.2 (dys P s j) ∧ (∀ k, pn P ≤ k → k < 6 → x.2.2.2 714 k = τ0 714 k ∧ x.2.2.2 714 (6 + k) = τ0 714 (6 + k)) ∧ (∀ i, i < j → ∀ k, k < 35 → x.2.2.2 727 (35 * i + k) = rwS P (τ0 714) (dys P s i) k) ∧ (x.1 = -1 → x.2.1 = -1 ∧ ∀ j', j' < j → ∀ i, i < j' → ¬ LkS (dys P s i) (dys P s j')) ∧ (x.1 ≠ -1 → RgE P s x.1 x.2.1)) ?_ ?_ 0 NF (-1, -1, 0, τ0)
    ⟨rfl, ⟨τ0 727, by rw [wr_self]; exact FrT.refl⟩, hA, fun k _ _ => ⟨rfl, rfl⟩, fun i hi => absurd hi (Nat.not_lt_zero i), fun _ => ⟨rfl, fun i hi => absurd hi (Nat.not_lt_zero i)⟩, fun h => absurd rfl h⟩ (by omega) (by unfold NF; omega)
  · rintro j fu ⟨p, q, y, τ⟩ hj ⟨hy, ⟨r, g1⟩, g2, g3, g4, g5, g6⟩ hk
    have hy : y = nI j := hy
    subst hy
    have g1 : FrT (wr τ0 727 r) τ := g1
    have g2 : RRs P τ (dys P s j) := g2
    have g3 : ∀ k, pn P ≤ k → k < 6 → τ 714 k = τ0 714 k ∧ τ 714 (6 + k) = τ0 714 (6 + k) := g3
    have g4 : ∀ i, i < j → ∀ k, k < 35 → τ 727 (35 * i + k) = rwS P (τ0 714) (dys P s i) k := g4
    have g5 : p = -1 → q = -1 ∧ ∀ j', j' < j → ∀ i, i < j' → ¬ LkS (dys P s i) (dys P s j') := g5
    have g6 : p ≠ -1 → RgE P s p q := g6
    show Ok (zfX12_ring_L35 K (fu + 1) p q (nI j) τ) Q
    unfold zfX12_ring_L35
    rw [if_neg (by rw [show (60 : Int32) = nI 60 from rfl, n_lt (by omega) (by omega)]; omega)]
    by_cases c : p = -1
    case neg =>
      rw [if_neg c]
      exact hK p q r τ (g6 c) g1
    case pos =>
    obtain ⟨e1, e2⟩ := g5 c
    subst c
    subst e1
    rw [if_pos rfl, ok_bd]
    refine ok_mono (r_keepSt (by omega)) (fun φ hφ => ?_)
    obtain ⟨k1, k2, k3⟩ := hφ
    have g2' : RRs P φ (dys P s j) := g2.fr14 (k1 714 (by omega))
    have row : ∀ i, i < j + 1 → ∀ k, k < 35 → φ 727 (35 * i + k) = rwS P (τ0 714) (dys P s i) k := fun i hi k hk2 => by
      by_cases e : i = j
      · subst e; rw [k2 k hk2]; exact rwS_of g2 g3 hk2
      · rw [k3 _ (by omega)]; exact g4 i (by omega) k hk2
    have g1' : FrT (wr τ0 727 (φ 727)) φ := by
      have := g1.w727 (r := φ 727)
      rw [wr_wr] at this
      rw [← wr_of (σ := τ) k1] at this
      exact this
    refine ok_lg (fun K2 hK2 => ?_)
    have fin : ∀ p2 q2, (p2 = -1 → q2 = -1 ∧ ∀ j', j' < j + 1 → ∀ i, i < j' → ¬ LkS (dys P s i) (dys P s j')) → (p2 ≠ -1 → RgE P s p2 q2) → Ok (K2 p2 q2 φ) Q := fun p2 q2 a1 a2 => by
      simp only [hK2]
      rw [ok_bd]
      refine ok_mono (r_goesx (h.w727 (r := φ 727)) g1' g2' (by omega)) (fun ψ hψ => ?_)
      obtain ⟨d1, d2, d3⟩ := hψ
      refine ok_lg (fun y2 ey => ?_)
      rw [show nI j + 1 = nI (j + 1) from n_add _ 1] at ey
      refine hk (p2, q2, y2, ψ) ⟨ey, ⟨φ 727, d2⟩, d1, fun k x1 x2 => ?_, fun i hi k hk2 => ?_, a1, a2⟩
      · dsimp only
        rw [(d3 k x1 x2).1, (d3 k x1 x2).2, k1 714 (by omega)]; exact g3 k x1 x2
      · dsimp only
        rw [d2.c (by omega), wr_s]; exact row i hi k hk2
    refine ok_up (F := fun fu (x : Int32 × Int32 × Int32) => zfX12_ring_L56 (nI j) K2 fu x.1 x.2.1 x.2.2 φ) j (fun i x => x.2.2 = nI i ∧ (x.1 = -1 → x.2.1 = -1 ∧ ∀ i', i' < i → ¬ LkS (dys P s i') (dys P s j)) ∧ (x.1 ≠ -1 → RgE P s x.1 x.2.1)) ?_ ?_ 0 NF (-1, -1, 0) ⟨rfl, fun _ => ⟨rfl, fun i hi => absurd hi (Nat.not_lt_zero i)⟩, fun h => absurd rfl h⟩ (by omega) (by unfold NF; omega)
    · rintro i fu2 ⟨p2, q2, y⟩ hi ⟨hy, a1, a2⟩ hk2
      have hy : y = nI i := hy
      subst hy
      have a1 : p2 = -1 → q2 = -1 ∧ ∀ i', i' < i → ¬ LkS (dys P s i') (dys P s j) := a1
      have a2 : p2 ≠ -1 → RgE P s p2 q2 := a2
      show Ok (zfX12_ring_L56 (nI j) K2 (fu2 + 1) p2 q2 (nI i) φ) Q
      unfold zfX12_ring_L56
      rw [if_neg (by rw [n_le (by omega) (by omega)]; omega)]
      by_cases c : p2 = -1
      case neg =>
        rw [if_neg c]
        exact fin p2 q2 (fun h => absurd h c) a2
      case pos =>
      obtain ⟨b1, b2⟩ := a1 c
      subst c
      subst b1
      rw [if_pos rfl, ok_bd]
      refine ok_mono (r_alike (i := i) (j := j) (by omega) (by omega) (row i (by omega)) (row j (by omega))) (fun v hv => ?_)
      refine ok_lg (fun J hJ => ?_)
      rcases hv with ⟨e, hv⟩ | ⟨e, hv⟩
      · rw [if_pos e]
        simp only [hJ]
        refine ok_lg (fun y2 ey => ?_)
        rw [show nI i + 1 = nI (i + 1) from n_add _ 1] at ey
        refine hk2 (-1, -1, y2) ⟨ey, fun _ => ⟨rfl, fun i' hi' => ?_⟩, fun h => absurd rfl h⟩
        by_cases e3 : i' = i
        · subst e3; exact fun h2 => hv ((hlk i' j (by omega) (by omega)).mpr h2)
        · exact b2 i' (by omega)
      · rw [if_neg (by rw [e]; decide)]
        refine ok_lg (fun x3 ex3 => ?_)
        rw [n_sub (by omega)] at ex3
        simp only [hJ]
        refine ok_lg (fun y2 ey => ?_)
        rw [show nI i + 1 = nI (i + 1) from n_add _ 1] at ey
        refine hk2 (nI i, x3, y2) ⟨ey, fun h => absurd h (n_ne1 (by omega)), fun _ => Or.inr ⟨j, i, hi, by omega, (hlk i j (by omega) (by omega)).mp hv, fun k hk3 => e2 k hk3, b2, rfl, ex3⟩⟩
    · rintro fu2 ⟨p2, q2, y⟩ ⟨hy, a1, a2⟩
      have hy : y = nI j := hy
      subst hy
      have a1 : p2 = -1 → q2 = -1 ∧ ∀ i', i' < j → ¬ LkS (dys P s i') (dys P s j) := a1
      have a2 : p2 ≠ -1 → RgE P s p2 q2 := a2
      show Ok (zfX12_ring_L56 (nI j) K2 (fu2 + 1) p2 q2 (nI j) φ) Q
      unfold zfX12_ring_L56
      rw [if_pos (Int32.le_refl _)]
      refine fin p2 q2 (fun h => ⟨(a1 h).1, fun j' hj' i hi => ?_⟩) a2
      by_cases e : j' = j
      · subst e; exact (a1 h).2 i hi
      · exact e2 j' (by omega) i hi
  · rintro fu ⟨p, q, y, τ⟩ ⟨hy, ⟨r, g1⟩, g2, g3, g4, g5, g6⟩
    have hy : y = nI 61 := hy
    subst hy
    show Ok (zfX12_ring_L35 K (fu + 1) p q (nI 61) τ) Q
    unfold zfX12_ring_L35
    rw [if_pos (by decide)]
    refine hK p q r τ ?_ g1
    by_cases c : p = -1
    · obtain ⟨e1, e2⟩ := g5 c
      exact Or.inl ⟨c, e1, fun j hj => e2 j (by omega)⟩
    · exact g6 c
theorem ring_F {B : Nat} {x : Int32} {P : Pm} {rc : Nat} {s σ : Mm} (hI : Ivx B P rc s σ) (hA : ¬ (0 < pn P ∧ Rok 0 1 x)) : zfX11_ring x σ = some (-1, σ) := by
  unfold zfX11_ring
  refine lt_i (fun J hJ => ?_)
  have fin : J σ = some (-1, σ) := by rw [hJ]
  by_cases c0 : zfX11_noMarket σ = 0
  case neg => rw [if_neg c0]; exact fin
  case pos =>
  rw [if_pos c0]
  by_cases c1 : zfX11_noWhat x 1 = 0
  case neg => rw [if_neg c1]; exact fin
  case pos =>
  rw [if_pos c1]
  exact absurd ⟨(g_mk hI).1.mp c0, g_what1.mp c1⟩ hA
theorem ring_G {B : Nat} {x : Int32} {P : Pm} {rc : Nat} {s σ : Mm} (hI : Ivx B P rc s (zst σ 703 0 0)) (hA : ¬ (0 < pn P ∧ Rok 0 1 x)) : zfX12_ring x σ = some (-1, zst σ 703 0 0) := by
  unfold zfX12_ring
  refine lt_i (fun υ hυe => ?_)
  refine lt_i (fun J hJ => ?_)
  rw [← hυe] at hI ⊢
  have hυ := hI
  have fin : J υ = some (-1, υ) := by rw [hJ]
  by_cases c0 : υ 703 24 = 0
  case pos => rw [if_pos c0]; exact fin
  case neg =>
  rw [if_neg c0]
  by_cases c1 : zfX12_isIn x.toInt64 0 1 = 0
  case pos => rw [if_pos c1]; exact fin
  case neg =>
  rw [if_neg c1]
  exact absurd ⟨(Classical.byContradiction (fun h9 => c0 ((g_mk hυ).2.mpr h9))), (Classical.byContradiction (fun h9 => c1 (g_in1.mpr h9)))⟩ hA
theorem q_ring {B : Nat} (hB : B < 800000) (x : Int32) : Qy B (zfX11_ring x) (zfX12_ring x) := by
  refine q_gen (-1) (fun P => 0 < pn P ∧ Rok 0 1 x) (fun P rc s σ hI hA => ring_F hI hA) (fun P rc s σ hI hA => ring_G hI hA) (fun P rc s σ hI hA => ?_)
  obtain ⟨h0, hz⟩ := hA
  have hB9 : B < 900000 := by omega
  unfold zfX11_ring
  refine ok_lg (fun J hJ => ?_)
  rw [if_pos ((g_mk hI).1.mpr h0), if_pos (g_what1.mpr hz), ok_bd2]
  refine ok_mono (c_ring hB9 hI h0) (fun a ha => ?_)
  obtain ⟨fr, ha⟩ := ha
  have yes : ∀ p q v : Int32, RgE P s p q → v = (if x = 0 then p else q) → ∀ υ, Ivx B P rc s υ → υ = zst a.2 703 0 0 → Ok (zfX12_ring x a.2) (fun b => b.1 = v ∧ FrS υ b.2) := fun p q v hpq hv' υ hυ e => by
    unfold zfX12_ring
    refine ok_lg (fun υ' e' => ?_)
    have : υ' = υ := e'.trans e.symm
    subst this
    refine ok_lg (fun J2 _ => ?_)
    rw [if_neg (fun c => (g_mk hυ).2.mp c h0), if_neg (fun c => g_in1.mp c hz)]
    refine rq_kept hB9 hυ h0 (fun τ k1 k2 k3 k4 k5 => ?_)
    refine ok_lg (fun K hK => ?_)
    refine r_ring k1 k2 (fun p2 q2 r φ hpq2 fφ => ?_)
    obtain ⟨rfl, rfl⟩ := hpq.uniq hpq2
    simp only [hK]
    rw [ok_bd]
    have q : ∀ c, c ≠ 727 → wr τ 727 r c = τ c := fun c hc => wr_n hc
    refine ok_mono (rq_back (k4.trans ⟨fun c hc => q c (by omega), fun k _ => by rw [q 714 (by omega)], fun k _ => by rw [q 703 (by omega)]⟩) (fun j hj => by rw [q 715 (by omega)]; exact k3 j hj) fφ) (fun χ hχ => ?_)
    rw [hv']
    by_cases c : x = 0
    · rw [if_pos c, if_pos c, ok_s]; exact ⟨rfl, hχ.1⟩
    · rw [if_neg c, if_neg c, ok_s]; exact ⟨rfl, hχ.1⟩
  rcases ha with ⟨e, he⟩ | ⟨e, he⟩
  · rw [if_pos e]
    simp only [hJ]
    rw [ok_s]
    exact ⟨fr, yes _ _ _ he (by split <;> rfl)⟩
  · rw [if_neg (by rw [e]; decide)]
    by_cases c : x = 0
    · rw [if_pos c, ok_s]; exact ⟨fr, yes _ _ _ he (by rw [if_pos c])⟩
    · rw [if_neg c, ok_s]; exact ⟨fr, yes _ _ _ he (by rw [if_neg c])⟩
