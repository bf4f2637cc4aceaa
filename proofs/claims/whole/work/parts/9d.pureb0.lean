/-! ===== text answers alike ===== -/
theorem q_text {B : Nat} (x : Int32) : Qy B (zfX11_text x) (zfX12_text x) := by
  rintro σ ⟨P, rc, s, hI⟩
  obtain ⟨n, t, hn, h1, h6, ht, hc, hT, hR⟩ := iv_tape hI.1
  have hr1 := hI.2.2.2.1.1
  have hr2 := hI.2.2.2.1.2.1
  have hrc := hI.2.2.2.1.2.2.1
  -- the reference refuses
  have badF : ∀ (τ : Mm) (v : Int32), FrS σ τ → (x = 0 ∨ x = 1 ∧ rc < 5) → ¬ v = -1 → (∀ υ, υ = zst τ 703 0 0 → Ok (zfX12_fault x υ) (fun b => b.1 = v ∧ FrS υ b.2)) → Ok (zfX12_text x τ) (fun b => b.1 = -1 ∧ Iv (B + 31) b.2) := fun τ v fr hx hv hf => by
    have hz := (hI.fr fr).z0
    unfold zfX12_text
    refine ok_lg (fun υ e => ?_)
    refine ok_lg (fun J hJ => ?_)
    rw [if_neg (fun h => by have := q_sort01.mp h; rcases hx with hx | hx; exact this.1 hx; exact this.2 hx.1)]
    refine ok_lg (fun J2 hJ2 => ?_)
    have go : Ok (J2 υ) (fun b => b.1 = -1 ∧ Iv (B + 31) b.2) := by
      simp only [hJ2]
      rw [ok_bd2]
      refine ok_mono (hf υ e) (fun b hb => ?_)
      rw [if_neg (by rw [hb.1]; exact hv)]
      simp only [hJ]
      rw [ok_s]
      rw [e] at hb
      exact ⟨rfl, Iv.up ⟨P, rc, s, hz.fr hb.2⟩ (by omega)⟩
    by_cases c : x = 1
    · rw [if_pos c]
      have hx2 : rc < 5 := by
        rcases hx with hx | hx
        · rw [hx] at c; exact absurd c (by decide)
        · exact hx.2
      have u7 : υ 703 7 = nI rc := by rw [e, zst_k (by omega), fr.2.2 7 (by omega)]; exact hr2
      rw [u7, if_neg (show ¬ nI rc = 5 by rw [show (5 : Int32) = nI 5 from rfl, n_eq (by omega) (by omega)]; omega)]
      exact go
    · rw [if_neg c]; exact go
  have bad0 : (x ≠ 0 ∧ (x = 1 → rc = 5)) → Ok (zfX12_text x σ) (fun b => b.1 = -1 ∧ Iv (B + 31) b.2) := fun hx => by
    unfold zfX12_text
    refine ok_lg (fun υ e => ?_)
    refine ok_lg (fun J hJ => ?_)
    have fin : Ok (J υ) (fun b => b.1 = -1 ∧ Iv (B + 31) b.2) := by
      simp only [hJ]
      rw [ok_s]
      subst e
      exact ⟨rfl, Iv.up ⟨P, rc, s, hI.z0⟩ (by omega)⟩
    by_cases c : x = 1
    · rw [if_neg (fun h => (q_sort01.mp h).2 c)]
      refine ok_lg (fun J2 hJ2 => ?_)
      have u7 : υ 703 7 = nI rc := by rw [e, zst_k (by omega)]; exact hr2
      rw [if_pos c, u7, if_pos (by rw [hx.2 c]; rfl)]
      exact fin
    · rw [if_pos (q_sort01.mpr ⟨hx.1, c⟩)]; exact fin
  unfold zfX11_text
  refine ok_lg (fun J hJ => ?_)
  by_cases c0 : x = 0
  · subst c0
    rw [if_pos rfl, ok_bd2]
    refine ok_mono (c_market (q := 47) ht (Or.inr rfl) (hc σ rfl rfl)) (fun a ha => ?_)
    cases hm : mkS t n 400 0 D0 with
    | error e =>
      rw [hm] at ha
      rw [if_neg (by rw [ha.1]; exact n_ne1 (by omega))]
      simp only [hJ]
      refine ok_lg (fun J3 hJ3 => ?_)
      rw [if_neg (by decide)]
      simp only [hJ3]
      rw [ok_s]
      have fr := ha.2.2
      refine badF a.2 (nI e) fr.s (Or.inl rfl) (n_ne1 (by omega)) (fun υ eυ => ?_)
      refine ok_mono (r_fault0 (σ := υ) ht hn (by rw [eυ, zst_k (by omega), fr 703 (by omega) (by omega) (by omega) (by omega)]; exact h6) (by rw [eυ, zst_n (by omega), fr 704 (by omega) (by omega) (by omega) (by omega)]; exact hT)) (fun b hb => ?_)
      rw [hm] at hb
      refine ⟨hb.1, ?_⟩
      have f2 := hb.2.2.s
      have fz : FrS υ (zst υ 703 0 0) := ⟨fun c hc => zst_n (by omega), fun k _ => by rw [zst_n (by omega)], fun k hk => zst_k (by omega)⟩
      exact fz.trans f2
    | ok D =>
      rw [hm] at ha
      obtain ⟨ha1, ha2, fr⟩ := ha
      rw [if_pos ha1, ok_bd2]
      have mb := mk_in MB.z hm
      refine ok_mono (c_openM (σ := a.2) ht (hc a.2 (fr 1 (by omega) (by omega) (by omega) (by omega)) (fr 2 (by omega) (by omega) (by omega) (by omega))) hm) (fun b hb => ?_)
      obtain ⟨g1, g2, g3, g4, g5, g6, g7, g8, g9⟩ := hb
      rw [ok_s]
      dsimp only
      have q : ∀ c, c ≠ 0 → c ≠ 1 → c ≠ 43 → c ≠ 44 → c ≠ 45 → c ≠ 695 → c ≠ 699 → (c < 3 ∨ 10 < c) → (c < 27 ∨ 36 < c) → (c < 47 ∨ 54 < c) → b.2 c = σ c := fun c h0 h1 h2 h3 h4 h5 h6 h7 h8 h9 => by rw [g9 c h0 h1 h2 h3 h4 h5 h6 h7 h8, fr c h2 h3 h4 (by omega)]
      have e27 : a.2 27 = σ 27 := fr 27 (by omega) (by omega) (by omega) (by omega)
      rw [e27] at g3
      refine ok_mono (r_text0 (σ := b.2) (D := D) ht hn (by rw [q 703 (by omega) (by omega) (by omega) (by omega) (by omega) (by omega) (by omega) (by omega) (by omega) (by omega)]; exact h6) (by rw [q 704 (by omega) (by omega) (by omega) (by omega) (by omega) (by omega) (by omega) (by omega) (by omega) (by omega)]; exact hT) hm) (fun d hd => ?_)
      obtain ⟨k1, k2, k3, k4, k5, k6, k7, k8, k9, k10, k11, k12, k13, k14, k15, k16⟩ := hd
      refine ⟨k1.trans g1.symm, Iv.up (iv_market (n := n) hI g2 mb.1 g3 g4 g5 g6 g7 (fun k hk => by rw [g8 k hk, fr 0 (by omega) (by omega) (by omega) (by omega)]) (fun c hc => q c (by omega) (by omega) (by omega) (by omega) (by omega) (by omega) (by omega) (by omega) (by omega) (by omega)) k2 k3 k4 k5 k6 k7 k8 k9 k10 k11 k12 k13 k14 (fun k hk => k15 k hk) (fun c h1 h2 h3 => k16 c h1 h2 h3)) (by omega)⟩
  · rw [if_neg c0]
    simp only [hJ]
    refine ok_lg (fun J3 hJ3 => ?_)
    by_cases c1 : x = 1
    case neg =>
      rw [if_neg c1]
      simp only [hJ3]
      rw [ok_s]
      exact bad0 ⟨c0, fun h => absurd h c1⟩
    case pos =>
    subst c1
    rw [if_pos rfl, hr1]
    by_cases c5 : rc = 5
    · rw [if_pos (by rw [show (5 : Int32) = nI 5 from rfl, n_le (by omega) (by omega)]; omega)]
      simp only [hJ3]
      rw [ok_s]
      exact bad0 ⟨c0, fun _ => c5⟩
    rw [if_neg (by rw [show (5 : Int32) = nI 5 from rfl, n_le (by omega) (by omega)]; omega), ok_bd2]
    have hRu := rule_rel ht hn
    rcases hRu with ⟨e, he, r1, r2⟩ | ⟨cs, hl, r1, r2⟩
    · obtain ⟨τ, k1, k2⟩ := r1 σ 55 (hc σ rfl rfl) (by decide)
      rw [k1, ok_s, if_neg (show ¬ (nI e, τ).1 = -1 from n_ne1 (by omega))]
      simp only [hJ3]
      rw [ok_s]
      refine badF τ (nI e) ⟨fun c hc => k2 c (by omega) (by omega) (by omega), fun k _ => by rw [k2 714 (by omega) (by omega) (by omega)], fun k _ => by rw [k2 703 (by omega) (by omega) (by omega)]⟩ (Or.inr ⟨rfl, by omega⟩) (n_ne1 (by omega)) (fun υ eυ => ?_)
      refine ok_mono (r_fault1 (t := t) (σ := υ) (n := n) (v := nI e) (by rw [eυ, zst_k (by omega), k2 703 (by omega) (by omega) (by omega)]; exact h6) (fun υ2 h2 => r2 υ2 704 0 (hR υ2 (by rw [h2, eυ, zst_n (by omega), k2 704 (by omega) (by omega) (by omega)])))) (fun b hb => ?_)
      have fz : FrS υ (zst υ 703 0 0) := ⟨fun c hc => zst_n (by omega), fun k _ => by rw [zst_n (by omega)], fun k hk => zst_k (by omega)⟩
      exact ⟨hb.1, fz.trans hb.2.s⟩
    · obtain ⟨τ, k1, k2, k3⟩ := r1 σ 55 (hc σ rfl rfl) (by decide)
      rw [k1, ok_s, if_pos (show (((-1 : Int32), τ).1 = -1) from rfl), ok_bd2]
      dsimp only
      unfold zfX11_addRule
      refine ok_lg (fun y hy => ?_)
      rw [k2 0 (by omega) (by omega) (by omega), hr1] at hy
      subst hy
      refine ok_lg (fun J4 _ => ?_)
      have hin : inb (nI rc) 5 := (n_in (by omega)).mpr (by omega)
      rw [if_neg (by rw [show (5 : Int32) = nI 5 from rfl, n_le (by omega) (by omega)]; omega), ck_t hin, ck_t hin, ok_bd2, n_ix (by omega)]
      have hz : zIsR (12 + 3 * rc) := by
        have : rc = 0 ∨ rc = 1 ∨ rc = 2 ∨ rc = 3 ∨ rc = 4 := by omega
        rcases this with rfl | rfl | rfl | rfl | rfl <;> decide
      obtain ⟨τ2, l1, l2, l3, l4⟩ := r1 τ (12 + 3 * rc) (hc τ (k2 1 (by omega) (by omega) (by omega)) (k2 2 (by omega) (by omega) (by omega))) hz
      rw [l1, ok_s]
      dsimp only
      refine ok_lg (fun φ1 g1 => ?_)
      refine ok_lg (fun φ2 g2 => ?_)
      rw [ok_s, ok_s]
      dsimp only
      have q : ∀ c, c ≠ 0 → c ≠ 1 → φ2 c = τ2 c := fun c h0 h1 => by rw [g2, zst_n h1, g1, zst_n h0]
      have q2 : ∀ c, c ≠ 0 → c ≠ 1 → c ≠ 46 → c ≠ 55 → c ≠ 56 → c ≠ 12 + 3 * rc → c ≠ 13 + 3 * rc → φ2 c = σ c := fun c h0 h1 h2 h3 h4 h5 h6 => by rw [q c h0 h1, l2 c h2 h5 (by omega), k2 c h2 h3 (by omega)]
      refine ok_mono (r_text1 (n := n) (rc := rc) (σ := φ2) hn (by omega) (by rw [q2 703 (by omega) (by omega) (by omega) (by omega) (by omega) (by omega) (by omega)]; exact h6) (by rw [q2 703 (by omega) (by omega) (by omega) (by omega) (by omega) (by omega) (by omega)]; exact hr2) (fun υ hυ => ?_)) (fun b hb => ?_)
      · obtain ⟨ψ, m1, m2, m3, m4⟩ := r2 υ 704 0 (hR υ (by rw [hυ, q2 704 (by omega) (by omega) (by omega) (by omega) (by omega) (by omega) (by omega)]))
        exact ⟨ψ, m1, m2, m3⟩
      obtain ⟨b1, b2, b3, b4, b5, b6, b7⟩ := hb
      refine ⟨b1, Iv.up (iv_rule (n := n) (t := t) (cs := cs) hI (by omega) hn hl hT hR r2 ?_ (fun i hi => ?_) ?_ ?_ (fun k hk => ?_) q2 b2 b3 b4 b5 b6 b7) (by omega)⟩
      · rw [q _ (by omega) (by omega)]; exact l3
      · rw [q _ (by omega) (by omega), show 13 + 3 * rc = 12 + 3 * rc + 1 by omega, l4]
        have hlen : i < (prg 0 cs).length := by rw [prg_len]; exact hi
        have := wrs_get (f := τ (12 + 3 * rc + 1)) (n := 0) (L := prg 0 cs) (k := i) hlen
        rw [Nat.zero_add] at this
        rw [this, List.getD_eq_getElem?_getD, List.getElem?_eq_getElem hlen]; rfl
      · rw [g2, zst_n (by omega), g1, zst_v]; exact n_add rc 1
      · rw [g2, zst_v]
      · rw [g2, zst_n (by omega), g1, zst_k hk, l2 0 (by omega) (by omega) (by omega), k2 0 (by omega) (by omega) (by omega)]
