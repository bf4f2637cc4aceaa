/-! ===== the reference's days with other holders ===== -/
/-- a question of the reference under way, with any holders -/
def Kb (P : Pm) (rc : Nat) (s σ τ : Mm) : Prop := FrS σ τ ∧ (∀ j, j < 57 → τ 715 j = σ 714 j) ∧ RRs P τ s ∧ PmR P (zst s 0 3 (τ 703 41)) τ ∧ τ 703 43 = 0 ∧ RuR P rc τ
/-- what it goes by -/
def Ks (P : Pm) (rc B : Nat) (s : Mm) : Prop := IvP P ∧ WFs P s ∧ sm B (s 0 1) ∧ B < 900000 ∧ RuS P rc s ∧ ∀ k, pn P ≤ k → k < 6 → ¬ hob (s 0 3) k
theorem Ivx.ks {B : Nat} {P : Pm} {rc : Nat} {s σ : Mm} (hI : Ivx B P rc s σ) (hB : B < 900000) : Ks P rc B s := by
  obtain ⟨h1, h2, h3, h4, ⟨⟨s1, s2, s3, t4, t5, t6⟩, s4⟩, h6⟩ := hI
  exact ⟨h2, s3, t5, hB, t4, t6⟩
theorem rq_keptb {B : Nat} {P : Pm} {rc : Nat} {s σ : Mm} {β : Type} {K : Mm → Option β} {Q : β → Prop} (hB : B < 900000) (hI : Ivx B P rc s σ) (h0 : 0 < pn P)
    (hK : ∀ τ, Kb P rc s σ τ → τ 703 41 = s 0 3 → (∀ c, c ≠ 703 → c ≠ 715 → c ≠ 717 → τ c = σ c) → Ok (K τ) Q) : Ok (bd (zfX12_keep σ) K) Q := by
  refine rq_kept hB hI h0 (fun τ k1 k2 k3 k4 k5 => ?_)
  obtain ⟨g1, g2, g3, g4, g5, g6, g7, g8, g9⟩ := k1
  refine hK τ ⟨k4, k3, k2, ?_, g8, g9⟩ g7.2.2.1 k5
  rw [g7.2.2.1, zst_self rfl]
  exact g7
theorem PmR.v {P : Pm} {s σ τ : Mm} {v : Int32} (h : PmR P s σ) (f : ∀ k, k ≠ 41 → τ 703 k = σ 703 k) (f41 : τ 703 41 = v) (fc : ∀ c, (708 ≤ c ∧ c ≤ 710 ∨ 716 ≤ c ∧ c ≤ 717) → τ c = σ c) : PmR P (zst s 0 3 v) τ := by
  obtain ⟨h1, h2, h3, h4, h5, h6, h7⟩ := h
  refine ⟨by rw [f 24 (by omega)]; exact h1, by rw [f 25 (by omega)]; exact h2, by rw [f41, zst_v], by rw [f 42 (by omega)]; exact h4, by rw [fc 710 (by omega)]; exact h5, fun k hk => ?_, fun i hi => ?_⟩
  · rw [fc 708 (by omega), fc 716 (by omega), fc 717 (by omega), hS_r (by omega)]; exact h6 k hk
  · rw [fc 709 (by omega)]; exact h7 i hi
theorem hS_hS {s : Mm} {v w : Int32} : zst (zst s 0 3 v) 0 3 w = zst s 0 3 w := zst_zst
theorem Kb.tries {P : Pm} {rc B d : Nat} {s σ τ : Mm} {v : Int32} (h : Kb P rc s σ τ) (hs : Ks P rc B s) (hv : ∀ k, pn P ≤ k → k < 6 → ¬ hob v k) (hd : d ≤ 60) :
    Ok (zfX12_tries (nI d) (zst τ 703 41 v)) (fun φ => RRs P φ (dys P (zst s 0 3 v) d) ∧ (∀ j, j ≤ d → φ 725 j = dys P (zst s 0 3 v) j 0 0) ∧ FrT (zst τ 703 41 v) φ) := by
  obtain ⟨k1, k2, k3, k4, k5, k6⟩ := h
  obtain ⟨g1, g2, g3, g4, g5, g6⟩ := hs
  have w := hS_wf (v := v) g2 g5 g3
  have q : ∀ c, c ≠ 703 → zst τ 703 41 v c = τ c := fun c hc => zst_n hc
  have kp : Kp P rc B (zst s 0 3 v) (zst τ 703 41 v) := by
    refine ⟨g1, w.1, w.2.2, g4, w.2.1, by rw [zst_v]; exact hv, ?_, by rw [zst_k (by omega)]; exact k5, k6.of (q 705 (by omega)) (fun r _ => by rw [q 706 (by omega)])⟩
    have := k4.v (τ := zst τ 703 41 v) (v := v) (fun k hk => zst_k hk) zst_v (fun c hc => q c (by omega))
    rw [hS_hS] at this
    exact this
  refine ok_mono (kp.tries ((hS_RR k3).fr14 (q 714 (by omega))) hd) (fun φ hφ => ?_)
  obtain ⟨b1, b2, b3, b4, b5⟩ := hφ
  exact ⟨b1, b2, b5⟩
theorem Kb.back {P : Pm} {rc : Nat} {s σ τ φ : Mm} {v : Int32} (hn : pn P ≤ 5) (hm : pm P ≤ 6) (h : Kb P rc s σ τ) (f : FrT (zst τ 703 41 v) φ) :
    Ok (zfX12_putBack φ) (fun ψ => Kb P rc s σ ψ ∧ ψ 703 41 = v ∧ ∀ c, c ≠ 714 → ψ c = φ c) := by
  obtain ⟨k1, k2, k3, k4, k5, k6⟩ := h
  refine ok_mono r_putBack (fun ψ hψ => ?_)
  obtain ⟨b1, b2⟩ := hψ
  have e : ∀ c, (c < 703 ∨ 703 < c ∧ c < 707 ∨ 707 < c ∧ c < 714 ∨ 714 < c ∧ c < 718 ∨ 726 < c) → ψ c = τ c := fun c hc => by rw [b2 c (by omega), f.c hc, zst_n (by omega)]
  have e7 : ∀ k, (k < 5 ∨ k = 6 ∨ k = 7 ∨ k = 15 ∨ k = 16 ∨ 17 < k ∧ k ≠ 45 ∧ k ≠ 46) → k ≠ 41 → ψ 703 k = τ 703 k := fun k hk h41 => by rw [b2 703 (by omega), f.1 k hk, zst_k h41]
  have e41 : ψ 703 41 = v := by rw [b2 703 (by omega), f.1 41 (by omega), zst_v]
  have e14 : ∀ j, j < 57 → ψ 714 j = σ 714 j := fun j hj => by rw [b1 j hj, f.c (by omega), zst_n (by omega), k2 j hj]
  refine ⟨⟨⟨fun c hc => by rw [e c (by omega)]; exact k1.1 c hc, e14, fun k hk => by rw [e7 k (by omega) (by omega)]; exact k1.2.2 k hk⟩, fun j hj => by rw [e 715 (by omega)]; exact k2 j hj, k3.row hn hm (fun k hk => by rw [e14 k hk, k1.2.1 k hk]), ?_, by rw [e7 43 (by omega) (by omega)]; exact k5, k6.of (e 705 (by omega)) (fun r _ => by rw [e 706 (by omega)])⟩, e41, b2⟩
  have e717 : ψ 717 = τ 717 := e 717 (by omega)
  obtain ⟨p1, p2, p3, p4, p5, p6, p7⟩ := k4
  refine ⟨by rw [e7 24 (by omega) (by omega)]; exact p1, by rw [e7 25 (by omega) (by omega)]; exact p2, by rw [zst_v], by rw [e7 42 (by omega) (by omega)]; exact p4, by rw [e 710 (by omega)]; exact p5, fun k hk => ?_, fun i hi => ?_⟩
  · rw [e 708 (by omega), e717, e 716 (by omega), hS_r (by omega)]
    have := p6 k hk
    rw [hS_r (by omega)] at this
    exact this
  · rw [e 709 (by omega)]; exact p7 i hi
/-- what the reference adds up of what was gained -/
noncomputable def gby (P : Pm) (s : Mm) (v x3 x4 : Int32) (d : Nat) : Int32 := cw (fun k => if (if nI k = x3 then (1 : Int32) else 0) = x4 then 0 else dys P (zst s 0 3 v) d 3 k) (pn P)
theorem r_gainsBy {P : Pm} {rc B d : Nat} {s σ τ : Mm} {v x3 x4 : Int32} (h : Kb P rc s σ τ) (hs : Ks P rc B s) (hv : ∀ k, pn P ≤ k → k < 6 → ¬ hob v k) (hd : d ≤ 60) :
    Ok (zfX12_gainsBy v (nI d) x3 x4 τ) (fun b => b.1 = gby P s v x3 x4 d ∧ Kb P rc s σ b.2) := by
  have hn := hs.1.1.1
  have hm := hs.1.1.2.1
  unfold zfX12_gainsBy
  have f0 : FrT (zst τ 703 41 (τ 703 41)) τ := by rw [zst_self rfl]; exact FrT.refl
  rw [ok_bd]
  refine ok_mono (h.back hn hm f0) (fun τ1 h1 => ?_)
  obtain ⟨a1, a2, a3⟩ := h1
  refine ok_lg (fun τ2 e2 => ?_)
  rw [e2, ok_bd]
  refine ok_mono (a1.tries hs hv hd) (fun φ hφ => ?_)
  obtain ⟨b1, b2, b3⟩ := hφ
  refine ok_lg (fun K hK => ?_)
  have h24 : φ 703 24 = nI (pn P) := by rw [b3.1 24 (by omega), zst_k (by omega)]; exact a1.2.2.2.1.1
  refine ok_up (F := fun fu (x : Int32 × Int32) => zfX12_gainsBy_L20 K x4 x3 fu x.1 x.2 φ) (pn P) (fun j x => x.1 = cw (fun k => if (if nI k = x3 then (1 : Int32) else 0) = x4 then 0 else dys P (zst s 0 3 v) d 3 k) j ∧ x.2 = nI j) ?_ ?_ 0 NF (0, 0) ⟨rfl, rfl⟩ (by omega) (by unfold NF; omega)
  · rintro j fu ⟨a, y⟩ hj ⟨ha, hy⟩ hk
    have hy : y = nI j := hy
    subst hy
    have ha : a = cw (fun k => if (if nI k = x3 then (1 : Int32) else 0) = x4 then 0 else dys P (zst s 0 3 v) d 3 k) j := ha
    show Ok (zfX12_gainsBy_L20 K x4 x3 (fu + 1) a (nI j) φ) _
    unfold zfX12_gainsBy_L20
    rw [if_neg (by rw [h24, n_le (by omega) (by omega)]; omega)]
    refine ok_lg (fun J hJ => ?_)
    have go : ∀ w : Int32, w = (if nI j = x3 then 1 else 0) → Ok (J w φ) (fun b => b.1 = gby P s v x3 x4 d ∧ Kb P rc s σ b.2) := fun w hw => by
      simp only [hJ]
      refine ok_lg (fun J2 hJ2 => ?_)
      have go2 : ∀ g : Int32, g = (if w = x4 then 0 else dys P (zst s 0 3 v) d 3 j) → Ok (J2 g φ) (fun b => b.1 = gby P s v x3 x4 d ∧ Kb P rc s σ b.2) := fun g hg => by
        simp only [hJ2]
        refine ok_lg (fun a2 ea => ?_)
        refine ok_lg (fun y2 ey => ?_)
        rw [show nI j + 1 = nI (j + 1) from n_add _ 1] at ey
        refine hk (a2, y2) ⟨?_, ey⟩
        show a2 = cw _ j + _
        rw [ea, ha, hg, hw]
      by_cases c : w = x4
      · rw [if_pos c]; exact go2 0 (by rw [if_pos c])
      · rw [if_neg c, show (12 : Int32) + nI j = nI (12 + j) from n_add 12 j, ck_t ((n_in (by omega)).mpr (by omega)), n_ix (by omega)]
        exact go2 _ (by rw [if_neg c]; exact (b1.1 j hj).2.2.1)
    by_cases c : nI j = x3
    · rw [if_pos c]; exact go 1 (by rw [if_pos c])
    · rw [if_neg c]; exact go 0 (by rw [if_neg c])
  · rintro fu ⟨a, y⟩ ⟨ha, hy⟩
    have hy : y = nI (pn P) := hy
    subst hy
    have ha : a = gby P s v x3 x4 d := ha
    show Ok (zfX12_gainsBy_L20 K x4 x3 (fu + 1) a (nI (pn P)) φ) _
    unfold zfX12_gainsBy_L20
    rw [if_pos (by rw [h24]; exact Int32.le_refl _), hK, ok_bd]
    refine ok_mono (a1.back hn hm b3) (fun ψ hψ => ?_)
    rw [ok_s]
    exact ⟨ha, hψ.1⟩
theorem gby_own {P : Pm} {s : Mm} {v : Int32} {i d : Nat} (hn : pn P ≤ 5) (hi : i < pn P) : gby P s v (nI i) 0 d = dys P (zst s 0 3 v) d 3 i := by
  unfold gby
  rw [← cw_one (f := dys P (zst s 0 3 v) d 3) hi]
  refine cw_cg (fun k hk => ?_)
  by_cases c : k = i
  · subst c; rw [if_pos rfl, if_pos rfl, if_neg (by decide)]
  · rw [if_neg (show ¬ nI k = nI i by rw [n_eq (by omega) (by omega)]; exact c), if_pos rfl, if_neg c]
theorem gby_oth {P : Pm} {s : Mm} {v : Int32} {i d : Nat} (hn : pn P ≤ 5) (hi : i < pn P) : gby P s v (nI i) 1 d = cw (dys P (zst s 0 3 v) d 3) (pn P) - dys P (zst s 0 3 v) d 3 i := by
  unfold gby
  rw [← cw_not (f := dys P (zst s 0 3 v) d 3) hi]
  refine cw_cg (fun k hk => ?_)
  by_cases c : k = i
  · subst c; rw [if_pos rfl, if_pos rfl, if_pos rfl]
  · rw [if_neg (show ¬ nI k = nI i by rw [n_eq (by omega) (by omega)]; exact c), if_neg (by decide), if_neg c]
