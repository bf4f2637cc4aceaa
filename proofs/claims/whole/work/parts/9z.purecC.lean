/-! ===== best answers alike ===== -/
theorem best_F {B : Nat} {x y z : Int32} {P : Pm} {rc : Nat} {s σ : Mm} (hI : Ivx B P rc s σ) (hA : ¬ ((∃ i, i < pn P ∧ x = nI i) ∧ Rok 1 3 y ∧ Rok 0 1 z)) : zfX11_best x y z σ = some (-1000000, σ) := by
  unfold zfX11_best
  refine lt_i (fun J hJ => ?_)
  have fin : J σ = some (-1000000, σ) := by rw [hJ]
  by_cases c0 : zfX11_isSeller x σ = 0
  case pos => rw [if_pos c0]; exact fin
  case neg =>
  rw [if_neg c0]
  by_cases c1 : y < 1
  case pos => rw [if_pos c1]; exact fin
  case neg =>
  rw [if_neg c1]
  by_cases c2 : 3 < y
  case pos => rw [if_pos c2]; exact fin
  case neg =>
  rw [if_neg c2]
  by_cases c3 : zfX11_noWhat z 1 = 0
  case neg => rw [if_neg c3]; exact fin
  case pos =>
  rw [if_pos c3]
  exact absurd ⟨(Classical.byContradiction (fun h9 => c0 ((g_sel hI).1.mpr h9))), g_pr (a := 1) (b := 3) (by omega) (by omega) c1 c2, g_what1.mp c3⟩ hA
theorem best_G {B : Nat} {x y z : Int32} {P : Pm} {rc : Nat} {s σ : Mm} (hI : Ivx B P rc s (zst σ 703 0 0)) (hA : ¬ ((∃ i, i < pn P ∧ x = nI i) ∧ Rok 1 3 y ∧ Rok 0 1 z)) : zfX12_best x y z σ = some (-1000000, zst σ 703 0 0) := by
  unfold zfX12_best
  refine lt_i (fun υ hυe => ?_)
  refine lt_i (fun J hJ => ?_)
  rw [← hυe] at hI ⊢
  have hυ := hI
  have fin : J υ = some (-1000000, υ) := by rw [hJ]
  by_cases c0 : zfX12_isSeller x υ = 0
  case pos => rw [if_pos c0]; exact fin
  case neg =>
  rw [if_neg c0]
  by_cases c1 : zfX12_isIn y.toInt64 1 3 = 0
  case pos => rw [if_pos c1]; exact fin
  case neg =>
  rw [if_neg c1]
  by_cases c2 : zfX12_isIn z.toInt64 0 1 = 0
  case pos => rw [if_pos c2]; exact fin
  case neg =>
  rw [if_neg c2]
  exact absurd ⟨(Classical.byContradiction (fun h9 => c0 ((g_sel hυ).2.mpr h9))), (Classical.byContradiction (fun h9 => c1 (g_in3.mpr h9))), (Classical.byContradiction (fun h9 => c2 (g_in1.mpr h9)))⟩ hA
theorem c_best {B : Nat} {P : Pm} {rc i d : Nat} {s σ : Mm} (hB : B < 800000) (hI : Ivx B P rc s σ) (hi : i < pn P) (hd : d ≤ 3) :
    Ok (zfX7_findBest (nI i) (nI d) σ) (fun τ => (τ 79 8, τ 79 9) = bst P s i d (zst s 0 3 (hv (s 0 3) i 0)) 0 (-1, 0) ∧ FrS σ τ) := by
  obtain ⟨h1, h2, h3, ⟨r1, r2, r3, r4, r5⟩, ⟨hS, s4⟩, h6⟩ := id hI
  obtain ⟨s1, s2, s3, t4, t5, t6⟩ := id hS
  unfold zfX7_findBest
  rw [ok_bd2]
  refine ok_mono (cs_begin h2 h3 r4 hS) (fun a ha => ?_)
  obtain ⟨b1, b2, b3, b4, b5, b6⟩ := ha
  rw [b1, ck_t (show zIsSb 85 = true from zSb_p (j := 0) (by omega))]
  refine ok_lg (fun φ1 e1 => ?_)
  refine ok_lg (fun φ2 e2 => ?_)
  refine ok_lg (fun φ3 e3 => ?_)
  refine ok_lg (fun φ4 e4 => ?_)
  have q4 : ∀ c, c ≠ 79 → φ4 c = a.2 c := fun c hc => by rw [e4, zst_n hc, e3, zst_n hc, e2, zst_n hc, e1, zst_n hc]
  have q85 : φ4 85 3 = s 0 3 := by rw [q4 85 (by omega)]; exact b2.1 3 (by omega)
  rw [c_setH, bd_some, q85, ok_bd]
  generalize hφ : zst φ4 85 3 (hv (s 0 3) i 0) = φ5
  have q5 : ∀ c, c ≠ 79 → c ≠ 85 → φ5 c = a.2 c := fun c x1 x2 => by rw [← hφ, zst_n x2, q4 c x1]
  have v6 : φ5 79 6 = nI i := by rw [← hφ, zst_n (by omega), e4, zst_k (by omega), e3, zst_k (by omega), e2, zst_k (by omega), e1, zst_v]
  have v7 : φ5 79 7 = nI d := by rw [← hφ, zst_n (by omega), e4, zst_k (by omega), e3, zst_k (by omega), e2, zst_v]
  have v8 : φ5 79 8 = -1 := by rw [← hφ, zst_n (by omega), e4, zst_k (by omega), e3, zst_v]
  have v9 : φ5 79 9 = 0 := by rw [← hφ, zst_n (by omega), e4, zst_v]
  have A5 : AgS 85 φ5 (zst s 0 3 (hv (s 0 3) i 0)) := hS_Ag b2 (fun k hk => by rw [← hφ, zst_k hk, q4 85 (by omega)]) (by rw [← hφ, zst_v]) (fun c x1 x2 => q5 c (by omega) (by omega))
  have w := hS_wf (v := hv (s 0 3) i 0) s3 t4 t5
  have hw : Wt P rc B (zst s 0 3 (hv (s 0 3) i 0)) := ⟨w.1, w.2.1, w.2.2, by rw [zst_v]; exact hv_no hi h2.1.1 t6⟩
  have C5 : PmC P φ5 := b3.of (fun c hc => q5 c (by omega) (by omega))
  have h38 : ∀ k, k < pn P → φ5 38 k = -1 := fun k hk => by
    rw [((C5.2.2.2.2.2.1 k (by have := h2.2.2.1; omega)).2.2.2)]; exact h2.2.2.2 k
  have fr5 : FrS σ φ5 := b5.trans ⟨fun c hc => q5 c (by omega) (by omega), fun k _ => by rw [q5 714 (by omega) (by omega)], fun k _ => by rw [q5 703 (by omega) (by omega)]⟩
  have Cb5 : Cb P rc i d s φ5 := ⟨⟨fun k => φ5 38 k, tellC C5 h2.2.2.1 (fun _ _ => rfl) (fun _ _ => rfl)⟩, b4.of (fun r hr => ⟨q5 _ (by omega) (by omega), q5 _ (by omega) (by omega)⟩), fun k hk _ => h38 k hk, v6, v7, fun k hk => by rw [q5 30 (by omega) (by omega), b6 30 (by omega)]; exact s1.2.2.2.1 3 k (by omega) hk⟩
  refine ok_mono (c_try h2 hi hd d 0 RD B _ 0 φ5 (by omega) (by unfold RD; omega) (by omega) hw A5 Cb5) (fun τ hτ => ?_)
  obtain ⟨g1, g2, g3⟩ := hτ
  rw [ok_s]
  rw [v8, v9] at g1
  exact ⟨g1, fr5.trans g2.s⟩
theorem q_best {B : Nat} (hB : B < 800000) (x y z : Int32) : Qy B (zfX11_best x y z) (zfX12_best x y z) := by
  refine q_gen (-1000000) (fun P => (∃ i, i < pn P ∧ x = nI i) ∧ Rok 1 3 y ∧ Rok 0 1 z) (fun P rc s σ hI hA => best_F hI hA) (fun P rc s σ hI hA => best_G hI hA) (fun P rc s σ hI hA => ?_)
  obtain ⟨hx, hy, hz⟩ := hA
  obtain ⟨i, i1, i2⟩ := id hx
  obtain ⟨d, d1, d2, d3⟩ := id hy
  have hB9 : B < 900000 := by omega
  have hn := hI.n
  have h0 : 0 < pn P := by omega
  have hs := hI.ks hB9
  have hm6 := hI.2.1.1.2.1
  have hy2 := (g_rng (a := 1) (b := 3) (by omega) (by omega)).mpr hy
  unfold zfX11_best
  refine ok_lg (fun J _ => ?_)
  rw [if_neg (fun c => (g_sel hI).1.mp c hx), if_neg (show ¬ y < 1 from hy2.1), if_neg (show ¬ 3 < y from hy2.2), if_pos (g_what1.mpr hz), ok_bd]
  subst i2
  subst d3
  refine ok_mono (c_best hB hI i1 d2) (fun τ hτ => ?_)
  obtain ⟨g1, fr⟩ := hτ
  have yes : ∀ v : Int32, v = (if z = 0 then τ 79 8 else τ 79 9) → ∀ υ, Ivx B P rc s υ → υ = zst τ 703 0 0 → Ok (zfX12_best (nI i) (nI d) z τ) (fun b => b.1 = v ∧ FrS υ b.2) := fun v hv' υ hυ e => by
    unfold zfX12_best
    refine ok_lg (fun υ' e' => ?_)
    have : υ' = υ := e'.trans e.symm
    subst this
    refine ok_lg (fun J2 _ => ?_)
    rw [if_neg (fun c => (g_sel hυ).2.mp c hx), if_neg (fun c => g_in3.mp c hy), if_neg (fun c => g_in1.mp c hz)]
    refine rq_keptb hB9 hυ h0 (fun τ1 k1 k2 k3 => ?_)
    refine ok_lg (fun τ2 e2 => ?_)
    have e2' : τ2 = zst τ1 703 41 (hv (s 0 3) i 0) := by rw [e2, k2, hv_0]
    refine ok_lg (fun τ3 e3 => ?_)
    have kb := (k1.v41 (v := hv (s 0 3) i 0)).t0 hI.2.1
    rw [← e2'] at kb
    obtain ⟨p1, p2, p3, p4, p5, p6⟩ := id kb
    rw [show τ2 703 41 = hv (s 0 3) i 0 by rw [e2', zst_v]] at p4
    have q3 : ∀ c, c ≠ 703 → τ3 c = τ2 c := fun c hc => by rw [e3, zst_n hc]
    have q7 : ∀ k, k ≠ 52 → τ3 703 k = τ2 703 k := fun k hk => by rw [e3, zst_k hk]
    have w := hS_wf (v := hv (s 0 3) i 0) hs.2.1 hs.2.2.2.2.1 hs.2.2.1
    have hw : Wt P rc B (zst s 0 3 (hv (s 0 3) i 0)) := ⟨w.1, w.2.1, w.2.2, by rw [zst_v]; exact hv_no i1 hn.1 hs.2.2.2.2.2⟩
    have hRR : RRs P υ' s := by have := hυ.2.2.2.2.1.1.2.1; rw [wr_self] at this; exact this
    have p3' : RRs P τ2 s := p3
    have p6' : RuR P rc τ2 := p6
    have G3 : Gb P rc i s (zst s 0 3 (hv (s 0 3) i 0)) τ3 := ⟨⟨_, p4.to (g := fun k => τ3 717 k) (fun x hx => q7 x (by omega)) (fun c hc => q3 c (by omega)) (fun _ _ => rfl) rfl rfl⟩, by rw [q7 43 (by omega)]; exact p5, p6'.of (q3 705 (by omega)) (fun r _ => by rw [q3 706 (by omega)]), fun k hk _ => by rw [q3 717 (by omega)]; exact (p4.2.2.2.2.2.1 k hk).2.2.2.1, (hS_RR p3').fr14 (q3 714 (by omega)), fun k hk => by
      have hn5 := hn.1
      rw [q3 715 (by omega), p2 (12 + k) (by omega)]; exact (hRR.1 k hk).2.2.1⟩
    rw [ok_bd]
    refine ok_mono (r_try hI.2.1 i1 d RD B _ 0 τ3 d2 (by unfold RD; omega) (by omega) hw G3) (fun χ hχ => ?_)
    obtain ⟨b1, b2, b3⟩ := hχ
    have v52 : τ3 703 52 = -1 := by rw [e3, zst_v]
    rw [v52, bst_1 (b := 0), ← g1] at b1
    rw [ok_bd]
    refine ok_mono r_putBack (fun ψ hψ => ?_)
    obtain ⟨m1, m2⟩ := hψ
    rw [ok_bd]
    refine ok_mono r_plainly (fun ω hω => ?_)
    obtain ⟨w1, w2, w3, w4, w5, w6, w7⟩ := hω
    have fr3 : FrS υ' τ3 := p1.trans ⟨fun c hc => q3 c (by omega), fun k _ => by rw [q3 714 (by omega)], fun k hk => q7 k (by omega)⟩
    have frψ : FrS υ' ψ := ⟨fun c hc => by rw [m2 c (by omega), b2.2.2 c (by omega)]; exact fr3.1 c hc, fun k hk => by rw [m1 k hk, b2.2.2 715 (by omega), q3 715 (by omega)]; exact p2 k hk, fun k hk => by rw [m2 703 (by omega), b2.2.1 k (by omega) (by omega) (by omega)]; exact fr3.2.2 k hk⟩
    have fr2 := frψ.pl w4 w7
    have a1 : ω 703 52 = τ 79 8 := by rw [w4 52 (by omega) (by omega) (by omega), m2 703 (by omega)]; exact congrArg Prod.fst b1
    have a2 : ω 703 53 = τ 79 9 := by rw [w4 53 (by omega) (by omega) (by omega), m2 703 (by omega)]; exact congrArg Prod.snd b1
    rw [hv']
    by_cases c : z = 0
    · rw [if_pos c, if_pos c, ok_s]; exact ⟨a1, fr2⟩
    · rw [if_neg c, if_neg c, ok_s]; exact ⟨a2, fr2⟩
  by_cases c : z = 0
  · rw [if_pos c, ok_s]
    exact ⟨fr, yes _ (by rw [if_pos c])⟩
  · rw [if_neg c, ok_s]
    exact ⟨fr, yes _ (by rw [if_neg c])⟩
