/-! ===== other ===== -/
theorem other_F {B : Nat} {x y z : Int32} {P : Pm} {rc : Nat} {s σ : Mm} (hI : Ivx B P rc s σ) (hA : ¬ ((0 < pn P ∧ Rok 1 30 y) ∧ Rok 0 2 x ∧ Rok 0 2 z)) : zfX11_other x y z σ = some (-1000000, σ) := by
  unfold zfX11_other
  refine lt_i (fun J hJ => ?_)
  have fin : J σ = some (-1000000, σ) := by rw [hJ]
  by_cases c0 : zfX11_noDays y σ = 0
  case neg => rw [if_neg c0]; exact fin
  case pos =>
  rw [if_pos c0]
  by_cases c1 : zfX11_noWhat x 2 = 0
  case neg => rw [if_neg c1]; exact fin
  case pos =>
  rw [if_pos c1]
  by_cases c2 : zfX11_noWhat z 2 = 0
  case neg => rw [if_neg c2]; exact fin
  case pos =>
  rw [if_pos c2]
  exact absurd ⟨((g_days hI).1.mp c0), (g_what2.mp c1), (g_what2.mp c2)⟩ hA
theorem other_G {B : Nat} {x y z : Int32} {P : Pm} {rc : Nat} {s σ : Mm} (hI : Ivx B P rc s (zst σ 703 0 0)) (hA : ¬ ((0 < pn P ∧ Rok 1 30 y) ∧ Rok 0 2 x ∧ Rok 0 2 z)) : zfX12_other x y z σ = some (-1000000, zst σ 703 0 0) := by
  unfold zfX12_other
  refine lt_i (fun υ hυe => ?_)
  refine lt_i (fun J hJ => ?_)
  rw [← hυe] at hI ⊢
  have hυ := hI
  have fin : J υ = some (-1000000, υ) := by rw [hJ]
  by_cases c0 : zfX12_isReady y υ = 0
  case pos => rw [if_pos c0]; exact fin
  case neg =>
  rw [if_neg c0]
  by_cases c1 : zfX12_isIn x.toInt64 0 2 = 0
  case pos => rw [if_pos c1]; exact fin
  case neg =>
  rw [if_neg c1]
  by_cases c2 : zfX12_isIn z.toInt64 0 2 = 0
  case pos => rw [if_pos c2]; exact fin
  case neg =>
  rw [if_neg c2]
  exact absurd ⟨(Classical.byContradiction (fun h9 => c0 ((g_days hυ).2.mpr h9))), (Classical.byContradiction (fun h9 => c1 (g_in2.mpr h9))), (Classical.byContradiction (fun h9 => c2 (g_in2.mpr h9)))⟩ hA
/-- another law -/
def ldP (P : Pm) (x : Int32) : Pm := (P.1, P.2.1, (fun i k => if i = 3 then (if k = 1 then x else P.2.2.1 3 k) else P.2.2.1 i k), P.2.2.2)
theorem ldP_C {P : Pm} {x : Int32} {τ : Mm} (h : PmC P τ) : PmC (ldP P x) (zst τ 37 4 x) := by
  obtain ⟨h1, h2, h3, h4, h5, h6, h7⟩ := h
  have q : ∀ c, c ≠ 37 → zst τ 37 4 x c = τ c := fun c hc => zst_n hc
  refine ⟨by rw [q 3 (by omega)]; exact h1, by rw [q 3 (by omega)]; exact h2, by rw [q 3 (by omega)]; exact h3, by rw [zst_v]; rfl, by rw [zst_k (by omega)]; exact h5, fun k hk => ?_, fun i hi => ?_⟩
  · rw [q 4 (by omega), q 5 (by omega), q 6 (by omega), q 38 (by omega)]; exact h6 k hk
  · rw [q 7 (by omega), q 8 (by omega), q 9 (by omega), q 10 (by omega)]; exact h7 i hi
theorem ldP_K {P : Pm} {x : Int32} {rc B : Nat} {s τ : Mm} (h : Kp P rc B s τ) : Kp (ldP P x) rc B s (zst τ 703 42 x) := by
  obtain ⟨h1, h2, h3, h4, h5, h6, ⟨p1, p2, p3, p4, p5, p6, p7⟩, h8, h9⟩ := h
  have q : ∀ c, c ≠ 703 → zst τ 703 42 x c = τ c := fun c hc => zst_n hc
  refine ⟨h1, h2, h3, h4, h5, h6, ⟨by rw [zst_k (by omega)]; exact p1, by rw [zst_k (by omega)]; exact p2, by rw [zst_k (by omega)]; exact p3, by rw [zst_v]; rfl, by rw [q 710 (by omega)]; exact p5, fun k hk => ?_, fun i hi => ?_⟩, by rw [zst_k (by omega)]; exact h8, ?_⟩
  · rw [q 708 (by omega), q 716 (by omega), q 717 (by omega)]; exact p6 k hk
  · rw [q 709 (by omega)]; exact p7 i hi
  · have : RuR P rc (zst τ 703 42 x) := h9.of (q 705 (by omega)) (fun r _ => by rw [q 706 (by omega)])
    exact this
theorem r_other61 {P : Pm} {s t φ : Mm} {n : Nat} {K : Int32 → Mm → Option (Int32 × Mm)} {Q : Int32 × Mm → Prop} (hn : n ≤ 5) (h24 : φ 703 24 = nI n) (h14 : ∀ k, k < n → φ 714 (12 + k) = t 3 k) (h15 : ∀ k, k < n → φ 715 (12 + k) = s 3 k)
    (hK : Ok (K (cw (fun k => t 3 k - s 3 k) n) φ) Q) : Ok (zfX12_other_L61 K NF 0 0 φ) Q := by
  refine ok_up (F := fun fu (x : Int32 × Int32) => zfX12_other_L61 K fu x.1 x.2 φ) n (fun j x => x.1 = cw (fun k => t 3 k - s 3 k) j ∧ x.2 = nI j) ?_ ?_ 0 NF (0, 0) ⟨rfl, rfl⟩ (by omega) (by unfold NF; omega)
  · rintro j fu ⟨a, y⟩ hj ⟨ha, hy⟩ hk
    have hy : y = nI j := hy
    subst hy
    have ha : a = cw (fun k => t 3 k - s 3 k) j := ha
    show Ok (zfX12_other_L61 K (fu + 1) a (nI j) φ) Q
    unfold zfX12_other_L61
    have hin : inb (nI (12 + j)) 57 := (n_in (by omega)).mpr (by omega)
    rw [if_neg (by rw [h24, n_le (by omega) (by omega)]; omega), show (12 : Int32) + nI j = nI (12 + j) from n_add 12 j, ck_t hin, ck_t hin, n_ix (by omega), h14 j hj, h15 j hj]
    refine ok_lg (fun a2 ea => ?_)
    refine ok_lg (fun y2 ey => ?_)
    rw [show nI j + 1 = nI (j + 1) from n_add _ 1] at ey
    exact hk (a2, y2) ⟨by dsimp only; rw [ea, ha]; rfl, ey⟩
  · rintro fu ⟨a, y⟩ ⟨ha, hy⟩
    have hy : y = nI n := hy
    subst hy
    have ha : a = cw (fun k => t 3 k - s 3 k) n := ha
    show Ok (zfX12_other_L61 K (fu + 1) a (nI n) φ) Q
    unfold zfX12_other_L61
    rw [if_pos (by rw [h24]; exact Int32.le_refl _), ha]
    exact hK
theorem rok2 {z : Int32} (h : Rok 0 2 z) : z = 0 ∨ z = 1 ∨ z = 2 := by
  obtain ⟨t, t1, t2, t3⟩ := h
  have : t = 0 ∨ t = 1 ∨ t = 2 := by omega
  rcases this with rfl | rfl | rfl
  · exact Or.inl t3
  · exact Or.inr (Or.inl t3)
  · exact Or.inr (Or.inr t3)
theorem rok1 {z : Int32} (h : Rok 0 1 z) : z = 0 ∨ z = 1 := by
  obtain ⟨t, t1, t2, t3⟩ := h
  have : t = 0 ∨ t = 1 := by omega
  rcases this with rfl | rfl
  · exact Or.inl t3
  · exact Or.inr t3
theorem q_other {B : Nat} (hB : B < 900000) (x y z : Int32) : Qy B (zfX11_other x y z) (zfX12_other x y z) := by
  refine q_gen (-1000000) (fun P => (0 < pn P ∧ Rok 1 30 y) ∧ Rok 0 2 x ∧ Rok 0 2 z) (fun P rc s σ hI hA => other_F hI hA) (fun P rc s σ hI hA => other_G hI hA) (fun P rc s σ hI hA => ?_)
  obtain ⟨hA1, hx, hz⟩ := hA
  obtain ⟨h0, d, d1, d2, d3⟩ := id hA1
  have hn := hI.n
  unfold zfX11_other
  refine ok_lg (fun J _ => ?_)
  rw [if_pos ((g_days hI).1.mpr hA1), if_pos (g_what2.mpr hx), if_pos (g_what2.mpr hz)]
  subst d3
  obtain ⟨h1, h2, h3, ⟨r1, r2, r3, r4, r5⟩, ⟨hS, s4⟩, h6⟩ := id hI
  rw [ok_bd]
  refine ok_mono (cq_begin h2 h3 r4 hS h0) (fun τ hτ => ?_)
  obtain ⟨b1, b2, b3, b4, b5⟩ := hτ
  refine ok_lg (fun τ1 e1 => ?_)
  obtain ⟨s1, s2, s3, t4, t5, t6⟩ := hS
  have q1 : ∀ c, c ≠ 37 → τ1 c = τ c := fun c hc => by rw [e1, zst_n hc]
  have hC1 : PmC (ldP P x) τ1 := by rw [e1]; exact ldP_C b3
  have hR1 : RuC (ldP P x) rc τ1 := by
    have : RuC P rc τ1 := b4.of (fun r hr => ⟨q1 _ (by omega), q1 _ (by omega)⟩)
    exact this
  have wp : WFp (ldP P x) := h2.1
  have ws : WFs (ldP P x) s := s3
  have wr' : RuS (ldP P x) rc s := t4
  rw [ok_bd]
  refine ok_mono (c_pass wp ws t5 hB wr' (b1.fr (fun c _ _ => q1 c (by omega))) hC1 hR1 (show d ≤ 1000 by omega)) (fun υ hυ => ?_)
  obtain ⟨c1, c2, c3⟩ := hυ
  have fr : FrS σ υ := b5.trans (FrS.trans ⟨fun c hc => q1 c (by omega), fun k _ => by rw [q1 714 (by omega)], fun k _ => by rw [q1 703 (by omega)]⟩ c3.s)
  have nf := n_falls (R := σ 68) wp ws t5 hB d (by omega)
  have e68 : υ 68 = nts (ldP P x) s (n0 (s 0 0) (σ 68)) d := by rw [c2, q1 68 (by omega), b2]
  have hgv : ∀ i, i < 6 → υ 72 i - υ 30 i = dys (ldP P x) s d 3 i - s 3 i := fun i hi => by
    rw [c1.2.2.2.1 3 i (by omega) hi, fr.1 30 (Or.inr (Or.inl ⟨by omega, by omega, stk_n (by omega)⟩)), s1.2.2.2.1 3 i (by omega) hi]
  have yes : ∀ v : Int32, (z = 0 → v = cw (fun k => dys (ldP P x) s d 3 k - s 3 k) (pn P)) → (z = 1 → v = dys (ldP P x) s d 0 2 - s 0 2) → (z = 2 → v = nI (jct (ldP P x) s d)) → ∀ υ2, Ivx B P rc s υ2 → υ2 = zst υ 703 0 0 → Ok (zfX12_other x (nI d) z υ) (fun b => b.1 = v ∧ FrS υ2 b.2) := fun v v0 v1 v2 υ2 hυ e => by
    unfold zfX12_other
    refine ok_lg (fun υ' e' => ?_)
    have : υ' = υ2 := e'.trans e.symm
    subst this
    refine ok_lg (fun J2 _ => ?_)
    rw [if_neg (fun c => (g_days hυ).2.mp c hA1), if_neg (fun c => g_in2.mp c hx), if_neg (fun c => g_in2.mp c hz)]
    refine rq_kept hB hυ h0 (fun τ0 k1 k2 k3 k4 k5 => ?_)
    have hRR : RRs P υ' s := by have := hυ.2.2.2.2.1.1.2.1; rw [wr_self] at this; exact this
    refine ok_lg (fun τ2 e2 => ?_)
    have k1' : Kp (ldP P x) rc B s τ2 := by rw [e2]; exact ldP_K k1
    have q2 : ∀ c, c ≠ 703 → τ2 c = τ0 c := fun c hc => by rw [e2, zst_n hc]
    have fr2 : FrS υ' τ2 := k4.trans ⟨fun c hc => q2 c (by omega), fun k _ => by rw [q2 714 (by omega)], fun k hk => by rw [e2, zst_k (by omega)]⟩
    have hR2 : RRs (ldP P x) τ2 s := k2.fr14 (q2 714 (by omega))
    rw [ok_bd]
    refine ok_mono (k1'.tries hR2 (show d ≤ 60 by omega)) (fun φ hφ => ?_)
    obtain ⟨g1, g2, g3, g4, g5⟩ := hφ
    have e15 : ∀ j, j < 57 → φ 715 j = υ' 714 j := fun j hj => by rw [g5.c (by omega), q2 715 (by omega)]; exact k3 j hj
    refine ok_lg (fun K hK => ?_)
    refine r_other61 (P := P) (s := s) (t := dys (ldP P x) s d) hn.1 (by rw [g5.1 24 (by omega)]; exact k1'.2.2.2.2.2.2.1.1) (fun k hk => (g1.1 k hk).2.2.1) (fun k hk => by rw [e15 _ (by omega)]; exact (hRR.1 k hk).2.2.1) ?_
    simp only [hK]
    refine ok_lg (fun w hw => ?_)
    rw [show ix 55 = 55 by decide, g1.2.2.1, e15 55 (by omega), hRR.2.2.1] at hw
    rw [ok_bd]
    refine ok_mono (rq_back (σ := υ') fr2 (fun j hj => by rw [q2 715 (by omega)]; exact k3 j hj) g5) (fun ψ hψ => ?_)
    obtain ⟨m1, m2⟩ := hψ
    rcases rok2 hz with c | c | c
    · rw [if_pos c, ok_s]; exact ⟨(v0 c).symm, m1⟩
    · rw [if_neg (by rw [c]; decide), if_pos c, ok_s]; exact ⟨by rw [v1 c, hw], m1⟩
    · rw [if_neg (by rw [c]; decide), if_neg (by rw [c]; decide), ok_bd]
      refine ok_mono (r_jumps (P := ldP P x) (s := s) (show d ≤ 60 by omega) (fun j hj => by rw [m2 726 (by omega)]; exact g3 j hj)) (fun r hr => ?_)
      rw [ok_s]
      exact ⟨by rw [hr, v2 c], m1⟩
  rcases rok2 hz with c | c | c
  · rw [if_pos c, ok_bd]
    refine ok_mono (c_gains hn.1 (by rw [fr.1 3 (by omega)]; exact hn.2.1)) (fun r hr => ?_)
    rw [ok_s]
    refine ⟨fr, yes r (fun _ => ?_) (fun h => by rw [c] at h; exact absurd h (by decide)) (fun h => by rw [c] at h; exact absurd h (by decide))⟩
    rw [hr]
    exact cw_cg (fun k hk => hgv k (by omega))
  · rw [if_neg (by rw [c]; decide), if_pos c, ok_s]
    refine ⟨fr, yes _ (fun h => by rw [c] at h; exact absurd h (by decide)) (fun _ => ?_) (fun h => by rw [c] at h; exact absurd h (by decide))⟩
    rw [c1.1 2 (by omega), fr.1 27 (Or.inr (Or.inl ⟨by omega, by omega, stk_n (by omega)⟩)), s1.1 2 (by omega)]
  · rw [if_neg (by rw [c]; decide), if_neg (by rw [c]; decide), ok_s]
    refine ⟨fr, yes _ (fun h => by rw [c] at h; exact absurd h (by decide)) (fun h => by rw [c] at h; exact absurd h (by decide)) (fun _ => ?_)⟩
    rw [e68]; exact nf.1
