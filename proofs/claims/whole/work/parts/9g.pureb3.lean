/-! ===== days ===== -/
theorem AgS.dr {q : Nat} {σ s : Mm} (h : AgS q σ s) : AgS q (zst (zst σ q 4 (zjh (lcg (s 0 4) (s 0 204)))) q 204 (zjl (lcg (s 0 4) (s 0 204)))) (drS s) := by
  obtain ⟨a1, a2, a3, a4, a5⟩ := h
  refine ⟨fun k hk => ?_, ?_, ?_, fun i k hi hk => ?_, fun k hk => ?_⟩
  · rw [zst_k (by omega), zst_k (by omega), drS_k (by omega)]; exact a1 k hk
  · rw [zst_k (by omega), zst_v, drS_4.1]
  · rw [zst_v, drS_4.2]
  · rw [zst_n (by omega), zst_n (by omega), drS_k (by omega)]; exact a4 i k hi hk
  · rw [zst_n (by omega), zst_n (by omega), drS_k (by omega)]; exact a5 k hk
theorem lt_i {α : Sort _} {β : Sort _} {e : α} {k : α → β} {o : β} (h : ∀ x, x = e → k x = o) : lt e k = o := h e rfl
/-- what days that go on may change in the class -/
def FdC (σ τ : Mm) : Prop := (∀ k, k ≠ 6 → k ≠ 8 → τ 37 k = σ 37 k) ∧ ∀ c, (c < 27 ∨ 36 < c) → c ≠ 37 → c ≠ 39 → c ≠ 40 → c ≠ 41 → c ≠ 42 → ¬ stk c → τ c = σ c
theorem FdC.refl {σ : Mm} : FdC σ σ := ⟨fun _ _ _ => rfl, fun _ _ _ _ _ _ _ _ => rfl⟩
theorem FdC.trans {σ τ υ : Mm} (h : FdC σ τ) (h2 : FdC τ υ) : FdC σ υ := ⟨fun k a b => (h2.1 k a b).trans (h.1 k a b), fun c a b d e f g i => (h2.2 c a b d e f g i).trans (h.2 c a b d e f g i)⟩
theorem PmC.fd {P : Pm} {σ τ : Mm} (h : PmC P σ) (f : FdC σ τ) : PmC P τ := by
  obtain ⟨h1, h2, h3, h4, h5, h6, h7⟩ := h
  obtain ⟨f1, f2⟩ := f
  have q : ∀ c, 3 ≤ c → c ≤ 10 ∨ c = 38 → τ c = σ c := fun c a b => f2 c (by omega) (by omega) (by omega) (by omega) (by omega) (by omega) (stk_n (by omega))
  refine ⟨by rw [q 3 (by omega) (by omega)]; exact h1, by rw [q 3 (by omega) (by omega)]; exact h2, by rw [q 3 (by omega) (by omega)]; exact h3, by rw [f1 4 (by omega) (by omega)]; exact h4, by rw [f1 5 (by omega) (by omega)]; exact h5, fun k hk => ?_, fun i hi => ?_⟩
  · rw [q 4 (by omega) (by omega), q 5 (by omega) (by omega), q 6 (by omega) (by omega), q 38 (by omega) (by omega)]; exact h6 k hk
  · rw [q 7 (by omega) (by omega), q 8 (by omega) (by omega), q 9 (by omega) (by omega), q 10 (by omega) (by omega)]; exact h7 i hi
theorem RuC.fd {P : Pm} {rc : Nat} {σ τ : Mm} (h : RuC P rc σ) (hrc : rc ≤ 5) (f : FdC σ τ) : RuC P rc τ :=
  h.of (fun r hr => ⟨f.2 _ (by omega) (by omega) (by omega) (by omega) (by omega) (by omega) (stk_n (by omega)), f.2 _ (by omega) (by omega) (by omega) (by omega) (by omega) (by omega) (stk_n (by omega))⟩)
theorem c_days {P : Pm} {rc B d : Nat} {r : Int32} {s σ : Mm} {K : Mm → Option (Int32 × Mm)} {Q : Int32 × Mm → Prop} (hP : WFp P) (hs : WFs P s) (hB : sm B (s 0 1)) (hB2 : B < 900000) (hR : RuS P rc s) (hA : AgS 27 σ s) (hC : PmC P σ) (hRc : RuC P rc σ) (h15 : σ 0 15 = r) (hd : d ≤ 30)
    (hK : ∀ τ, AgS 27 τ (dds P r s d) → FdC σ τ → Ok (K τ) Q) : Ok (zfX11_days_L19 (nI d) K NF 0 σ) Q := by
  refine ok_up (F := fun fu (x : Int32 × Mm) => zfX11_days_L19 (nI d) K fu x.1 x.2) d (fun i x => x.1 = nI i ∧ AgS 27 x.2 (dds P r s i) ∧ FdC σ x.2) ?_ ?_ 0 NF (0, σ) ⟨rfl, hA, FdC.refl⟩ (by omega) (by unfold NF; omega)
  · rintro i fu ⟨y, τ⟩ hi ⟨hy, h1, h2⟩ hk
    have hy : y = nI i := hy
    subst hy
    have h1 : AgS 27 τ (dds P r s i) := h1
    have h2 : FdC σ τ := h2
    obtain ⟨w1, w2, w3, w4, w5⟩ := dds_wf (r := r) hP hs hR hB hB2 i (by omega)
    have f15 : τ 0 15 = r := by rw [h2.2 0 (by omega) (by omega) (by omega) (by omega) (by omega) (by omega) (stk_n (by omega))]; exact h15
    show Ok (zfX11_days_L19 (nI d) K (fu + 1) (nI i) τ) _
    unfold zfX11_days_L19
    rw [if_neg (by rw [n_le (by omega) (by omega)]; omega)]
    refine ok_lg (fun J hJ => ?_)
    have day : ∀ (f : Int32) (t τ1 : Mm), WFs P t → RuS P rc t → AgS 27 τ1 t → FdC τ τ1 → dds P r s (i + 1) = dayS P f t → Ok (J f τ1) Q := fun f t τ1 t1 t2 t3 t4 t5 => by
      simp only [hJ]
      rw [ok_bd]
      refine ok_mono (c_day (f := f) (q := 27) (by omega) (by omega) hP t1 t2 t3 (hC.fd (h2.trans t4)) (hRc.fd t2.1 (h2.trans t4))) (fun φ hφ => ?_)
      obtain ⟨b1, b2, b3, b4, b5⟩ := hφ
      refine ok_lg (fun x hx => ?_)
      rw [show nI i + 1 = nI (i + 1) from n_add _ 1] at hx
      subst hx
      exact hk (nI (i + 1), φ) ⟨rfl, by dsimp only; rw [t5]; exact b1, (h2.trans t4).trans ⟨b4, fun c g1 g2 g3 g4 g5 g6 g7 => b5 c (by omega) g2 g3 g4 g5 g6 g7⟩⟩
    refine ok_lg (fun J2 hJ2 => ?_)
    rw [f15]
    by_cases c : r ≤ 0
    · rw [if_pos c]
      simp only [hJ2]
      exact day 0 (dds P r s i) τ w1 w2 h1 FdC.refl (by show dd1 P r (dds P r s i) = _; unfold dd1; rw [if_pos c])
    · rw [if_neg c]
      have hd3 := drS_wf (P := P) w1 w2 w3
      have e4 : τ 27 4 = dds P r s i 0 4 := h1.2.1
      have e204 : τ 27 204 = dds P r s i 0 204 := h1.2.2.1
      generalize hτ1 : zst (zst τ 27 4 (zjh (lcg (dds P r s i 0 4) (dds P r s i 0 204)))) 27 204 (zjl (lcg (dds P r s i 0 4) (dds P r s i 0 204))) = τ1
      have ag := h1.dr
      rw [hτ1] at ag
      have eu : (Int64.toUInt64 (zj (τ1 27 4) (τ1 27 (4 + 200))) >>> ((Int64.toUInt64 (Int32.toInt64 33)) &&& Int64.toUInt64 63)).toInt64 = drU (drS (dds P r s i)) := by
        rw [show (4 : Nat) + 200 = 204 from rfl, ag.2.1, ag.2.2.1]; rfl
      have hdraw : zfX8_draw 27 τ = some (Int64.toInt32 (drU (drS (dds P r s i)) - drU (drS (dds P r s i)) / 100 * 100), τ1) := by
        unfold zfX8_draw
        refine lt_i (fun τ2 g1 => ?_)
        have g2 : τ2 = τ1 := by
          rw [← hτ1, g1, show (4 : Nat) + 200 = 204 from rfl, e4, e204]; rfl
        subst g2
        exact congrArg some (congrArg (fun u => (Int64.toInt32 (u - u / 100 * 100), τ2)) eu)
      rw [hdraw, bd2_some]
      have fr : FdC τ τ1 := ⟨fun k _ _ => by rw [← hτ1, zst_n (by omega), zst_n (by omega)], fun c k1 _ _ _ _ _ _ => by rw [← hτ1, zst_n (by omega), zst_n (by omega)]⟩
      have f15 : τ1 0 15 = r := by rw [← hτ1, zst_n (by omega), zst_n (by omega)]; exact f15
      rw [f15]
      by_cases c2 : r ≤ Int64.toInt32 (drU (drS (dds P r s i)) - drU (drS (dds P r s i)) / 100 * 100)
      · rw [if_pos c2]
        simp only [hJ2]
        exact day 0 _ τ1 hd3.1 hd3.2.1 ag fr (by show dd1 P r (dds P r s i) = _; unfold dd1; rw [if_neg c, if_pos c2])
      · rw [if_neg c2]
        exact day 1 _ τ1 hd3.1 hd3.2.1 ag fr (by show dd1 P r (dds P r s i) = _; unfold dd1; rw [if_neg c, if_neg c2])
  · rintro fu ⟨y, τ⟩ ⟨hy, h1, h2⟩
    have hy : y = nI d := hy
    subst hy
    show Ok (zfX11_days_L19 (nI d) K (fu + 1) (nI d) τ) _
    unfold zfX11_days_L19
    rw [if_pos (Int32.le_refl _)]
    exact hK τ h1 h2
/-- what days that go on may change in the reference -/
def FdR (σ τ : Mm) : Prop := (∀ x, (x < 5 ∨ x = 6 ∨ x = 7 ∨ x = 15 ∨ x = 16 ∨ 17 < x ∧ x ≠ 34 ∧ x ≠ 234 ∧ x ≠ 45 ∧ x ≠ 46) → τ 703 x = σ 703 x) ∧
  ∀ c, c ≠ 703 → c ≠ 707 → c ≠ 714 → c ≠ 718 → c ≠ 719 → c ≠ 720 → c ≠ 721 → c ≠ 722 → c ≠ 723 → c ≠ 724 → τ c = σ c
theorem FdR.refl {σ : Mm} : FdR σ σ := ⟨fun _ _ => rfl, fun _ _ _ _ _ _ _ _ _ _ _ => rfl⟩
theorem FdR.trans {σ τ υ : Mm} (h : FdR σ τ) (h2 : FdR τ υ) : FdR σ υ :=
  ⟨fun x a => (h2.1 x a).trans (h.1 x a), fun c a1 a2 a3 a4 a5 a6 a7 a8 a9 a10 => (h2.2 c a1 a2 a3 a4 a5 a6 a7 a8 a9 a10).trans (h.2 c a1 a2 a3 a4 a5 a6 a7 a8 a9 a10)⟩
theorem FdR.c {σ τ : Mm} (h : FdR σ τ) {c : Nat} (hc : c < 703 ∨ 703 < c ∧ c < 707 ∨ 707 < c ∧ c < 714 ∨ 714 < c ∧ c < 718 ∨ 724 < c) : τ c = σ c :=
  h.2 c (by omega) (by omega) (by omega) (by omega) (by omega) (by omega) (by omega) (by omega) (by omega) (by omega)
theorem PmR.fd {P : Pm} {s s2 σ τ : Mm} (h : PmR P s σ) (f : FdR σ τ) (e3 : s2 0 3 = s 0 3) (e6 : s2 6 = s 6) : PmR P s2 τ := by
  obtain ⟨h1, h2, h3, h4, h5, h6, h7⟩ := h
  refine ⟨by rw [f.1 24 (by omega)]; exact h1, by rw [f.1 25 (by omega)]; exact h2, by rw [f.1 41 (by omega), e3]; exact h3, by rw [f.1 42 (by omega)]; exact h4, by rw [f.c (by omega)]; exact h5, fun k hk => ?_, fun i hi => ?_⟩
  · rw [f.c (c := 708) (by omega), f.c (c := 717) (by omega), f.c (c := 716) (by omega), e6]; exact h6 k hk
  · rw [f.c (c := 709) (by omega)]; exact h7 i hi
theorem RuR.fd {P : Pm} {rc : Nat} {σ τ : Mm} (h : RuR P rc σ) (f : FdR σ τ) : RuR P rc τ := h.of (f.c (by omega)) (fun r _ => by rw [f.c (c := 706) (by omega)])
theorem r_days {P : Pm} {rc B d : Nat} {r : Int32} {s σ : Mm} {K : Mm → Option (Int32 × Mm)} {Q : Int32 × Mm → Prop} (hP : WFp P) (hPw : WFw P) (hN : pN P = pn P) (hs : WFs P s) (hB : sm B (s 0 1)) (hB2 : B < 900000) (hR : RuS P rc s) (hh : ∀ k, pn P ≤ k → k < 6 → ¬ hob (s 0 3) k) (hA : RRs P σ s) (hC : PmR P s σ) (h43 : σ 703 43 = 0) (hRr : RuR P rc σ) (h33 : σ 703 33 = r) (h34 : σ 703 34 = s 0 4) (h234 : σ 703 234 = s 0 204) (hd : d ≤ 30)
    (hK : ∀ τ, RRs P τ (dds P r s d) → FdR σ τ → τ 703 34 = dds P r s d 0 4 → τ 703 234 = dds P r s d 0 204 → Ok (K τ) Q) : Ok (zfX12_days_L21 (nI d) K NF 0 σ) Q := by
  refine ok_up (F := fun fu (x : Int32 × Mm) => zfX12_days_L21 (nI d) K fu x.1 x.2) d (fun i x => x.1 = nI i ∧ RRs P x.2 (dds P r s i) ∧ FdR σ x.2 ∧ x.2 703 34 = dds P r s i 0 4 ∧ x.2 703 234 = dds P r s i 0 204) ?_ ?_ 0 NF (0, σ) ⟨rfl, hA, FdR.refl, h34, h234⟩ (by omega) (by unfold NF; omega)
  · rintro i fu ⟨y, τ⟩ hi ⟨hy, h1, h2, h3, h4⟩ hk
    have hy : y = nI i := hy
    subst hy
    have h1 : RRs P τ (dds P r s i) := h1
    have h2 : FdR σ τ := h2
    have h3 : τ 703 34 = dds P r s i 0 4 := h3
    have h4 : τ 703 234 = dds P r s i 0 204 := h4
    obtain ⟨w1, w2, w3, w4, w5⟩ := dds_wf (r := r) hP hs hR hB hB2 i (by omega)
    have f33 : τ 703 33 = r := by rw [h2.1 33 (by omega)]; exact h33
    show Ok (zfX12_days_L21 (nI d) K (fu + 1) (nI i) τ) _
    unfold zfX12_days_L21
    rw [if_neg (by rw [n_le (by omega) (by omega)]; omega)]
    refine ok_lg (fun J hJ => ?_)
    have day : ∀ (f : Int32) (t τ1 : Mm), WFs P t → RuS P rc t → RRs P τ1 t → FdR τ τ1 → t 0 3 = s 0 3 → t 6 = s 6 → τ1 703 34 = t 0 4 → τ1 703 234 = t 0 204 → dds P r s (i + 1) = dayS P f t → Ok (J f τ1) Q := fun f t τ1 t1 t2 t3 t4 t5 t6 t7 t8 t9 => by
      simp only [hJ]
      rw [ok_bd]
      refine ok_mono (r_day (f := f) (rc := rc) hP hPw t1 t2 (by rw [t5]; exact hh) t3 (hC.fd (h2.trans t4) t5 t6) (Or.inl ⟨hN, by rw [(h2.trans t4).1 43 (by omega)]; exact h43⟩) (hRr.fd (h2.trans t4))) (fun φ hφ => ?_)
      obtain ⟨b1, b2, b3, b4, b5, b6, b7⟩ := hφ
      refine ok_lg (fun x hx => ?_)
      rw [show nI i + 1 = nI (i + 1) from n_add _ 1] at hx
      subst hx
      exact hk (nI (i + 1), φ) ⟨rfl, by dsimp only; rw [t9]; exact b1, (h2.trans t4).trans ⟨fun x hx => b6 x (by omega), b7⟩, by dsimp only; rw [b6 34 (by omega), t7, t9]; rfl, by dsimp only; rw [b6 234 (by omega), t8, t9]; rfl⟩
    rw [f33]
    by_cases c : r ≤ 0
    · rw [if_pos c]
      exact day 0 (dds P r s i) τ w1 w2 h1 FdR.refl w4 w5 h3 h4 (by show dd1 P r (dds P r s i) = _; unfold dd1; rw [if_pos c])
    · rw [if_neg c]
      have hd3 := drS_wf (P := P) w1 w2 w3
      refine ok_lg (fun τ1 g1 => ?_)
      have g2 : τ1 = zst (zst τ 703 34 (zjh (lcg (dds P r s i 0 4) (dds P r s i 0 204)))) 703 234 (zjl (lcg (dds P r s i 0 4) (dds P r s i 0 204))) := by
        rw [g1, show (34 : Nat) + 200 = 234 from rfl, h3, h4]; rfl
      have e34 : τ1 703 34 = drS (dds P r s i) 0 4 := by rw [g2, zst_k (by omega), zst_v, drS_4.1]
      have e234 : τ1 703 234 = drS (dds P r s i) 0 204 := by rw [g2, zst_v, drS_4.2]
      have fr : FdR τ τ1 := ⟨fun x hx => by rw [g2, zst_k (by omega), zst_k (by omega)], fun c k1 _ _ _ _ _ _ _ _ _ => by rw [g2, zst_n k1, zst_n k1]⟩
      have f33 : τ1 703 33 = r := by rw [fr.1 33 (by omega)]; exact f33
      have rr : RRs P τ1 (drS (dds P r s i)) := by
        obtain ⟨b1, b2, b3, b4, b5, b6⟩ := h1
        have e714 : τ1 714 = τ 714 := by rw [g2, zst_n (by omega), zst_n (by omega)]
        refine ⟨fun k hk => ?_, ?_, ?_, ?_, fun i2 k hi hk => ?_, fun j g1 g2 => ?_⟩
        · rw [e714, drS_r (by omega), drS_r (by omega), drS_r (by omega), drS_r (by omega), drS_r (by omega)]; exact b1 k hk
        · rw [e714, drS_k (by omega)]; exact b2
        · rw [e714, drS_k (by omega)]; exact b3
        · rw [e714, drS_k (by omega)]; exact b4
        · rw [e714, drS_r (by omega)]; exact b5 i2 k hi hk
        · rw [e714]; exact b6 j g1 g2
      refine ok_lg (fun J2 hJ2 => ?_)
      have eu : (Int64.toUInt64 (zj (τ1 703 34) (τ1 703 (34 + 200))) >>> ((Int64.toUInt64 (Int32.toInt64 33)) &&& Int64.toUInt64 63)).toInt64 = drU (drS (dds P r s i)) := by
        rw [show (34 : Nat) + 200 = 234 from rfl, e34, e234]; rfl
      rw [eu, f33]
      have hf := fst_eq (drU (drS (dds P r s i))) r
      by_cases c2 : r ≤ Int64.toInt32 (drU (drS (dds P r s i)) - drU (drS (dds P r s i)) / 100 * 100)
      · rw [if_pos (hf.mp c2)]
        simp only [hJ2]
        exact day 0 _ τ1 hd3.1 hd3.2.1 rr fr (by rw [drS_k (by omega), w4]) (by rw [drS_r (by omega), w5]) e34 e234 (by show dd1 P r (dds P r s i) = _; unfold dd1; rw [if_neg c, if_pos c2])
      · rw [if_neg (fun h => c2 (hf.mpr h))]
        simp only [hJ2]
        exact day 1 _ τ1 hd3.1 hd3.2.1 rr fr (by rw [drS_k (by omega), w4]) (by rw [drS_r (by omega), w5]) e34 e234 (by show dd1 P r (dds P r s i) = _; unfold dd1; rw [if_neg c, if_neg c2])
  · rintro fu ⟨y, τ⟩ ⟨hy, h1, h2, h3, h4⟩
    have hy : y = nI d := hy
    subst hy
    show Ok (zfX12_days_L21 (nI d) K (fu + 1) (nI d) τ) _
    unfold zfX12_days_L21
    rw [if_pos (Int32.le_refl _)]
    exact hK τ h1 h2 h3 h4
theorem q_daysA {B : Nat} (hB : B < 900000) (x : Int32) : Qy B (zfX11_days x) (zfX12_days x) := by
  rintro σ ⟨P, rc, s, hI⟩
  have hn := hI.n
  have hd := fun (τ : Mm) (h : τ 703 24 = nI (pn P)) => q_days2 (σ := σ) (τ := τ) (x := x) hn.1 hn.2.1 h
  unfold zfX11_days
  by_cases c0 : zfX11_noDays x σ = 0
  case neg =>
    rw [if_neg c0, ok_s]
    unfold zfX12_days
    refine ok_lg (fun υ e => ?_)
    rw [if_pos ((hd υ (by rw [e, zst_k (by omega)]; exact hn.2.2)).2 c0), ok_s, e]
    exact ⟨rfl, Iv.up ⟨P, rc, s, hI.z0⟩ (by omega)⟩
  case pos =>
  rw [if_pos c0]
  obtain ⟨_, h0, d, d1, d2, d3⟩ := (hd σ hn.2.2).1 c0
  subst d3
  obtain ⟨h1, h2, h3, ⟨r1, r2, r3, r4, r5⟩, ⟨⟨s1, s2, s3, s4', s5', s6'⟩, s4, s5, s6, s7⟩, ⟨k1, k2⟩, h7, h8⟩ := id hI
  rw [ok_bd]
  refine ok_mono c_begin6 (fun τ0 hτ => ?_)
  obtain ⟨b3, b4, b5, b6, b7⟩ := hτ
  have q0 : ∀ c, c ≠ 37 → c ≠ 38 → τ0 c = σ c := b7
  have hp := h2.1
  obtain ⟨m1, m2, m3, m4, ⟨n1, n2, n3, n4⟩, m6, m7, m8⟩ := h3
  have hC : PmC P τ0 := by
    refine ⟨by rw [q0 3 (by omega) (by omega)]; exact m1, by rw [q0 3 (by omega) (by omega)]; exact m2, by rw [q0 3 (by omega) (by omega)]; exact n2, by rw [b4]; exact n1, by rw [b3, m1, h2.2.2.1], fun k hk => ?_, fun i hi => ?_⟩
    · rw [q0 4 (by omega) (by omega), q0 5 (by omega) (by omega), q0 6 (by omega) (by omega), b6 k (by have := hp.2.2.2.1; omega), h2.2.2.2 k]
      have := m6 k (by have := h2.2.2.1; omega)
      exact ⟨this.1, this.2.1, this.2.2.1, rfl⟩
    · rw [q0 7 (by omega) (by omega), q0 8 (by omega) (by omega), q0 9 (by omega) (by omega), q0 10 (by omega) (by omega)]
      have := m7 i hi
      exact ⟨this.1, this.2.1, this.2.2.1, this.2.2.2.1⟩
  refine ok_lg (fun K hK => ?_)
  refine c_days (r := σ 0 15) hp s3 s5' hB s4' (s1.fr (fun c a b => q0 c (by omega) (by omega))) hC (r4.of (fun r hr => ⟨q0 _ (by omega) (by omega), q0 _ (by omega) (by omega)⟩)) (by rw [q0 0 (by omega) (by omega)]) d2 (fun τ t1 t2 => ?_)
  simp only [hK]
  rw [ok_s]
  dsimp only
  have qC : ∀ c, (c < 27 ∨ 36 < c) → c ≠ 37 → c ≠ 38 → c ≠ 39 → c ≠ 40 → c ≠ 41 → c ≠ 42 → ¬ stk c → τ c = σ c := fun c a1 a2 a3 a4 a5 a6 a7 a8 => by rw [t2.2 c a1 a2 a4 a5 a6 a7 a8, q0 c a2 a3]
  unfold zfX12_days
  refine ok_lg (fun υ e => ?_)
  have u : ∀ c, 43 ≤ c → c ≠ 703 → υ c = σ c := fun c a b => by rw [e, zst_n b, qC c (by omega) (by omega) (by omega) (by omega) (by omega) (by omega) (by omega) (stk_n (by omega))]
  have u7 : ∀ k, k ≠ 0 → υ 703 k = σ 703 k := fun k a => by rw [e, zst_k a, qC 703 (by omega) (by omega) (by omega) (by omega) (by omega) (by omega) (by omega) (stk_n (by omega))]
  rw [if_neg ((hd υ (by rw [u7 24 (by omega)]; exact hn.2.2)).1 c0).1, ok_bd]
  refine ok_mono r_plainly (fun φ0 hφ => ?_)
  obtain ⟨p1, p2, p3, p4, p5, p6, p7⟩ := hφ
  have v : ∀ c, 43 ≤ c → c ≠ 703 → c ≠ 717 → φ0 c = σ c := fun c a b d => by rw [p7 c b d, u c a b]
  have v7 : ∀ k, k ≠ 0 → k ≠ 41 → k ≠ 42 → k ≠ 43 → φ0 703 k = σ 703 k := fun k a b d f => by rw [p4 k b d f, u7 k a]
  rw [wr_self] at s2
  have hPR : PmR P s φ0 := by
    refine ⟨by rw [v7 24 (by omega) (by omega) (by omega) (by omega)]; exact m3, by rw [v7 25 (by omega) (by omega) (by omega) (by omega)]; exact m4, by rw [p1, u7 32 (by omega), s4], by rw [p2, u 710 (by omega) (by omega)]; exact n3, by rw [v 710 (by omega) (by omega) (by omega)]; exact n4, fun k hk => ?_, fun i hi => ?_⟩
    · rw [v 708 (by omega) (by omega) (by omega), v 716 (by omega) (by omega) (by omega), p5 k (by have := hp.1; omega), h2.2.2.2 k]
      have := m6 k hk
      exact ⟨this.2.2.2.1, this.2.2.2.2.1, this.2.2.2.2.2, rfl, s5 k hk⟩
    · rw [v 709 (by omega) (by omega) (by omega)]; exact (m7 i hi).2.2.2.2
  refine ok_lg (fun K2 hK2 => ?_)
  refine r_days (r := σ 0 15) (rc := rc) hp h2.2.1 h2.2.2.1 s3 s5' hB s4' s6' (s2.fr14 (v 714 (by omega) (by omega) (by omega))) hPR p3 (r5.of (v 705 (by omega) (by omega) (by omega)) (fun r _ => by rw [v 706 (by omega) (by omega) (by omega)])) (by rw [v7 33 (by omega) (by omega) (by omega) (by omega)]; exact k1.symm) (by rw [v7 34 (by omega) (by omega) (by omega) (by omega)]; exact s6) (by rw [v7 234 (by omega) (by omega) (by omega) (by omega)]; exact s7) d2 (fun φ f1 f2 f3 f4 => ?_)
  simp only [hK2]
  rw [ok_s]
  dsimp only
  have w := dds_wf (r := σ 0 15) hp s3 s4' s5' hB d (by omega)
  have lo : ∀ c, c < 703 → φ c = τ c := fun c hc => by rw [f2.c (by omega), p7 c (by omega) (by omega), e, zst_n (by omega)]
  have hi : ∀ c, 703 < c → c ≠ 707 → c ≠ 717 → (c < 714 ∨ 714 < c ∧ c < 718 ∨ 724 < c) → φ c = σ c := fun c a b d f => by rw [f2.c (by omega), v c (by omega) (by omega) d]
  have h7' : ∀ k, (k = 6 ∨ k = 7 ∨ 17 < k) → k ≠ 34 → k ≠ 234 → k ≠ 41 → k ≠ 42 → k ≠ 43 → k ≠ 45 → k ≠ 46 → φ 703 k = σ 703 k := fun k a1 a2 a3 a4 a5 a6 a7 a8 => by rw [f2.1 k (by omega), v7 k (by omega) a4 a5 a6]
  have qa : ∀ c, c < 27 → ¬ stk c → φ c = σ c := fun c a b => by rw [lo c (by omega), qC c (by omega) (by omega) (by omega) (by omega) (by omega) (by omega) (by omega) b]
  have qb : ∀ c, 43 ≤ c → c < 703 → φ c = σ c := fun c a b => by rw [lo c b, qC c (by omega) (by omega) (by omega) (by omega) (by omega) (by omega) (by omega) (stk_n (by omega))]
  refine ⟨by rw [show ix 54 = 54 by decide, f1.2.1]; exact (t1.1 0 (by omega)).symm, ?_⟩
  show Iv (B + 31) φ
  refine ⟨P, rc, dds P (σ 0 15) s d, (hI.up (B2 := B + 31) (by omega)).chg (fun c hc => ?_) ⟨by rw [qa 0 (by omega) (stk_n (by omega))], by rw [qa 0 (by omega) (stk_n (by omega))]⟩ (fun k hk => h7' k (by omega) (by omega) (by omega) (by omega) (by omega) (by omega) (by omega) (by omega)) (hI.1.of (by rw [qa 1 (by omega) (stk_n (by omega))]) (qa 2 (by omega) (stk_n (by omega))) (h7' 6 (by omega) (by omega) (by omega) (by omega) (by omega) (by omega) (by omega) (by omega)) (hi 704 (by omega) (by omega) (by omega) (by omega))) ⟨⟨t1.fr (fun c a b => lo c (by omega)), by rw [wr_self]; exact f1, w.1, w.2.1, ⟨w.2.2.1.1, by have := w.2.2.1.2; omega⟩, by rw [w.2.2.2.1]; exact s6'⟩, by rw [w.2.2.2.1, h7' 32 (by omega) (by omega) (by omega) (by omega) (by omega) (by omega) (by omega) (by omega)]; exact s4, fun k hk => by rw [hi 716 (by omega) (by omega) (by omega) (by omega), w.2.2.2.2]; exact s5 k hk, f3, f4⟩ ⟨by rw [qa 0 (by omega) (stk_n (by omega)), h7' 33 (by omega) (by omega) (by omega) (by omega) (by omega) (by omega) (by omega) (by omega)]; exact k1, by rw [qa 0 (by omega) (stk_n (by omega))]; exact k2⟩⟩
  by_cases c1 : c < 27
  · by_cases c2 : 12 ≤ c
    · exact qa c c1 (by rcases hc with h | h | h | h | h | h | h | h <;> first | exact h.2.2 | omega)
    · exact qa c c1 (stk_n (by omega))
  · by_cases c3 : c < 703
    · exact qb c (by omega) c3
    · exact hi c (by omega) (by omega) (by omega) (by omega)
