/-! ===== askings told ===== -/
/-- days with askings told: f -/
def tellP (P : Pm) (f : Nat → Int32) : Pm := (P.1, P.2.1, (fun i k => if i = 2 then f k else P.2.2.1 i k), P.2.2.2)
theorem tellP_w {P : Pm} {f : Nat → Int32} (hP : WFp P) (hN : pN P = pn P) (hf : ∀ k, k < pn P → f k = -1 ∨ sm 20 (f k)) : WFp (tellP P f) := by
  obtain ⟨p1, p2, p3, p4, p5, p6, p7, p8, p9⟩ := hP
  refine ⟨p1, p2, p3, p4, p5, p6, fun k hk => ?_, fun k h1 h2 => ?_, p9⟩
  · have hk : k < pN P := hk
    exact hf k (by omega)
  · have h1 : pn P ≤ k := h1
    have h2 : k < pN P := h2
    omega
theorem sAll_d {N : Nat} {hd : Nat → Prop} {g0 : Nat → Nat} {ask wo : Nat → Int32} {w : Nat → Nat} {X : Sx} (h : ∀ k, X.1 k ≤ g0 k) : ∀ j k, (sAll N hd g0 ask wo w j X).1 k ≤ g0 k := by
  have hage : ∀ i a (Y : Sx), (∀ k, Y.1 k ≤ g0 k) → ∀ k, (sAge N hd g0 ask wo i a Y).1 k ≤ g0 k := fun i a Y hY k => (buyN_d (s := Y.2.1) hY k).1
  intro j
  induction j with
  | zero => exact h
  | succ j ih =>
    intro k
    exact hage _ 0 _ (hage _ 1 _ (hage _ 2 _ (hage _ 3 _ ih))) k
theorem dX_le {P : Pm} {f : Int32} {s : Mm} (k : Nat) : (dX P f s).1 k ≤ dG P s k := sAll_d (X := (fun _ => 0, s 0 2, dw P f s, s 8)) (fun _ => Nat.zero_le _) _ k
theorem dA_to {P : Pm} {f : Int32} {s : Mm} {k : Nat} (h : pto P k ≠ -1) : dA P f s k = pto P k := by
  unfold dA asV
  rw [if_neg h]
theorem Kb.tell {P : Pm} {rc : Nat} {s σ τ : Mm} {f : Nat → Int32} {i : Nat} {x : Int32} (h : Kb (tellP P f) rc s σ τ) : Kb (tellP P (fun k => if k = i then x else f k)) rc s σ (zst τ 717 i x) := by
  obtain ⟨k1, k2, k3, ⟨p1, p2, p3, p4, p5, p6, p7⟩, k5, k6⟩ := h
  have q : ∀ c, c ≠ 717 → zst τ 717 i x c = τ c := fun c hc => zst_n hc
  refine ⟨k1.trans ⟨fun c hc => q c (by omega), fun k _ => by rw [q 714 (by omega)], fun k _ => by rw [q 703 (by omega)]⟩, fun j hj => by rw [q 715 (by omega)]; exact k2 j hj, k3.fr14 (q 714 (by omega)), ⟨by rw [q 703 (by omega)]; exact p1, by rw [q 703 (by omega)]; exact p2, by rw [q 703 (by omega), zst_v], by rw [q 703 (by omega)]; exact p4, by rw [q 710 (by omega)]; exact p5, fun k hk => ?_, fun j hj => ?_⟩, by rw [q 703 (by omega)]; exact k5, ?_⟩
  · rw [q 708 (by omega), q 716 (by omega), q 703 (by omega)]
    obtain ⟨a, b, c, d, e⟩ := p6 k hk
    refine ⟨a, b, c, ?_, ?_⟩
    · show zst τ 717 i x 717 k = if k = i then x else f k
      by_cases ek : k = i
      · rw [if_pos ek, ek, zst_v]
      · rw [if_neg ek, zst_k ek]; exact d
    · exact e
  · rw [q 709 (by omega)]; exact p7 j hj
  · have : RuR P rc (zst τ 717 i x) := RuR.of (P := P) (σ := τ) k6 (q 705 (by omega)) (fun r _ => by rw [q 706 (by omega)])
    exact this
theorem Kb.t0 {P : Pm} {rc : Nat} {s σ τ : Mm} (hP : IvP P) (h : Kb P rc s σ τ) : Kb (tellP P (fun _ => -1)) rc s σ τ := by
  obtain ⟨k1, k2, k3, ⟨p1, p2, p3, p4, p5, p6, p7⟩, k5, k6⟩ := h
  refine ⟨k1, k2, k3, ⟨p1, p2, p3, p4, p5, fun k hk => ?_, p7⟩, k5, k6⟩
  obtain ⟨a, b, c, d, e⟩ := p6 k hk
  exact ⟨a, b, c, d.trans (hP.2.2.2 k), e⟩
/-- what days go by, whatever is told -/
def Kq (P : Pm) : Prop := WFp P ∧ WFw P ∧ pN P = pn P
theorem Kb.goq {P : Pm} {rc B : Nat} {s σ τ0 τ1 t : Mm} {v : Int32} (h : Kb P rc s σ τ0) (hP : Kq P) (ht : WFs P t) (hB : sm B (t 0 1)) (hR : RuS P rc t) (e6 : t 6 = s 6) (hv : ∀ k, pn P ≤ k → k < 6 → ¬ hob v k) (f : FrT (zst τ0 703 41 v) τ1) (hA : RRs P τ1 t) :
    Ok (zfX12_goes 0 τ1) (fun φ => RRs P φ (dayS P 0 (zst t 0 3 v)) ∧ FrT (zst τ0 703 41 v) φ ∧ (∀ k, k < pn P → φ 718 k = dA P 0 (zst t 0 3 v) k ∧ φ 719 k = nI ((dX P 0 (zst t 0 3 v)).1 k) * dA P 0 (zst t 0 3 v) k ∧ φ 720 k = nI (dG P (zst t 0 3 v) k)) ∧ φ 703 46 = (if (dU P 0 (zst t 0 3 v)).1 = 0 then 1 else 0)) := by
  obtain ⟨k1, k2, k3, k4, k5, k6⟩ := h
  have w := hS_wf (v := v) ht hR hB
  have q : ∀ c, c ≠ 703 → zst τ0 703 41 v c = τ0 c := fun c hc => zst_n hc
  have p := k4.v (τ := zst τ0 703 41 v) (v := v) (fun k hk => zst_k hk) zst_v (fun c hc => q c (by omega))
  rw [hS_hS] at p
  refine ok_mono (r_day (f := 0) (rc := rc) hP.1 hP.2.1 w.1 w.2.1 (by rw [zst_v]; exact hv) (hS_RR hA) (p.fr f (by rw [zst_v, zst_v]) (by rw [hS_r (by omega), hS_r (by omega), e6])) (Or.inl ⟨hP.2.2, by rw [f.1 43 (by omega), zst_k (by omega)]; exact k5⟩) ((RuR.of (τ := zst τ0 703 41 v) k6 (q 705 (by omega)) (fun r _ => by rw [q 706 (by omega)])).fr f)) (fun φ hφ => ?_)
  obtain ⟨g1, g2, g3, g4, g5, g6, g7⟩ := hφ
  exact ⟨g1, f.trans ⟨fun x hx => g6 x hx, fun c a1 a2 a3 a4 a5 a6 a7 a8 a9 a10 a11 a12 => g7 c a1 a2 a3 a4 a5 a6 a7 a8 a9 a10⟩, g3, g2⟩
/-- what a seller takes on one day -/
noncomputable def tkn (P : Pm) (s : Mm) (v : Int32) (k : Nat) : Int32 := nI ((dX P 0 (zst s 0 3 v)).1 k) * dA P 0 (zst s 0 3 v) k
theorem r_takenBy {P : Pm} {rc B i : Nat} {s σ τ : Mm} {v : Int32} (h : Kb P rc s σ τ) (hP : Kq P) (hs : WFs P s) (hB : sm B (s 0 1)) (hR : RuS P rc s) (e41 : τ 703 41 = v) (hv : ∀ k, pn P ≤ k → k < 6 → ¬ hob v k) (hi : i < pn P) :
    Ok (zfX12_takenBy (nI i) τ) (fun b => b.1 = tkn P s v i ∧ Kb P rc s σ b.2 ∧ b.2 703 41 = v ∧ (∀ k, (17 < k ∧ k ≠ 45 ∧ k ≠ 46) → b.2 703 k = τ 703 k) ∧ ∀ c, (c < 703 ∨ 703 < c ∧ c < 707 ∨ 707 < c ∧ c < 714 ∨ 714 < c ∧ c < 718 ∨ 726 < c) → b.2 c = τ c) := by
  have hn := hP.1.1
  have hm := hP.1.2.1
  unfold zfX12_takenBy
  have f0 : FrT (zst τ 703 41 v) τ := by rw [← e41]; exact FrT.v0
  rw [ok_bd]
  refine ok_mono (h.goq (v := v) hP hs hB hR rfl hv f0 h.2.2.1) (fun φ hφ => ?_)
  obtain ⟨g1, g2, g3, g4⟩ := hφ
  rw [ck_t ((n_in (by omega)).mpr (by omega)), n_ix (by omega), (g3 i hi).2.1]
  refine ok_lg (fun x ex => ?_)
  rw [ok_bd]
  refine ok_mono (h.back hn hm g2) (fun ψ hψ => ?_)
  obtain ⟨m1, m2, m3⟩ := hψ
  rw [ok_s]
  refine ⟨ex, m1, m2, fun k hk => ?_, fun c hc => ?_⟩
  · dsimp only
    rw [m3 703 (by omega), g2.1 k (by omega)]
    by_cases e : k = 41
    · rw [e, zst_v, e41]
    · rw [zst_k e]
  · dsimp only
    rw [m3 c (by omega), g2.c hc, zst_n (by omega)]
/-! ===== lone ===== -/
theorem lone_F {B : Nat} {x y : Int32} {P : Pm} {rc : Nat} {s σ : Mm} (hI : Ivx B P rc s σ) (hA : ¬ ((∃ i, i < pn P ∧ x = nI i) ∧ Rok 0 1 y)) : zfX11_lone x y σ = some (-1, σ) := by
  unfold zfX11_lone
  refine lt_i (fun J hJ => ?_)
  have fin : J σ = some (-1, σ) := by rw [hJ]
  by_cases c0 : zfX11_isSeller x σ = 0
  case pos => rw [if_pos c0]; exact fin
  case neg =>
  rw [if_neg c0]
  by_cases c1 : zfX11_noWhat y 1 = 0
  case neg => rw [if_neg c1]; exact fin
  case pos =>
  rw [if_pos c1]
  exact absurd ⟨(Classical.byContradiction (fun h9 => c0 ((g_sel hI).1.mpr h9))), (g_what1.mp c1)⟩ hA
theorem lone_G {B : Nat} {x y : Int32} {P : Pm} {rc : Nat} {s σ : Mm} (hI : Ivx B P rc s (zst σ 703 0 0)) (hA : ¬ ((∃ i, i < pn P ∧ x = nI i) ∧ Rok 0 1 y)) : zfX12_lone x y σ = some (-1, zst σ 703 0 0) := by
  unfold zfX12_lone
  refine lt_i (fun υ hυe => ?_)
  refine lt_i (fun J hJ => ?_)
  rw [← hυe] at hI ⊢
  have hυ := hI
  have fin : J υ = some (-1, υ) := by rw [hJ]
  by_cases c0 : zfX12_isSeller x υ = 0
  case pos => rw [if_pos c0]; exact fin
  case neg =>
  rw [if_neg c0]
  by_cases c1 : zfX12_isIn y.toInt64 0 1 = 0
  case pos => rw [if_pos c1]; exact fin
  case neg =>
  rw [if_neg c1]
  exact absurd ⟨(Classical.byContradiction (fun h9 => c0 ((g_sel hυ).2.mpr h9))), (Classical.byContradiction (fun h9 => c1 (g_in1.mpr h9)))⟩ hA
theorem hS_w {P : Pm} {s : Mm} {v : Int32} (hs : WFs P s) : WFs P (zst s 0 3 v) := by
  obtain ⟨w1, w2, w3, w4, w5, w6, w7⟩ := hs
  exact ⟨by rw [hS_k (by omega)]; exact w1, by rw [hS_k (by omega)]; exact w2, by rw [hS_r (by omega)]; exact w3, by rw [hS_r (by omega)]; exact w4, by rw [hS_r (by omega)]; exact w5, by rw [hS_r (by omega)]; exact w6, by rw [hS_r (by omega)]; exact w7⟩
def toF (i j : Nat) (k : Nat) : Int32 := if k = i then nI j else -1
/-- who holds back but one -/
def hvl (n i : Nat) : Int32 := hv (nI (2 ^ n) - 1) i 0
theorem hvl_no {n i : Nat} (hi : i < n) (hn : n ≤ 5) : ∀ k, n ≤ k → k < 6 → ¬ hob (hvl n i) k := by
  have hp := pow5 hn
  have h1 : 1 ≤ 2 ^ n := Nat.one_le_two_pow
  refine hv_no hi hn ?_
  rw [show nI (2 ^ n) - 1 = nI (2 ^ n - 1) by rw [show (1 : Int32) = nI 1 from rfl, n_sub h1]]
  exact set_no (by omega)
noncomputable def ltk (P : Pm) (s : Mm) (i j : Nat) : Nat := (dX (tellP P (toF i j)) 0 (zst s 0 3 (hvl (pn P) i))).1 i * j
noncomputable def lnp (P : Pm) (s : Mm) (i : Nat) : Nat → Int32 × Int32
  | 0 => (-1, -1)
  | j + 1 => if nI (ltk P s i j) ≤ (lnp P s i j).2 then lnp P s i j else (nI j, nI (ltk P s i j))
theorem ltk_le {P : Pm} {s : Mm} {i j : Nat} (hs : WFs P s) (hj : j ≤ 20) : ltk P s i j ≤ 1980 := by
  unfold ltk
  have w : WFs (tellP P (toF i j)) (zst s 0 3 (hvl (pn P) i)) := hS_w hs
  have h1 := dX_le (P := tellP P (toF i j)) (f := 0) (s := zst s 0 3 (hvl (pn P) i)) i
  have h2 := dG_le w i
  generalize (dX (tellP P (toF i j)) 0 (zst s 0 3 (hvl (pn P) i))).1 i = a at h1 ⊢
  have : a * j ≤ 99 * 20 := Nat.mul_le_mul (by omega) hj
  omega
theorem lnp_1 {P : Pm} {s : Mm} {i : Nat} (hs : WFs P s) : ∀ j, j ≤ 20 → (lnp P s i (j + 1)).1 ≠ -1 := by
  have base : nI (ltk P s i 0) ≤ (-1 : Int32) → False := fun h => by
    have := ltk_le (i := i) (j := 0) hs (by omega)
    rw [Int32.le_iff_toInt_le, n_ti (by omega)] at h
    have e : (-1 : Int32).toInt = -1 := by decide
    omega
  intro j
  induction j with
  | zero =>
    intro _
    unfold lnp
    rw [if_neg (show ¬ nI (ltk P s i 0) ≤ (lnp P s i 0).2 from base)]
    show nI 0 ≠ -1
    decide
  | succ j ih =>
    intro hj
    unfold lnp
    split
    · exact ih (by omega)
    · exact n_ne1 (by omega)
theorem tellC {P : Pm} {τ τ1 : Mm} {f : Nat → Int32} (h : PmC P τ) (hN : pN P = pn P) (q : ∀ c, (3 ≤ c ∧ c ≤ 10 ∨ c = 37) → τ1 c = τ c) (h38 : ∀ k, k < pn P → τ1 38 k = f k) : PmC (tellP P f) τ1 := by
  obtain ⟨h1, h2, h3, h4, h5, h6, h7⟩ := h
  refine ⟨by rw [q 3 (by omega)]; exact h1, by rw [q 3 (by omega)]; exact h2, by rw [q 3 (by omega)]; exact h3, by rw [q 37 (by omega)]; exact h4, by rw [q 37 (by omega)]; exact h5, fun k hk => ?_, fun i hi => ?_⟩
  · have hk : k < pN P := hk
    rw [q 4 (by omega), q 5 (by omega), q 6 (by omega)]
    obtain ⟨a, b, c, d⟩ := h6 k hk
    exact ⟨a, b, c, h38 k (by omega)⟩
  · rw [q 7 (by omega), q 8 (by omega), q 9 (by omega), q 10 (by omega)]; exact h7 i hi
theorem c_lone {B : Nat} {P : Pm} {rc i b : Nat} {s σ : Mm} {K : Int32 → Int32 → Mm → Option (Int32 × Mm)} {Q : Int32 × Mm → Prop} (hB : B < 900000) (hI : Ivx B P rc s σ) (hi : i < pn P) (hb : s 0 0 = nI b) (hb2 : b ≤ 20)
    (hK : ∀ τ, FrS σ τ → Ok (K (lnp P s i (b + 1)).1 (lnp P s i (b + 1)).2 τ) Q) : Ok (zfX11_lone_L26 K (nI i) NF (-1) (-1) 0 σ) Q := by
  have hn := hI.n
  have h0 : 0 < pn P := by omega
  have e27 : ∀ τ, FrS σ τ → τ 27 0 = nI b := fun τ f => by rw [(hI.fr f).2.2.2.2.1.1.1.1 0 (by omega), hb]
  refine ok_up (F := fun fu (x : Int32 × Int32 × Int32 × Mm) => zfX11_lone_L26 K (nI i) fu x.1 x.2.1 x.2.2.1 x.2.2.2) (b + 1) (fun j x => x.1 = (lnp P s i j).1 ∧ x.2.1 = (lnp P s i j).2 ∧ x.2.2.1 = nI j ∧ FrS σ x.2.2.2) ?_ ?_ 0 NF (-1, -1, 0, σ) ⟨rfl, rfl, rfl, FrS.refl⟩ (by omega) (by unfold NF; omega)
  · rintro j fu ⟨x, m, y, τ⟩ hj ⟨hx, hm, hy, hf⟩ hk
    have hx : x = (lnp P s i j).1 := hx
    have hm : m = (lnp P s i j).2 := hm
    have hy : y = nI j := hy
    subst hx hm hy
    have hf : FrS σ τ := hf
    show Ok (zfX11_lone_L26 K (nI i) (fu + 1) (lnp P s i j).1 (lnp P s i j).2 (nI j) τ) Q
    unfold zfX11_lone_L26
    rw [e27 τ hf, if_neg (by rw [n_lt (by omega) (by omega)]; omega)]
    have hIτ := hI.fr hf
    obtain ⟨h1, h2, h3, ⟨r1, r2, r3, r4, r5⟩, ⟨hS, s4⟩, h6⟩ := id hIτ
    rw [ok_bd]
    refine ok_mono (cq_begin h2 h3 r4 hS h0) (fun τ0 hτ => ?_)
    obtain ⟨b1, b2, b3, b4, b5⟩ := hτ
    obtain ⟨s1, s2, s3, t4, t5, t6⟩ := hS
    have e3 : τ0 3 0 = nI (pn P) := by rw [b5.1 3 (by omega), hf.1 3 (by omega)]; exact hn.2.1
    rw [e3, shl_n hn.1]
    refine ok_lg (fun τ1 e1 => ?_)
    rw [c_setH, bd_some, ck_t ((n_in (by omega)).mpr (by omega)), n_ix (by omega), show τ1 69 3 = nI (2 ^ pn P) - 1 by rw [e1, zst_v]]
    refine ok_lg (fun τ2 e2 => ?_)
    have q2 : ∀ c, c ≠ 69 → c ≠ 38 → τ2 c = τ0 c := fun c h1 h2 => by rw [e2, zst_n h2, zst_n h1, e1, zst_n h1]
    have A2 : AgS 69 τ2 (zst s 0 3 (hvl (pn P) i)) := hS_Ag b1 (fun k hk => by rw [e2, zst_n (by omega), zst_k hk, e1, zst_k hk]) (by rw [e2, zst_n (by omega), zst_v]; rfl) (fun c h1 h2 => q2 c (by omega) (by omega))
    have C2 : PmC (tellP P (toF i j)) τ2 := tellC b3 h2.2.2.1 (fun c hc => q2 c (by omega) (by omega)) (fun k hk => by
      have h38 : τ0 38 k = -1 := by have := (b3.2.2.2.2.2.1 k (by have := h2.2.2.1; omega)).2.2.2; rw [this]; exact h2.2.2.2 k
      rw [e2]
      unfold toF
      by_cases e : k = i
      · rw [if_pos e, e, zst_v]
      · rw [if_neg e, zst_k e, zst_n (by omega), e1, zst_n (by omega)]; exact h38)
    have R2 : RuC (tellP P (toF i j)) rc τ2 := by
      have : RuC P rc τ2 := b4.of (fun r hr => ⟨q2 _ (by omega) (by omega), q2 _ (by omega) (by omega)⟩)
      exact this
    have w := hS_wf (v := hvl (pn P) i) s3 t4 t5
    have wp : WFp (tellP P (toF i j)) := tellP_w h2.1 h2.2.2.1 (fun k hk => by
      unfold toF
      by_cases e : k = i
      · rw [if_pos e]; exact Or.inr (sm_n (by omega) (by omega))
      · rw [if_neg e]; exact Or.inl rfl)
    have ws : WFs (tellP P (toF i j)) (zst s 0 3 (hvl (pn P) i)) := w.1
    have wr' : RuS (tellP P (toF i j)) rc (zst s 0 3 (hvl (pn P) i)) := w.2.1
    rw [ok_bd, show (1 : Int32) = nI 1 from rfl]
    refine ok_mono (c_pass wp ws w.2.2 hB wr' A2 C2 R2 (show 1 ≤ 1000 by omega)) (fun φ hφ => ?_)
    obtain ⟨c1, c2, c3⟩ := hφ
    have frφ : FrS σ φ := (hf.trans b5).trans (FrS.trans ⟨fun c hc => q2 c (by omega) (by omega), fun k _ => by rw [q2 714 (by omega) (by omega)], fun k _ => by rw [q2 703 (by omega) (by omega)]⟩ c3.s)
    have esold : φ 74 i = nI ((dX (tellP P (toF i j)) 0 (zst s 0 3 (hvl (pn P) i))).1 i) := by
      rw [c1.2.2.2.1 5 i (by omega) (by omega)]
      show (if i < pN P then _ else _) = _
      rw [if_pos (by have := h2.2.2.1; omega)]; rfl
    rw [ck_t ((n_in (by omega)).mpr (by omega)), esold, n_mul]
    refine ok_lg (fun tk htk => ?_)
    have htk : tk = nI (ltk P s i j) := htk
    subst htk
    refine ok_lg (fun J hJ => ?_)
    have go : ∀ p : Int32 × Int32, lnp P s i (j + 1) = p → Ok (J p.1 p.2 φ) Q := fun p hp => by
      simp only [hJ]
      refine ok_lg (fun y2 ey => ?_)
      rw [show nI j + nI 1 = nI (j + 1) from n_add _ 1] at ey
      exact hk (p.1, p.2, y2, φ) ⟨by dsimp only; rw [hp], by dsimp only; rw [hp], ey, frφ⟩
    by_cases c : nI (ltk P s i j) ≤ (lnp P s i j).2
    · rw [if_pos c]; exact go (lnp P s i j) (by rw [lnp, if_pos c])
    · rw [if_neg c]; exact go (nI j, nI (ltk P s i j)) (by rw [lnp, if_neg c])
  · rintro fu ⟨x, m, y, τ⟩ ⟨hx, hm, hy, hf⟩
    have hx : x = (lnp P s i (b + 1)).1 := hx
    have hm : m = (lnp P s i (b + 1)).2 := hm
    have hy : y = nI (b + 1) := hy
    subst hx hm hy
    have hf : FrS σ τ := hf
    show Ok (zfX11_lone_L26 K (nI i) (fu + 1) _ _ (nI (b + 1)) τ) Q
    unfold zfX11_lone_L26
    rw [e27 τ hf, if_pos (by rw [n_lt (by omega) (by omega)]; omega)]
    exact hK τ hf
theorem Kb.v41 {P : Pm} {rc : Nat} {s σ τ : Mm} {v : Int32} (h : Kb P rc s σ τ) : Kb P rc s σ (zst τ 703 41 v) := by
  obtain ⟨k1, k2, k3, k4, k5, k6⟩ := h
  have q : ∀ c, c ≠ 703 → zst τ 703 41 v c = τ c := fun c hc => zst_n hc
  refine ⟨k1.trans ⟨fun c hc => q c (by omega), fun k _ => by rw [q 714 (by omega)], fun k hk => zst_k (by omega)⟩, fun j hj => by rw [q 715 (by omega)]; exact k2 j hj, k3.fr14 (q 714 (by omega)), ?_, by rw [zst_k (by omega)]; exact k5, k6.of (q 705 (by omega)) (fun r _ => by rw [q 706 (by omega)])⟩
  have p := k4.v (τ := zst τ 703 41 v) (v := v) (fun k hk => zst_k hk) zst_v (fun c hc => q c (by omega))
  rw [hS_hS] at p
  rw [zst_v]; exact p
theorem Kb.to {P : Pm} {rc : Nat} {s σ τ : Mm} {f g : Nat → Int32} (h : Kb (tellP P f) rc s σ τ) (e : f = g) : Kb (tellP P g) rc s σ τ := by rw [← e]; exact h
theorem Kq.tell {P : Pm} {f : Nat → Int32} (hP : IvP P) (hf : ∀ k, k < pn P → f k = -1 ∨ sm 20 (f k)) : Kq (tellP P f) := ⟨tellP_w hP.1 hP.2.2.1 hf, hP.2.1, hP.2.2.1⟩
theorem r_lone {B : Nat} {P : Pm} {rc i b : Nat} {s υ τ0 : Mm} {K : Int32 → Int32 → Mm → Option (Int32 × Mm)} {Q : Int32 × Mm → Prop} (hs : Ks P rc B s) (hkb : Kb P rc s υ τ0) (h41 : τ0 703 41 = hvl (pn P) i) (hi : i < pn P) (hb : s 0 0 = nI b) (hb2 : b ≤ 20) (h54 : υ 714 54 = nI b)
    (hK : ∀ φ, FrS υ φ → Ok (K (lnp P s i (b + 1)).1 (lnp P s i (b + 1)).2 φ) Q) : Ok (zfX12_lone_L55 K (nI i) NF (-1) 0 0 τ0) Q := by
  obtain ⟨p1, p2, p3, p4, p5, p6⟩ := id hs
  have hn5 := p1.1.1
  refine ok_up (F := fun fu (x : Int32 × Int32 × Int32 × Mm) => zfX12_lone_L55 K (nI i) fu x.1 x.2.1 x.2.2.1 x.2.2.2) (b + 1) (fun j x => x.1 = (lnp P s i j).1 ∧ ((lnp P s i j).1 ≠ -1 → x.2.1 = (lnp P s i j).2) ∧ x.2.2.1 = nI j ∧ (∃ w, Kb (tellP P (fun k => if k = i then w else -1)) rc s υ x.2.2.2) ∧ x.2.2.2 703 41 = hvl (pn P) i) ?_ ?_ 0 NF (-1, 0, 0, τ0) ⟨rfl, fun h => absurd rfl h, rfl, ⟨-1, (hkb.t0 p1).to (by funext k; split <;> rfl)⟩, h41⟩ (by omega) (by unfold NF; omega)
  · rintro j fu ⟨x, m, y, τ⟩ hj ⟨hx, hm, hy, ⟨w, hk1⟩, h41⟩ hk
    have hx : x = (lnp P s i j).1 := hx
    have hy : y = nI j := hy
    subst hx hy
    have hm : (lnp P s i j).1 ≠ -1 → m = (lnp P s i j).2 := hm
    have hk1 : Kb (tellP P (fun k => if k = i then w else -1)) rc s υ τ := hk1
    have h41 : τ 703 41 = hvl (pn P) i := h41
    show Ok (zfX12_lone_L55 K (nI i) (fu + 1) (lnp P s i j).1 m (nI j) τ) Q
    unfold zfX12_lone_L55
    have e54 : τ 715 (ix 54) = nI b := by rw [show ix 54 = 54 by decide, hk1.2.1 54 (by omega), h54]
    rw [e54, if_neg (by rw [n_lt (by omega) (by omega)]; omega), ck_t ((n_in (by omega)).mpr (by omega)), n_ix (by omega)]
    refine ok_lg (fun τ1 e1 => ?_)
    have hk2 : Kb (tellP P (toF i j)) rc s υ τ1 := by
      rw [e1]
      refine (hk1.tell (i := i) (x := nI j)).to ?_
      funext k
      unfold toF
      by_cases e : k = i
      · rw [if_pos e, if_pos e]
      · rw [if_neg e, if_neg e, if_neg e]
    have wq : Kq (tellP P (toF i j)) := Kq.tell p1 (fun k hk => by
      unfold toF
      by_cases e : k = i
      · rw [if_pos e]; exact Or.inr (sm_n (by omega) (by omega))
      · rw [if_neg e]; exact Or.inl rfl)
    rw [ok_bd2]
    refine ok_mono (r_takenBy (B := B) (v := hvl (pn P) i) hk2 wq p2 p3 p5 (by rw [e1, zst_n (by omega)]; exact h41) (hvl_no hi hn5) hi) (fun r hr => ?_)
    obtain ⟨t1, t2, t3, t4, t5⟩ := hr
    have et : tkn (tellP P (toF i j)) s (hvl (pn P) i) i = nI (ltk P s i j) := by
      have hto : pto (tellP P (toF i j)) i = nI j := by
        show toF i j i = nI j
        unfold toF; rw [if_pos rfl]
      unfold tkn ltk
      rw [dA_to (by rw [hto]; exact n_ne1 (by omega)), hto, n_mul]
    rw [et] at t1
    refine ok_lg (fun J hJ => ?_)
    have go : ∀ p q : Int32, (lnp P s i (j + 1)).1 = p → q = (lnp P s i (j + 1)).2 → Ok (J p q r.2) Q := fun p q h1 h2 => by
      simp only [hJ]
      refine ok_lg (fun y2 ey => ?_)
      rw [show nI j + 1 = nI (j + 1) from n_add _ 1] at ey
      exact hk (p, q, y2, r.2) ⟨h1.symm, fun _ => h2, ey, ⟨nI j, t2⟩, t3⟩
    have step : lnp P s i (j + 1) = if nI (ltk P s i j) ≤ (lnp P s i j).2 then lnp P s i j else (nI j, nI (ltk P s i j)) := rfl
    refine ok_lg (fun J2 hJ2 => ?_)
    have up : ¬ nI (ltk P s i j) ≤ (lnp P s i j).2 → Ok (J2 r.2) Q := fun h => by
      simp only [hJ2]
      exact go _ _ (by rw [step, if_neg h]) (by rw [step, if_neg h]; exact t1)
    by_cases c1 : (lnp P s i j).1 = -1
    · rw [if_pos c1]
      refine up (fun h => ?_)
      cases j with
      | zero =>
        have h : nI (ltk P s i 0) ≤ (-1 : Int32) := h
        have := ltk_le (i := i) (j := 0) p2 (by omega)
        rw [Int32.le_iff_toInt_le, n_ti (by omega)] at h
        have e : (-1 : Int32).toInt = -1 := by decide
        omega
      | succ j => exact lnp_1 p2 j (by omega) c1
    · rw [if_neg c1]
      have hm2 := hm c1
      subst hm2
      rw [t1]
      by_cases c2 : (lnp P s i j).2 < nI (ltk P s i j)
      · rw [if_pos c2]
        refine up (fun h => ?_)
        rw [Int32.lt_iff_toInt_lt] at c2; rw [Int32.le_iff_toInt_le] at h; omega
      · rw [if_neg c2]
        have c3 : nI (ltk P s i j) ≤ (lnp P s i j).2 := by rw [Int32.lt_iff_toInt_lt] at c2; rw [Int32.le_iff_toInt_le]; omega
        exact go _ _ (by rw [step, if_pos c3]) (by rw [step, if_pos c3])
  · rintro fu ⟨x, m, y, τ⟩ ⟨hx, hm, hy, ⟨w, hk1⟩, h41⟩
    have hx : x = (lnp P s i (b + 1)).1 := hx
    have hy : y = nI (b + 1) := hy
    subst hx hy
    have hm : (lnp P s i (b + 1)).1 ≠ -1 → m = (lnp P s i (b + 1)).2 := hm
    have hk1 : Kb (tellP P (fun k => if k = i then w else -1)) rc s υ τ := hk1
    show Ok (zfX12_lone_L55 K (nI i) (fu + 1) _ m (nI (b + 1)) τ) Q
    unfold zfX12_lone_L55
    have e54 : τ 715 (ix 54) = nI b := by rw [show ix 54 = 54 by decide, hk1.2.1 54 (by omega), h54]
    rw [e54, if_pos (by rw [n_lt (by omega) (by omega)]; omega), hm (lnp_1 p2 b (by omega))]
    exact hK τ hk1.1
theorem FrS.pl {υ φ ψ : Mm} (h : FrS υ φ) (p4 : ∀ k, k ≠ 41 → k ≠ 42 → k ≠ 43 → ψ 703 k = φ 703 k) (p7 : ∀ c, c ≠ 703 → c ≠ 717 → ψ c = φ c) : FrS υ ψ :=
  h.trans ⟨fun c hc => p7 c (by omega) (by omega), fun k _ => by rw [p7 714 (by omega) (by omega)], fun k hk => p4 k (by omega) (by omega) (by omega)⟩
theorem q_lone {B : Nat} (hB : B < 900000) (x y : Int32) : Qy B (zfX11_lone x y) (zfX12_lone x y) := by
  refine q_gen (-1) (fun P => (∃ i, i < pn P ∧ x = nI i) ∧ Rok 0 1 y) (fun P rc s σ hI hA => lone_F hI hA) (fun P rc s σ hI hA => lone_G hI hA) (fun P rc s σ hI hA => ?_)
  obtain ⟨hA1, hz⟩ := hA
  obtain ⟨i, i1, i2⟩ := id hA1
  have hn := hI.n
  have h0 : 0 < pn P := by omega
  have hst := hI.st
  have hs := hI.ks hB
  have hb := hst.2.1.1
  unfold zfX11_lone
  refine ok_lg (fun J _ => ?_)
  rw [if_neg (fun c => (g_sel hI).1.mp c hA1), if_pos (g_what1.mpr hz)]
  subst i2
  refine ok_lg (fun K hK => ?_)
  refine c_lone hB hI i1 hb.1 hb.2 (fun τ fr => ?_)
  simp only [hK]
  have yes : ∀ v : Int32, v = (if y = 0 then (lnp P s i (ix (s 0 0) + 1)).1 else (lnp P s i (ix (s 0 0) + 1)).2) → ∀ υ, Ivx B P rc s υ → υ = zst τ 703 0 0 → Ok (zfX12_lone (nI i) y τ) (fun b => b.1 = v ∧ FrS υ b.2) := fun v hv' υ hυ e => by
    unfold zfX12_lone
    refine ok_lg (fun υ' e' => ?_)
    have : υ' = υ := e'.trans e.symm
    subst this
    refine ok_lg (fun J2 _ => ?_)
    rw [if_neg (fun c => (g_sel hυ).2.mp c ⟨i, i1, rfl⟩), if_neg (fun c => g_in1.mp c hz)]
    have hRR : RRs P υ' s := by have := hυ.2.2.2.2.1.1.2.1; rw [wr_self] at this; exact this
    refine rq_keptb hB hυ h0 (fun τ1 k1 k2 k3 => ?_)
    rw [k1.2.2.2.1.1, shl_n hn.1]
    refine ok_lg (fun τ2 e2 => ?_)
    have e2' : τ2 = zst τ1 703 41 (hvl (pn P) i) := e2
    refine ok_lg (fun K2 hK2 => ?_)
    refine r_lone (B := B) hs (by rw [e2']; exact k1.v41) (by rw [e2', zst_v]) i1 hb.1 hb.2 (by rw [hRR.2.1]; exact hb.1) (fun φ hφ => ?_)
    simp only [hK2]
    rw [ok_bd]
    refine ok_mono r_plainly (fun ψ hψ => ?_)
    obtain ⟨p1, p2, p3, p4, p5, p6, p7⟩ := hψ
    have fr2 := hφ.pl p4 p7
    rw [hv']
    by_cases c : y = 0
    · rw [if_pos c, if_pos c, ok_s]; exact ⟨rfl, fr2⟩
    · rw [if_neg c, if_neg c, ok_s]; exact ⟨rfl, fr2⟩
  by_cases c : y = 0
  · rw [if_pos c, ok_s]
    exact ⟨fr, yes _ (by rw [if_pos c])⟩
  · rw [if_neg c, ok_s]
    exact ⟨fr, yes _ (by rw [if_neg c])⟩
