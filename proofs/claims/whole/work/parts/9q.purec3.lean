/-! ===== inTurn ===== -/
theorem inTurn_F {B : Nat} {x y : Int32} {P : Pm} {rc : Nat} {s σ : Mm} (hI : Ivx B P rc s σ) (hA : ¬ ((0 < pn P ∧ Rok 1 30 x) ∧ Rok 0 2 y)) : zfX11_inTurn x y σ = some (-1000000, σ) := by
  unfold zfX11_inTurn
  refine lt_i (fun J hJ => ?_)
  have fin : J σ = some (-1000000, σ) := by rw [hJ]
  by_cases c0 : zfX11_noDays x σ = 0
  case neg => rw [if_neg c0]; exact fin
  case pos =>
  rw [if_pos c0]
  by_cases c1 : zfX11_noWhat y 2 = 0
  case neg => rw [if_neg c1]; exact fin
  case pos =>
  rw [if_pos c1]
  exact absurd ⟨((g_days hI).1.mp c0), (g_what2.mp c1)⟩ hA
theorem inTurn_G {B : Nat} {x y : Int32} {P : Pm} {rc : Nat} {s σ : Mm} (hI : Ivx B P rc s (zst σ 703 0 0)) (hA : ¬ ((0 < pn P ∧ Rok 1 30 x) ∧ Rok 0 2 y)) : zfX12_inTurn x y σ = some (-1000000, zst σ 703 0 0) := by
  unfold zfX12_inTurn
  refine lt_i (fun υ hυe => ?_)
  refine lt_i (fun J hJ => ?_)
  rw [← hυe] at hI ⊢
  have hυ := hI
  have fin : J υ = some (-1000000, υ) := by rw [hJ]
  by_cases c0 : zfX12_isReady x υ = 0
  case pos => rw [if_pos c0]; exact fin
  case neg =>
  rw [if_neg c0]
  by_cases c1 : zfX12_isIn y.toInt64 0 2 = 0
  case pos => rw [if_pos c1]; exact fin
  case neg =>
  rw [if_neg c1]
  exact absurd ⟨(Classical.byContradiction (fun h9 => c0 ((g_days hυ).2.mpr h9))), (Classical.byContradiction (fun h9 => c1 (g_in2.mpr h9)))⟩ hA
theorem n_div {a b : Nat} (ha : a < 2147483648) (hb : b < 2147483648) : nI a / nI b = nI (a / b) := by
  have h1 : a / b ≤ a := Nat.div_le_self a b
  have e : ((2 ^ 32 : Nat) : Int) = 4294967296 := rfl
  rw [← Int32.toInt_inj, Int32.toInt_div, n_ti ha, n_ti hb, n_ti (by omega), ← Int.ofNat_tdiv]
  generalize a / b = q at h1 ⊢
  exact Int.bmod_eq_of_le (by omega) (by omega)
theorem n_mod {a b : Nat} (ha : a < 2147483648) (hb : b < 2147483648) : nI a - nI a / nI b * nI b = nI (a % b) := by
  have h1 : a / b * b ≤ a := Nat.div_mul_le_self a b
  rw [n_div ha hb, n_mul, n_sub h1]
  congr 1
  have := Nat.div_add_mod a b
  rw [Nat.mul_comm] at this
  omega
theorem mod_up {j n : Nat} (h0 : 0 < n) (hn : n ≤ 5) : (j + 1) % n = if n ≤ j % n + 1 then 0 else j % n + 1 := by
  have : n = 1 ∨ n = 2 ∨ n = 3 ∨ n = 4 ∨ n = 5 := by omega
  rcases this with rfl | rfl | rfl | rfl | rfl <;> split <;> omega
/-- days with one holder in turn -/
noncomputable def trn (P : Pm) (s : Mm) : Nat → Mm
  | 0 => s
  | j + 1 => dayS P 0 (zst (trn P s j) 0 3 (nI (2 ^ (j % pn P))))
theorem trn_wf {P : Pm} {s : Mm} {rc B : Nat} (hP : WFp P) (hs : WFs P s) (hR : RuS P rc s) (hB : sm B (s 0 1)) (hB2 : B < 800000) : ∀ j, j ≤ 1000 → WFs P (trn P s j) ∧ RuS P rc (trn P s j) ∧ sm (B + j) (trn P s j 0 1) ∧ trn P s j 6 = s 6 := by
  intro j
  induction j with
  | zero => intro _; exact ⟨hs, hR, hB, rfl⟩
  | succ j ih =>
    intro hj
    obtain ⟨i1, i2, i3, i4⟩ := ih (by omega)
    have w := hS_wf (v := nI (2 ^ (j % pn P))) i1 i2 i3
    have := dayS_wf (f := 0) hP w.1 w.2.2 (by omega)
    exact ⟨this.1, w.2.1.day, this.2, by show dayS P 0 _ 6 = _; rw [dayS_6, hS_r (by omega), i4]⟩
theorem pow_lt {j n : Nat} (h0 : 0 < n) : 2 ^ (j % n) < 2 ^ n := Nat.pow_lt_pow_right (by omega) (Nat.mod_lt j h0)
theorem c_turn_ {B : Nat} {P : Pm} {rc d : Nat} {s σ τ0 : Mm} {K : Mm → Option (Int32 × Mm)} {Q : Int32 × Mm → Prop} (hB : B < 800000) (hI : Ivx B P rc s σ) (h0 : 0 < pn P) (hd : d ≤ 30) (hA : AgS 69 τ0 s) (hC : PmC P τ0) (hRc : RuC P rc τ0)
    (hK : ∀ τ, AgS 69 τ (trn P s d) → FrC τ0 τ → Ok (K τ) Q) : Ok (zfX11_inTurn_L31 (nI d) K NF 0 0 τ0) Q := by
  obtain ⟨h1, h2, h3, h4, ⟨⟨s1, s2, s3, t4, t5, t6⟩, s4⟩, h6⟩ := hI
  have hn5 := h2.1.1
  refine ok_up (F := fun fu (x : Int32 × Int32 × Mm) => zfX11_inTurn_L31 (nI d) K fu x.1 x.2.1 x.2.2) d (fun j x => x.1 = nI (j % pn P) ∧ x.2.1 = nI j ∧ AgS 69 x.2.2 (trn P s j) ∧ FrC τ0 x.2.2) ?_ ?_ 0 NF (0, 0, τ0) ⟨by rw [Nat.zero_mod]; rfl, rfl, hA, FrC.refl⟩ (by omega) (by unfold NF; omega)
  · rintro j fu ⟨a, y, τ⟩ hj ⟨ha, hy, g1, g2⟩ hk
    have ha : a = nI (j % pn P) := ha
    have hy : y = nI j := hy
    subst ha hy
    have g1 : AgS 69 τ (trn P s j) := g1
    have g2 : FrC τ0 τ := g2
    have hlt : j % pn P < pn P := Nat.mod_lt j h0
    obtain ⟨w1, w2, w3, w4⟩ := trn_wf h2.1 s3 t4 t5 hB j (by omega)
    have w := hS_wf (v := nI (2 ^ (j % pn P))) w1 w2 w3
    show Ok (zfX11_inTurn_L31 (nI d) K (fu + 1) (nI (j % pn P)) (nI j) τ) Q
    unfold zfX11_inTurn_L31
    rw [if_neg (by rw [n_le (by omega) (by omega)]; omega), shl_n (by omega)]
    refine ok_lg (fun τ1 e1 => ?_)
    have q1 : ∀ c, c ≠ 69 → τ1 c = τ c := fun c hc => by rw [e1, zst_n hc]
    have f1 : FrC τ τ1 := ⟨fun k _ _ => by rw [q1 37 (by omega)], fun c hc _ _ => q1 c (by omega)⟩
    rw [ok_bd]
    refine ok_mono (c_step h2.1 w.1 w.2.1 (hS_Ag g1 (fun k hk => by rw [e1, zst_k hk]) (by rw [e1, zst_v]) (fun c h1 h2 => q1 c (by omega))) (hC.fr (g2.trans f1)) (hRc.fr t4.1 (g2.trans f1))) (fun φ hφ => ?_)
    obtain ⟨b1, b2, b3, b4⟩ := hφ
    have f2 : FrC τ0 φ := (g2.trans f1).trans b3
    refine ok_lg (fun J hJ => ?_)
    have go : ∀ w : Int32, w = nI ((j + 1) % pn P) → Ok (J w φ) Q := fun w hw => by
      simp only [hJ]
      refine ok_lg (fun y2 ey => ?_)
      rw [show nI j + 1 = nI (j + 1) from n_add _ 1] at ey
      exact hk (w, y2, φ) ⟨hw, ey, b1, f2⟩
    have e3 : φ 3 0 = nI (pn P) := by rw [f2.2 3 (by omega) (by omega) (stk_n (by omega))]; exact hC.1
    rw [e3, show nI (j % pn P) + 1 = nI (j % pn P + 1) from n_add _ 1]
    by_cases c : pn P ≤ j % pn P + 1
    · rw [if_pos ((n_le (by omega) (by omega)).mpr c)]; exact go 0 (by rw [mod_up h0 hn5, if_pos c]; rfl)
    · rw [if_neg (fun h => c ((n_le (by omega) (by omega)).mp h))]; exact go _ (by rw [mod_up h0 hn5, if_neg c])
  · rintro fu ⟨a, y, τ⟩ ⟨ha, hy, g1, g2⟩
    have hy : y = nI d := hy
    subst hy
    show Ok (zfX11_inTurn_L31 (nI d) K (fu + 1) a (nI d) τ) Q
    unfold zfX11_inTurn_L31
    rw [if_pos (Int32.le_refl _)]
    exact hK τ g1 g2
/-- one day more of the reference, with the holders v, from any state -/
theorem Kb.go {P : Pm} {rc B : Nat} {s σ τ0 τ1 t : Mm} {v : Int32} (h : Kb P rc s σ τ0) (hP : IvP P) (ht : WFs P t) (hB : sm B (t 0 1)) (hB2 : B < 900000) (hR : RuS P rc t) (e6 : t 6 = s 6) (hv : ∀ k, pn P ≤ k → k < 6 → ¬ hob v k) (f : FrT (zst τ0 703 41 v) τ1) (hA : RRs P τ1 t) :
    Ok (zfX12_goes 0 τ1) (fun φ => RRs P φ (dayS P 0 (zst t 0 3 v)) ∧ FrT (zst τ0 703 41 v) φ ∧ (∀ k, k < pn P → φ 718 k = dA P 0 (zst t 0 3 v) k ∧ φ 719 k = nI ((dX P 0 (zst t 0 3 v)).1 k) * dA P 0 (zst t 0 3 v) k ∧ φ 720 k = nI (dG P (zst t 0 3 v) k)) ∧ φ 703 46 = (if (dU P 0 (zst t 0 3 v)).1 = 0 then 1 else 0)) := by
  obtain ⟨k1, k2, k3, k4, k5, k6⟩ := h
  have w := hS_wf (v := v) ht hR hB
  have q : ∀ c, c ≠ 703 → zst τ0 703 41 v c = τ0 c := fun c hc => zst_n hc
  have p := k4.v (τ := zst τ0 703 41 v) (v := v) (fun k hk => zst_k hk) zst_v (fun c hc => q c (by omega))
  rw [hS_hS] at p
  have kp : Kp P rc B (zst t 0 3 v) τ1 := ⟨hP, w.1, w.2.2, hB2, w.2.1, by rw [zst_v]; exact hv, p.fr f (by rw [zst_v, zst_v]) (by rw [hS_r (by omega), hS_r (by omega), e6]), by rw [f.1 43 (by omega), zst_k (by omega)]; exact k5, (RuR.of (τ := zst τ0 703 41 v) k6 (q 705 (by omega)) (fun r _ => by rw [q 706 (by omega)])).fr f⟩
  refine ok_mono (r_goesj (j := 0) kp FrT.refl (hS_RR hA) (by omega)) (fun φ hφ => ?_)
  obtain ⟨g1, g2, g3, g4⟩ := hφ
  exact ⟨g1, f.trans g2, g3, g4⟩
theorem FrT.v {τ0 τ : Mm} {v w : Int32} (f : FrT (zst τ0 703 41 w) τ) : FrT (zst τ0 703 41 v) (zst τ 703 41 v) := by
  refine ⟨fun x hx => ?_, fun c a1 a2 a3 a4 a5 a6 a7 a8 a9 a10 a11 a12 => ?_⟩
  · by_cases e : x = 41
    · rw [e, zst_v, zst_v]
    · rw [zst_k e, zst_k e, f.1 x hx, zst_k e]
  · rw [zst_n a1, f.2 c a1 a2 a3 a4 a5 a6 a7 a8 a9 a10 a11 a12, zst_n a1, zst_n a1]
theorem FrT.v0 {τ0 : Mm} : FrT (zst τ0 703 41 (τ0 703 41)) τ0 := by rw [zst_self rfl]; exact FrT.refl
theorem r_turn_ {B : Nat} {P : Pm} {rc d : Nat} {s υ τ0 : Mm} {K : Mm → Option (Int32 × Mm)} {Q : Int32 × Mm → Prop} (hB : B < 800000) (hs : Ks P rc B s) (h0 : 0 < pn P) (hkb : Kb P rc s υ τ0) (hd : d ≤ 30)
    (hK : ∀ v φ, FrT (zst τ0 703 41 v) φ → RRs P φ (trn P s d) → Ok (K φ) Q) : Ok (zfX12_inTurn_L35 (nI d) K NF 0 τ0) Q := by
  obtain ⟨p1, p2, p3, p4, p5, p6⟩ := id hs
  have hn5 := p1.1.1
  refine ok_up (F := fun fu (x : Int32 × Mm) => zfX12_inTurn_L35 (nI d) K fu x.1 x.2) d (fun j x => x.1 = nI j ∧ (∃ v, FrT (zst τ0 703 41 v) x.2) ∧ RRs P x.2 (trn P s j)) ?_ ?_ 0 NF (0, τ0) ⟨rfl, ⟨_, FrT.v0⟩, hkb.2.2.1⟩ (by omega) (by unfold NF; omega)
  · rintro j fu ⟨y, τ⟩ hj ⟨hy, ⟨w, g1⟩, g2⟩ hk
    have hy : y = nI j := hy
    subst hy
    have g1 : FrT (zst τ0 703 41 w) τ := g1
    have g2 : RRs P τ (trn P s j) := g2
    obtain ⟨w1, w2, w3, w4⟩ := trn_wf p1.1 p2 p5 p3 hB j (by omega)
    show Ok (zfX12_inTurn_L35 (nI d) K (fu + 1) (nI j) τ) Q
    unfold zfX12_inTurn_L35
    have e24 : τ 703 24 = nI (pn P) := by rw [g1.1 24 (by omega), zst_k (by omega)]; exact hkb.2.2.2.1.1
    have hlt : j % pn P < pn P := Nat.mod_lt j h0
    rw [if_neg (by rw [n_le (by omega) (by omega)]; omega), e24, ck_t (show ¬ nI (pn P) = 0 by rw [show (0 : Int32) = nI 0 from rfl, n_eq (by omega) (by omega)]; omega), n_mod (by omega) (by omega), shl_n (by omega)]
    refine ok_lg (fun τ1 e1 => ?_)
    rw [ok_bd, e1]
    refine ok_mono (hkb.go (v := nI (2 ^ (j % pn P))) p1 w1 w3 (by omega) w2 w4 (set_no (pow_lt h0)) g1.v (g2.fr14 (zst_n (by omega)))) (fun φ hφ => ?_)
    obtain ⟨b1, b2, b3, b4⟩ := hφ
    refine ok_lg (fun y2 ey => ?_)
    rw [show nI j + 1 = nI (j + 1) from n_add _ 1] at ey
    exact hk (y2, φ) ⟨ey, ⟨_, b2⟩, b1⟩
  · rintro fu ⟨y, τ⟩ ⟨hy, ⟨w, g1⟩, g2⟩
    have hy : y = nI d := hy
    subst hy
    show Ok (zfX12_inTurn_L35 (nI d) K (fu + 1) (nI d) τ) Q
    unfold zfX12_inTurn_L35
    rw [if_pos (Int32.le_refl _)]
    exact hK w τ g1 g2
/-- the least gainer, of several the lowest -/
noncomputable def lgn (g : Nat → Int32) : Nat → Nat
  | 0 => 0
  | k + 1 => if g (lgn g k) ≤ g k then lgn g k else k
theorem lgn_le {g : Nat → Int32} : ∀ k, lgn g k ≤ k := by
  intro k
  induction k with
  | zero => exact Nat.le_refl _
  | succ k ih => unfold lgn; split <;> omega
theorem lgn_lt {g : Nat → Int32} {k : Nat} (h : 0 < k) : lgn g k < k := by
  cases k with
  | zero => omega
  | succ k =>
    unfold lgn
    have := lgn_le (g := g) k
    split <;> omega
theorem lgn_1 {g : Nat → Int32} : lgn g 1 = 0 := by
  have := lgn_lt (g := g) (k := 1) (by omega)
  omega
theorem c_least {n : Nat} {τ : Mm} {g : Nat → Int32} (h0 : 0 < n) (hn : n ≤ 5) (h3 : τ 3 0 = nI n) (hg : ∀ k, k < n → zfX10_gainOf (nI k) τ = some (g k)) : Ok (zfX10_leastGainer τ) (fun r => r = nI (lgn g n)) := by
  unfold zfX10_leastGainer
  refine ok_lg (fun K hK => ?_)
  refine ok_up (F := fun fu (x : Int32 × Int32) => zfX10_leastGainer_L4 τ K fu x.1 x.2) n (fun j x => x.1 = nI (lgn g j) ∧ x.2 = nI j ∧ 0 < j) ?_ ?_ 1 NF (0, 1) ⟨by rw [lgn_1]; rfl, rfl, by omega⟩ (by omega) (by unfold NF; omega)
  · rintro j fu ⟨a, y⟩ hj ⟨ha, hy, hj0⟩ hk
    have ha : a = nI (lgn g j) := ha
    have hy : y = nI j := hy
    subst ha hy
    show Ok (zfX10_leastGainer_L4 τ K (fu + 1) (nI (lgn g j)) (nI j)) _
    unfold zfX10_leastGainer_L4
    have hl := lgn_lt (g := g) hj0
    rw [if_neg (by rw [h3, n_le (by omega) (by omega)]; omega), hg j hj, bd_some, hg _ (by omega), bd_some]
    refine ok_lg (fun J hJ => ?_)
    have go : ∀ w : Nat, lgn g (j + 1) = w → Ok (J (nI w)) (fun r => r = nI (lgn g n)) := fun w hw => by
      simp only [hJ]
      refine ok_lg (fun y2 ey => ?_)
      rw [show nI j + 1 = nI (j + 1) from n_add _ 1] at ey
      exact hk (nI w, y2) ⟨by dsimp only; rw [hw], ey, by omega⟩
    by_cases c : g (lgn g j) ≤ g j
    · rw [if_pos c]; exact go _ (by rw [lgn, if_pos c])
    · rw [if_neg c]; exact go _ (by rw [lgn, if_neg c])
  · rintro fu ⟨a, y⟩ ⟨ha, hy, _⟩
    have ha : a = nI (lgn g n) := ha
    have hy : y = nI n := hy
    subst ha hy
    show Ok (zfX10_leastGainer_L4 τ K (fu + 1) (nI (lgn g n)) (nI n)) _
    unfold zfX10_leastGainer_L4
    rw [if_pos (by rw [h3]; exact Int32.le_refl _), hK, ok_s]
theorem r_turn80 {s t φ : Mm} {n : Nat} {K : Int32 → Int32 → Mm → Option (Int32 × Mm)} {Q : Int32 × Mm → Prop} (hn : n ≤ 5) (h24 : φ 703 24 = nI n) (h14 : ∀ k, k < n → φ 714 (12 + k) = t 3 k) (h15 : ∀ k, k < n → φ 715 (12 + k) = s 3 k)
    (hK : Ok (K (cw (fun k => t 3 k - s 3 k) n) (nI (lgn (fun k => t 3 k - s 3 k) n)) φ) Q) : Ok (zfX12_inTurn_L80 K NF 0 0 0 φ) Q := by
  refine ok_up (F := fun fu (x : Int32 × Int32 × Int32) => zfX12_inTurn_L80 K fu x.1 x.2.1 x.2.2 φ) n (fun j x => x.1 = cw (fun k => t 3 k - s 3 k) j ∧ x.2.1 = nI (lgn (fun k => t 3 k - s 3 k) j) ∧ x.2.2 = nI j) ?_ ?_ 0 NF (0, 0, 0) ⟨rfl, rfl, rfl⟩ (by omega) (by unfold NF; omega)
  · rintro j fu ⟨a, b, y⟩ hj ⟨ha, hb, hy⟩ hk
    have hb : b = nI (lgn (fun k => t 3 k - s 3 k) j) := hb
    have hy : y = nI j := hy
    subst hb hy
    have ha : a = cw (fun k => t 3 k - s 3 k) j := ha
    show Ok (zfX12_inTurn_L80 K (fu + 1) a (nI (lgn (fun k => t 3 k - s 3 k) j)) (nI j) φ) Q
    unfold zfX12_inTurn_L80
    have hl := lgn_le (g := fun k => t 3 k - s 3 k) j
    generalize hL : lgn (fun k => t 3 k - s 3 k) j = L at hl ⊢
    have hLn : L < n := by omega
    have hin : inb (nI (12 + j)) 57 := (n_in (by omega)).mpr (by omega)
    have hin2 : inb (nI (12 + L)) 57 := (n_in (by omega)).mpr (by omega)
    rw [if_neg (by rw [h24, n_le (by omega) (by omega)]; omega), show (12 : Int32) + nI j = nI (12 + j) from n_add 12 j, show (12 : Int32) + nI L = nI (12 + L) from n_add 12 L, ck_t hin, ck_t hin, n_ix (by omega), h14 j hj, h15 j hj]
    refine ok_lg (fun a2 ea => ?_)
    rw [ck_t hin, ck_t hin, ck_t hin2, ck_t hin2, n_ix (by omega), h14 L hLn, h15 L hLn]
    refine ok_lg (fun J hJ => ?_)
    have go : ∀ w : Nat, lgn (fun k => t 3 k - s 3 k) (j + 1) = w → Ok (J (nI w) φ) Q := fun w hw => by
      simp only [hJ]
      refine ok_lg (fun y2 ey => ?_)
      rw [show nI j + 1 = nI (j + 1) from n_add _ 1] at ey
      exact hk (a2, nI w, y2) ⟨by dsimp only; rw [ea, ha]; rfl, by dsimp only; rw [hw], ey⟩
    by_cases c : t 3 L - s 3 L ≤ t 3 j - s 3 j
    · rw [if_pos c]; exact go L (by rw [lgn, hL, if_pos c])
    · rw [if_neg c]; exact go j (by rw [lgn, hL, if_neg c])
  · rintro fu ⟨a, b, y⟩ ⟨ha, hb, hy⟩
    have hb : b = nI (lgn (fun k => t 3 k - s 3 k) n) := hb
    have hy : y = nI n := hy
    subst hb hy
    have ha : a = cw (fun k => t 3 k - s 3 k) n := ha
    show Ok (zfX12_inTurn_L80 K (fu + 1) a _ (nI n) φ) Q
    unfold zfX12_inTurn_L80
    rw [if_pos (by rw [h24]; exact Int32.le_refl _), ha]
    exact hK
theorem q_inTurn {B : Nat} (hB : B < 800000) (x z : Int32) : Qy B (zfX11_inTurn x z) (zfX12_inTurn x z) := by
  refine q_gen (-1000000) (fun P => (0 < pn P ∧ Rok 1 30 x) ∧ Rok 0 2 z) (fun P rc s σ hI hA => inTurn_F hI hA) (fun P rc s σ hI hA => inTurn_G hI hA) (fun P rc s σ hI hA => ?_)
  obtain ⟨hA1, hz⟩ := hA
  obtain ⟨h0, d, d1, d2, d3⟩ := id hA1
  have hn := hI.n
  have hm6 := hI.2.1.1.2.1
  have hs := hI.ks (show B < 900000 by omega)
  unfold zfX11_inTurn
  refine ok_lg (fun J _ => ?_)
  rw [if_pos ((g_days hI).1.mpr hA1), if_pos (g_what2.mpr hz)]
  subst d3
  obtain ⟨h1, h2, h3, ⟨r1, r2, r3, r4, r5⟩, ⟨hS, s4⟩, h6⟩ := id hI
  rw [ok_bd]
  refine ok_mono (cq_begin h2 h3 r4 hS h0) (fun τ0 hτ => ?_)
  obtain ⟨b1, b2, b3, b4, b5⟩ := hτ
  obtain ⟨s1, s2, s3, t4, t5, t6⟩ := hS
  refine ok_lg (fun K hK => ?_)
  refine c_turn_ hB hI h0 d2 b1 b3 b4 (fun υ c1 c2 => ?_)
  simp only [hK]
  have fr : FrS σ υ := b5.trans c2.s
  have hgv : ∀ i, i < 6 → υ 72 i - υ 30 i = trn P s d 3 i - s 3 i := fun i hi => by
    rw [c1.2.2.2.1 3 i (by omega) hi, fr.1 30 (Or.inr (Or.inl ⟨by omega, by omega, stk_n (by omega)⟩)), s1.2.2.2.1 3 i (by omega) hi]
  have e3 : υ 3 0 = nI (pn P) := by rw [fr.1 3 (by omega)]; exact hn.2.1
  have yes : ∀ v : Int32, (z = 0 → v = trn P s d 0 0) → (z = 1 → v = cw (fun k => trn P s d 3 k - s 3 k) (pn P)) → (z = 2 → v = nI (lgn (fun k => trn P s d 3 k - s 3 k) (pn P))) → ∀ υ2, Ivx B P rc s υ2 → υ2 = zst υ 703 0 0 → Ok (zfX12_inTurn (nI d) z υ) (fun b => b.1 = v ∧ FrS υ2 b.2) := fun v v0 v1 v2 υ2 hυ e => by
    unfold zfX12_inTurn
    refine ok_lg (fun υ' e' => ?_)
    have : υ' = υ2 := e'.trans e.symm
    subst this
    refine ok_lg (fun J2 _ => ?_)
    rw [if_neg (fun c => (g_days hυ).2.mp c hA1), if_neg (fun c => g_in2.mp c hz)]
    have hRR : RRs P υ' s := by have := hυ.2.2.2.2.1.1.2.1; rw [wr_self] at this; exact this
    refine rq_keptb (show B < 900000 by omega) hυ h0 (fun τ1 k1 k2 k3 => ?_)
    refine ok_lg (fun K2 hK2 => ?_)
    refine r_turn_ hB hs h0 k1 d2 (fun w φ f1 f2 => ?_)
    simp only [hK2]
    refine ok_lg (fun bd0 hbd => ?_)
    rw [show ix 54 = 54 by decide, f2.2.1] at hbd
    refine ok_lg (fun K3 hK3 => ?_)
    refine r_turn80 (s := s) (t := trn P s d) hn.1 (by rw [f1.1 24 (by omega), zst_k (by omega)]; exact k1.2.2.2.1.1) (fun k hk => (f2.1 k hk).2.2.1) (fun k hk => by rw [f1.c (by omega), zst_n (by omega), k1.2.1 _ (by omega)]; exact (hRR.1 k hk).2.2.1) ?_
    simp only [hK3]
    rw [ok_bd]
    refine ok_mono (k1.back hn.1 hm6 f1) (fun ψ hψ => ?_)
    rcases rok2 hz with c | c | c
    · rw [if_pos c, ok_s]; exact ⟨by rw [v0 c, hbd], hψ.1.1⟩
    · rw [if_neg (by rw [c]; decide), if_pos c, ok_s]; exact ⟨(v1 c).symm, hψ.1.1⟩
    · rw [if_neg (by rw [c]; decide), if_neg (by rw [c]; decide), ok_s]; exact ⟨(v2 c).symm, hψ.1.1⟩
  rcases rok2 hz with c | c | c
  · rw [if_pos c, ok_s]
    exact ⟨fr, yes _ (fun _ => c1.1 0 (by omega)) (fun h => by rw [c] at h; exact absurd h (by decide)) (fun h => by rw [c] at h; exact absurd h (by decide))⟩
  · rw [if_neg (by rw [c]; decide), if_pos c, ok_bd]
    refine ok_mono (c_gains hn.1 e3) (fun r hr => ?_)
    rw [ok_s]
    refine ⟨fr, yes r (fun h => by rw [c] at h; exact absurd h (by decide)) (fun _ => ?_) (fun h => by rw [c] at h; exact absurd h (by decide))⟩
    rw [hr]
    exact cw_cg (fun k hk => hgv k (by omega))
  · rw [if_neg (by rw [c]; decide), if_neg (by rw [c]; decide), ok_bd]
    refine ok_mono (c_least (g := fun k => trn P s d 3 k - s 3 k) h0 hn.1 e3 (fun k hk => by rw [c_gain (by omega), hgv k (by omega)])) (fun r hr => ?_)
    rw [ok_s]
    exact ⟨fr, yes r (fun h => by rw [c] at h; exact absurd h (by decide)) (fun h => by rw [c] at h; exact absurd h (by decide)) (fun _ => hr)⟩
