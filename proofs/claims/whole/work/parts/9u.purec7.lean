/-! ===== stranger ===== -/
theorem g_pr {a b : Nat} {x : Int32} (ha : a < 1000000) (hb : b < 1000000) (h1 : ¬ x < nI a) (h2 : ¬ nI b < x) : Rok a b x := (g_rng ha hb).mp ⟨h1, h2⟩
theorem stranger_F {B : Nat} {x y z : Int32} {P : Pm} {rc : Nat} {s σ : Mm} (hI : Ivx B P rc s σ) (hA : ¬ (0 < pn P ∧ Rok 1 99 x ∧ Rok 0 20 y ∧ Rok 0 2 z)) : zfX11_stranger x y z σ = some (-1000000, σ) := by
  unfold zfX11_stranger
  refine lt_i (fun J hJ => ?_)
  have fin : J σ = some (-1000000, σ) := by rw [hJ]
  by_cases c0 : zfX11_noMarket σ = 0
  case neg => rw [if_neg c0]; exact fin
  case pos =>
  rw [if_pos c0]
  by_cases c1 : x < 1
  case pos => rw [if_pos c1]; exact fin
  case neg =>
  rw [if_neg c1]
  by_cases c2 : 99 < x
  case pos => rw [if_pos c2]; exact fin
  case neg =>
  rw [if_neg c2]
  by_cases c3 : zfX11_noPrice y = 0
  case neg => rw [if_neg c3]; exact fin
  case pos =>
  rw [if_pos c3]
  by_cases c4 : zfX11_noWhat z 2 = 0
  case neg => rw [if_neg c4]; exact fin
  case pos =>
  rw [if_pos c4]
  exact absurd ⟨(g_mk hI).1.mp c0, g_pr (a := 1) (b := 99) (by omega) (by omega) c1 c2, g_price.mp c3, g_what2.mp c4⟩ hA
theorem stranger_G {B : Nat} {x y z : Int32} {P : Pm} {rc : Nat} {s σ : Mm} (hI : Ivx B P rc s (zst σ 703 0 0)) (hA : ¬ (0 < pn P ∧ Rok 1 99 x ∧ Rok 0 20 y ∧ Rok 0 2 z)) : zfX12_stranger x y z σ = some (-1000000, zst σ 703 0 0) := by
  unfold zfX12_stranger
  refine lt_i (fun υ hυe => ?_)
  refine lt_i (fun J hJ => ?_)
  rw [← hυe] at hI ⊢
  have hυ := hI
  have fin : J υ = some (-1000000, υ) := by rw [hJ]
  by_cases c0 : υ 703 24 = 0
  case pos => rw [if_pos c0]; exact fin
  case neg =>
  rw [if_neg c0]
  by_cases c1 : zfX12_isIn x.toInt64 1 99 = 0
  case pos => rw [if_pos c1]; exact fin
  case neg =>
  rw [if_neg c1]
  by_cases c2 : zfX12_isIn y.toInt64 0 20 = 0
  case pos => rw [if_pos c2]; exact fin
  case neg =>
  rw [if_neg c2]
  by_cases c3 : zfX12_isIn z.toInt64 0 2 = 0
  case pos => rw [if_pos c3]; exact fin
  case neg =>
  rw [if_neg c3]
  exact absurd ⟨(Classical.byContradiction (fun h9 => c0 ((g_mk hυ).2.mpr h9))), (Classical.byContradiction (fun h9 => c1 (g_in99.mpr h9))), (Classical.byContradiction (fun h9 => c2 (g_in20.mpr h9))), (Classical.byContradiction (fun h9 => c3 (g_in2.mpr h9)))⟩ hA
/-- a market with a stranger behind all -/
def strP (P : Pm) (a : Int32) : Pm := ((pn P, pm P, pn P + 1), (fun i k => if k = pn P ∧ i < 2 then 0 else P.2.1 i k), (fun i k => if k = pn P ∧ i = 0 then 0 else if k = pn P ∧ i = 2 then a else P.2.2.1 i k), P.2.2.2)
theorem strP_n {P : Pm} {a : Int32} : pn (strP P a) = pn P ∧ pm (strP P a) = pm P ∧ pN (strP P a) = pn P + 1 := ⟨rfl, rfl, rfl⟩
theorem strP_k {P : Pm} {a : Int32} {k : Nat} (h : k ≠ pn P) : pbr (strP P a) k = pbr P k ∧ pco (strP P a) k = pco P k ∧ pro (strP P a) k = pro P k ∧ pto (strP P a) k = pto P k := by
  refine ⟨if_neg (fun h2 => h h2.1), ?_, if_neg (fun h2 => h h2.1), ?_⟩
  · show (if k = pn P ∧ 0 = 0 then (0 : Int32) else if k = pn P ∧ 0 = 2 then a else P.2.2.1 0 k) = _
    rw [if_neg (fun h2 => h h2.1), if_neg (fun h2 => h h2.1)]; rfl
  · show (if k = pn P ∧ 2 = 0 then (0 : Int32) else if k = pn P ∧ 2 = 2 then a else P.2.2.1 2 k) = _
    rw [if_neg (fun h2 => h h2.1), if_neg (fun h2 => h h2.1)]; rfl
theorem strP_s {P : Pm} {a : Int32} : pbr (strP P a) (pn P) = 0 ∧ pco (strP P a) (pn P) = 0 ∧ pro (strP P a) (pn P) = 0 ∧ pto (strP P a) (pn P) = a := by
  refine ⟨if_pos ⟨rfl, by omega⟩, if_pos ⟨rfl, rfl⟩, if_pos ⟨rfl, by omega⟩, ?_⟩
  show (if pn P = pn P ∧ 2 = 0 then (0 : Int32) else if pn P = pn P ∧ 2 = 2 then a else P.2.2.1 2 (pn P)) = _
  rw [if_neg (fun h2 => absurd h2.2 (by omega)), if_pos ⟨rfl, rfl⟩]
theorem strP_b {P : Pm} {a : Int32} (i : Nat) (hm : ∀ i, i < pm P → True) : pma (strP P a) i = pma P i ∧ pwa (strP P a) i = pwa P i ∧ pw (strP P a) i = pw P i ∧ pwo (strP P a) i = pwo P i := by
  refine ⟨if_neg (fun h => absurd h.2 (by omega)), if_neg (fun h => absurd h.2 (by omega)), if_neg (fun h => absurd h.2 (by omega)), ?_⟩
  show (if i = pn P ∧ 1 = 0 then (0 : Int32) else if i = pn P ∧ 1 = 2 then a else P.2.2.1 1 i) = _
  rw [if_neg (fun h2 => absurd h2.2 (by omega)), if_neg (fun h2 => absurd h2.2 (by omega))]; rfl
theorem strP_f {P : Pm} {a : Int32} : pfr (strP P a) = pfr P ∧ pld (strP P a) = pld P := by
  constructor
  · show (if 0 = pn P ∧ 3 = 0 then (0 : Int32) else if 0 = pn P ∧ 3 = 2 then a else P.2.2.1 3 0) = _
    rw [if_neg (fun h2 => absurd h2.2 (by omega)), if_neg (fun h2 => absurd h2.2 (by omega))]; rfl
  · show (if 1 = pn P ∧ 3 = 0 then (0 : Int32) else if 1 = pn P ∧ 3 = 2 then a else P.2.2.1 3 1) = _
    rw [if_neg (fun h2 => absurd h2.2 (by omega)), if_neg (fun h2 => absurd h2.2 (by omega))]; rfl
theorem strP_w {P : Pm} {a : Int32} (hP : IvP P) (ha : sm 20 a) (ha1 : a ≠ -1) : WFp (strP P a) ∧ WFw (strP P a) := by
  obtain ⟨⟨p1, p2, p3, p4, p5, p6, p7, p8, p9⟩, ⟨w1, w2⟩, hN, hT⟩ := hP
  obtain ⟨n1, n2, n3⟩ := strP_n (P := P) (a := a)
  obtain ⟨s1, s2, s3, s4⟩ := strP_s (P := P) (a := a)
  have hb := fun i => strP_b (P := P) (a := a) i (fun _ _ => trivial)
  refine ⟨⟨by rw [n1]; exact p1, by rw [n2]; exact p2, by rw [n1, n3]; omega, by rw [n3]; omega, fun k hk => ?_, fun i hi => ?_, fun k hk => ?_, fun k h1 h2 => ?_, by rw [strP_f.1]; exact p9⟩, fun i j hij hj => ?_, fun s hs => ?_⟩
  · rw [n3] at hk
    by_cases e : k = pn P
    · rw [e, s1, s2, s3]; exact ⟨by omega, by omega, rfl, Nat.zero_le _⟩
    · obtain ⟨k1, k2, k3, k4⟩ := strP_k (P := P) (a := a) e
      rw [k1, k2, k3]; exact p5 k (by omega)
  · rw [n2] at hi
    rw [(hb i).1, (hb i).2.1, (hb i).2.2.1, (hb i).2.2.2, n2]; exact p6 i hi
  · rw [n3] at hk
    by_cases e : k = pn P
    · rw [e, s4]; exact Or.inr ha
    · rw [(strP_k (P := P) (a := a) e).2.2.2]; exact p7 k (by omega)
  · rw [n1] at h1; rw [n3] at h2
    have : k = pn P := by omega
    rw [this, s4]; exact ha1
  · rw [n2] at hj
    rw [(hb j).2.2.1, (hb i).2.2.1, (hb _).2.2.2, (hb _).2.2.2]
    exact w1 i j hij hj
  · rw [n2] at hs
    obtain ⟨k, h1, h2⟩ := w2 s hs
    exact ⟨k, by rw [n2]; exact h1, by rw [(hb k).2.2.1]; exact h2⟩
/-- a state with the stranger's goods -/
theorem strS_k {P : Pm} {s : Mm} {g : Int32} {i k : Nat} (h : i ≠ 1 ∨ k ≠ pn P) : zst s 1 (pn P) g i k = s i k := by
  by_cases c : i = 1
  · subst c; rw [zst_k (by omega)]
  · rw [zst_n c]
theorem strS_r {P : Pm} {s : Mm} {g : Int32} {i : Nat} (h : i ≠ 1) : zst s 1 (pn P) g i = s i := zst_n h
theorem strS_w {P : Pm} {s : Mm} {g a : Int32} {rc : Nat} (hN : pN P = pn P) (hs : WFs P s) (hR : RuS P rc s) (hg : sm 99 g) : WFs (strP P a) (zst s 1 (pn P) g) ∧ RuS (strP P a) rc (zst s 1 (pn P) g) := by
  obtain ⟨w1, w2, w3, w4, w5, w6, w7⟩ := hs
  obtain ⟨r1, r2, r3⟩ := hR
  obtain ⟨n1, n2, n3⟩ := strP_n (P := P) (a := a)
  refine ⟨⟨by rw [strS_k (by omega)]; exact w1, by rw [strS_k (by omega)]; exact w2, fun k hk => ?_, fun k hk => ?_, fun k hk => ?_, fun i b hi hb h => ?_, fun k h1 h2 => ?_⟩, r1, r2, fun k hk => ?_⟩
  · rw [n3] at hk
    by_cases e : k = pn P
    · rw [e, zst_v]; exact hg
    · rw [zst_k e]; exact w3 k (by omega)
  · rw [strS_k (by omega)]; exact w4 k hk
  · rw [strS_k (by omega)]; exact w5 k hk
  · rw [strS_k (by omega)]
    rw [(strP_b (P := P) (a := a) i (fun _ _ => trivial)).2.1] at h
    exact w6 i b hi hb h
  · rw [strS_k (by omega)]; exact w7 k h1 h2
  · rw [strS_k (by omega)]; exact r3 k hk
/-- what a seller gains on a day is what it takes less what it paid -/
theorem gain_day {P : Pm} {s : Mm} {f : Int32} {k : Nat} (hk : k < pN P) : dayS P f s 3 k - s 3 k = nI ((dX P f s).1 k) * dA P f s k - nI (brt (pbr P) (gd0 s) k) * pco P k := by
  show (if k < pN P then dGa P s k + nI ((dX P f s).1 k) * dA P f s k else s 3 k) - s 3 k = _
  rw [if_pos hk]
  unfold dGa
  grind
theorem gain_str {P : Pm} {s : Mm} {a g f : Int32} {k : Nat} (hk : k < pn P) (hN : pN P = pn P) : (dayS P f s 3 k - s 3 k) - (dayS (strP P a) f (zst s 1 (pn P) g) 3 k - s 3 k) = nI ((dX P f s).1 k) * dA P f s k - nI ((dX (strP P a) f (zst s 1 (pn P) g)).1 k) * dA (strP P a) f (zst s 1 (pn P) g) k := by
  have h1 := gain_day (P := P) (s := s) (f := f) (k := k) (by omega)
  have h2 := gain_day (P := strP P a) (s := zst s 1 (pn P) g) (f := f) (k := k) (by rw [strP_n.2.2]; omega)
  rw [strS_r (P := P) (i := 3) (by omega)] at h2
  obtain ⟨k1, k2, k3, k4⟩ := strP_k (P := P) (a := a) (k := k) (by omega)
  have e : brt (pbr (strP P a)) (gd0 (zst s 1 (pn P) g)) k = brt (pbr P) (gd0 s) k := by
    unfold brt gd0
    rw [k1, zst_k (by omega)]
  rw [e, k2] at h2
  rw [h1, h2]
  grind
theorem r_tba {φ : Mm} {n : Nat} {T : Nat → Int32} (hn : n ≤ 5) (h24 : φ 703 24 = nI n) (h : ∀ k, k < n → φ 719 k = T k) : Ok (zfX12_takenByAll φ) (fun r => r = cw T n) := by
  unfold zfX12_takenByAll
  refine ok_lg (fun K hK => ?_)
  refine ok_up (F := fun fu (x : Int32 × Int32) => zfX12_takenByAll_L4 φ K fu x.1 x.2) n (fun j x => x.1 = cw T j ∧ x.2 = nI j) ?_ ?_ 0 NF (0, 0) ⟨rfl, rfl⟩ (by omega) (by unfold NF; omega)
  · rintro j fu ⟨a, y⟩ hj ⟨ha, hy⟩ hk
    have hy : y = nI j := hy
    subst hy
    have ha : a = cw T j := ha
    show Ok (zfX12_takenByAll_L4 φ K (fu + 1) a (nI j)) _
    unfold zfX12_takenByAll_L4
    rw [if_neg (by rw [h24, n_le (by omega) (by omega)]; omega), ck_t ((n_in (by omega)).mpr (by omega)), n_ix (by omega), h j hj]
    refine ok_lg (fun a2 ea => ?_)
    refine ok_lg (fun y2 ey => ?_)
    rw [show nI j + 1 = nI (j + 1) from n_add _ 1] at ey
    exact hk (a2, y2) ⟨by dsimp only; rw [ea, ha]; rfl, ey⟩
  · rintro fu ⟨a, y⟩ ⟨ha, hy⟩
    have ha : a = cw T n := ha
    have hy : y = nI n := hy
    subst hy
    show Ok (zfX12_takenByAll_L4 φ K (fu + 1) a (nI n)) _
    unfold zfX12_takenByAll_L4
    rw [if_pos (by rw [h24]; exact Int32.le_refl _), hK, ok_s]
    exact ha
theorem c_addStr {P : Pm} {s τ : Mm} {g y : Int32} (hn : pn P ≤ 5) (hN : pN P = pn P) (hA : AgS 69 τ s) (hC : PmC P τ) (hz : τ 4 (pn P) = 0 ∧ τ 5 (pn P) = 0 ∧ τ 6 (pn P) = 0) :
    Ok (zfX10_addStranger g y τ) (fun φ => AgS 69 φ (zst s 1 (pn P) g) ∧ PmC (strP P y) φ ∧ ∀ c, c ≠ 37 → c ≠ 38 → c ≠ 70 → φ c = τ c) := by
  obtain ⟨m1, m2, m3, m4, m5, m6, m7⟩ := hC
  obtain ⟨a1, a2, a3, a4, a5⟩ := hA
  unfold zfX10_addStranger
  refine ok_lg (fun n hn' => ?_)
  have en : n = nI (pn P) := hn'.trans m1
  subst en
  have hin : inb (nI (pn P)) 6 := (n_in (by omega)).mpr (by omega)
  rw [if_pos (by rw [show (6 : Int32) = nI 6 from rfl, n_lt (by omega) (by omega)]; omega)]
  refine ok_lg (fun φ1 e1 => ?_)
  rw [ck_t hin, n_ix (by omega)]
  refine ok_lg (fun φ2 e2 => ?_)
  rw [ck_t hin]
  refine ok_lg (fun φ3 e3 => ?_)
  rw [ok_s]
  have q : ∀ c, c ≠ 37 → c ≠ 38 → c ≠ 70 → φ3 c = τ c := fun c x1 x2 x3 => by rw [e3, zst_n x3, e2, zst_n x2, e1, zst_n x1]
  have q70 : ∀ k, φ3 70 k = if k = pn P then g else τ 70 k := fun k => by
    rw [e3]
    by_cases e : k = pn P
    · rw [if_pos e, e, zst_v]
    · rw [if_neg e, zst_k e, e2, zst_n (by omega), e1, zst_n (by omega)]
  have q38 : ∀ k, φ3 38 k = if k = pn P then y else τ 38 k := fun k => by
    rw [e3, zst_n (by omega), e2]
    by_cases e : k = pn P
    · rw [if_pos e, e, zst_v]
    · rw [if_neg e, zst_k e, e1, zst_n (by omega)]
  have q37 : ∀ k, φ3 37 k = if k = 5 then nI (pn P + 1) else τ 37 k := fun k => by
    rw [e3, zst_n (by omega), e2, zst_n (by omega), e1]
    by_cases e : k = 5
    · rw [if_pos e, e, zst_v]; exact n_add _ 1
    · rw [if_neg e, zst_k e]
  obtain ⟨n1, n2, n3⟩ := strP_n (P := P) (a := y)
  obtain ⟨s1, s2, s3, s4⟩ := strP_s (P := P) (a := y)
  refine ⟨⟨fun k hk => ?_, ?_, ?_, fun i k hi hk => ?_, fun k hk => ?_⟩, ⟨?_, ?_, ?_, ?_, ?_, fun k hk => ?_, fun i hi => ?_⟩, q⟩
  · rw [q 69 (by omega) (by omega) (by omega), strS_k (by omega)]; exact a1 k hk
  · rw [q 69 (by omega) (by omega) (by omega), strS_k (by omega)]; exact a2
  · rw [q 69 (by omega) (by omega) (by omega), strS_k (by omega)]; exact a3
  · by_cases e : i = 1
    · subst e
      rw [q70]
      by_cases e2 : k = pn P
      · rw [if_pos e2, e2, zst_v]
      · rw [if_neg e2, zst_k e2]; exact a4 1 k hi hk
    · rw [q _ (by omega) (by omega) (by omega), strS_k (Or.inl e)]; exact a4 i k hi hk
  · rw [q _ (by omega) (by omega) (by omega), strS_k (by omega)]; exact a5 k hk
  · rw [q 3 (by omega) (by omega) (by omega)]; exact m1
  · rw [q 3 (by omega) (by omega) (by omega)]; exact m2
  · rw [q 3 (by omega) (by omega) (by omega), strP_f.1]; exact m3
  · rw [q37, if_neg (by omega), strP_f.2]; exact m4
  · rw [q37, if_pos rfl]; rfl
  · rw [n3] at hk
    rw [q 4 (by omega) (by omega) (by omega), q 5 (by omega) (by omega) (by omega), q 6 (by omega) (by omega) (by omega), q38]
    by_cases e : k = pn P
    · rw [e, if_pos rfl, s1, s2, s3, s4]; exact ⟨hz.1, hz.2.1, hz.2.2, rfl⟩
    · obtain ⟨k1, k2, k3, k4⟩ := strP_k (P := P) (a := y) e
      rw [if_neg e, k1, k2, k3, k4]; exact m6 k (by omega)
  · rw [n2] at hi
    obtain ⟨b1, b2, b3, b4⟩ := strP_b (P := P) (a := y) i (fun _ _ => trivial)
    rw [q 7 (by omega) (by omega) (by omega), q 8 (by omega) (by omega) (by omega), q 9 (by omega) (by omega) (by omega), q 10 (by omega) (by omega) (by omega), b1, b2, b3, b4]
    exact m7 i hi
/-- what is answered of a stranger -/
noncomputable def strV (P : Pm) (s : Mm) (g y z : Int32) : Int32 :=
  if z = 0 then dayS (strP P y) 0 (zst s 1 (pn P) g) 0 0 else if z = 1 then nI ((dX (strP P y) 0 (zst s 1 (pn P) g)).1 (pn P)) else
    cw (fun k => nI ((dX P 0 s).1 k) * dA P 0 s k) (pn P) - cw (fun k => nI ((dX (strP P y) 0 (zst s 1 (pn P) g)).1 k) * dA (strP P y) 0 (zst s 1 (pn P) g) k) (pn P)
theorem strR {P : Pm} {s σ τ υ : Mm} {g y : Int32} {rc : Nat} (hN : pN P = pn P) (h : Kb P rc s υ σ) (h41 : σ 703 41 = s 0 3) (hn : pn P ≤ 5) (e : τ = zst (zst σ 703 43 g) 703 44 y) : RRs (strP P y) τ (zst s 1 (pn P) g) ∧ PmR (strP P y) (zst s 1 (pn P) g) τ ∧ StP (strP P y) (zst s 1 (pn P) g) τ ∧ RuR (strP P y) rc τ := by
  obtain ⟨k1, k2, ⟨r1, r2, r3, r4, r5, r6⟩, ⟨p1, p2, p3, p4, p5, p6, p7⟩, k5, k6⟩ := h
  have q : ∀ c, c ≠ 703 → τ c = σ c := fun c hc => by rw [e, zst_n hc, zst_n hc]
  have q7 : ∀ k, k ≠ 43 → k ≠ 44 → τ 703 k = σ 703 k := fun k h1 h2 => by rw [e, zst_k h2, zst_k h1]
  obtain ⟨n1, n2, n3⟩ := strP_n (P := P) (a := y)
  obtain ⟨s1, s2, s3, s4⟩ := strP_s (P := P) (a := y)
  have hb := fun i => strP_b (P := P) (a := y) i (fun _ _ => trivial)
  refine ⟨⟨fun k hk => ?_, ?_, ?_, ?_, fun i k hi hk => ?_, fun j h1 h2 => ?_⟩, ⟨?_, ?_, ?_, ?_, ?_, fun k hk => ?_, fun i hi => ?_⟩, Or.inr ⟨rfl, ?_, ?_, ?_⟩, ?_⟩
  · rw [n1] at hk
    rw [q 714 (by omega), zst_k (show k ≠ pn P by omega), strS_r (i := 2) (by omega), strS_r (i := 3) (by omega), strS_r (i := 4) (by omega), strS_r (i := 5) (by omega)]
    exact r1 k hk
  · rw [q 714 (by omega), strS_k (by omega)]; exact r2
  · rw [q 714 (by omega), strS_k (by omega)]; exact r3
  · rw [q 714 (by omega), strS_k (by omega)]; exact r4
  · rw [n2] at hi
    rw [q 714 (by omega), strS_r (i := 7) (by omega), (hb i).2.1]; exact r5 i k hi hk
  · rw [n2] at h1
    rw [q 714 (by omega)]; exact r6 j h1 h2
  · rw [q7 24 (by omega) (by omega)]; exact p1
  · rw [q7 25 (by omega) (by omega)]; exact p2
  · rw [q7 41 (by omega) (by omega), strS_k (by omega)]; exact h41
  · rw [q7 42 (by omega) (by omega), strP_f.2]; exact p4
  · rw [q 710 (by omega), strP_f.1]; exact p5
  · rw [n1] at hk
    obtain ⟨x1, x2, x3, x4⟩ := strP_k (P := P) (a := y) (k := k) (by omega)
    rw [q 708 (by omega), q 717 (by omega), q 716 (by omega), x1, x2, x3, x4, strS_r (i := 6) (by omega)]
    have := p6 k hk
    rw [hS_r (by omega)] at this
    exact this
  · rw [n2] at hi
    obtain ⟨b1, b2, b3, b4⟩ := hb i
    rw [q 709 (by omega), b1, b2, b4]; exact p7 i hi
  · show τ 703 43 = zst s 1 (pn P) g 1 (pn P)
    rw [e, zst_k (by omega), zst_v, zst_v]
  · show τ 703 44 = pto (strP P y) (pn P)
    rw [e, zst_v, s4]
  · exact s1
  · have : RuR P rc τ := k6.of (q 705 (by omega)) (fun r _ => by rw [q 706 (by omega)])
    exact this
theorem q_stranger {B : Nat} (hB : B < 800000) (x y z : Int32) : Qy B (zfX11_stranger x y z) (zfX12_stranger x y z) := by
  refine q_gen (-1000000) (fun P => 0 < pn P ∧ Rok 1 99 x ∧ Rok 0 20 y ∧ Rok 0 2 z) (fun P rc s σ hI hA => stranger_F hI hA) (fun P rc s σ hI hA => stranger_G hI hA) (fun P rc s σ hI hA => ?_)
  obtain ⟨h0, hx, hy, hz⟩ := hA
  have hx2 := (g_rng (a := 1) (b := 99) (by omega) (by omega)).mpr hx
  have hB9 : B < 900000 := by omega
  have hn := hI.n
  have hN := hI.2.1.2.2.1
  have hs := hI.ks hB9
  have hmm := hI.2.1.1.2.1
  have hgx : sm 99 x := by obtain ⟨d, _, d2, rfl⟩ := hx; exact sm_n d2 (by omega)
  have hgy : sm 20 y ∧ y ≠ -1 := by obtain ⟨d, _, d2, rfl⟩ := hy; exact ⟨sm_n d2 (by omega), n_ne1 (by omega)⟩
  have wP := strP_w hI.2.1 hgy.1 hgy.2
  have wS := strS_w (a := y) hN hs.2.1 hs.2.2.2.2.1 hgx
  have wB : sm B (zst s 1 (pn P) x 0 1) := by rw [strS_k (by omega)]; exact hs.2.2.1
  have hno : ∀ k, pn (strP P y) ≤ k → k < 6 → ¬ hob (zst s 1 (pn P) x 0 3) k := by rw [strS_k (by omega)]; exact hs.2.2.2.2.2
  have hzs := hI.2.2.1.2.2.2.2.2.2.2
  unfold zfX11_stranger
  refine ok_lg (fun J _ => ?_)
  rw [if_pos ((g_mk hI).1.mpr h0), if_neg (show ¬ x < 1 from hx2.1), if_neg (show ¬ 99 < x from hx2.2), if_pos (g_price.mpr hy), if_pos (g_what2.mpr hz)]
  refine ok_lg (fun n4 hn4 => ?_)
  have hn4 : n4 = nI (pn P) := hn4.trans hn.2.1
  subst hn4
  refine cq_walk (d := 1) hB9 hI h0 (by omega) (fun τ1 t1 _ t3 => ?_)
  have gn : ∀ (Q : Pm) (t τ : Mm), AgS 69 τ (dayS Q 0 t) → FrS σ τ → t 3 = s 3 → Ok (zfX10_gainOfAll τ) (fun r => r = cw (fun k => dayS Q 0 t 3 k - t 3 k) (pn P)) := fun Q t τ hA hF e3 => by
    refine ok_mono (c_gains hn.1 (by rw [hF.1 3 (by omega)]; exact hn.2.1)) (fun r hr => ?_)
    rw [hr]
    refine cw_cg (fun i hi => ?_)
    have hn5 := hn.1
    rw [hA.2.2.2.1 3 i (by omega) (by omega), hF.1 30 (Or.inr (Or.inl ⟨by omega, by omega, stk_n (by omega)⟩)), hI.2.2.2.2.1.1.1.2.2.2.1 3 i (by omega) (by omega), e3]
  rw [ok_bd]
  refine ok_mono (gn P s τ1 t1 t3 rfl) (fun r64 hr64 => ?_)
  have hI1 := hI.fr t3
  obtain ⟨h1, h2, h3, ⟨r1, r2, r3, r4, r5⟩, ⟨hS, s4⟩, h6⟩ := id hI1
  rw [ok_bd]
  refine ok_mono (cq_begin h2 h3 r4 hS h0) (fun τ2 hτ => ?_)
  obtain ⟨b1, b2, b3, b4, b5⟩ := hτ
  have hz3 := h3.2.2.2.2.2.2.2 (pn P) (Nat.le_refl _) (by have := hn.1; omega)
  rw [ok_bd]
  refine ok_mono (c_addStr (g := x) (y := y) hn.1 hN b1 b3 (by rw [b5.1 4 (by omega), b5.1 5 (by omega), b5.1 6 (by omega)]; exact hz3)) (fun τ3 hτ3 => ?_)
  obtain ⟨c1, c2, c3⟩ := hτ3
  have fr3 : FrS σ τ3 := (t3.trans b5).trans ⟨fun c hc => c3 c (by omega) (by omega) (by omega), fun k _ => by rw [c3 714 (by omega) (by omega) (by omega)], fun k _ => by rw [c3 703 (by omega) (by omega) (by omega)]⟩
  have R3 : RuC (strP P y) rc τ3 := by
    have : RuC P rc τ3 := b4.of (fun r hr => ⟨c3 _ (by omega) (by omega) (by omega), c3 _ (by omega) (by omega) (by omega)⟩)
    exact this
  rw [ok_bd]
  refine ok_mono (c_pass (d := 1) wP.1 wS.1 wB hB9 wS.2 c1 c2 R3 (by omega)) (fun τ4 hτ4 => ?_)
  obtain ⟨d1, d2, d3⟩ := hτ4
  have d1 : AgS 69 τ4 (dayS (strP P y) 0 (zst s 1 (pn P) x)) := d1
  have fr : FrS σ τ4 := fr3.trans d3.s
  have yes : ∀ v : Int32, v = strV P s x y z → ∀ υ, Ivx B P rc s υ → υ = zst τ4 703 0 0 → Ok (zfX12_stranger x y z τ4) (fun b => b.1 = v ∧ FrS υ b.2) := fun v hv' υ hυ e => by
    unfold zfX12_stranger
    refine ok_lg (fun υ' e' => ?_)
    have : υ' = υ := e'.trans e.symm
    subst this
    refine ok_lg (fun J2 _ => ?_)
    rw [if_neg (fun c => (g_mk hυ).2.mp c h0), if_neg (fun c => g_in99.mp c hx), if_neg (fun c => g_in20.mp c hy), if_neg (fun c => g_in2.mp c hz)]
    refine rq_keptb hB9 hυ h0 (fun τ k1 k2 k3 => ?_)
    have f0 : FrT (zst τ 703 41 (s 0 3)) τ := by rw [← k2]; exact FrT.v0
    have e0 : zst s 0 3 (s 0 3) = s := zst_self rfl
    rw [ok_bd]
    refine ok_mono (k1.goq (B := B) (v := s 0 3) ⟨hI.2.1.1, hI.2.1.2.1, hN⟩ hs.2.1 hs.2.2.1 hs.2.2.2.2.1 rfl hs.2.2.2.2.2 f0 k1.2.2.1) (fun φ hφ => ?_)
    rw [e0] at hφ
    obtain ⟨g1, g2, g3, g4⟩ := hφ
    rw [ok_bd]
    refine ok_mono (r_tba (T := fun k => nI ((dX P 0 s).1 k) * dA P 0 s k) hn.1 (by rw [g2.1 24 (by omega), zst_k (by omega)]; exact k1.2.2.2.1.1) (fun k hk => (g3 k hk).2.1)) (fun r62 e62 => ?_)
    rw [ok_bd]
    refine ok_mono (k1.back hn.1 hmm g2) (fun ψ hψ => ?_)
    obtain ⟨m1, m2, m3⟩ := hψ
    refine ok_lg (fun τ4' e4 => ?_)
    refine ok_lg (fun τ5 e5 => ?_)
    rw [e4] at e5
    obtain ⟨u1, u2, u3, u4⟩ := strR hN m1 m2 hn.1 e5
    rw [ok_bd]
    refine ok_mono (r_day (f := 0) (rc := rc) wP.1 wP.2 wS.1 wS.2 hno u1 u2 u3 u4) (fun φ2 hφ2 => ?_)
    obtain ⟨v1, v2, v3, v4, v5, v6, v7⟩ := hφ2
    refine ok_lg (fun x5 hx5 => ?_)
    have hx5 : x5 = dayS (strP P y) 0 (zst s 1 (pn P) x) 0 0 := by rw [hx5, show ix 54 = 54 by decide]; exact v1.2.1
    rw [ok_bd]
    refine ok_mono (r_tba (T := fun k => nI ((dX (strP P y) 0 (zst s 1 (pn P) x)).1 k) * dA (strP P y) 0 (zst s 1 (pn P) x) k) hn.1 (by rw [v6 24 (by omega)]; exact u2.1) (fun k hk => (v3 k hk).2.1)) (fun r98 e98 => ?_)
    refine ok_lg (fun x6 hx6 => ?_)
    have q5 : ∀ c, c ≠ 703 → τ5 c = ψ c := fun c hc => by rw [e5, zst_n hc, zst_n hc]
    have fr5 : FrS υ' τ5 := m1.1.trans ⟨fun c hc => q5 c (by omega), fun k _ => by rw [q5 714 (by omega)], fun k hk => by rw [e5, zst_k (by omega), zst_k (by omega)]⟩
    rw [ok_bd]
    refine ok_mono (rq_back fr5 (fun j hj => by rw [q5 715 (by omega)]; exact m1.2.1 j hj) (show FrT τ5 φ2 from ⟨fun x hx => v6 x hx, fun c a1 a2 a3 a4 a5 a6 a7 a8 a9 a10 a11 a12 => v7 c a1 a2 a3 a4 a5 a6 a7 a8 a9 a10⟩)) (fun χ hχ => ?_)
    obtain ⟨w1, w2⟩ := hχ
    refine ok_lg (fun χ2 eχ => ?_)
    have frχ : FrS υ' χ2 := w1.trans ⟨fun c hc => by rw [eχ, zst_n (by omega)], fun k _ => by rw [eχ, zst_n (by omega)], fun k hk => by rw [eχ, zst_k (by omega)]⟩
    rw [hv']
    unfold strV
    by_cases c0 : z = 0
    · rw [if_pos c0, if_pos c0, ok_s]; exact ⟨hx5, frχ⟩
    · rw [if_neg c0, if_neg c0]
      by_cases c1 : z = 1
      · rw [if_pos c1, if_pos c1, ok_s]
        refine ⟨?_, frχ⟩
        dsimp only
        rw [eχ, zst_k (by omega), w2 703 (by omega), v4 (by rw [strP_n.1, strP_n.2.2]; omega)]
        rfl
      · rw [if_neg c1, if_neg c1, ok_s]
        exact ⟨by dsimp only; rw [hx6, e62, e98], frχ⟩
  by_cases c0 : z = 0
  · rw [if_pos c0, ok_s]
    refine ⟨fr, yes _ ?_⟩
    unfold strV
    rw [if_pos c0]
    exact d1.1 0 (by omega)
  · rw [if_neg c0]
    by_cases c1 : z = 1
    · have hn5 := hn.1
      rw [if_pos c1, ck_t ((n_in (by omega)).mpr (by omega)), n_ix (by omega), ok_s]
      refine ⟨fr, yes _ ?_⟩
      unfold strV
      rw [if_neg c0, if_pos c1]
      dsimp only
      rw [d1.2.2.2.1 5 _ (by omega) (by omega)]
      show (if pn P < pN (strP P y) then _ else _) = _
      rw [if_pos (by rw [strP_n.2.2]; omega)]
    · rw [if_neg c1, ok_bd]
      refine ok_mono (gn (strP P y) (zst s 1 (pn P) x) τ4 d1 fr (strS_r (by omega))) (fun r151 hr151 => ?_)
      rw [ok_s]
      refine ⟨fr, yes _ ?_⟩
      unfold strV
      rw [if_neg c0, if_neg c1]
      dsimp only
      rw [hr64, hr151, ← cw_sub, ← cw_sub]
      refine cw_cg (fun k hk => ?_)
      exact gain_str hk hN
