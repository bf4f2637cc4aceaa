/-! ===== fits answers alike ===== -/
theorem fits_F {B : Nat} {x : Int32} {P : Pm} {rc : Nat} {s σ : Mm} (hI : Ivx B P rc s σ) (hA : ¬ (0 < pn P ∧ -1 ≤ x)) : zfX11_fits x σ = some (-1, σ) := by
  unfold zfX11_fits
  refine lt_i (fun J hJ => ?_)
  have fin : J σ = some (-1, σ) := by rw [hJ]
  by_cases c0 : zfX11_noMarket σ = 0
  case neg => rw [if_neg c0]; exact fin
  case pos =>
  rw [if_pos c0]
  by_cases c1 : -1 ≤ x
  case neg => rw [if_neg c1]; exact fin
  case pos =>
  rw [if_pos c1]
  exact absurd ⟨((g_mk hI).1.mp c0), (c1)⟩ hA
theorem fits_G {B : Nat} {x : Int32} {P : Pm} {rc : Nat} {s σ : Mm} (hI : Ivx B P rc s (zst σ 703 0 0)) (hA : ¬ (0 < pn P ∧ -1 ≤ x)) : zfX12_fits x σ = some (-1, zst σ 703 0 0) := by
  unfold zfX12_fits
  refine lt_i (fun υ hυe => ?_)
  refine lt_i (fun J hJ => ?_)
  rw [← hυe] at hI ⊢
  have hυ := hI
  have fin : J υ = some (-1, υ) := by rw [hJ]
  by_cases c0 : υ 703 24 = 0
  case pos => rw [if_pos c0]; exact fin
  case neg =>
  rw [if_neg c0]
  by_cases c1 : -1 ≤ x
  case neg => rw [if_neg c1]; exact fin
  case pos =>
  rw [if_pos c1]
  exact absurd ⟨(Classical.byContradiction (fun h9 => c0 ((g_mk hυ).2.mpr h9))), (c1)⟩ hA
theorem c_fits {B : Nat} {P : Pm} {rc N : Nat} {x : Int32} {s σ : Mm} {f g : Nat → Int32} {K1 K2 : Int32 → Mm → Option (Int32 × Mm)} {Q : Int32 × Mm → Prop} (hB : B < 900000) (hI : Ivx B P rc s σ) (h0 : 0 < pn P) (hN : N ≤ 20) (h3 : σ 695 3 = nI N) (hf : ∀ k, k < N → σ 696 k = f k ∧ (sm 30 (f k) ∧ 0 < ix (f k)) ∧ σ 697 k = g k)
    (hK1 : ∀ τ, FrS σ τ → (∀ m, m < 2 ^ pn P → ¬ (fitQ P s (nI m) f g N ∧ nI (fcn (fun m => fitQ P s (nI m) f g N) m) = x)) → Ok (K1 (nI (fcn (fun m => fitQ P s (nI m) f g N) (2 ^ pn P))) τ) Q)
    (hK2 : ∀ m τ, FrS σ τ → m < 2 ^ pn P → fitQ P s (nI m) f g N ∧ nI (fcn (fun m => fitQ P s (nI m) f g N) m) = x → Ok (K2 (nI m) τ) Q) : Ok (zfX11_fits_L29 (nI (2 ^ pn P)) K1 x K2 NF 0 0 σ) Q := by
  have hn := hI.n
  have hp := pow5 hn.1
  generalize hM : 2 ^ pn P = M at hK1 hK2 hp ⊢
  generalize hpp : (fun m => fitQ P s (nI m) f g N) = p at hK1 hK2
  have hpe : ∀ m, p m ↔ fitQ P s (nI m) f g N := fun m => by rw [← hpp]
  refine ok_up (F := fun fu (y : Int32 × Int32 × Mm) => zfX11_fits_L29 (nI M) K1 x K2 fu y.1 y.2.1 y.2.2) M (fun j y => y.1 = nI (fcn p j) ∧ y.2.1 = nI j ∧ FrS σ y.2.2 ∧ ∀ m, m < j → ¬ (fitQ P s (nI m) f g N ∧ nI (fcn p m) = x)) ?_ ?_ 0 NF (0, 0, σ) ⟨rfl, rfl, FrS.refl, fun m hm => absurd hm (Nat.not_lt_zero m)⟩ (by omega) (by unfold NF; omega)
  · rintro j fu ⟨a, z, τ⟩ hj ⟨ha, hz, hfr, hno⟩ hk
    have ha : a = nI (fcn p j) := ha
    have hz : z = nI j := hz
    subst ha hz
    have hfr : FrS σ τ := hfr
    show Ok (zfX11_fits_L29 (nI M) K1 x K2 (fu + 1) (nI (fcn p j)) (nI j) τ) Q
    unfold zfX11_fits_L29
    rw [if_neg (by rw [n_le (by omega) (by omega)]; omega), ok_bd2]
    refine ok_mono (c_seenBy (f := f) (g := g) hB (hI.fr hfr) h0 hN (by rw [hfr.1 695 (by omega)]; exact h3) (fun k hk => by rw [hfr.1 696 (by omega), hfr.1 697 (by omega)]; exact hf k hk)) (fun b hb => ?_)
    obtain ⟨b1, b2⟩ := hb
    have fr2 := hfr.trans b1
    refine ok_lg (fun J hJ => ?_)
    have go : ∀ (w : Int32), w = nI (fcn p (j + 1)) → ¬ (fitQ P s (nI j) f g N ∧ nI (fcn p j) = x) → Ok (J w b.2) Q := fun w h1 h2 => by
      simp only [hJ]
      refine ok_lg (fun y2 ey => ?_)
      rw [show nI j + 1 = nI (j + 1) from n_add _ 1] at ey
      refine hk (w, y2, b.2) ⟨h1, ey, fr2, fun m hm => ?_⟩
      by_cases e : m = j
      · subst e; exact h2
      · exact hno m (by omega)
    rcases b2 with ⟨b3, b4⟩ | ⟨b3, b4⟩
    · rw [b3, if_pos rfl]
      exact go _ (by rw [fcn_f (fun h => b4 ((hpe j).mp h))]) (fun h => b4 h.1)
    · rw [b3, if_neg (by decide)]
      by_cases c : nI (fcn p j) = x
      · rw [if_pos c]; exact hK2 j b.2 fr2 hj ⟨b4, c⟩
      · rw [if_neg c]
        refine ok_lg (fun w hw => ?_)
        rw [show nI (fcn p j) + 1 = nI (fcn p j + 1) from n_add _ 1] at hw
        exact go w (by rw [hw, fcn_t ((hpe j).mpr b4)]) (fun h => c h.2)
  · rintro fu ⟨a, z, τ⟩ ⟨ha, hz, hfr, hno⟩
    have ha : a = nI (fcn p M) := ha
    have hz : z = nI M := hz
    subst ha hz
    show Ok (zfX11_fits_L29 (nI M) K1 x K2 (fu + 1) (nI (fcn p M)) (nI M) τ) Q
    unfold zfX11_fits_L29
    rw [if_pos (Int32.le_refl _)]
    exact hK1 τ hfr hno
theorem r_fits63 {P : Pm} {s ψ : Mm} {N : Nat} {v : Int32} {f g : Nat → Int32} {K : Int32 → Mm → Option (Int32 × Mm)} {Q : Int32 × Mm → Prop} (hN : N ≤ 20) (h62 : ψ 703 62 = nI N) (hf : ∀ k, k < N → ψ 731 k = f k ∧ sm 30 (f k) ∧ ψ 732 k = g k) (hb : ∀ j, j ≤ 30 → ψ 725 j = dys P (zst s 0 3 v) j 0 0)
    (hK : ∀ a, (a = 0 ∧ ¬ fitQ P s v f g N) ∨ (a = 1 ∧ fitQ P s v f g N) → Ok (K a ψ) Q) : Ok (zfX12_fits_L63 K NF 1 0 ψ) Q := by
  refine ok_up (F := fun fu (x : Int32 × Int32) => zfX12_fits_L63 K fu x.1 x.2 ψ) N (fun j x => ((x.1 = 0 ∧ ¬ fitQ P s v f g j) ∨ (x.1 = 1 ∧ fitQ P s v f g j)) ∧ x.2 = nI j) ?_ ?_ 0 NF (1, 0) ⟨Or.inr ⟨rfl, fun k hk => absurd hk (Nat.not_lt_zero k)⟩, rfl⟩ (by omega) (by unfold NF; omega)
  · rintro j fu ⟨a, y⟩ hj ⟨ha, hy⟩ hk
    have hy : y = nI j := hy
    subst hy
    have ha : (a = 0 ∧ ¬ fitQ P s v f g j) ∨ (a = 1 ∧ fitQ P s v f g j) := ha
    show Ok (zfX12_fits_L63 K (fu + 1) a (nI j) ψ) Q
    unfold zfX12_fits_L63
    rw [if_neg (by rw [h62, n_le (by omega) (by omega)]; omega)]
    refine ok_lg (fun J hJ => ?_)
    have go : ∀ w : Int32, (w = 0 ∧ ¬ fitQ P s v f g (j + 1)) ∨ (w = 1 ∧ fitQ P s v f g (j + 1)) → Ok (J w ψ) Q := fun w h => by
      simp only [hJ]
      refine ok_lg (fun y2 ey => ?_)
      rw [show nI j + 1 = nI (j + 1) from n_add _ 1] at ey
      exact hk (w, y2) ⟨h, ey⟩
    refine ok_lg (fun J2 hJ2 => ?_)
    have go0 : ¬ fitQ P s v f g (j + 1) → Ok (J2 ψ) Q := fun h => by
      simp only [hJ2]
      exact go 0 (Or.inl ⟨rfl, h⟩)
    rcases ha with ⟨a1, a2⟩ | ⟨a1, a2⟩
    · rw [if_pos a1]; exact go0 (fun h => a2 (fun k hk => h k (by omega)))
    · rw [if_neg (by rw [a1]; decide)]
      have hin : inb (nI j) 20 := (n_in (by omega)).mpr (by omega)
      obtain ⟨f1, f2, f3⟩ := hf j hj
      have hle := f2.2
      have e1 : f j = nI (ix (f j)) := f2.1
      rw [ck_t hin, n_ix (by omega), f1, ck_t (by rw [e1, n_in (by omega)]; omega), ck_t hin, f3, hb _ hle]
      by_cases c : dys P (zst s 0 3 v) (ix (f j)) 0 0 = g j
      · rw [if_pos c]
        refine go 1 (Or.inr ⟨rfl, fun k hk => ?_⟩)
        by_cases e : k = j
        · subst e; exact c
        · exact a2 k (by omega)
      · rw [if_neg c]; exact go0 (fun h => c (h j (by omega)))
  · rintro fu ⟨a, y⟩ ⟨ha, hy⟩
    have hy : y = nI N := hy
    subst hy
    show Ok (zfX12_fits_L63 K (fu + 1) a (nI N) ψ) Q
    unfold zfX12_fits_L63
    rw [if_pos (by rw [h62]; exact Int32.le_refl _)]
    exact hK a ha
theorem r_fits {B : Nat} {P : Pm} {rc N : Nat} {x : Int32} {s υ τ : Mm} {f g : Nat → Int32} {K : Int32 → Int32 → Mm → Option (Int32 × Mm)} {Q : Int32 × Mm → Prop} (hI : Ivx B P rc s υ) (hs : Ks P rc B s) (hkb : Kb P rc s υ τ) (hN : N ≤ 20) (h62 : υ 703 62 = nI N) (hf : ∀ k, k < N → υ 731 k = f k ∧ sm 30 (f k) ∧ υ 732 k = g k)
    (hK : ∀ φ, Kb P rc s υ φ → Ok (K (nI (fcn (fun m => fitQ P s (nI m) f g N) (2 ^ pn P))) (frs (fun m => fitQ P s (nI m) f g N) x (2 ^ pn P)) φ) Q) : Ok (zfX12_fits_L30 K x NF 0 (-1) 0 τ) Q := by
  have hn := hI.n
  have hm := hI.2.1.1.2.1
  have hp := pow5 hn.1
  have hsl := shl_n hn.1
  generalize hM : 2 ^ pn P = M at hK hp hsl
  generalize hpp : (fun m => fitQ P s (nI m) f g N) = p at hK
  have hpe : ∀ m, p m ↔ fitQ P s (nI m) f g N := fun m => by rw [← hpp]
  refine ok_up (F := fun fu (y : Int32 × Int32 × Int32 × Mm) => zfX12_fits_L30 K x fu y.1 y.2.1 y.2.2.1 y.2.2.2) M (fun j y => y.1 = nI (fcn p j) ∧ y.2.1 = frs p x j ∧ y.2.2.1 = nI j ∧ Kb P rc s υ y.2.2.2) ?_ ?_ 0 NF (0, -1, 0, τ) ⟨rfl, rfl, rfl, hkb⟩ (by omega) (by unfold NF; omega)
  · rintro j fu ⟨a, b, z, τ⟩ hj ⟨ha, hb, hz, hkb⟩ hk
    have ha : a = nI (fcn p j) := ha
    have hb : b = frs p x j := hb
    have hz : z = nI j := hz
    subst ha hb hz
    have hkb : Kb P rc s υ τ := hkb
    show Ok (zfX12_fits_L30 K x (fu + 1) (nI (fcn p j)) (frs p x j) (nI j) τ) Q
    unfold zfX12_fits_L30
    rw [hkb.2.2.2.1.1, hsl, if_neg (by rw [n_le (by omega) (by omega)]; omega)]
    refine ok_lg (fun τ1 e1 => ?_)
    rw [e1, show (30 : Int32) = nI 30 from rfl, ok_bd]
    refine ok_mono (hkb.tries hs (set_no (by rw [hM]; exact hj)) (show 30 ≤ 60 by omega)) (fun φ hφ => ?_)
    obtain ⟨b1, b2, b3⟩ := hφ
    rw [ok_bd]
    refine ok_mono (hkb.back hn.1 hm b3) (fun ψ hψ => ?_)
    obtain ⟨c1, c2, c3⟩ := hψ
    refine ok_lg (fun K2 hK2 => ?_)
    refine r_fits63 (P := P) (s := s) (v := nI j) hN (by rw [c1.1.2.2 62 (by omega)]; exact h62) (fun k hk => by rw [c1.1.1 731 (by omega), c1.1.1 732 (by omega)]; exact hf k hk) (fun i hi => by rw [c3 725 (by omega)]; exact b2 i hi) (fun w hw => ?_)
    simp only [hK2]
    refine ok_lg (fun J hJ => ?_)
    have go : ∀ w1 w2 : Int32, w1 = nI (fcn p (j + 1)) → w2 = frs p x (j + 1) → Ok (J w1 w2 ψ) Q := fun w1 w2 h1 h2 => by
      simp only [hJ]
      refine ok_lg (fun y2 ey => ?_)
      rw [show nI j + 1 = nI (j + 1) from n_add _ 1] at ey
      exact hk (w1, w2, y2, ψ) ⟨h1, h2, ey, c1⟩
    rcases hw with ⟨w1, w2⟩ | ⟨w1, w2⟩
    · rw [if_pos w1]
      exact go _ _ (by rw [fcn_f (fun h => w2 ((hpe j).mp h))]) (by rw [frs_f (fun h => w2 ((hpe j).mp h.1))])
    · rw [if_neg (by rw [w1]; decide)]
      refine ok_lg (fun J2 hJ2 => ?_)
      have go2 : ∀ w2 : Int32, w2 = frs p x (j + 1) → Ok (J2 w2 ψ) Q := fun w2' h2 => by
        simp only [hJ2]
        refine ok_lg (fun w3 hw3 => ?_)
        rw [show nI (fcn p j) + 1 = nI (fcn p j + 1) from n_add _ 1] at hw3
        exact go w3 w2' (by rw [hw3, fcn_t ((hpe j).mpr w2)]) h2
      by_cases c : nI (fcn p j) = x
      · rw [if_pos c]; exact go2 _ (by rw [frs_t ⟨(hpe j).mpr w2, c⟩])
      · rw [if_neg c]; exact go2 _ (by rw [frs_f (fun h => c h.2)])
  · rintro fu ⟨a, b, z, τ⟩ ⟨ha, hb, hz, hkb⟩
    have ha : a = nI (fcn p M) := ha
    have hb : b = frs p x M := hb
    have hz : z = nI M := hz
    subst ha hb hz
    have hkb : Kb P rc s υ τ := hkb
    show Ok (zfX12_fits_L30 K x (fu + 1) (nI (fcn p M)) (frs p x M) (nI M) τ) Q
    unfold zfX12_fits_L30
    rw [hkb.2.2.2.1.1, hsl, if_pos (Int32.le_refl _)]
    exact hK τ hkb
theorem frs_no {p : Nat → Prop} {x : Int32} : ∀ {m : Nat}, (∀ k, k < m → ¬ (p k ∧ nI (fcn p k) = x)) → frs p x m = -1 := by
  intro m
  induction m with
  | zero => intro _; rfl
  | succ m ih => intro h; rw [frs_f (h m (by omega))]; exact ih (fun k hk => h k (by omega))
theorem q_fits {B : Nat} (hB : B < 900000) (x : Int32) : Qy B (zfX11_fits x) (zfX12_fits x) := by
  refine q_gen (-1) (fun P => 0 < pn P ∧ -1 ≤ x) (fun P rc s σ hI hA => fits_F hI hA) (fun P rc s σ hI hA => fits_G hI hA) (fun P rc s σ hI hA => ?_)
  obtain ⟨h0, hx⟩ := hA
  have hn := hI.n
  have hp := pow5 hn.1
  obtain ⟨⟨N, n1, n2, n3, n4⟩, _⟩ := id hI.2.2.2.2.2.2.2
  unfold zfX11_fits
  refine ok_lg (fun J _ => ?_)
  rw [if_pos ((g_mk hI).1.mpr h0), if_pos hx, hn.2.1, shl_n hn.1]
  refine ok_lg (fun M hM => ?_)
  subst hM
  refine ok_lg (fun K2 hK2 => ?_)
  refine ok_lg (fun K1 hK1 => ?_)
  have yes : ∀ (v : Int32) (τ : Mm), FrS σ τ → v = (if x = -1 then nI (fcn (fun m => fitQ P s (nI m) (σ 696) (σ 697) N) (2 ^ pn P)) else frs (fun m => fitQ P s (nI m) (σ 696) (σ 697) N) x (2 ^ pn P)) → FrS σ (v, τ).2 ∧ ∀ υ, Ivx B P rc s υ → υ = zst (v, τ).2 703 0 0 → Ok (zfX12_fits x (v, τ).2) (fun b => b.1 = (v, τ).1 ∧ FrS υ b.2) := fun v τ fr hv => by
    refine ⟨fr, fun υ hυ e => ?_⟩
    dsimp only at e ⊢
    unfold zfX12_fits
    refine ok_lg (fun υ' e' => ?_)
    have : υ' = υ := e'.trans e.symm
    subst this
    refine ok_lg (fun J2 _ => ?_)
    rw [if_neg (fun c => (g_mk hυ).2.mp c h0), if_pos hx]
    refine rq_keptb hB hυ h0 (fun τ1 k1 k2 k3 => ?_)
    refine ok_lg (fun K3 hK3 => ?_)
    have fz : FrS σ υ' := fr.trans (by rw [e]; exact ⟨fun c hc => zst_n (by omega), fun k _ => by rw [zst_n (by omega)], fun k hk => zst_k (by omega)⟩)
    refine r_fits (x := x) (f := σ 696) (g := σ 697) hυ (hυ.ks hB) k1 n1 (by rw [fz.2.2 62 (by omega)]; exact n3) (fun k hk => ?_) (fun φ hkb => ?_)
    · rw [fz.1 731 (by omega), fz.1 732 (by omega)]
      have := n4 k hk
      exact ⟨this.2.2.1.symm, this.1.1, this.2.2.2.symm⟩
    · simp only [hK3]
      rw [hv]
      by_cases c : x = -1
      · rw [if_pos c, if_pos c, ok_s]; exact ⟨rfl, hkb.1⟩
      · rw [if_neg c, if_neg c, ok_s]; exact ⟨rfl, hkb.1⟩
  refine c_fits (x := x) (f := σ 696) (g := σ 697) hB hI h0 n1 n2 (fun k hk => ⟨rfl, (n4 k hk).1, rfl⟩) (fun τ fr hno => ?_) (fun m τ fr hm h => ?_)
  · simp only [hK1]
    by_cases c : x = -1
    · rw [if_pos c, ok_s]
      exact yes _ τ fr (by rw [if_pos c])
    · rw [if_neg c, ok_s]
      exact yes _ τ fr (by rw [if_neg c, frs_no hno])
  · simp only [hK2]
    rw [ok_s]
    have hl := fcn_le (p := fun m => fitQ P s (nI m) (σ 696) (σ 697) N) m
    have hx1 : ¬ x = -1 := fun e => n_ne1 (show fcn (fun m => fitQ P s (nI m) (σ 696) (σ 697) N) m < 2147483648 by omega) (h.2.trans e)
    refine yes _ τ fr ?_
    rw [if_neg hx1]
    have := (frs_on (p := fun m => fitQ P s (nI m) (σ 696) (σ 697) N) (x := x) (m := m) (by omega) h (2 ^ pn P - (m + 1)) (by omega)).1
    rw [show m + 1 + (2 ^ pn P - (m + 1)) = 2 ^ pn P by omega] at this
    exact this.symm
