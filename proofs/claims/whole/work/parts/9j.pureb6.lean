/-! ===== gates, once for all ===== -/
/-- a number from a to b -/
def Rok (a b : Nat) (x : Int32) : Prop := ∃ d, a ≤ d ∧ d ≤ b ∧ x = nI d
theorem rok_iff {a b : Nat} {x : Int32} (hb : b < 1000000) : Rok a b x ↔ (a : Int) ≤ x.toInt ∧ x.toInt ≤ b := by
  constructor
  · rintro ⟨d, h1, h2, rfl⟩
    rw [n_ti (by omega)]; omega
  · intro h
    refine ⟨ix x, ?_, ?_, n_of (by omega)⟩
    · unfold ix Int32.toNatClampNeg; omega
    · unfold ix Int32.toNatClampNeg; omega
theorem g_in {a b : Nat} {x : Int32} (ha : a < 1000000) (hb : b < 1000000) : zfX12_isIn x.toInt64 (Int32.toInt64 (nI a)) (Int32.toInt64 (nI b)) = 0 ↔ ¬ Rok a b x := by
  rw [r_isIn, rok_iff hb]
  have e0 : x < nI a ↔ x.toInt < a := by rw [Int32.lt_iff_toInt_lt, n_ti (by omega)]
  have e2 : nI b < x ↔ (b : Int) < x.toInt := by rw [Int32.lt_iff_toInt_lt, n_ti (by omega)]
  by_cases c : x < nI a ∨ nI b < x
  · rw [if_pos c]
    have c2 : x.toInt < a ∨ (b : Int) < x.toInt := c.imp e0.mp e2.mp
    exact ⟨fun _ => by omega, fun _ => rfl⟩
  · rw [if_neg c]
    have c2 : ¬ (x.toInt < a ∨ (b : Int) < x.toInt) := fun h => c (h.imp e0.mpr e2.mpr)
    exact ⟨fun h => absurd h (by decide), fun h => by omega⟩
theorem g_in1 {x : Int32} : zfX12_isIn x.toInt64 0 1 = 0 ↔ ¬ Rok 0 1 x := g_in (a := 0) (b := 1) (by omega) (by omega)
theorem g_in2 {x : Int32} : zfX12_isIn x.toInt64 0 2 = 0 ↔ ¬ Rok 0 2 x := g_in (a := 0) (b := 2) (by omega) (by omega)
theorem g_in20 {x : Int32} : zfX12_isIn x.toInt64 0 20 = 0 ↔ ¬ Rok 0 20 x := g_in (a := 0) (b := 20) (by omega) (by omega)
theorem g_in99 {x : Int32} : zfX12_isIn x.toInt64 1 99 = 0 ↔ ¬ Rok 1 99 x := g_in (a := 1) (b := 99) (by omega) (by omega)
theorem g_in10 {x : Int32} : zfX12_isIn x.toInt64 1 10 = 0 ↔ ¬ Rok 1 10 x := g_in (a := 1) (b := 10) (by omega) (by omega)
theorem g_in3 {x : Int32} : zfX12_isIn x.toInt64 1 3 = 0 ↔ ¬ Rok 1 3 x := g_in (a := 1) (b := 3) (by omega) (by omega)
theorem g_in30 {x : Int32} : zfX12_areDays x = 0 ↔ ¬ Rok 1 30 x := by
  have := g_in (a := 1) (b := 30) (x := x) (by omega) (by omega)
  unfold zfX12_areDays
  exact this
theorem g_rng {a b : Nat} {x : Int32} (ha : a < 1000000) (hb : b < 1000000) : (¬ x < nI a ∧ ¬ nI b < x) ↔ Rok a b x := by
  rw [rok_iff hb]
  have e0 : x < nI a ↔ x.toInt < a := by rw [Int32.lt_iff_toInt_lt, n_ti (by omega)]
  have e2 : nI b < x ↔ (b : Int) < x.toInt := by rw [Int32.lt_iff_toInt_lt, n_ti (by omega)]
  rw [e0, e2]; omega
theorem g_what {m : Nat} {x : Int32} (hm : m < 100) : zfX11_noWhat x (nI m) = 0 ↔ Rok 0 m x := by
  have h := q_what2 (x := x) m hm
  constructor
  · intro c
    obtain ⟨d, h1, h2⟩ := (h.1 c).2
    exact ⟨d, by omega, h1, h2⟩
  · intro c
    refine Classical.byContradiction fun c2 => ?_
    exact (g_in (a := 0) (b := m) (by omega) (by omega)).mp (h.2 c2) c
theorem g_what1 {x : Int32} : zfX11_noWhat x 1 = 0 ↔ Rok 0 1 x := g_what (m := 1) (by omega)
theorem g_what2 {x : Int32} : zfX11_noWhat x 2 = 0 ↔ Rok 0 2 x := g_what (m := 2) (by omega)
theorem g_price {x : Int32} : zfX11_noPrice x = 0 ↔ Rok 0 20 x := by
  have h := q_price (x := x)
  constructor
  · intro c; exact ⟨ix x, by omega, (h.1 c).2.2, (h.1 c).2.1⟩
  · intro c
    exact Classical.byContradiction fun c2 => g_in20.mp (h.2 c2) c
theorem g_sel {B : Nat} {P : Pm} {rc : Nat} {s σ : Mm} (h : Ivx B P rc s σ) {x : Int32} : (zfX11_isSeller x σ = 0 ↔ ¬ ∃ i, i < pn P ∧ x = nI i) ∧ (zfX12_isSeller x σ = 0 ↔ ¬ ∃ i, i < pn P ∧ x = nI i) := by
  have hs := q_sel (σ := σ) (τ := σ) (x := x) h.n.1 h.n.2.1 h.n.2.2
  have k1 : ∀ i, i < pn P → x = nI i → ¬ zfX11_isSeller x σ = 0 := fun i h1 h2 c => by
    unfold zfX11_isSeller at c
    rw [lt_p] at c
    have hn := h.n.1
    rw [h2, if_neg (n_nlt0 (by omega)), h.n.2.1, if_neg (by rw [n_le (by omega) (by omega)]; omega)] at c
    exact absurd c (by decide)
  refine ⟨⟨fun c hx => ?_, fun hx => ?_⟩, ⟨fun c hx => ?_, fun hx => ?_⟩⟩
  · obtain ⟨i, h1, h2⟩ := hx
    exact k1 i h1 h2 c
  · exact Classical.byContradiction fun c => hx (hs.1 c).2
  · obtain ⟨i, h1, h2⟩ := hx
    exact (hs.1 (k1 i h1 h2)).1 c
  · exact hs.2 (Classical.byContradiction fun c => hx (hs.1 c).2)
theorem g_days {B : Nat} {P : Pm} {rc : Nat} {s σ : Mm} (h : Ivx B P rc s σ) {x : Int32} : (zfX11_noDays x σ = 0 ↔ 0 < pn P ∧ Rok 1 30 x) ∧ (zfX12_isReady x σ = 0 ↔ ¬ (0 < pn P ∧ Rok 1 30 x)) := by
  have hd := q_days2 (σ := σ) (τ := σ) (x := x) h.n.1 h.n.2.1 h.n.2.2
  have k : 0 < pn P ∧ Rok 1 30 x → ¬ zfX12_isReady x σ = 0 := fun ⟨h0, hx⟩ c => by
    unfold zfX12_isReady at c
    rw [lt_p] at c
    have hn := h.n.1
    rw [h.n.2.2, if_neg (by rw [show (0 : Int32) = nI 0 from rfl, n_le (by omega) (by omega)]; omega), if_neg (fun g => g_in30.mp g hx)] at c
    exact absurd c (by decide)
  refine ⟨⟨fun c => ?_, fun hx => ?_⟩, ⟨fun c hx => k hx c, fun hx => ?_⟩⟩
  · obtain ⟨_, h0, d, h1, h2, h3⟩ := hd.1 c
    exact ⟨h0, d, h1, h2, h3⟩
  · exact Classical.byContradiction fun c => k hx (hd.2 c)
  · refine hd.2 (fun c => hx ?_)
    obtain ⟨_, h0, d, h1, h2, h3⟩ := hd.1 c
    exact ⟨h0, d, h1, h2, h3⟩
theorem g_mk {B : Nat} {P : Pm} {rc : Nat} {s σ : Mm} (h : Ivx B P rc s σ) : (zfX11_noMarket σ = 0 ↔ 0 < pn P) ∧ (σ 703 24 = 0 ↔ ¬ 0 < pn P) := by
  have hn := h.n
  refine ⟨(q_nom hn.1 hn.2.1).1, ?_⟩
  rw [hn.2.2, show (0 : Int32) = nI 0 from rfl, n_eq (by omega) (by omega)]
  omega
theorem q_gen {B : Nat} {F G : Mm → Option (Int32 × Mm)} (v : Int32) (A : Pm → Prop)
    (hF : ∀ P rc s σ, Ivx B P rc s σ → ¬ A P → F σ = some (v, σ)) (hG : ∀ P rc s σ, Ivx B P rc s (zst σ 703 0 0) → ¬ A P → G σ = some (v, zst σ 703 0 0))
    (h : ∀ P rc s σ, Ivx B P rc s σ → A P → Ok (F σ) (fun a => FrS σ a.2 ∧ ∀ υ, Ivx B P rc s υ → υ = zst a.2 703 0 0 → Ok (G a.2) (fun b => b.1 = a.1 ∧ FrS υ b.2))) : Qy B F G := by
  refine q_pure (fun P rc s σ hI => ?_)
  by_cases c : A P
  · exact h P rc s σ hI c
  · rw [hF P rc s σ hI c, ok_s]
    refine ⟨FrS.refl, fun υ hυ e => ?_⟩
    dsimp only at e ⊢
    subst e
    rw [hG P rc s σ hυ c, ok_s]
    exact ⟨rfl, FrS.refl⟩
