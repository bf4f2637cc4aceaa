/-! ===== the class leads the board ===== -/
def insR : Nat → (Nat → Int32) → Int32 → (Nat → Int32)
  | 0, U, v => upd U 0 v
  | k + 1, U, v => if U k ≤ v then upd U (k + 1) v else insR k (upd U (k + 1) (U k)) v
theorem insR_agree {v : Int32} : ∀ {f : Nat} {U U2 : Nat → Int32}, (∀ j, j < f → U j = U2 j) → ∀ j, j < f + 1 → insR f U v j = insR f U2 v j := by
  intro f
  induction f with
  | zero =>
    intro U U2 _ j hj
    have : j = 0 := by omega
    subst this
    unfold insR; rw [upd_s, upd_s]
  | succ f ih =>
    intro U U2 h j hj
    unfold insR
    rw [h f (by omega)]
    by_cases c : U2 f ≤ v
    · rw [if_pos c, if_pos c]
      by_cases e : j = f + 1
      · rw [e, upd_s, upd_s]
      · rw [upd_n e, upd_n e]; exact h j (by omega)
    · rw [if_neg c, if_neg c]
      by_cases e : j < f + 1
      · exact ih (fun j hj => by rw [upd_n (by omega), upd_n (by omega)]; exact h j (by omega)) j e
      · have : j = f + 1 := by omega
        subst this
        have hi : ∀ (k : Nat) (U : Nat → Int32) (n : Nat), k < n → insR k U v n = U n := by
          intro k
          induction k with
          | zero => intro U n hn; unfold insR; rw [upd_n (by omega)]
          | succ k ih2 =>
            intro U n hn
            unfold insR
            by_cases c : U k ≤ v
            · rw [if_pos c, upd_n (by omega)]
            · rw [if_neg c, ih2 _ _ (by omega), upd_n (by omega)]
        rw [hi _ _ _ (by omega), hi _ _ _ (by omega), upd_s, upd_s]
/-- what those asked who have some left, rising -/
def lud (gl : Nat → Nat) (ask : Nat → Int32) : Nat → Nat × (Nat → Int32)
  | 0 => (0, fun _ => 0)
  | k + 1 => if gl k = 0 then lud gl ask k else ((lud gl ask k).1 + 1, insR (lud gl ask k).1 (lud gl ask k).2 (ask k))
theorem lud_le {gl : Nat → Nat} {ask : Nat → Int32} : ∀ k, (lud gl ask k).1 ≤ k := by
  intro k
  induction k with
  | zero => exact Nat.le_refl _
  | succ k ih =>
    unfold lud
    by_cases c : gl k = 0
    · rw [if_pos c]; omega
    · rw [if_neg c]; dsimp only; omega
def boV (lead free : Int32) (x : Nat × (Nat → Int32)) : Int32 := if x.1 = 0 then free else if lead = 0 then x.2 0 else if lead = 1 then x.2 (x.1 - 1) else x.2 ((x.1 - 1) / 2)
theorem c_insr {q x : Nat} {v : Int32} {K : Int32 → Mm → Option Mm} (hx : x < 6) (hq : 43 ≤ q ∨ q + 9 < 37) : ∀ p fu (υ : Mm), p < 6 → p < fu → υ (q + 4) x = v → ∃ p' φ, zfX6_leadBoard_L27 K (nI x) q fu (nI p) υ = K (nI p') φ ∧ p' ≤ p ∧ upd (φ 41) p' v = insR p (υ 41) v ∧ ∀ c, c ≠ 41 → φ c = υ c := by
  intro p
  induction p with
  | zero =>
    intro fu υ hp hf hv
    obtain ⟨fu, rfl⟩ : ∃ g, fu = g + 1 := ⟨fu - 1, by omega⟩
    refine ⟨0, υ, ?_, Nat.le_refl _, rfl, fun _ _ => rfl⟩
    unfold zfX6_leadBoard_L27
    rw [if_pos (by decide)]
  | succ p ih =>
    intro fu υ hp hf hv
    obtain ⟨fu, rfl⟩ : ∃ g, fu = g + 1 := ⟨fu - 1, by omega⟩
    have x1 : nI (p + 1) - 1 = nI p := by rw [show (1 : Int32) = nI 1 from rfl, n_sub (by omega)]; rfl
    have x2 : nI (p + 1) + (-1) = nI p := n_neg _
    have hin1 : inb (nI p) 6 := (n_in (by omega)).mpr (by omega)
    have hin2 : inb (nI (p + 1)) 6 := (n_in (by omega)).mpr (by omega)
    have hinx : inb (nI x) 6 := (n_in (by omega)).mpr hx
    have e : zfX6_leadBoard_L27 K (nI x) q (fu + 1) (nI (p + 1)) υ = if υ 41 p ≤ v then K (nI (p + 1)) υ else zfX6_leadBoard_L27 K (nI x) q fu (nI p) (zst υ 41 (p + 1) (υ 41 p)) := by
      conv => lhs; unfold zfX6_leadBoard_L27
      rw [if_neg (by rw [show (0 : Int32) = nI 0 from rfl, n_le (by omega) (by decide)]; omega), x1, x2]
      simp only [ck_t hin1, ck_t hin2, ck_t hinx, lt_p, n_ix (show p < 2147483648 by omega), n_ix (show p + 1 < 2147483648 by omega), n_ix (show x < 2147483648 by omega), hv]
    rw [e]
    unfold insR
    by_cases c : υ 41 p ≤ v
    · rw [if_pos c, if_pos c]
      exact ⟨p + 1, υ, rfl, Nat.le_refl _, rfl, fun _ _ => rfl⟩
    · rw [if_neg c, if_neg c]
      obtain ⟨p', φ, h1, h2, h3, h4⟩ := ih fu (zst υ 41 (p + 1) (υ 41 p)) (by omega) (by omega) (by rw [zst_n (by omega)]; exact hv)
      rw [zst_s] at h3
      exact ⟨p', φ, h1, by omega, h3, fun c hc => by rw [h4 c hc, zst_n hc]⟩
theorem c_insr_ok {q x p fu : Nat} {v : Int32} {υ : Mm} {K : Int32 → Mm → Option Mm} {Q : Mm → Prop} (hx : x < 6) (hq : 43 ≤ q ∨ q + 9 < 37) (hp : p < 6) (hf : p < fu) (hv : υ (q + 4) x = v) (hK : ∀ p' φ, p' ≤ p → upd (φ 41) p' v = insR p (υ 41) v → (∀ c, c ≠ 41 → φ c = υ c) → Ok (K (nI p') φ) Q) : Ok (zfX6_leadBoard_L27 K (nI x) q fu (nI p) υ) Q := by
  obtain ⟨p', φ, h1, h2, h3, h4⟩ := c_insr (K := K) hx hq p fu υ hp hf hv
  rw [h1]; exact hK p' φ h2 h3 h4
theorem n_half {f : Nat} (h : f < 7) : nI f / 2 = nI (f / 2) := by
  have : f = 0 ∨ f = 1 ∨ f = 2 ∨ f = 3 ∨ f = 4 ∨ f = 5 ∨ f = 6 := by omega
  rcases this with rfl | rfl | rfl | rfl | rfl | rfl | rfl <;> decide
theorem c_lead {N q : Nat} {gl : Nat → Nat} {ask : Nat → Int32} {lead free : Int32} {σ : Mm} (hq : 43 ≤ q ∨ q + 9 < 37) (hq11 : 11 ≤ q) (hN : N ≤ 6) (h5 : σ 37 5 = nI N) (h4 : σ 37 4 = lead) (hfr : σ 3 4 = free) (hgl : ∀ k, k < N → σ (q + 1) k = nI (gl k) ∧ gl k ≤ 99) (hask : ∀ k, k < N → σ (q + 4) k = ask k) :
    Ok (zfX6_leadBoard q σ) (fun τ => τ q 0 = boV lead free (lud gl ask N) ∧ (∀ k, k ≠ 0 → τ q k = σ q k) ∧ τ 37 6 = (if (lud gl ask N).1 = 0 then 1 else 0) ∧ (∀ k, k ≠ 6 → τ 37 k = σ 37 k) ∧ ∀ c, c ≠ q → c ≠ 37 → c ≠ 41 → τ c = σ c) := by
  unfold zfX6_leadBoard
  refine ok_lg (fun k94 hk94 => ?_)
  refine ok_up (F := fun fu (s : (Int32 × Int32) × Mm) => zfX6_leadBoard_L4 k94 q fu s.1.1 s.1.2 s.2) N (fun i s => s.1.1 = nI (lud gl ask i).1 ∧ s.1.2 = nI i ∧ (∀ j, j < (lud gl ask i).1 → s.2 41 j = (lud gl ask i).2 j) ∧ (∀ c, c ≠ 41 → s.2 c = σ c)) ?_ ?_ 0 NF ((0, 0), σ) ⟨rfl, rfl, fun j hj => absurd hj (Nat.not_lt_zero j), fun _ _ => rfl⟩ (by omega) (by unfold NF; omega)
  · rintro i fu ⟨⟨x, y⟩, τ⟩ hi ⟨hx, hy, i1, i2⟩ hk
    have hx : x = nI (lud gl ask i).1 := hx
    have hy : y = nI i := hy
    subst hx hy
    have i1 : ∀ j, j < (lud gl ask i).1 → τ 41 j = (lud gl ask i).2 j := i1
    have i2 : ∀ c, c ≠ 41 → τ c = σ c := i2
    have hle := lud_le (gl := gl) (ask := ask) i
    show Ok (zfX6_leadBoard_L4 k94 q (fu + 1) (nI (lud gl ask i).1) (nI i) τ) _
    unfold zfX6_leadBoard_L4
    have hin : inb (nI i) 6 := (n_in (by omega)).mpr (by omega)
    obtain ⟨g1, g2⟩ := hgl i hi
    rw [i2 37 (by omega), h5, if_neg (by rw [n_le (by omega) (by omega)]; omega), ck_t hin, ok_lt, n_ix (by omega), i2 (q + 1) (by omega), g1]
    by_cases c0 : gl i = 0
    · rw [c0, if_pos (by decide), ok_lt, show nI i + 1 = nI (i + 1) from n_add _ 1]
      have e : lud gl ask (i + 1) = lud gl ask i := by
        conv => lhs; unfold lud
        rw [if_pos c0]
      exact hk ((nI (lud gl ask i).1, nI (i + 1)), τ) ⟨by rw [e], rfl, by rw [e]; exact i1, i2⟩
    · have cn : ¬ nI (gl i) = 0 := by rw [show (0 : Int32) = nI 0 from rfl, n_eq (by omega) (by decide)]; exact c0
      have e : lud gl ask (i + 1) = ((lud gl ask i).1 + 1, insR (lud gl ask i).1 (lud gl ask i).2 (ask i)) := by
        conv => lhs; unfold lud
        rw [if_neg c0]
      rw [if_neg cn, ok_lt]
      refine c_insr_ok (v := ask i) (show i < 6 by omega) hq (show (lud gl ask i).1 < 6 by omega) (show (lud gl ask i).1 < NF by unfold NF; omega) (by rw [i2 (q + 4) (by omega)]; exact hask i hi) (fun p' φ j2 j3 j4 => ?_)
      rw [ck_t hin, ck_t ((n_in (by omega)).mpr (by omega)), ok_lt, ok_lt, ok_lt, n_ix (by omega), j4 (q + 4) (by omega), i2 (q + 4) (by omega), hask i hi, show nI i + 1 = nI (i + 1) from n_add _ 1, show nI (lud gl ask i).1 + 1 = nI ((lud gl ask i).1 + 1) from n_add _ 1]
      refine hk ((nI ((lud gl ask i).1 + 1), nI (i + 1)), zst φ 41 p' (ask i)) ⟨by rw [e], rfl, fun j hj => ?_, fun c hc => by dsimp only; rw [zst_n hc, j4 c hc]; exact i2 c hc⟩
      rw [e] at hj ⊢
      dsimp only at hj ⊢
      rw [zst_s, j3]
      exact insR_agree i1 j hj
  · rintro fu ⟨⟨x, y⟩, τ⟩ ⟨hx, hy, i1, i2⟩
    have hx : x = nI (lud gl ask N).1 := hx
    have hy : y = nI N := hy
    subst hx hy
    have i1 : ∀ j, j < (lud gl ask N).1 → τ 41 j = (lud gl ask N).2 j := i1
    have i2 : ∀ c, c ≠ 41 → τ c = σ c := i2
    have hle := lud_le (gl := gl) (ask := ask) N
    show Ok (zfX6_leadBoard_L4 k94 q (fu + 1) (nI (lud gl ask N).1) (nI N) τ) _
    unfold zfX6_leadBoard_L4
    rw [i2 37 (by omega), h5, if_pos (by rw [n_le (by omega) (by omega)]; omega)]
    simp only [hk94, lt_p]
    unfold boV
    generalize lud gl ask N = X at i1 hle ⊢
    obtain ⟨f, U⟩ := X
    dsimp only at i1 hle ⊢
    have fin : ∀ (y v : Int32), zbo y → Ok (some (zst (zst τ 37 6 y) q 0 v)) (fun τ => τ q 0 = v ∧ (∀ k, k ≠ 0 → τ q k = σ q k) ∧ τ 37 6 = y ∧ (∀ k, k ≠ 6 → τ 37 k = σ 37 k) ∧ ∀ c, c ≠ q → c ≠ 37 → c ≠ 41 → τ c = σ c) := by
      intro y v hy
      rw [ok_s]
      refine ⟨zst_v, fun k hk => by rw [zst_k hk, zst_n (by omega), i2 q (by omega)], by rw [zst_n (by omega), zst_v], fun k hk => by rw [zst_n (by omega), zst_k hk, i2 37 (by omega)], fun c a1 a2 a3 => by rw [zst_n a1, zst_n a2, i2 c a3]⟩
    by_cases c : f = 0
    · subst c
      rw [if_pos (show nI 0 = 0 from rfl), ck_t (Or.inr rfl), zst_v, if_neg (by decide), zst_n (show 3 ≠ 37 by decide), i2 3 (by decide), hfr, if_pos rfl, if_pos rfl]
      exact fin 1 free (Or.inr rfl)
    · have cn : ¬ nI f = 0 := by rw [show (0 : Int32) = nI 0 from rfl, n_eq (by omega) (by decide)]; exact c
      rw [if_neg cn, ck_t (Or.inl rfl), zst_v, if_pos rfl, if_neg c, if_neg c, zst_k (show 4 ≠ 6 by decide), i2 37 (by decide), h4, zst_n (show 41 ≠ 37 by decide), show ix 0 = 0 by decide]
      have e1 : nI f - 1 = nI (f - 1) := by rw [show (1 : Int32) = nI 1 from rfl, n_sub (by omega)]
      rw [e1, n_half (by omega), ck_t ((n_in (by omega)).mpr (by omega)), ck_t ((n_in (by omega)).mpr (by omega)), n_ix (by omega), n_ix (by omega), i1 0 (by omega), i1 (f - 1) (by omega), i1 ((f - 1) / 2) (by omega)]
      by_cases l0 : lead = 0
      · rw [if_pos l0, if_pos l0]; exact fin 0 _ (Or.inl rfl)
      · rw [if_neg l0, if_neg l0]
        by_cases l1 : lead = 1
        · rw [if_pos l1, if_pos l1]; exact fin 0 _ (Or.inl rfl)
        · rw [if_neg l1, if_neg l1]; exact fin 0 _ (Or.inl rfl)
