/-! ===== the reference's board ===== -/
theorem r_insr {x : Nat} {v : Int32} {K : Int32 → Mm → Option Mm} (hx : x < 6) : ∀ p fu (υ : Mm), p < 6 → p < fu → υ 718 x = v → ∃ p' φ, zfX12_board_L73 K (nI x) fu (nI p) υ = K (nI p') φ ∧ p' ≤ p ∧ upd (φ 722) p' v = insR p (υ 722) v ∧ ∀ c, c ≠ 722 → φ c = υ c := by
  intro p
  induction p with
  | zero =>
    intro fu υ hp hf hv
    obtain ⟨fu, rfl⟩ : ∃ g, fu = g + 1 := ⟨fu - 1, by omega⟩
    refine ⟨0, υ, ?_, Nat.le_refl _, rfl, fun _ _ => rfl⟩
    unfold zfX12_board_L73
    rw [if_pos (by decide)]
  | succ p ih =>
    intro fu υ hp hf hv
    obtain ⟨fu, rfl⟩ : ∃ g, fu = g + 1 := ⟨fu - 1, by omega⟩
    have x1 : nI (p + 1) - 1 = nI p := by rw [show (1 : Int32) = nI 1 from rfl, n_sub (by omega)]; rfl
    have x2 : nI (p + 1) + (-1) = nI p := n_neg _
    have hin1 : inb (nI p) 6 := (n_in (by omega)).mpr (by omega)
    have hin2 : inb (nI (p + 1)) 6 := (n_in (by omega)).mpr (by omega)
    have hinx : inb (nI x) 6 := (n_in (by omega)).mpr hx
    have e : zfX12_board_L73 K (nI x) (fu + 1) (nI (p + 1)) υ = if υ 722 p ≤ v then K (nI (p + 1)) υ else zfX12_board_L73 K (nI x) fu (nI p) (zst υ 722 (p + 1) (υ 722 p)) := by
      conv => lhs; unfold zfX12_board_L73
      rw [if_neg (by rw [show (0 : Int32) = nI 0 from rfl, n_le (by omega) (by decide)]; omega), x1, x2]
      simp only [ck_t hin1, ck_t hin2, ck_t hinx, lt_p, n_ix (show p < 2147483648 by omega), n_ix (show p + 1 < 2147483648 by omega), n_ix (show x < 2147483648 by omega), hv]
    rw [e]
    unfold insR
    by_cases c : υ 722 p ≤ v
    · rw [if_pos c, if_pos c]
      exact ⟨p + 1, υ, rfl, Nat.le_refl _, rfl, fun _ _ => rfl⟩
    · rw [if_neg c, if_neg c]
      obtain ⟨p', φ, h1, h2, h3, h4⟩ := ih fu (zst υ 722 (p + 1) (υ 722 p)) (by omega) (by omega) (by rw [zst_n (by omega)]; exact hv)
      rw [zst_s] at h3
      exact ⟨p', φ, h1, by omega, h3, fun c hc => by rw [h4 c hc, zst_n hc]⟩
theorem r_insr_ok {x p fu : Nat} {v : Int32} {υ : Mm} {K : Int32 → Mm → Option Mm} {Q : Mm → Prop} (hx : x < 6) (hp : p < 6) (hf : p < fu) (hv : υ 718 x = v) (hK : ∀ p' φ, p' ≤ p → upd (φ 722) p' v = insR p (υ 722) v → (∀ c, c ≠ 722 → φ c = υ c) → Ok (K (nI p') φ) Q) : Ok (zfX12_board_L73 K (nI x) fu (nI p) υ) Q := by
  obtain ⟨p', φ, h1, h2, h3, h4⟩ := r_insr (K := K) hx p fu υ hp hf hv
  rw [h1]; exact hK p' φ h2 h3 h4
/-- the stranger's goods on the reference's side -/
def StrR (n N : Nat) (g0 gl : Nat → Nat) (σ : Mm) : Prop := N = n + 1 → ∃ d, σ 703 43 = nI (g0 n) ∧ σ 703 45 = nI d ∧ d ≤ g0 n ∧ gl n = g0 n - d
theorem r_board {n N : Nat} {gl g0 : Nat → Nat} {ask : Nat → Int32} {lead free : Int32} {σ : Mm} (hn : n ≤ 5) (hN : N = n ∨ N = n + 1) (h24 : σ 703 24 = nI n) (h42 : σ 703 42 = lead) (hfr : σ 710 1 = free) (hgl : ∀ k, k < n → σ 714 k = nI (gl k) ∧ σ 720 k = nI (g0 k)) (hg : ∀ k, k < N → gl k ≤ g0 k ∧ g0 k ≤ 99) (hask : ∀ k, k < N → σ 718 k = ask k)
    (hs : StrR n N g0 gl σ) (hs0 : N = n → σ 703 43 = 0 ∧ σ 703 45 = 0) :
    Ok (zfX12_board σ) (fun τ => τ 714 54 = boV lead free (lud gl ask N) ∧ (∀ k, k ≠ 54 → τ 714 k = σ 714 k) ∧ τ 703 46 = (if (lud gl ask N).1 = 0 then 1 else 0) ∧ (∀ k, k ≠ 46 → τ 703 k = σ 703 k) ∧ ∀ c, c ≠ 703 → c ≠ 714 → c ≠ 722 → τ c = σ c) := by
  unfold zfX12_board
  refine ok_lg (fun k140 hk140 => ?_)
  refine ok_up (F := fun fu (s : (Int32 × Int32) × Mm) => zfX12_board_L4 k140 fu s.1.1 s.1.2 s.2) (n + 1) (fun i s => s.1.1 = nI (lud gl ask (min i N)).1 ∧ s.1.2 = nI i ∧ (∀ j, j < (lud gl ask (min i N)).1 → s.2 722 j = (lud gl ask (min i N)).2 j) ∧ (∀ c, c ≠ 722 → s.2 c = σ c)) ?_ ?_ 0 NF ((0, 0), σ) ⟨by rw [Nat.zero_min]; rfl, rfl, fun j hj => by rw [Nat.zero_min] at hj; exact absurd hj (Nat.not_lt_zero j), fun _ _ => rfl⟩ (by omega) (by unfold NF; omega)
  · rintro i fu ⟨⟨x, y⟩, τ⟩ hi ⟨hx, hy, i1, i2⟩ hk
    have hx : x = nI (lud gl ask (min i N)).1 := hx
    have hy : y = nI i := hy
    subst hx hy
    have hmi : min i N = i := by omega
    rw [hmi] at i1 ⊢
    have i1 : ∀ j, j < (lud gl ask i).1 → τ 722 j = (lud gl ask i).2 j := i1
    have i2 : ∀ c, c ≠ 722 → τ c = σ c := i2
    have hle := lud_le (gl := gl) (ask := ask) i
    show Ok (zfX12_board_L4 k140 (fu + 1) (nI (lud gl ask i).1) (nI i) τ) _
    unfold zfX12_board_L4
    rw [i2 703 (by decide), h24, if_neg (by rw [n_lt (by omega) (by omega)]; omega)]
    refine ok_lg (fun j62 h62 => ?_)
    have hin : inb (nI i) 6 := (n_in (by omega)).mpr (by omega)
    have no : (N ≤ i ∨ gl i = 0) → Ok (j62 0 τ) (fun τ => τ 714 54 = boV lead free (lud gl ask N) ∧ (∀ k, k ≠ 54 → τ 714 k = σ 714 k) ∧ τ 703 46 = (if (lud gl ask N).1 = 0 then 1 else 0) ∧ (∀ k, k ≠ 46 → τ 703 k = σ 703 k) ∧ ∀ c, c ≠ 703 → c ≠ 714 → c ≠ 722 → τ c = σ c) := by
      intro h
      rw [h62]
      refine ok_lg (fun j134 h134 => ?_)
      rw [if_pos rfl, h134, ok_lt, show nI i + 1 = nI (i + 1) from n_add _ 1]
      have e : lud gl ask (min (i + 1) N) = lud gl ask i := by
        by_cases c : N ≤ i
        · congr 1; omega
        · rw [show min (i + 1) N = i + 1 by omega]
          conv => lhs; unfold lud
          rw [if_pos (h.resolve_left c)]
      exact hk ((nI (lud gl ask i).1, nI (i + 1)), τ) ⟨by rw [e], rfl, by rw [e]; exact i1, i2⟩
    have yes : i < N → gl i ≠ 0 → Ok (j62 1 τ) (fun τ => τ 714 54 = boV lead free (lud gl ask N) ∧ (∀ k, k ≠ 54 → τ 714 k = σ 714 k) ∧ τ 703 46 = (if (lud gl ask N).1 = 0 then 1 else 0) ∧ (∀ k, k ≠ 46 → τ 703 k = σ 703 k) ∧ ∀ c, c ≠ 703 → c ≠ 714 → c ≠ 722 → τ c = σ c) := by
      intro hiN h
      rw [h62]
      refine ok_lg (fun j134 h134 => ?_)
      rw [if_neg (by decide), ok_lt]
      have e : lud gl ask (min (i + 1) N) = ((lud gl ask i).1 + 1, insR (lud gl ask i).1 (lud gl ask i).2 (ask i)) := by
        rw [show min (i + 1) N = i + 1 by omega]
        conv => lhs; unfold lud
        rw [if_neg h]
      refine r_insr_ok (v := ask i) (show i < 6 by omega) (show (lud gl ask i).1 < 6 by omega) (show (lud gl ask i).1 < NF by unfold NF; omega) (by rw [i2 718 (by omega)]; exact hask i hiN) (fun p' φ j2 j3 j4 => ?_)
      rw [ck_t hin, ck_t ((n_in (by omega)).mpr (by omega)), ok_lt, ok_lt, n_ix (by omega), n_ix (by omega), j4 718 (by omega), i2 718 (by omega), hask i hiN, h134, ok_lt, show nI i + 1 = nI (i + 1) from n_add _ 1, show nI (lud gl ask i).1 + 1 = nI ((lud gl ask i).1 + 1) from n_add _ 1]
      refine hk ((nI ((lud gl ask i).1 + 1), nI (i + 1)), zst φ 722 p' (ask i)) ⟨by rw [e], rfl, fun j hj => ?_, fun c hc => by dsimp only; rw [zst_n hc, j4 c hc]; exact i2 c hc⟩
      rw [e] at hj ⊢
      dsimp only at hj ⊢
      rw [zst_s, j3]
      exact insR_agree i1 j hj
    by_cases ein : i = n
    · subst ein
      rw [if_pos rfl]
      rcases hN with hN | hN
      · obtain ⟨q1, q2⟩ := hs0 hN
        rw [q1, q2, if_pos (by decide)]
        exact no (Or.inl (by omega))
      · obtain ⟨d, q1, q2, q3, q4⟩ := hs hN
        have := (hg i (by omega)).2
        rw [q1, q2]
        by_cases c : g0 i ≤ d
        · rw [if_pos (by rw [n_le (by omega) (by omega)]; exact c)]
          exact no (Or.inr (by omega))
        · rw [if_neg (by rw [n_le (by omega) (by omega)]; exact c)]
          exact yes (by omega) (by omega)
    · have hne : ¬ nI i = nI n := by rw [n_eq (by omega) (by omega)]; exact ein
      obtain ⟨q1, q2⟩ := hgl i (by omega)
      obtain ⟨q3, q4⟩ := hg i (by omega)
      rw [if_neg hne, ck_t hin]
      refine ok_lg (fun j61 h61 => ?_)
      rw [n_ix (by omega), i2 720 (by decide), q2, i2 714 (by decide), q1]
      have ex : ∀ v : Nat, v ≤ 99 → ((nI v ≤ 0) ↔ v = 0) := fun v hv => by rw [show (0 : Int32) = nI 0 from rfl, n_le (by omega) (by decide)]; omega
      by_cases c0 : g0 i = 0
      · rw [if_pos ((ex _ q4).mpr c0), h61]
        exact no (Or.inr (by omega))
      · rw [if_neg (fun h => c0 ((ex _ q4).mp h)), ck_t ((n_in (by omega)).mpr (by omega))]
        by_cases c1 : gl i = 0
        · rw [if_pos ((ex _ (by omega)).mpr c1), h61]
          exact no (Or.inr c1)
        · rw [if_neg (fun h => c1 ((ex _ (by omega)).mp h))]
          exact yes (by omega) c1
  · rintro fu ⟨⟨x, y⟩, τ⟩ ⟨hx, hy, i1, i2⟩
    have hmN : min (n + 1) N = N := by omega
    rw [hmN] at i1
    have hx : x = nI (lud gl ask (min (n + 1) N)).1 := hx
    rw [hmN] at hx
    have hy : y = nI (n + 1) := hy
    subst hx hy
    have i1 : ∀ j, j < (lud gl ask N).1 → τ 722 j = (lud gl ask N).2 j := i1
    have i2 : ∀ c, c ≠ 722 → τ c = σ c := i2
    have hle := lud_le (gl := gl) (ask := ask) N
    show Ok (zfX12_board_L4 k140 (fu + 1) (nI (lud gl ask N).1) (nI (n + 1)) τ) _
    unfold zfX12_board_L4
    rw [i2 703 (by omega), h24, if_pos (by rw [n_lt (by omega) (by omega)]; omega)]
    simp only [hk140, lt_p]
    unfold boV
    generalize lud gl ask N = X at i1 hle ⊢
    obtain ⟨f, U⟩ := X
    dsimp only at i1 hle ⊢
    have fin : ∀ (y v : Int32), zbo y → Ok (some (zst (zst τ 703 46 y) 714 54 v)) (fun τ => τ 714 54 = v ∧ (∀ k, k ≠ 54 → τ 714 k = σ 714 k) ∧ τ 703 46 = y ∧ (∀ k, k ≠ 46 → τ 703 k = σ 703 k) ∧ ∀ c, c ≠ 703 → c ≠ 714 → c ≠ 722 → τ c = σ c) := by
      intro y v hy
      rw [ok_s]
      refine ⟨zst_v, fun k hk => by rw [zst_k hk, zst_n (by omega), i2 714 (by omega)], by rw [zst_n (by omega), zst_v], fun k hk => by rw [zst_n (by omega), zst_k hk, i2 703 (by omega)], fun c a1 a2 a3 => by rw [zst_n a2, zst_n a1, i2 c a3]⟩
    rw [show ix 54 = 54 by decide, show ix 1 = 1 by decide, show ix 0 = 0 by decide]
    by_cases c : f = 0
    · subst c
      rw [if_pos (show nI 0 = 0 from rfl), ck_t (Or.inr rfl), if_pos (show nI 0 = 0 from rfl), zst_n (show 710 ≠ 703 by decide), i2 710 (by decide), hfr, if_pos rfl, if_pos rfl]
      exact fin 1 free (Or.inr rfl)
    · have cn : ¬ nI f = 0 := by rw [show (0 : Int32) = nI 0 from rfl, n_eq (by omega) (by decide)]; exact c
      rw [if_neg cn, ck_t (Or.inl rfl), if_neg cn, if_neg c, if_neg c, zst_k (show 42 ≠ 46 by decide), i2 703 (by decide), h42, zst_n (show 722 ≠ 703 by decide)]
      have e1 : nI f - 1 = nI (f - 1) := by rw [show (1 : Int32) = nI 1 from rfl, n_sub (by omega)]
      rw [e1, n_half (by omega), ck_t ((n_in (by omega)).mpr (by omega)), ck_t ((n_in (by omega)).mpr (by omega)), n_ix (by omega), n_ix (by omega), i1 0 (by omega), i1 (f - 1) (by omega), i1 ((f - 1) / 2) (by omega)]
      by_cases l0 : lead = 0
      · rw [if_pos l0, if_pos l0]; exact fin 0 _ (Or.inl rfl)
      · rw [if_neg l0, if_neg l0]
        by_cases l1 : lead = 1
        · rw [if_pos l1, if_pos l1]; exact fin 0 _ (Or.inl rfl)
        · rw [if_neg l1, if_neg l1]; exact fin 0 _ (Or.inl rfl)
/-! ===== the reference closes a day ===== -/
theorem r_close {n : Nat} {gl ro : Nat → Nat} {σ : Mm} {K : Mm → Option Mm} {Q : Mm → Prop} (hn : n ≤ 5) (h24 : σ 703 24 = nI n) (hgl : ∀ k, k < n → σ 714 k = nI (gl k) ∧ gl k ≤ 99 ∧ σ 708 (3 * k + 2) = nI (ro k) ∧ ro k ≤ 99)
    (hK : ∀ τ, (∀ k, k < n → τ 714 k = nI (gl k - min (ro k) (gl k)) ∧ τ 714 (6 + k) = nI (gl k)) → (∀ j, (n ≤ j ∧ j < 6 ∨ 6 + n ≤ j) → τ 714 j = σ 714 j) → (∀ c, c ≠ 714 → τ c = σ c) → Ok (K τ) Q) : Ok (zfX12_goes_L315 K NF 0 σ) Q := by
  refine ok_up (F := fun fu (s : Int32 × Mm) => zfX12_goes_L315 K fu s.1 s.2) n (fun i s => s.1 = nI i ∧ (∀ k, k < i → s.2 714 k = nI (gl k - min (ro k) (gl k)) ∧ s.2 714 (6 + k) = nI (gl k)) ∧ (∀ j, (i ≤ j ∧ j < 6 ∨ 6 + i ≤ j) → s.2 714 j = σ 714 j) ∧ (∀ c, c ≠ 714 → s.2 c = σ c)) ?_ ?_ 0 NF (0, σ) ⟨rfl, fun k hk => absurd hk (Nat.not_lt_zero k), fun _ _ => rfl, fun _ _ => rfl⟩ (by omega) (by unfold NF; omega)
  · rintro i fu ⟨y, τ⟩ hi ⟨hy, h1, h2, h3⟩ hk
    have hy : y = nI i := hy
    subst hy
    have h1 : ∀ k, k < i → τ 714 k = nI (gl k - min (ro k) (gl k)) ∧ τ 714 (6 + k) = nI (gl k) := h1
    have h2 : ∀ j, (i ≤ j ∧ j < 6 ∨ 6 + i ≤ j) → τ 714 j = σ 714 j := h2
    have h3 : ∀ c, c ≠ 714 → τ c = σ c := h3
    obtain ⟨g1, g2, g3, g4⟩ := hgl i hi
    show Ok (zfX12_goes_L315 K (fu + 1) (nI i) τ) _
    unfold zfX12_goes_L315
    have e3 : (3 : Int32) * nI i = nI (3 * i) := n_mul 3 i
    have e32 : nI (3 * i) + 2 = nI (3 * i + 2) := n_add _ 2
    have e6 : (6 : Int32) + nI i = nI (6 + i) := n_add 6 i
    rw [h3 703 (by decide), h24, if_neg (by rw [n_le (by omega) (by omega)]; omega)]
    simp only [e3, e32, e6, show nI i + 1 = nI (i + 1) from n_add _ 1, ck_t (show inb (nI (3 * i + 2)) 15 from (n_in (by omega)).mpr (by omega)), ck_t (show inb (nI i) 57 from (n_in (by omega)).mpr (by omega)), ck_t (show inb (nI (6 + i)) 57 from (n_in (by omega)).mpr (by omega)), lt_p, n_ix (show i < 2147483648 by omega), n_ix (show 3 * i + 2 < 2147483648 by omega), n_ix (show 6 + i < 2147483648 by omega)]
    rw [h2 i (by omega), g1, zst_k (show i ≠ 6 + i by omega), h2 i (by omega), g1, zst_n (show 708 ≠ 714 by decide), h3 708 (by decide), g3, n_zmin (by omega) (by omega), Nat.min_comm, n_sub (Nat.min_le_right _ _)]
    refine hk (nI (i + 1), zst (zst τ 714 (6 + i) (nI (gl i))) 714 i (nI (gl i - min (ro i) (gl i)))) ⟨rfl, fun k hk => ?_, fun j hj => ?_, fun c hc => ?_⟩
    · dsimp only
      by_cases e : k = i
      · subst e; rw [zst_v, zst_k (by omega), zst_v]; exact ⟨rfl, rfl⟩
      · rw [zst_k (by omega), zst_k (by omega), zst_k (by omega), zst_k (by omega)]; exact h1 k (by omega)
    · dsimp only; rw [zst_k (by omega), zst_k (by omega)]; exact h2 j (by omega)
    · dsimp only; rw [zst_n hc, zst_n hc]; exact h3 c hc
  · rintro fu ⟨y, τ⟩ ⟨hy, h1, h2, h3⟩
    have hy : y = nI n := hy
    subst hy
    have h3 : ∀ c, c ≠ 714 → τ c = σ c := h3
    show Ok (zfX12_goes_L315 K (fu + 1) (nI n) τ) _
    unfold zfX12_goes_L315
    rw [h3 703 (by decide), h24, if_pos (by rw [n_le (by omega) (by omega)]; omega)]
    exact hK τ h1 h2 h3
