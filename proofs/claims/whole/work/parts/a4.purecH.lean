/-! ===== rest: the class counts ===== -/
theorem c_atRest {P : Pm} {p row : Nat} {s τ : Mm} (h0 : 0 < pn P) (h3 : pn P ≤ 3) (hp0 : 0 < p) (hp21 : p ≤ 21) (hr : row < p ^ pn P) (hn : τ 3 0 = nI (pn P)) (hh : τ 27 3 = s 0 3) (hT : ∀ r, r < p ^ pn P → ∀ k, k < pn P → τ (82 + k) r = tkF P s (rF p (pn P) r) k) :
    Ok (zfX7_isAtRest (nI row) (nI p) τ) (fun r => Fl r (ARw P s p row)) := by
  have hpw := pow_rows hp21 h3
  have hpi : ∀ i, i ≤ pn P → p ^ i ≤ p ^ pn P := fun i hi => Nat.pow_le_pow_right hp0 hi
  have hp1 : ∀ i, 0 < p ^ i := fun i => by
    have := Nat.pow_le_pow_left (show 1 ≤ p from hp0) i
    rw [Nat.one_pow] at this
    exact this
  have hp0' : ¬ nI p = 0 := by rw [show (0 : Int32) = nI 0 from rfl, n_eq (by omega) (by omega)]; omega
  unfold zfX7_isAtRest
  rw [hn, show (3 : Int32) = nI 3 from rfl, n_zmin (by omega) (by omega), Nat.min_eq_left h3]
  refine ok_lg (fun x4 hx4 => ?_)
  subst hx4
  refine ok_lg (fun k32 h32 => ?_)
  refine ok_lg (fun k61 h61 => ?_)
  refine ok_lg (fun k143 h143 => ?_)
  refine ok_lg (fun k161 h161 => ?_)
  refine ok_up (F := fun fu (x : Int32 × Int32) => zfX7_isAtRest_L17 k161 k32 (nI p) (nI row) k143 τ k61 fu x.1 x.2) (pn P) (fun i x => x.1 = nI (p ^ i) ∧ x.2 = nI (pn P - i) - 1 ∧ ∀ k, pn P - i ≤ k → k < pn P → (hob (s 0 3) k → loD p (pn P - 1 - k) row + 1 = p) ∧ (¬ hob (s 0 3) k → ∀ j, j < p → tkF P s (rF p (pn P) (chD p (pn P - 1 - k) row j)) k ≤ tkF P s (rF p (pn P) row) k)) ?_ ?_ 0 NF (1, nI (pn P) - 1) ⟨rfl, rfl, fun k h1 h2 => by omega⟩ (by omega) (by unfold NF; omega)
  · rintro i fu ⟨x, y⟩ hi ⟨hx, hy, g⟩ hk
    have hx : x = nI (p ^ i) := hx
    subst hx
    have hy : y = nI (pn P - i) - 1 := hy
    have hy2 : y = nI (pn P - 1 - i) := by rw [hy, show (1 : Int32) = nI 1 from rfl, n_sub (by omega)]; congr 1; omega
    subst hy2
    have g : ∀ k, pn P - i ≤ k → k < pn P → (hob (s 0 3) k → loD p (pn P - 1 - k) row + 1 = p) ∧ (¬ hob (s 0 3) k → ∀ j, j < p → tkF P s (rF p (pn P) (chD p (pn P - 1 - k) row j)) k ≤ tkF P s (rF p (pn P) row) k) := g
    have hpi1 := hpi i (by omega)
    have hpi0 := hp1 i
    have hpi0' : ¬ nI (p ^ i) = 0 := by rw [show (0 : Int32) = nI 0 from rfl, n_eq (by omega) (by omega)]; omega
    have hd : row / p ^ i ≤ row := Nat.div_le_self _ _
    have hlt := loD_lt (p := p) (i := i) (row := row) hp0
    have hle := loD_le (p := p) (i := i) (row := row)
    show Ok (zfX7_isAtRest_L17 k161 k32 (nI p) (nI row) k143 τ k61 (fu + 1) (nI (p ^ i)) (nI (pn P - 1 - i))) _
    unfold zfX7_isAtRest_L17
    rw [if_neg (n_nlt0 (by omega)), if_neg (show ¬ nI (p ^ i) < 1 by rw [show (1 : Int32) = nI 1 from rfl, n_lt (by omega) (by omega)]; omega), if_pos (show (1 : Int32) ≤ nI p by rw [show (1 : Int32) = nI 1 from rfl, n_le (by omega) (by omega)]; omega), ck_t hpi0', ck_t hp0', i_div (by omega) hpi0 (by omega), i_mod (by omega) hp0 (by omega)]
    refine ok_lg (fun x5 hx5 => ?_)
    have hx5 : x5 = nI (loD p i row) := hx5
    subst hx5
    have ek : pn P - 1 - (pn P - 1 - i) = i := by omega
    refine ok_lg (fun J hJ => ?_)
    have go : (hob (s 0 3) (pn P - 1 - i) → loD p i row + 1 = p) → Ok (J ()) (fun r => Fl r (ARw P s p row)) := fun hg => by
      simp only [hJ]
      rw [n_mul, n_sub hle]
      refine ok_lg (fun x6 hx6 => ?_)
      subst hx6
      refine ok_lg (fun K143 hK143 => ?_)
      refine ok_lg (fun K151 hK151 => ?_)
      have next : (¬ hob (s 0 3) (pn P - 1 - i) → ∀ j, j < p → tkF P s (rF p (pn P) (chD p i row j)) (pn P - 1 - i) ≤ tkF P s (rF p (pn P) row) (pn P - 1 - i)) → Ok (K151 ()) (fun r => Fl r (ARw P s p row)) := fun hj => by
        simp only [hK151]
        refine ok_lg (fun x3 hx3 => ?_)
        refine ok_lg (fun x4 hx4 => ?_)
        refine hk (x3, x4) ⟨?_, ?_, fun k a b => ?_⟩
        · dsimp only; rw [hx3, n_mul, Nat.pow_succ]
        · dsimp only
          rw [hx4, show pn P - (i + 1) = pn P - 1 - i by omega]; grind
        · by_cases e : k = pn P - 1 - i
          · subst e; rw [ek]; exact ⟨hg, hj⟩
          · exact g k (by omega) b
      refine ok_up (F := fun fu (x : Int32) => zfX7_isAtRest_L74 (nI p) K151 (nI (pn P - 1 - i)) τ (nI (row - loD p i row * p ^ i)) (nI (p ^ i)) (nI row) K143 fu x) p (fun j x => x = nI j ∧ (¬ hob (s 0 3) (pn P - 1 - i) → ∀ j', j' < j → tkF P s (rF p (pn P) (chD p i row j')) (pn P - 1 - i) ≤ tkF P s (rF p (pn P) row) (pn P - 1 - i))) ?_ ?_ 0 NF 0 ⟨rfl, fun _ j hj => absurd hj (Nat.not_lt_zero j)⟩ (by omega) (by unfold NF; omega)
      · rintro j fu2 x hj ⟨hx, hno⟩ hk2
        subst hx
        show Ok (zfX7_isAtRest_L74 (nI p) K151 (nI (pn P - 1 - i)) τ (nI (row - loD p i row * p ^ i)) (nI (p ^ i)) (nI row) K143 (fu2 + 1) (nI j)) _
        unfold zfX7_isAtRest_L74
        rw [if_neg (by rw [n_le (by omega) (by omega)]; omega)]
        by_cases ch : hob (s 0 3) (pn P - 1 - i)
        · rw [if_neg (fun h => by rw [c_hold, hh] at h; exact h ch)]
          exact next (fun h => absurd ch h)
        · rw [if_pos (by rw [c_hold, hh]; exact ch), n_mul, n_add]
          have hcl : chD p i row j < p ^ pn P := chD_lt (by omega) hr hj
          refine ok_lg (fun x8 hx8 => ?_)
          have hx8 : x8 = nI (chD p i row j) := hx8
          subst hx8
          refine ok_lg (fun J2 hJ2 => ?_)
          have hin : inb (nI (pn P - 1 - i)) 3 := (n_in (by omega)).mpr (by omega)
          rw [if_neg (by rw [show (9261 : Int32) = nI 9261 from rfl, n_le (by omega) (by omega)]; omega), if_neg (n_nlt0 (by omega)), if_neg (by rw [show (9261 : Int32) = nI 9261 from rfl, n_le (by omega) (by omega)]; omega), ck_t hin, ck_t ((n_in (by omega)).mpr (by omega)), ck_t hin, ck_t ((n_in (by omega)).mpr (by omega)), n_ix (by omega), n_ix (by omega), n_ix (by omega), hT _ hcl _ (by omega), hT _ hr _ (by omega)]
          by_cases c : tkF P s (rF p (pn P) (chD p i row j)) (pn P - 1 - i) ≤ tkF P s (rF p (pn P) row) (pn P - 1 - i)
          · rw [if_pos c]
            simp only [hJ2]
            refine ok_lg (fun y2 ey => ?_)
            rw [show nI j + 1 = nI (j + 1) from n_add _ 1] at ey
            refine hk2 y2 ⟨ey, fun h j' hj' => ?_⟩
            by_cases e : j' = j
            · subst e; exact c
            · exact hno h j' (by omega)
          · rw [if_neg c]
            simp only [hK143, h143]
            rw [ok_s]
            refine Or.inl ⟨rfl, fun h => c ?_⟩
            have := h.1 (pn P - 1 - i) (by omega) ch j hj
            rw [ek] at this
            exact this
      · rintro fu2 x ⟨hx, hno⟩
        subst hx
        show Ok (zfX7_isAtRest_L74 (nI p) K151 (nI (pn P - 1 - i)) τ (nI (row - loD p i row * p ^ i)) (nI (p ^ i)) (nI row) K143 (fu2 + 1) (nI p)) _
        unfold zfX7_isAtRest_L74
        rw [if_pos (Int32.le_refl _)]
        exact next hno
    by_cases ch : hob (s 0 3) (pn P - 1 - i)
    · rw [if_neg (fun h => by rw [c_hold, hh] at h; exact h ch)]
      by_cases c : loD p i row + 1 = p
      · rw [if_pos (by rw [show (1 : Int32) = nI 1 from rfl, n_sub (by omega)]; congr 1; omega)]
        exact go (fun _ => c)
      · rw [if_neg (by rw [show (1 : Int32) = nI 1 from rfl, n_sub (by omega), n_eq (by omega) (by omega)]; omega)]
        simp only [h61]
        rw [ok_s]
        refine Or.inl ⟨rfl, fun h => c ?_⟩
        have := h.2 (pn P - 1 - i) (by omega) ch
        rw [ek] at this
        exact this
    · rw [if_pos (by rw [c_hold, hh]; exact ch)]
      exact go (fun h => absurd h ch)
  · rintro fu ⟨x, y⟩ ⟨hx, hy, g⟩
    have hy : y = nI (pn P - pn P) - 1 := hy
    rw [Nat.sub_self] at hy
    subst hy
    have g : ∀ k, pn P - pn P ≤ k → k < pn P → (hob (s 0 3) k → loD p (pn P - 1 - k) row + 1 = p) ∧ (¬ hob (s 0 3) k → ∀ j, j < p → tkF P s (rF p (pn P) (chD p (pn P - 1 - k) row j)) k ≤ tkF P s (rF p (pn P) row) k) := g
    show Ok (zfX7_isAtRest_L17 k161 k32 (nI p) (nI row) k143 τ k61 (fu + 1) x (nI 0 - 1)) _
    unfold zfX7_isAtRest_L17
    rw [if_pos (by decide)]
    simp only [h161]
    rw [ok_s]
    exact Or.inr ⟨rfl, fun k hk => (g k (by omega) hk).2, fun k hk => (g k (by omega) hk).1⟩
theorem c_hun {n p row : Nat} {τ : Mm} (hn : n ≤ 3) (hp0 : 0 < p) (hp21 : p ≤ 21) (hr : row < 10000) (h3 : τ 3 0 = nI n) : Ok (zfX7_inHundreds (nI row) (nI p) τ) (fun r => r = nI (hun p n row)) := by
  unfold zfX7_inHundreds
  refine ok_lg (fun K hK => ?_)
  have hp0' : ¬ nI p = 0 := by rw [show (0 : Int32) = nI 0 from rfl, n_eq (by omega) (by omega)]; omega
  refine ok_up (F := fun fu (x : Int32 × Int32 × Int32 × Int32) => zfX7_inHundreds_L11 τ K (nI p) fu x.1 x.2.1 x.2.2.1 x.2.2.2) n (fun i x => ∃ v d, x.1 = nI v ∧ x.2.1 = nI (100 ^ i) ∧ x.2.2.1 = nI d ∧ x.2.2.2 = nI i ∧ d < 10000 ∧ v + 100 ^ i * hun p (n - i) d = hun p n row) ?_ ?_ 0 NF (0, 1, nI row, 0) ⟨0, row, rfl, rfl, rfl, rfl, hr, by rw [Nat.pow_zero, Nat.one_mul, Nat.zero_add]; rfl⟩ (by omega) (by unfold NF; omega)
  · rintro i fu ⟨a, b, c, y⟩ hi ⟨v, d, ha, hb, hc, hy, hd, hv⟩ hk
    have ha : a = nI v := ha
    have hb : b = nI (100 ^ i) := hb
    have hc : c = nI d := hc
    have hy : y = nI i := hy
    subst ha hb hc hy
    show Ok (zfX7_inHundreds_L11 τ K (nI p) (fu + 1) (nI v) (nI (100 ^ i)) (nI d) (nI i)) _
    unfold zfX7_inHundreds_L11
    rw [h3, if_neg (by rw [n_le (by omega) (by omega)]; omega), if_neg (by rw [show (3 : Int32) = nI 3 from rfl, n_le (by omega) (by omega)]; omega), if_neg (by rw [show (0 : Int32) = nI 0 from rfl, n_le (by omega) (by omega)]; omega), ck_t hp0', i_mod (by omega) hp0 (by omega), n_mul, n_add]
    refine ok_lg (fun a2 ea => ?_)
    rw [ck_t hp0', i_div (by omega) hp0 (by omega)]
    refine ok_lg (fun c2 ec => ?_)
    refine ok_lg (fun b2 eb => ?_)
    refine ok_lg (fun y2 ey => ?_)
    rw [show nI i + 1 = nI (i + 1) from n_add _ 1] at ey
    rw [show nI (100 ^ i) * 100 = nI (100 ^ i * 100) from n_mul _ 100] at eb
    have hdp : d / p ≤ d := Nat.div_le_self _ _
    refine hk (a2, b2, c2, y2) ⟨v + d % p * 100 ^ i, d / p, ea, eb.trans (by rw [Nat.pow_succ]), ec, ey, by omega, ?_⟩
    rw [← hv]
    obtain ⟨m, hm⟩ : ∃ m, n - i = m + 1 := ⟨n - i - 1, by omega⟩
    rw [hm, show n - (i + 1) = m by omega]
    show _ = v + 100 ^ i * (d % p + 100 * hun p m (d / p))
    rw [Nat.pow_succ, Nat.mul_add, Nat.mul_comm (d % p), Nat.mul_assoc]
    omega
  · rintro fu ⟨a, b, c, y⟩ ⟨v, d, ha, hb, hc, hy, hd, hv⟩
    have ha : a = nI v := ha
    have hy : y = nI n := hy
    subst ha hy
    show Ok (zfX7_inHundreds_L11 τ K (nI p) (fu + 1) (nI v) b c (nI n)) _
    unfold zfX7_inHundreds_L11
    rw [h3, if_pos (Int32.le_refl _), hK, ok_s]
    rw [Nat.sub_self] at hv
    have e0 : hun p 0 d = 0 := rfl
    rw [e0, Nat.mul_zero, Nat.add_zero] at hv
    rw [hv]
theorem c_rests {B : Nat} {P : Pm} {rc p : Nat} {x : Int32} {s σ : Mm} (hB : B < 900000) (hI : Ivx B P rc s σ) (h0 : 0 < pn P) (h3 : pn P ≤ 3) (hp : s 0 0 = nI (p - 1)) (hp0 : 0 < p) (hp21 : p ≤ 21) :
    Ok (zfX7_findRests x σ) (fun b => FrS σ b.2 ∧ ∃ v0, b.1 = nI (fo (rsp P s p x) 0 (p ^ pn P) (0, v0)).1 ∧ b.2 79 13 = (fo (rsp P s p x) 0 (p ^ pn P) (0, v0)).2) := by
  have hn := hI.n
  have hpw := pow_rows hp21 h3
  have hst := hI.2.2.2.2.1.1.1
  unfold zfX7_findRests
  have e27 : σ 27 0 + 1 = nI p := by rw [hst.1 0 (by omega), hp, show (1 : Int32) = nI 1 from rfl, n_add, show p - 1 + 1 = p by omega]
  rw [e27]
  refine ok_lg (fun x2 hx2 => ?_)
  subst hx2
  refine ok_lg (fun K43 hK43 => ?_)
  refine ok_up (F := fun fu (x : Int32 × Int32) => zfX7_findRests_L15 K43 (nI p) fu x.1 x.2 σ) (pn P) (fun i x => x.1 = nI (p ^ i) ∧ x.2 = nI i) ?_ ?_ 0 NF (1, 0) ⟨rfl, rfl⟩ (by omega) (by unfold NF; omega)
  · rintro i fu ⟨a, y⟩ hi ⟨ha, hy⟩ hk
    have ha : a = nI (p ^ i) := ha
    have hy : y = nI i := hy
    subst ha hy
    show Ok (zfX7_findRests_L15 K43 (nI p) (fu + 1) (nI (p ^ i)) (nI i) σ) _
    unfold zfX7_findRests_L15
    rw [hn.2.1, if_neg (by rw [n_le (by omega) (by omega)]; omega), if_neg (by rw [show (3 : Int32) = nI 3 from rfl, n_le (by omega) (by omega)]; omega)]
    refine ok_lg (fun a2 ea => ?_)
    refine ok_lg (fun y2 ey => ?_)
    rw [show nI i + 1 = nI (i + 1) from n_add _ 1] at ey
    exact hk (a2, y2) ⟨by dsimp only; rw [ea, n_mul, Nat.pow_succ], ey⟩
  · rintro fu ⟨a, y⟩ ⟨ha, hy⟩
    have ha : a = nI (p ^ pn P) := ha
    have hy : y = nI (pn P) := hy
    subst ha hy
    show Ok (zfX7_findRests_L15 K43 (nI p) (fu + 1) (nI (p ^ pn P)) (nI (pn P)) σ) _
    unfold zfX7_findRests_L15
    rw [hn.2.1, if_pos (Int32.le_refl _)]
    simp only [hK43]
    rw [show (9261 : Int32) = nI 9261 from rfl, n_zmin (by omega) (by omega), Nat.min_eq_left hpw]
    refine ok_lg (fun x3 hx3 => ?_)
    subst hx3
    rw [ok_bd]
    refine ok_mono (c_fill hB hI h0 h3 hp hp0 hp21) (fun τ hτ => ?_)
    obtain ⟨t1, t2⟩ := hτ
    refine ok_lg (fun K hK => ?_)
    have v3 : τ 3 0 = nI (pn P) := by rw [t2.1 3 (by omega)]; exact hn.2.1
    have v27 : τ 27 3 = s 0 3 := by rw [t2.1 27 (Or.inr (Or.inl ⟨by omega, by omega, stk_n (by omega)⟩))]; exact hst.1 3 (by omega)
    refine ok_up (F := fun fu (y : Int32 × Int32 × Mm) => zfX7_findRests_L63 (nI (p ^ pn P)) K (nI p) x fu y.1 y.2.1 y.2.2) (p ^ pn P) (fun r y => y.1 = nI (fo (rsp P s p x) 0 r (0, τ 79 13)).1 ∧ y.2.1 = nI r ∧ y.2.2 79 13 = (fo (rsp P s p x) 0 r (0, τ 79 13)).2 ∧ ∀ c, c ≠ 79 → y.2.2 c = τ c) ?_ ?_ 0 NF (0, 0, τ) ⟨rfl, rfl, rfl, fun _ _ => rfl⟩ (by omega) (by unfold NF; omega)
    · rintro r fu ⟨c, y, φ⟩ hr ⟨hc, hy, g1, g2⟩ hk
      have hc : c = nI (fo (rsp P s p x) 0 r (0, τ 79 13)).1 := hc
      have hy : y = nI r := hy
      subst hy
      subst hc
      have g1' : φ 79 13 = (fo (rsp P s p x) 0 r (0, τ 79 13)).2 := g1
      have g2' : ∀ c, c ≠ 79 → φ c = τ c := g2
      clear g1 g2
      have un : fo (rsp P s p x) 0 (r + 1) (0, τ 79 13) = rsp P s p x r (fo (rsp P s p x) 0 r (0, τ 79 13)) := by show rsp P s p x (0 + r) _ = _; rw [Nat.zero_add]
      generalize fo (rsp P s p x) 0 r (0, τ 79 13) = A at g1' un ⊢
      have g1 := g1'
      have g2 := g2'
      show Ok (zfX7_findRests_L63 (nI (p ^ pn P)) K (nI p) x (fu + 1) (nI A.1) (nI r) φ) _
      unfold zfX7_findRests_L63
      rw [if_neg (by rw [n_le (by omega) (by omega)]; omega), ok_bd]
      refine ok_mono (c_atRest (s := s) h0 h3 hp0 hp21 hr (by rw [g2 3 (by omega)]; exact v3) (by rw [g2 27 (by omega)]; exact v27) (fun r' hr' k hk2 => by rw [g2 _ (by omega)]; exact t1 r' hr' k hk2)) (fun v hv => ?_)
      refine ok_lg (fun J hJ => ?_)
      have go : ∀ a φ2, a = nI (rsp P s p x r A).1 → φ2 79 13 = (rsp P s p x r A).2 → (∀ c, c ≠ 79 → φ2 c = τ c) → Ok (J a φ2) _ := fun a φ2 e1 e2 e3 => by
        simp only [hJ]
        refine ok_lg (fun y2 ey => ?_)
        rw [show nI r + 1 = nI (r + 1) from n_add _ 1] at ey
        refine hk (a, y2, φ2) ⟨?_, ey, ?_, e3⟩
        · dsimp only; rw [un]; exact e1
        · dsimp only; rw [un]; exact e2
      rcases hv with ⟨e, hv⟩ | ⟨e, hv⟩
      · rw [if_pos e]
        exact go _ _ (by rw [rsp_n hv]) (by rw [rsp_n hv]; exact g1) g2
      · rw [if_neg (by rw [e]; decide)]
        refine ok_lg (fun J2 hJ2 => ?_)
        have go2 : ∀ φ2, φ2 79 13 = (rsp P s p x r A).2 → (∀ c, c ≠ 79 → φ2 c = τ c) → Ok (J2 φ2) _ := fun φ2 e2 e3 => by
          simp only [hJ2]
          refine ok_lg (fun a2 ea => ?_)
          exact go a2 φ2 (by rw [ea, rsp_y hv]; exact n_add _ 1) e2 e3
        by_cases c : nI A.1 = x
        · rw [if_pos c, ok_bd]
          refine ok_mono (c_hun h3 hp0 hp21 (by omega) (by rw [g2 3 (by omega)]; exact v3)) (fun v2 hv2 => ?_)
          refine ok_lg (fun φ2 e2 => ?_)
          exact go2 φ2 (by rw [e2, zst_v, rsp_y hv]; dsimp only; rw [if_pos c]; exact hv2) (fun c hc => by rw [e2, zst_n hc]; exact g2 c hc)
        · rw [if_neg c]
          exact go2 φ (by rw [rsp_y hv]; dsimp only; rw [if_neg c]; exact g1) g2
    · rintro fu ⟨c, y, φ⟩ ⟨hc, hy, g1, g2⟩
      have hc : c = nI (fo (rsp P s p x) 0 (p ^ pn P) (0, τ 79 13)).1 := hc
      have hy : y = nI (p ^ pn P) := hy
      subst hy
      have g1 : φ 79 13 = (fo (rsp P s p x) 0 (p ^ pn P) (0, τ 79 13)).2 := g1
      have g2 : ∀ c, c ≠ 79 → φ c = τ c := g2
      show Ok (zfX7_findRests_L63 (nI (p ^ pn P)) K (nI p) x (fu + 1) c (nI (p ^ pn P)) φ) _
      unfold zfX7_findRests_L63
      rw [if_pos (Int32.le_refl _)]
      simp only [hK]
      rw [ok_s]
      exact ⟨t2.trans ⟨fun c hc => g2 c (by omega), fun k _ => by dsimp only; rw [g2 714 (by omega)], fun k _ => by dsimp only; rw [g2 703 (by omega)]⟩, τ 79 13, hc, g1⟩
