/-! ===== the class sells ===== -/
def SC (N : Nat) (g0 : Nat → Nat) (ask ga : Nat → Int32) (q : Nat) (σ0 σ : Mm) (X : Sx) : Prop :=
  (∀ k, k < N → σ (q + 1) k = nI (g0 k - X.1 k)) ∧ (∀ k, k < N → σ (q + 5) k = nI (X.1 k)) ∧ (∀ k, k < N → σ (q + 3) k = ga k + nI (X.1 k) * ask k) ∧ σ q 2 = X.2.1 ∧
  (∀ k, k < 24 → σ (q + 7) k = nI (X.2.2.1 k)) ∧ (∀ i, i < 6 → σ (q + 8) i = X.2.2.2 i) ∧
  (∀ c, c ≠ q → c ≠ q + 1 → c ≠ q + 3 → c ≠ q + 5 → c ≠ q + 7 → c ≠ q + 8 → σ c = σ0 c) ∧ (∀ k, k ≠ 2 → σ q k = σ0 q k) ∧
  (∀ k, N ≤ k → σ (q + 1) k = σ0 (q + 1) k ∧ σ (q + 3) k = σ0 (q + 3) k ∧ σ (q + 5) k = σ0 (q + 5) k) ∧ (∀ k, 24 ≤ k → σ (q + 7) k = σ0 (q + 7) k) ∧ (∀ k, 6 ≤ k → σ (q + 8) k = σ0 (q + 8) k) ∧
  (∀ k, X.1 k ≤ g0 k)
/-- the line: the cheapest first, of several the lowest -/
def LnOk (N : Nat) (hd : Nat → Prop) (g0 : Nat → Nat) (ask : Nat → Int32) (q : Nat) (σ0 : Mm) (L : Nat) (Ln : Nat → Nat) : Prop :=
  L ≤ N ∧ σ0 37 8 = nI L ∧ (∀ i, i < L → σ0 40 i = nI (Ln i) ∧ Ln i < N ∧ ¬ hd (Ln i)) ∧ (∀ i j, i < j → j < L → ask (Ln i) < ask (Ln j) ∨ ask (Ln i) = ask (Ln j) ∧ Ln i < Ln j) ∧
  (∀ k, k < N → 0 < g0 k → ¬ hd k → ∃ i, i < L ∧ Ln i = k)
section
variable {N : Nat} {hd : Nat → Prop} {g0 : Nat → Nat} {ask ga : Nat → Int32} {q : Nat} {σ0 : Mm} {L : Nat} {Ln : Nat → Nat}
theorem c_sell_loop (hq : 11 ≤ q ∧ (q + 9 < 37 ∨ 42 < q)) (hN : N ≤ 6) (hg : ∀ k, g0 k ≤ 99) (hL : LnOk N hd g0 ask q σ0 L Ln) (hask : ∀ k, k < N → σ0 (q + 4) k = ask k) {wo : Int32} {wt : Nat → Nat} {bo : Nat → Int32} {Q : Int32 × Mm → Prop} {K : Int32 → Mm → Option (Int32 × Mm)} :
    ∀ r j x fu (d : Nat → Nat) (s : Int32) (σ : Mm), L - j = r → j ≤ L → x ≤ 1000 → r < fu → SC N g0 ask ga q σ0 σ (d, s, wt, bo) → (0 < x → ∀ i, i < j → d (Ln i) = g0 (Ln i)) →
    (∀ σ', SC N g0 ask ga q σ0 σ' ((buyN N hd g0 ask wo x d s).1, (buyN N hd g0 ask wo x d s).2.1, wt, bo) → Ok (K (nI (x - (buyN N hd g0 ask wo x d s).2.2)) σ') Q) →
    Ok (zfX6_sellTo_L17 K q wo K fu (nI x) (nI j) σ) Q := by
  obtain ⟨l1, l2, l3, l4, l5⟩ := hL
  have inln : ∀ (d : Nat → Nat) k, sel N hd g0 d k → ∃ i, i < L ∧ Ln i = k := fun d k hk => l5 k hk.1 (by have := hk.2.1; omega) hk.2.2
  intro r
  induction r with
  | zero =>
    intro j x fu d s σ hr hj hx hf hS he hK
    obtain ⟨fu, rfl⟩ : ∃ g, fu = g + 1 := ⟨fu - 1, by omega⟩
    obtain ⟨s1, s2, s3, s4, s5, s6, s7, s8, s9, s10⟩ := id hS
    have stop : buyN N hd g0 ask wo x d s = (d, s, 0) := by
      by_cases h0 : 0 < x
      · refine buyN_stop (fun c hc => ?_)
        obtain ⟨i, hi, rfl⟩ := inln d c (chp_is hc).1
        have := he h0 i (by omega)
        have := (chp_is hc).1.2.1
        omega
      · have : x = 0 := by omega
        subst this; rfl
    rw [stop] at hK
    unfold zfX6_sellTo_L17
    rw [s7 37 (by omega) (by omega) (by omega) (by omega) (by omega) (by omega), l2, if_pos (by rw [n_le (by omega) (by omega)]; omega)]
    exact hK σ hS
  | succ r ih =>
    intro j x fu d s σ hr hj hx hf hS he hK
    obtain ⟨fu, rfl⟩ : ∃ g, fu = g + 1 := ⟨fu - 1, by omega⟩
    obtain ⟨s1, s2, s3, s4, s5, s6, s7, s8, s9, s10, s11, s12⟩ := id hS
    dsimp only at s1 s2 s3 s4 s5 s6 s12
    unfold zfX6_sellTo_L17
    rw [s7 37 (by omega) (by omega) (by omega) (by omega) (by omega) (by omega), s7 40 (by omega) (by omega) (by omega) (by omega) (by omega) (by omega), l2, if_neg (by rw [n_le (by omega) (by omega)]; omega)]
    by_cases h0 : x = 0
    · subst h0
      rw [if_pos (by decide)]
      exact hK σ hS
    · have hnx : ¬ nI x ≤ 0 := by rw [show (0 : Int32) = nI 0 from rfl, n_le (by omega) (by decide)]; omega
      rw [if_neg hnx, ok_ck]
      refine ⟨(n_in (by omega)).mpr (by omega), ?_⟩
      have he := he (by omega)
      obtain ⟨c1, c2, c3⟩ := l3 j (by omega)
      rw [ok_lt, n_ix (by omega), c1]
      generalize hc : Ln j = c at c1 c2 c3
      have hcin : inb (nI c) 6 := (n_in (by omega)).mpr (by omega)
      rw [ok_ck]
      refine ⟨hcin, ?_⟩
      rw [ok_lt, n_ix (by omega), s7 (q + 4) (by omega) (by omega) (by omega) (by omega) (by omega) (by omega), hask c c2]
      have after : ∀ k, sel N hd g0 d k → ask c < ask k ∨ ask c = ask k ∧ c ≤ k := by
        intro k hk
        obtain ⟨i, hi, hik⟩ := inln d k hk
        by_cases e1 : i < j
        · have := he i e1
          have := hk.2.1
          rw [← hik] at this; omega
        · by_cases e2 : i = j
          · subst e2; rw [← hik, hc]; exact Or.inr ⟨rfl, Nat.le_refl _⟩
          · rcases l4 j i (by omega) hi with g | ⟨g, gl⟩
            · rw [hc, hik] at g; exact Or.inl g
            · rw [hc, hik] at g gl; exact Or.inr ⟨g, by omega⟩
      by_cases hp : ask c ≤ wo
      · rw [if_pos hp, ok_ck]
        refine ⟨hcin, ?_⟩
        rw [ok_lt, s1 c c2, n_zmin (by omega) (by have := hg c; omega)]
        generalize ht : min x (g0 c - d c) = t
        have hbr := buyN_run (N := N) (hd := hd) (g0 := g0) (ask := ask) (wo := wo) (c := c) (t := t) (b := x - t) (d := d) (s := s) (fun h => ⟨⟨c2, by omega, c3⟩, after⟩) hp (by have := s12 c; omega)
        rw [show t + (x - t) = x by omega] at hbr
        rw [ok_ck]; refine ⟨hcin, ?_⟩
        rw [ok_ck]; refine ⟨hcin, ?_⟩
        rw [ok_lt, ok_ck]; refine ⟨hcin, ?_⟩
        rw [ok_ck]; refine ⟨hcin, ?_⟩
        rw [ok_lt, ok_ck]; refine ⟨hcin, ?_⟩
        rw [ok_ck]; refine ⟨hcin, ?_⟩
        rw [ok_lt, ok_lt, ok_lt, ok_lt, n_sub (show t ≤ x by omega), show nI j + 1 = nI (j + 1) from n_add _ 1]
        rw [n_sub (show t ≤ g0 c - d c by omega), zst_n (show q + 5 ≠ q + 1 by omega), s2 c c2, n_add]
        rw [zst_n (show q + 3 ≠ q + 5 by omega), zst_n (show q + 3 ≠ q + 1 by omega), s3 c c2, zst_n (show q ≠ q + 3 by omega), zst_n (show q ≠ q + 5 by omega), zst_n (show q ≠ q + 1 by omega), s4]
        generalize hτ : zst (zst (zst (zst σ (q + 1) c (nI (g0 c - d c - t))) (q + 5) c (nI (d c + t))) (q + 3) c (ga c + nI (d c) * ask c + nI t * ask c)) q 2 (s + nI t * (wo - ask c)) = τ
        have r1 : τ (q + 1) = upd (σ (q + 1)) c (nI (g0 c - d c - t)) := by rw [← hτ, zst_n (by omega), zst_n (by omega), zst_n (by omega), zst_s]
        have r5 : τ (q + 5) = upd (σ (q + 5)) c (nI (d c + t)) := by rw [← hτ, zst_n (by omega), zst_n (by omega), zst_s, zst_n (by omega)]
        have r3 : τ (q + 3) = upd (σ (q + 3)) c (ga c + nI (d c) * ask c + nI t * ask c) := by rw [← hτ, zst_n (by omega), zst_s, zst_n (by omega), zst_n (by omega)]
        have r2 : τ q 2 = s + nI t * (wo - ask c) := by rw [← hτ, zst_v]
        have rq : ∀ k, k ≠ 2 → τ q k = σ q k := fun k hk => by rw [← hτ, zst_k hk, zst_n (by omega), zst_n (by omega), zst_n (by omega)]
        have rc : ∀ c', c' ≠ q → c' ≠ q + 1 → c' ≠ q + 3 → c' ≠ q + 5 → τ c' = σ c' := fun c' a1 a2 a3 a4 => by rw [← hτ, zst_n a1, zst_n a3, zst_n a4, zst_n a2]
        have hS' : SC N g0 ask ga q σ0 τ (updN d c (d c + t), s + nI t * (wo - ask c), wt, bo) := by
          refine ⟨fun k hk => ?_, fun k hk => ?_, fun k hk => ?_, r2, fun k hk => ?_, fun i hi => ?_, fun c' a1 a2 a3 a4 a5 a6 => ?_, fun k hk => ?_, fun k hk => ?_, fun k hk => ?_, fun k hk => ?_, fun k => ?_⟩
          · dsimp only; rw [r1]
            by_cases e : k = c
            · subst e; rw [upd_s, updN_s]; congr 1; omega
            · rw [upd_n e, updN_n e]; exact s1 k hk
          · dsimp only; rw [r5]
            by_cases e : k = c
            · subst e; rw [upd_s, updN_s]
            · rw [upd_n e, updN_n e]; exact s2 k hk
          · dsimp only; rw [r3]
            by_cases e : k = c
            · subst e; rw [upd_s, updN_s, ← n_add]; grind
            · rw [upd_n e, updN_n e]; exact s3 k hk
          · rw [rc _ (by omega) (by omega) (by omega) (by omega)]; exact s5 k hk
          · rw [rc _ (by omega) (by omega) (by omega) (by omega)]; exact s6 i hi
          · rw [rc c' a1 a2 a3 a4]; exact s7 c' a1 a2 a3 a4 a5 a6
          · rw [rq k hk]; exact s8 k hk
          · rw [r1, r3, r5, upd_n (by omega), upd_n (by omega), upd_n (by omega)]; exact s9 k hk
          · rw [rc _ (by omega) (by omega) (by omega) (by omega)]; exact s10 k hk
          · rw [rc _ (by omega) (by omega) (by omega) (by omega)]; exact s11 k hk
          · dsimp only
            by_cases e : k = c
            · subst e; rw [updN_s]; have := s12 k; omega
            · rw [updN_n e]; exact s12 k
        refine ih (j + 1) (x - t) fu (updN d c (d c + t)) (s + nI t * (wo - ask c)) τ (by omega) (by omega) (by omega) (by omega) hS' (fun hx0 i hi => ?_) (fun σ' hσ' => ?_)
        · by_cases e : Ln i = c
          · rw [e, updN_s]; have := s12 c; omega
          · rw [updN_n e]
            exact he i (by
              by_cases e2 : i = j
              · subst e2; exact absurd hc e
              · omega)
        · rw [hbr] at hK
          have := hK σ' hσ'
          dsimp only at this
          rw [show x - ((buyN N hd g0 ask wo (x - t) (updN d c (d c + t)) (s + nI t * (wo - ask c))).2.2 + t) = x - t - (buyN N hd g0 ask wo (x - t) (updN d c (d c + t)) (s + nI t * (wo - ask c))).2.2 by omega] at this
          exact this
      · rw [if_neg hp]
        have stop : buyN N hd g0 ask wo x d s = (d, s, 0) := buyN_stop (fun e he2 h3 => by
          rcases after e (chp_is he2).1 with g | ⟨g, -⟩
          · rw [Int32.lt_iff_toInt_lt] at g; rw [Int32.le_iff_toInt_le] at h3 hp; omega
          · rw [← g] at h3; exact hp h3)
        rw [stop] at hK
        exact hK σ hS
end
section
variable {N m : Nat} {hd : Nat → Prop} {g0 : Nat → Nat} {ask ga wo : Nat → Int32} {q : Nat} {σ0 : Mm} {L : Nat} {Ln w : Nat → Nat}
theorem SC.bo {σ : Mm} {X : Sx} (h : SC N g0 ask ga q σ0 σ X) {i : Nat} (hi : i < 6) {v : Int32} : SC N g0 ask ga q σ0 (zst σ (q + 8) i v) (X.1, X.2.1, X.2.2.1, upd X.2.2.2 i v) := by
  obtain ⟨s1, s2, s3, s4, s5, s6, s7, s8, s9, s10, s11, s12⟩ := h
  refine ⟨fun k hk => by rw [zst_n (by omega)]; exact s1 k hk, fun k hk => by rw [zst_n (by omega)]; exact s2 k hk, fun k hk => by rw [zst_n (by omega)]; exact s3 k hk, by rw [zst_n (by omega)]; exact s4, fun k hk => by rw [zst_n (by omega)]; exact s5 k hk, fun k hk => ?_, fun c a1 a2 a3 a4 a5 a6 => by rw [zst_n a6]; exact s7 c a1 a2 a3 a4 a5 a6, fun k hk => by rw [zst_n (by omega)]; exact s8 k hk, fun k hk => by rw [zst_n (by omega), zst_n (by omega), zst_n (by omega)]; exact s9 k hk, fun k hk => by rw [zst_n (by omega)]; exact s10 k hk, fun k hk => by rw [zst_k (by omega)]; exact s11 k hk, s12⟩
  rw [zst_s]
  dsimp only
  by_cases e : k = i
  · subst e; rw [upd_s, upd_s]
  · rw [upd_n e, upd_n e]; exact s6 k hk
theorem SC.wt {σ : Mm} {X : Sx} (h : SC N g0 ask ga q σ0 σ X) {i : Nat} (hi : i < 24) {v : Nat} : SC N g0 ask ga q σ0 (zst σ (q + 7) i (nI v)) (X.1, X.2.1, updN X.2.2.1 i v, X.2.2.2) := by
  obtain ⟨s1, s2, s3, s4, s5, s6, s7, s8, s9, s10, s11, s12⟩ := h
  refine ⟨fun k hk => by rw [zst_n (by omega)]; exact s1 k hk, fun k hk => by rw [zst_n (by omega)]; exact s2 k hk, fun k hk => by rw [zst_n (by omega)]; exact s3 k hk, by rw [zst_n (by omega)]; exact s4, fun k hk => ?_, fun k hk => by rw [zst_n (by omega)]; exact s6 k hk, fun c a1 a2 a3 a4 a5 a6 => by rw [zst_n a5]; exact s7 c a1 a2 a3 a4 a5 a6, fun k hk => by rw [zst_n (by omega)]; exact s8 k hk, fun k hk => by rw [zst_n (by omega), zst_n (by omega), zst_n (by omega)]; exact s9 k hk, fun k hk => by rw [zst_k (by omega)]; exact s10 k hk, fun k hk => by rw [zst_n (by omega)]; exact s11 k hk, s12⟩
  rw [zst_s]
  dsimp only
  by_cases e : k = i
  · subst e; rw [upd_s, updN_s]
  · rw [upd_n e, updN_n e]; exact s5 k hk
theorem c_sellTo (hq : 11 ≤ q ∧ (q + 9 < 37 ∨ 42 < q)) (hN : N ≤ 6) (hg : ∀ k, g0 k ≤ 99) (hL : LnOk N hd g0 ask q σ0 L Ln) (hask : ∀ k, k < N → σ0 (q + 4) k = ask k) {i b : Nat} (hi : i < 6) (hwo : σ0 7 i = wo i) (hb : b ≤ 1000) {σ : Mm} {X : Sx} (hS : SC N g0 ask ga q σ0 σ X) :
    Ok (zfX6_sellTo q (nI i) (nI b) σ) (fun a => a.1 = nI (buyN N hd g0 ask (wo i) b X.1 X.2.1).2.2 ∧ SC N g0 ask ga q σ0 a.2 ((buyN N hd g0 ask (wo i) b X.1 X.2.1).1, (buyN N hd g0 ask (wo i) b X.1 X.2.1).2.1, X.2.2.1, upd X.2.2.2 i (X.2.2.2 i + nI (buyN N hd g0 ask (wo i) b X.1 X.2.1).2.2))) := by
  have hin : inb (nI i) 6 := (n_in (by omega)).mpr hi
  have hle := buyN_le (N := N) (hd := hd) (g0 := g0) (ask := ask) (wo := wo i) (b := b) (d := X.1) (s := X.2.1)
  unfold zfX6_sellTo
  have hNF : 20 < NF := by unfold NF; omega
  generalize NF = M at hNF ⊢
  rw [ok_ck]
  refine ⟨hin, ?_⟩
  simp only [ok_lt]
  rw [n_ix (by omega), hS.2.2.2.2.2.2.1 7 (by omega) (by omega) (by omega) (by omega) (by omega) (by omega), hwo]
  rw [← n_0]
  obtain ⟨d, s, wt, bo⟩ := X
  refine c_sell_loop hq hN hg hL hask (wo := wo i) (wt := wt) (bo := bo) (L - 0) 0 b M d s σ rfl (Nat.zero_le _) hb (by have := hL.1; omega) hS (fun _ i hi => absurd hi (Nat.not_lt_zero i)) (fun σ' hσ' => ?_)
  dsimp only
  rw [ok_ck]; refine ⟨hin, ?_⟩
  rw [ok_ck]; refine ⟨hin, ?_⟩
  rw [ok_lt, ok_s, n_sub (show b - (buyN N hd g0 ask (wo i) b d s).2.2 ≤ b by omega), show b - (b - (buyN N hd g0 ask (wo i) b d s).2.2) = (buyN N hd g0 ask (wo i) b d s).2.2 by dsimp only at hle; omega]
  refine ⟨rfl, ?_⟩
  rw [hσ'.2.2.2.2.2.1 i hi]
  exact hσ'.bo hi
theorem sAge_0 {i a : Nat} {X : Sx} (h : X.2.2.1 (4 * i + a) = 0) : sAge N hd g0 ask wo i a X = X := by
  obtain ⟨d, s, wt, bo⟩ := X
  unfold sAge
  dsimp only at h ⊢
  rw [h]
  have e1 : buyN N hd g0 ask (wo i) 0 d s = (d, s, 0) := rfl
  rw [e1]
  dsimp only
  rw [updN_self (by rw [h]), upd_self (by rw [n_0]; grind)]
theorem sAge_wt {i a k : Nat} {X : Sx} : (sAge N hd g0 ask wo i a X).2.2.1 k ≤ X.2.2.1 k := by
  unfold sAge
  dsimp only
  by_cases e : k = 4 * i + a
  · subst e; rw [updN_s]; omega
  · rw [updN_n e]; exact Nat.le_refl _
theorem sSort_wt {i k : Nat} {X : Sx} : (sSort N hd g0 ask wo i X).2.2.1 k ≤ X.2.2.1 k := by
  unfold sSort
  exact Nat.le_trans sAge_wt (Nat.le_trans sAge_wt (Nat.le_trans sAge_wt sAge_wt))
theorem sAll_wt {k : Nat} {X : Sx} : ∀ j, (sAll N hd g0 ask wo w j X).2.2.1 k ≤ X.2.2.1 k := by
  intro j
  induction j with
  | zero => exact Nat.le_refl _
  | succ j ih => exact Nat.le_trans sSort_wt ih
theorem c_age (hq : 11 ≤ q ∧ (q + 9 < 37 ∨ 42 < q)) (hN : N ≤ 6) (hg : ∀ k, g0 k ≤ 99) (hL : LnOk N hd g0 ask q σ0 L Ln) (hask : ∀ k, k < N → σ0 (q + 4) k = ask k) {i a fu : Nat} (hi : i < 6) (ha : a < 4) (hwo : σ0 7 i = wo i) {σ : Mm} {X : Sx} (hS : SC N g0 ask ga q σ0 σ X) (hw : ∀ k, X.2.2.1 k ≤ 1000) {k78 : Mm → Option Mm} {Q : Mm → Prop}
    (hK : ∀ σ', SC N g0 ask ga q σ0 σ' (sAge N hd g0 ask wo i a X) → Ok (zfX6_sell_L26 k78 (nI i) q fu (nI a + (-1)) σ') Q) : Ok (zfX6_sell_L26 k78 (nI i) q (fu + 1) (nI a) σ) Q := by
  unfold zfX6_sell_L26
  have e : nI i * 4 + nI a = nI (4 * i + a) := by rw [show (4 : Int32) = nI 4 from rfl, n_mul, n_add]; congr 1; omega
  have hin : inb (nI (4 * i + a)) 24 := (n_in (by omega)).mpr (by omega)
  rw [if_neg (n_nlt0 (by omega)), ok_lt, e, ok_ck]
  refine ⟨hin, ?_⟩
  rw [ok_lt, n_ix (by omega), hS.2.2.2.2.1 _ (by omega)]
  by_cases h0 : X.2.2.1 (4 * i + a) = 0
  · rw [h0, if_pos (by decide)]
    rw [sAge_0 h0] at hK
    exact hK σ hS
  · have hwk := hw (4 * i + a)
    have hn0 : ¬ nI (X.2.2.1 (4 * i + a)) ≤ 0 := by rw [show (0 : Int32) = nI 0 from rfl, n_le (by omega) (by decide)]; omega
    rw [if_neg hn0, ok_ck]; refine ⟨hin, ?_⟩
    rw [ok_ck]; refine ⟨hin, ?_⟩
    rw [ok_bd2]
    refine ok_mono (c_sellTo hq hN hg hL hask hi hwo hwk hS) (fun b hb => ?_)
    obtain ⟨b1, b2⟩ := hb
    have hle := buyN_le (N := N) (hd := hd) (g0 := g0) (ask := ask) (wo := wo i) (b := X.2.2.1 (4 * i + a)) (d := X.1) (s := X.2.1)
    rw [ok_ck]; refine ⟨hin, ?_⟩
    rw [ok_lt, b1, n_sub hle]
    exact hK _ (b2.wt (by omega))
theorem c_sell (hq : 11 ≤ q ∧ (q + 9 < 37 ∨ 42 < q)) (hN : N ≤ 6) (hg : ∀ k, g0 k ≤ 99) (hL : LnOk N hd g0 ask q σ0 L Ln) (hask : ∀ k, k < N → σ0 (q + 4) k = ask k) (hm : m ≤ 6) (hm2 : σ0 3 1 = nI m) (hwo : ∀ i, i < m → σ0 7 i = wo i) (hbw : ∀ k, k < m → σ0 10 k = nI (w k) ∧ w k < m) {σ : Mm} {X : Sx} (hS : SC N g0 ask ga q σ0 σ X) (hw : ∀ k, X.2.2.1 k ≤ 1000) :
    Ok (zfX6_sell q σ) (fun σ' => SC N g0 ask ga q σ0 σ' (sAll N hd g0 ask wo w m X)) := by
  unfold zfX6_sell
  rw [ok_lt]
  obtain ⟨M, hM⟩ : ∃ M, NF = M + 1 + 1 + 1 + 1 + 1 := ⟨19995, rfl⟩
  refine ok_up (F := fun fu (s : Int32 × Mm) => zfX6_sell_L2 (fun σ84 => some σ84) q fu s.1 s.2) m (fun i s => s.1 = nI i ∧ SC N g0 ask ga q σ0 s.2 (sAll N hd g0 ask wo w i X)) ?_ ?_ 0 NF (0, σ) ⟨rfl, hS⟩ (by omega) (by unfold NF; omega)
  · rintro j fu ⟨x, τ⟩ hj ⟨hx, hSτ⟩ hk
    have hx : x = nI j := hx
    subst hx
    have hSτ : SC N g0 ask ga q σ0 τ (sAll N hd g0 ask wo w j X) := hSτ
    show Ok (zfX6_sell_L2 (fun σ84 => some σ84) q (fu + 1) (nI j) τ) _
    unfold zfX6_sell_L2
    have f3 := hSτ.2.2.2.2.2.2.1 3 (by omega) (by omega) (by omega) (by omega) (by omega) (by omega)
    have f10 := hSτ.2.2.2.2.2.2.1 10 (by omega) (by omega) (by omega) (by omega) (by omega) (by omega)
    obtain ⟨w1, w2⟩ := hbw j hj
    rw [f3, hm2, if_neg (by rw [n_le (by omega) (by omega)]; omega), ok_ck]
    refine ⟨(n_in (by omega)).mpr (by omega), ?_⟩
    rw [ok_lt, ok_lt, n_ix (by omega), f10, w1, hM]
    have hwk : ∀ k, (sAll N hd g0 ask wo w j X).2.2.1 k ≤ 1000 := fun k => Nat.le_trans (sAll_wt j) (hw k)
    have e3 : (3 : Int32) = nI 3 := rfl
    rw [e3]
    refine c_age hq hN hg hL hask (by omega) (by omega) (hwo _ w2) hSτ hwk (fun σ1 h1 => ?_)
    rw [show nI 3 + (-1) = nI 2 from n_neg 2]
    refine c_age hq hN hg hL hask (by omega) (by omega) (hwo _ w2) h1 (fun k => Nat.le_trans sAge_wt (hwk k)) (fun σ2 h2 => ?_)
    rw [show nI 2 + (-1) = nI 1 from n_neg 1]
    refine c_age hq hN hg hL hask (by omega) (by omega) (hwo _ w2) h2 (fun k => Nat.le_trans sAge_wt (Nat.le_trans sAge_wt (hwk k))) (fun σ3 h3 => ?_)
    rw [show nI 1 + (-1) = nI 0 from n_neg 0]
    refine c_age hq hN hg hL hask (by omega) (by omega) (hwo _ w2) h3 (fun k => Nat.le_trans sAge_wt (Nat.le_trans sAge_wt (Nat.le_trans sAge_wt (hwk k)))) (fun σ4 h4 => ?_)
    unfold zfX6_sell_L26
    rw [if_pos (by decide), ok_lt, show nI j + 1 = nI (j + 1) from n_add _ 1]
    refine hk (nI (j + 1), σ4) ⟨rfl, ?_⟩
    show SC N g0 ask ga q σ0 σ4 (sAll N hd g0 ask wo w (j + 1) X)
    unfold sAll sSort
    exact h4
  · rintro fu ⟨x, τ⟩ ⟨hx, hSτ⟩
    have hx : x = nI m := hx
    subst hx
    have hSτ : SC N g0 ask ga q σ0 τ (sAll N hd g0 ask wo w m X) := hSτ
    show Ok (zfX6_sell_L2 (fun σ84 => some σ84) q (fu + 1) (nI m) τ) _
    unfold zfX6_sell_L2
    have f3 := hSτ.2.2.2.2.2.2.1 3 (by omega) (by omega) (by omega) (by omega) (by omega) (by omega)
    rw [f3, hm2, if_pos (by rw [n_le (by omega) (by omega)]; omega), ok_s]
    exact hSτ
end
