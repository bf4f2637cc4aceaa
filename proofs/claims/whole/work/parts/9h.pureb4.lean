/-! ===== gains, and days with other holders ===== -/
theorem cw_cg {f g : Nat → Int32} : ∀ {n : Nat}, (∀ k, k < n → f k = g k) → cw f n = cw g n := by
  intro n
  induction n with
  | zero => intro _; rfl
  | succ n ih => intro h; show cw f n + f n = cw g n + g n; rw [ih (fun k hk => h k (by omega)), h n (by omega)]
theorem cw_sub {f g : Nat → Int32} : ∀ n, cw (fun j => f j - g j) n = cw f n - cw g n := by
  intro n
  induction n with
  | zero => show (0 : Int32) = 0 - 0; decide
  | succ n ih => show cw (fun j => f j - g j) n + (f n - g n) = cw f n + f n - (cw g n + g n); rw [ih]; grind
theorem cw_z : ∀ n, cw (fun _ => 0) n = 0 := by
  intro n
  induction n with
  | zero => rfl
  | succ n ih => show cw (fun _ => 0) n + 0 = 0; rw [ih]; rfl
theorem cw_one {f : Nat → Int32} {i : Nat} : ∀ {n : Nat}, i < n → cw (fun j => if j = i then f j else 0) n = f i := by
  intro n
  induction n with
  | zero => intro h; exact absurd h (Nat.not_lt_zero i)
  | succ n ih =>
    intro h
    show cw (fun j => if j = i then f j else 0) n + (if n = i then f n else 0) = f i
    by_cases e : n = i
    · subst e
      rw [if_pos rfl, cw_cg (g := fun _ => 0) (fun k hk => if_neg (by omega)), cw_z]; grind
    · rw [if_neg e, ih (by omega)]; grind
theorem cw_not {f : Nat → Int32} {i : Nat} {n : Nat} (h : i < n) : cw (fun j => if j = i then 0 else f j) n = cw f n - f i := by
  have e : cw (fun j => if j = i then 0 else f j) n = cw (fun j => f j - (if j = i then f j else 0)) n := cw_cg (fun k _ => by
    by_cases e : k = i
    · rw [if_pos e, if_pos e]; grind
    · rw [if_neg e, if_neg e]; grind)
  rw [e, cw_sub, cw_one h]
theorem c_gain {i : Nat} {τ : Mm} (hi : i < 6) : zfX10_gainOf (nI i) τ = some (τ 72 i - τ 30 i) := by
  unfold zfX10_gainOf
  refine lt_i (fun J _ => ?_)
  have hin : inb (nI i) 6 := (n_in (by omega)).mpr hi
  rw [if_neg (n_nlt0 (by omega)), if_pos (by rw [show (6 : Int32) = nI 6 from rfl, n_lt (by omega) (by omega)]; exact hi), ck_t hin, ck_t hin, n_ix (by omega)]
theorem c_gains {n : Nat} {τ : Mm} (hn : n ≤ 5) (h : τ 3 0 = nI n) : Ok (zfX10_gainOfAll τ) (fun r => r = cw (fun i => τ 72 i - τ 30 i) n) := by
  unfold zfX10_gainOfAll
  refine ok_lg (fun K hK => ?_)
  refine ok_up (F := fun fu (x : Int32 × Int32) => zfX10_gainOfAll_L4 τ K fu x.1 x.2) n (fun j x => x.1 = cw (fun i => τ 72 i - τ 30 i) j ∧ x.2 = nI j) ?_ ?_ 0 NF (0, 0) ⟨rfl, rfl⟩ (by omega) (by unfold NF; omega)
  · rintro j fu ⟨a, y⟩ hj ⟨ha, hy⟩ hk
    have hy : y = nI j := hy
    subst hy
    have ha : a = cw (fun i => τ 72 i - τ 30 i) j := ha
    show Ok (zfX10_gainOfAll_L4 τ K (fu + 1) a (nI j)) _
    unfold zfX10_gainOfAll_L4
    rw [if_neg (by rw [h, n_le (by omega) (by omega)]; omega), c_gain (by omega), bd_some]
    refine ok_lg (fun a2 ea => ?_)
    refine ok_lg (fun y2 ey => ?_)
    rw [show nI j + 1 = nI (j + 1) from n_add _ 1] at ey
    exact hk (a2, y2) ⟨by dsimp only; rw [ea, ha]; rfl, ey⟩
  · rintro fu ⟨a, y⟩ ⟨ha, hy⟩
    have ha : a = cw (fun i => τ 72 i - τ 30 i) n := ha
    have hy : y = nI n := hy
    subst hy
    show Ok (zfX10_gainOfAll_L4 τ K (fu + 1) a (nI n)) _
    unfold zfX10_gainOfAll_L4
    rw [if_pos (by rw [h]; exact Int32.le_refl _), hK, ok_s]
    exact ha
/-- a state with other holders -/
theorem hS_k {s : Mm} {v : Int32} {i k : Nat} (h : i ≠ 0 ∨ k ≠ 3) : zst s 0 3 v i k = s i k := by
  by_cases c : i = 0
  · subst c
    rw [zst_k (by omega)]
  · rw [zst_n c]
theorem hS_r {s : Mm} {v : Int32} {i : Nat} (h : i ≠ 0) : zst s 0 3 v i = s i := zst_n h
theorem hS_wf {P : Pm} {rc B : Nat} {s : Mm} {v : Int32} (hs : WFs P s) (hR : RuS P rc s) (hB : sm B (s 0 1)) : WFs P (zst s 0 3 v) ∧ RuS P rc (zst s 0 3 v) ∧ sm B (zst s 0 3 v 0 1) := by
  obtain ⟨w1, w2, w3, w4, w5, w6, w7⟩ := hs
  obtain ⟨r1, r2, r3⟩ := hR
  exact ⟨⟨by rw [hS_k (by omega)]; exact w1, by rw [hS_k (by omega)]; exact w2, by rw [hS_r (by omega)]; exact w3, by rw [hS_r (by omega)]; exact w4, by rw [hS_r (by omega)]; exact w5, by rw [hS_r (by omega)]; exact w6, by rw [hS_r (by omega)]; exact w7⟩, ⟨r1, r2, by rw [hS_r (by omega)]; exact r3⟩, by rw [hS_k (by omega)]; exact hB⟩
theorem hS_RR {P : Pm} {s σ : Mm} {v : Int32} (h : RRs P σ s) : RRs P σ (zst s 0 3 v) := by
  obtain ⟨b1, b2, b3, b4, b5, b6⟩ := h
  refine ⟨fun k hk => ?_, by rw [hS_k (by omega)]; exact b2, by rw [hS_k (by omega)]; exact b3, by rw [hS_k (by omega)]; exact b4, fun i k hi hk => ?_, b6⟩
  · rw [hS_r (by omega), hS_r (by omega), hS_r (by omega), hS_r (by omega), hS_r (by omega)]; exact b1 k hk
  · rw [hS_r (by omega)]; exact b5 i k hi hk
theorem hS_Ag {q : Nat} {s σ τ : Mm} {v : Int32} (h : AgS q σ s) (f : ∀ k, k ≠ 3 → τ q k = σ q k) (f3 : τ q 3 = v) (fc : ∀ c, q < c → c ≤ q + 9 → τ c = σ c) : AgS q τ (zst s 0 3 v) := by
  obtain ⟨a1, a2, a3, a4, a5⟩ := h
  refine ⟨fun k hk => ?_, ?_, ?_, fun i k hi hk => ?_, fun k hk => ?_⟩
  · by_cases c : k = 3
    · rw [c, f3, zst_v]
    · rw [f k c, hS_k (by omega)]; exact a1 k hk
  · rw [f 4 (by omega), hS_k (by omega)]; exact a2
  · rw [f 204 (by omega), hS_k (by omega)]; exact a3
  · rw [fc _ (by omega) (by omega), hS_r (by omega)]; exact a4 i k hi hk
  · rw [fc _ (by omega) (by omega), hS_r (by omega)]; exact a5 k hk
theorem PmC.of {P : Pm} {σ τ : Mm} (h : PmC P σ) (f : ∀ c, (3 ≤ c ∧ c ≤ 10 ∨ c = 37 ∨ c = 38) → τ c = σ c) : PmC P τ := by
  obtain ⟨h1, h2, h3, h4, h5, h6, h7⟩ := h
  refine ⟨by rw [f 3 (by omega)]; exact h1, by rw [f 3 (by omega)]; exact h2, by rw [f 3 (by omega)]; exact h3, by rw [f 37 (by omega)]; exact h4, by rw [f 37 (by omega)]; exact h5, fun k hk => ?_, fun i hi => ?_⟩
  · rw [f 4 (by omega), f 5 (by omega), f 6 (by omega), f 38 (by omega)]; exact h6 k hk
  · rw [f 7 (by omega), f 8 (by omega), f 9 (by omega), f 10 (by omega)]; exact h7 i hi
/-- so many days with the holders v, in the class -/
theorem cq_vwalk {B : Nat} {P : Pm} {rc d : Nat} {s σ τ0 : Mm} {v : Int32} {β : Type} {K : Mm → Option β} {Q : β → Prop} (hB : B < 900000) (hI : Ivx B P rc s σ) (hd : d ≤ 30) (hA : AgS 69 τ0 s) (hC : PmC P τ0) (hR : RuC P rc τ0) (hF : FrS σ τ0)
    (hK : ∀ υ, AgS 69 υ (dys P (zst s 0 3 v) d) → υ 68 = nts P (zst s 0 3 v) (τ0 68) d → FrS σ υ → Ok (K υ) Q) : Ok (bd (zfX10_pass (nI d) (zst τ0 69 3 v)) K) Q := by
  obtain ⟨h1, h2, h3, ⟨r1, r2, r3, r4, r5⟩, ⟨hS, s4⟩, h6⟩ := hI
  obtain ⟨s1, s2, s3, t4, t5, t6⟩ := hS
  have w := hS_wf (v := v) s3 t4 t5
  have q : ∀ c, c ≠ 69 → zst τ0 69 3 v c = τ0 c := fun c hc => zst_n hc
  rw [ok_bd]
  refine ok_mono (c_pass h2.1 w.1 w.2.2 hB w.2.1 (hS_Ag hA (fun k hk => zst_k hk) zst_v (fun c h1 h2 => q c (by omega))) (hC.of (fun c hc => q c (by omega))) (hR.of (fun r hr => ⟨q _ (by omega), q _ (by omega)⟩)) (show d ≤ 1000 by omega)) (fun υ hυ => ?_)
  obtain ⟨c1, c2, c3⟩ := hυ
  refine hK υ c1 (by rw [c2, q 68 (by omega)]) (hF.trans (FrS.trans ⟨fun c hc => q c (by omega), fun k _ => by rw [q 714 (by omega)], fun k _ => by rw [q 703 (by omega)]⟩ c3.s))
/-- who holds back is set, or not -/
def hv (x : Int32) (i : Nat) (y : Int32) : Int32 := if y = 0 then x &&& (((1 : Int32) <<< (nI i &&& 31)) ^^^ (-1)) else x ||| ((1 : Int32) <<< (nI i &&& 31))
theorem c_setH {q i : Nat} {y : Int32} {σ : Mm} : zfX8_setHolding q (nI i) y σ = some (zst σ q 3 (hv (σ q 3) i y)) := by
  unfold zfX8_setHolding hv
  refine lt_i (fun J hJ => ?_)
  by_cases c : y = 0
  · rw [if_pos c, if_pos c, hJ]; rfl
  · rw [if_neg c, if_neg c, hJ]; rfl
theorem hv_no {x y : Int32} {n i : Nat} (hi : i < n) (hn : n ≤ 5) (h : ∀ k, n ≤ k → k < 6 → ¬ hob x k) : ∀ k, n ≤ k → k < 6 → ¬ hob (hv x i y) k := by
  intro k h1 h2
  unfold hv
  by_cases c : y = 0
  · rw [if_pos c, hob_an (by omega) (by omega)]; exact fun g => h k h1 h2 g.1
  · rw [if_neg c, hob_or (by omega) (by omega)]
    rintro (g | g)
    · exact h k h1 h2 g
    · omega
/-- a walk is begun with one seller's holding set -/
theorem cq_hwalk {B : Nat} {P : Pm} {rc d i : Nat} {s σ : Mm} {y : Int32} {β : Type} {K : Mm → Option β} {Q : β → Prop} (hB : B < 900000) (hI : Ivx B P rc s σ) (h0 : 0 < pn P) (hd : d ≤ 30)
    (hK : ∀ υ, AgS 69 υ (dys P (zst s 0 3 (hv (s 0 3) i y)) d) → FrS σ υ → Ok (K υ) Q) : Ok (bd (zfX10_beginHolding (nI i) y σ) (fun σ1 => bd (zfX10_pass (nI d) σ1) K)) Q := by
  unfold zfX10_beginHolding
  obtain ⟨h1, h2, h3, ⟨r1, r2, r3, r4, r5⟩, ⟨hS, s4⟩, h6⟩ := id hI
  rw [ok_bd, ok_bd]
  refine ok_mono (cq_begin h2 h3 r4 hS h0) (fun τ hτ => ?_)
  obtain ⟨b1, b2, b3, b4, b5⟩ := hτ
  rw [c_setH, bd_some, ok_s, b1.1 3 (by omega)]
  exact cq_vwalk hB hI hd b1 b3 b4 b5 (fun υ g1 _ g3 => hK υ g1 g3)
