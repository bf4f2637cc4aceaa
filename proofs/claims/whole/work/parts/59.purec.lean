/-! ===== a day of the class, whole ===== -/
/-- a small count -/
def sm (B : Nat) (x : Int32) : Prop := x = nI (ix x) ∧ ix x ≤ B
theorem sm_of {B g : Nat} {x : Int32} (h : x = nI g) (hg : g ≤ B) (hB : B < 2147483648) : sm B x := by
  subst h; unfold sm; rw [n_ix (by omega)]; exact ⟨rfl, hg⟩
/-- the cell q and those behind it hold a state, as far as it goes -/
def AgS (q : Nat) (σ s : Mm) : Prop := (∀ k, k < 4 → σ q k = s 0 k) ∧ σ q 4 = s 0 4 ∧ σ q 204 = s 0 204 ∧ (∀ i k, (1 ≤ i ∧ i ≤ 6 ∨ i = 8 ∨ i = 9) → k < 6 → σ (q + i) k = s i k) ∧ ∀ k, k < 24 → σ (q + 7) k = s 7 k
def wt0 (s : Mm) (k : Nat) : Nat := if k < 24 then ix (s 7 k) else 0
def gd0 (s : Mm) (k : Nat) : Nat := ix (s 1 k)
section
variable (P : Pm) (f : Int32) (s : Mm)
def dG (k : Nat) : Nat := if k < pN P then gd0 s k + brt (pbr P) (gd0 s) k else 0
def dw : Nat → Nat := owt (pm P) (fun i => if f = 0 then pma P i else 2 * pma P i) (wt0 s)
def dL : Nat → Nat → Int32 := ltr (s 0 0) (s 0 1) (nI (wsum (dw P f s) (pm P))) (dG P s) (pco P) (s 2)
def dA (k : Nat) : Int32 := asV (pto P) (s 6) (s 0 3) (s 0 0) (pW P) (dL P f s) k
def dGa (k : Nat) : Int32 := s 3 k - nI (brt (pbr P) (gd0 s) k) * pco P k
noncomputable def dX : Sx := sAll (pN P) (hob (s 0 3)) (dG P s) (dA P f s) (pwo P) (pw P) (pm P) (fun _ => 0, s 0 2, dw P f s, s 8)
noncomputable def dgl (k : Nat) : Nat := dG P s k - (dX P f s).1 k
noncomputable def dU : Nat × (Nat → Int32) := lud (dgl P f s) (dA P f s) (pN P)
noncomputable def dayS : Mm := fun i =>
  if i = 0 then (fun k => if k = 0 then boV (pld P) (pfr P) (dU P f s) else if k = 1 then s 0 1 + 1 else if k = 2 then (dX P f s).2.1 else s 0 k)
  else if i = 1 then (fun k => if k < pN P then nI (dgl P f s k - min (pro P k) (dgl P f s k)) else s 1 k)
  else if i = 2 then (fun k => if k < pN P then nI (dgl P f s k) else s 2 k)
  else if i = 3 then (fun k => if k < pN P then dGa P s k + nI ((dX P f s).1 k) * dA P f s k else s 3 k)
  else if i = 4 then (fun k => if k < pN P then dA P f s k else s 4 k)
  else if i = 5 then (fun k => if k < pN P then nI ((dX P f s).1 k) else s 5 k)
  else if i = 7 then (fun k => nI (cwt (pm P) (pwa P) (dX P f s).2.2.1 k))
  else if i = 8 then (dX P f s).2.2.2
  else if i = 9 then (fun k => if k < pm P then s 9 k + nI ((dX P f s).2.2.1 (4 * k + pwa P k)) else s 9 k)
  else s i
end
/-- a state that can be -/
def WFs (P : Pm) (s : Mm) : Prop := sm 20 (s 0 0) ∧ sm 1000000 (s 0 1) ∧ (∀ k, k < pN P → sm 99 (s 1 k)) ∧ (∀ k, k < pn P → sm 99 (s 2 k)) ∧ (∀ k, k < 24 → sm 18 (s 7 k)) ∧
  (∀ i b, i < pm P → b < 4 → (b = 0 ∨ pwa P i < b) → s 7 (4 * i + b) = 0) ∧ (∀ k, 4 * pm P ≤ k → k < 24 → s 7 k = 0)
/-- what a day goes by that can be -/
def WFp (P : Pm) : Prop := pn P ≤ 5 ∧ pm P ≤ 6 ∧ pn P ≤ pN P ∧ pN P ≤ 6 ∧ (∀ k, k < pN P → pbr P k ≤ 9 ∧ pro P k ≤ 9 ∧ sm 20 (pco P k)) ∧ (∀ i, i < pm P → pma P i ≤ 9 ∧ pwa P i ≤ 3 ∧ pw P i < pm P ∧ sm 20 (pwo P i)) ∧
  (∀ k, k < pN P → pto P k = -1 ∨ sm 20 (pto P k)) ∧ (∀ k, pn P ≤ k → k < pN P → pto P k ≠ -1) ∧ sm 20 (pfr P)
/-- the class's market and runner hold it -/
def PmC (P : Pm) (σ : Mm) : Prop := σ 3 0 = nI (pn P) ∧ σ 3 1 = nI (pm P) ∧ σ 3 4 = pfr P ∧ σ 37 4 = pld P ∧ σ 37 5 = nI (pN P) ∧ (∀ k, k < pN P → σ 4 k = nI (pbr P k) ∧ σ 5 k = pco P k ∧ σ 6 k = nI (pro P k) ∧ σ 38 k = pto P k) ∧
  (∀ i, i < pm P → σ 7 i = pwo P i ∧ σ 8 i = nI (pma P i) ∧ σ 9 i = nI (pwa P i) ∧ σ 10 i = nI (pw P i))
/-- the class's rules: so many, each worth what is said -/
def RuC (P : Pm) (rc : Nat) (σ : Mm) : Prop := ∀ r, r < rc → ∀ τ, τ (12 + 3 * r) = σ (12 + 3 * r) → τ (13 + 3 * r) = σ (13 + 3 * r) → (∀ j, j < 6 → -2147483648 < (τ 42 j).toInt) →
  Ok (zfX4_worth (12 + 3 * r) τ) (fun a => a.1 = pW P r (τ 42) ∧ ∀ c, c ≠ 12 + 3 * r + 2 → a.2 c = τ c)
def RuS (P : Pm) (rc : Nat) (s : Mm) : Prop := rc ≤ 5 ∧ (∀ r lam lam2, (∀ j, j < 6 → lam j = lam2 j) → pW P r lam = pW P r lam2) ∧ ∀ k, k < pn P → s 6 k = -1 ∨ s 6 k = nI (ix (s 6 k)) ∧ ix (s 6 k) < rc
theorem ltr_lo {b d bu : Int32} {g : Nat → Nat} {co left : Nat → Int32} {k j : Nat} (hb : sm 20 b) (hd : sm 1000000 d) (hbu : sm 100000 bu) (hg : g k ≤ 99) (hc : sm 20 (co k)) (hl : sm 99 (left k)) : -2147483648 < (ltr b d bu g co left k j).toInt := by
  have key : ∀ {B : Nat} {x : Int32}, B ≤ 1000000 → sm B x → -2147483648 < x.toInt := by
    intro B x hB h
    rw [h.1, n_ti (by have := h.2; omega)]; omega
  unfold ltr
  repeat' split
  · exact key (by omega) hb
  · rw [n_ti (by omega)]; omega
  · exact key (by omega) hc
  · exact key (by omega) hd
  · exact key (by omega) hl
  · exact key (by omega) hbu
theorem dw_le {P : Pm} {f : Int32} {s : Mm} (hP : WFp P) (hs : WFs P s) (k : Nat) : dw P f s k ≤ 18 := by
  obtain ⟨p1, p2, p3, p4, p5, p6, p7, p8, p9⟩ := hP
  obtain ⟨s1, s2, s3, s4, s5, s6, s7⟩ := hs
  unfold dw owt
  by_cases c : k < 4 * pm P ∧ k % 4 = 0
  · rw [if_pos c]
    have := (p6 (k / 4) (by omega)).1
    dsimp only
    split <;> omega
  · rw [if_neg c]
    unfold wt0
    split
    · rename_i h; exact (s5 k h).2
    · omega
theorem dG_le {P : Pm} {s : Mm} (hs : WFs P s) (k : Nat) : dG P s k ≤ 99 := by
  unfold dG
  split
  · rename_i h
    have := (hs.2.2.1 k h).2
    unfold brt gd0
    omega
  · omega
theorem c_day {P : Pm} {f : Int32} {s σ : Mm} {q rc : Nat} (hq : 43 ≤ q ∨ q + 9 < 37) (hq27 : 27 ≤ q) (hP : WFp P) (hs : WFs P s) (hRs : RuS P rc s) (hA : AgS q σ s) (hC : PmC P σ) (hR : RuC P rc σ) :
    Ok (zfX6_runDay q f σ) (fun τ => AgS q τ (dayS P f s) ∧ τ 37 6 = (if (dU P f s).1 = 0 then 1 else 0) ∧ (∀ k, k < pN P → τ 39 k = nI (dG P s k)) ∧ (∀ k, k ≠ 6 → k ≠ 8 → τ 37 k = σ 37 k) ∧
      ∀ c, (c < q ∨ q + 9 < c) → c ≠ 37 → c ≠ 39 → c ≠ 40 → c ≠ 41 → c ≠ 42 → ¬ stk c → τ c = σ c) := by
  have hdw := dw_le (f := f) hP hs
  have hdG := dG_le (P := P) hs
  obtain ⟨p1, p2, p3, p4, p5, p6, p7, p8, p9⟩ := hP
  obtain ⟨s1, s2, s3, s4, s5, s6, s7⟩ := hs
  obtain ⟨a1, a2, a3, a4, a5⟩ := hA
  obtain ⟨m1, m2, m3, m4, m5, m6, m7⟩ := hC
  obtain ⟨r1, r2, r3⟩ := hRs
  have ns : ∀ c, c < 12 ∨ 27 ≤ c → ¬ stk c := fun c hc h => by unfold stk at h; omega
  unfold zfX6_runDay
  rw [ok_bd2]
  refine ok_mono (c_open (N := pN P) (m := pm P) (br := pbr P) (ma := pma P) (go := gd0 s) (wt := wt0 s) (co := pco P) (f := f) hq (by omega) p4 p2 m5 m2 (fun k hk => ⟨by rw [a4 1 k (by omega) (by omega)]; exact (s3 k hk).1, (s3 k hk).2⟩) (fun k hk => ⟨(m6 k hk).1, by have := (p5 k hk).1; omega, (m6 k hk).2.1⟩) (fun k hk => by rw [a5 k hk]; unfold wt0; rw [if_pos hk]; exact (s5 k hk).1) (fun i hi => (m7 i hi).2.1)) (fun x hx => ?_)
  obtain ⟨bu, σ1⟩ := x
  obtain ⟨e1, e2, e3, e4, e5, e6⟩ := hx
  dsimp only at e1 e2 e3 e4 e5 e6 ⊢
  have hbu : sm 100000 bu := by
    refine sm_of e1 ?_ (by omega)
    have := wsum_le (wt := dw P f s) (i := pm P) (fun k => by have := hdw k; omega)
    show wsum (dw P f s) (pm P) ≤ _
    omega
  have eG : ∀ k, k < pN P → σ1 (q + 1) k = nI (dG P s k) := fun k hk => by rw [(e2 k hk).1]; unfold dG; rw [if_pos hk]
  have eq0 : σ1 q = σ q := e6 q (by omega) (by omega) (by omega) (by omega) (by omega)
  rw [ok_bd]
  refine ok_mono (c_ask (N := pN P) (g := dG P s) (to := pto P) (ru := s 6) (co := pco P) (left := s 2) (holds := s 0 3) (board := s 0 0) (day := s 0 1) (bu := bu) (W := pW P) hq (by omega) p4
    (by rw [e6 37 (by omega) (by omega) (by omega) (by omega) (by omega)]; exact m5)
    (fun k hk => by rw [e6 38 (by omega) (by omega) (by omega) (by omega) (by omega)]; exact (m6 k hk).2.2.2) eG
    (fun k hk => by rw [e6 5 (by omega) (by omega) (by omega) (by omega) (by omega)]; exact (m6 k hk).2.1)
    (fun k hk => by rw [e6 (q + 2) (by omega) (by omega) (by omega) (by omega) (by omega)]; exact a4 2 k (by omega) (by omega))
    (fun k hk => by rw [e6 (q + 6) (by omega) (by omega) (by omega) (by omega) (by omega)]; exact a4 6 k (by omega) (by omega))
    (by rw [eq0]; exact a1 0 (by omega)) (by rw [eq0]; exact a1 1 (by omega)) (by rw [eq0]; exact a1 3 (by omega)) ?_) (fun σ2 h2 => ?_)
  · intro k hk hto hh hin τ t1 t2 t3
    have hkn : k < pn P := Classical.byContradiction fun h => p8 k (by omega) hk hto
    have hr := r3 k hkn
    have hne : s 6 k ≠ -1 := fun e => by rw [e] at hin; exact absurd hin (by decide)
    have hr := hr.resolve_left hne
    have hW := hR (ix (s 6 k)) hr.2 τ (by rw [t1, e6 _ (by omega) (by omega) (by omega) (by omega) (by omega)]) (by rw [t2, e6 _ (by omega) (by omega) (by omega) (by omega) (by omega)]) (fun j hj => by rw [t3 j hj]; exact ltr_lo s1 s2 hbu (hdG k) (p5 k hk).2.2 (s4 k hkn))
    refine ok_mono hW (fun a ha => ⟨ha.1.trans (r2 _ _ _ t3), ha.2⟩)
  obtain ⟨b1, b2, b3⟩ := h2
  have bA : ∀ k, k < pN P → σ2 (q + 4) k = dA P f s k := by
    intro k hk
    rw [b1 k hk, e1]; rfl
  have f2 : ∀ c, c ≠ q + 1 → c ≠ q + 3 → c ≠ q + 5 → c ≠ q + 7 → c ≠ 39 → c ≠ q + 4 → c ≠ 42 → ¬ stk c → σ2 c = σ c := fun c d1 d2 d3 d4 d5 d6 d7 d8 => by rw [b3 c d6 d7 d8, e6 c d1 d2 d3 d4 d5]
  have q2 : σ2 q = σ q := f2 q (by omega) (by omega) (by omega) (by omega) (by omega) (by omega) (by omega) (ns _ (by omega))
  rw [ok_bd]
  refine ok_mono (c_lineUp (N := pN P) (hd := hob (s 0 3)) (g0 := dG P s) (ask := dA P f s) (q := q) (σ := σ2) hq p4 (by rw [f2 37 (by omega) (by omega) (by omega) (by omega) (by omega) (by omega) (by omega) (ns _ (by omega))]; exact m5) hdG (fun k hk => by rw [b3 (q + 1) (by omega) (by omega) (ns _ (by omega))]; exact eG k hk) bA (fun k => by rw [q2, a1 3 (by omega)])) (fun σ3 h3 => ?_)
  obtain ⟨⟨L, Ln, hL⟩, l1, l2⟩ := h3
  have f3 : ∀ c, c ≠ q + 1 → c ≠ q + 3 → c ≠ q + 5 → c ≠ q + 7 → c ≠ 39 → c ≠ q + 4 → c ≠ 42 → ¬ stk c → c ≠ 37 → c ≠ 40 → σ3 c = σ c := fun c d1 d2 d3 d4 d5 d6 d7 d8 d9 d10 => by rw [l1 c d9 d10, f2 c d1 d2 d3 d4 d5 d6 d7 d8]
  have q3 : σ3 q = σ q := by rw [l1 q (by omega) (by omega), q2]
  have g3 : ∀ c, q ≤ c → c ≤ q + 9 → c ≠ q + 4 → σ3 c = σ1 c := fun c d1 d2 d3 => by rw [l1 c (by omega) (by omega), b3 c d3 (by omega) (ns _ (by omega))]
  have hSC : SC (pN P) (dG P s) (dA P f s) (dGa P s) q σ3 σ3 (fun _ => 0, s 0 2, dw P f s, s 8) := by
    refine ⟨fun k hk => ?_, fun k hk => ?_, fun k hk => ?_, ?_, fun k hk => ?_, fun i hi => ?_, fun _ _ _ _ _ _ _ => rfl, fun _ _ => rfl, fun _ _ => ⟨rfl, rfl, rfl⟩, fun _ _ => rfl, fun _ _ => rfl, fun _ => Nat.zero_le _⟩
    · rw [g3 _ (by omega) (by omega) (by omega)]; exact eG k hk
    · rw [g3 _ (by omega) (by omega) (by omega)]; exact (e2 k hk).2.2.1
    · rw [g3 _ (by omega) (by omega) (by omega), (e2 k hk).2.1, a4 3 k (by omega) (by omega)]
      show s 3 k - _ = dGa P s k + nI 0 * _
      rw [n_0]
      unfold dGa
      grind
    · rw [q3]; exact a1 2 (by omega)
    · rw [g3 _ (by omega) (by omega) (by omega)]; exact e4 k hk
    · rw [g3 _ (by omega) (by omega) (by omega), e6 _ (by omega) (by omega) (by omega) (by omega) (by omega)]; exact a4 8 i (by omega) hi
  rw [ok_bd]
  refine ok_mono (c_sell (N := pN P) (m := pm P) (wo := pwo P) (w := pw P) (by omega) p4 hdG hL (fun k hk => by rw [l1 _ (by omega) (by omega)]; exact bA k hk) p2 (by rw [f3 3 (by omega) (by omega) (by omega) (by omega) (by omega) (by omega) (by omega) (ns _ (by omega)) (by omega) (by omega)]; exact m2) (fun i hi => by rw [f3 7 (by omega) (by omega) (by omega) (by omega) (by omega) (by omega) (by omega) (ns _ (by omega)) (by omega) (by omega)]; exact (m7 i hi).1) (fun i hi => ⟨by rw [f3 10 (by omega) (by omega) (by omega) (by omega) (by omega) (by omega) (by omega) (ns _ (by omega)) (by omega) (by omega)]; exact (m7 i hi).2.2.2, (p6 i hi).2.2.1⟩) hSC (fun k => by have := hdw k; dsimp only; omega)) (fun σ4 h4 => ?_)
  have h4 : SC (pN P) (dG P s) (dA P f s) (dGa P s) q σ3 σ4 (dX P f s) := h4
  obtain ⟨c1, c2, c3, c4, c5, c6, c7, c8, c9, c10, c11, c12⟩ := h4
  have f4 : ∀ c, (c < q ∨ q + 9 < c) → c ≠ 39 → c ≠ 42 → ¬ stk c → c ≠ 37 → c ≠ 40 → σ4 c = σ c := fun c d1 d2 d3 d4 d5 d6 => by rw [c7 c (by omega) (by omega) (by omega) (by omega) (by omega) (by omega), f3 c (by omega) (by omega) (by omega) (by omega) d2 (by omega) d3 d4 d5 d6]
  have f4k : ∀ k, k ≠ 8 → σ4 37 k = σ 37 k := fun k hk => by rw [c7 37 (by omega) (by omega) (by omega) (by omega) (by omega) (by omega), l2 k hk, f2 37 (by omega) (by omega) (by omega) (by omega) (by omega) (by omega) (by omega) (ns _ (by omega))]
  rw [ok_bd]
  refine ok_mono (c_lead (N := pN P) (gl := dgl P f s) (ask := dA P f s) (lead := pld P) (free := pfr P) hq (by omega) p4 (by rw [f4k 5 (by omega)]; exact m5) (by rw [f4k 4 (by omega)]; exact m4) (by rw [f4 3 (by omega) (by omega) (by omega) (ns _ (by omega)) (by omega) (by omega)]; exact m3) (fun k hk => ⟨c1 k hk, by have := hdG k; unfold dgl; omega⟩) (fun k hk => by rw [c7 (q + 4) (by omega) (by omega) (by omega) (by omega) (by omega) (by omega), l1 _ (by omega) (by omega)]; exact bA k hk)) (fun σ5 h5 => ?_)
  obtain ⟨d1, d2, d3, d4, d5⟩ := h5
  have g5 : ∀ c, c ≠ q → c ≠ 37 → c ≠ 41 → σ5 c = σ4 c := d5
  have hX : ∀ k, (dX P f s).2.2.1 k ≤ dw P f s k := fun k => sAll_wt (pm P)
  rw [ok_bd]
  refine ok_mono (c_close (N := pN P) (m := pm P) (gl := dgl P f s) (ro := pro P) (wa := pwa P) (wt := (dX P f s).2.2.1) hq (by omega) p4 p2 (by rw [d4 5 (by omega), f4k 5 (by omega)]; exact m5) (by rw [g5 3 (by omega) (by omega) (by omega), f4 3 (by omega) (by omega) (by omega) (ns _ (by omega)) (by omega) (by omega)]; exact m2) (fun k hk => ⟨by rw [g5 _ (by omega) (by omega) (by omega)]; exact c1 k hk, by have := hdG k; unfold dgl; omega⟩) (fun k hk => ⟨by rw [g5 6 (by omega) (by omega) (by omega), f4 6 (by omega) (by omega) (by omega) (ns _ (by omega)) (by omega) (by omega)]; exact (m6 k hk).2.2.1, by have := (p5 k hk).2.1; omega⟩) (fun i hi => ⟨by rw [g5 9 (by omega) (by omega) (by omega), f4 9 (by omega) (by omega) (by omega) (ns _ (by omega)) (by omega) (by omega)]; exact (m7 i hi).2.2.1, (p6 i hi).2.1⟩) (fun k hk => by rw [g5 _ (by omega) (by omega) (by omega)]; exact c5 k hk) (fun i b hi hb hw => ?_)) (fun σ6 h6 => ?_)
  · have h0 := hX (4 * i + b)
    have : dw P f s (4 * i + b) = 0 := by
      unfold dw owt
      rw [if_neg (by omega)]
      unfold wt0
      rw [if_pos (by omega), s6 i b hi hb (Or.inr hw)]; rfl
    omega
  · obtain ⟨k1, k2, k3, k4, k5, k6, k7, k8, k9⟩ := h6
    have hq5 : ∀ k, k ≠ 0 → k ≠ 1 → k ≠ 2 → σ6 q k = σ q k := fun k x1 x2 x3 => by rw [k8 k x2, d2 k x1, c8 k x3, q3]
    rw [ok_s]
    refine ⟨⟨fun k hk => ?_, ?_, ?_, fun i k hi hk => ?_, fun k hk => ?_⟩, ?_, fun k hk => ?_, fun k x1 x2 => ?_, fun c x1 x2 x3 x4 x5 x6 x7 => ?_⟩
    · show σ6 q k = (if k = 0 then _ else if k = 1 then _ else if k = 2 then _ else _)
      by_cases y0 : k = 0
      · rw [if_pos y0, y0, k8 0 (by omega), d1]; rfl
      · rw [if_neg y0]
        by_cases y1 : k = 1
        · rw [if_pos y1, y1, k7, d2 1 (by omega), c8 1 (by omega), q3, a1 1 (by omega)]
        · rw [if_neg y1]
          by_cases y2 : k = 2
          · rw [if_pos y2, y2, k8 2 (by omega), d2 2 (by omega), c4]
          · rw [if_neg y2, hq5 k y0 y1 y2]; exact a1 k hk
    · show σ6 q 4 = _
      rw [hq5 4 (by omega) (by omega) (by omega)]; exact a2
    · show σ6 q 204 = _
      rw [hq5 204 (by omega) (by omega) (by omega)]; exact a3
    · have hi' : i = 1 ∨ i = 2 ∨ i = 3 ∨ i = 4 ∨ i = 5 ∨ i = 6 ∨ i = 8 ∨ i = 9 := by omega
      rcases hi' with rfl | rfl | rfl | rfl | rfl | rfl | rfl | rfl
      · show _ = (if k < pN P then _ else _)
        by_cases c : k < pN P
        · rw [if_pos c]; exact (k1 k c).2
        · rw [if_neg c, (k2 k (by omega)).2, g5 _ (by omega) (by omega) (by omega), (c9 k (by omega)).1, g3 _ (by omega) (by omega) (by omega), (e3 k (by omega)).1]; exact a4 1 k (by omega) hk
      · show _ = (if k < pN P then _ else _)
        by_cases c : k < pN P
        · rw [if_pos c]; exact (k1 k c).1
        · rw [if_neg c, (k2 k (by omega)).1, g5 _ (by omega) (by omega) (by omega), c7 _ (by omega) (by omega) (by omega) (by omega) (by omega) (by omega), g3 _ (by omega) (by omega) (by omega), e6 _ (by omega) (by omega) (by omega) (by omega) (by omega)]; exact a4 2 k (by omega) hk
      · show _ = (if k < pN P then _ else _)
        rw [k9 _ (by omega) (by omega) (by omega) (by omega) (by omega), g5 _ (by omega) (by omega) (by omega)]
        by_cases c : k < pN P
        · rw [if_pos c]; exact c3 k c
        · rw [if_neg c, (c9 k (by omega)).2.1, g3 _ (by omega) (by omega) (by omega), (e3 k (by omega)).2.1]; exact a4 3 k (by omega) hk
      · show _ = (if k < pN P then _ else _)
        rw [k9 _ (by omega) (by omega) (by omega) (by omega) (by omega), g5 _ (by omega) (by omega) (by omega), c7 _ (by omega) (by omega) (by omega) (by omega) (by omega) (by omega), l1 _ (by omega) (by omega)]
        by_cases c : k < pN P
        · rw [if_pos c]; exact bA k c
        · rw [if_neg c, b2 k (by omega), e6 _ (by omega) (by omega) (by omega) (by omega) (by omega)]; exact a4 4 k (by omega) hk
      · show _ = (if k < pN P then _ else _)
        rw [k9 _ (by omega) (by omega) (by omega) (by omega) (by omega), g5 _ (by omega) (by omega) (by omega)]
        by_cases c : k < pN P
        · rw [if_pos c]; exact c2 k c
        · rw [if_neg c, (c9 k (by omega)).2.2, g3 _ (by omega) (by omega) (by omega), (e3 k (by omega)).2.2]; exact a4 5 k (by omega) hk
      · show _ = s 6 k
        rw [k9 _ (by omega) (by omega) (by omega) (by omega) (by omega), g5 _ (by omega) (by omega) (by omega), c7 _ (by omega) (by omega) (by omega) (by omega) (by omega) (by omega), g3 _ (by omega) (by omega) (by omega), e6 _ (by omega) (by omega) (by omega) (by omega) (by omega)]; exact a4 6 k (by omega) hk
      · show _ = (dX P f s).2.2.2 k
        rw [k9 _ (by omega) (by omega) (by omega) (by omega) (by omega), g5 _ (by omega) (by omega) (by omega)]; exact c6 k hk
      · show _ = (if k < pm P then _ else _)
        have e9 : σ5 (q + 9) k = s 9 k := by rw [g5 _ (by omega) (by omega) (by omega), c7 _ (by omega) (by omega) (by omega) (by omega) (by omega) (by omega), g3 _ (by omega) (by omega) (by omega), e6 _ (by omega) (by omega) (by omega) (by omega) (by omega)]; exact a4 9 k (by omega) hk
        by_cases c : k < pm P
        · rw [if_pos c, k5 k c, e9]
        · rw [if_neg c, k6 k (by omega), e9]
    · show _ = nI (cwt (pm P) (pwa P) (dX P f s).2.2.1 k)
      exact k3 k hk
    · rw [k9 37 (by omega) (by omega) (by omega) (by omega) (by omega)]; exact d3
    · rw [k9 39 (by omega) (by omega) (by omega) (by omega) (by omega), g5 39 (by omega) (by omega) (by omega), c7 39 (by omega) (by omega) (by omega) (by omega) (by omega) (by omega), l1 39 (by omega) (by omega), b3 39 (by omega) (by omega) (ns _ (by omega)), (e2 k hk).2.2.2]
      unfold dG; rw [if_pos hk]
    · rw [k9 37 (by omega) (by omega) (by omega) (by omega) (by omega), d4 k x1, f4k k x2]
    · rw [k9 c (by omega) (by omega) (by omega) (by omega) (by omega), g5 c (by omega) x2 x5, f4 c x1 x3 x6 x7 x2 x4]
