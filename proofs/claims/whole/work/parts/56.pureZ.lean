/-! ===== the class sets the askings ===== -/
def stk (c : Nat) : Prop := 12 ≤ c ∧ c < 27 ∧ c % 3 = 2
/-- the letters of a rule for one seller -/
def ltr (board day bu : Int32) (g : Nat → Nat) (co left : Nat → Int32) (k : Nat) : Nat → Int32 := fun j => if j = 0 then board else if j = 1 then nI (g k) else if j = 2 then co k else if j = 3 then day else if j = 4 then left k else bu
/-- what a seller asks -/
def asV (to ru : Nat → Int32) (holds board : Int32) (W : Nat → (Nat → Int32) → Int32) (lam : Nat → Nat → Int32) (k : Nat) : Int32 :=
  if to k = -1 then (if (holds >>> (nI k &&& 31)) &&& 1 = 0 then (if ru k < 0 then board else if 5 ≤ ru k then board else zmax 0 (zmin board (W (ix (ru k)) (lam k)))) else board) else to k
theorem c_ask {N q : Nat} {g : Nat → Nat} {to ru co left : Nat → Int32} {holds board day bu : Int32} {W : Nat → (Nat → Int32) → Int32} {σ : Mm} (hq : 43 ≤ q ∨ q + 9 < 37) (hq11 : 27 ≤ q) (hN : N ≤ 6) (h5 : σ 37 5 = nI N)
    (hto : ∀ k, k < N → σ 38 k = to k) (hg : ∀ k, k < N → σ (q + 1) k = nI (g k)) (hco : ∀ k, k < N → σ 5 k = co k) (hle : ∀ k, k < N → σ (q + 2) k = left k) (hru : ∀ k, k < N → σ (q + 6) k = ru k) (hb : σ q 0 = board) (hd : σ q 1 = day) (hh : σ q 3 = holds)
    (hW : ∀ k, k < N → to k = -1 → (holds >>> (nI k &&& 31)) &&& 1 = 0 → inb (ru k) 5 → ∀ τ, τ (12 + 3 * ix (ru k)) = σ (12 + 3 * ix (ru k)) → τ (13 + 3 * ix (ru k)) = σ (13 + 3 * ix (ru k)) → (∀ j, j < 6 → τ 42 j = ltr board day bu g co left k j) →
      Ok (zfX4_worth (12 + 3 * ix (ru k)) τ) (fun a => a.1 = W (ix (ru k)) (ltr board day bu g co left k) ∧ ∀ c, c ≠ 12 + 3 * ix (ru k) + 2 → a.2 c = τ c)) :
    Ok (zfX6_setAskings q bu σ) (fun τ => (∀ k, k < N → τ (q + 4) k = asV to ru holds board W (ltr board day bu g co left) k) ∧ (∀ k, N ≤ k → τ (q + 4) k = σ (q + 4) k) ∧ ∀ c, c ≠ q + 4 → c ≠ 42 → ¬ stk c → τ c = σ c) := by
  unfold zfX6_setAskings
  rw [show ix 0 = 0 by decide, show ix 3 = 3 by decide, show ix 5 = 5 by decide]
  rw [ok_lt, ok_lt, ok_lt, ok_lt, zst_n (show q ≠ 42 by omega), hb, hd]
  generalize hS : zst (zst (zst σ 42 0 board) 42 3 day) 42 5 bu = S
  have sc : ∀ c, c ≠ 42 → S c = σ c := fun c hc => by rw [← hS, zst_n hc, zst_n hc, zst_n hc]
  have s0 : S 42 0 = board := by rw [← hS, zst_k (by decide), zst_k (by decide), zst_v]
  have s3 : S 42 3 = day := by rw [← hS, zst_k (by decide), zst_v]
  have s5 : S 42 5 = bu := by rw [← hS, zst_v]
  refine ok_up (F := fun fu (s : Int32 × Mm) => zfX6_setAskings_L29 (fun σ196 => some σ196) q fu s.1 s.2) N (fun i s => s.1 = nI i ∧ (∀ k, k < i → s.2 (q + 4) k = asV to ru holds board W (ltr board day bu g co left) k) ∧ (∀ k, i ≤ k → s.2 (q + 4) k = σ (q + 4) k) ∧ (∀ c, c ≠ q + 4 → c ≠ 42 → ¬ stk c → s.2 c = σ c) ∧ s.2 42 0 = board ∧ s.2 42 3 = day ∧ s.2 42 5 = bu) ?_ ?_ 0 NF (0, S) ⟨rfl, fun k hk => absurd hk (Nat.not_lt_zero k), fun k _ => by dsimp only; rw [sc _ (by omega)], fun c a1 a2 a3 => sc c a2, s0, s3, s5⟩ (by omega) (by unfold NF; omega)
  · rintro i fu ⟨y, τ⟩ hi ⟨hy, i1, i2, i3, i4, i5, i6⟩ hk
    have hy : y = nI i := hy
    subst hy
    have i1 : ∀ k, k < i → τ (q + 4) k = asV to ru holds board W (ltr board day bu g co left) k := i1
    have i2 : ∀ k, i ≤ k → τ (q + 4) k = σ (q + 4) k := i2
    have i3 : ∀ c, c ≠ q + 4 → c ≠ 42 → ¬ stk c → τ c = σ c := i3
    have i4 : τ 42 0 = board := i4
    have i5 : τ 42 3 = day := i5
    have i6 : τ 42 5 = bu := i6
    have ns : ∀ c, c < 12 ∨ 27 ≤ c → ¬ stk c := fun c hc h => by unfold stk at h; omega
    have hq0 : τ q = σ q := i3 q (by omega) (by omega) (ns q (by omega))
    show Ok (zfX6_setAskings_L29 _ q (fu + 1) (nI i) τ) _
    unfold zfX6_setAskings_L29
    have hin : inb (nI i) 6 := (n_in (by omega)).mpr (by omega)
    rw [i3 37 (by omega) (by omega) (ns _ (by omega)), h5, if_neg (by rw [n_le (by omega) (by omega)]; omega)]
    simp only [ck_t hin, lt_p, n_ix (show i < 2147483648 by omega), show nI i + 1 = nI (i + 1) from n_add _ 1, show ix 1 = 1 by decide, show ix 2 = 2 by decide, show ix 4 = 4 by decide]
    rw [i3 38 (by omega) (by omega) (ns _ (by omega)), hto i hi, i3 (q + 6) (by omega) (by omega) (ns _ (by omega)), hru i hi]
    -- going on with an asking v set down in a memory φ
    have go : ∀ (φ : Mm) (v : Int32), v = asV to ru holds board W (ltr board day bu g co left) i → φ (q + 4) = τ (q + 4) → (∀ c, c ≠ q + 4 → c ≠ 42 → ¬ stk c → φ c = σ c) → φ 42 0 = board → φ 42 3 = day → φ 42 5 = bu →
        Ok (zfX6_setAskings_L29 (fun σ196 => some σ196) q fu (nI (i + 1)) (zst φ (q + 4) i v)) (fun τ => (∀ k, k < N → τ (q + 4) k = asV to ru holds board W (ltr board day bu g co left) k) ∧ (∀ k, N ≤ k → τ (q + 4) k = σ (q + 4) k) ∧ ∀ c, c ≠ q + 4 → c ≠ 42 → ¬ stk c → τ c = σ c) := by
      intro φ v hv p4 pc p0 p3 p5
      refine hk (nI (i + 1), zst φ (q + 4) i v) ⟨rfl, fun k hk => ?_, fun k hk => ?_, fun c a1 a2 a3 => ?_, ?_, ?_, ?_⟩
      · dsimp only; rw [zst_s, p4]
        by_cases e : k = i
        · rw [e, upd_s, hv]
        · rw [upd_n e]; exact i1 k (by omega)
      · dsimp only; rw [zst_s, p4, upd_n (by omega)]; exact i2 k (by omega)
      · dsimp only; rw [zst_n a1]; exact pc c a1 a2 a3
      · dsimp only; rw [zst_n (by omega)]; exact p0
      · dsimp only; rw [zst_n (by omega)]; exact p3
      · dsimp only; rw [zst_n (by omega)]; exact p5
    by_cases ct : to i = -1
    case neg =>
      rw [if_neg ct]
      exact go τ _ (by unfold asV; rw [if_neg ct]) rfl i3 i4 i5 i6
    case pos =>
    rw [if_pos ct]
    have ehold : (zfX8_isHolding q (nI i) τ = 0) ↔ (holds >>> (nI i &&& 31)) &&& 1 = 0 := by
      rw [c_hold, hq0, hh]; unfold hob
      exact ⟨fun h => Classical.byContradiction fun h2 => h h2, fun h h2 => h2 h⟩
    by_cases chd : (holds >>> (nI i &&& 31)) &&& 1 = 0
    case neg =>
      rw [if_neg (fun h => chd (ehold.mp h)), hq0, hb]
      exact go τ _ (by unfold asV; rw [if_pos ct, if_neg chd]) rfl i3 i4 i5 i6
    case pos =>
    rw [if_pos (ehold.mpr chd)]
    by_cases c0 : ru i < 0
    · rw [if_pos c0, hq0, hb]
      exact go τ _ (by unfold asV; rw [if_pos ct, if_pos chd, if_pos c0]) rfl i3 i4 i5 i6
    · rw [if_neg c0]
      by_cases c5 : 5 ≤ ru i
      · rw [if_pos c5, hq0, hb]
        exact go τ _ (by unfold asV; rw [if_pos ct, if_pos chd, if_neg c0, if_pos c5]) rfl i3 i4 i5 i6
      · have hin5 : inb (ru i) 5 := by
          rw [Int32.lt_iff_toInt_lt] at c0
          rw [Int32.le_iff_toInt_le] at c5
          have e0 : (0 : Int32).toInt = 0 := rfl
          have e5 : (5 : Int32).toInt = 5 := rfl
          exact ⟨by omega, by omega⟩
        have hix : ix (ru i) < 5 := by
          have := hin5.2; have := hin5.1
          unfold ix Int32.toNatClampNeg; omega
        rw [if_neg c5, ck_t hin5, ck_t hin5, i3 (q + 1) (by omega) (by omega) (ns _ (by omega)), hg i hi, zst_n (show 5 ≠ 42 by decide), i3 5 (by omega) (by omega) (ns _ (by omega)), hco i hi, zst_n (show q + 2 ≠ 42 by omega), zst_n (show q + 2 ≠ 42 by omega), i3 (q + 2) (by omega) (by omega) (ns _ (by omega)), hle i hi]
        generalize hφ : zst (zst (zst τ 42 1 (nI (g i))) 42 2 (co i)) 42 4 (left i) = φ
        have pc : ∀ c, c ≠ 42 → φ c = τ c := fun c hc => by rw [← hφ, zst_n hc, zst_n hc, zst_n hc]
        have p0 : φ 42 0 = board := by rw [← hφ, zst_k (by decide), zst_k (by decide), zst_k (by decide)]; exact i4
        have p1 : φ 42 1 = nI (g i) := by rw [← hφ, zst_k (by decide), zst_k (by decide), zst_v]
        have p2 : φ 42 2 = co i := by rw [← hφ, zst_k (by decide), zst_v]
        have p3 : φ 42 3 = day := by rw [← hφ, zst_k (by decide), zst_k (by decide), zst_k (by decide)]; exact i5
        have p4 : φ 42 4 = left i := by rw [← hφ, zst_v]
        have p5 : φ 42 5 = bu := by rw [← hφ, zst_k (by decide), zst_k (by decide), zst_k (by decide)]; exact i6
        rw [ok_bd2]
        refine ok_mono (hW i hi ct chd hin5 φ ?_ ?_ (fun j hj => ?_)) (fun a ha => ?_)
        · rw [pc _ (by omega)]; exact i3 _ (by omega) (by omega) (fun h => by unfold stk at h; omega)
        · rw [pc _ (by omega)]; exact i3 _ (by omega) (by omega) (fun h => by unfold stk at h; omega)
        · have : j = 0 ∨ j = 1 ∨ j = 2 ∨ j = 3 ∨ j = 4 ∨ j = 5 := by omega
          rcases this with rfl | rfl | rfl | rfl | rfl | rfl
          · exact p0
          · exact p1
          · exact p2
          · exact p3
          · exact p4
          · exact p5
        · obtain ⟨a1, a2⟩ := ha
          have ac : ∀ c, ¬ stk c → a.2 c = φ c := fun c hc => a2 c (fun e => hc (by unfold stk; omega))
          have a42 : a.2 42 = φ 42 := ac 42 (ns _ (by omega))
          rw [ac q (ns _ (by omega)), pc q (by omega), hq0, hb, a1]
          refine go a.2 _ (by unfold asV; rw [if_pos ct, if_pos chd, if_neg c0, if_neg c5]) ?_ (fun c b1 b2 b3 => ?_) (by rw [a42]; exact p0) (by rw [a42]; exact p3) (by rw [a42]; exact p5)
          · rw [ac _ (ns _ (by omega)), pc _ (by omega)]
          · rw [ac c b3, pc c b2]; exact i3 c b1 b2 b3
  · rintro fu ⟨y, τ⟩ ⟨hy, i1, i2, i3, i4, i5, i6⟩
    have hy : y = nI N := hy
    subst hy
    have i3' : ∀ c, c ≠ q + 4 → c ≠ 42 → ¬ stk c → τ c = σ c := i3
    show Ok (zfX6_setAskings_L29 _ q (fu + 1) (nI N) τ) _
    unfold zfX6_setAskings_L29
    rw [i3' 37 (by omega) (by omega) (fun h => by unfold stk at h; omega), h5, if_pos (by rw [n_le (by omega) (by omega)]; omega), ok_s]
    exact ⟨i1, i2, i3⟩
