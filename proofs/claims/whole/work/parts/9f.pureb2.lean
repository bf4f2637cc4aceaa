/-! ===== days: draws ===== -/
theorem m100 (u : Int64) : -100 < (u - u / 100 * 100).toInt ∧ (u - u / 100 * 100).toInt < 100 := by
  have e : (u - u / 100 * 100).toInt = u.toInt.tmod 100 := by
    have e1 : (100 : Int64).toInt = 100 := by decide
    have h1 := Int.mul_tdiv_add_tmod u.toInt 100
    have h2 := Int.tmod_lt_of_pos u.toInt (show (0 : Int) < 100 by decide)
    have h3 := Int.lt_tmod_of_pos u.toInt (show (0 : Int) < 100 by decide)
    rw [Int64.toInt_sub, Int64.toInt_mul, Int64.toInt_div, e1, Int.bmod_mul_bmod, Int.sub_bmod_bmod, show u.toInt - u.toInt.tdiv 100 * 100 = u.toInt.tmod 100 by omega]
    exact Int.bmod_eq_of_le (by omega) (by omega)
  have h2 := Int.tmod_lt_of_pos u.toInt (show (0 : Int) < 100 by decide)
  have h3 := Int.lt_tmod_of_pos u.toInt (show (0 : Int) < 100 by decide)
  rw [e]; exact ⟨h3, h2⟩
theorem fst_eq (u : Int64) (r : Int32) : (r ≤ Int64.toInt32 (u - u / 100 * 100)) ↔ 0 ≤ lg_cmp (u - u / 100 * 100) (Int32.toInt64 r) := by
  have h := m100 u
  generalize u - u / 100 * 100 = m at h ⊢
  have e1 : (Int64.toInt32 m).toInt = m.toInt := by
    rw [Int64.toInt_toInt32]
    exact Int.bmod_eq_of_le (by omega) (by omega)
  have e2 : (Int32.toInt64 r).toInt = r.toInt := Int32.toInt_toInt64 r
  rw [Int32.le_iff_toInt_le, e1]
  unfold lg_cmp
  by_cases c : m > Int32.toInt64 r
  · rw [if_pos c]
    have c2 : (Int32.toInt64 r).toInt < m.toInt := Int64.lt_iff_toInt_lt.mp c
    exact ⟨fun _ => by decide, fun _ => by omega⟩
  · rw [if_neg c]
    have c2 : ¬ (Int32.toInt64 r).toInt < m.toInt := fun h => c (Int64.lt_iff_toInt_lt.mpr h)
    by_cases c3 : m = Int32.toInt64 r
    · rw [if_pos c3]
      exact ⟨fun _ => by decide, fun _ => by rw [c3]; omega⟩
    · rw [if_neg c3]
      have c4 : ¬ m.toInt = (Int32.toInt64 r).toInt := fun h => c3 (Int64.toInt_inj.mp h)
      exact ⟨fun h => by omega, fun h => absurd h (by decide)⟩
def lcg (hi lo : Int32) : Int64 := zj hi lo * 6364136223846793005 + 1442695040888963407
def drS (s : Mm) : Mm := zst (zst s 0 4 (zjh (lcg (s 0 4) (s 0 204)))) 0 204 (zjl (lcg (s 0 4) (s 0 204)))
theorem drS_k {s : Mm} {i k : Nat} (h : i ≠ 0 ∨ k ≠ 4 ∧ k ≠ 204) : drS s i k = s i k := by
  unfold drS
  by_cases c : i = 0
  · subst c
    rw [zst_k (by omega), zst_k (by omega)]
  · rw [zst_n c, zst_n c]
theorem drS_r {s : Mm} {i : Nat} (h : i ≠ 0) : drS s i = s i := by unfold drS; rw [zst_n h, zst_n h]
theorem drS_4 {s : Mm} : drS s 0 4 = zjh (lcg (s 0 4) (s 0 204)) ∧ drS s 0 204 = zjl (lcg (s 0 4) (s 0 204)) := by
  unfold drS
  exact ⟨by rw [zst_k (by omega), zst_v], zst_v⟩
theorem drS_wf {P : Pm} {rc B : Nat} {s : Mm} (hs : WFs P s) (hR : RuS P rc s) (hB : sm B (s 0 1)) : WFs P (drS s) ∧ RuS P rc (drS s) ∧ sm B (drS s 0 1) := by
  obtain ⟨w1, w2, w3, w4, w5, w6, w7⟩ := hs
  obtain ⟨r1, r2, r3⟩ := hR
  refine ⟨⟨by rw [drS_k (by omega)]; exact w1, by rw [drS_k (by omega)]; exact w2, by rw [drS_r (by omega)]; exact w3, by rw [drS_r (by omega)]; exact w4, by rw [drS_r (by omega)]; exact w5, by rw [drS_r (by omega)]; exact w6, by rw [drS_r (by omega)]; exact w7⟩, ⟨r1, r2, by rw [drS_r (by omega)]; exact r3⟩, by rw [drS_k (by omega)]; exact hB⟩
/-- what is drawn, of a hundred -/
def drU (s : Mm) : Int64 := (Int64.toUInt64 (zj (s 0 4) (s 0 204)) >>> ((Int64.toUInt64 (Int32.toInt64 33)) &&& Int64.toUInt64 63)).toInt64
/-- one day that goes on, with a draw where feasts are -/
noncomputable def dd1 (P : Pm) (r : Int32) (s : Mm) : Mm := if r ≤ 0 then dayS P 0 s else if r ≤ Int64.toInt32 (drU (drS s) - drU (drS s) / 100 * 100) then dayS P 0 (drS s) else dayS P 1 (drS s)
noncomputable def dds (P : Pm) (r : Int32) (s : Mm) : Nat → Mm
  | 0 => s
  | j + 1 => dd1 P r (dds P r s j)
theorem dd1_p {P : Pm} {r : Int32} {s : Mm} {p : Mm → Prop} (h1 : ∀ f, p (dayS P f s)) (h2 : ∀ f, p (dayS P f (drS s))) : p (dd1 P r s) := by
  unfold dd1
  by_cases c : r ≤ 0
  · rw [if_pos c]; exact h1 _
  · rw [if_neg c]
    split
    · exact h2 _
    · exact h2 _
theorem dds_wf {P : Pm} {s : Mm} {rc B : Nat} {r : Int32} (hP : WFp P) (hs : WFs P s) (hR : RuS P rc s) (hB : sm B (s 0 1)) (hB2 : B < 900000) : ∀ j, j ≤ 1000 → WFs P (dds P r s j) ∧ RuS P rc (dds P r s j) ∧ sm (B + j) (dds P r s j 0 1) ∧ dds P r s j 0 3 = s 0 3 ∧ dds P r s j 6 = s 6 := by
  intro j
  induction j with
  | zero => intro _; exact ⟨hs, hR, hB, rfl, rfl⟩
  | succ j ih =>
    intro hj
    obtain ⟨i1, i2, i3, i4, i5⟩ := ih (by omega)
    refine dd1_p (p := fun t => WFs P t ∧ RuS P rc t ∧ sm (B + (j + 1)) (t 0 1) ∧ t 0 3 = s 0 3 ∧ t 6 = s 6) (fun f => ?_) (fun f => ?_)
    · have := dayS_wf (f := f) hP i1 i3 (by omega)
      exact ⟨this.1, i2.day, this.2, by rw [dayS_3, i4], by rw [dayS_6, i5]⟩
    · have hd := drS_wf i1 i2 i3
      have := dayS_wf (f := f) hP hd.1 hd.2.2 (by omega)
      exact ⟨this.1, hd.2.1.day, this.2, by rw [dayS_3, drS_k (by omega), i4], by rw [dayS_6, drS_r (by omega), i5]⟩
theorem Ivx.up {B B2 : Nat} {P : Pm} {rc : Nat} {s σ : Mm} (h : Ivx B P rc s σ) (hB : B ≤ B2) : Ivx B2 P rc s σ := by
  have key : ∀ {x : Int32}, sm B x → sm B2 x := fun h => ⟨h.1, by have := h.2; omega⟩
  obtain ⟨h1, h2, h3, h4, ⟨⟨s1, s2, s3, s4, s5, s6⟩, s7⟩, h6, ⟨i1, i2⟩, h8⟩ := h
  refine ⟨h1, h2, h3, h4, ⟨⟨s1, s2, s3, s4, key s5, s6⟩, s7⟩, h6, ⟨i1, i2.imp id (fun h => ⟨h.1, h.2.1, ?_⟩)⟩, h8⟩
  obtain ⟨s, ⟨t1, t2, t3, t4, t5, t6⟩, t7⟩ := h.2.2
  exact ⟨s, ⟨t1, t2, t3, t4, key t5, t6⟩, t7⟩
