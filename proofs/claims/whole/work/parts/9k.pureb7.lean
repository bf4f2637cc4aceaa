/-! ===== fool ===== -/
theorem fool_F {B : Nat} {x y z : Int32} {P : Pm} {rc : Nat} {s σ : Mm} (hI : Ivx B P rc s σ) (hA : ¬ ((∃ i, i < pn P ∧ x = nI i) ∧ Rok 1 30 y ∧ Rok 0 1 z)) : zfX11_fool x y z σ = some (-1000000, σ) := by
  unfold zfX11_fool
  refine lt_i (fun J hJ => ?_)
  have fin : J σ = some (-1000000, σ) := by rw [hJ]
  by_cases c0 : zfX11_isSeller x σ = 0
  case pos => rw [if_pos c0]; exact fin
  case neg =>
  rw [if_neg c0]
  by_cases c1 : zfX11_noDays y σ = 0
  case neg => rw [if_neg c1]; exact fin
  case pos =>
  rw [if_pos c1]
  by_cases c2 : zfX11_noWhat z 1 = 0
  case neg => rw [if_neg c2]; exact fin
  case pos =>
  rw [if_pos c2]
  exact absurd ⟨(Classical.byContradiction (fun h9 => c0 ((g_sel hI).1.mpr h9))), ((g_days hI).1.mp c1).2, (g_what1.mp c2)⟩ hA
theorem fool_G {B : Nat} {x y z : Int32} {P : Pm} {rc : Nat} {s σ : Mm} (hI : Ivx B P rc s (zst σ 703 0 0)) (hA : ¬ ((∃ i, i < pn P ∧ x = nI i) ∧ Rok 1 30 y ∧ Rok 0 1 z)) : zfX12_fool x y z σ = some (-1000000, zst σ 703 0 0) := by
  unfold zfX12_fool
  refine lt_i (fun υ hυe => ?_)
  refine lt_i (fun J hJ => ?_)
  rw [← hυe] at hI ⊢
  have hυ := hI
  have fin : J υ = some (-1000000, υ) := by rw [hJ]
  by_cases c0 : zfX12_isSeller x υ = 0
  case pos => rw [if_pos c0]; exact fin
  case neg =>
  rw [if_neg c0]
  by_cases c1 : zfX12_areDays y = 0
  case pos => rw [if_pos c1]; exact fin
  case neg =>
  rw [if_neg c1]
  by_cases c2 : zfX12_isIn z.toInt64 0 1 = 0
  case pos => rw [if_pos c2]; exact fin
  case neg =>
  rw [if_neg c2]
  exact absurd ⟨(Classical.byContradiction (fun h9 => c0 ((g_sel hυ).2.mpr h9))), (Classical.byContradiction (fun h9 => c1 (g_in30.mpr h9))), (Classical.byContradiction (fun h9 => c2 (g_in1.mpr h9)))⟩ hA
theorem hv_1 {x : Int32} {i : Nat} : hv x i 1 = x ||| ((1 : Int32) <<< (nI i &&& 31)) := if_neg (by decide)
theorem hv_0 {x : Int32} {i : Nat} : hv x i 0 = x &&& (((1 : Int32) <<< (nI i &&& 31)) ^^^ (-1)) := if_pos rfl
theorem hv_id {x : Int32} {i : Nat} (hi : i < 32) (h : ¬ hob x i) : hv x i 0 = x := by
  rw [hob_iff hi] at h
  rw [hv_0, ← Int32.toBitVec_inj, Int32.toBitVec_and, Int32.toBitVec_xor, hs_m i hi, hs_n]
  apply BitVec.eq_of_getLsbD_eq
  intro j hj
  rw [BitVec.getLsbD_and, BitVec.getLsbD_xor, BitVec.getLsbD_twoPow, BitVec.getLsbD_allOnes]
  by_cases e : j = i
  · subst e; rw [Bool.eq_false_iff.mpr h]; simp
  · have e2 : ¬ i = j := fun h => e h.symm
    simp [e2, hj]
/-- what was gained in so many days with the holders v -/
noncomputable def gnv (P : Pm) (s : Mm) (v : Int32) (d k : Nat) : Int32 := dys P (zst s 0 3 v) d 3 k - s 3 k
theorem c_gnv {B : Nat} {P : Pm} {rc d : Nat} {s σ υ : Mm} {v : Int32} (hI : Ivx B P rc s σ) (hA : AgS 69 υ (dys P (zst s 0 3 v) d)) (hF : FrS σ υ) : (∀ i, i < pn P → zfX10_gainOf (nI i) υ = some (gnv P s v d i)) ∧ Ok (zfX10_gainOfAll υ) (fun r => r = cw (gnv P s v d) (pn P)) := by
  have hn := hI.n
  have e : ∀ i, i < 6 → υ 72 i - υ 30 i = gnv P s v d i := fun i hi => by
    rw [hA.2.2.2.1 3 i (by omega) hi, hF.1 30 (Or.inr (Or.inl ⟨by omega, by omega, stk_n (by omega)⟩)), hI.2.2.2.2.1.1.1.2.2.2.1 3 i (by omega) hi]; rfl
  refine ⟨fun i hi => by rw [c_gain (by omega), e i (by omega)], ?_⟩
  refine ok_mono (c_gains hn.1 (by rw [hF.1 3 (by omega)]; exact hn.2.1)) (fun r hr => ?_)
  rw [hr]
  exact cw_cg (fun k hk => e k (by omega))
theorem q_fool {B : Nat} (hB : B < 900000) (x y z : Int32) : Qy B (zfX11_fool x y z) (zfX12_fool x y z) := by
  refine q_gen (-1000000) (fun P => (∃ i, i < pn P ∧ x = nI i) ∧ Rok 1 30 y ∧ Rok 0 1 z) (fun P rc s σ hI hA => fool_F hI hA) (fun P rc s σ hI hA => fool_G hI hA) (fun P rc s σ hI hA => ?_)
  obtain ⟨⟨i, i1, i2⟩, ⟨d, d1, d2, d3⟩, hz⟩ := hA
  have h0 : 0 < pn P := by omega
  have hn := hI.n.1
  have hm := hI.2.1.1.2.1
  unfold zfX11_fool
  refine ok_lg (fun J _ => ?_)
  rw [if_neg (fun c => (g_sel hI).1.mp c ⟨i, i1, i2⟩), if_pos ((g_days hI).1.mpr ⟨h0, d, d1, d2, d3⟩), if_pos (g_what1.mpr hz)]
  subst i2
  subst d3
  have hs := hI.ks hB
  refine cq_hwalk hB hI h0 d2 (fun υ1 a1 a2 => ?_)
  have hI1 := hI.fr a2
  obtain ⟨ga, gb⟩ := c_gnv hI a1 a2
  rw [ga i i1, bd_some, ok_bd]
  refine ok_mono gb (fun r1 hr1 => ?_)
  refine ok_lg (fun o1 ho1 => ?_)
  refine cq_hwalk hB hI1 h0 d2 (fun υ2 b1 b2 => ?_)
  obtain ⟨gc, gd⟩ := c_gnv hI b1 (a2.trans b2)
  rw [gc i i1, bd_some, ok_bd]
  refine ok_mono gd (fun r2 hr2 => ?_)
  refine ok_lg (fun o2 ho2 => ?_)
  have fr := a2.trans b2
  have yes : ∀ v : Int32, v = (if z = 0 then gnv P s (hv (s 0 3) i 0) d i - gnv P s (hv (s 0 3) i 1) d i else o1 - o2) → ∀ υ, Ivx B P rc s υ → υ = zst υ2 703 0 0 → Ok (zfX12_fool (nI i) (nI d) z υ2) (fun b => b.1 = v ∧ FrS υ b.2) := fun v hv' υ hυ e => by
    unfold zfX12_fool
    refine ok_lg (fun υ' e' => ?_)
    have : υ' = υ := e'.trans e.symm
    subst this
    refine ok_lg (fun J2 _ => ?_)
    rw [if_neg (fun c => (g_sel hυ).2.mp c ⟨i, i1, rfl⟩), if_neg (fun c => g_in30.mp c ⟨d, d1, d2, rfl⟩), if_neg (fun c => g_in1.mp c hz)]
    refine rq_keptb hB hυ h0 (fun τ k1 k2 k3 => ?_)
    have e32 : ∀ φ, Kb P rc s υ' φ → φ 703 32 = s 0 3 := fun φ h => by rw [h.1.2.2 32 (by omega)]; exact hυ.2.2.2.2.1.2.1.symm
    refine ok_lg (fun J3 hJ3 => ?_)
    have go : ∀ w : Int32, (z = 0 → w = 0) → (z = 1 → w = 1) → Ok (J3 w τ) (fun b => b.1 = v ∧ FrS υ' b.2) := fun w w0 w1 => by
      simp only [hJ3]
      rw [ok_bd2, e32 τ k1, ← hv_1]
      refine ok_mono (r_gainsBy k1 hs (hv_no i1 hn hs.2.2.2.2.2) (show d ≤ 60 by omega)) (fun b hb => ?_)
      obtain ⟨q1, q2⟩ := hb
      refine ok_lg (fun J4 hJ4 => ?_)
      have go2 : ∀ w2 : Int32, (z = 0 → w2 = 0) → (z = 1 → w2 = 1) → Ok (J4 w2 b.2) (fun b => b.1 = v ∧ FrS υ' b.2) := fun w2 u0 u1 => by
        simp only [hJ4]
        rw [ok_bd2, e32 b.2 q2, ← hv_0]
        refine ok_mono (r_gainsBy q2 hs (hv_no i1 hn hs.2.2.2.2.2) (show d ≤ 60 by omega)) (fun b2 hb2 => ?_)
        obtain ⟨p1, p2⟩ := hb2
        by_cases c : z = 0
        · rw [if_pos c, ok_s]
          rw [if_pos c] at hv'
          refine ⟨?_, p2.1⟩
          rw [q1, p1, hv', w0 c, u0 c, gby_own hn i1, gby_own hn i1]
          unfold gnv
          grind
        · have hz1 : z = 1 := by
            obtain ⟨t, t1, t2, t3⟩ := hz
            have : t = 0 ∨ t = 1 := by omega
            rcases this with rfl | rfl
            · exact absurd t3 c
            · exact t3
          rw [if_neg c, ok_s]
          rw [if_neg c] at hv'
          refine ⟨?_, p2.1⟩
          rw [q1, p1, hv', w1 hz1, u1 hz1, gby_oth hn i1, gby_oth hn i1, ho1, ho2, hr1, hr2]
          unfold gnv
          rw [cw_sub, cw_sub]
          grind
      by_cases c : z = 1
      · rw [if_pos c]; exact go2 1 (fun h => by rw [h] at c; exact absurd c (by decide)) (fun _ => rfl)
      · rw [if_neg c]; exact go2 0 (fun _ => rfl) (fun h => absurd h c)
    by_cases c : z = 1
    · rw [if_pos c]; exact go 1 (fun h => by rw [h] at c; exact absurd c (by decide)) (fun _ => rfl)
    · rw [if_neg c]; exact go 0 (fun _ => rfl) (fun h => absurd h c)
  by_cases c : z = 0
  · rw [if_pos c, ok_s]
    exact ⟨fr, yes _ (by rw [if_pos c])⟩
  · rw [if_neg c, ok_s]
    exact ⟨fr, yes _ (by rw [if_neg c])⟩
