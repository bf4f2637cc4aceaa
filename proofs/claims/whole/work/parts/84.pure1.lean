/-! ===== count ===== -/
theorem q_count {B : Nat} (x : Int32) : Qy B (fun σ => some (zfX11_count x σ, σ)) (zfX12_count x) := by
  refine q_pure (fun P rc s σ hI => ?_)
  rw [ok_s]
  refine ⟨FrS.refl, fun υ hυ e => ?_⟩
  dsimp only at e ⊢
  unfold zfX12_count
  refine ok_lg (fun υ' e' => ?_)
  have : υ' = υ := e'.trans e.symm
  subst this
  have hc : zfX11_count x σ = zfX11_count x υ' := by
    unfold zfX11_count
    rw [e, zst_n (by omega), zst_n (by omega), zst_n (by omega), zst_n (by omega), zst_n (by omega), zst_n (by omega)]
  rw [hc]
  obtain ⟨⟨n, t, a1, a2, a3, a4⟩, _, ⟨m1, m2, m3, m4, ⟨m5, m6, m7, m8⟩, m9⟩, ⟨r1, r2, _⟩, ⟨⟨s1, s2, _⟩, _⟩, _, _, ⟨⟨k, b1, b2, b3, _⟩, ⟨l, c1, c2, c3, _⟩⟩⟩ := hυ
  rw [wr_self] at s2
  unfold zfX11_count
  by_cases e0 : x = 0
  · rw [if_pos e0, if_pos e0, ok_s]; exact ⟨m3.trans m1.symm, FrS.refl⟩
  rw [if_neg e0, if_neg e0]
  by_cases e1 : x = 1
  · rw [if_pos e1, if_pos e1, ok_s]; exact ⟨m4.trans m2.symm, FrS.refl⟩
  rw [if_neg e1, if_neg e1]
  by_cases e2 : x = 2
  · rw [if_pos e2, if_pos e2, ok_s]; exact ⟨r2.trans r1.symm, FrS.refl⟩
  rw [if_neg e2, if_neg e2]
  by_cases e3 : x = 3
  · rw [if_pos e3, if_pos e3, ok_s]; exact ⟨a3.trans a2.symm, FrS.refl⟩
  rw [if_neg e3, if_neg e3]
  by_cases e4 : x = 4
  · rw [if_pos e4, if_pos e4, ok_s]; exact ⟨s2.2.2.2.1.trans (s1.1 1 (by omega)).symm, FrS.refl⟩
  rw [if_neg e4, if_neg e4]
  by_cases e5 : x = 5
  · rw [if_pos e5, if_pos e5, ok_s]; exact ⟨s2.2.1.trans (s1.1 0 (by omega)).symm, FrS.refl⟩
  rw [if_neg e5, if_neg e5]
  by_cases e6 : x = 6
  · rw [if_pos e6, if_pos e6, ok_s]; exact ⟨s2.2.2.1.trans (s1.1 2 (by omega)).symm, FrS.refl⟩
  rw [if_neg e6, if_neg e6]
  by_cases e7 : x = 7
  · rw [if_pos e7, if_pos e7, ok_s]; exact ⟨b3.trans b2.symm, FrS.refl⟩
  rw [if_neg e7, if_neg e7]
  by_cases e8 : x = 8
  · rw [if_pos e8, if_pos e8, ok_s]; exact ⟨c3.trans c2.symm, FrS.refl⟩
  rw [if_neg e8, if_neg e8]
  by_cases e9 : x = 9
  · rw [if_pos e9, if_pos e9, ok_s]; exact ⟨m8.trans m6.symm, FrS.refl⟩
  rw [if_neg e9, if_neg e9]
  by_cases e10 : x = 10
  · rw [if_pos e10, if_pos e10, ok_s]; exact ⟨m7.trans m5.symm, FrS.refl⟩
  rw [if_neg e10, if_neg e10, ok_s]
  exact ⟨rfl, FrS.refl⟩
