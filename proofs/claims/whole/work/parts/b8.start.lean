/-! ===== the memory behind both constructors ===== -/
def zg0 : Mm := zst (zst (zst (zst (zst (zst (fun _ _ => 0) 703 5 (nI 704)) 717 (ix 0) (-1)) 717 (ix 1) (-1)) 717 (ix 2) (-1)) 717 (ix 3) (-1)) 717 (ix 4) (-1)
def zP0 : Pm := ((0, 0, 0), (fun _ _ => 0), (fun i _ => if i = 2 then -1 else 0), fun _ _ => 0)
theorem zg0_n {c : Nat} (h1 : c ≠ 703) (h2 : c ≠ 717) : zg0 c = fun _ => 0 := by
  unfold zg0
  rw [zst_n h2, zst_n h2, zst_n h2, zst_n h2, zst_n h2, zst_n h1]
theorem zg0_m {k : Nat} (h : k ≠ 5) : zg0 703 k = 0 := by
  unfold zg0
  rw [zst_n (by decide), zst_n (by decide), zst_n (by decide), zst_n (by decide), zst_n (by decide), zst_s, upd_n h]
theorem zg0_c {c k : Nat} (h1 : c ≠ 703) (h2 : c ≠ 717) : zg0 c k = 0 := by rw [zg0_n h1 h2]
theorem sm_00 {B : Nat} : sm B 0 := ⟨rfl, Nat.zero_le _⟩
theorem hob_00 {k : Nat} : ¬ hob 0 k := by
  unfold hob
  rw [show ((0 : Int32) >>> (nI k &&& 31)) = 0 by simp]
  decide
theorem iv_0 {B : Nat} : Iv B zg0 := by
  refine ⟨zP0, 0, fun _ _ => 0, ?_, ?_, ?_, ?_, ?_, ?_, ?_, ?_⟩
  · exact ⟨0, fun _ => 0, by decide, zg0_c (by decide) (by decide), zg0_m (by decide), fun k h => absurd h (by omega), fun k h => absurd h (by omega)⟩
  · refine ⟨⟨by decide, by decide, by decide, by decide, fun k h => absurd h (Nat.not_lt_zero k), fun k h => absurd h (Nat.not_lt_zero k), fun k h => absurd h (Nat.not_lt_zero k), fun k _ h => absurd h (Nat.not_lt_zero k), sm_00⟩, ⟨fun i j _ h => absurd h (Nat.not_lt_zero j), fun i h => absurd h (Nat.not_lt_zero i)⟩, rfl, fun k => rfl⟩
  · exact ⟨zg0_c (by decide) (by decide), zg0_c (by decide) (by decide), zg0_m (by decide), zg0_m (by decide), ⟨zg0_c (by decide) (by decide), zg0_c (by decide) (by decide), zg0_c (by decide) (by decide), zg0_c (by decide) (by decide)⟩, fun k h => absurd h (Nat.not_lt_zero k), fun k h => absurd h (Nat.not_lt_zero k), fun k _ _ => ⟨zg0_c (by decide) (by decide), zg0_c (by decide) (by decide), zg0_c (by decide) (by decide)⟩⟩
  · exact ⟨zg0_c (by decide) (by decide), zg0_m (by decide), by decide, fun r h => absurd h (Nat.not_lt_zero r), fun r h => absurd h (Nat.not_lt_zero r)⟩
  · refine ⟨⟨⟨fun k _ => zg0_c (by decide) (by decide), zg0_c (by decide) (by decide), zg0_c (by decide) (by decide), fun i k h _ => zg0_c (by omega) (by omega), fun k _ => zg0_c (by decide) (by decide)⟩, ?_, ?_, ⟨by decide, fun _ _ _ _ => rfl, fun k h => absurd h (Nat.not_lt_zero k)⟩, sm_00, fun k _ _ => hob_00⟩, (zg0_m (by decide)).symm, fun k h => absurd h (Nat.not_lt_zero k), zg0_m (by decide), zg0_m (by decide)⟩
    · have e : ∀ k, wr zg0 714 (zg0 714) 714 k = 0 := fun k => by
        show (if (714 : Nat) = 714 then zg0 714 else zg0 714) k = 0
        rw [if_pos rfl]; exact zg0_c (by decide) (by decide)
      exact ⟨fun k h => absurd h (Nat.not_lt_zero k), e _, e _, e _, fun i k h => absurd h (Nat.not_lt_zero i), fun j _ _ => e _⟩
    · exact ⟨sm_00, sm_00, fun k h => sm_00, fun k h => sm_00, fun k h => sm_00, fun _ _ _ _ _ => rfl, fun _ _ _ => rfl⟩
  · rw [zg0_c (by decide) (by decide), zg0_m (by decide)]
    exact ⟨rfl, sm_00⟩
  · exact ⟨by rw [zg0_c (by decide) (by decide), zg0_m (by decide)], Or.inl (zg0_c (by decide) (by decide))⟩
  · exact ⟨⟨0, by decide, zg0_c (by decide) (by decide), zg0_m (by decide), fun k h => absurd h (Nat.not_lt_zero k)⟩, ⟨0, by decide, zg0_c (by decide) (by decide), zg0_m (by decide), fun k h => absurd h (Nat.not_lt_zero k)⟩⟩
