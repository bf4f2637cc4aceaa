section ZD
variable {p : Program} {l : Launch} {e : Env} {R : Room} {s : State} {m : MethodId} {args : Array Value} {below : List Frame} {meth : Method} {c : Code} {H : Heap} {locs : List Loc} {cells slots : Nat} {Q : State → Prop}
variable {cc : ByteArray} {nL : Nat} {own : String} {D : va_G} {A0 : Nat} {σ : Mm} {G : Gm} {n : Nat} {pc : Nat} {ls : Array Slot} {rest st : List Value}
def zQl (D : va_G) (A0 : Nat) (r : Int64) (σ : Mm) (G : Gm) (n : Nat) : Array Value → State → Outcome → State → Prop := va_Ql (S := Unit) (fun x _ => x = r) (fun _ => zWd D A0 σ G n) (zA A0)
theorem zc_l {a2 : Array Value} {r : Int64} {σ1 : Mm} {G1 : Gm} {n1 : Nat} (Z : zh D A0 σ G n s.heap H locs) (hr : va_Run p l e R s m args below meth c H locs cells slots 0 0 (F0 m pc ls st) rest (zQl D A0 r σ1 G1 n1 a2) (zA A0))
    (kk : ∀ (H1 : Heap) (locs1 : List Loc), zh D A0 σ1 G1 n1 s.heap H1 locs1 → W p l e R s m args below meth c H1 locs1 cells slots Q (F0 m (pc + 3) ls (.long r :: rest))) : W p l e R s m args below meth c H locs cells slots Q (F0 m pc ls st) :=
  va_calll hr Z.2 (fun _ _ h => h) (fun _ h => h) (fun r1 _ t H1 locs1 ht _ hp hb _ _ hS => by subst hp; exact kk H1 locs1 ⟨by rw [← ht]; exact hb.1, hS⟩)
theorem ze_l {r r1 : Int64} {σ1 : Mm} (F : zx p s m c cc nL args own D A0) (Z : zh D A0 σ G n s.heap H locs) (hr : meth.sig.returnType = some .long) (hlocks : meth.locks = false) (h1 : r = r1) (h2 : σ = σ1) (hd : decode cc pc = .ok (.lreturn, 1)) :
    W p l e R s m args below meth c H locs cells slots (MQ below (zQl D A0 r1 σ1 G n) args s cells slots (zA A0)) (F0 m pc ls [.long r]) := by
  subst h1; subst h2
  exact W.lret F.1.1 F.1.2.1 hr (fun t ht hW => ⟨⟨r, (), rfl, rfl, (zend F Z ht hW).1⟩, (zend F Z ht hW).2⟩) Z.2.2.2 hd hlocks
theorem zw_aaldA (F : zx p s m c cc nL args own D A0) (Z : zh D A0 σ G n s.heap H locs) {a N ty b : Nat} {i : Int32} {ft : FieldType} (ha : a < n) (hs : zs a = (50 + ty, N)) (hty : 4 ≤ ty) (ht : (zTY D)[ty]? = some (D.1 (50 + ty), .array ft)) (hin : inb i N) (hG : G a (ix i) = some b) (hd : decode cc pc = .ok (.aaload, 1))
    (kk : W p l e R s m args below meth c H locs cells slots Q (F0 m (pc + 1) ls (.ref (A0 + b) :: rest))) : W p l e R s m args below meth c H locs cells slots Q (F0 m pc ls (.int i :: .ref (A0 + a) :: rest)) := by
  have hin2 := inb_vp hin
  have hlt : i.toNatClampNeg < N := Nat.not_le.mp fun q => hin2 (Or.inr q)
  have hat : H[A0 + a]? = some (vp_cell (D.1 (50 + ty)) (N, .inr (.inr (.inr (.inr (fun j => (G a j).map (fun b => A0 + b))))))) := by
    have h9 := Z.1 a (A0 + a, zent D A0 σ G a) (zwl_get ha)
    rw [zent_q hs (by omega)] at h9
    exact h9
  refine W.aald (v := va_rf ((G a (ix i)).map (fun b => A0 + b))) (ty := .array ft) F.1.1 F.1.2.1 hat ((F.2.1.2 ty _ ht).1 N (fun j => va_rf ((G a j).map (fun b => A0 + b)))) rfl (fun q => by cases q) (by show ¬ (i < 0 ∨ (arrV _ _ _).slots.size ≤ _); rw [arrV_size]; exact hin2) (by show (arrV _ _ _).slots[_]? = _; rw [arrV_read _ _ hlt]) rfl rfl hd ?_
  rw [hG]
  exact kk
end ZD
def zIsSb (a : Nat) : Bool := a == 27 || a == 58 || a == 69 || (decide (85 ≤ a) && decide (a < 695) && (a - 85) % 10 == 0)
theorem zSb {a : Nat} (h : zIsSb a = true) : zIsS a := by
  unfold zIsSb at h
  simp only [Bool.or_eq_true, beq_iff_eq, Bool.and_eq_true, decide_eq_true_eq] at h
  rcases h with ((h | h) | h) | h
  · exact Or.inl h
  · exact Or.inr (Or.inl h)
  · exact Or.inr (Or.inr (Or.inl h))
  · exact Or.inr (Or.inr (Or.inr ⟨(a - 85) / 10, by omega, by omega⟩))
theorem zR_pos {b : Nat} (h : zIsR b) : 0 < b ∧ b < 1000 := by rcases h with rfl | rfl | rfl | rfl | rfl | rfl <;> decide
theorem zB_pos {b : Nat} (h : zIsB b) : 0 < b ∧ b < 1000 := by rcases h with rfl | rfl <;> decide
/-- a String's length, its signs -/
def zsl (i : Nat) : Int32 := nI (zLen.getD i 0)
def zsc (i k : Nat) : Int32 := (zByt.getD i []).getD k 0 &&& 255
