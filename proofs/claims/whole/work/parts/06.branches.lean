section ZB
variable {p : Program} {l : Launch} {e : Env} {R : Room} {s : State} {m : MethodId} {args : Array Value} {below : List Frame} {meth : Method} {c : Code} {H : Heap} {locs : List Loc} {cells slots : Nat} {Q : State → Prop}
variable {cc : ByteArray} {nL : Nat} {own : String} {D : va_G} {A0 : Nat} {σ : Mm} {G : Gm} {n : Nat} {pc : Nat} {ls : Array Slot} {rest : List Value}
theorem zb_ifeq {α : Sort _} {A B o : α} {x : Int32} [inst : Decidable (x = 0)] (hexec : p.tables.exec = Jvm.exec) (hb : c.code = cc) {off : Int} {tgt : Nat} (hdg : decode cc pc = .ok (.ifCond .eq off, 3)) (ht : (pc : Int) + off = (tgt : Int)) (h : (if x = 0 then A else B) = o)
    (kt : A = o → W p l e R s m args below meth c H locs cells slots Q (F0 m tgt ls rest)) (kf : B = o → W p l e R s m args below meth c H locs cells slots Q (F0 m (pc + 3) ls rest)) : W p l e R s m args below meth c H locs cells slots Q (F0 m pc ls (.int x :: rest)) :=
  lv_if_eq hexec hb hdg ht (fun q => kt (by rw [if_pos q] at h; exact h)) (fun q => kf (by rw [if_neg q] at h; exact h))
theorem zb_ifne {α : Sort _} {A B o : α} {x : Int32} [inst : Decidable (x = 0)] (hexec : p.tables.exec = Jvm.exec) (hb : c.code = cc) {off : Int} {tgt : Nat} (hdg : decode cc pc = .ok (.ifCond .ne off, 3)) (ht : (pc : Int) + off = (tgt : Int)) (h : (if x = 0 then A else B) = o)
    (kt : B = o → W p l e R s m args below meth c H locs cells slots Q (F0 m tgt ls rest)) (kf : A = o → W p l e R s m args below meth c H locs cells slots Q (F0 m (pc + 3) ls rest)) : W p l e R s m args below meth c H locs cells slots Q (F0 m pc ls (.int x :: rest)) :=
  lv_if_ne hexec hb hdg ht (fun q => kt (by rw [if_neg q] at h; exact h)) (fun q => kf (by rw [if_pos q] at h; exact h))
theorem zb_iflt {α : Sort _} {A B o : α} {x : Int32} [inst : Decidable (x < 0)] (hexec : p.tables.exec = Jvm.exec) (hb : c.code = cc) {off : Int} {tgt : Nat} (hdg : decode cc pc = .ok (.ifCond .lt off, 3)) (ht : (pc : Int) + off = (tgt : Int)) (h : (if x < 0 then A else B) = o)
    (kt : A = o → W p l e R s m args below meth c H locs cells slots Q (F0 m tgt ls rest)) (kf : B = o → W p l e R s m args below meth c H locs cells slots Q (F0 m (pc + 3) ls rest)) : W p l e R s m args below meth c H locs cells slots Q (F0 m pc ls (.int x :: rest)) :=
  lv_if_lt hexec hb hdg ht (fun q => kt (by rw [if_pos q] at h; exact h)) (fun q => kf (by rw [if_neg q] at h; exact h))
theorem zb_ifge {α : Sort _} {A B o : α} {x : Int32} [inst : Decidable (0 ≤ x)] (hexec : p.tables.exec = Jvm.exec) (hb : c.code = cc) {off : Int} {tgt : Nat} (hdg : decode cc pc = .ok (.ifCond .ge off, 3)) (ht : (pc : Int) + off = (tgt : Int)) (h : (if 0 ≤ x then A else B) = o)
    (kt : A = o → W p l e R s m args below meth c H locs cells slots Q (F0 m tgt ls rest)) (kf : B = o → W p l e R s m args below meth c H locs cells slots Q (F0 m (pc + 3) ls rest)) : W p l e R s m args below meth c H locs cells slots Q (F0 m pc ls (.int x :: rest)) :=
  lv_if_ge hexec hb hdg ht (fun q => kt (by rw [if_pos q] at h; exact h)) (fun q => kf (by rw [if_neg q] at h; exact h))
theorem zb_ifgt {α : Sort _} {A B o : α} {x : Int32} [inst : Decidable (0 < x)] (hexec : p.tables.exec = Jvm.exec) (hb : c.code = cc) {off : Int} {tgt : Nat} (hdg : decode cc pc = .ok (.ifCond .gt off, 3)) (ht : (pc : Int) + off = (tgt : Int)) (h : (if 0 < x then A else B) = o)
    (kt : A = o → W p l e R s m args below meth c H locs cells slots Q (F0 m tgt ls rest)) (kf : B = o → W p l e R s m args below meth c H locs cells slots Q (F0 m (pc + 3) ls rest)) : W p l e R s m args below meth c H locs cells slots Q (F0 m pc ls (.int x :: rest)) :=
  lv_if_gt hexec hb hdg ht (fun q => kt (by rw [if_pos q] at h; exact h)) (fun q => kf (by rw [if_neg q] at h; exact h))
theorem zb_ifle {α : Sort _} {A B o : α} {x : Int32} [inst : Decidable (x ≤ 0)] (hexec : p.tables.exec = Jvm.exec) (hb : c.code = cc) {off : Int} {tgt : Nat} (hdg : decode cc pc = .ok (.ifCond .le off, 3)) (ht : (pc : Int) + off = (tgt : Int)) (h : (if x ≤ 0 then A else B) = o)
    (kt : A = o → W p l e R s m args below meth c H locs cells slots Q (F0 m tgt ls rest)) (kf : B = o → W p l e R s m args below meth c H locs cells slots Q (F0 m (pc + 3) ls rest)) : W p l e R s m args below meth c H locs cells slots Q (F0 m pc ls (.int x :: rest)) :=
  lv_if_le hexec hb hdg ht (fun q => kt (by rw [if_pos q] at h; exact h)) (fun q => kf (by rw [if_neg q] at h; exact h))
theorem zb_iceq {α : Sort _} {A B o : α} {x y : Int32} [inst : Decidable (x = y)] (hexec : p.tables.exec = Jvm.exec) (hb : c.code = cc) {off : Int} {tgt : Nat} (hdg : decode cc pc = .ok (.if_icmp .eq off, 3)) (ht : (pc : Int) + off = (tgt : Int)) (h : (if x = y then A else B) = o)
    (kt : A = o → W p l e R s m args below meth c H locs cells slots Q (F0 m tgt ls rest)) (kf : B = o → W p l e R s m args below meth c H locs cells slots Q (F0 m (pc + 3) ls rest)) : W p l e R s m args below meth c H locs cells slots Q (F0 m pc ls (.int y :: .int x :: rest)) :=
  lv_icmp_eq hexec hb hdg ht (fun q => kt (by rw [if_pos q] at h; exact h)) (fun q => kf (by rw [if_neg q] at h; exact h))
theorem zb_icne {α : Sort _} {A B o : α} {x y : Int32} [inst : Decidable (x = y)] (hexec : p.tables.exec = Jvm.exec) (hb : c.code = cc) {off : Int} {tgt : Nat} (hdg : decode cc pc = .ok (.if_icmp .ne off, 3)) (ht : (pc : Int) + off = (tgt : Int)) (h : (if x = y then A else B) = o)
    (kt : B = o → W p l e R s m args below meth c H locs cells slots Q (F0 m tgt ls rest)) (kf : A = o → W p l e R s m args below meth c H locs cells slots Q (F0 m (pc + 3) ls rest)) : W p l e R s m args below meth c H locs cells slots Q (F0 m pc ls (.int y :: .int x :: rest)) :=
  lv_icmp_ne hexec hb hdg ht (fun q => kt (by rw [if_neg q] at h; exact h)) (fun q => kf (by rw [if_pos q] at h; exact h))
theorem zb_iclt {α : Sort _} {A B o : α} {x y : Int32} [inst : Decidable (x < y)] (hexec : p.tables.exec = Jvm.exec) (hb : c.code = cc) {off : Int} {tgt : Nat} (hdg : decode cc pc = .ok (.if_icmp .lt off, 3)) (ht : (pc : Int) + off = (tgt : Int)) (h : (if x < y then A else B) = o)
    (kt : A = o → W p l e R s m args below meth c H locs cells slots Q (F0 m tgt ls rest)) (kf : B = o → W p l e R s m args below meth c H locs cells slots Q (F0 m (pc + 3) ls rest)) : W p l e R s m args below meth c H locs cells slots Q (F0 m pc ls (.int y :: .int x :: rest)) :=
  lv_icmp_lt hexec hb hdg ht (fun q => kt (by rw [if_pos q] at h; exact h)) (fun q => kf (by rw [if_neg q] at h; exact h))
theorem zb_icge {α : Sort _} {A B o : α} {x y : Int32} [inst : Decidable (y ≤ x)] (hexec : p.tables.exec = Jvm.exec) (hb : c.code = cc) {off : Int} {tgt : Nat} (hdg : decode cc pc = .ok (.if_icmp .ge off, 3)) (ht : (pc : Int) + off = (tgt : Int)) (h : (if y ≤ x then A else B) = o)
    (kt : A = o → W p l e R s m args below meth c H locs cells slots Q (F0 m tgt ls rest)) (kf : B = o → W p l e R s m args below meth c H locs cells slots Q (F0 m (pc + 3) ls rest)) : W p l e R s m args below meth c H locs cells slots Q (F0 m pc ls (.int y :: .int x :: rest)) :=
  lv_icmp_ge hexec hb hdg ht (fun q => kt (by rw [if_pos q] at h; exact h)) (fun q => kf (by rw [if_neg q] at h; exact h))
theorem zb_icgt {α : Sort _} {A B o : α} {x y : Int32} [inst : Decidable (y < x)] (hexec : p.tables.exec = Jvm.exec) (hb : c.code = cc) {off : Int} {tgt : Nat} (hdg : decode cc pc = .ok (.if_icmp .gt off, 3)) (ht : (pc : Int) + off = (tgt : Int)) (h : (if y < x then A else B) = o)
    (kt : A = o → W p l e R s m args below meth c H locs cells slots Q (F0 m tgt ls rest)) (kf : B = o → W p l e R s m args below meth c H locs cells slots Q (F0 m (pc + 3) ls rest)) : W p l e R s m args below meth c H locs cells slots Q (F0 m pc ls (.int y :: .int x :: rest)) :=
  lv_icmp_gt hexec hb hdg ht (fun q => kt (by rw [if_pos q] at h; exact h)) (fun q => kf (by rw [if_neg q] at h; exact h))
theorem zb_icle {α : Sort _} {A B o : α} {x y : Int32} [inst : Decidable (x ≤ y)] (hexec : p.tables.exec = Jvm.exec) (hb : c.code = cc) {off : Int} {tgt : Nat} (hdg : decode cc pc = .ok (.if_icmp .le off, 3)) (ht : (pc : Int) + off = (tgt : Int)) (h : (if x ≤ y then A else B) = o)
    (kt : A = o → W p l e R s m args below meth c H locs cells slots Q (F0 m tgt ls rest)) (kf : B = o → W p l e R s m args below meth c H locs cells slots Q (F0 m (pc + 3) ls rest)) : W p l e R s m args below meth c H locs cells slots Q (F0 m pc ls (.int y :: .int x :: rest)) :=
  lv_icmp_le hexec hb hdg ht (fun q => kt (by rw [if_pos q] at h; exact h)) (fun q => kf (by rw [if_neg q] at h; exact h))
theorem zsp {α : Sort _} {P X : Prop} [Decidable P] {A B o : α} (h : (if P then A else B) = o) (kt : P → A = o → X) (kf : ¬ P → B = o → X) : X := by
  by_cases q : P
  · exact kt q (by rw [if_pos q] at h; exact h)
  · exact kf q (by rw [if_neg q] at h; exact h)
theorem zpq {α β : Type} {a c : α} {b d : β} (h : some (a, b) = some (c, d)) : a = c ∧ b = d := by cases h; exact ⟨rfl, rfl⟩
/-- bd with an answer and a memory -/
theorem lv_refx {x y : Nat} (h : x = y) (k : W p l e R s m args below meth c H locs cells slots Q (F0 m pc ls (.ref y :: rest))) : W p l e R s m args below meth c H locs cells slots Q (F0 m pc ls (.ref x :: rest)) := h ▸ k
/-- a static row is fetched by a nest mate -/
theorem zw_gets (F : zx p s m c cc nL args own D A0) (Z : zh D A0 σ G n s.heap H locs) {i idx : Nat} {nm : String} (hi : i < 4) (hn : zStN.getD i "" = nm) (hw : (own, idx, nm) ∈ zNF) (hd : decode cc pc = .ok (.getstatic idx, 3))
    (kk : W p l e R s m args below meth c H locs cells slots Q (F0 m (pc + 3) ls (.ref (D.1 (70 + i)) :: rest))) : W p l e R s m args below meth c H locs cells slots Q (F0 m pc ls rest) := by
  subst hn
  exact va_getsN F.1.1 F.1.2.1 (F.2.2.1.1 i hi).1 Z.2 F.1.2.2.2.1 (va_Nw.use rfl (F.2.2.1.2.2.2.1 _ hw)) (fun _ h => h) hd kk
theorem zw_tald (F : zx p s m c cc nL args own D A0) (Z : zh D A0 σ G n s.heap H locs) {i : Nat} {j : Int32} (hi : i < 4) (hin : inb j (zStV.getD i []).length) (hd : decode cc pc = .ok (.iaload, 1))
    (kk : W p l e R s m args below meth c H locs cells slots Q (F0 m (pc + 1) ls (.int ((zStV.getD i []).getD (ix j) 0) :: rest))) : W p l e R s m args below meth c H locs cells slots Q (F0 m pc ls (.int j :: .ref (D.1 (70 + i)) :: rest)) :=
  va_ti F.1.1 F.1.2.1 (F.2.2.1.1 i hi).2 Z.2 (inb_vp hin) rfl hd kk
theorem zw_tlen (F : zx p s m c cc nL args own D A0) (Z : zh D A0 σ G n s.heap H locs) {i : Nat} {v : Int32} (hi : i < 4) (hv : Int32.ofNat (zStV.getD i []).length = v) (hd : decode cc pc = .ok (.arraylength, 1))
    (kk : W p l e R s m args below meth c H locs cells slots Q (F0 m (pc + 1) ls (.int v :: rest))) : W p l e R s m args below meth c H locs cells slots Q (F0 m pc ls (.ref (D.1 (70 + i)) :: rest)) :=
  va_tlen F.1.1 F.1.2.1 (F.2.2.1.1 i hi).2 Z.2 hv hd kk
theorem zw_ldcS (F : zx p s m c cc nL args own D A0) {i idx : Nat} {tx : String} (hw : (own, idx, tx, i) ∈ zStrs) (hd : decode cc pc = .ok (.ldc idx, 2))
    (kk : W p l e R s m args below meth c H locs cells slots Q (F0 m (pc + 2) ls (.ref (D.1 (60 + i)) :: rest))) : W p l e R s m args below meth c H locs cells slots Q (F0 m pc ls rest) :=
  va_ldcS F.1.1 F.1.2.1 F.1.2.2.2.1 (F.2.2.1.2.2.1 _ hw) hd kk
/-- n places copied from the row a0 to the row a -/
def zcp (σ : Mm) (a0 a : Nat) (sp dp k : Int32) : Mm := fun b => if b = a then va_cpy (σ a0) (σ a) (ix sp) (ix dp) (ix k) else σ b
theorem zw_copy (F : zx p s m c cc nL args own D A0) (Z : zh D A0 σ G n s.heap H locs) {a0 a N0 N idx : Nat} {sp dp k : Int32} (hsz : ls.size = nL) (ha0 : a0 < n) (hs0 : zs a0 = (50, N0)) (ha : a < n) (hs : zs a = (50, N)) (hl : Cond.methodLink own idx arraycopyName ∈ zTB) (hnat : Cond.native arraycopyName ∈ zTB) (hstat : Cond.static arraycopyName ∈ zTB) (hini : Cond.initialized "java/lang/System" ∈ zTB)
    (hb : (¬ sp < 0 ∧ ¬ dp < 0 ∧ ¬ k < 0) ∧ ix sp + ix k ≤ N0 ∧ ix dp + ix k ≤ N) (hfr : 1 ≤ R.frames) (hlo : (rest.map fun v => v.category).sum + (nativeFrameWords "java/lang/System" "arraycopy" 5 + 11) ≤ R.locals) (hd : decode cc pc = .ok (.invokestatic idx, 3))
    (kk : ∀ (σ1 : Mm) (H1 : Heap) (locs1 : List Loc), σ1 = zcp σ a0 a sp dp k → zh D A0 σ1 G n s.heap H1 locs1 → W p l e R s m args below meth c H1 locs1 cells slots Q (F0 m (pc + 3) ls rest)) : W p l e R s m args below meth c H locs cells slots Q (F0 m pc ls (.int k :: .int dp :: .ref (A0 + a) :: .int sp :: .ref (A0 + a0) :: rest)) := by
  have ht := F.1.2.2.2.2
  refine va_copyi (tys := zTY D) F.1.1 F.1.2.1 (F.1.2.2.1.trans hsz.symm) F.1.2.2.2.1 (ht _ hl) (ht _ hnat) (ht _ hstat) (ht _ hini) F.2.1 Z.1 zwl_D Z.2 a0 a 0 0 (f := σ a0) (g := σ a) (ty := .int) (by rw [zwl_get ha0, zent_i hs0 (by decide) (by decide)]) (by rw [zwl_get ha, zent_i hs (by decide) (by decide)]) rfl rfl rfl hb.1.1 hb.1.2.1 hb.1.2.2 hb.2.1 hb.2.2 (fun _ _ => rfl) hfr hlo hd (fun H1 locs1 hP _ hS => kk _ H1 locs1 rfl ⟨?_, hS⟩)
  have e : (zwl D A0 σ G n).set a (A0 + a, .inl (D.1 50, N, .inl (va_cpy (σ a0) (σ a) (ix sp) (ix dp) (ix k)))) = zwl D A0 (zcp σ a0 a sp dp k) G n :=
    zwl_set ha (fun b hb => ⟨if_neg hb, rfl⟩) (by rw [zent_i hs (by decide) (by decide)]; unfold zcp; rw [if_pos rfl])
  rw [← e]
  exact hP
end ZB
def bd2 {α β : Type} (o : Option (α × Mm)) (k : α → Mm → Option β) : Option β := match o with | none => none | some x => k x.1 x.2
theorem bd2_x {α β : Type} {o : Option (α × Mm)} {k : α → Mm → Option β} {r : β} (h : bd2 o k = some r) : ∃ a σ, o = some (a, σ) ∧ k a σ = some r := by
  cases o with
  | none => cases h
  | some x => exact ⟨x.1, x.2, rfl, h⟩
theorem bd2_some {α β : Type} (a : α) (σ : Mm) (k : α → Mm → Option β) : bd2 (some (a, σ)) k = k a σ := rfl
abbrev zR (f lo : Nat) : Room := { frames := f, cells := 0, slots := 0, locals := lo }
/-! ===== which cells are states, markets, rules ===== -/
def zIsS (a : Nat) : Prop := a = 27 ∨ a = 58 ∨ a = 69 ∨ ∃ i, i < 61 ∧ a = 85 + 10 * i
def zIsM (a : Nat) : Prop := a = 3 ∨ a = 47
abbrev zIsR (a : Nat) : Prop := a = 12 ∨ a = 15 ∨ a = 18 ∨ a = 21 ∨ a = 24 ∨ a = 55
abbrev zIsB (a : Nat) : Prop := a = 704 ∨ a = 705
abbrev zIsI (a : Nat) : Prop := (zs a).1 = 50 ∧ a < 740
theorem zsI {a : Nat} (h : zIsI a) : zs a = (50, (zs a).2) := by rw [← h.1]
theorem zsB_ {a : Nat} (h : zIsB a) : zs a = (52, (zs a).2) := by rcases h with rfl | rfl <;> rfl
theorem zltB {a : Nat} (h : zIsB a) : a < 740 := by rcases h with rfl | rfl <;> decide
theorem zIsS_path {i : Int32} (h : inb i 61) : zIsS (85 + 10 * ix i) := Or.inr (Or.inr (Or.inr ⟨ix i, by have := inb_vp h; exact Nat.not_le.mp (fun q => this (Or.inr q)), rfl⟩))
theorem zlt_ix {i : Int32} {n : Nat} (h : inb i n) : ix i < n := by have := inb_vp h; exact Nat.not_le.mp (fun q => this (Or.inr q))
theorem zIsR_rules {i : Int32} (h : inb i 5) : zIsR (12 + 3 * ix i) := by have := zlt_ix h; unfold zIsR; omega
theorem zg_path {i : Int32} (h : inb i 61) : GF 80 (ix i) = some (85 + 10 * ix i) := by
  have := zlt_ix h
  show (if ix i < 61 then some (85 + 10 * ix i) else none) = _
  rw [if_pos this]
theorem zg_rules {i : Int32} (h : inb i 5) : GF 11 (ix i) = some (12 + 3 * ix i) := by
  have := zlt_ix h
  show (if ix i < 5 then some (12 + 3 * ix i) else none) = _
  rw [if_pos this]
theorem zg_takes {i : Int32} (h : inb i 3) : GF 81 (ix i) = some (82 + ix i) := by
  have := zlt_ix h
  show (if ix i < 3 then some (82 + ix i) else none) = _
  rw [if_pos this]
theorem zs_takes {i : Int32} (h : inb i 3) : zs (82 + ix i) = (50, 9261) := by
  have := zlt_ix h
  rcases (show ix i = 0 ∨ ix i = 1 ∨ ix i = 2 by omega) with e | e | e <;> rw [e] <;> rfl
theorem zlt_takes {i : Int32} (h : inb i 3) : 82 + ix i < 740 := by have := zlt_ix h; omega
theorem zR_nz {x : Int32} (h : zIsR (ix x)) : ¬ x = 0 := fun q => by rw [q] at h; revert h; decide
theorem zB_nz {x : Int32} (h : zIsB (ix x)) : ¬ x = 0 := fun q => by rw [q] at h; revert h; decide
theorem zltS {a : Nat} (h : zIsS a) : a + 9 < 740 := by rcases h with rfl | rfl | rfl | ⟨i, hi, rfl⟩ <;> omega
theorem zs_pth {i j : Nat} (hi : i < 61) (hj : j < 10) : zs (85 + 10 * i + j) = zsS.getD j (99, 0) := by
  unfold zs
  rw [if_neg (by omega), if_pos (by omega), show (85 + 10 * i + j - 85) % 10 = j by omega]

theorem zsS_0 {a : Nat} (h : zIsS a) : zs (a + 0) = (7, 14) := by rcases h with rfl | rfl | rfl | ⟨i, hi, rfl⟩ <;> first | rfl | exact zs_pth hi (by decide)
theorem zltS_0 {a : Nat} (h : zIsS a) : a + 0 < 740 := by have := zltS h; omega
theorem zsS_1 {a : Nat} (h : zIsS a) : zs (a + 1) = (50, 6) := by rcases h with rfl | rfl | rfl | ⟨i, hi, rfl⟩ <;> first | rfl | exact zs_pth hi (by decide)
theorem zltS_1 {a : Nat} (h : zIsS a) : a + 1 < 740 := by have := zltS h; omega
theorem zsS_2 {a : Nat} (h : zIsS a) : zs (a + 2) = (50, 6) := by rcases h with rfl | rfl | rfl | ⟨i, hi, rfl⟩ <;> first | rfl | exact zs_pth hi (by decide)
theorem zltS_2 {a : Nat} (h : zIsS a) : a + 2 < 740 := by have := zltS h; omega
theorem zsS_3 {a : Nat} (h : zIsS a) : zs (a + 3) = (50, 6) := by rcases h with rfl | rfl | rfl | ⟨i, hi, rfl⟩ <;> first | rfl | exact zs_pth hi (by decide)
theorem zltS_3 {a : Nat} (h : zIsS a) : a + 3 < 740 := by have := zltS h; omega
theorem zsS_4 {a : Nat} (h : zIsS a) : zs (a + 4) = (50, 6) := by rcases h with rfl | rfl | rfl | ⟨i, hi, rfl⟩ <;> first | rfl | exact zs_pth hi (by decide)
theorem zltS_4 {a : Nat} (h : zIsS a) : a + 4 < 740 := by have := zltS h; omega
theorem zsS_5 {a : Nat} (h : zIsS a) : zs (a + 5) = (50, 6) := by rcases h with rfl | rfl | rfl | ⟨i, hi, rfl⟩ <;> first | rfl | exact zs_pth hi (by decide)
theorem zltS_5 {a : Nat} (h : zIsS a) : a + 5 < 740 := by have := zltS h; omega
theorem zsS_6 {a : Nat} (h : zIsS a) : zs (a + 6) = (50, 6) := by rcases h with rfl | rfl | rfl | ⟨i, hi, rfl⟩ <;> first | rfl | exact zs_pth hi (by decide)
theorem zltS_6 {a : Nat} (h : zIsS a) : a + 6 < 740 := by have := zltS h; omega
theorem zsS_7 {a : Nat} (h : zIsS a) : zs (a + 7) = (50, 24) := by rcases h with rfl | rfl | rfl | ⟨i, hi, rfl⟩ <;> first | rfl | exact zs_pth hi (by decide)
theorem zltS_7 {a : Nat} (h : zIsS a) : a + 7 < 740 := by have := zltS h; omega
theorem zsS_8 {a : Nat} (h : zIsS a) : zs (a + 8) = (50, 6) := by rcases h with rfl | rfl | rfl | ⟨i, hi, rfl⟩ <;> first | rfl | exact zs_pth hi (by decide)
theorem zltS_8 {a : Nat} (h : zIsS a) : a + 8 < 740 := by have := zltS h; omega
theorem zsS_9 {a : Nat} (h : zIsS a) : zs (a + 9) = (50, 6) := by rcases h with rfl | rfl | rfl | ⟨i, hi, rfl⟩ <;> first | rfl | exact zs_pth hi (by decide)
theorem zltS_9 {a : Nat} (h : zIsS a) : a + 9 < 740 := by have := zltS h; omega
theorem zgS_5 {a : Nat} (h : zIsS a) : GF a 5 = some (a + 1) := by unfold GF; rw [show zs a = (7, 14) from zsS_0 h]; rfl
theorem zgS_6 {a : Nat} (h : zIsS a) : GF a 6 = some (a + 2) := by unfold GF; rw [show zs a = (7, 14) from zsS_0 h]; rfl
theorem zgS_7 {a : Nat} (h : zIsS a) : GF a 7 = some (a + 3) := by unfold GF; rw [show zs a = (7, 14) from zsS_0 h]; rfl
theorem zgS_8 {a : Nat} (h : zIsS a) : GF a 8 = some (a + 4) := by unfold GF; rw [show zs a = (7, 14) from zsS_0 h]; rfl
theorem zgS_9 {a : Nat} (h : zIsS a) : GF a 9 = some (a + 5) := by unfold GF; rw [show zs a = (7, 14) from zsS_0 h]; rfl
theorem zgS_10 {a : Nat} (h : zIsS a) : GF a 10 = some (a + 6) := by unfold GF; rw [show zs a = (7, 14) from zsS_0 h]; rfl
theorem zgS_11 {a : Nat} (h : zIsS a) : GF a 11 = some (a + 7) := by unfold GF; rw [show zs a = (7, 14) from zsS_0 h]; rfl
theorem zgS_12 {a : Nat} (h : zIsS a) : GF a 12 = some (a + 8) := by unfold GF; rw [show zs a = (7, 14) from zsS_0 h]; rfl
theorem zgS_13 {a : Nat} (h : zIsS a) : GF a 13 = some (a + 9) := by unfold GF; rw [show zs a = (7, 14) from zsS_0 h]; rfl
theorem zsM_0 {a : Nat} (h : zIsM a) : zs (a + 0) = (0, 12) := by rcases h with rfl | rfl <;> rfl
theorem zltM_0 {a : Nat} (h : zIsM a) : a + 0 < 740 := by rcases h with rfl | rfl <;> decide
theorem zsM_1 {a : Nat} (h : zIsM a) : zs (a + 1) = (50, 6) := by rcases h with rfl | rfl <;> rfl
theorem zltM_1 {a : Nat} (h : zIsM a) : a + 1 < 740 := by rcases h with rfl | rfl <;> decide
theorem zsM_2 {a : Nat} (h : zIsM a) : zs (a + 2) = (50, 6) := by rcases h with rfl | rfl <;> rfl
theorem zltM_2 {a : Nat} (h : zIsM a) : a + 2 < 740 := by rcases h with rfl | rfl <;> decide
theorem zsM_3 {a : Nat} (h : zIsM a) : zs (a + 3) = (50, 6) := by rcases h with rfl | rfl <;> rfl
theorem zltM_3 {a : Nat} (h : zIsM a) : a + 3 < 740 := by rcases h with rfl | rfl <;> decide
theorem zsM_4 {a : Nat} (h : zIsM a) : zs (a + 4) = (50, 6) := by rcases h with rfl | rfl <;> rfl
theorem zltM_4 {a : Nat} (h : zIsM a) : a + 4 < 740 := by rcases h with rfl | rfl <;> decide
theorem zsM_5 {a : Nat} (h : zIsM a) : zs (a + 5) = (50, 6) := by rcases h with rfl | rfl <;> rfl
theorem zltM_5 {a : Nat} (h : zIsM a) : a + 5 < 740 := by rcases h with rfl | rfl <;> decide
theorem zsM_6 {a : Nat} (h : zIsM a) : zs (a + 6) = (50, 6) := by rcases h with rfl | rfl <;> rfl
theorem zltM_6 {a : Nat} (h : zIsM a) : a + 6 < 740 := by rcases h with rfl | rfl <;> decide
theorem zsM_7 {a : Nat} (h : zIsM a) : zs (a + 7) = (50, 6) := by rcases h with rfl | rfl <;> rfl
theorem zltM_7 {a : Nat} (h : zIsM a) : a + 7 < 740 := by rcases h with rfl | rfl <;> decide
theorem zgM_5 {a : Nat} (h : zIsM a) : GF a 5 = some (a + 1) := by rcases h with rfl | rfl <;> rfl
theorem zgM_6 {a : Nat} (h : zIsM a) : GF a 6 = some (a + 2) := by rcases h with rfl | rfl <;> rfl
theorem zgM_7 {a : Nat} (h : zIsM a) : GF a 7 = some (a + 3) := by rcases h with rfl | rfl <;> rfl
theorem zgM_8 {a : Nat} (h : zIsM a) : GF a 8 = some (a + 4) := by rcases h with rfl | rfl <;> rfl
theorem zgM_9 {a : Nat} (h : zIsM a) : GF a 9 = some (a + 5) := by rcases h with rfl | rfl <;> rfl
theorem zgM_10 {a : Nat} (h : zIsM a) : GF a 10 = some (a + 6) := by rcases h with rfl | rfl <;> rfl
theorem zgM_11 {a : Nat} (h : zIsM a) : GF a 11 = some (a + 7) := by rcases h with rfl | rfl <;> rfl
theorem zsR_0 {a : Nat} (h : zIsR a) : zs (a + 0) = (3, 3) := by rcases h with rfl | rfl | rfl | rfl | rfl | rfl <;> rfl
theorem zltR_0 {a : Nat} (h : zIsR a) : a + 0 < 740 := by rcases h with rfl | rfl | rfl | rfl | rfl | rfl <;> decide
theorem zsR_1 {a : Nat} (h : zIsR a) : zs (a + 1) = (50, 320) := by rcases h with rfl | rfl | rfl | rfl | rfl | rfl <;> rfl
theorem zltR_1 {a : Nat} (h : zIsR a) : a + 1 < 740 := by rcases h with rfl | rfl | rfl | rfl | rfl | rfl <;> decide
theorem zsR_2 {a : Nat} (h : zIsR a) : zs (a + 2) = (50, 160) := by rcases h with rfl | rfl | rfl | rfl | rfl | rfl <;> rfl
theorem zltR_2 {a : Nat} (h : zIsR a) : a + 2 < 740 := by rcases h with rfl | rfl | rfl | rfl | rfl | rfl <;> decide
theorem zgR_0 {a : Nat} (h : zIsR a) : GF a 0 = some (a + 1) := by rcases h with rfl | rfl | rfl | rfl | rfl | rfl <;> rfl
theorem zgR_1 {a : Nat} (h : zIsR a) : GF a 1 = some (a + 2) := by rcases h with rfl | rfl | rfl | rfl | rfl | rfl <;> rfl
theorem zs_0 : zs 0 = (10, 17) := by decide +kernel
theorem zs_1 : zs 1 = (8, 2) := by decide +kernel
theorem zs_2 : zs 2 = (50, 160) := by decide +kernel
theorem zs_3 : zs 3 = (0, 12) := by decide +kernel
theorem zs_4 : zs 4 = (50, 6) := by decide +kernel
theorem zs_5 : zs 5 = (50, 6) := by decide +kernel
theorem zs_6 : zs 6 = (50, 6) := by decide +kernel
theorem zs_7 : zs 7 = (50, 6) := by decide +kernel
theorem zs_8 : zs 8 = (50, 6) := by decide +kernel
theorem zs_9 : zs 9 = (50, 6) := by decide +kernel
theorem zs_10 : zs 10 = (50, 6) := by decide +kernel
theorem zs_11 : zs 11 = (55, 5) := by decide +kernel
theorem zs_12 : zs 12 = (3, 3) := by decide +kernel
theorem zs_13 : zs 13 = (50, 320) := by decide +kernel
theorem zs_14 : zs 14 = (50, 160) := by decide +kernel
theorem zs_15 : zs 15 = (3, 3) := by decide +kernel
theorem zs_16 : zs 16 = (50, 320) := by decide +kernel
theorem zs_17 : zs 17 = (50, 160) := by decide +kernel
theorem zs_18 : zs 18 = (3, 3) := by decide +kernel
theorem zs_19 : zs 19 = (50, 320) := by decide +kernel
theorem zs_20 : zs 20 = (50, 160) := by decide +kernel
theorem zs_21 : zs 21 = (3, 3) := by decide +kernel
theorem zs_22 : zs 22 = (50, 320) := by decide +kernel
theorem zs_23 : zs 23 = (50, 160) := by decide +kernel
theorem zs_24 : zs 24 = (3, 3) := by decide +kernel
theorem zs_25 : zs 25 = (50, 320) := by decide +kernel
theorem zs_26 : zs 26 = (50, 160) := by decide +kernel
theorem zs_27 : zs 27 = (7, 14) := by decide +kernel
theorem zs_28 : zs 28 = (50, 6) := by decide +kernel
theorem zs_29 : zs 29 = (50, 6) := by decide +kernel
theorem zs_30 : zs 30 = (50, 6) := by decide +kernel
theorem zs_31 : zs 31 = (50, 6) := by decide +kernel
theorem zs_32 : zs 32 = (50, 6) := by decide +kernel
theorem zs_33 : zs 33 = (50, 6) := by decide +kernel
theorem zs_34 : zs 34 = (50, 24) := by decide +kernel
theorem zs_35 : zs 35 = (50, 6) := by decide +kernel
theorem zs_36 : zs 36 = (50, 6) := by decide +kernel
theorem zs_37 : zs 37 = (5, 11) := by decide +kernel
theorem zs_38 : zs 38 = (50, 6) := by decide +kernel
theorem zs_39 : zs 39 = (50, 6) := by decide +kernel
theorem zs_40 : zs 40 = (50, 6) := by decide +kernel
theorem zs_41 : zs 41 = (50, 6) := by decide +kernel
theorem zs_42 : zs 42 = (50, 6) := by decide +kernel
theorem zs_43 : zs 43 = (1, 5) := by decide +kernel
theorem zs_44 : zs 44 = (50, 8) := by decide +kernel
theorem zs_45 : zs 45 = (51, 8) := by decide +kernel
theorem zs_46 : zs 46 = (4, 4) := by decide +kernel
theorem zs_47 : zs 47 = (0, 12) := by decide +kernel
theorem zs_48 : zs 48 = (50, 6) := by decide +kernel
theorem zs_49 : zs 49 = (50, 6) := by decide +kernel
theorem zs_50 : zs 50 = (50, 6) := by decide +kernel
theorem zs_51 : zs 51 = (50, 6) := by decide +kernel
theorem zs_52 : zs 52 = (50, 6) := by decide +kernel
theorem zs_53 : zs 53 = (50, 6) := by decide +kernel
theorem zs_54 : zs 54 = (50, 6) := by decide +kernel
theorem zs_55 : zs 55 = (3, 3) := by decide +kernel
theorem zs_56 : zs 56 = (50, 320) := by decide +kernel
theorem zs_57 : zs 57 = (50, 160) := by decide +kernel
theorem zs_58 : zs 58 = (7, 14) := by decide +kernel
theorem zs_59 : zs 59 = (50, 6) := by decide +kernel
theorem zs_60 : zs 60 = (50, 6) := by decide +kernel
theorem zs_61 : zs 61 = (50, 6) := by decide +kernel
theorem zs_62 : zs 62 = (50, 6) := by decide +kernel
theorem zs_63 : zs 63 = (50, 6) := by decide +kernel
theorem zs_64 : zs 64 = (50, 6) := by decide +kernel
theorem zs_65 : zs 65 = (50, 24) := by decide +kernel
theorem zs_66 : zs 66 = (50, 6) := by decide +kernel
theorem zs_67 : zs 67 = (50, 6) := by decide +kernel
theorem zs_68 : zs 68 = (9, 14) := by decide +kernel
theorem zs_69 : zs 69 = (7, 14) := by decide +kernel
theorem zs_70 : zs 70 = (50, 6) := by decide +kernel
theorem zs_71 : zs 71 = (50, 6) := by decide +kernel
theorem zs_72 : zs 72 = (50, 6) := by decide +kernel
theorem zs_73 : zs 73 = (50, 6) := by decide +kernel
theorem zs_74 : zs 74 = (50, 6) := by decide +kernel
theorem zs_75 : zs 75 = (50, 6) := by decide +kernel
theorem zs_76 : zs 76 = (50, 24) := by decide +kernel
theorem zs_77 : zs 77 = (50, 6) := by decide +kernel
theorem zs_78 : zs 78 = (50, 6) := by decide +kernel
theorem zs_79 : zs 79 = (6, 14) := by decide +kernel
theorem zs_80 : zs 80 = (54, 61) := by decide +kernel
theorem zs_81 : zs 81 = (56, 3) := by decide +kernel
theorem zs_82 : zs 82 = (50, 9261) := by decide +kernel
theorem zs_83 : zs 83 = (50, 9261) := by decide +kernel
theorem zs_84 : zs 84 = (50, 9261) := by decide +kernel
theorem zs_85 : zs 85 = (7, 14) := by decide +kernel
theorem zs_86 : zs 86 = (50, 6) := by decide +kernel
theorem zs_87 : zs 87 = (50, 6) := by decide +kernel
theorem zs_88 : zs 88 = (50, 6) := by decide +kernel
theorem zs_89 : zs 89 = (50, 6) := by decide +kernel
theorem zs_90 : zs 90 = (50, 6) := by decide +kernel
theorem zs_91 : zs 91 = (50, 6) := by decide +kernel
theorem zs_92 : zs 92 = (50, 24) := by decide +kernel
theorem zs_93 : zs 93 = (50, 6) := by decide +kernel
theorem zs_94 : zs 94 = (50, 6) := by decide +kernel
theorem zs_695 : zs 695 = (2, 4) := by decide +kernel
theorem zs_696 : zs 696 = (50, 20) := by decide +kernel
theorem zs_697 : zs 697 = (50, 20) := by decide +kernel
theorem zs_698 : zs 698 = (50, 20) := by decide +kernel
theorem zs_699 : zs 699 = (2, 4) := by decide +kernel
theorem zs_700 : zs 700 = (50, 60) := by decide +kernel
theorem zs_701 : zs 701 = (50, 60) := by decide +kernel
theorem zs_702 : zs 702 = (50, 60) := by decide +kernel
theorem zs_703 : zs 703 = (11, 74) := by decide +kernel
theorem zs_704 : zs 704 = (52, 160) := by decide +kernel
theorem zs_705 : zs 705 = (52, 800) := by decide +kernel
theorem zs_706 : zs 706 = (50, 5) := by decide +kernel
theorem zs_707 : zs 707 = (50, 128) := by decide +kernel
theorem zs_708 : zs 708 = (50, 15) := by decide +kernel
theorem zs_709 : zs 709 = (50, 18) := by decide +kernel
theorem zs_710 : zs 710 = (50, 2) := by decide +kernel
theorem zs_711 : zs 711 = (50, 15) := by decide +kernel
theorem zs_712 : zs 712 = (50, 18) := by decide +kernel
theorem zs_713 : zs 713 = (50, 2) := by decide +kernel
theorem zs_714 : zs 714 = (50, 57) := by decide +kernel
theorem zs_715 : zs 715 = (50, 57) := by decide +kernel
theorem zs_716 : zs 716 = (50, 5) := by decide +kernel
theorem zs_717 : zs 717 = (50, 5) := by decide +kernel
theorem zs_718 : zs 718 = (50, 6) := by decide +kernel
theorem zs_719 : zs 719 = (50, 6) := by decide +kernel
theorem zs_720 : zs 720 = (50, 6) := by decide +kernel
theorem zs_721 : zs 721 = (50, 24) := by decide +kernel
theorem zs_722 : zs 722 = (50, 6) := by decide +kernel
theorem zs_723 : zs 723 = (50, 6) := by decide +kernel
theorem zs_724 : zs 724 = (50, 6) := by decide +kernel
theorem zs_725 : zs 725 = (50, 61) := by decide +kernel
theorem zs_726 : zs 726 = (51, 61) := by decide +kernel
theorem zs_727 : zs 727 = (50, 2135) := by decide +kernel
theorem zs_728 : zs 728 = (50, 57) := by decide +kernel
theorem zs_729 : zs 729 = (50, 57) := by decide +kernel
theorem zs_730 : zs 730 = (50, 57) := by decide +kernel
theorem zs_731 : zs 731 = (50, 20) := by decide +kernel
theorem zs_732 : zs 732 = (50, 20) := by decide +kernel
theorem zs_733 : zs 733 = (50, 60) := by decide +kernel
theorem zs_734 : zs 734 = (50, 60) := by decide +kernel
theorem zs_735 : zs 735 = (50, 60) := by decide +kernel
theorem zs_736 : zs 736 = (50, 627) := by decide +kernel
theorem zs_737 : zs 737 = (50, 57) := by decide +kernel
theorem zs_738 : zs 738 = (50, 5) := by decide +kernel
theorem zs_739 : zs 739 = (53, 1) := by decide +kernel
theorem zg_0_0 : GF 0 0 = some 1 := by decide +kernel
theorem zg_0_1 : GF 0 1 = some 43 := by decide +kernel
theorem zg_0_2 : GF 0 2 = some 46 := by decide +kernel
theorem zg_0_3 : GF 0 3 = some 3 := by decide +kernel
theorem zg_0_4 : GF 0 4 = some 47 := by decide +kernel
theorem zg_0_5 : GF 0 5 = some 11 := by decide +kernel
theorem zg_0_6 : GF 0 6 = some 55 := by decide +kernel
theorem zg_0_7 : GF 0 7 = some 27 := by decide +kernel
theorem zg_0_8 : GF 0 8 = some 58 := by decide +kernel
theorem zg_0_9 : GF 0 9 = some 37 := by decide +kernel
theorem zg_0_10 : GF 0 10 = some 68 := by decide +kernel
theorem zg_0_11 : GF 0 11 = some 79 := by decide +kernel
theorem zg_0_12 : GF 0 12 = some 695 := by decide +kernel
theorem zg_0_13 : GF 0 13 = some 699 := by decide +kernel
theorem zg_1_0 : GF 1 0 = some 2 := by decide +kernel
theorem zg_3_5 : GF 3 5 = some 4 := by decide +kernel
theorem zg_3_6 : GF 3 6 = some 5 := by decide +kernel
theorem zg_3_7 : GF 3 7 = some 6 := by decide +kernel
theorem zg_3_8 : GF 3 8 = some 7 := by decide +kernel
theorem zg_3_9 : GF 3 9 = some 8 := by decide +kernel
theorem zg_3_10 : GF 3 10 = some 9 := by decide +kernel
theorem zg_3_11 : GF 3 11 = some 10 := by decide +kernel
theorem zg_11_0 : GF 11 0 = some 12 := by decide +kernel
theorem zg_11_1 : GF 11 1 = some 15 := by decide +kernel
theorem zg_11_2 : GF 11 2 = some 18 := by decide +kernel
theorem zg_11_3 : GF 11 3 = some 21 := by decide +kernel
theorem zg_11_4 : GF 11 4 = some 24 := by decide +kernel
theorem zg_12_0 : GF 12 0 = some 13 := by decide +kernel
theorem zg_12_1 : GF 12 1 = some 14 := by decide +kernel
theorem zg_15_0 : GF 15 0 = some 16 := by decide +kernel
theorem zg_15_1 : GF 15 1 = some 17 := by decide +kernel
theorem zg_18_0 : GF 18 0 = some 19 := by decide +kernel
theorem zg_18_1 : GF 18 1 = some 20 := by decide +kernel
theorem zg_21_0 : GF 21 0 = some 22 := by decide +kernel
theorem zg_21_1 : GF 21 1 = some 23 := by decide +kernel
theorem zg_24_0 : GF 24 0 = some 25 := by decide +kernel
theorem zg_24_1 : GF 24 1 = some 26 := by decide +kernel
theorem zg_27_5 : GF 27 5 = some 28 := by decide +kernel
theorem zg_27_6 : GF 27 6 = some 29 := by decide +kernel
theorem zg_27_7 : GF 27 7 = some 30 := by decide +kernel
theorem zg_27_8 : GF 27 8 = some 31 := by decide +kernel
theorem zg_27_9 : GF 27 9 = some 32 := by decide +kernel
theorem zg_27_10 : GF 27 10 = some 33 := by decide +kernel
theorem zg_27_11 : GF 27 11 = some 34 := by decide +kernel
theorem zg_27_12 : GF 27 12 = some 35 := by decide +kernel
theorem zg_27_13 : GF 27 13 = some 36 := by decide +kernel
theorem zg_37_0 : GF 37 0 = some 3 := by decide +kernel
theorem zg_37_1 : GF 37 1 = some 11 := by decide +kernel
theorem zg_37_2 : GF 37 2 = some 38 := by decide +kernel
theorem zg_37_3 : GF 37 3 = some 39 := by decide +kernel
theorem zg_37_7 : GF 37 7 = some 40 := by decide +kernel
theorem zg_37_9 : GF 37 9 = some 41 := by decide +kernel
theorem zg_37_10 : GF 37 10 = some 42 := by decide +kernel
theorem zg_43_0 : GF 43 0 = some 1 := by decide +kernel
theorem zg_43_3 : GF 43 3 = some 44 := by decide +kernel
theorem zg_43_4 : GF 43 4 = some 45 := by decide +kernel
theorem zg_46_0 : GF 46 0 = some 1 := by decide +kernel
theorem zg_47_5 : GF 47 5 = some 48 := by decide +kernel
theorem zg_47_6 : GF 47 6 = some 49 := by decide +kernel
theorem zg_47_7 : GF 47 7 = some 50 := by decide +kernel
theorem zg_47_8 : GF 47 8 = some 51 := by decide +kernel
theorem zg_47_9 : GF 47 9 = some 52 := by decide +kernel
theorem zg_47_10 : GF 47 10 = some 53 := by decide +kernel
theorem zg_47_11 : GF 47 11 = some 54 := by decide +kernel
theorem zg_55_0 : GF 55 0 = some 56 := by decide +kernel
theorem zg_55_1 : GF 55 1 = some 57 := by decide +kernel
theorem zg_58_5 : GF 58 5 = some 59 := by decide +kernel
theorem zg_58_6 : GF 58 6 = some 60 := by decide +kernel
theorem zg_58_7 : GF 58 7 = some 61 := by decide +kernel
theorem zg_58_8 : GF 58 8 = some 62 := by decide +kernel
theorem zg_58_9 : GF 58 9 = some 63 := by decide +kernel
theorem zg_58_10 : GF 58 10 = some 64 := by decide +kernel
theorem zg_58_11 : GF 58 11 = some 65 := by decide +kernel
theorem zg_58_12 : GF 58 12 = some 66 := by decide +kernel
theorem zg_58_13 : GF 58 13 = some 67 := by decide +kernel
theorem zg_68_0 : GF 68 0 = some 3 := by decide +kernel
theorem zg_68_1 : GF 68 1 = some 37 := by decide +kernel
theorem zg_68_2 : GF 68 2 = some 27 := by decide +kernel
theorem zg_68_3 : GF 68 3 = some 69 := by decide +kernel
theorem zg_69_5 : GF 69 5 = some 70 := by decide +kernel
theorem zg_69_6 : GF 69 6 = some 71 := by decide +kernel
theorem zg_69_7 : GF 69 7 = some 72 := by decide +kernel
theorem zg_69_8 : GF 69 8 = some 73 := by decide +kernel
theorem zg_69_9 : GF 69 9 = some 74 := by decide +kernel
theorem zg_69_10 : GF 69 10 = some 75 := by decide +kernel
theorem zg_69_11 : GF 69 11 = some 76 := by decide +kernel
theorem zg_69_12 : GF 69 12 = some 77 := by decide +kernel
theorem zg_69_13 : GF 69 13 = some 78 := by decide +kernel
theorem zg_79_0 : GF 79 0 = some 3 := by decide +kernel
theorem zg_79_1 : GF 79 1 = some 37 := by decide +kernel
theorem zg_79_2 : GF 79 2 = some 27 := by decide +kernel
theorem zg_79_3 : GF 79 3 = some 80 := by decide +kernel
theorem zg_79_12 : GF 79 12 = some 81 := by decide +kernel
theorem zg_80_0 : GF 80 0 = some 85 := by decide +kernel
theorem zg_80_1 : GF 80 1 = some 95 := by decide +kernel
theorem zg_81_0 : GF 81 0 = some 82 := by decide +kernel
theorem zg_81_1 : GF 81 1 = some 83 := by decide +kernel
theorem zg_81_2 : GF 81 2 = some 84 := by decide +kernel
theorem zg_85_5 : GF 85 5 = some 86 := by decide +kernel
theorem zg_85_6 : GF 85 6 = some 87 := by decide +kernel
theorem zg_85_7 : GF 85 7 = some 88 := by decide +kernel
theorem zg_85_8 : GF 85 8 = some 89 := by decide +kernel
theorem zg_85_9 : GF 85 9 = some 90 := by decide +kernel
theorem zg_85_10 : GF 85 10 = some 91 := by decide +kernel
theorem zg_85_11 : GF 85 11 = some 92 := by decide +kernel
theorem zg_85_12 : GF 85 12 = some 93 := by decide +kernel
theorem zg_85_13 : GF 85 13 = some 94 := by decide +kernel
theorem zg_695_0 : GF 695 0 = some 696 := by decide +kernel
theorem zg_695_1 : GF 695 1 = some 697 := by decide +kernel
theorem zg_695_2 : GF 695 2 = some 698 := by decide +kernel
theorem zg_699_0 : GF 699 0 = some 700 := by decide +kernel
theorem zg_699_1 : GF 699 1 = some 701 := by decide +kernel
theorem zg_699_2 : GF 699 2 = some 702 := by decide +kernel
theorem zg_703_1 : GF 703 1 = some 704 := by decide +kernel
theorem zg_703_2 : GF 703 2 = some 705 := by decide +kernel
theorem zg_703_3 : GF 703 3 = some 706 := by decide +kernel
theorem zg_703_4 : GF 703 4 = some 707 := by decide +kernel
theorem zg_703_18 : GF 703 18 = some 708 := by decide +kernel
theorem zg_703_19 : GF 703 19 = some 709 := by decide +kernel
theorem zg_703_20 : GF 703 20 = some 710 := by decide +kernel
theorem zg_703_21 : GF 703 21 = some 711 := by decide +kernel
theorem zg_703_22 : GF 703 22 = some 712 := by decide +kernel
theorem zg_703_23 : GF 703 23 = some 713 := by decide +kernel
theorem zg_703_29 : GF 703 29 = some 714 := by decide +kernel
theorem zg_703_30 : GF 703 30 = some 715 := by decide +kernel
theorem zg_703_31 : GF 703 31 = some 716 := by decide +kernel
theorem zg_703_35 : GF 703 35 = some 717 := by decide +kernel
theorem zg_703_36 : GF 703 36 = some 718 := by decide +kernel
theorem zg_703_37 : GF 703 37 = some 719 := by decide +kernel
theorem zg_703_38 : GF 703 38 = some 720 := by decide +kernel
theorem zg_703_39 : GF 703 39 = some 721 := by decide +kernel
theorem zg_703_40 : GF 703 40 = some 722 := by decide +kernel
theorem zg_703_47 : GF 703 47 = some 723 := by decide +kernel
theorem zg_703_48 : GF 703 48 = some 724 := by decide +kernel
theorem zg_703_49 : GF 703 49 = some 725 := by decide +kernel
theorem zg_703_50 : GF 703 50 = some 726 := by decide +kernel
theorem zg_703_51 : GF 703 51 = some 727 := by decide +kernel
theorem zg_703_54 : GF 703 54 = some 728 := by decide +kernel
theorem zg_703_55 : GF 703 55 = some 729 := by decide +kernel
theorem zg_703_56 : GF 703 56 = some 730 := by decide +kernel
theorem zg_703_60 : GF 703 60 = some 731 := by decide +kernel
theorem zg_703_61 : GF 703 61 = some 732 := by decide +kernel
theorem zg_703_63 : GF 703 63 = some 733 := by decide +kernel
theorem zg_703_64 : GF 703 64 = some 734 := by decide +kernel
theorem zg_703_65 : GF 703 65 = some 735 := by decide +kernel
theorem zg_703_68 : GF 703 68 = some 736 := by decide +kernel
theorem zg_703_69 : GF 703 69 = some 737 := by decide +kernel
theorem zg_703_70 : GF 703 70 = some 738 := by decide +kernel
theorem zs_95 : zs 95 = (7, 14) := by decide +kernel
theorem zs_96 : zs 96 = (50, 6) := by decide +kernel
theorem zs_97 : zs 97 = (50, 6) := by decide +kernel
theorem zs_98 : zs 98 = (50, 6) := by decide +kernel
theorem zs_99 : zs 99 = (50, 6) := by decide +kernel
theorem zs_100 : zs 100 = (50, 6) := by decide +kernel
theorem zs_101 : zs 101 = (50, 6) := by decide +kernel
theorem zs_102 : zs 102 = (50, 24) := by decide +kernel
theorem zs_103 : zs 103 = (50, 6) := by decide +kernel
theorem zs_104 : zs 104 = (50, 6) := by decide +kernel
theorem zg_95_5 : GF 95 5 = some 96 := by decide +kernel
theorem zg_95_6 : GF 95 6 = some 97 := by decide +kernel
theorem zg_95_7 : GF 95 7 = some 98 := by decide +kernel
theorem zg_95_8 : GF 95 8 = some 99 := by decide +kernel
theorem zg_95_9 : GF 95 9 = some 100 := by decide +kernel
theorem zg_95_10 : GF 95 10 = some 101 := by decide +kernel
theorem zg_95_11 : GF 95 11 = some 102 := by decide +kernel
theorem zg_95_12 : GF 95 12 = some 103 := by decide +kernel
theorem zg_95_13 : GF 95 13 = some 104 := by decide +kernel
