theorem zPc_blind {D : va_G} {A0 : Nat} {σ : Mm} {G : Gm} {n : Nat} {av : List Value} : FrameBlind (zPc D A0 σ G n av) := by
  intro a U g mk q
  obtain ⟨h1, h2, h3, h4, h5⟩ := q
  refine ⟨h1, h2, va_K.moved (u := U) (U := U.calling g mk a) (Vm.Alike.refl U.vm) h3, zRO.same h4, h5⟩
/-- what the tables say of a method that is called -/
def zB (y : MethodName) (b : ByteArray) (mL : Nat) (ret : Option FieldType) (nA : Nat) : Prop :=
  Cond.code y b mL ret ∈ zTB ∧ Cond.initialized y.cls ∈ zTB ∧ (y.cls ≠ "java/lang/invoke/MethodHandle" ∧ y.cls ≠ "java/lang/invoke/VarHandle" ∧ (parseMethodDescriptor y.desc).map (fun d => d.parameters.length) = some nA)
def zBV (C : String) (y : MethodName) (b : ByteArray) (mL : Nat) (ret : Option FieldType) (nA : Nat) : Prop := zB y b mL ret nA ∧ Cond.instanceMethod y ∈ zTB ∧ Cond.selects C y y ∈ zTB
def zBS (y : MethodName) (b : ByteArray) (mL : Nat) (ret : Option FieldType) (nA : Nat) : Prop := zB y b mL ret nA ∧ Cond.static y ∈ zTB
/-- a callee's room within the caller's -/
abbrev zrm (R rm : Room) (mL mc ms : Nat) : Prop := (rm.cells = mc ∧ rm.slots = ms) ∧ rm.frames + 1 ≤ R.frames ∧ 8 + (mL + 11) + rm.locals ≤ R.locals
section ZC
variable {p : Program} {l : Launch} {e : Env} {R : Room} {s : State} {m : MethodId} {args : Array Value} {below : List Frame} {meth : Method} {c : Code} {H : Heap} {locs : List Loc} {cells slots : Nat} {Q : State → Prop}
variable {cc : ByteArray} {nL : Nat} {own : String} {D : va_G} {A0 : Nat} {σ : Mm} {G : Gm} {n : Nat} {pc : Nat} {ls : Array Slot} {rest st : List Value}
variable {y : MethodName} {b : ByteArray} {mL nA idx a mc ms : Nat} {ret : Option FieldType} {rm : Room} {C : String} {ci N N' : Nat} {T : u_T} {As : List Value} {Qc : Array Value → State → Outcome → State → Prop}
theorem zpre (F : zx p s m c cc nL args own D A0) (Z : zh D A0 σ G n s.heap H locs) {av : List Value} : ∀ U : State, U.heap = H → s.WarmedH U.vm → zPc D A0 σ G n av av.toArray U := fun U hU hW =>
  ⟨rfl, by rw [hU]; exact Z.1, va_K.moved hW.alike F.2.1, F.2.2.1.on hW (fun a h1 h2 => by rw [hU]; exact Z.2.2.1 a h1 h2), by rw [hU]; exact Nat.le_trans F.2.2.2 Z.2.1⟩
theorem zr_V (F : zx p s m c cc nL args own D A0) (Z : zh D A0 σ G n s.heap H locs) (hM : Met l y (zws y b mL ret) rm (zPc D A0 σ G n (.ref (A0 + a) :: As)) Qc mc ms (zA A0)) (hB : zBV C y b mL ret nA) (hl : Cond.methodLink own idx y ∈ zTB) (ha : a < n) (hs : zs a = (ci, N)) (hc : vwCl[ci]? = some (C, T, N')) (hn : As.length = nA) (hR : zrm R rm mL mc ms)
    (hsz : ls.size = nL) (hst : st = As.reverse ++ .ref (A0 + a) :: rest) (hcat : (rest.map fun v => v.category).sum ≤ 8) (hd : decode cc pc = .ok (.invokevirtual idx, 3)) (hf : cells + mc ≤ R.cells ∧ slots + ms ≤ R.slots) :
    va_Run p l e R s m args below meth c H locs cells slots mc ms (F0 m pc ls st) rest (Qc (Value.ref (A0 + a) :: As).toArray) (zA A0) := by
  have ht := F.1.2.2.2.2
  have hci : ci < 50 := by
    have := (List.getElem?_eq_some_iff.mp hc).1
    simp [vwCl] at this
    omega
  refine va_runV (C := C) (n := nA) F.1 hM ⟨callB_of nA ht (zG hB.1.1) rfl hR.1.1 hR.1.2 (ht _ hB.1.2.1) (ht _ hl) hB.1.2.2 hR.2, ht _ hB.2.1, ht _ hB.2.2⟩ ⟨zPc_blind, va_recv F.2.1 Z.1 (ci := ci) (q0 := a) hc (by rw [zwl_get ha, zent_o hs hci]), zpre F Z⟩ rfl hn hsz hst (lv_room hcat) hd hf
theorem zr_S (F : zx p s m c cc nL args own D A0) (Z : zh D A0 σ G n s.heap H locs) (hM : Met l y (zws y b mL ret) rm (zPc D A0 σ G n As) Qc mc ms (zA A0)) (hB : zBS y b mL ret nA) (hl : Cond.methodLink own idx y ∈ zTB) (hn : As.length = nA) (hR : zrm R rm mL mc ms)
    (hsz : ls.size = nL) (hst : st = As.reverse ++ rest) (hcat : (rest.map fun v => v.category).sum ≤ 8) (hd : decode cc pc = .ok (.invokestatic idx, 3)) (hf : cells + mc ≤ R.cells ∧ slots + ms ≤ R.slots) :
    va_Run p l e R s m args below meth c H locs cells slots mc ms (F0 m pc ls st) rest (Qc As.toArray) (zA A0) := by
  have ht := F.1.2.2.2.2
  exact va_runS (n := nA) F.1 hM ⟨callB_of nA ht (zG hB.1.1) rfl hR.1.1 hR.1.2 (ht _ hB.1.2.1) (ht _ hl) hB.1.2.2 hR.2, ht _ hB.2⟩ ⟨zPc_blind, zpre F Z⟩ rfl hn hsz hst (lv_room hcat) hd hf
/-- a method of the class above, by its own name x or that of the class below -/
theorem zr_U {x : MethodName} {owner : String} (F : zx p s m c cc nL args own D A0) (Z : zh D A0 σ G n s.heap H locs) (hM : Met l y (zws y b mL ret) rm (zPc D A0 σ G n (.ref (A0 + a) :: As)) Qc mc ms (zA A0)) (hB : zB y b mL ret nA) (hl : Cond.methodLink own idx x ∈ zTB) (hsm : Cond.sameMethod x.cls owner x.name x.desc ∈ zTB) (hsel : Cond.selects C x y ∈ zTB) (hin : Cond.instanceMethod y ∈ zTB) (hyx : y = ⟨owner, x.name, x.desc⟩) (ha : a < n) (hs : zs a = (ci, N)) (hc : vwCl[ci]? = some (C, T, N')) (hn : As.length = nA) (hR : zrm R rm mL mc ms)
    (hsz : ls.size = nL) (hst : st = As.reverse ++ .ref (A0 + a) :: rest) (hcat : (rest.map fun v => v.category).sum ≤ 8) (hd : decode cc pc = .ok (.invokevirtual idx, 3)) (hf : cells + mc ≤ R.cells ∧ slots + ms ≤ R.slots) :
    va_Run p l e R s m args below meth c H locs cells slots mc ms (F0 m pc ls st) rest (Qc (Value.ref (A0 + a) :: As).toArray) (zA A0) := by
  have ht := F.1.2.2.2.2
  have hci : ci < 50 := by
    have := (List.getElem?_eq_some_iff.mp hc).1
    simp [vwCl] at this
    omega
  have hG : GoodIn zTB (va_wsU own idx C owner x y (zws y b mL ret)) := by
    intro w hw
    unfold va_wsU at hw
    rcases List.mem_append.mp hw with hw | hw
    · have hz : w ∈ zTB := by
        simp only [List.mem_cons, List.not_mem_nil, or_false] at hw
        rcases hw with rfl | rfl | rfl | rfl | rfl
        · exact hl
        · exact hsm
        · exact hsel
        · exact hin
        · exact hB.2.1
      exact ⟨hz, good_of_word (List.mem_filter.mp hz).2⟩
    · exact zG hB.1 w hw
  have hd3 : owner ≠ "java/lang/invoke/MethodHandle" ∧ owner ≠ "java/lang/invoke/VarHandle" ∧ (parseMethodDescriptor x.desc).map (fun d => d.parameters.length) = some nA := by
    have := hB.2.2
    rw [hyx] at this
    exact this
  exact va_runU (C := C) (n := nA) (owner := owner) (x := x) F.1 hM (va_cwU nA ht hG rfl hR.1.1 hR.1.2 hyx hd3 hR.2) ⟨zPc_blind, va_recv F.2.1 Z.1 (ci := ci) (q0 := a) hc (by rw [zwl_get ha, zent_o hs hci]), zpre F Z⟩ rfl hn hsz hst (lv_room hcat) hd hf
/-- behind a call -/
theorem zc_i {a2 : Array Value} {r : Int32} {σ1 : Mm} {G1 : Gm} {n1 : Nat} (Z : zh D A0 σ G n s.heap H locs) (hr : va_Run p l e R s m args below meth c H locs cells slots 0 0 (F0 m pc ls st) rest (zQi D A0 r σ1 G1 n1 a2) (zA A0))
    (kk : ∀ (H1 : Heap) (locs1 : List Loc), zh D A0 σ1 G1 n1 s.heap H1 locs1 → W p l e R s m args below meth c H1 locs1 cells slots Q (F0 m (pc + 3) ls (.int r :: rest))) : W p l e R s m args below meth c H locs cells slots Q (F0 m pc ls st) :=
  va_calli hr Z.2 (fun _ _ h => h) (fun _ h => h) (fun r1 _ t H1 locs1 ht _ hp hb _ _ hS => by subst hp; exact kk H1 locs1 ⟨by rw [← ht]; exact hb.1, hS⟩)
theorem zc_v {a2 : Array Value} {σ1 : Mm} {G1 : Gm} {n1 : Nat} (Z : zh D A0 σ G n s.heap H locs) (hr : va_Run p l e R s m args below meth c H locs cells slots 0 0 (F0 m pc ls st) rest (zQv D A0 σ1 G1 n1 a2) (zA A0))
    (kk : ∀ (H1 : Heap) (locs1 : List Loc), zh D A0 σ1 G1 n1 s.heap H1 locs1 → W p l e R s m args below meth c H1 locs1 cells slots Q (F0 m (pc + 3) ls rest)) : W p l e R s m args below meth c H locs cells slots Q (F0 m pc ls st) :=
  va_callv hr Z.2 (fun _ _ h => h) (fun _ h => h) (fun _ t H1 locs1 ht _ hp hb _ _ hS => kk H1 locs1 ⟨by rw [← ht]; exact hb.1, hS⟩)
theorem zc_r {a2 : Array Value} {r : Nat} {σ1 : Mm} {G1 : Gm} {n1 : Nat} (Z : zh D A0 σ G n s.heap H locs) (hr : va_Run p l e R s m args below meth c H locs cells slots 0 0 (F0 m pc ls st) rest (zQr D A0 r σ1 G1 n1 a2) (zA A0))
    (kk : ∀ (H1 : Heap) (locs1 : List Loc), zh D A0 σ1 G1 n1 s.heap H1 locs1 → W p l e R s m args below meth c H1 locs1 cells slots Q (F0 m (pc + 3) ls (.ref (A0 + r) :: rest))) : W p l e R s m args below meth c H locs cells slots Q (F0 m pc ls st) :=
  va_callr hr Z.2 (fun _ _ h => h) (fun _ h => h) (fun _ ra t H1 locs1 ht _ hp hb _ _ hS => by obtain ⟨rfl, hb⟩ := hb; exact kk H1 locs1 ⟨by rw [← ht]; exact hb.1, hS⟩)
/-- a constructor, called by a nest mate or not; it makes cells -/
theorem zc_vm {a2 : Array Value} {σ1 : Mm} {G1 : Gm} {n1 : Nat} (Z : zh D A0 σ G n s.heap H locs) (hr : va_Run p l e R s m args below meth c H locs cells slots mc ms (F0 m pc ls st) rest (zQv D A0 σ1 G1 n1 a2) (zA A0))
    (kk : ∀ (H1 : Heap) (locs1 : List Loc), zh D A0 σ1 G1 n1 s.heap H1 locs1 → W p l e R s m args below meth c H1 locs1 (cells + mc) (slots + ms) Q (F0 m (pc + 3) ls rest)) : W p l e R s m args below meth c H locs cells slots Q (F0 m pc ls st) :=
  va_callv hr Z.2 (fun _ _ h => h) (fun _ h => h) (fun _ t H1 locs1 ht _ hp hb _ _ hS => kk H1 locs1 ⟨by rw [← ht]; exact hb.1, hS⟩)
/-- ends -/
theorem zend (F : zx p s m c cc nL args own D A0) (Z : zh D A0 σ G n s.heap H locs) {t : State} (ht : t.heap = H) (hW : s.WarmedH t.vm) : zWd D A0 σ G n t ∧ va_F (zA A0) s t :=
  ⟨⟨by rw [ht]; exact Z.1, va_K.moved hW.alike F.2.1, F.2.2.1.on hW (fun a h1 h2 => by rw [ht]; exact Z.2.2.1 a h1 h2), by rw [ht]; exact Nat.le_trans F.2.2.2 Z.2.1⟩, Z.2.F ht⟩
theorem ze_i {r r1 : Int32} {σ1 : Mm} (F : zx p s m c cc nL args own D A0) (Z : zh D A0 σ G n s.heap H locs) (hr : meth.sig.returnType = some .int) (hlocks : meth.locks = false) (h1 : r = r1) (h2 : σ = σ1) (hd : decode cc pc = .ok (.ireturn, 1)) :
    W p l e R s m args below meth c H locs cells slots (MQ below (zQi D A0 r1 σ1 G n) args s cells slots (zA A0)) (F0 m pc ls [.int r]) := by
  subst h1; subst h2
  exact W.iret F.1.1 F.1.2.1 hr (fun t ht hW => ⟨⟨r, (), rfl, rfl, (zend F Z ht hW).1⟩, (zend F Z ht hW).2⟩) Z.2.2.2 hd hlocks
theorem z_nb {r : Int32} (h : zbo r) : narrow .boolean (.int r) = .int r ∧ fits .boolean (.int r) = true := by
  rcases h with rfl | rfl <;> decide
theorem ze_z {r r1 : Int32} {σ1 : Mm} (F : zx p s m c cc nL args own D A0) (Z : zh D A0 σ G n s.heap H locs) (hr : meth.sig.returnType = some .boolean) (hlocks : meth.locks = false) (hz : zbo r) (h1 : r = r1) (h2 : σ = σ1) (hd : decode cc pc = .ok (.ireturn, 1)) :
    W p l e R s m args below meth c H locs cells slots (MQ below (zQi D A0 r1 σ1 G n) args s cells slots (zA A0)) (F0 m pc ls [.int r]) := by
  subst h1; subst h2
  exact W.zret F.1.1 F.1.2.1 hr (z_nb hz).1 (fun t ht hW => ⟨⟨r, (), rfl, rfl, (zend F Z ht hW).1⟩, (zend F Z ht hW).2⟩) Z.2.2.2 hd hlocks
theorem ze_v {σ1 : Mm} (F : zx p s m c cc nL args own D A0) (Z : zh D A0 σ G n s.heap H locs) (hr : meth.sig.returnType = none) (hlocks : meth.locks = false) (h2 : σ = σ1) (hd : decode cc pc = .ok (.return_, 1)) :
    W p l e R s m args below meth c H locs cells slots (MQ below (zQv D A0 σ1 G n) args s cells slots (zA A0)) (F0 m pc ls []) := by
  subst h2
  exact W.vret F.1.1 F.1.2.1 hr (fun t ht hW => ⟨⟨(), rfl, trivial, (zend F Z ht hW).1⟩, (zend F Z ht hW).2⟩) Z.2.2.2 hd hlocks
theorem ze_r {r r1 : Nat} {σ1 : Mm} {rt : FieldType} (F : zx p s m c cc nL args own D A0) (Z : zh D A0 σ G n s.heap H locs) (hr : meth.sig.returnType = some rt) (hrt : (∃ n, rt = .object n) ∨ ∃ t, rt = .array t) (hlocks : meth.locks = false) (h1 : r = r1) (h2 : σ = σ1) (hd : decode cc pc = .ok (.areturn, 1)) :
    W p l e R s m args below meth c H locs cells slots (MQ below (zQr D A0 r1 σ1 G n) args s cells slots (zA A0)) (F0 m pc ls [.ref (A0 + r)]) := by
  subst h1; subst h2
  exact W.aret F.1.1 F.1.2.1 hr hrt (Or.inr ⟨_, rfl⟩) (fun t ht hW => ⟨⟨(), A0 + r, rfl, trivial, rfl, (zend F Z ht hW).1⟩, (zend F Z ht hW).2⟩) Z.2.2.2 hd hlocks
end ZC
/-- a method's walk from its entry -/
theorem zmet {l : Launch} {y : MethodName} {cc : ByteArray} {nL : Nat} {ret : Option FieldType} {own : String} {rm : Room} {D : va_G} {A0 : Nat} {σ : Mm} {G : Gm} {n mc ms : Nat} {av : List Value} {Qc : Array Value → State → Outcome → State → Prop} (hy : plainName y.cls = true) (hyc : y.cls = own) (hw : (lg_sl av).length ≤ nL)
    (body : ∀ (p : Program) (e : Env) (s : State) (m : MethodId) (below : List Frame) (meth : Method) (c : Code), zx p s m c cc nL av.toArray own D A0 → meth.sig.returnType = ret → meth.locks = false → meth.name = y.name → zh D A0 σ G n s.heap s.heap [] → ∀ ls, lv_has ls nL (lv_args 0 av) → W p l e rm s m av.toArray below meth c s.heap [] 0 0 (MQ below Qc av.toArray s mc ms (zA A0)) (F0 m 0 ls [])) :
    Met l y (zws y cc nL ret) rm (zPc D A0 σ G n av) Qc mc ms (zA A0) := by
  refine Met.ofW (cc := cc) (maxL := nL) (ret := ret) hy rfl ?_
  intro p e s m args below meth c s₁ B hml hv
  obtain ⟨rfl, hP, hK, hRO, hA0⟩ := hv
  have hts := atoms_spec (ws := zws y cc nL ret) B.pre
  have hown : s.vm.findClass own = some m.cls := by rw [← hyc]; exact findClass_of_methodNamed B.named
  have hl := lv_entry av (n := nL) hw
  rw [lg_entry_eq]
  generalize (lg_sl av ++ List.replicate (nL - (lg_sl av).length) Slot.unset).toArray = ls at hl ⊢
  exact body p e s m below meth c ⟨⟨B.exec, B.bytes, hml, hown, fun w hw => hts w (List.mem_cons_of_mem _ hw)⟩, hK, hRO, hA0⟩ B.returns B.notSynchronized (name_of_methodNamed B.named B.method).1 ⟨hP, va_S.rf⟩ ls hl
