/-! contracts over a world of numbers: how a walk gives a contract, how a contract is used at a call -/
def w0 : St → va_W := fun _ => []
def gPc (g : va_G) (tys : List (ClassId × FieldType)) (ws : va_W) (sz : Nat) (av : List Value) : Array Value → State → Prop := va_Pc av (fun U => U.heap.size = sz ∧ va_P g vwCl ws U.heap ∧ va_K g vwCl tys U ∧ va_D (fun _ => True) ws ∧ xN U)
def gB (g : va_G) (tys : List (ClassId × FieldType)) (w : St → va_W) (A : Nat → Prop) : St → State → Prop := fun S t => va_P g vwCl (w S) t.heap ∧ va_K g vwCl tys t ∧ va_D A (w S)
theorem gPc_blind {g : va_G} {tys : List (ClassId × FieldType)} {ws : va_W} {sz : Nat} {av : List Value} : FrameBlind (gPc g tys ws sz av) := fun a U f mk q => by
  obtain ⟨q0, q1, qP, qK, qD, qN⟩ := q
  exact ⟨q0, q1, qP, va_K.moved (u := U) (U := U.calling f mk a) (Vm.Alike.refl U.vm) qK, qD, xN.same (u := U) (U := U.calling f mk a) rfl qN⟩
theorem gPc_at {g : va_G} {tys : List (ClassId × FieldType)} {ws : va_W} {av : List Value} {A : Nat → Prop} {s U : State} {H : Heap} (hU : U.heap = H) (hW : s.WarmedH U.vm) (hP : va_P g vwCl ws H) (hK : va_K g vwCl tys s) (hD : va_D A ws) (hN : xN s) : gPc g tys ws H.size av av.toArray U :=
  ⟨rfl, by rw [hU], by rw [hU]; exact hP, va_K.moved hW.alike hK, hD.weaken (fun _ _ _ _ => trivial), hN.warm hW⟩
theorem g_free {A : Nat → Prop} {ws : va_W} {H0 H : Heap} {locs : List Loc} (hD : va_D A ws) (hS : va_S A H0 H locs) (hA : ∀ q, H0.size ≤ q → A q) : ∀ q, va_A ws H.size q → A q := by
  intro q h
  rcases h with ⟨k, e, h⟩ | h
  · exact hD.2 k (q, e) h
  · exact hA q (Nat.le_trans hS.1 h)
section GM
variable {l : Launch} {y : MethodName} {ws ws' : List Cond} {rm : Room} {cc : ByteArray} {maxL : Nat} {own : String} {av : List Value} {lv : List (Nat × Value)} {g : va_G} {tys : List (ClassId × FieldType)} {w : St → va_W} {S : St} {sz : Nat}
theorem g_metI {Q : Int32 → St → Prop} (hy : plainName y.cls = true) (hw : ws = Cond.code y cc maxL (some .int) :: ws') (hown : y.cls = own) (hlen : (lg_sl av).length ≤ maxL) (hlv : lv_args 0 av = lv)
    (core : ∀ (p : Program) (e : Env) (s : State) (m : MethodId) (args : Array Value) (below : List Frame) (meth : Method) (c : Code) (QQ : State → Prop) (A : Nat → Prop), CallFix p m c cc maxL s args ws own → va_K g vwCl tys s → xN s → (∀ q, s.heap.size ≤ q → A q) → (∀ (pc : Nat) (r : Int32) (S : St) (H : Heap) (locs : List Loc) (ls : Array Slot), decode cc pc = .ok (.ireturn, 1) → Q r S → va_P g vwCl (w S) H → va_D A (w S) → va_S A s.heap H locs → W p l e rm s m args below meth c H locs 0 0 QQ (F0 m pc ls [.int r])) → ∀ (H : Heap) (locs : List Loc) (ls : Array Slot), va_P g vwCl (w S) H → va_D A (w S) → va_S A s.heap H locs → lv_has ls maxL lv → W p l e rm s m args below meth c H locs 0 0 QQ (F0 m 0 ls [])) :
    Met l y ws rm (gPc g tys (w S) sz av) (va_Qi Q (gB g tys w (va_A (w S) sz)) (va_A (w S) sz)) 0 0 (va_A (w S) sz) := by
  refine Met.ofW (cc := cc) (maxL := maxL) (ret := some .int) hy hw ?_
  intro p e s m args below meth c s₁ B hml hv
  obtain ⟨rfl, hsz, hP, hK, hD0, hN⟩ := hv
  have hts := atoms_spec (ws := ws) B.pre
  have hown' : s.vm.findClass own = some m.cls := by rw [← hown]; exact findClass_of_methodNamed B.named
  have hr := B.returns
  have hlocks := B.notSynchronized
  subst hsz
  have hl := lv_entry av (n := maxL) hlen
  rw [lg_entry_eq]
  generalize (lg_sl av ++ List.replicate (maxL - (lg_sl av).length) Slot.unset).toArray = ls at hl ⊢
  rw [hlv] at hl
  refine core p e s m _ below meth c _ (va_A (w S) s.heap.size) ⟨B.exec, B.bytes, hml, hown', hts⟩ hK hN (fun q h => Or.inr h) (fun pc r S' H locs ls hdg hq hP hD hS => ?_) s.heap [] ls hP hD0.self va_S.rf hl
  exact W.iret (v := r) B.exec B.bytes hr (fun t ht hW => ⟨⟨r, S', rfl, hq, by rw [ht]; exact hP, va_K.moved hW.alike hK, hD⟩, hS.F ht⟩) hS.2.2 hdg
theorem g_metZ {Q : Int32 → St → Prop} (hy : plainName y.cls = true) (hw : ws = Cond.code y cc maxL (some .boolean) :: ws') (hown : y.cls = own) (hlen : (lg_sl av).length ≤ maxL) (hlv : lv_args 0 av = lv)
    (core : ∀ (p : Program) (e : Env) (s : State) (m : MethodId) (args : Array Value) (below : List Frame) (meth : Method) (c : Code) (QQ : State → Prop) (A : Nat → Prop), CallFix p m c cc maxL s args ws own → va_K g vwCl tys s → xN s → (∀ q, s.heap.size ≤ q → A q) → (∀ (pc : Nat) (r : Int32) (S : St) (H : Heap) (locs : List Loc) (ls : Array Slot), decode cc pc = .ok (.ireturn, 1) → zb r → Q r S → va_P g vwCl (w S) H → va_D A (w S) → va_S A s.heap H locs → W p l e rm s m args below meth c H locs 0 0 QQ (F0 m pc ls [.int r])) → ∀ (H : Heap) (locs : List Loc) (ls : Array Slot), va_P g vwCl (w S) H → va_D A (w S) → va_S A s.heap H locs → lv_has ls maxL lv → W p l e rm s m args below meth c H locs 0 0 QQ (F0 m 0 ls [])) :
    Met l y ws rm (gPc g tys (w S) sz av) (va_Qi Q (gB g tys w (va_A (w S) sz)) (va_A (w S) sz)) 0 0 (va_A (w S) sz) := by
  refine Met.ofW (cc := cc) (maxL := maxL) (ret := some .boolean) hy hw ?_
  intro p e s m args below meth c s₁ B hml hv
  obtain ⟨rfl, hsz, hP, hK, hD0, hN⟩ := hv
  have hts := atoms_spec (ws := ws) B.pre
  have hown' : s.vm.findClass own = some m.cls := by rw [← hown]; exact findClass_of_methodNamed B.named
  have hr := B.returns
  have hlocks := B.notSynchronized
  subst hsz
  have hl := lv_entry av (n := maxL) hlen
  rw [lg_entry_eq]
  generalize (lg_sl av ++ List.replicate (maxL - (lg_sl av).length) Slot.unset).toArray = ls at hl ⊢
  rw [hlv] at hl
  refine core p e s m _ below meth c _ (va_A (w S) s.heap.size) ⟨B.exec, B.bytes, hml, hown', hts⟩ hK hN (fun q h => Or.inr h) (fun pc r S' H locs ls hdg hz hq hP hD hS => ?_) s.heap [] ls hP hD0.self va_S.rf hl
  exact W.zret (v := r) B.exec B.bytes hr (zb_n hz) (fun t ht hW => ⟨⟨r, S', rfl, hq, by rw [ht]; exact hP, va_K.moved hW.alike hK, hD⟩, hS.F ht⟩) hS.2.2 hdg
theorem g_metJ {Q : Int64 → St → Prop} (hy : plainName y.cls = true) (hw : ws = Cond.code y cc maxL (some .long) :: ws') (hown : y.cls = own) (hlen : (lg_sl av).length ≤ maxL) (hlv : lv_args 0 av = lv)
    (core : ∀ (p : Program) (e : Env) (s : State) (m : MethodId) (args : Array Value) (below : List Frame) (meth : Method) (c : Code) (QQ : State → Prop) (A : Nat → Prop), CallFix p m c cc maxL s args ws own → va_K g vwCl tys s → xN s → (∀ q, s.heap.size ≤ q → A q) → (∀ (pc : Nat) (r : Int64) (S : St) (H : Heap) (locs : List Loc) (ls : Array Slot), decode cc pc = .ok (.lreturn, 1) → Q r S → va_P g vwCl (w S) H → va_D A (w S) → va_S A s.heap H locs → W p l e rm s m args below meth c H locs 0 0 QQ (F0 m pc ls [.long r])) → ∀ (H : Heap) (locs : List Loc) (ls : Array Slot), va_P g vwCl (w S) H → va_D A (w S) → va_S A s.heap H locs → lv_has ls maxL lv → W p l e rm s m args below meth c H locs 0 0 QQ (F0 m 0 ls [])) :
    Met l y ws rm (gPc g tys (w S) sz av) (va_Ql Q (gB g tys w (va_A (w S) sz)) (va_A (w S) sz)) 0 0 (va_A (w S) sz) := by
  refine Met.ofW (cc := cc) (maxL := maxL) (ret := some .long) hy hw ?_
  intro p e s m args below meth c s₁ B hml hv
  obtain ⟨rfl, hsz, hP, hK, hD0, hN⟩ := hv
  have hts := atoms_spec (ws := ws) B.pre
  have hown' : s.vm.findClass own = some m.cls := by rw [← hown]; exact findClass_of_methodNamed B.named
  have hr := B.returns
  have hlocks := B.notSynchronized
  subst hsz
  have hl := lv_entry av (n := maxL) hlen
  rw [lg_entry_eq]
  generalize (lg_sl av ++ List.replicate (maxL - (lg_sl av).length) Slot.unset).toArray = ls at hl ⊢
  rw [hlv] at hl
  refine core p e s m _ below meth c _ (va_A (w S) s.heap.size) ⟨B.exec, B.bytes, hml, hown', hts⟩ hK hN (fun q h => Or.inr h) (fun pc r S' H locs ls hdg hq hP hD hS => ?_) s.heap [] ls hP hD0.self va_S.rf hl
  exact W.lret (v := r) B.exec B.bytes hr (fun t ht hW => ⟨⟨r, S', rfl, hq, by rw [ht]; exact hP, va_K.moved hW.alike hK, hD⟩, hS.F ht⟩) hS.2.2 hdg
theorem g_metV {Q : St → Prop} (hy : plainName y.cls = true) (hw : ws = Cond.code y cc maxL none :: ws') (hown : y.cls = own) (hlen : (lg_sl av).length ≤ maxL) (hlv : lv_args 0 av = lv)
    (core : ∀ (p : Program) (e : Env) (s : State) (m : MethodId) (args : Array Value) (below : List Frame) (meth : Method) (c : Code) (QQ : State → Prop) (A : Nat → Prop), CallFix p m c cc maxL s args ws own → va_K g vwCl tys s → xN s → (∀ q, s.heap.size ≤ q → A q) → (∀ (pc : Nat) (S : St) (H : Heap) (locs : List Loc) (ls : Array Slot), decode cc pc = .ok (.return_, 1) → Q S → va_P g vwCl (w S) H → va_D A (w S) → va_S A s.heap H locs → W p l e rm s m args below meth c H locs 0 0 QQ (F0 m pc ls [])) → ∀ (H : Heap) (locs : List Loc) (ls : Array Slot), va_P g vwCl (w S) H → va_D A (w S) → va_S A s.heap H locs → lv_has ls maxL lv → W p l e rm s m args below meth c H locs 0 0 QQ (F0 m 0 ls [])) :
    Met l y ws rm (gPc g tys (w S) sz av) (va_Qv Q (gB g tys w (va_A (w S) sz)) (va_A (w S) sz)) 0 0 (va_A (w S) sz) := by
  refine Met.ofW (cc := cc) (maxL := maxL) (ret := none) hy hw ?_
  intro p e s m args below meth c s₁ B hml hv
  obtain ⟨rfl, hsz, hP, hK, hD0, hN⟩ := hv
  have hts := atoms_spec (ws := ws) B.pre
  have hown' : s.vm.findClass own = some m.cls := by rw [← hown]; exact findClass_of_methodNamed B.named
  have hr := B.returns
  have hlocks := B.notSynchronized
  subst hsz
  have hl := lv_entry av (n := maxL) hlen
  rw [lg_entry_eq]
  generalize (lg_sl av ++ List.replicate (maxL - (lg_sl av).length) Slot.unset).toArray = ls at hl ⊢
  rw [hlv] at hl
  refine core p e s m _ below meth c _ (va_A (w S) s.heap.size) ⟨B.exec, B.bytes, hml, hown', hts⟩ hK hN (fun q h => Or.inr h) (fun pc S' H locs ls hdg hq hP hD hS => ?_) s.heap [] ls hP hD0.self va_S.rf hl
  exact W.vret B.exec B.bytes hr (fun t ht hW => ⟨⟨S', rfl, hq, by rw [ht]; exact hP, va_K.moved hW.alike hK, hD⟩, hS.F ht⟩) hS.2.2 hdg
theorem g_metR {Q : Nat → St → Prop} {rt : FieldType} {ad : Nat → Nat} (bs bd : Nat) (hrt : (∃ n, rt = .object n) ∨ ∃ t, rt = .array t) (hy : plainName y.cls = true) (hw : ws = Cond.code y cc maxL (some rt) :: ws') (hown : y.cls = own) (hlen : (lg_sl av).length ≤ maxL) (hlv : lv_args 0 av = lv)
    (core : ∀ (p : Program) (e : Env) (s : State) (m : MethodId) (args : Array Value) (below : List Frame) (meth : Method) (c : Code) (QQ : State → Prop) (A : Nat → Prop), CallFix p m c cc maxL s args ws own → va_K g vwCl tys s → xN s → (∀ q, s.heap.size ≤ q → A q) → (∀ (pc : Nat) (r : Nat) (S : St) (H : Heap) (locs : List Loc) (ls : Array Slot), decode cc pc = .ok (.areturn, 1) → r < bd → Q r S → va_P g vwCl (w S) H → va_D A (w S) → va_S A s.heap H locs → W p l e rm s m args below meth c H locs 0 0 QQ (F0 m pc ls [.ref (ad (bs + r))])) → ∀ (H : Heap) (locs : List Loc) (ls : Array Slot), va_P g vwCl (w S) H → va_D A (w S) → va_S A s.heap H locs → lv_has ls maxL lv → W p l e rm s m args below meth c H locs 0 0 QQ (F0 m 0 ls [])) :
    Met l y ws rm (gPc g tys (w S) sz av) (va_Qr (fun u : Nat × St => u.1 < bd ∧ Q u.1 u.2) (fun u a t => a = ad (bs + u.1) ∧ gB g tys w (va_A (w S) sz) u.2 t) (va_A (w S) sz)) 0 0 (va_A (w S) sz) := by
  refine Met.ofW (cc := cc) (maxL := maxL) (ret := some rt) hy hw ?_
  intro p e s m args below meth c s₁ B hml hv
  obtain ⟨rfl, hsz, hP, hK, hD0, hN⟩ := hv
  have hts := atoms_spec (ws := ws) B.pre
  have hown' : s.vm.findClass own = some m.cls := by rw [← hown]; exact findClass_of_methodNamed B.named
  have hr := B.returns
  have hlocks := B.notSynchronized
  subst hsz
  have hl := lv_entry av (n := maxL) hlen
  rw [lg_entry_eq]
  generalize (lg_sl av ++ List.replicate (maxL - (lg_sl av).length) Slot.unset).toArray = ls at hl ⊢
  rw [hlv] at hl
  refine core p e s m _ below meth c _ (va_A (w S) s.heap.size) ⟨B.exec, B.bytes, hml, hown', hts⟩ hK hN (fun q h => Or.inr h) (fun pc r S' H locs ls hdg hb hq hP hD hS => ?_) s.heap [] ls hP hD0.self va_S.rf hl
  exact W.aret (v := .ref (ad (bs + r))) B.exec B.bytes hr hrt (Or.inr ⟨_, rfl⟩) (fun t ht hW => ⟨⟨(r, S'), ad (bs + r), rfl, ⟨hb, hq⟩, rfl, by rw [ht]; exact hP, va_K.moved hW.alike hK, hD⟩, hS.F ht⟩) hS.2.2 hdg
end GM
section GC
variable {p : Program} {l : Launch} {e : Env} {R : Room} {s : State} {m : MethodId} {args : Array Value} {below : List Frame} {meth : Method} {c : Code} {H : Heap} {locs : List Loc} {cells slots : Nat} {QQ : State → Prop} {cc : ByteArray} {nL : Nat} {own : String} {Ts : List Cond} {pc : Nat} {ls : Array Slot} {st0 rest As : List Value} {g : va_G} {tys : List (ClassId × FieldType)} {w : St → va_W} {A : Nat → Prop} {S : St} {y : MethodName} {ws : List Cond} {rm : Room} {bytes : ByteArray} {maxL index nA b : Nat} {ret : Option FieldType} {Cc : String}
theorem g_callVi {Q : Int32 → St → Prop} (C : CallFix p m c cc nL s args Ts own) (hK : va_K g vwCl tys s) (hN : xN s) (hA : ∀ q, s.heap.size ≤ q → A q) (hP : va_P g vwCl (w S) H) (hD : va_D A (w S)) (hS : va_S A s.heap H locs) (hM : Met l y ws rm (gPc g tys (w S) H.size (.ref b :: As)) (va_Qi Q (gB g tys w (va_A (w S) H.size)) (va_A (w S) H.size)) 0 0 (va_A (w S) H.size)) (cw : CallW R s args own Cc index y bytes maxL ret ws rm 0 0 nA) (hrecv : ∃ cell : Cell, H[b]? = some cell ∧ cell.vm.isStatics = false ∧ s.vm.findClass Cc = some cell.cls) (hn : As.length = nA) (hsize : ls.size = nL) (hst : st0 = As.reverse ++ .ref b :: rest) (hW : (rest.map fun v => v.category).sum ≤ 8) (hdg : decode cc pc = .ok (.invokevirtual index, 3)) (hcs : cells ≤ R.cells ∧ slots ≤ R.slots)
    (kk : ∀ (r : Int32) (S' : St) (H1 : Heap) (locs1 : List Loc), Q r S' → va_P g vwCl (w S') H1 → va_D A (w S') → va_S A s.heap H1 locs1 → W p l e R s m args below meth c H1 locs1 cells slots QQ (F0 m (pc + 3) ls (.int r :: rest))) : W p l e R s m args below meth c H locs cells slots QQ (F0 m pc ls st0) := by
  subst hst
  have hFc := g_free hD hS hA
  refine va_calli (va_runV (As := As) (rest := rest) C hM cw ⟨gPc_blind, hrecv, fun U hU hW => gPc_at hU hW hP hK hD hN⟩ rfl hn hsize rfl (lv_room hW) hdg ⟨hcs.1, hcs.2⟩) hS (fun q _ h => hFc q h) hFc (fun r u t H1 locs ht hvm hw hB hz1 hk1 hS => ?_)
  obtain ⟨hP1, hK1, hD1⟩ := hB
  rw [ht] at hP1
  exact kk r u H1 locs hw hP1 (hD1.weaken (fun k q _ h => hFc q.1 h)) hS
theorem g_callVj {Q : Int64 → St → Prop} (C : CallFix p m c cc nL s args Ts own) (hK : va_K g vwCl tys s) (hN : xN s) (hA : ∀ q, s.heap.size ≤ q → A q) (hP : va_P g vwCl (w S) H) (hD : va_D A (w S)) (hS : va_S A s.heap H locs) (hM : Met l y ws rm (gPc g tys (w S) H.size (.ref b :: As)) (va_Ql Q (gB g tys w (va_A (w S) H.size)) (va_A (w S) H.size)) 0 0 (va_A (w S) H.size)) (cw : CallW R s args own Cc index y bytes maxL ret ws rm 0 0 nA) (hrecv : ∃ cell : Cell, H[b]? = some cell ∧ cell.vm.isStatics = false ∧ s.vm.findClass Cc = some cell.cls) (hn : As.length = nA) (hsize : ls.size = nL) (hst : st0 = As.reverse ++ .ref b :: rest) (hW : (rest.map fun v => v.category).sum ≤ 8) (hdg : decode cc pc = .ok (.invokevirtual index, 3)) (hcs : cells ≤ R.cells ∧ slots ≤ R.slots)
    (kk : ∀ (r : Int64) (S' : St) (H1 : Heap) (locs1 : List Loc), Q r S' → va_P g vwCl (w S') H1 → va_D A (w S') → va_S A s.heap H1 locs1 → W p l e R s m args below meth c H1 locs1 cells slots QQ (F0 m (pc + 3) ls (.long r :: rest))) : W p l e R s m args below meth c H locs cells slots QQ (F0 m pc ls st0) := by
  subst hst
  have hFc := g_free hD hS hA
  refine va_calll (va_runV (As := As) (rest := rest) C hM cw ⟨gPc_blind, hrecv, fun U hU hW => gPc_at hU hW hP hK hD hN⟩ rfl hn hsize rfl (lv_room hW) hdg ⟨hcs.1, hcs.2⟩) hS (fun q _ h => hFc q h) hFc (fun r u t H1 locs ht hvm hw hB hz1 hk1 hS => ?_)
  obtain ⟨hP1, hK1, hD1⟩ := hB
  rw [ht] at hP1
  exact kk r u H1 locs hw hP1 (hD1.weaken (fun k q _ h => hFc q.1 h)) hS
theorem g_callVv {Q : St → Prop} (C : CallFix p m c cc nL s args Ts own) (hK : va_K g vwCl tys s) (hN : xN s) (hA : ∀ q, s.heap.size ≤ q → A q) (hP : va_P g vwCl (w S) H) (hD : va_D A (w S)) (hS : va_S A s.heap H locs) (hM : Met l y ws rm (gPc g tys (w S) H.size (.ref b :: As)) (va_Qv Q (gB g tys w (va_A (w S) H.size)) (va_A (w S) H.size)) 0 0 (va_A (w S) H.size)) (cw : CallW R s args own Cc index y bytes maxL ret ws rm 0 0 nA) (hrecv : ∃ cell : Cell, H[b]? = some cell ∧ cell.vm.isStatics = false ∧ s.vm.findClass Cc = some cell.cls) (hn : As.length = nA) (hsize : ls.size = nL) (hst : st0 = As.reverse ++ .ref b :: rest) (hW : (rest.map fun v => v.category).sum ≤ 8) (hdg : decode cc pc = .ok (.invokevirtual index, 3)) (hcs : cells ≤ R.cells ∧ slots ≤ R.slots)
    (kk : ∀ (S' : St) (H1 : Heap) (locs1 : List Loc), Q S' → va_P g vwCl (w S') H1 → va_D A (w S') → va_S A s.heap H1 locs1 → W p l e R s m args below meth c H1 locs1 cells slots QQ (F0 m (pc + 3) ls rest)) : W p l e R s m args below meth c H locs cells slots QQ (F0 m pc ls st0) := by
  subst hst
  have hFc := g_free hD hS hA
  refine va_callv (va_runV (As := As) (rest := rest) C hM cw ⟨gPc_blind, hrecv, fun U hU hW => gPc_at hU hW hP hK hD hN⟩ rfl hn hsize rfl (lv_room hW) hdg ⟨hcs.1, hcs.2⟩) hS (fun q _ h => hFc q h) hFc (fun u t H1 locs ht hvm hw hB hz1 hk1 hS => ?_)
  obtain ⟨hP1, hK1, hD1⟩ := hB
  rw [ht] at hP1
  exact kk u H1 locs hw hP1 (hD1.weaken (fun k q _ h => hFc q.1 h)) hS
theorem g_callVr {Q : Nat → St → Prop} {ad : Nat → Nat} {bs bd : Nat} (C : CallFix p m c cc nL s args Ts own) (hK : va_K g vwCl tys s) (hN : xN s) (hA : ∀ q, s.heap.size ≤ q → A q) (hP : va_P g vwCl (w S) H) (hD : va_D A (w S)) (hS : va_S A s.heap H locs) (hM : Met l y ws rm (gPc g tys (w S) H.size (.ref b :: As)) (va_Qr (fun u : Nat × St => u.1 < bd ∧ Q u.1 u.2) (fun u a t => a = ad (bs + u.1) ∧ gB g tys w (va_A (w S) H.size) u.2 t) (va_A (w S) H.size)) 0 0 (va_A (w S) H.size)) (cw : CallW R s args own Cc index y bytes maxL ret ws rm 0 0 nA) (hrecv : ∃ cell : Cell, H[b]? = some cell ∧ cell.vm.isStatics = false ∧ s.vm.findClass Cc = some cell.cls) (hn : As.length = nA) (hsize : ls.size = nL) (hst : st0 = As.reverse ++ .ref b :: rest) (hW : (rest.map fun v => v.category).sum ≤ 8) (hdg : decode cc pc = .ok (.invokevirtual index, 3)) (hcs : cells ≤ R.cells ∧ slots ≤ R.slots)
    (kk : ∀ (r : Nat) (S' : St) (H1 : Heap) (locs1 : List Loc), r < bd → Q r S' → va_P g vwCl (w S') H1 → va_D A (w S') → va_S A s.heap H1 locs1 → W p l e R s m args below meth c H1 locs1 cells slots QQ (F0 m (pc + 3) ls (.ref (ad (bs + r)) :: rest))) : W p l e R s m args below meth c H locs cells slots QQ (F0 m pc ls st0) := by
  subst hst
  have hFc := g_free hD hS hA
  refine va_callr (va_runV (As := As) (rest := rest) C hM cw ⟨gPc_blind, hrecv, fun U hU hW => gPc_at hU hW hP hK hD hN⟩ rfl hn hsize rfl (lv_room hW) hdg ⟨hcs.1, hcs.2⟩) hS (fun q _ h => hFc q h) hFc (fun u ra t H1 locs ht hvm hw hB hz1 hk1 hS => ?_)
  obtain ⟨hra, hP1, hK1, hD1⟩ := hB
  rw [ht] at hP1
  subst hra
  exact kk u.1 u.2 H1 locs hw.1 hw.2 hP1 (hD1.weaken (fun k q _ h => hFc q.1 h)) hS
theorem g_kept {H1 : Heap} (hP : va_P g vwCl (w S) H) (hk : ∀ q : Nat, q < H.size → ¬ va_A (w0 S) H.size q → H1[q]? = H[q]?) : va_P g vwCl (w S) H1 := by
  refine hP.kept (fun k q hq => hk q.1 (hP k q hq).lt (fun h => ?_))
  rcases h with ⟨k2, e2, h⟩ | h
  · exact absurd h (by simp [w0])
  · exact Nat.not_le.mpr (hP k q hq).lt h
theorem w0_P {D : va_G} {cl : List vw_C} {H : Heap} : va_P D cl (w0 S) H := fun k q h => absurd h (by simp [w0])
theorem w0_D {B : Nat → Prop} : va_D B (w0 S) := ⟨fun i j p q h => absurd h (by simp [w0]), fun k q h => absurd h (by simp [w0])⟩
theorem g_callS {Q : Int32 → Prop} (C : CallFix p m c cc nL s args Ts own) (hK : va_K g vwCl tys s) (hN : xN s) (hA : ∀ q, s.heap.size ≤ q → A q) (hP : va_P g vwCl (w S) H) (hD : va_D A (w S)) (hS : va_S A s.heap H locs) (hM : Met l y ws rm (gPc g tys (w0 S) H.size As) (va_Qi (fun r _ => Q r) (gB g tys w0 (va_A (w0 S) H.size)) (va_A (w0 S) H.size)) 0 0 (va_A (w0 S) H.size)) (cw : CallB R s args own index y bytes maxL ret ws rm 0 0 nA ∧ (Cond.static y).before args s = true) (hn : As.length = nA) (hsize : ls.size = nL) (hst : st0 = As.reverse ++ rest) (hW : (rest.map fun v => v.category).sum ≤ 8) (hdg : decode cc pc = .ok (.invokestatic index, 3)) (hcs : cells ≤ R.cells ∧ slots ≤ R.slots)
    (kk : ∀ (r : Int32) (H1 : Heap) (locs1 : List Loc), Q r → va_P g vwCl (w S) H1 → va_D A (w S) → va_S A s.heap H1 locs1 → W p l e R s m args below meth c H1 locs1 cells slots QQ (F0 m (pc + 3) ls (.int r :: rest))) : W p l e R s m args below meth c H locs cells slots QQ (F0 m pc ls st0) := by
  subst hst
  have hFc : ∀ q, va_A (w0 S) H.size q → A q := g_free w0_D hS hA
  refine va_calli (va_runS (As := As) (rest := rest) C hM cw ⟨gPc_blind, fun U hU hW => gPc_at hU hW w0_P hK (w0_D (B := A)) hN⟩ rfl hn hsize rfl (lv_room hW) hdg ⟨hcs.1, hcs.2⟩) hS (fun q _ h => hFc q h) hFc (fun r u t H1 locs ht hvm hw hB hz1 hk1 hS => ?_)
  exact kk r H1 locs hw (g_kept hP hk1) hD hS
theorem g_callSN {Q : Int32 → Prop} {host : String} (C : CallFix p m c cc nL s args Ts own) (hK : va_K g vwCl tys s) (hN : xN s) (hA : ∀ q, s.heap.size ≤ q → A q) (hP : va_P g vwCl (w S) H) (hD : va_D A (w S)) (hS : va_S A s.heap H locs) (hM : Met l y ws rm (gPc g tys (w0 S) H.size As) (va_Qi (fun r _ => Q r) (gB g tys w0 (va_A (w0 S) H.size)) (va_A (w0 S) H.size)) 0 0 (va_A (w0 S) H.size)) (cw : va_CN R s args own index y host bytes maxL ret ws rm 0 0 nA ∧ (Cond.static y).before args s = true ∧ True) (hn : As.length = nA) (hsize : ls.size = nL) (hst : st0 = As.reverse ++ rest) (hW : (rest.map fun v => v.category).sum ≤ 8) (hdg : decode cc pc = .ok (.invokestatic index, 3)) (hcs : cells ≤ R.cells ∧ slots ≤ R.slots)
    (kk : ∀ (r : Int32) (H1 : Heap) (locs1 : List Loc), Q r → va_P g vwCl (w S) H1 → va_D A (w S) → va_S A s.heap H1 locs1 → W p l e R s m args below meth c H1 locs1 cells slots QQ (F0 m (pc + 3) ls (.int r :: rest))) : W p l e R s m args below meth c H locs cells slots QQ (F0 m pc ls st0) := by
  subst hst
  have hFc : ∀ q, va_A (w0 S) H.size q → A q := g_free w0_D hS hA
  refine va_calli (va_runSN (As := As) (rest := rest) C hM cw ⟨gPc_blind, fun U hU hW => gPc_at hU hW w0_P hK (w0_D (B := A)) hN⟩ rfl hn hsize rfl (lv_room hW) hdg ⟨hcs.1, hcs.2⟩) hS (fun q _ h => hFc q h) hFc (fun r u t H1 locs ht hvm hw hB hz1 hk1 hS => ?_)
  exact kk r H1 locs hw (g_kept hP hk1) hD hS
theorem g_callSv {Q : St → Prop} (C : CallFix p m c cc nL s args Ts own) (hK : va_K g vwCl tys s) (hN : xN s) (hA : ∀ q, s.heap.size ≤ q → A q) (hP : va_P g vwCl (w S) H) (hD : va_D A (w S)) (hS : va_S A s.heap H locs) (hM : Met l y ws rm (gPc g tys (w S) H.size As) (va_Qv Q (gB g tys w (va_A (w S) H.size)) (va_A (w S) H.size)) 0 0 (va_A (w S) H.size)) (cw : CallB R s args own index y bytes maxL ret ws rm 0 0 nA ∧ (Cond.static y).before args s = true) (hn : As.length = nA) (hsize : ls.size = nL) (hst : st0 = As.reverse ++ rest) (hW : (rest.map fun v => v.category).sum ≤ 8) (hdg : decode cc pc = .ok (.invokestatic index, 3)) (hcs : cells ≤ R.cells ∧ slots ≤ R.slots)
    (kk : ∀ (S' : St) (H1 : Heap) (locs1 : List Loc), Q S' → va_P g vwCl (w S') H1 → va_D A (w S') → va_S A s.heap H1 locs1 → W p l e R s m args below meth c H1 locs1 cells slots QQ (F0 m (pc + 3) ls rest)) : W p l e R s m args below meth c H locs cells slots QQ (F0 m pc ls st0) := by
  subst hst
  have hFc := g_free hD hS hA
  refine va_callv (va_runS (As := As) (rest := rest) C hM cw ⟨gPc_blind, fun U hU hW => gPc_at hU hW hP hK hD hN⟩ rfl hn hsize rfl (lv_room hW) hdg ⟨hcs.1, hcs.2⟩) hS (fun q _ h => hFc q h) hFc (fun u t H1 locs ht hvm hw hB hz1 hk1 hS => ?_)
  obtain ⟨hP1, hK1, hD1⟩ := hB
  rw [ht] at hP1
  exact kk u H1 locs hw hP1 (hD1.weaken (fun k q _ h => hFc q.1 h)) hS
end GC
/-! methods behind which the row of outcomes may have grown, from n0 to n2 places -/
def gBg (g : va_G) (ct : Nat → ClassId) (ad : Nat → Nat) (n : Nat) (A : Nat → Prop) : St → State → Prop := fun S t => ∃ ro : Nat, gB g (xT ct) (wX ct ad n ro) A S t
section GG
variable {l : Launch} {y : MethodName} {ws ws' : List Cond} {rm : Room} {cc : ByteArray} {maxL : Nat} {own : String} {av : List Value} {lv : List (Nat × Value)} {g : va_G} {ct : Nat → ClassId} {ad : Nat → Nat} {n0 n2 ro : Nat} {S : St} {sz : Nat}
theorem g_metVg {Q : St → Prop} (hn : n0 ≤ n2) (hrc : rm.cells = n2 - n0) (hrs : rm.slots = 2 * (n2 - n0)) (hy : plainName y.cls = true) (hw : ws = Cond.code y cc maxL (none) :: ws') (hown : y.cls = own) (hlen : (lg_sl av).length ≤ maxL) (hlv : lv_args 0 av = lv)
    (core : ∀ (p : Program) (e : Env) (s : State) (m : MethodId) (args : Array Value) (below : List Frame) (meth : Method) (c : Code) (QQ : State → Prop) (A : Nat → Prop), CallFix p m c cc maxL s args ws own → va_K g vwCl (xT ct) s → xN s → (∀ q, s.heap.size ≤ q → A q) → (∀ (pc : Nat) (S : St) (ro : Nat) (H : Heap) (locs : List Loc) (ls : Array Slot) (cells slots : Nat), decode cc pc = .ok (.return_, 1) → Q S → va_P g vwCl (wX ct ad n2 ro S) H → va_D A (wX ct ad n2 ro S) → va_S A s.heap H locs → cells + n0 = n2 ∧ slots + 2 * n0 = 2 * n2 ∧ n2 ≤ n2 → W p l e rm s m args below meth c H locs cells slots QQ (F0 m pc ls [])) → ∀ (H : Heap) (locs : List Loc) (ls : Array Slot), va_P g vwCl (wX ct ad n0 ro S) H → va_D A (wX ct ad n0 ro S) → va_S A s.heap H locs → lv_has ls maxL lv → W p l e rm s m args below meth c H locs 0 0 QQ (F0 m 0 ls [])) :
    Met l y ws rm (gPc g (xT ct) (wX ct ad n0 ro S) sz av) (va_Qv Q (gBg g ct ad n2 (va_A (wX ct ad n0 ro S) sz)) (va_A (wX ct ad n0 ro S) sz)) (n2 - n0) (2 * (n2 - n0)) (va_A (wX ct ad n0 ro S) sz) := by
  refine Met.ofW (cc := cc) (maxL := maxL) (ret := none) hy hw ?_
  intro p e s m args below meth c s₁ B hml hv
  obtain ⟨rfl, hsz, hP, hK, hD0, hN⟩ := hv
  have hts := atoms_spec (ws := ws) B.pre
  have hown' : s.vm.findClass own = some m.cls := by rw [← hown]; exact findClass_of_methodNamed B.named
  have hr := B.returns
  have hlocks := B.notSynchronized
  subst hsz
  have hl := lv_entry av (n := maxL) hlen
  rw [lg_entry_eq]
  generalize (lg_sl av ++ List.replicate (maxL - (lg_sl av).length) Slot.unset).toArray = ls at hl ⊢
  rw [hlv] at hl
  refine core p e s m _ below meth c _ (va_A (wX ct ad n0 ro S) s.heap.size) ⟨B.exec, B.bytes, hml, hown', hts⟩ hK hN (fun q h => Or.inr h) (fun pc S' ro' H locs ls cells slots hdg hq hP hD hS hc => ?_) s.heap [] ls hP hD0.self va_S.rf hl
  have ec : cells = n2 - n0 := by omega
  have es : slots = 2 * (n2 - n0) := by omega
  subst ec
  subst es
  exact W.vret B.exec B.bytes hr (fun t ht hW => ⟨⟨S', rfl, hq, ro', by rw [ht]; exact hP, va_K.moved hW.alike hK, hD⟩, hS.F ht⟩) hS.2.2 hdg
theorem g_metIg {Q : Int32 → St → Prop} (hn : n0 ≤ n2) (hrc : rm.cells = n2 - n0) (hrs : rm.slots = 2 * (n2 - n0)) (hy : plainName y.cls = true) (hw : ws = Cond.code y cc maxL (some .int) :: ws') (hown : y.cls = own) (hlen : (lg_sl av).length ≤ maxL) (hlv : lv_args 0 av = lv)
    (core : ∀ (p : Program) (e : Env) (s : State) (m : MethodId) (args : Array Value) (below : List Frame) (meth : Method) (c : Code) (QQ : State → Prop) (A : Nat → Prop), CallFix p m c cc maxL s args ws own → va_K g vwCl (xT ct) s → xN s → (∀ q, s.heap.size ≤ q → A q) → (∀ (pc : Nat) (r : Int32) (S : St) (ro : Nat) (H : Heap) (locs : List Loc) (ls : Array Slot) (cells slots : Nat), decode cc pc = .ok (.ireturn, 1) → Q r S → va_P g vwCl (wX ct ad n2 ro S) H → va_D A (wX ct ad n2 ro S) → va_S A s.heap H locs → cells + n0 = n2 ∧ slots + 2 * n0 = 2 * n2 ∧ n2 ≤ n2 → W p l e rm s m args below meth c H locs cells slots QQ (F0 m pc ls [.int r])) → ∀ (H : Heap) (locs : List Loc) (ls : Array Slot), va_P g vwCl (wX ct ad n0 ro S) H → va_D A (wX ct ad n0 ro S) → va_S A s.heap H locs → lv_has ls maxL lv → W p l e rm s m args below meth c H locs 0 0 QQ (F0 m 0 ls [])) :
    Met l y ws rm (gPc g (xT ct) (wX ct ad n0 ro S) sz av) (va_Qi Q (gBg g ct ad n2 (va_A (wX ct ad n0 ro S) sz)) (va_A (wX ct ad n0 ro S) sz)) (n2 - n0) (2 * (n2 - n0)) (va_A (wX ct ad n0 ro S) sz) := by
  refine Met.ofW (cc := cc) (maxL := maxL) (ret := some .int) hy hw ?_
  intro p e s m args below meth c s₁ B hml hv
  obtain ⟨rfl, hsz, hP, hK, hD0, hN⟩ := hv
  have hts := atoms_spec (ws := ws) B.pre
  have hown' : s.vm.findClass own = some m.cls := by rw [← hown]; exact findClass_of_methodNamed B.named
  have hr := B.returns
  have hlocks := B.notSynchronized
  subst hsz
  have hl := lv_entry av (n := maxL) hlen
  rw [lg_entry_eq]
  generalize (lg_sl av ++ List.replicate (maxL - (lg_sl av).length) Slot.unset).toArray = ls at hl ⊢
  rw [hlv] at hl
  refine core p e s m _ below meth c _ (va_A (wX ct ad n0 ro S) s.heap.size) ⟨B.exec, B.bytes, hml, hown', hts⟩ hK hN (fun q h => Or.inr h) (fun pc r S' ro' H locs ls cells slots hdg hq hP hD hS hc => ?_) s.heap [] ls hP hD0.self va_S.rf hl
  have ec : cells = n2 - n0 := by omega
  have es : slots = 2 * (n2 - n0) := by omega
  subst ec
  subst es
  exact W.iret (v := r) B.exec B.bytes hr (fun t ht hW => ⟨⟨r, S', rfl, hq, ro', by rw [ht]; exact hP, va_K.moved hW.alike hK, hD⟩, hS.F ht⟩) hS.2.2 hdg
theorem g_metZg {Q : Int32 → St → Prop} (hn : n0 ≤ n2) (hrc : rm.cells = n2 - n0) (hrs : rm.slots = 2 * (n2 - n0)) (hy : plainName y.cls = true) (hw : ws = Cond.code y cc maxL (some .boolean) :: ws') (hown : y.cls = own) (hlen : (lg_sl av).length ≤ maxL) (hlv : lv_args 0 av = lv)
    (core : ∀ (p : Program) (e : Env) (s : State) (m : MethodId) (args : Array Value) (below : List Frame) (meth : Method) (c : Code) (QQ : State → Prop) (A : Nat → Prop), CallFix p m c cc maxL s args ws own → va_K g vwCl (xT ct) s → xN s → (∀ q, s.heap.size ≤ q → A q) → (∀ (pc : Nat) (r : Int32) (S : St) (ro : Nat) (H : Heap) (locs : List Loc) (ls : Array Slot) (cells slots : Nat), decode cc pc = .ok (.ireturn, 1) → zb r → Q r S → va_P g vwCl (wX ct ad n2 ro S) H → va_D A (wX ct ad n2 ro S) → va_S A s.heap H locs → cells + n0 = n2 ∧ slots + 2 * n0 = 2 * n2 ∧ n2 ≤ n2 → W p l e rm s m args below meth c H locs cells slots QQ (F0 m pc ls [.int r])) → ∀ (H : Heap) (locs : List Loc) (ls : Array Slot), va_P g vwCl (wX ct ad n0 ro S) H → va_D A (wX ct ad n0 ro S) → va_S A s.heap H locs → lv_has ls maxL lv → W p l e rm s m args below meth c H locs 0 0 QQ (F0 m 0 ls [])) :
    Met l y ws rm (gPc g (xT ct) (wX ct ad n0 ro S) sz av) (va_Qi Q (gBg g ct ad n2 (va_A (wX ct ad n0 ro S) sz)) (va_A (wX ct ad n0 ro S) sz)) (n2 - n0) (2 * (n2 - n0)) (va_A (wX ct ad n0 ro S) sz) := by
  refine Met.ofW (cc := cc) (maxL := maxL) (ret := some .boolean) hy hw ?_
  intro p e s m args below meth c s₁ B hml hv
  obtain ⟨rfl, hsz, hP, hK, hD0, hN⟩ := hv
  have hts := atoms_spec (ws := ws) B.pre
  have hown' : s.vm.findClass own = some m.cls := by rw [← hown]; exact findClass_of_methodNamed B.named
  have hr := B.returns
  have hlocks := B.notSynchronized
  subst hsz
  have hl := lv_entry av (n := maxL) hlen
  rw [lg_entry_eq]
  generalize (lg_sl av ++ List.replicate (maxL - (lg_sl av).length) Slot.unset).toArray = ls at hl ⊢
  rw [hlv] at hl
  refine core p e s m _ below meth c _ (va_A (wX ct ad n0 ro S) s.heap.size) ⟨B.exec, B.bytes, hml, hown', hts⟩ hK hN (fun q h => Or.inr h) (fun pc r S' ro' H locs ls cells slots hdg hz hq hP hD hS hc => ?_) s.heap [] ls hP hD0.self va_S.rf hl
  have ec : cells = n2 - n0 := by omega
  have es : slots = 2 * (n2 - n0) := by omega
  subst ec
  subst es
  exact W.zret (v := r) B.exec B.bytes hr (zb_n hz) (fun t ht hW => ⟨⟨r, S', rfl, hq, ro', by rw [ht]; exact hP, va_K.moved hW.alike hK, hD⟩, hS.F ht⟩) hS.2.2 hdg
end GG
section GGC
variable {p : Program} {l : Launch} {e : Env} {R : Room} {s : State} {m : MethodId} {args : Array Value} {below : List Frame} {meth : Method} {c : Code} {H : Heap} {locs : List Loc} {cells slots : Nat} {QQ : State → Prop} {cc : ByteArray} {nL : Nat} {own : String} {Ts : List Cond} {pc : Nat} {ls : Array Slot} {st0 rest As : List Value} {g : va_G} {ct : Nat → ClassId} {ad : Nat → Nat} {n n1 ro : Nat} {A : Nat → Prop} {S : St} {y : MethodName} {ws : List Cond} {rm : Room} {bytes : ByteArray} {maxL index nA b : Nat} {ret : Option FieldType} {Cc : String}
theorem g_callVvg {Q : St → Prop} (C : CallFix p m c cc nL s args Ts own) (hK : va_K g vwCl (xT ct) s) (hN : xN s) (hA : ∀ q, s.heap.size ≤ q → A q) (hP : va_P g vwCl (wX ct ad n ro S) H) (hD : va_D A (wX ct ad n ro S)) (hS : va_S A s.heap H locs) (hM : Met l y ws rm (gPc g (xT ct) (wX ct ad n ro S) H.size (.ref b :: As)) (va_Qv Q (gBg g ct ad n1 (va_A (wX ct ad n ro S) H.size)) (va_A (wX ct ad n ro S) H.size)) (n1 - n) (2 * (n1 - n)) (va_A (wX ct ad n ro S) H.size)) (cw : CallW R s args own Cc index y bytes maxL ret ws rm (n1 - n) (2 * (n1 - n)) nA) (hrecv : ∃ cell : Cell, H[b]? = some cell ∧ cell.vm.isStatics = false ∧ s.vm.findClass Cc = some cell.cls) (hn : As.length = nA) (hsize : ls.size = nL) (hst : st0 = As.reverse ++ .ref b :: rest) (hW : (rest.map fun v => v.category).sum ≤ 8) (hdg : decode cc pc = .ok (.invokevirtual index, 3)) (hcs : cells + (n1 - n) ≤ R.cells ∧ slots + 2 * (n1 - n) ≤ R.slots)
    (kk : ∀ (S' : St) (ro : Nat) (H1 : Heap) (locs1 : List Loc) (cells1 slots1 : Nat), cells1 = cells + (n1 - n) → slots1 = slots + 2 * (n1 - n) → Q S' → va_P g vwCl (wX ct ad n1 ro S') H1 → va_D A (wX ct ad n1 ro S') → va_S A s.heap H1 locs1 → W p l e R s m args below meth c H1 locs1 cells1 slots1 QQ (F0 m (pc + 3) ls rest)) : W p l e R s m args below meth c H locs cells slots QQ (F0 m pc ls st0) := by
  subst hst
  have hFc := g_free hD hS hA
  refine va_callv (va_runV (As := As) (rest := rest) C hM cw ⟨gPc_blind, hrecv, fun U hU hW => gPc_at hU hW hP hK hD hN⟩ rfl hn hsize rfl (lv_room hW) hdg ⟨hcs.1, hcs.2⟩) hS (fun q _ h => hFc q h) hFc (fun u t H1 locs ht hvm hw hB hz1 hk1 hS => ?_)
  obtain ⟨ro', hP1, hK1, hD1⟩ := hB
  rw [ht] at hP1
  exact kk u ro' H1 locs _ _ rfl rfl hw hP1 (hD1.weaken (fun k q _ h => hFc q.1 h)) hS
theorem g_callVig {Q : Int32 → St → Prop} (C : CallFix p m c cc nL s args Ts own) (hK : va_K g vwCl (xT ct) s) (hN : xN s) (hA : ∀ q, s.heap.size ≤ q → A q) (hP : va_P g vwCl (wX ct ad n ro S) H) (hD : va_D A (wX ct ad n ro S)) (hS : va_S A s.heap H locs) (hM : Met l y ws rm (gPc g (xT ct) (wX ct ad n ro S) H.size (.ref b :: As)) (va_Qi Q (gBg g ct ad n1 (va_A (wX ct ad n ro S) H.size)) (va_A (wX ct ad n ro S) H.size)) (n1 - n) (2 * (n1 - n)) (va_A (wX ct ad n ro S) H.size)) (cw : CallW R s args own Cc index y bytes maxL ret ws rm (n1 - n) (2 * (n1 - n)) nA) (hrecv : ∃ cell : Cell, H[b]? = some cell ∧ cell.vm.isStatics = false ∧ s.vm.findClass Cc = some cell.cls) (hn : As.length = nA) (hsize : ls.size = nL) (hst : st0 = As.reverse ++ .ref b :: rest) (hW : (rest.map fun v => v.category).sum ≤ 8) (hdg : decode cc pc = .ok (.invokevirtual index, 3)) (hcs : cells + (n1 - n) ≤ R.cells ∧ slots + 2 * (n1 - n) ≤ R.slots)
    (kk : ∀ (r : Int32) (S' : St) (ro : Nat) (H1 : Heap) (locs1 : List Loc) (cells1 slots1 : Nat), cells1 = cells + (n1 - n) → slots1 = slots + 2 * (n1 - n) → Q r S' → va_P g vwCl (wX ct ad n1 ro S') H1 → va_D A (wX ct ad n1 ro S') → va_S A s.heap H1 locs1 → W p l e R s m args below meth c H1 locs1 cells1 slots1 QQ (F0 m (pc + 3) ls (.int r :: rest))) : W p l e R s m args below meth c H locs cells slots QQ (F0 m pc ls st0) := by
  subst hst
  have hFc := g_free hD hS hA
  refine va_calli (va_runV (As := As) (rest := rest) C hM cw ⟨gPc_blind, hrecv, fun U hU hW => gPc_at hU hW hP hK hD hN⟩ rfl hn hsize rfl (lv_room hW) hdg ⟨hcs.1, hcs.2⟩) hS (fun q _ h => hFc q h) hFc (fun r u t H1 locs ht hvm hw hB hz1 hk1 hS => ?_)
  obtain ⟨ro', hP1, hK1, hD1⟩ := hB
  rw [ht] at hP1
  exact kk r u ro' H1 locs _ _ rfl rfl hw hP1 (hD1.weaken (fun k q _ h => hFc q.1 h)) hS
end GGC
abbrev TE : Type := Int32 → Int32 → Nat → Nat → St → (St → Prop) → Prop
def HE (l : Launch) (g : va_G) (ct : Nat → ClassId) (ad : Nat → Nat) (d : Nat) (E : TE) : Prop := ∀ (sz n0 n2 ro : Nat) (S : St) (x1 x2 : Int32) (Q : St → Prop), n0 ≤ n2 → E x1 x2 n0 n2 S Q → Met l yX2_extend wsX2_extend ({ frames := 10 + 2 * d, cells := n2 - n0, slots := 2 * (n2 - n0), locals := 400 + 49 * d }) (gPc g (xT ct) (wX ct ad n0 ro S) sz [.ref (ad 12), .int x1, .int x2]) (va_Qv Q (gBg g ct ad n2 (va_A (wX ct ad n0 ro S) sz)) (va_A (wX ct ad n0 ro S) sz)) (n2 - n0) (2 * (n2 - n0)) (va_A (wX ct ad n0 ro S) sz)
