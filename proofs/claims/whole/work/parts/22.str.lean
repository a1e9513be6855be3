/-! methods that read texts: what is known of the class's seven text constants and of two statics of the JDK's -/
def sLen : List Nat := [4, 4, 5, 2, 2, 3, 2]
def sByt : List (List Int32) := [[114, 120, 121, 108], [114, 120, 121, 115], [114, 114, 120, 121, 109], [102, 102], [114, 118], [114, 114, 114], [114, 110]]
def sIdx : List Nat := [76, 78, 80, 82, 84, 86, 88]
def sTx : List String := ["rxyl", "rxys", "rrxym", "ff", "rv", "rrr", "rn"]
def sCh (j k : Nat) : Int32 := (sByt.getD j []).getD k 0
def sG (ak av : Nat → Nat) (A : Nat → Prop) (U : State) (H : Heap) : Prop := vk_S 7 sLen sByt ak av A U H ∧ (∀ i : Nat, i < 7 → vk_R RX4 (sIdx.getD i 0) (sTx.getD i "") (ak i) U) ∧ va_Z "java/lang/String" "COMPACT_STRINGS" "Z" (.int 1) A U H ∧ va_Zq "jdk/internal/util/Preconditions" "SIOOBE_FORMATTER" "Ljava/util/function/BiFunction;" A U H
def sX (ak av : Nat → Nat) (B : Nat → Prop) (U : State) : Prop := sG ak av B U U.heap
theorem sX_blind {ak av : Nat → Nat} : ∀ (B : Nat → Prop) (U : State) (f : JFrame) (mk : MethodId) (a : Array Value), sX ak av B U → sX ak av B (U.calling f mk a) := by
  intro B U f mk a h
  exact ⟨vk_S.moved (u := U) (U := U.calling f mk a) (Vm.Alike.refl U.vm) h.1, fun i hi => vk_R.same (u := U) (U := U.calling f mk a) rfl (h.2.1 i hi), va_Z.moved (u := U) (U := U.calling f mk a) (Vm.Alike.refl U.vm) h.2.2.1, va_Zq.moved (u := U) (U := U.calling f mk a) (Vm.Alike.refl U.vm) h.2.2.2⟩
theorem sX_to {ak av : Nat → Nat} {A B : Nat → Prop} {s : State} {H : Heap} {locs : List Loc} (h : sG ak av A s s.heap) (hS : va_S A s.heap H locs) (hF : ∀ q, B q → A q) : ∀ U : State, U.heap = H → s.WarmedH U.vm → sX ak av B U := by
  intro U hU hW
  subst hU
  exact ⟨((h.1.kept hS.2.1).moved hW.alike).narrow hF, fun i hi => (h.2.1 i hi).warm hW, ((h.2.2.1.kept hS.2.1).moved hW.alike).narrow hF, ((h.2.2.2.kept hS.2.1).moved hW.alike).narrow hF⟩
def gPcX (g : va_G) (tys : List (ClassId × FieldType)) (ws : va_W) (sz : Nat) (X : (Nat → Prop) → State → Prop) (av : List Value) : Array Value → State → Prop := va_Pc av (fun U => U.heap.size = sz ∧ va_P g vwCl ws U.heap ∧ va_K g vwCl tys U ∧ va_D (fun _ => True) ws ∧ xN U ∧ X (va_A ws sz) U)
theorem gPcX_blind {g : va_G} {tys : List (ClassId × FieldType)} {ws : va_W} {sz : Nat} {X : (Nat → Prop) → State → Prop} {av : List Value} (hXb : ∀ (B : Nat → Prop) (U : State) (f : JFrame) (mk : MethodId) (a : Array Value), X B U → X B (U.calling f mk a)) : FrameBlind (gPcX g tys ws sz X av) := fun a U f mk q => by
  obtain ⟨q0, q1, qP, qK, qD, qN, qX⟩ := q
  exact ⟨q0, q1, qP, va_K.moved (u := U) (U := U.calling f mk a) (Vm.Alike.refl U.vm) qK, qD, xN.same (u := U) (U := U.calling f mk a) rfl qN, hXb _ U f mk a qX⟩
theorem gPcX_at {g : va_G} {tys : List (ClassId × FieldType)} {ws : va_W} {X : (Nat → Prop) → State → Prop} {av : List Value} {A : Nat → Prop} {s U : State} {H : Heap} (hU : U.heap = H) (hW : s.WarmedH U.vm) (hP : va_P g vwCl ws H) (hK : va_K g vwCl tys s) (hD : va_D A ws) (hN : xN s) (hX : X (va_A ws H.size) U) : gPcX g tys ws H.size X av av.toArray U :=
  ⟨rfl, by rw [hU], by rw [hU]; exact hP, va_K.moved hW.alike hK, hD.weaken (fun _ _ _ _ => trivial), hN.warm hW, hX⟩
section GMX
variable {l : Launch} {y : MethodName} {ws ws' : List Cond} {rm : Room} {cc : ByteArray} {maxL : Nat} {own : String} {av : List Value} {lv : List (Nat × Value)} {g : va_G} {tys : List (ClassId × FieldType)} {w : St → va_W} {S : St} {sz : Nat} {X : (Nat → Prop) → State → Prop}
theorem g_metNX {Q : Int32 → St → Prop} {ty : FieldType} (hy : plainName y.cls = true) (hw : ws = Cond.code y cc maxL (some ty) :: ws') (hown : y.cls = own) (hlen : (lg_sl av).length ≤ maxL) (hlv : lv_args 0 av = lv)
    (core : ∀ (p : Program) (e : Env) (s : State) (m : MethodId) (args : Array Value) (below : List Frame) (meth : Method) (c : Code) (QQ : State → Prop) (A : Nat → Prop), CallFix p m c cc maxL s args ws own → va_K g vwCl tys s → xN s → X A s → (∀ q, s.heap.size ≤ q → A q) → (∀ (pc : Nat) (r : Int32) (S : St) (H : Heap) (locs : List Loc) (ls : Array Slot), decode cc pc = .ok (.ireturn, 1) → narrow ty (.int r) = .int r → Q r S → va_P g vwCl (w S) H → va_D A (w S) → va_S A s.heap H locs → W p l e rm s m args below meth c H locs 0 0 QQ (F0 m pc ls [.int r])) → ∀ (H : Heap) (locs : List Loc) (ls : Array Slot), va_P g vwCl (w S) H → va_D A (w S) → va_S A s.heap H locs → lv_has ls maxL lv → W p l e rm s m args below meth c H locs 0 0 QQ (F0 m 0 ls [])) :
    Met l y ws rm (gPcX g tys (w S) sz X av) (va_Qi Q (gB g tys w (va_A (w S) sz)) (va_A (w S) sz)) 0 0 (va_A (w S) sz) := by
  refine Met.ofW (cc := cc) (maxL := maxL) (ret := some ty) hy hw ?_
  intro p e s m args below meth c s₁ B hml hv
  obtain ⟨rfl, hsz, hP, hK, hD0, hN, hX⟩ := hv
  have hts := atoms_spec (ws := ws) B.pre
  have hown' : s.vm.findClass own = some m.cls := by rw [← hown]; exact findClass_of_methodNamed B.named
  have hr := B.returns
  have hlocks := B.notSynchronized
  subst hsz
  have hl := lv_entry av (n := maxL) hlen
  rw [lg_entry_eq]
  generalize (lg_sl av ++ List.replicate (maxL - (lg_sl av).length) Slot.unset).toArray = ls at hl ⊢
  rw [hlv] at hl
  refine core p e s m _ below meth c _ (va_A (w S) s.heap.size) ⟨B.exec, B.bytes, hml, hown', hts⟩ hK hN hX (fun q h => Or.inr h) (fun pc r S' H locs ls hdg hz hq hP hD hS => ?_) s.heap [] ls hP hD0.self va_S.rf hl
  exact W.zret (v := r) B.exec B.bytes hr hz (fun t ht hW => ⟨⟨r, S', rfl, hq, by rw [ht]; exact hP, va_K.moved hW.alike hK, hD⟩, hS.F ht⟩) hS.2.2 hdg
theorem g_metVX {Q : St → Prop} (hy : plainName y.cls = true) (hw : ws = Cond.code y cc maxL (none) :: ws') (hown : y.cls = own) (hlen : (lg_sl av).length ≤ maxL) (hlv : lv_args 0 av = lv)
    (core : ∀ (p : Program) (e : Env) (s : State) (m : MethodId) (args : Array Value) (below : List Frame) (meth : Method) (c : Code) (QQ : State → Prop) (A : Nat → Prop), CallFix p m c cc maxL s args ws own → va_K g vwCl tys s → xN s → X A s → (∀ q, s.heap.size ≤ q → A q) → (∀ (pc : Nat) (S : St) (H : Heap) (locs : List Loc) (ls : Array Slot), decode cc pc = .ok (.return_, 1) → Q S → va_P g vwCl (w S) H → va_D A (w S) → va_S A s.heap H locs → W p l e rm s m args below meth c H locs 0 0 QQ (F0 m pc ls [])) → ∀ (H : Heap) (locs : List Loc) (ls : Array Slot), va_P g vwCl (w S) H → va_D A (w S) → va_S A s.heap H locs → lv_has ls maxL lv → W p l e rm s m args below meth c H locs 0 0 QQ (F0 m 0 ls [])) :
    Met l y ws rm (gPcX g tys (w S) sz X av) (va_Qv Q (gB g tys w (va_A (w S) sz)) (va_A (w S) sz)) 0 0 (va_A (w S) sz) := by
  refine Met.ofW (cc := cc) (maxL := maxL) (ret := none) hy hw ?_
  intro p e s m args below meth c s₁ B hml hv
  obtain ⟨rfl, hsz, hP, hK, hD0, hN, hX⟩ := hv
  have hts := atoms_spec (ws := ws) B.pre
  have hown' : s.vm.findClass own = some m.cls := by rw [← hown]; exact findClass_of_methodNamed B.named
  have hr := B.returns
  have hlocks := B.notSynchronized
  subst hsz
  have hl := lv_entry av (n := maxL) hlen
  rw [lg_entry_eq]
  generalize (lg_sl av ++ List.replicate (maxL - (lg_sl av).length) Slot.unset).toArray = ls at hl ⊢
  rw [hlv] at hl
  refine core p e s m _ below meth c _ (va_A (w S) s.heap.size) ⟨B.exec, B.bytes, hml, hown', hts⟩ hK hN hX (fun q h => Or.inr h) (fun pc S' H locs ls hdg hq hP hD hS => ?_) s.heap [] ls hP hD0.self va_S.rf hl
  exact W.vret B.exec B.bytes hr (fun t ht hW => ⟨⟨S', rfl, hq, by rw [ht]; exact hP, va_K.moved hW.alike hK, hD⟩, hS.F ht⟩) hS.2.2 hdg
theorem g_metRX {Q : Nat → St → Prop} {rt : FieldType} {ad : Nat → Nat} (bd : Nat) (hrt : (∃ n, rt = .object n) ∨ ∃ t, rt = .array t) (hy : plainName y.cls = true) (hw : ws = Cond.code y cc maxL (some rt) :: ws') (hown : y.cls = own) (hlen : (lg_sl av).length ≤ maxL) (hlv : lv_args 0 av = lv)
    (core : ∀ (p : Program) (e : Env) (s : State) (m : MethodId) (args : Array Value) (below : List Frame) (meth : Method) (c : Code) (QQ : State → Prop) (A : Nat → Prop), CallFix p m c cc maxL s args ws own → va_K g vwCl tys s → xN s → X A s → (∀ q, s.heap.size ≤ q → A q) → (∀ (pc : Nat) (r : Nat) (S : St) (H : Heap) (locs : List Loc) (ls : Array Slot), decode cc pc = .ok (.areturn, 1) → r < bd → Q r S → va_P g vwCl (w S) H → va_D A (w S) → va_S A s.heap H locs → W p l e rm s m args below meth c H locs 0 0 QQ (F0 m pc ls [.ref (ad r)])) → ∀ (H : Heap) (locs : List Loc) (ls : Array Slot), va_P g vwCl (w S) H → va_D A (w S) → va_S A s.heap H locs → lv_has ls maxL lv → W p l e rm s m args below meth c H locs 0 0 QQ (F0 m 0 ls [])) :
    Met l y ws rm (gPcX g tys (w S) sz X av) (va_Qr (fun u : Nat × St => u.1 < bd ∧ Q u.1 u.2) (fun u a t => a = ad u.1 ∧ gB g tys w (va_A (w S) sz) u.2 t) (va_A (w S) sz)) 0 0 (va_A (w S) sz) := by
  refine Met.ofW (cc := cc) (maxL := maxL) (ret := some rt) hy hw ?_
  intro p e s m args below meth c s₁ B hml hv
  obtain ⟨rfl, hsz, hP, hK, hD0, hN, hX⟩ := hv
  have hts := atoms_spec (ws := ws) B.pre
  have hown' : s.vm.findClass own = some m.cls := by rw [← hown]; exact findClass_of_methodNamed B.named
  have hr := B.returns
  have hlocks := B.notSynchronized
  subst hsz
  have hl := lv_entry av (n := maxL) hlen
  rw [lg_entry_eq]
  generalize (lg_sl av ++ List.replicate (maxL - (lg_sl av).length) Slot.unset).toArray = ls at hl ⊢
  rw [hlv] at hl
  refine core p e s m _ below meth c _ (va_A (w S) s.heap.size) ⟨B.exec, B.bytes, hml, hown', hts⟩ hK hN hX (fun q h => Or.inr h) (fun pc r S' H locs ls hdg hb hq hP hD hS => ?_) s.heap [] ls hP hD0.self va_S.rf hl
  exact W.aret (v := .ref (ad r)) B.exec B.bytes hr hrt (Or.inr ⟨_, rfl⟩) (fun t ht hW => ⟨⟨(r, S'), ad r, rfl, ⟨hb, hq⟩, rfl, by rw [ht]; exact hP, va_K.moved hW.alike hK, hD⟩, hS.F ht⟩) hS.2.2 hdg
end GMX
section GCX
variable {p : Program} {l : Launch} {e : Env} {R : Room} {s : State} {m : MethodId} {args : Array Value} {below : List Frame} {meth : Method} {c : Code} {H : Heap} {locs : List Loc} {cells slots : Nat} {QQ : State → Prop} {cc : ByteArray} {nL : Nat} {own : String} {Ts : List Cond} {pc : Nat} {ls : Array Slot} {st0 rest As : List Value} {g : va_G} {tys : List (ClassId × FieldType)} {w : St → va_W} {A : Nat → Prop} {S : St} {y : MethodName} {ws : List Cond} {rm : Room} {bytes : ByteArray} {maxL index nA b : Nat} {ret : Option FieldType} {Cc : String} {X : (Nat → Prop) → State → Prop}
theorem g_callViX {Q : Int32 → St → Prop} (C : CallFix p m c cc nL s args Ts own) (hK : va_K g vwCl tys s) (hN : xN s) (hA : ∀ q, s.heap.size ≤ q → A q) (hP : va_P g vwCl (w S) H) (hD : va_D A (w S)) (hS : va_S A s.heap H locs) (hM : Met l y ws rm (gPcX g tys (w S) H.size X (.ref b :: As)) (va_Qi Q (gB g tys w (va_A (w S) H.size)) (va_A (w S) H.size)) 0 0 (va_A (w S) H.size)) (hXb : ∀ (B : Nat → Prop) (U : State) (f : JFrame) (mk : MethodId) (a : Array Value), X B U → X B (U.calling f mk a)) (hX : ∀ U : State, U.heap = H → s.WarmedH U.vm → X (va_A (w S) H.size) U) (cw : CallW R s args own Cc index y bytes maxL ret ws rm 0 0 nA) (hrecv : ∃ cell : Cell, H[b]? = some cell ∧ cell.vm.isStatics = false ∧ s.vm.findClass Cc = some cell.cls) (hn : As.length = nA) (hsize : ls.size = nL) (hst : st0 = As.reverse ++ .ref b :: rest) (hW : (rest.map fun v => v.category).sum ≤ 8) (hdg : decode cc pc = .ok (.invokevirtual index, 3)) (hcs : cells ≤ R.cells ∧ slots ≤ R.slots)
    (kk : ∀ (r : Int32) (S' : St) (H1 : Heap) (locs1 : List Loc), Q r S' → va_P g vwCl (w S') H1 → va_D A (w S') → va_S A s.heap H1 locs1 → W p l e R s m args below meth c H1 locs1 cells slots QQ (F0 m (pc + 3) ls (.int r :: rest))) : W p l e R s m args below meth c H locs cells slots QQ (F0 m pc ls st0) := by
  subst hst
  have hFc := g_free hD hS hA
  refine va_calli (va_runV (As := As) (rest := rest) C hM cw ⟨gPcX_blind hXb, hrecv, fun U hU hW => gPcX_at hU hW hP hK hD hN (hX U hU hW)⟩ rfl hn hsize rfl (lv_room hW) hdg ⟨hcs.1, hcs.2⟩) hS (fun q _ h => hFc q h) hFc (fun r u t H1 locs ht hvm hw hB hz1 hk1 hS => ?_)
  obtain ⟨hP1, hK1, hD1⟩ := hB
  rw [ht] at hP1
  exact kk r u H1 locs hw hP1 (hD1.weaken (fun k q _ h => hFc q.1 h)) hS
theorem g_callVvX {Q : St → Prop} (C : CallFix p m c cc nL s args Ts own) (hK : va_K g vwCl tys s) (hN : xN s) (hA : ∀ q, s.heap.size ≤ q → A q) (hP : va_P g vwCl (w S) H) (hD : va_D A (w S)) (hS : va_S A s.heap H locs) (hM : Met l y ws rm (gPcX g tys (w S) H.size X (.ref b :: As)) (va_Qv Q (gB g tys w (va_A (w S) H.size)) (va_A (w S) H.size)) 0 0 (va_A (w S) H.size)) (hXb : ∀ (B : Nat → Prop) (U : State) (f : JFrame) (mk : MethodId) (a : Array Value), X B U → X B (U.calling f mk a)) (hX : ∀ U : State, U.heap = H → s.WarmedH U.vm → X (va_A (w S) H.size) U) (cw : CallW R s args own Cc index y bytes maxL ret ws rm 0 0 nA) (hrecv : ∃ cell : Cell, H[b]? = some cell ∧ cell.vm.isStatics = false ∧ s.vm.findClass Cc = some cell.cls) (hn : As.length = nA) (hsize : ls.size = nL) (hst : st0 = As.reverse ++ .ref b :: rest) (hW : (rest.map fun v => v.category).sum ≤ 8) (hdg : decode cc pc = .ok (.invokevirtual index, 3)) (hcs : cells ≤ R.cells ∧ slots ≤ R.slots)
    (kk : ∀ (S' : St) (H1 : Heap) (locs1 : List Loc), Q S' → va_P g vwCl (w S') H1 → va_D A (w S') → va_S A s.heap H1 locs1 → W p l e R s m args below meth c H1 locs1 cells slots QQ (F0 m (pc + 3) ls rest)) : W p l e R s m args below meth c H locs cells slots QQ (F0 m pc ls st0) := by
  subst hst
  have hFc := g_free hD hS hA
  refine va_callv (va_runV (As := As) (rest := rest) C hM cw ⟨gPcX_blind hXb, hrecv, fun U hU hW => gPcX_at hU hW hP hK hD hN (hX U hU hW)⟩ rfl hn hsize rfl (lv_room hW) hdg ⟨hcs.1, hcs.2⟩) hS (fun q _ h => hFc q h) hFc (fun u t H1 locs ht hvm hw hB hz1 hk1 hS => ?_)
  obtain ⟨hP1, hK1, hD1⟩ := hB
  rw [ht] at hP1
  exact kk u H1 locs hw hP1 (hD1.weaken (fun k q _ h => hFc q.1 h)) hS
theorem g_callPViX {Q : Int32 → Prop} (C : CallFix p m c cc nL s args Ts own) (hK : va_K g vwCl tys s) (hN : xN s) (hA : ∀ q, s.heap.size ≤ q → A q) (hP : va_P g vwCl (w S) H) (hD : va_D A (w S)) (hS : va_S A s.heap H locs) (hM : Met l y ws rm (gPcX g tys (w0 S) H.size X (.ref b :: As)) (va_Qi (fun r _ => Q r) (gB g tys w0 (va_A (w0 S) H.size)) (va_A (w0 S) H.size)) 0 0 (va_A (w0 S) H.size)) (hXb : ∀ (B : Nat → Prop) (U : State) (f : JFrame) (mk : MethodId) (a : Array Value), X B U → X B (U.calling f mk a)) (hX : ∀ U : State, U.heap = H → s.WarmedH U.vm → X (va_A (w0 S) H.size) U) (cw : CallW R s args own Cc index y bytes maxL ret ws rm 0 0 nA) (hrecv : ∃ cell : Cell, H[b]? = some cell ∧ cell.vm.isStatics = false ∧ s.vm.findClass Cc = some cell.cls) (hn : As.length = nA) (hsize : ls.size = nL) (hst : st0 = As.reverse ++ .ref b :: rest) (hW : (rest.map fun v => v.category).sum ≤ 8) (hdg : decode cc pc = .ok (.invokevirtual index, 3)) (hcs : cells ≤ R.cells ∧ slots ≤ R.slots)
    (kk : ∀ (r : Int32) (H1 : Heap) (locs1 : List Loc), Q r → va_P g vwCl (w S) H1 → va_D A (w S) → va_S A s.heap H1 locs1 → W p l e R s m args below meth c H1 locs1 cells slots QQ (F0 m (pc + 3) ls (.int r :: rest))) : W p l e R s m args below meth c H locs cells slots QQ (F0 m pc ls st0) := by
  subst hst
  have hFc : ∀ q, va_A (w0 S) H.size q → A q := g_free w0_D hS hA
  refine va_calli (va_runV (As := As) (rest := rest) C hM cw ⟨gPcX_blind hXb, hrecv, fun U hU hW => gPcX_at hU hW w0_P hK (w0_D (B := A)) hN (hX U hU hW)⟩ rfl hn hsize rfl (lv_room hW) hdg ⟨hcs.1, hcs.2⟩) hS (fun q _ h => hFc q h) hFc (fun r u t H1 locs ht hvm hw hB hz1 hk1 hS => ?_)
  exact kk r H1 locs hw (g_kept hP hk1) hD hS
theorem g_callSiX {Q : Int32 → Prop} (C : CallFix p m c cc nL s args Ts own) (hK : va_K g vwCl tys s) (hN : xN s) (hA : ∀ q, s.heap.size ≤ q → A q) (hP : va_P g vwCl (w S) H) (hD : va_D A (w S)) (hS : va_S A s.heap H locs) (hM : Met l y ws rm (gPcX g tys (w0 S) H.size X As) (va_Qi (fun r _ => Q r) (gB g tys w0 (va_A (w0 S) H.size)) (va_A (w0 S) H.size)) 0 0 (va_A (w0 S) H.size)) (hXb : ∀ (B : Nat → Prop) (U : State) (f : JFrame) (mk : MethodId) (a : Array Value), X B U → X B (U.calling f mk a)) (hX : ∀ U : State, U.heap = H → s.WarmedH U.vm → X (va_A (w0 S) H.size) U) (cw : CallB R s args own index y bytes maxL ret ws rm 0 0 nA ∧ (Cond.static y).before args s = true) (hn : As.length = nA) (hsize : ls.size = nL) (hst : st0 = As.reverse ++ rest) (hW : (rest.map fun v => v.category).sum ≤ 8) (hdg : decode cc pc = .ok (.invokestatic index, 3)) (hcs : cells ≤ R.cells ∧ slots ≤ R.slots)
    (kk : ∀ (r : Int32) (H1 : Heap) (locs1 : List Loc), Q r → va_P g vwCl (w S) H1 → va_D A (w S) → va_S A s.heap H1 locs1 → W p l e R s m args below meth c H1 locs1 cells slots QQ (F0 m (pc + 3) ls (.int r :: rest))) : W p l e R s m args below meth c H locs cells slots QQ (F0 m pc ls st0) := by
  subst hst
  have hFc : ∀ q, va_A (w0 S) H.size q → A q := g_free w0_D hS hA
  refine va_calli (va_runS (As := As) (rest := rest) C hM cw ⟨gPcX_blind hXb, fun U hU hW => gPcX_at hU hW w0_P hK (w0_D (B := A)) hN (hX U hU hW)⟩ rfl hn hsize rfl (lv_room hW) hdg ⟨hcs.1, hcs.2⟩) hS (fun q _ h => hFc q h) hFc (fun r u t H1 locs ht hvm hw hB hz1 hk1 hS => ?_)
  exact kk r H1 locs hw (g_kept hP hk1) hD hS
theorem g_callSvX {Q : Prop} (C : CallFix p m c cc nL s args Ts own) (hK : va_K g vwCl tys s) (hN : xN s) (hA : ∀ q, s.heap.size ≤ q → A q) (hP : va_P g vwCl (w S) H) (hD : va_D A (w S)) (hS : va_S A s.heap H locs) (hM : Met l y ws rm (gPcX g tys (w0 S) H.size X As) (va_Qv (fun _ => Q) (gB g tys w0 (va_A (w0 S) H.size)) (va_A (w0 S) H.size)) 0 0 (va_A (w0 S) H.size)) (hXb : ∀ (B : Nat → Prop) (U : State) (f : JFrame) (mk : MethodId) (a : Array Value), X B U → X B (U.calling f mk a)) (hX : ∀ U : State, U.heap = H → s.WarmedH U.vm → X (va_A (w0 S) H.size) U) (cw : CallB R s args own index y bytes maxL ret ws rm 0 0 nA ∧ (Cond.static y).before args s = true) (hn : As.length = nA) (hsize : ls.size = nL) (hst : st0 = As.reverse ++ rest) (hW : (rest.map fun v => v.category).sum ≤ 8) (hdg : decode cc pc = .ok (.invokestatic index, 3)) (hcs : cells ≤ R.cells ∧ slots ≤ R.slots)
    (kk : ∀ (H1 : Heap) (locs1 : List Loc), Q → va_P g vwCl (w S) H1 → va_D A (w S) → va_S A s.heap H1 locs1 → W p l e R s m args below meth c H1 locs1 cells slots QQ (F0 m (pc + 3) ls rest)) : W p l e R s m args below meth c H locs cells slots QQ (F0 m pc ls st0) := by
  subst hst
  have hFc : ∀ q, va_A (w0 S) H.size q → A q := g_free w0_D hS hA
  refine va_callv (va_runS (As := As) (rest := rest) C hM cw ⟨gPcX_blind hXb, fun U hU hW => gPcX_at hU hW w0_P hK (w0_D (B := A)) hN (hX U hU hW)⟩ rfl hn hsize rfl (lv_room hW) hdg ⟨hcs.1, hcs.2⟩) hS (fun q _ h => hFc q h) hFc (fun u t H1 locs ht hvm hw hB hz1 hk1 hS => ?_)
  exact kk H1 locs hw (g_kept hP hk1) hD hS
theorem g_callSrX {Q : Nat → Prop} {bd : Nat} {ad : Nat → Nat} (C : CallFix p m c cc nL s args Ts own) (hK : va_K g vwCl tys s) (hN : xN s) (hA : ∀ q, s.heap.size ≤ q → A q) (hP : va_P g vwCl (w S) H) (hD : va_D A (w S)) (hS : va_S A s.heap H locs) (hM : Met l y ws rm (gPcX g tys (w0 S) H.size X As) (va_Qr (fun u : Nat × St => u.1 < bd ∧ Q u.1) (fun u a t => a = ad u.1 ∧ gB g tys w0 (va_A (w0 S) H.size) u.2 t) (va_A (w0 S) H.size)) 0 0 (va_A (w0 S) H.size)) (hXb : ∀ (B : Nat → Prop) (U : State) (f : JFrame) (mk : MethodId) (a : Array Value), X B U → X B (U.calling f mk a)) (hX : ∀ U : State, U.heap = H → s.WarmedH U.vm → X (va_A (w0 S) H.size) U) (cw : CallB R s args own index y bytes maxL ret ws rm 0 0 nA ∧ (Cond.static y).before args s = true) (hn : As.length = nA) (hsize : ls.size = nL) (hst : st0 = As.reverse ++ rest) (hW : (rest.map fun v => v.category).sum ≤ 8) (hdg : decode cc pc = .ok (.invokestatic index, 3)) (hcs : cells ≤ R.cells ∧ slots ≤ R.slots)
    (kk : ∀ (r : Nat) (H1 : Heap) (locs1 : List Loc), r < bd → Q r → va_P g vwCl (w S) H1 → va_D A (w S) → va_S A s.heap H1 locs1 → W p l e R s m args below meth c H1 locs1 cells slots QQ (F0 m (pc + 3) ls (.ref (ad r) :: rest))) : W p l e R s m args below meth c H locs cells slots QQ (F0 m pc ls st0) := by
  subst hst
  have hFc : ∀ q, va_A (w0 S) H.size q → A q := g_free w0_D hS hA
  refine va_callr (va_runS (As := As) (rest := rest) C hM cw ⟨gPcX_blind hXb, fun U hU hW => gPcX_at hU hW w0_P hK (w0_D (B := A)) hN (hX U hU hW)⟩ rfl hn hsize rfl (lv_room hW) hdg ⟨hcs.1, hcs.2⟩) hS (fun q _ h => hFc q h) hFc (fun u ra t H1 locs ht hvm hw hB hz1 hk1 hS => ?_)
  obtain ⟨hra, -⟩ := hB
  subst hra
  exact kk u.1 H1 locs hw.1 hw.2 (g_kept hP hk1) hD hS
end GCX
theorem sCh_ok : ∀ j, j < 7 → ∀ k, k < sLen.getD j 0 → (((sCh j k &&& 255).toUInt32 % 65536).toInt32 = sCh j k ∧ narrow .char (.int (sCh j k)) = .int (sCh j k)) := by decide +kernel
set_option maxHeartbeats 4000000 in
set_option maxRecDepth 100000 in
theorem m_coder (l : Launch) (g : va_G) (tys : List (ClassId × FieldType)) (ak av : Nat → Nat) (S : St) (sz : Nat) (j : Nat) (hj : j < 7) : Met l yJ0_coder_7d493 wsJ0_coder_7d493 ({ frames := 0, cells := 0, slots := 0, locals := 0 }) (gPcX g tys (w0 S) sz (sX ak av) [.ref (ak j)]) (va_Qi (fun r _ => r = 0) (gB g tys w0 (va_A (w0 S) sz)) (va_A (w0 S) sz)) 0 0 (va_A (w0 S) sz) := by
  refine g_metNX (w := w0) (Q := fun r _ => r = 0) (cc := cJ0_coder_7d493) (maxL := 1) (by decide) rfl rfl (Nat.le_of_ble_eq_true rfl) rfl (fun p e s m args below meth c QQ A C hK hN hG hA hret H locs ls hP hD hS hl => ?_)
  have hG : sG ak av A s s.heap := hG
  refine va_gets C.1 C.2.1 hG.2.2.1 hS C.2.2.2.1 (C.2.2.2.2 (.fieldLink RJ0 38 "java/lang/String" "COMPACT_STRINGS" "Z") (by decide +kernel)) (fun _ h9 => h9) dJ0_coder_7d493_0 ?_
  refine lv_if_eq (tgt := 13) C.1 C.2.1 dJ0_coder_7d493_3 (by decide) (fun h1 => absurd h1 (by decide)) (fun _ => ?_)
  refine lv_aload_n C.1 C.2.1 dJ0_coder_7d493_6 rfl (lv_at hl 0 rfl) ?_
  refine vk_getf C.1 C.2.1 (hG.1.1 j hj).2.1 hS C.2.2.2.1 (C.2.2.2.2 (.fieldLink RJ0 15 "java/lang/String" "coder" "B") (by decide +kernel)) (fun _ h9 => h9) dJ0_coder_7d493_7 ?_
  refine lv_goto (tgt := 14) C.1 C.2.1 dJ0_coder_7d493_10 (by decide) ?_
  exact hret _ _ S _ _ _ dJ0_coder_7d493_14 rfl rfl hP hD hS
set_option maxHeartbeats 4000000 in
set_option maxRecDepth 100000 in
theorem m_isLatin1 (l : Launch) (g : va_G) (tys : List (ClassId × FieldType)) (ak av : Nat → Nat) (S : St) (sz : Nat) (j : Nat) (hj : j < 7) : Met l yJ0_isLatin1_aae02 wsJ0_isLatin1_aae02 ({ frames := 0, cells := 0, slots := 0, locals := 0 }) (gPcX g tys (w0 S) sz (sX ak av) [.ref (ak j)]) (va_Qi (fun r _ => r = 1) (gB g tys w0 (va_A (w0 S) sz)) (va_A (w0 S) sz)) 0 0 (va_A (w0 S) sz) := by
  refine g_metNX (w := w0) (Q := fun r _ => r = 1) (cc := cJ0_isLatin1_aae02) (maxL := 1) (by decide) rfl rfl (Nat.le_of_ble_eq_true rfl) rfl (fun p e s m args below meth c QQ A C hK hN hG hA hret H locs ls hP hD hS hl => ?_)
  have hG : sG ak av A s s.heap := hG
  refine va_gets C.1 C.2.1 hG.2.2.1 hS C.2.2.2.1 (C.2.2.2.2 (.fieldLink RJ0 38 "java/lang/String" "COMPACT_STRINGS" "Z") (by decide +kernel)) (fun _ h9 => h9) dJ0_isLatin1_aae02_0 ?_
  refine lv_if_eq (tgt := 17) C.1 C.2.1 dJ0_isLatin1_aae02_3 (by decide) (fun h1 => absurd h1 (by decide)) (fun _ => ?_)
  refine lv_aload_n C.1 C.2.1 dJ0_isLatin1_aae02_6 rfl (lv_at hl 0 rfl) ?_
  refine vk_getf C.1 C.2.1 (hG.1.1 j hj).2.1 hS C.2.2.2.1 (C.2.2.2.2 (.fieldLink RJ0 15 "java/lang/String" "coder" "B") (by decide +kernel)) (fun _ h9 => h9) dJ0_isLatin1_aae02_7 ?_
  refine lv_if_ne (tgt := 17) C.1 C.2.1 dJ0_isLatin1_aae02_10 (by decide) (fun h1 => absurd rfl h1) (fun _ => ?_)
  refine lv_iconst (v := 1) C.1 C.2.1 dJ0_isLatin1_aae02_13 (by decide) ?_
  refine lv_goto (tgt := 18) C.1 C.2.1 dJ0_isLatin1_aae02_14 (by decide) ?_
  exact hret _ _ S _ _ _ dJ0_isLatin1_aae02_18 rfl rfl hP hD hS
set_option maxHeartbeats 4000000 in
set_option maxRecDepth 100000 in
theorem m_length (l : Launch) (g : va_G) (tys : List (ClassId × FieldType)) (ak av : Nat → Nat) (S : St) (sz : Nat) (j : Nat) (hj : j < 7) : Met l yJ0_length_8abf5 wsJ0_length_8abf5 ({ frames := 1, cells := 0, slots := 0, locals := 20 }) (gPcX g tys (w0 S) sz (sX ak av) [.ref (ak j)]) (va_Qi (fun r _ => r = nI (sLen.getD j 0)) (gB g tys w0 (va_A (w0 S) sz)) (va_A (w0 S) sz)) 0 0 (va_A (w0 S) sz) := by
  refine g_metNX (w := w0) (Q := fun r _ => r = nI (sLen.getD j 0)) (cc := cJ0_length_8abf5) (maxL := 1) (by decide) rfl rfl (Nat.le_of_ble_eq_true rfl) rfl (fun p e s m args below meth c QQ A C hK hN hG hA hret H locs ls hP hD hS hl => ?_)
  have hG : sG ak av A s s.heap := hG
  refine lv_aload_n C.1 C.2.1 dJ0_length_8abf5_0 rfl (lv_at hl 0 rfl) ?_
  refine vk_getf C.1 C.2.1 (hG.1.1 j hj).2.2.1 hS C.2.2.2.1 (C.2.2.2.2 (.fieldLink RJ0 9 "java/lang/String" "value" "[B") (by decide +kernel)) (fun _ h9 => h9) dJ0_length_8abf5_1 ?_
  refine va_tlen C.1 C.2.1 (hG.1.1 j hj).2.2.2 hS (v := nI (sLen.getD j 0)) rfl dJ0_length_8abf5_4 ?_
  refine lv_aload_n C.1 C.2.1 dJ0_length_8abf5_5 rfl (lv_at hl 0 rfl) ?_
  have hFc : ∀ q, va_A (w0 S) H.size q → A q := g_free w0_D hS hA
  refine g_callPViX (w := w0) C hK hN hA hP hD hS (m_coder l g tys ak av S H.size j hj) sX_blind (sX_to hG hS hFc) (cwV 0 C.2.2.2.2 gJ0_length_8abf5_J0_coder_7d493 rfl rfl rfl (by decide +kernel) ⟨Nat.le_of_ble_eq_true rfl, Nat.le_of_ble_eq_true rfl⟩) (vk_recv hG.1 hj hS) rfl hl.1 rfl (Nat.le_of_ble_eq_true rfl) dJ0_length_8abf5_6 ⟨Nat.zero_le _, Nat.zero_le _⟩ (fun r H locs hr hP hD hS => ?_)
  refine lv_ishr C.1 C.2.1 dJ0_length_8abf5_9 ?_
  have e : nI (sLen.getD j 0) >>> (r &&& 31) = nI (sLen.getD j 0) := by rw [hr]; exact sb_shr0 _
  rw [e]
  exact hret _ _ S _ _ _ dJ0_length_8abf5_10 rfl rfl hP hD hS
set_option maxHeartbeats 4000000 in
set_option maxRecDepth 100000 in
theorem m_pcheck (l : Launch) (g : va_G) (tys : List (ClassId × FieldType)) (ak av : Nat → Nat) (S : St) (sz : Nat) (i n : Int32) (o : Option Nat) (h0 : ¬ i < 0) (h1 : i < n) : Met l yJ3_checkIndex_8e157 wsJ3_checkIndex_8e157 ({ frames := 0, cells := 0, slots := 0, locals := 0 }) (gPcX g tys (w0 S) sz (sX ak av) [.int i, .int n, va_rf o]) (va_Qi (fun r _ => r = i) (gB g tys w0 (va_A (w0 S) sz)) (va_A (w0 S) sz)) 0 0 (va_A (w0 S) sz) := by
  refine g_metNX (w := w0) (Q := fun r _ => r = i) (cc := cJ3_checkIndex_8e157) (maxL := 3) (by decide) rfl rfl (by cases o <;> exact Nat.le_of_ble_eq_true rfl) rfl (fun p e s m args below meth c QQ A C hK hN hG hA hret H locs ls hP hD hS hl => ?_)
  have hG : sG ak av A s s.heap := hG
  have hl : lv_has ls 3 [(0, .int i), (1, .int n)] := by cases o <;> exact lv_sub hl [0, 1] rfl
  refine lv_iload_n C.1 C.2.1 dJ3_checkIndex_8e157_0 rfl (lv_at hl 0 rfl) ?_
  refine lv_if_lt (tgt := 9) C.1 C.2.1 dJ3_checkIndex_8e157_1 (by decide) (fun z => absurd z h0) (fun _ => ?_)
  refine lv_iload_n C.1 C.2.1 dJ3_checkIndex_8e157_4 rfl (lv_at hl 0 rfl) ?_
  refine lv_iload_n C.1 C.2.1 dJ3_checkIndex_8e157_5 rfl (lv_at hl 1 rfl) ?_
  refine lv_icmp_lt (tgt := 16) C.1 C.2.1 dJ3_checkIndex_8e157_6 (by decide) (fun _ => ?_) (fun z => absurd h1 z)
  refine lv_iload_n C.1 C.2.1 dJ3_checkIndex_8e157_16 rfl (lv_at hl 0 rfl) ?_
  exact hret _ _ S _ _ _ dJ3_checkIndex_8e157_17 rfl rfl hP hD hS
set_option maxHeartbeats 4000000 in
set_option maxRecDepth 100000 in
theorem m_scheck (l : Launch) (g : va_G) (tys : List (ClassId × FieldType)) (ak av : Nat → Nat) (S : St) (sz : Nat) (i n : Int32) (h0 : ¬ i < 0) (h1 : i < n) : Met l yJ0_checkIndex_df160 wsJ0_checkIndex_df160 ({ frames := 1, cells := 0, slots := 0, locals := 30 }) (gPcX g tys (w0 S) sz (sX ak av) [.int i, .int n]) (va_Qv (fun _ => True) (gB g tys w0 (va_A (w0 S) sz)) (va_A (w0 S) sz)) 0 0 (va_A (w0 S) sz) := by
  refine g_metVX (w := w0) (Q := fun _ => True) (cc := cJ0_checkIndex_df160) (maxL := 2) (by decide) rfl rfl (Nat.le_of_ble_eq_true rfl) rfl (fun p e s m args below meth c QQ A C hK hN hG hA hret H locs ls hP hD hS hl => ?_)
  have hG : sG ak av A s s.heap := hG
  have hZ : ∃ o : Option Nat, va_Z "jdk/internal/util/Preconditions" "SIOOBE_FORMATTER" "Ljava/util/function/BiFunction;" (va_rf o) A s s.heap := by
    rcases hG.2.2.2 with z | ⟨t, z⟩
    · exact ⟨none, z⟩
    · exact ⟨some t, z⟩
  obtain ⟨o, hZ⟩ := hZ
  refine lv_iload_n C.1 C.2.1 dJ0_checkIndex_df160_0 rfl (lv_at hl 0 rfl) ?_
  refine lv_iload_n C.1 C.2.1 dJ0_checkIndex_df160_1 rfl (lv_at hl 1 rfl) ?_
  refine va_gets C.1 C.2.1 hZ hS C.2.2.2.1 (C.2.2.2.2 (.fieldLink RJ0 1053 "jdk/internal/util/Preconditions" "SIOOBE_FORMATTER" "Ljava/util/function/BiFunction;") (by decide +kernel)) (fun _ h9 => h9) dJ0_checkIndex_df160_2 ?_
  have hFc : ∀ q, va_A (w0 S) H.size q → A q := g_free w0_D hS hA
  refine g_callSiX (w := w0) (As := [.int i, .int n, va_rf o]) C hK hN hA hP hD hS (m_pcheck l g tys ak av S H.size i n o h0 h1) sX_blind (sX_to hG hS hFc) (va_cwS 3 C.2.2.2.2 gJ0_checkIndex_df160_J3_checkIndex_8e157 rfl rfl rfl (by decide +kernel) ⟨Nat.le_of_ble_eq_true rfl, Nat.le_of_ble_eq_true rfl⟩) rfl hl.1 rfl (Nat.le_of_ble_eq_true rfl) dJ0_checkIndex_df160_5 ⟨Nat.zero_le _, Nat.zero_le _⟩ (fun r H locs hr hP hD hS => ?_)
  refine lv_pop C.1 C.2.1 dJ0_checkIndex_df160_8 rfl ?_
  exact hret _ S _ _ _ dJ0_checkIndex_df160_9 trivial hP hD hS
set_option maxHeartbeats 4000000 in
set_option maxRecDepth 100000 in
theorem m_lcharAt (l : Launch) (g : va_G) (tys : List (ClassId × FieldType)) (ak av : Nat → Nat) (S : St) (sz : Nat) (j : Nat) (hj : j < 7) (i : Int32) (hi : vp_in i (sLen.getD j 0)) : Met l yJ1_charAt_3b067 wsJ1_charAt_3b067 ({ frames := 2, cells := 0, slots := 0, locals := 60 }) (gPcX g tys (w0 S) sz (sX ak av) [.ref (av j), .int i]) (va_Qi (fun r _ => r = sCh j i.toNatClampNeg) (gB g tys w0 (va_A (w0 S) sz)) (va_A (w0 S) sz)) 0 0 (va_A (w0 S) sz) := by
  refine g_metNX (w := w0) (Q := fun r _ => r = sCh j i.toNatClampNeg) (cc := cJ1_charAt_3b067) (maxL := 2) (by decide) rfl rfl (Nat.le_of_ble_eq_true rfl) rfl (fun p e s m args below meth c QQ A C hK hN hG hA hret H locs ls hP hD hS hl => ?_)
  have hG : sG ak av A s s.heap := hG
  have hb : ∀ a, a < 7 → sLen.getD a 0 < 2 ^ 31 := by decide
  have hbj := hb j hj
  have hlt : i < nI (sLen.getD j 0) := by
    obtain ⟨q, hq, e⟩ := vp_in_of hi hbj
    rw [e]
    exact nI_lt hq hbj
  refine lv_iload_n C.1 C.2.1 dJ1_charAt_3b067_0 rfl (lv_at hl 1 rfl) ?_
  refine lv_aload_n C.1 C.2.1 dJ1_charAt_3b067_1 rfl (lv_at hl 0 rfl) ?_
  refine va_tlen C.1 C.2.1 (hG.1.1 j hj).2.2.2 hS (v := nI (sLen.getD j 0)) rfl dJ1_charAt_3b067_2 ?_
  have hFc : ∀ q, va_A (w0 S) H.size q → A q := g_free w0_D hS hA
  refine g_callSvX (w := w0) (Q := True) (As := [.int i, .int (nI (sLen.getD j 0))]) C hK hN hA hP hD hS (m_scheck l g tys ak av S H.size i (nI (sLen.getD j 0)) (fun z => hi (Or.inl z)) hlt) sX_blind (sX_to hG hS hFc) (va_cwS 2 C.2.2.2.2 gJ1_charAt_3b067_J0_checkIndex_df160 rfl rfl rfl (by decide +kernel) ⟨Nat.le_of_ble_eq_true rfl, Nat.le_of_ble_eq_true rfl⟩) rfl hl.1 rfl (Nat.le_of_ble_eq_true rfl) dJ1_charAt_3b067_3 ⟨Nat.zero_le _, Nat.zero_le _⟩ (fun H locs _ hP hD hS => ?_)
  refine lv_aload_n C.1 C.2.1 dJ1_charAt_3b067_6 rfl (lv_at hl 0 rfl) ?_
  refine lv_iload_n C.1 C.2.1 dJ1_charAt_3b067_7 rfl (lv_at hl 1 rfl) ?_
  refine va_tb C.1 C.2.1 (hG.1.1 j hj).2.2.2 hS hi (v := .int (sCh j i.toNatClampNeg)) rfl dJ1_charAt_3b067_8 ?_
  refine lv_sipush (v := 255) C.1 C.2.1 dJ1_charAt_3b067_9 (by decide) ?_
  refine lv_iand C.1 C.2.1 dJ1_charAt_3b067_12 ?_
  refine lv_i2c (v := sCh j i.toNatClampNeg) C.1 C.2.1 dJ1_charAt_3b067_13 ?_ ?_
  · exact (sCh_ok j hj i.toNatClampNeg (lt_in hi)).1
  · exact hret _ _ S _ _ _ dJ1_charAt_3b067_14 (sCh_ok j hj i.toNatClampNeg (lt_in hi)).2 rfl hP hD hS
set_option maxHeartbeats 4000000 in
set_option maxRecDepth 100000 in
theorem m_charAt (l : Launch) (g : va_G) (tys : List (ClassId × FieldType)) (ak av : Nat → Nat) (S : St) (sz : Nat) (j : Nat) (hj : j < 7) (i : Int32) (hi : vp_in i (sLen.getD j 0)) : Met l yJ0_charAt_5068e wsJ0_charAt_5068e ({ frames := 3, cells := 0, slots := 0, locals := 100 }) (gPcX g tys (w0 S) sz (sX ak av) [.ref (ak j), .int i]) (va_Qi (fun r _ => r = sCh j i.toNatClampNeg) (gB g tys w0 (va_A (w0 S) sz)) (va_A (w0 S) sz)) 0 0 (va_A (w0 S) sz) := by
  refine g_metNX (w := w0) (Q := fun r _ => r = sCh j i.toNatClampNeg) (cc := cJ0_charAt_5068e) (maxL := 2) (by decide) rfl rfl (Nat.le_of_ble_eq_true rfl) rfl (fun p e s m args below meth c QQ A C hK hN hG hA hret H locs ls hP hD hS hl => ?_)
  have hG : sG ak av A s s.heap := hG
  refine lv_aload_n C.1 C.2.1 dJ0_charAt_5068e_0 rfl (lv_at hl 0 rfl) ?_
  have hFc : ∀ q, va_A (w0 S) H.size q → A q := g_free w0_D hS hA
  refine g_callPViX (w := w0) C hK hN hA hP hD hS (m_isLatin1 l g tys ak av S H.size j hj) sX_blind (sX_to hG hS hFc) (cwV 0 C.2.2.2.2 gJ0_charAt_5068e_J0_isLatin1_aae02 rfl rfl rfl (by decide +kernel) ⟨Nat.le_of_ble_eq_true rfl, Nat.le_of_ble_eq_true rfl⟩) (vk_recv hG.1 hj hS) rfl hl.1 rfl (Nat.le_of_ble_eq_true rfl) dJ0_charAt_5068e_1 ⟨Nat.zero_le _, Nat.zero_le _⟩ (fun r H locs hr hP hD hS => ?_)
  refine lv_if_eq (tgt := 16) C.1 C.2.1 dJ0_charAt_5068e_4 (by decide) (fun z => absurd (hr.symm.trans z) (by decide)) (fun _ => ?_)
  refine lv_aload_n C.1 C.2.1 dJ0_charAt_5068e_7 rfl (lv_at hl 0 rfl) ?_
  refine vk_getf C.1 C.2.1 (hG.1.1 j hj).2.2.1 hS C.2.2.2.1 (C.2.2.2.2 (.fieldLink RJ0 9 "java/lang/String" "value" "[B") (by decide +kernel)) (fun _ h9 => h9) dJ0_charAt_5068e_8 ?_
  refine lv_iload_n C.1 C.2.1 dJ0_charAt_5068e_11 rfl (lv_at hl 1 rfl) ?_
  have hFc : ∀ q, va_A (w0 S) H.size q → A q := g_free w0_D hS hA
  refine g_callSiX (w := w0) (As := [.ref (av j), .int i]) C hK hN hA hP hD hS (m_lcharAt l g tys ak av S H.size j hj i hi) sX_blind (sX_to hG hS hFc) (va_cwS 2 C.2.2.2.2 gJ0_charAt_5068e_J1_charAt_3b067 rfl rfl rfl (by decide +kernel) ⟨Nat.le_of_ble_eq_true rfl, Nat.le_of_ble_eq_true rfl⟩) rfl hl.1 rfl (Nat.le_of_ble_eq_true rfl) dJ0_charAt_5068e_12 ⟨Nat.zero_le _, Nat.zero_le _⟩ (fun r H locs hr hP hD hS => ?_)
  rw [hr]
  exact hret _ _ S _ _ _ dJ0_charAt_5068e_15 (sCh_ok j hj i.toNatClampNeg (lt_in hi)).2 rfl hP hD hS
def pX4_formOf (x0 : Int32) (Q : Nat → Prop) : Prop :=
  (((Int32.toInt x0 < 0 ∨ 9 < Int32.toInt x0) → Q 6) ∧ (x0 = 0 → Q 0) ∧ (x0 = 1 → Q 1) ∧ (x0 = 2 → Q 2) ∧ (x0 = 3 → Q 2) ∧ (x0 = 4 → Q 0) ∧ (x0 = 5 → Q 2) ∧ (x0 = 6 → Q 3) ∧ (x0 = 7 → Q 4) ∧ (x0 = 8 → Q 5) ∧ (x0 = 9 → Q 5))
set_option maxHeartbeats 4000000 in
set_option maxRecDepth 100000 in
theorem mX4_formOf (l : Launch) (g : va_G) (tys : List (ClassId × FieldType)) (ak av : Nat → Nat) (S : St) (sz : Nat) (x0 : Int32) (Q : Nat → Prop) (h : pX4_formOf x0 Q) : Met l yX4_formOf wsX4_formOf ({ frames := 0, cells := 0, slots := 0, locals := 0 }) (gPcX g tys (w0 S) sz (sX ak av) [.int x0]) (va_Qr (fun u : Nat × St => u.1 < 7 ∧ Q u.1) (fun u a t => a = ak u.1 ∧ gB g tys w0 (va_A (w0 S) sz) u.2 t) (va_A (w0 S) sz)) 0 0 (va_A (w0 S) sz) := by
  refine g_metRX (w := w0) (Q := fun r _ => Q r) (ad := ak) 7 (Or.inl ⟨_, rfl⟩) (cc := cX4_formOf) (maxL := 1) (by decide) rfl rfl (Nat.le_of_ble_eq_true rfl) rfl (fun p e s m args below meth c QQ A C hK hN hG hA hret H locs ls hP hD hS hl => ?_)
  have hG : sG ak av A s s.heap := hG
  refine lv_iload_n C.1 C.2.1 dX4_formOf_0 rfl (lv_at hl 0 rfl) ?_
  by_cases hc : (Int32.toInt x0 < 0 ∨ 9 < Int32.toInt x0)
  · have h := h.1 hc
    refine lv_tableOut (tgt := 74) C.1 C.2.1 dX4_formOf_1 hc (by decide) ?_
    refine va_ldcS C.1 C.2.1 C.2.2.2.1 (hG.2.1 6 (by decide)) dX4_formOf_74 ?_
    exact hret _ _ S _ _ _ dX4_formOf_76 (by decide) h hP hD hS
  · have h := h.2
    have hk : x0 = 0 ∨ x0 = 1 ∨ x0 = 2 ∨ x0 = 3 ∨ x0 = 4 ∨ x0 = 5 ∨ x0 = 6 ∨ x0 = 7 ∨ x0 = 8 ∨ x0 = 9 := by
      have hr : Int32.toInt x0 = 0 ∨ Int32.toInt x0 = 1 ∨ Int32.toInt x0 = 2 ∨ Int32.toInt x0 = 3 ∨ Int32.toInt x0 = 4 ∨ Int32.toInt x0 = 5 ∨ Int32.toInt x0 = 6 ∨ Int32.toInt x0 = 7 ∨ Int32.toInt x0 = 8 ∨ Int32.toInt x0 = 9 := by omega
      rcases hr with hr | hr | hr | hr | hr | hr | hr | hr | hr | hr <;> simp only [← Int32.toInt_inj] <;> simp [hr]
    rcases hk with hk | hk | hk | hk | hk | hk | hk | hk | hk | hk
    · have h := h.1 hk
      refine lv_tableIn (tgt := 56) C.1 C.2.1 dX4_formOf_1 (by rw [hk]; decide) (by rw [hk]; decide) (by rw [hk]; rfl) (by decide) ?_
      refine va_ldcS C.1 C.2.1 C.2.2.2.1 (hG.2.1 0 (by decide)) dX4_formOf_56 ?_
      exact hret _ _ S _ _ _ dX4_formOf_58 (by decide) h hP hD hS
    · have h := h.2.1 hk
      refine lv_tableIn (tgt := 59) C.1 C.2.1 dX4_formOf_1 (by rw [hk]; decide) (by rw [hk]; decide) (by rw [hk]; rfl) (by decide) ?_
      refine va_ldcS C.1 C.2.1 C.2.2.2.1 (hG.2.1 1 (by decide)) dX4_formOf_59 ?_
      exact hret _ _ S _ _ _ dX4_formOf_61 (by decide) h hP hD hS
    · have h := h.2.2.1 hk
      refine lv_tableIn (tgt := 62) C.1 C.2.1 dX4_formOf_1 (by rw [hk]; decide) (by rw [hk]; decide) (by rw [hk]; rfl) (by decide) ?_
      refine va_ldcS C.1 C.2.1 C.2.2.2.1 (hG.2.1 2 (by decide)) dX4_formOf_62 ?_
      exact hret _ _ S _ _ _ dX4_formOf_64 (by decide) h hP hD hS
    · have h := h.2.2.2.1 hk
      refine lv_tableIn (tgt := 62) C.1 C.2.1 dX4_formOf_1 (by rw [hk]; decide) (by rw [hk]; decide) (by rw [hk]; rfl) (by decide) ?_
      refine va_ldcS C.1 C.2.1 C.2.2.2.1 (hG.2.1 2 (by decide)) dX4_formOf_62 ?_
      exact hret _ _ S _ _ _ dX4_formOf_64 (by decide) h hP hD hS
    · have h := h.2.2.2.2.1 hk
      refine lv_tableIn (tgt := 56) C.1 C.2.1 dX4_formOf_1 (by rw [hk]; decide) (by rw [hk]; decide) (by rw [hk]; rfl) (by decide) ?_
      refine va_ldcS C.1 C.2.1 C.2.2.2.1 (hG.2.1 0 (by decide)) dX4_formOf_56 ?_
      exact hret _ _ S _ _ _ dX4_formOf_58 (by decide) h hP hD hS
    · have h := h.2.2.2.2.2.1 hk
      refine lv_tableIn (tgt := 62) C.1 C.2.1 dX4_formOf_1 (by rw [hk]; decide) (by rw [hk]; decide) (by rw [hk]; rfl) (by decide) ?_
      refine va_ldcS C.1 C.2.1 C.2.2.2.1 (hG.2.1 2 (by decide)) dX4_formOf_62 ?_
      exact hret _ _ S _ _ _ dX4_formOf_64 (by decide) h hP hD hS
    · have h := h.2.2.2.2.2.2.1 hk
      refine lv_tableIn (tgt := 65) C.1 C.2.1 dX4_formOf_1 (by rw [hk]; decide) (by rw [hk]; decide) (by rw [hk]; rfl) (by decide) ?_
      refine va_ldcS C.1 C.2.1 C.2.2.2.1 (hG.2.1 3 (by decide)) dX4_formOf_65 ?_
      exact hret _ _ S _ _ _ dX4_formOf_67 (by decide) h hP hD hS
    · have h := h.2.2.2.2.2.2.2.1 hk
      refine lv_tableIn (tgt := 68) C.1 C.2.1 dX4_formOf_1 (by rw [hk]; decide) (by rw [hk]; decide) (by rw [hk]; rfl) (by decide) ?_
      refine va_ldcS C.1 C.2.1 C.2.2.2.1 (hG.2.1 4 (by decide)) dX4_formOf_68 ?_
      exact hret _ _ S _ _ _ dX4_formOf_70 (by decide) h hP hD hS
    · have h := h.2.2.2.2.2.2.2.2.1 hk
      refine lv_tableIn (tgt := 71) C.1 C.2.1 dX4_formOf_1 (by rw [hk]; decide) (by rw [hk]; decide) (by rw [hk]; rfl) (by decide) ?_
      refine va_ldcS C.1 C.2.1 C.2.2.2.1 (hG.2.1 5 (by decide)) dX4_formOf_71 ?_
      exact hret _ _ S _ _ _ dX4_formOf_73 (by decide) h hP hD hS
    · have h := h.2.2.2.2.2.2.2.2.2 hk
      refine lv_tableIn (tgt := 71) C.1 C.2.1 dX4_formOf_1 (by rw [hk]; decide) (by rw [hk]; decide) (by rw [hk]; rfl) (by decide) ?_
      refine va_ldcS C.1 C.2.1 C.2.2.2.1 (hG.2.1 5 (by decide)) dX4_formOf_71 ?_
      exact hret _ _ S _ _ _ dX4_formOf_73 (by decide) h hP hD hS
