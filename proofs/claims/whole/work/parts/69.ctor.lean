/-! how a constructor's walk gives its contract, how that is used; new arrays of known classes -/
def cX (_ : Nat → Prop) (U : State) : Prop := va_AO RX0 U ∧ aoI U
theorem cX_blind : ∀ (B : Nat → Prop) (U : State) (f : JFrame) (mk : MethodId) (a : Array Value), cX B U → cX B (U.calling f mk a) := by
  intro B U f mk a h
  exact ⟨va_AO.moved (u := U) (U := U.calling f mk a) (Vm.Alike.refl U.vm) h.1, aoI_moved (u := U) (U := U.calling f mk a) (Vm.Alike.refl U.vm) h.2⟩
def gN {α : Type} (g : va_G) (tys : List (ClassId × FieldType)) (w : α → va_W) (A : Nat → Prop) : α → State → Prop := fun u t => va_P g vwCl (w u) t.heap ∧ va_K g vwCl tys t ∧ va_D A (w u)
section GCT
variable {α : Type} {l : Launch} {y : MethodName} {ws ws' : List Cond} {rm : Room} {cc : ByteArray} {maxL : Nat} {own : String} {av : List Value} {lv : List (Nat × Value)} {g : va_G} {tys : List (ClassId × FieldType)} {w : α → va_W} {ws0 : va_W} {sz mc ms : Nat} {post : α → Prop}
theorem g_metC (hrc : rm.cells = mc) (hrs : rm.slots = ms) (hy : plainName y.cls = true) (hw : ws = Cond.code y cc maxL none :: ws') (hown : y.cls = own) (hlen : (lg_sl av).length ≤ maxL) (hlv : lv_args 0 av = lv)
    (core : ∀ (p : Program) (e : Env) (s : State) (m : MethodId) (args : Array Value) (below : List Frame) (meth : Method) (c : Code) (QQ : State → Prop) (A : Nat → Prop), CallFix p m c cc maxL s args ws own → va_K g vwCl tys s → xN s → va_AO RX0 s → aoI s → meth.name = y.name → (∀ q, s.heap.size ≤ q → A q) → (∀ (pc : Nat) (u : α) (H : Heap) (locs : List Loc) (ls : Array Slot) (cells slots : Nat), decode cc pc = .ok (.return_, 1) → post u → va_P g vwCl (w u) H → va_D A (w u) → va_S A s.heap H locs → cells ≤ mc → slots ≤ ms → W p l e rm s m args below meth c H locs cells slots QQ (F0 m pc ls [])) → ∀ (H : Heap) (locs : List Loc) (ls : Array Slot), va_P g vwCl ws0 H → va_D A ws0 → va_S A s.heap H locs → lv_has ls maxL lv → W p l e rm s m args below meth c H locs 0 0 QQ (F0 m 0 ls [])) :
    Met l y ws rm (gPcX g tys ws0 sz cX av) (va_Qv post (gN g tys w (va_A ws0 sz)) (va_A ws0 sz)) mc ms (va_A ws0 sz) := by
  refine Met.ofW (cc := cc) (maxL := maxL) (ret := none) hy hw ?_
  intro p e s m args below meth c s₁ B hml hv
  obtain ⟨rfl, hsz, hP, hK, hD0, hN, hX⟩ := hv
  have hts := atoms_spec (ws := ws) B.pre
  have hown' : s.vm.findClass own = some m.cls := by rw [← hown]; exact findClass_of_methodNamed B.named
  have hr := B.returns
  have hlocks := B.notSynchronized
  have hin : meth.name = y.name := (name_of_methodNamed B.named B.method).1
  subst hsz
  have hl := lv_entry av (n := maxL) hlen
  rw [lg_entry_eq]
  generalize (lg_sl av ++ List.replicate (maxL - (lg_sl av).length) Slot.unset).toArray = ls at hl ⊢
  rw [hlv] at hl
  refine core p e s m _ below meth c _ (va_A ws0 s.heap.size) ⟨B.exec, B.bytes, hml, hown', hts⟩ hK hN hX.1 hX.2 hin (fun q h => Or.inr h) (fun pc u H locs ls cells slots hdg hq hP hD hS hc hs => ?_) s.heap [] ls hP hD0.self va_S.rf hl
  refine W.widen (k := mc) (n := ms) hc hs ?_
  exact W.vret B.exec B.bytes hr (fun t ht hW => ⟨⟨u, rfl, hq, by rw [ht]; exact hP, va_K.moved hW.alike hK, hD⟩, hS.F ht⟩) hS.2.2 hdg
end GCT
section GCC
variable {α : Type} {p : Program} {l : Launch} {e : Env} {R : Room} {s : State} {m : MethodId} {args : Array Value} {below : List Frame} {meth : Method} {c : Code} {H : Heap} {locs : List Loc} {cells slots : Nat} {QQ : State → Prop} {cc : ByteArray} {nL : Nat} {own : String} {Ts : List Cond} {pc : Nat} {ls : Array Slot} {st0 rest As : List Value} {g : va_G} {tys : List (ClassId × FieldType)} {A : Nat → Prop} {y : MethodName} {ws : List Cond} {rm : Room} {bytes : ByteArray} {maxL index nA b mc ms : Nat} {w : α → va_W} {post : α → Prop} {wl0 wc wr : va_W}
theorem g_callC (C : CallFix p m c cc nL s args Ts own) (hK : va_K g vwCl tys s) (hN : xN s) (hO : va_AO RX0 s) (hI : aoI s) (hA : ∀ q, s.heap.size ≤ q → A q) (hP : va_P g vwCl wl0 H) (hD : va_D A wl0) (hS : va_S A s.heap H locs) (isC isR : List Nat) (hC : isC.map (fun i => wl0[i]?) = wc.map some) (hR : isR.map (fun i => wl0[i]?) = wr.map some) (hnc : va_nd isC = true) (hn : va_nd isR = true) (hdis : ∀ i ∈ isR, i ∉ isC)
    (hM : Met l y ws rm (gPcX g tys wc H.size cX (.ref b :: As)) (va_Qv post (gN g tys w (va_A wc H.size)) (va_A wc H.size)) mc ms (va_A wc H.size)) (cw : CallB R s args own index y bytes maxL none ws rm mc ms nA ∧ y.name = "<init>" ∧ (Cond.instanceMethod y).before args s = true) (hna : As.length = nA) (hsize : ls.size = nL) (hst : st0 = As.reverse ++ .ref b :: rest) (hW : (rest.map fun v => v.category).sum ≤ 8) (hdg : decode cc pc = .ok (.invokespecial index, 3)) (hcs : cells + mc ≤ R.cells ∧ slots + ms ≤ R.slots)
    (kk : ∀ (u : α) (H1 : Heap) (locs1 : List Loc), post u → va_P g vwCl (wr ++ w u) H1 → va_D A (wr ++ w u) → va_S A s.heap H1 locs1 → W p l e R s m args below meth c H1 locs1 (cells + mc) (slots + ms) QQ (F0 m (pc + 3) ls rest)) : W p l e R s m args below meth c H locs cells slots QQ (F0 m pc ls st0) := by
  have hPc : va_P g vwCl wc H := by
    refine hP.sub isC ?_
    have : isC.filterMap (fun i => wl0[i]?) = (isC.map (fun i => wl0[i]?)).filterMap id := by rw [List.filterMap_map]; rfl
    rw [this, hC, List.filterMap_map]
    simp
  have hDc := hD.sub (ws' := wc) isC hnc hC
  have hFc := va_free (wc := wc) hD hS hA isC hC
  refine va_callv (va_runI (As := As) (rest := rest) C hM cw ⟨gPcX_blind cX_blind, fun U hU hW => gPcX_at hU hW hPc hK hDc hN ⟨va_AO.moved hW.alike hO, aoI_moved hW.alike hI⟩⟩ rfl hna hsize hst (by simpa [F0] using hW) hdg hcs) hS (fun q _ h => hFc q h) hFc (fun u t H1 locs1 ht hvm hp hB hz1 hk1 hS1 => ?_)
  obtain ⟨hP1, hK1, hD1⟩ := hB
  rw [ht] at hP1
  obtain ⟨hP2, hD2⟩ := va_join (wr := wr) (w1 := w u) hP hD isC isR hC hR hn hdis hk1 hFc hP1 hD1
  exact kk u H1 locs1 hp hP2 hD2 hS1
end GCC
section GNA
variable {p : Program} {l : Launch} {e : Env} {R : Room} {s : State} {m : MethodId} {args : Array Value} {below : List Frame} {meth : Method} {c : Code} {H H0 : Heap} {locs : List Loc} {cells slots : Nat} {QQ : State → Prop} {cc : ByteArray} {nL : Nat} {own : String} {Ts : List Cond} {pc : Nat} {ls : Array Slot} {rest : List Value} {g : va_G} {tys : List (ClassId × FieldType)} {A : Nat → Prop} {ws : va_W}
theorem g_newT {atype : ArrayType} {ty : FieldType} (C : CallFix p m c cc nL s args Ts own) (harr : Cond.arrayClass (newarray.typeOf atype) ∈ Ts) (hty : newarray.typeOf atype = ty) (hobj : ∀ C, ty ≠ .object C) (hK : va_K g vwCl tys s) {cI : ClassId} (t0 : Nat) (ht : tys[t0]? = some (cI, ty)) (hP : va_P g vwCl ws H) (hD : va_D A ws) (hS : va_S A H0 H locs) (hA : ∀ q, H0.size ≤ q → A q)
    {n : Int32} {N' : Nat} {a0 : vp_A} (ha : ∀ cA : ClassId, vp_cell cA a0 = arrV cA N' (fun _ => defaultValue ty)) (hn : ¬ n < 0) (hN : n.toNatClampNeg = N') (hbytes : N' * componentBytes ty ≤ 536870912) (hcells : cells + 1 ≤ R.cells) (hslots : slots + N' ≤ R.slots) (hdg : decode cc pc = .ok (.newarray atype, 2))
    (kk : ∀ (q : Nat) (H1 : Heap), va_P g vwCl (ws ++ [(q, .inl (cI, a0))]) H1 → va_D A (ws ++ [(q, .inl (cI, a0))]) → va_S A H0 H1 locs → W p l e R s m args below meth c H1 locs (cells + 1) (slots + N') QQ (F0 m (pc + 2) ls (.ref q :: rest))) : W p l e R s m args below meth c H locs cells slots QQ (F0 m pc ls (.int n :: rest)) := by
  refine va_newa C.1 C.2.1 (C.2.2.2.2 _ harr) hty hK hP hD hS hA ha hn hN hbytes hcells hslots hdg (fun q cA H1 hK1 hP1 hD1 hS1 => ?_)
  have e : cA = cI := by
    have a1 := (hK1.2 tys.length (cA, ty) (by rw [List.getElem?_append_right (Nat.le_refl _), Nat.sub_self]; rfl)).2
    have b1 := (hK.2 t0 (cI, ty) ht).2
    have a2 : s.vm.findClass ("[" ++ ty.toString) = some cA := by
      cases ty with
      | object C => exact absurd rfl (hobj C)
      | _ => exact a1
    have b2 : s.vm.findClass ("[" ++ ty.toString) = some cI := by
      cases ty with
      | object C => exact absurd rfl (hobj C)
      | _ => exact b1
    exact Option.some.inj (a2.symm.trans b2)
  subst e
  exact kk q H1 hP1 hD1 hS1
end GNA
