/-! calls from the law: of two worlds side by side one is called, the other stays -/
def apart (w1 w2 : va_W) : Prop := ∀ (i j : Nat) (p q : Nat × va_E), w1[i]? = some p → w2[j]? = some q → p.1 ≠ q.1
theorem apart_sym {w1 w2 : va_W} (h : apart w1 w2) : apart w2 w1 := fun i j p q hp hq e => h j i q p hq hp e.symm
theorem l_frame {g : va_G} {w1 w2 w1' : va_W} {H H1 : Heap} (hP2 : va_P g vwCl w2 H) (hap : apart w1 w2) (hk : ∀ q : Nat, q < H.size → ¬ va_A w1 H.size q → H1[q]? = H[q]?) (hD1 : va_D (va_A w1 H.size) w1') : va_P g vwCl w2 H1 ∧ apart w1' w2 := by
  have out : ∀ (j : Nat) (q : Nat × va_E), w2[j]? = some q → q.1 < H.size ∧ ¬ va_A w1 H.size q.1 := by
    intro j q hq
    have lt := (hP2 j q hq).lt
    refine ⟨lt, ?_⟩
    rintro (⟨k, e, h⟩ | h)
    · exact hap k j (q.1, e) q h hq rfl
    · exact absurd h (Nat.not_le.mpr lt)
  refine ⟨hP2.kept (fun k q hq => hk q.1 (out k q hq).1 (out k q hq).2), fun i j p q hp hq e => ?_⟩
  have := hD1.2 i p hp
  rw [e] at this
  exact (out j q hq).2 this
section LC
variable {p : Program} {l : Launch} {e : Env} {R : Room} {s : State} {m : MethodId} {args : Array Value} {below : List Frame} {meth : Method} {c : Code} {H : Heap} {locs : List Loc} {cells slots : Nat} {QQ : State → Prop} {cc : ByteArray} {nL : Nat} {own : String} {Ts : List Cond} {pc : Nat} {ls : Array Slot} {st0 rest As : List Value} {g : va_G} {tys : List (ClassId × FieldType)} {w : St → va_W} {w2 : va_W} {A : Nat → Prop} {S : St} {y : MethodName} {ws : List Cond} {rm : Room} {bytes : ByteArray} {maxL index nA b : Nat} {ret : Option FieldType} {Cc : String}
theorem l_ci {Q : Int32 → St → Prop} (C : CallFix p m c cc nL s args Ts own) (hK : va_K g vwCl tys s) (hN : xN s) (hA : ∀ q, s.heap.size ≤ q → A q) (hP : va_P g vwCl (w S) H) (hP2 : va_P g vwCl w2 H) (hD : va_D A (w S)) (hap : apart (w S) w2) (hS : va_S A s.heap H locs) (hM : Met l y ws rm (gPc g tys (w S) H.size (.ref b :: As)) (va_Qi Q (gB g tys w (va_A (w S) H.size)) (va_A (w S) H.size)) 0 0 (va_A (w S) H.size)) (cw : CallW R s args own Cc index y bytes maxL ret ws rm 0 0 nA) (hrecv : ∃ cell : Cell, H[b]? = some cell ∧ cell.vm.isStatics = false ∧ s.vm.findClass Cc = some cell.cls) (hn : As.length = nA) (hsize : ls.size = nL) (hst : st0 = As.reverse ++ .ref b :: rest) (hW : (rest.map fun v => v.category).sum ≤ 8) (hdg : decode cc pc = .ok (.invokevirtual index, 3)) (hcs : cells ≤ R.cells ∧ slots ≤ R.slots)
    (kk : ∀ (r : Int32) (S' : St) (H1 : Heap) (locs1 : List Loc), Q r S' → va_P g vwCl (w S') H1 → va_P g vwCl w2 H1 → va_D A (w S') → apart (w S') w2 → va_S A s.heap H1 locs1 → W p l e R s m args below meth c H1 locs1 cells slots QQ (F0 m (pc + 3) ls (.int r :: rest))) : W p l e R s m args below meth c H locs cells slots QQ (F0 m pc ls st0) := by
  subst hst
  have hFc := g_free hD hS hA
  refine va_calli (va_runV (As := As) (rest := rest) C hM cw ⟨gPc_blind, hrecv, fun U hU hW => gPc_at hU hW hP hK hD hN⟩ rfl hn hsize rfl (lv_room hW) hdg ⟨hcs.1, hcs.2⟩) hS (fun q _ h => hFc q h) hFc (fun r u t H1 locs ht hvm hw hB hz1 hk1 hS => ?_)
  obtain ⟨hP1, hK1, hD1⟩ := hB
  rw [ht] at hP1
  obtain ⟨f1, f2⟩ := l_frame hP2 hap hk1 hD1
  exact kk r u H1 locs hw hP1 f1 (hD1.weaken (fun k q _ h => hFc q.1 h)) f2 hS
theorem l_cj {Q : Int64 → St → Prop} (C : CallFix p m c cc nL s args Ts own) (hK : va_K g vwCl tys s) (hN : xN s) (hA : ∀ q, s.heap.size ≤ q → A q) (hP : va_P g vwCl (w S) H) (hP2 : va_P g vwCl w2 H) (hD : va_D A (w S)) (hap : apart (w S) w2) (hS : va_S A s.heap H locs) (hM : Met l y ws rm (gPc g tys (w S) H.size (.ref b :: As)) (va_Ql Q (gB g tys w (va_A (w S) H.size)) (va_A (w S) H.size)) 0 0 (va_A (w S) H.size)) (cw : CallW R s args own Cc index y bytes maxL ret ws rm 0 0 nA) (hrecv : ∃ cell : Cell, H[b]? = some cell ∧ cell.vm.isStatics = false ∧ s.vm.findClass Cc = some cell.cls) (hn : As.length = nA) (hsize : ls.size = nL) (hst : st0 = As.reverse ++ .ref b :: rest) (hW : (rest.map fun v => v.category).sum ≤ 8) (hdg : decode cc pc = .ok (.invokevirtual index, 3)) (hcs : cells ≤ R.cells ∧ slots ≤ R.slots)
    (kk : ∀ (r : Int64) (S' : St) (H1 : Heap) (locs1 : List Loc), Q r S' → va_P g vwCl (w S') H1 → va_P g vwCl w2 H1 → va_D A (w S') → apart (w S') w2 → va_S A s.heap H1 locs1 → W p l e R s m args below meth c H1 locs1 cells slots QQ (F0 m (pc + 3) ls (.long r :: rest))) : W p l e R s m args below meth c H locs cells slots QQ (F0 m pc ls st0) := by
  subst hst
  have hFc := g_free hD hS hA
  refine va_calll (va_runV (As := As) (rest := rest) C hM cw ⟨gPc_blind, hrecv, fun U hU hW => gPc_at hU hW hP hK hD hN⟩ rfl hn hsize rfl (lv_room hW) hdg ⟨hcs.1, hcs.2⟩) hS (fun q _ h => hFc q h) hFc (fun r u t H1 locs ht hvm hw hB hz1 hk1 hS => ?_)
  obtain ⟨hP1, hK1, hD1⟩ := hB
  rw [ht] at hP1
  obtain ⟨f1, f2⟩ := l_frame hP2 hap hk1 hD1
  exact kk r u H1 locs hw hP1 f1 (hD1.weaken (fun k q _ h => hFc q.1 h)) f2 hS
theorem l_cx {Q : Int32 → St → Prop} {X : (Nat → Prop) → State → Prop} (hXb : ∀ (B : Nat → Prop) (U : State) (f : JFrame) (mk : MethodId) (a : Array Value), X B U → X B (U.calling f mk a)) (hX : ∀ U : State, U.heap = H → s.WarmedH U.vm → X (va_A (w S) H.size) U) (C : CallFix p m c cc nL s args Ts own) (hK : va_K g vwCl tys s) (hN : xN s) (hA : ∀ q, s.heap.size ≤ q → A q) (hP : va_P g vwCl (w S) H) (hP2 : va_P g vwCl w2 H) (hD : va_D A (w S)) (hap : apart (w S) w2) (hS : va_S A s.heap H locs) (hM : Met l y ws rm (gPcX g tys (w S) H.size X (.ref b :: As)) (va_Qi Q (gB g tys w (va_A (w S) H.size)) (va_A (w S) H.size)) 0 0 (va_A (w S) H.size)) (cw : CallW R s args own Cc index y bytes maxL ret ws rm 0 0 nA) (hrecv : ∃ cell : Cell, H[b]? = some cell ∧ cell.vm.isStatics = false ∧ s.vm.findClass Cc = some cell.cls) (hn : As.length = nA) (hsize : ls.size = nL) (hst : st0 = As.reverse ++ .ref b :: rest) (hW : (rest.map fun v => v.category).sum ≤ 8) (hdg : decode cc pc = .ok (.invokevirtual index, 3)) (hcs : cells ≤ R.cells ∧ slots ≤ R.slots)
    (kk : ∀ (r : Int32) (S' : St) (H1 : Heap) (locs1 : List Loc), Q r S' → va_P g vwCl (w S') H1 → va_P g vwCl w2 H1 → va_D A (w S') → apart (w S') w2 → va_S A s.heap H1 locs1 → W p l e R s m args below meth c H1 locs1 cells slots QQ (F0 m (pc + 3) ls (.int r :: rest))) : W p l e R s m args below meth c H locs cells slots QQ (F0 m pc ls st0) := by
  subst hst
  have hFc := g_free hD hS hA
  refine va_calli (va_runV (As := As) (rest := rest) C hM cw ⟨gPcX_blind hXb, hrecv, fun U hU hW => gPcX_at hU hW hP hK hD hN (hX U hU hW)⟩ rfl hn hsize rfl (lv_room hW) hdg ⟨hcs.1, hcs.2⟩) hS (fun q _ h => hFc q h) hFc (fun r u t H1 locs ht hvm hw hB hz1 hk1 hS => ?_)
  obtain ⟨hP1, hK1, hD1⟩ := hB
  rw [ht] at hP1
  obtain ⟨f1, f2⟩ := l_frame hP2 hap hk1 hD1
  exact kk r u H1 locs hw hP1 f1 (hD1.weaken (fun k q _ h => hFc q.1 h)) f2 hS
variable {ct : Nat → ClassId} {ad : Nat → Nat} {n n1 ro : Nat}
theorem l_cg {Q : Int32 → St → Prop} (C : CallFix p m c cc nL s args Ts own) (hK : va_K g vwCl (xT ct) s) (hN : xN s) (hA : ∀ q, s.heap.size ≤ q → A q) (hP : va_P g vwCl (wX ct ad n ro S) H) (hP2 : va_P g vwCl w2 H) (hD : va_D A (wX ct ad n ro S)) (hap : apart (wX ct ad n ro S) w2) (hS : va_S A s.heap H locs) (hM : Met l y ws rm (gPc g (xT ct) (wX ct ad n ro S) H.size (.ref b :: As)) (va_Qi Q (gBg g ct ad n1 (va_A (wX ct ad n ro S) H.size)) (va_A (wX ct ad n ro S) H.size)) (n1 - n) (2 * (n1 - n)) (va_A (wX ct ad n ro S) H.size)) (cw : CallW R s args own Cc index y bytes maxL ret ws rm (n1 - n) (2 * (n1 - n)) nA) (hrecv : ∃ cell : Cell, H[b]? = some cell ∧ cell.vm.isStatics = false ∧ s.vm.findClass Cc = some cell.cls) (hn : As.length = nA) (hsize : ls.size = nL) (hst : st0 = As.reverse ++ .ref b :: rest) (hW : (rest.map fun v => v.category).sum ≤ 8) (hdg : decode cc pc = .ok (.invokevirtual index, 3)) (hcs : cells + (n1 - n) ≤ R.cells ∧ slots + 2 * (n1 - n) ≤ R.slots)
    (kk : ∀ (r : Int32) (S' : St) (ro : Nat) (H1 : Heap) (locs1 : List Loc), Q r S' → va_P g vwCl (wX ct ad n1 ro S') H1 → va_P g vwCl w2 H1 → va_D A (wX ct ad n1 ro S') → apart (wX ct ad n1 ro S') w2 → va_S A s.heap H1 locs1 → W p l e R s m args below meth c H1 locs1 (cells + (n1 - n)) (slots + 2 * (n1 - n)) QQ (F0 m (pc + 3) ls (.int r :: rest))) : W p l e R s m args below meth c H locs cells slots QQ (F0 m pc ls st0) := by
  subst hst
  have hFc := g_free hD hS hA
  refine va_calli (va_runV (As := As) (rest := rest) C hM cw ⟨gPc_blind, hrecv, fun U hU hW => gPc_at hU hW hP hK hD hN⟩ rfl hn hsize rfl (lv_room hW) hdg ⟨hcs.1, hcs.2⟩) hS (fun q _ h => hFc q h) hFc (fun r u t H1 locs ht hvm hw hB hz1 hk1 hS => ?_)
  obtain ⟨ro', hP1, hK1, hD1⟩ := hB
  rw [ht] at hP1
  obtain ⟨f1, f2⟩ := l_frame hP2 hap hk1 hD1
  exact kk r u ro' H1 locs hw hP1 f1 (hD1.weaken (fun k q _ h => hFc q.1 h)) f2 hS
end LC
