/-! Arrays.copyOf of longs, and Outcomes.keep, behind which the row of outcomes may have doubled -/
def setL (S : St) (v : Nat) (f : Nat → Int64) : St := (S.1, S.2.1, va_up S.2.2 v f)
theorem g_sameJ {g : va_G} {cl : List vw_C} {t1 t2 : List (ClassId × FieldType)} {s : State} {i j : Nat} {c1 c2 : ClassId} (h1 : va_K g cl t1 s) (h2 : va_K g cl t2 s) (e1 : t1[i]? = some (c1, .long)) (e2 : t2[j]? = some (c2, .long)) : c1 = c2 := by
  have a : s.vm.findClass ("[" ++ (FieldType.long).toString) = some c1 := (h1.2 i _ e1).2
  have b : s.vm.findClass ("[" ++ (FieldType.long).toString) = some c2 := (h2.2 j _ e2).2
  exact Option.some.inj (a.symm.trans b)
set_option maxHeartbeats 4000000 in
set_option maxRecDepth 100000 in
theorem m_copyOf (l : Launch) (g : va_G) (tys : List (ClassId × FieldType)) (ws : va_W) (sz ro n n2 q0 t0 : Nat) (cJ : ClassId) (f : Nat → Int64) (x : Int32) (ha : ws[q0]? = some (ro, .inl (cJ, n, .inr (.inl f)))) (ht : tys[t0]? = some (cJ, .long)) (hx2 : x = nI n2) (hlt : n < n2) (hb2 : n2 * 8 ≤ 536870912) :
    Met l yJ7_copyOf_c38d5 wsJ7_copyOf_c38d5 ({ frames := 1, cells := 1, slots := n2, locals := 100 }) (gPc g tys ws sz [.ref ro, .int x]) (va_Qr (fun _ : Unit => True) (fun _ a t => va_P g vwCl (ws ++ [(a, .inl (cJ, n2, .inr (.inl (va_cpy f (fun _ => 0) 0 0 n))))]) t.heap ∧ va_K g vwCl tys t ∧ va_D (va_A ws sz) (ws ++ [(a, .inl (cJ, n2, .inr (.inl (va_cpy f (fun _ => 0) 0 0 n))))])) (va_A ws sz)) 1 n2 (va_A ws sz) := by
  refine Met.ofW (cc := cJ7_copyOf_c38d5) (maxL := 3) (ret := some (.array .long)) (by decide) rfl ?_
  intro p e s m args below meth c s₁ B hml hv
  obtain ⟨rfl, hsz, hP, hK, hD0, hN⟩ := hv
  have hx := B.exec
  have hb := B.bytes
  have hr := B.returns
  have hts := atoms_spec (ws := wsJ7_copyOf_c38d5) B.pre
  have hown : s.vm.findClass RJ7 = some m.cls := findClass_of_methodNamed B.named
  have hlocks := B.notSynchronized
  subst hsz
  have hD := hD0.self (sz := s.heap.size)
  generalize hAe : va_A ws s.heap.size = A at hD ⊢
  have hA : ∀ q : Nat, s.heap.size ≤ q → A q := fun q h => by rw [← hAe]; exact Or.inr h
  have hS : va_S A s.heap s.heap [] := va_S.rf
  have hl := lv_entry ([.ref ro, .int x]) (n := 3) (Nat.le_of_ble_eq_true rfl)
  rw [lg_entry_eq]
  generalize (lg_sl ([.ref ro, .int x]) ++ List.replicate (3 - (lg_sl ([.ref ro, .int x])).length) Slot.unset).toArray = ls at hl ⊢
  have hl : lv_has ls 3 [(0, .ref ro), (1, .int x)] := hl
  have hnb : n < 2 ^ 31 := by omega
  have hn2b : n2 < 2 ^ 31 := by omega
  have hq0 : q0 < ws.length := (List.getElem?_eq_some_iff.mp ha).1
  have ht0 : t0 < tys.length := (List.getElem?_eq_some_iff.mp ht).1
  refine lv_iload_n hx hb dJ7_copyOf_c38d5_0 rfl (lv_at hl 1 rfl) ?_
  refine lv_aload_n hx hb dJ7_copyOf_c38d5_1 rfl (lv_at hl 0 rfl) ?_
  refine va_alen hx hb hK hP q0 t0 ha ht (v := nI n) rfl dJ7_copyOf_c38d5_2 ?_
  refine lv_icmp_ne (tgt := 14) hx hb dJ7_copyOf_c38d5_3 (by decide) (fun hc => ?_) (fun hc => ?_)
  · refine lv_iload_n hx hb dJ7_copyOf_c38d5_14 rfl (lv_at hl 1 rfl) ?_
    refine va_newa (atype := .long) (ty := .long) (a0 := (n2, .inr (.inl (fun _ => 0)))) (N' := n2) hx hb (hts (.arrayClass .long) (by decide +kernel)) rfl hK hP hD hS hA (fun cA => rfl) (by rw [hx2]; exact nI_pos hn2b) (by rw [hx2]; exact nI_clamp hn2b) hb2 (Nat.le_refl 1) (by show 0 + n2 ≤ n2; omega) dJ7_copyOf_c38d5_15 (fun q cA H hK2 hP hD hS => ?_)
    have ht2 : (tys ++ [(cA, FieldType.long)])[tys.length]? = some (cA, .long) := by simp
    have hcA : cA = cJ := g_sameJ hK2 hK ht2 ht
    subst hcA
    have haq : (ws ++ ([(q, .inl (cA, n2, .inr (.inl (fun _ => 0))))] : va_W))[ws.length]? = some (q, .inl (cA, n2, .inr (.inl (fun _ => (0 : Int64))))) := by simp
    have ha2 : (ws ++ ([(q, .inl (cA, n2, .inr (.inl (fun _ => (0 : Int64)))))] : va_W))[q0]? = some (ro, .inl (cA, n, .inr (.inl f))) := by rw [List.getElem?_append_left hq0]; exact ha
    refine lv_astore_n (lv' := [(2, .ref q), (0, .ref ro), (1, .int x)]) hx hb dJ7_copyOf_c38d5_17 rfl hl (by decide) rfl (fun ls hl => ?_)
    refine lv_aload_n hx hb dJ7_copyOf_c38d5_18 rfl (lv_at hl 1 rfl) ?_
    refine lv_iconst (v := 0) hx hb dJ7_copyOf_c38d5_19 (by decide) ?_
    refine lv_aload_n hx hb dJ7_copyOf_c38d5_20 rfl (lv_at hl 0 rfl) ?_
    refine lv_iconst (v := 0) hx hb dJ7_copyOf_c38d5_21 (by decide) ?_
    refine lv_aload_n hx hb dJ7_copyOf_c38d5_22 rfl (lv_at hl 1 rfl) ?_
    refine va_alen hx hb hK hP q0 t0 ha2 ht (v := nI n) rfl dJ7_copyOf_c38d5_23 ?_
    refine lv_iload_n hx hb dJ7_copyOf_c38d5_24 rfl (lv_at hl 2 rfl) ?_
    refine va_mmin hx hb (by rw [hml]; exact hl.1.symm) hown (hts (.methodLink RJ7 304 Lib.Math.min.name) (by decide +kernel)) (hts (.static Lib.Math.min.name) (by decide +kernel)) (hts (.initialized "java/lang/Math") (by decide +kernel)) (hts (.code Lib.Math.min.name Lib.Math.min.code 2 (some .int)) (by decide +kernel)) (Nat.le_refl 1) (Nat.le_of_ble_eq_true rfl) (Nat.le_refl 1) (by show 0 + n2 ≤ n2; omega) dJ7_copyOf_c38d5_25 ?_
    have hmin : (if x < nI n then x else nI n) = nI n := by
      rw [if_neg]
      rw [hx2]
      exact nI_nlt (by omega) hn2b
    rw [hmin]
    have hcl : (nI n).toNatClampNeg = n := nI_clamp hnb
    refine va_copyl (ty := .long) hx hb (by rw [hml]; exact hl.1.symm) hown (hts (.methodLink RJ7 150 arraycopyName) (by decide +kernel)) (hts (.native arraycopyName) (by decide +kernel)) (hts (.static arraycopyName) (by decide +kernel)) (hts (.initialized "java/lang/System") (by decide +kernel)) hK hP hD hS q0 ws.length t0 t0 ha2 haq ht ht rfl (by decide) (by decide) (nI_pos hnb) (by rw [hcl]; show 0 + n ≤ n; omega) (by rw [hcl]; show 0 + n ≤ n2; omega) (fun i _ => rfl) (Nat.le_refl 1) (show (List.map (fun v => Value.category v) ([] : List Value)).sum + (nativeFrameWords "java/lang/System" "arraycopy" 5 + 11) ≤ 100 from by decide +kernel) dJ7_copyOf_c38d5_28 (fun H locs hP hD hS => ?_)
    rw [hcl] at hP hD
    have e1 : (ws ++ ([(q, .inl (cA, n2, .inr (.inl (fun _ => (0 : Int64)))))] : va_W)).set ws.length (q, .inl (cA, n2, .inr (.inl (va_cpy f (fun _ => 0) (0 : Int32).toNatClampNeg (0 : Int32).toNatClampNeg n)))) = ws ++ ([(q, .inl (cA, n2, .inr (.inl (va_cpy f (fun _ => 0) 0 0 n))))] : va_W) := by
      rw [List.set_append_right (h := Nat.le_refl _)]
      simp
    rw [e1] at hP hD
    refine lv_aload_n hx hb dJ7_copyOf_c38d5_31 rfl (lv_at hl 0 rfl) ?_
    refine W.widen (k := 1) (n := n2) (Nat.le_refl 1) (by omega) ?_
    exact W.aret (v := .ref q) hx hb hr (Or.inr ⟨_, rfl⟩) (Or.inr ⟨_, rfl⟩) (fun t ht hW => ⟨⟨(), q, rfl, trivial, by rw [ht]; exact hP, va_K.moved hW.alike hK, hD⟩, hS.F ht⟩) hS.2.2 dJ7_copyOf_c38d5_32
  · exfalso
    rw [hx2] at hc
    have := (nI_eq hn2b hnb).mp hc
    omega
section KG
variable {ct : Nat → ClassId} {ad : Nat → Nat} {n n2 ro q : Nat} {S : St} {f : Nat → Int64}
theorem wX_grow {k : Nat} (h16 : k ≠ 16) (h17 : k ≠ 17) : (wX ct ad n2 q (setL S 1 f))[k]? = (wX ct ad n ro S)[k]? := by
  unfold wX
  by_cases hk : k < 18
  · rw [List.getElem?_append_left (by show k < 18; exact hk), List.getElem?_append_left (by show k < 18; exact hk)]
    rcases (show k = 0 ∨ k = 1 ∨ k = 2 ∨ k = 3 ∨ k = 4 ∨ k = 5 ∨ k = 6 ∨ k = 7 ∨ k = 8 ∨ k = 9 ∨ k = 10 ∨ k = 11 ∨ k = 12 ∨ k = 13 ∨ k = 14 ∨ k = 15 by omega) with rfl | rfl | rfl | rfl | rfl | rfl | rfl | rfl | rfl | rfl | rfl | rfl | rfl | rfl | rfl | rfl <;> rfl
  · have e1 : (xF ct ad n2 q (setL S 1 f) ++ (xPA ad (setL S 1 f) ++ xPR ct ad (setL S 1 f)))[k]? = (xPA ad S ++ xPR ct ad S)[k - 18]? := List.getElem?_append_right (show 18 ≤ k by omega)
    have e2 : (xF ct ad n ro S ++ (xPA ad S ++ xPR ct ad S))[k]? = (xPA ad S ++ xPR ct ad S)[k - 18]? := List.getElem?_append_right (show 18 ≤ k by omega)
    exact e1.trans e2.symm
theorem wX_len : (wX ct ad n ro S).length = 48 := by simp [wX, xF, xPA, xPR]
theorem wX_growG (k : Nat) (p : Nat × va_E) (hk : (wX ct ad n2 q (setL S 1 f))[k]? = some p) : ((wX ct ad n ro S ++ ([(q, .inl (ct 1, n2, .inr (.inl f)))] : va_W)).set 16 (ad 16, .inr (3, ([.ref ro, .int (S.1 17 0)] : List Value).set 0 (.ref q))))[if k = 17 then 48 else k]? = some p := by
  have hlen : (wX ct ad n ro S).length = 48 := wX_len
  by_cases h17 : k = 17
  · subst h17
    rw [if_pos rfl, List.getElem?_set_ne (by decide), List.getElem?_append_right (by rw [hlen]; exact Nat.le_refl _)]
    rw [hlen]
    exact hk
  · rw [if_neg h17]
    by_cases h16 : k = 16
    · subst h16
      rw [List.getElem?_set_self (by rw [List.length_append, hlen]; show 16 < 48 + 1; decide)]
      exact hk
    · rw [List.getElem?_set_ne (fun z => h16 z.symm)]
      rw [wX_grow (n := n) (ro := ro) h16 h17] at hk
      have hlt : k < (wX ct ad n ro S).length := (List.getElem?_eq_some_iff.mp hk).1
      rw [List.getElem?_append_left hlt]
      exact hk
theorem wX_growP {g : va_G} {H : Heap} (hP : va_P g vwCl ((wX ct ad n ro S ++ ([(q, .inl (ct 1, n2, .inr (.inl f)))] : va_W)).set 16 (ad 16, .inr (3, ([.ref ro, .int (S.1 17 0)] : List Value).set 0 (.ref q)))) H) : va_P g vwCl (wX ct ad n2 q (setL S 1 f)) H := hP.by _ wX_growG
theorem wX_growD {A : Nat → Prop} (hD : va_D A ((wX ct ad n ro S ++ ([(q, .inl (ct 1, n2, .inr (.inl f)))] : va_W)).set 16 (ad 16, .inr (3, ([.ref ro, .int (S.1 17 0)] : List Value).set 0 (.ref q))))) : va_D A (wX ct ad n2 q (setL S 1 f)) := by
  refine hD.by _ wX_growG (fun i j hi hj e => ?_)
  rw [wX_len] at hi hj
  by_cases h1 : i = 17
  · by_cases h2 : j = 17
    · omega
    · rw [if_pos h1, if_neg h2] at e
      omega
  · by_cases h2 : j = 17
    · rw [if_neg h1, if_pos h2] at e
      omega
    · rw [if_neg h1, if_neg h2] at e
      exact e
end KG
def bX3_keep_56 (n2 : Nat) (Q : St → Prop) (x1 : Int64) (x3 : Int32) (n : Nat) (S : St) : Prop :=
  (¬ x3 < 0 ∧ ¬ (x3 + (1 : Int32)) < 0 ∧ ¬ ((S.1 17 0) - x3) < 0 ∧ x3.toNatClampNeg + ((S.1 17 0) - x3).toNatClampNeg ≤ n ∧ (x3 + (1 : Int32)).toNatClampNeg + ((S.1 17 0) - x3).toNatClampNeg ≤ n ∧ ∀ S1 : St, S1 = setL S 1 (va_cpy (S.2.2 1) (S.2.2 1) x3.toNatClampNeg (x3 + (1 : Int32)).toNatClampNeg ((S.1 17 0) - x3).toNatClampNeg) →
    vp_in x3 n ∧ ∀ S2 : St, S2 = wrL S1 1 x3.toNatClampNeg x1 → ∀ S3 : St, S3 = wr S2 17 0 ((S2.1 17 0) + (1 : Int32)) → n = n2 ∧ Q S3)
def bX3_keep_26 (n2 : Nat) (Q : St → Prop) (x1 : Int64) (x3 : Int32) (n : Nat) (S : St) : Prop :=
  (((S.1 17 0) < nI n → bX3_keep_56 n2 Q x1 x3 n S) ∧ (¬ ((S.1 17 0) < nI n) → n2 = 2 * n ∧ 0 < n ∧ n2 * 8 ≤ 536870912 ∧ ∀ S1 : St, S1 = setL S 1 (va_cpy (S.2.2 1) (fun _ => 0) 0 0 n) → bX3_keep_56 n2 Q x1 x3 n2 S1))
def pX3_keep (n0 n2 : Nat) (x1 : Int64) (S : St) (Q : St → Prop) : Prop :=
  pX3_spotOf n0 x1 S (fun (r : Int32) (S1 : St) => (((S1.1 17 0) ≤ r → bX3_keep_26 n2 Q x1 r n0 S1) ∧ (¬ ((S1.1 17 0) ≤ r) → vp_in r n0 ∧ ((¬ (lg_cmp (S1.2.2 1 (Int32.toNatClampNeg r)) x1) = 0 → bX3_keep_26 n2 Q x1 r n0 S1) ∧ ((lg_cmp (S1.2.2 1 (Int32.toNatClampNeg r)) x1) = 0 → n0 = n2 ∧ Q S1)))))
set_option maxHeartbeats 4000000 in
set_option maxRecDepth 100000 in
theorem kX3_keep {p : Program} {l : Launch} {e : Env} {R : Room} {s : State} {m : MethodId} {args : Array Value} {below : List Frame} {meth : Method} {c : Code} {QQ : State → Prop} {g : va_G} {ct : Nat → ClassId} {ad : Nat → Nat} {n0 n2 ro : Nat} {A : Nat → Prop} (C : CallFix p m c cX3_keep 4 s args wsX3_keep RX3) (hK : va_K g vwCl (xT ct) s) (hN : xN s) (hA : ∀ q, s.heap.size ≤ q → A q) (hRf : 5 ≤ R.frames) (hRl : 200 ≤ R.locals) (hRc : n2 ≤ R.cells + n0 ∧ 2 * n2 ≤ R.slots + 2 * n0) (hn : n0 ≤ n2) (Q : St → Prop) (hret : ∀ (pc : Nat) (S : St) (ro : Nat) (H : Heap) (locs : List Loc) (ls : Array Slot) (cells slots : Nat), decode cX3_keep pc = .ok (.return_, 1) → Q S → va_P g vwCl (wX ct ad n2 ro S) H → va_D A (wX ct ad n2 ro S) → va_S A s.heap H locs → cells + n0 = n2 ∧ slots + 2 * n0 = 2 * n2 ∧ n2 ≤ n2 → W p l e R s m args below meth c H locs cells slots QQ (F0 m pc ls [])) (x1 : Int64) (S : St) (h : pX3_keep n0 n2 x1 S Q) (H : Heap) (locs : List Loc) (ls : Array Slot) (hP : va_P g vwCl (wX ct ad n0 ro S) H) (hD : va_D A (wX ct ad n0 ro S)) (hS : va_S A s.heap H locs) (hl : lv_has ls 4 [(0, .ref (ad 16)), (1, .long x1)]) : W p l e R s m args below meth c H locs 0 0 QQ (F0 m 0 ls []) := by
  have hinX3 : ∀ w ∈ wsX30, w ∈ wsX3_keep := by decide +kernel
  have B56 : ∀ (x3 : Int32) (n ro cells slots : Nat) (S : St) (H : Heap) (locs : List Loc) (ls : Array Slot), bX3_keep_56 n2 Q x1 x3 n S → cells + n0 = n ∧ slots + 2 * n0 = 2 * n ∧ n ≤ n2 → va_P g vwCl (wX ct ad n ro S) H → va_D A (wX ct ad n ro S) → va_S A s.heap H locs → lv_has ls 4 [(0, .ref (ad 16)), (1, .long x1), (3, .int x3)] → W p l e R s m args below meth c H locs cells slots QQ (F0 m 56 ls []) := by
    intro x3 n ro cells slots S H locs ls h hc hP hD hS hl
    obtain ⟨h1, h2, h3, h4, h5, h⟩ := h
    refine lv_aload_n C.1 C.2.1 dX3_keep_56 rfl (lv_at hl 0 rfl) ?_
    refine xg3_rows C hinX3 hK hP (by decide +kernel) dX3_keep_57 ?_
    refine lv_iload_n C.1 C.2.1 dX3_keep_60 rfl (lv_at hl 2 rfl) ?_
    refine lv_aload_n C.1 C.2.1 dX3_keep_61 rfl (lv_at hl 0 rfl) ?_
    refine xg3_rows C hinX3 hK hP (by decide +kernel) dX3_keep_62 ?_
    refine lv_iload_n C.1 C.2.1 dX3_keep_65 rfl (lv_at hl 2 rfl) ?_
    refine lv_iconst (v := 1) C.1 C.2.1 dX3_keep_66 (by decide) ?_
    refine lv_iadd C.1 C.2.1 dX3_keep_67 ?_
    refine lv_aload_n C.1 C.2.1 dX3_keep_68 rfl (lv_at hl 0 rfl) ?_
    refine xg3_size C hinX3 hK hP (by decide +kernel) dX3_keep_69 ?_
    refine lv_iload_n C.1 C.2.1 dX3_keep_72 rfl (lv_at hl 2 rfl) ?_
    refine lv_isub C.1 C.2.1 dX3_keep_73 ?_
    refine va_copyl (ty := .long) C.1 C.2.1 (by rw [C.2.2.1]; exact hl.1.symm) C.2.2.2.1 (C.2.2.2.2 (.methodLink RX3 31 arraycopyName) (by decide +kernel)) (C.2.2.2.2 (.native arraycopyName) (by decide +kernel)) (C.2.2.2.2 (.static arraycopyName) (by decide +kernel)) (C.2.2.2.2 (.initialized "java/lang/System") (by decide +kernel)) hK hP hD hS 17 17 1 1 rfl rfl rfl rfl rfl h1 h2 h3 h4 h5 (fun i _ => rfl) (Nat.le_trans (by decide) hRf) (Nat.le_trans (by decide +kernel) hRl) dX3_keep_74 (fun H locs hP hD hS => ?_)
    obtain ⟨S1, eS1⟩ : ∃ z : St, z = setL S 1 (va_cpy (S.2.2 1) (S.2.2 1) x3.toNatClampNeg (x3 + (1 : Int32)).toNatClampNeg ((S.1 17 0) - x3).toNatClampNeg) := ⟨_, rfl⟩
    have h := h S1 eS1
    have hP : va_P g vwCl (wX ct ad n ro S1) H := by rw [eS1]; exact hP
    have hD : va_D A (wX ct ad n ro S1) := by rw [eS1]; exact hD
    obtain ⟨g1, h⟩ := h
    refine lv_aload_n C.1 C.2.1 dX3_keep_77 rfl (lv_at hl 0 rfl) ?_
    refine xg3_rows C hinX3 hK hP (by decide +kernel) dX3_keep_78 ?_
    refine lv_iload_n C.1 C.2.1 dX3_keep_81 rfl (lv_at hl 2 rfl) ?_
    refine lv_lload_n C.1 C.2.1 dX3_keep_82 rfl (lv_at hl 1 rfl) ?_
    obtain ⟨S2, eS2⟩ : ∃ z : St, z = wrL S1 1 (Int32.toNatClampNeg x3) x1 := ⟨_, rfl⟩
    have h := h S2 eS2
    refine xs_out C hK hP hD hS g1 rfl dX3_keep_83 (fun H locs hP hD hS => ?_)
    rw [← eS2] at hP hD
    refine lv_aload_n C.1 C.2.1 dX3_keep_84 rfl (lv_at hl 0 rfl) ?_
    refine lv_dup C.1 C.2.1 dX3_keep_85 rfl ?_
    refine xg3_size C hinX3 hK hP (by decide +kernel) dX3_keep_86 ?_
    refine lv_iconst (v := 1) C.1 C.2.1 dX3_keep_89 (by decide) ?_
    refine lv_iadd C.1 C.2.1 dX3_keep_90 ?_
    obtain ⟨S3, eS3⟩ : ∃ z : St, z = wr S2 17 0 ((S2.1 17 0) + (1 : Int32)) := ⟨_, rfl⟩
    have h := h S3 eS3
    refine xp3_size C hinX3 hK hP hD hS (by decide +kernel) dX3_keep_91 (fun H locs hP hD hS => ?_)
    rw [← eS3] at hP hD
    obtain ⟨en, h⟩ := h
    rw [en] at hP hD hc
    exact hret _ _ _ _ _ _ _ _ dX3_keep_94 h hP hD hS hc
  have B26 : ∀ (x3 : Int32) (S : St) (H : Heap) (locs : List Loc) (ls : Array Slot), bX3_keep_26 n2 Q x1 x3 n0 S → va_P g vwCl (wX ct ad n0 ro S) H → va_D A (wX ct ad n0 ro S) → va_S A s.heap H locs → lv_has ls 4 [(0, .ref (ad 16)), (1, .long x1), (3, .int x3)] → W p l e R s m args below meth c H locs 0 0 QQ (F0 m 26 ls []) := by
    intro x3 S H locs ls h hP hD hS hl
    refine lv_aload_n C.1 C.2.1 dX3_keep_26 rfl (lv_at hl 0 rfl) ?_
    refine xg3_size C hinX3 hK hP (by decide +kernel) dX3_keep_27 ?_
    refine lv_aload_n C.1 C.2.1 dX3_keep_30 rfl (lv_at hl 0 rfl) ?_
    refine xg3_rows C hinX3 hK hP (by decide +kernel) dX3_keep_31 ?_
    refine xl_out C hK hP dX3_keep_34 ?_
    refine lv_icmp_lt (tgt := 56) C.1 C.2.1 dX3_keep_35 (by decide) (fun c1 => ?_) (fun c1 => ?_)
    · have h := h.1 c1
      exact B56 x3 n0 ro 0 0 S H locs ls h (by omega) hP hD hS hl
    · obtain ⟨e2, hpos, hb2, h⟩ := h.2 c1
      refine lv_aload_n C.1 C.2.1 dX3_keep_38 rfl (lv_at hl 0 rfl) ?_
      refine lv_aload_n C.1 C.2.1 dX3_keep_39 rfl (lv_at hl 0 rfl) ?_
      refine xg3_rows C hinX3 hK hP (by decide +kernel) dX3_keep_40 ?_
      refine lv_aload_n C.1 C.2.1 dX3_keep_43 rfl (lv_at hl 0 rfl) ?_
      refine xg3_rows C hinX3 hK hP (by decide +kernel) dX3_keep_44 ?_
      refine xl_out C hK hP dX3_keep_47 ?_
      refine lv_iconst (v := 2) C.1 C.2.1 dX3_keep_48 (by decide) ?_
      refine lv_imul C.1 C.2.1 dX3_keep_49 ?_
      have hxx : nI n0 * (2 : Int32) = nI n2 := by
        rw [e2, Nat.mul_comm]
        exact pk_mul n0 2
      have hFc := g_free hD hS hA
      refine va_callr (va_runS (As := [.ref ro, .int (nI n0 * (2 : Int32))]) (rest := [.ref (ad 16)]) C (m_copyOf l g (xT ct) (wX ct ad n0 ro S) H.size ro n0 n2 17 1 (ct 1) (S.2.2 1) (nI n0 * (2 : Int32)) rfl rfl hxx (by omega) hb2) (va_cwS 2 C.2.2.2.2 gX3_keep_J7_copyOf_c38d5 rfl rfl rfl (by decide +kernel) ⟨Nat.le_trans (show 1 + 1 ≤ 5 by decide) hRf, Nat.le_trans (show 8 + (3 + 11) + 100 ≤ 200 by decide) hRl⟩) ⟨gPc_blind, fun U hU hW => gPc_at hU hW hP hK hD hN⟩ rfl rfl hl.1 rfl (lv_room (Nat.le_of_ble_eq_true rfl)) dX3_keep_50 ⟨by omega, by omega⟩) hS (fun q _ h => hFc q h) hFc (fun u q t H1 locs ht hvm hw hB hz1 hk1 hS => ?_)
      obtain ⟨hP1, hK1, hD1⟩ := hB
      rw [ht] at hP1
      have hD1 : va_D A _ := hD1.weaken (fun k q _ h => hFc q.1 h)
      have h16 : (wX ct ad n0 ro S ++ ([(q, .inl (ct 1, n2, .inr (.inl (va_cpy (S.2.2 1) (fun _ => 0) 0 0 n0))))] : va_W))[16]? = some (ad 16, .inr (3, [.ref ro, .int (S.1 17 0)])) := rfl
      refine va_put (D := g) (ci := 3) (v := .ref q) (ty := .array .long) (C := RX3) (T := TX3) (N := 2) C.1 C.2.1 C.2.2.2.2 hinX3 tyX3 tyX3_ok nmX3 C.2.2.2.1 hK hP1 hD1 hS 16 h16 rfl 0 (by decide) (C.2.2.2.2 (.fieldLink RX3 9 "LitmusRunner$Outcomes" "rows" "[J") (by decide +kernel)) (fun _ h9 => h9) rfl (by decide +kernel) rfl rfl (Nat.le_of_ble_eq_true rfl) dX3_keep_53 (fun H locs hP hD hS => ?_)
      have hP := wX_growP hP
      have hD := wX_growD hD
      refine W.widen (k := n2 - n0) (n := 2 * (n2 - n0)) (by omega) (by omega) ?_
      exact B56 x3 n2 q (n2 - n0) (2 * (n2 - n0)) _ H locs ls (h _ rfl) (by omega) hP hD hS hl
  refine lv_aload_n C.1 C.2.1 dX3_keep_0 rfl (lv_at hl 0 rfl) ?_
  refine lv_lload_n C.1 C.2.1 dX3_keep_1 rfl (lv_at hl 1 rfl) ?_
  refine g_callVi (w := wX ct ad n0 ro) C hK hN hA hP hD hS (mX3_spotOf l g ct ad n0 ro H.size S x1 _ h) (cwV 1 C.2.2.2.2 gX3_keep_X3_spotOf rfl rfl rfl (by decide +kernel) ⟨Nat.le_trans (by decide) hRf, Nat.le_trans (by decide) hRl⟩) (va_recv hK hP (ci := 3) (q0 := 16) rfl rfl) rfl hl.1 rfl (Nat.le_of_ble_eq_true rfl) dX3_keep_2 (by omega) (fun r S H locs h hP hD hS => ?_)
  refine lv_istore_n (lv' := [(3, .int r), (0, .ref (ad 16)), (1, .long x1)]) C.1 C.2.1 dX3_keep_5 rfl hl (by decide) rfl (fun ls hl => ?_)
  refine lv_iload_n C.1 C.2.1 dX3_keep_6 rfl (lv_at hl 0 rfl) ?_
  refine lv_aload_n C.1 C.2.1 dX3_keep_7 rfl (lv_at hl 1 rfl) ?_
  refine xg3_size C hinX3 hK hP (by decide +kernel) dX3_keep_8 ?_
  refine lv_icmp_ge (tgt := 26) C.1 C.2.1 dX3_keep_11 (by decide) (fun c1 => ?_) (fun c1 => ?_)
  · have h := h.1 c1
    exact B26 r S H locs ls h hP hD hS (lv_sub hl [1, 2, 0] rfl)
  · obtain ⟨g1, h⟩ := h.2 c1
    refine lv_aload_n C.1 C.2.1 dX3_keep_14 rfl (lv_at hl 1 rfl) ?_
    refine xg3_rows C hinX3 hK hP (by decide +kernel) dX3_keep_15 ?_
    refine lv_iload_n C.1 C.2.1 dX3_keep_18 rfl (lv_at hl 0 rfl) ?_
    refine xa_out C hK hP g1 rfl dX3_keep_19 ?_
    refine lv_lload_n C.1 C.2.1 dX3_keep_20 rfl (lv_at hl 2 rfl) ?_
    refine W.lcmp C.1 C.2.1 dX3_keep_21 ?_
    refine lv_if_ne (tgt := 26) C.1 C.2.1 dX3_keep_22 (by decide) (fun c2 => ?_) (fun c2 => ?_)
    · have h := h.1 c2
      exact B26 r S H locs ls h hP hD hS (lv_sub hl [1, 2, 0] rfl)
    · obtain ⟨en, h9⟩ := h.2 c2
      rw [en] at hP hD
      exact hret _ _ _ _ _ _ _ _ dX3_keep_25 h9 hP hD hS (by omega)
theorem mX3_keep (l : Launch) (g : va_G) (ct : Nat → ClassId) (ad : Nat → Nat) (sz n0 n2 ro : Nat) (S : St) (x1 : Int64) (Q : St → Prop) (hn : n0 ≤ n2) (h : pX3_keep n0 n2 x1 S Q) : Met l yX3_keep wsX3_keep ({ frames := 5, cells := n2 - n0, slots := 2 * (n2 - n0), locals := 200 }) (gPc g (xT ct) (wX ct ad n0 ro S) sz [.ref (ad 16), .long x1]) (va_Qv Q (gBg g ct ad n2 (va_A (wX ct ad n0 ro S) sz)) (va_A (wX ct ad n0 ro S) sz)) (n2 - n0) (2 * (n2 - n0)) (va_A (wX ct ad n0 ro S) sz) :=
  g_metVg (cc := cX3_keep) (maxL := 4) hn rfl rfl (by decide) rfl rfl (Nat.le_of_ble_eq_true rfl) rfl (fun p e s m args below meth c QQ A C hK hN hA hret H locs ls hP hD hS hl => kX3_keep C hK hN hA (Nat.le_refl _) (Nat.le_refl _) (by show n2 ≤ (n2 - n0) + n0 ∧ 2 * n2 ≤ 2 * (n2 - n0) + 2 * n0; omega) hn Q hret x1 S h H locs ls hP hD hS hl)
