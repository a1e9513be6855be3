/-! the law's start: what is known of the tables and of the class's texts; its loop -/
theorem l_and15 (y : Int32) : ∃ j, j < 16 ∧ y &&& 15 = nI j := by
  refine ⟨y.toBitVec.toNat % 16, Nat.mod_lt _ (by decide), ?_⟩
  apply Int32.toBitVec_inj.mp
  apply BitVec.eq_of_toNat_eq
  show (y.toBitVec &&& 15#32).toNat = (BitVec.ofNat 32 (y.toBitVec.toNat % 16)).toNat
  rw [BitVec.toNat_and, BitVec.toNat_ofNat, BitVec.toNat_ofNat, show 15 % 2 ^ 32 = 2 ^ 4 - 1 from rfl, Nat.and_two_pow_sub_one_eq_mod]
  have : y.toBitVec.toNat % 16 < 16 := Nat.mod_lt _ (by decide)
  rw [Nat.mod_eq_of_lt (a := y.toBitVec.toNat % 16) (by omega)]
theorem l_less8 : ∀ L, L < 8 → (nI L - 8).toInt = (L : Int) - 8 := by decide +kernel
theorem l_gt {L i : Nat} (hL : L ≤ 4096) (hi : i ≤ 4096) : nI L - (8 : Int32) < nI i ↔ L < i + 8 := by
  rcases Nat.lt_or_ge L 8 with h | h
  · rw [Int32.lt_iff_toInt_lt, l_less8 L h, nI_toInt (by omega)]; omega
  · rw [show (8 : Int32) = nI 8 from rfl, pk_sub h, nI_ltI (by omega) (by omega)]; omega
section LST
variable {p : Program} {s : State} {m : MethodId} {meth : Method} {c : Code} {b L : Nat} {xs : Nat → Int32}
theorem l_xN (C0 : lw_At p s m meth c b L xs) : xN s := by
  obtain ⟨hx, hb, hr, hml, hown, hts, hX, hbl, hlocks, hgv⟩ := C0
  have hin : ∀ w ∈ xNw, w ∈ lw_tbl := by decide +kernel
  intro w hw
  have h2 := xNw_k w hw
  have h1 := hts w (hin w hw)
  cases w with
  | fieldLinkNest a i b n d h => exact va_Nw.of rfl h1
  | methodLinkNest a i x h => exact va_Nw.of rfl h1
  | _ => cases h2
def sTm (i : Nat) : Term := .string "LitmusRunner$Programs" (sIdx.getD i 0)
set_option maxRecDepth 100000 in
theorem l_sG (C0 : lw_At p s m meth c b L xs) : ∃ ak av : Nat → Nat, sG ak av (fun q : Nat => s.heap.size ≤ q) s s.heap := by
  obtain ⟨hx, hb, hr, hml, hown, hts, hX, hbl, hlocks, hgv⟩ := C0
  have hs := flat_of_before _ hgv
  have hA : ∀ a : Nat, a < s.heap.size → ¬ (fun q : Nat => s.heap.size ≤ q) a := fun a h => Nat.not_le.mpr h
  have seven : ∀ {q : Nat → Prop}, q 0 → q 1 → q 2 → q 3 → q 4 → q 5 → q 6 → ∀ i, i < 7 → q i := by
    intro q h0 h1 h2 h3 h4 h5 h6 i hi
    rcases (show i = 0 ∨ i = 1 ∨ i = 2 ∨ i = 3 ∨ i = 4 ∨ i = 5 ∨ i = 6 by omega) with rfl | rfl | rfl | rfl | rfl | rfl | rfl
    · exact h0
    · exact h1
    · exact h2
    · exact h3
    · exact h4
    · exact h5
    · exact h6
  have wIn : ∀ w, w ∈ flatC (Jvm.Cond.and given_1 narrow_1) → w.before #[Value.ref b] s = true := hs
  have all1 : ∀ i, i < 7 → Cond.exactly (sTm i) "java/lang/String" ∈ flatC (Jvm.Cond.and given_1 narrow_1) := by decide +kernel
  have all2 : ∀ i, i < 7 → Cond.eq (.field (sTm i) "java/lang/String" "coder" "B") (.int 0) ∈ flatC (Jvm.Cond.and given_1 narrow_1) := by decide +kernel
  have all3 : ∀ i, i < 7 → Cond.arrayOf (.field (sTm i) "java/lang/String" "value" "[B") .byte ∈ flatC (Jvm.Cond.and given_1 narrow_1) := by decide +kernel
  have all4 : ∀ i, i < 7 → Cond.eq (.length (.field (sTm i) "java/lang/String" "value" "[B")) (.int (Int32.ofNat (sLen.getD i 0))) ∈ flatC (Jvm.Cond.and given_1 narrow_1) := by decide +kernel
  have all5 : ∀ i, i < 7 → ∀ j, j < sLen.getD i 0 → Cond.eq (.elem (.field (sTm i) "java/lang/String" "value" "[B") (.int (Int32.ofNat j))) (.int ((sByt.getD i []).getD j 0)) ∈ flatC (Jvm.Cond.and given_1 narrow_1) := by decide +kernel
  have all6 : ∀ i, i < 7 → ∀ j, j < 7 → i ≠ j → Cond.not (Cond.eq (sTm i) (sTm j)) ∈ flatC (Jvm.Cond.and given_1 narrow_1) ∨ Cond.not (Cond.eq (sTm j) (sTm i)) ∈ flatC (Jvm.Cond.and given_1 narrow_1) := by decide +kernel
  have all7 : ∀ i, i < 7 → Cond.stringRef "LitmusRunner$Programs" (sIdx.getD i 0) (sTx.getD i "") ∈ lw_tbl := by decide +kernel
  obtain ⟨ak, av, hS, hT⟩ := vk_Sof (args := #[Value.ref b]) (N := 7) (tm := sTm) (len := sLen) (byt := sByt) (A := fun q : Nat => s.heap.size ≤ q) (by decide) (fun i hi => hs _ (all1 i hi)) (fun i hi => hs _ (all2 i hi)) (fun i hi => hs _ (all3 i hi)) (fun i hi => hs _ (all4 i hi)) (fun i hi j hj => hs _ (all5 i hi j hj)) (fun i j hi hj e => (all6 i hi j hj e).imp (hs _) (hs _)) hA
  refine ⟨ak, av, hS, fun i hi => vk_R.of (hts _ (all7 i hi)) (hT i hi), ?_, ?_⟩
  · exact va_Zof (hts (.laysStatic "java/lang/String" "COMPACT_STRINGS" "Z") (by decide +kernel)) (hts (.initialized "java/lang/String") (by decide +kernel)) (va_eqt (hs _ (by decide +kernel))) hA
  · exact va_Zqof (hts (.laysStatic "jdk/internal/util/Preconditions" "SIOOBE_FORMATTER" "Ljava/util/function/BiFunction;") (by decide +kernel)) (hts (.initialized "jdk/internal/util/Preconditions") (by decide +kernel)) (hs _ (by decide +kernel)) hA
theorem l_K (C0 : lw_At p s m meth c b L xs) : ∃ (g : va_G) (ct : Nat → ClassId), va_K g vwCl (xT ct) s ∧ va_K g vwCl (mT ct) s ∧ va_AO RX0 s ∧ aoI s := by
  obtain ⟨hx, hb, hr, hml, hown, hts, hX, hbl, hlocks, hgv⟩ := C0
  obtain ⟨c0, i0, k0⟩ := u_known (C := RX0) (T := TX0) (N := 14) (n := 14) hts inX0 (hts (.instantiable RX0 14) (by decide +kernel))
  obtain ⟨c1, i1, k1⟩ := u_known (C := RX1) (T := TX1) (N := 4) (n := 4) hts inX1 (hts (.instantiable RX1 4) (by decide +kernel))
  obtain ⟨c2, i2, k2⟩ := u_known (C := RX2) (T := TX2) (N := 7) (n := 7) hts inX2 (hts (.instantiable RX2 7) (by decide +kernel))
  obtain ⟨c3, i3, k3⟩ := u_known (C := RX3) (T := TX3) (N := 2) (n := 2) hts inX3 (hts (.instantiable RX3 2) (by decide +kernel))
  obtain ⟨c4, i4, k4⟩ := u_known (C := RX4) (T := TX4) (N := 5) (n := 5) hts inX4 (hts (.instantiable RX4 5) (by decide +kernel))
  obtain ⟨c5, i5, k5⟩ := u_known (C := RX5) (T := TX5) (N := 14) (n := 14) hts inX5 (hts (.instantiable RX5 14) (by decide +kernel))
  obtain ⟨c6, i6, k6⟩ := u_known (C := RX6) (T := TX6) (N := 8) (n := 8) hts inX6 (hts (.instantiable RX6 8) (by decide +kernel))
  obtain ⟨c7, i7, k7⟩ := u_known (C := RX7) (T := TX7) (N := 35) (n := 35) hts inX7 (hts (.instantiable RX7 35) (by decide +kernel))
  have hKc : ∀ (k : Nat) (q : vw_C), vwCl[k]? = some q → u_Kn s q.1 q.2.1 q.2.2 ((fun k => if k = 0 then c0 else if k = 1 then c1 else if k = 2 then c2 else if k = 3 then c3 else if k = 4 then c4 else if k = 5 then c5 else if k = 6 then c6 else c7) k) ((fun k => if k = 0 then i0 else if k = 1 then i1 else if k = 2 then i2 else if k = 3 then i3 else if k = 4 then i4 else if k = 5 then i5 else if k = 6 then i6 else i7) k) := by
    intro k q hq
    have hk : k < 8 := (List.getElem?_eq_some_iff.mp hq).1
    rcases (show k = 0 ∨ k = 1 ∨ k = 2 ∨ k = 3 ∨ k = 4 ∨ k = 5 ∨ k = 6 ∨ k = 7 by omega) with rfl | rfl | rfl | rfl | rfl | rfl | rfl | rfl
    · cases hq; exact k0
    · cases hq; exact k1
    · cases hq; exact k2
    · cases hq; exact k3
    · cases hq; exact k4
    · cases hq; exact k5
    · cases hq; exact k6
    · cases hq; exact k7
  obtain ⟨a0, ka, ca, e0, f0, g0⟩ := Cond.arrayClass_spec (hts (.arrayClass .int) (by decide +kernel))
  obtain ⟨a1, kb, cb, e1, f1, g1⟩ := Cond.arrayClass_spec (hts (.arrayClass .long) (by decide +kernel))
  obtain ⟨a4, kd, cd, e4, f4, g4⟩ := Cond.arrayClass_spec (hts (.arrayClass .boolean) (by decide +kernel))
  have hO : va_AO RX0 s := va_AO.of (hts (.arrayOver (.object "LitmusRunner$Access")) (by decide +kernel))
  have hI : aoI s := aoI_of (hts (.arrayOver (.array .int)) (by decide +kernel))
  obtain ⟨comp2, a2, kc, h21, h22, h23, h24, h25⟩ := Cond.arrayOver_spec (n := "LitmusRunner$Access") hO
  obtain ⟨comp3, a3, ke, h31, h32, h33, h34⟩ := id hI
  have e3 : "[" ++ (FieldType.array FieldType.int).toString = "[[I" := by decide +kernel
  refine ⟨(_, _), fun k => if k = 0 then a0 else if k = 1 then a1 else if k = 2 then a2 else if k = 3 then a3 else a4, ⟨hKc, fun k q hq => ?_⟩, ⟨hKc, fun k q hq => ?_⟩, hO, hI⟩
  · have hk : k < 4 := (List.getElem?_eq_some_iff.mp hq).1
    rcases (show k = 0 ∨ k = 1 ∨ k = 2 ∨ k = 3 by omega) with rfl | rfl | rfl | rfl
    · cases hq; exact ⟨fun N z => ⟨(fun q hq => by cases hq), ka, f0, ca, g0⟩, e0⟩
    · cases hq; exact ⟨fun N z => ⟨(fun q hq => by cases hq), kb, f1, cb, g1⟩, e1⟩
    · cases hq; exact ⟨fun N z => ⟨(fun q hq => by cases hq), kc, h23, comp2, h24⟩, kc, comp2, h23, h24, h21, h25⟩
    · cases hq
      refine ⟨fun N z => ⟨(fun q hq => by cases hq), ke, h32, comp3, h33⟩, ?_⟩
      show s.vm.findClass ("[" ++ (FieldType.array FieldType.int).toString) = some a3
      rw [e3]; exact h34
  · have hk : k < 3 := (List.getElem?_eq_some_iff.mp hq).1
    rcases (show k = 0 ∨ k = 1 ∨ k = 2 by omega) with rfl | rfl | rfl
    · cases hq; exact ⟨fun N z => ⟨(fun q hq => by cases hq), ka, f0, ca, g0⟩, e0⟩
    · cases hq; exact ⟨fun N z => ⟨(fun q hq => by cases hq), kb, f1, cb, g1⟩, e1⟩
    · cases hq; exact ⟨fun N z => ⟨(fun q hq => by cases hq), kd, f4, cd, g4⟩, e4⟩
end LST
set_option maxHeartbeats 8000000 in
theorem law_loop {p : Program} {l : Launch} {e : Env} {s : State} {m : MethodId} {below : List Frame} {meth : Method} {c : Code} {b L : Nat} {xs : Nat → Int32} {g : va_G} {ct : Nat → ClassId} {ad bd ak av : Nat → Nat} (hL : L ≤ 4096) (C0 : lw_At p s m meth c b L xs) (hKx : va_K g vwCl (xT ct) s) (hKm : va_K g vwCl (mT ct) s) (hN : xN s) (hG : sG ak av (fun q : Nat => s.heap.size ≤ q) s s.heap) :
    ∀ (k i : Nat), i ≤ L → L < i + 8 * k → ∀ (mo : Nat) (P : Nat → Nat → Nat → Nat) (Ln : Nat → Nat) (fo : Bool) (n ro : Nat) (S T : St) (H : Heap) (locs : List Loc) (ls : Array Slot), LI g ct ad bd s mo P Ln fo n ro S T H locs → lv_has ls 4 [(0, .ref b), (1, .ref (ad 0)), (2, .ref (bd 0)), (3, .int (nI i))] → W p l e room_1 s m #[Value.ref b] below meth c H locs (n + 10) (2 * n + 40856) (lw_Z below #[Value.ref b] s) (F0 m 18 ls []) := by
  obtain ⟨hx, hb, hr, hml, hown, hts, hX, hbl, hlocks, hgv⟩ := C0
  have hbA : ¬ (fun q : Nat => s.heap.size ≤ q) b := Nat.not_le.mpr hbl
  have C : CallFix p m c cL_law 4 s #[Value.ref b] wsL_law RL := ⟨hx, hb, hml, hown, fun w h => hts w (wsL_law_in w h)⟩
  intro k
  induction k with
  | zero => intro i h1 h2; omega
  | succ k ih =>
    intro i h1 h2 mo P Ln fo n ro S T H locs ls hLI hl
    have hn := (IsC_b hLI.2.1.2.2.2.2.2.1).2
    have hS := hLI.2.2.2.2.2.2.2.2
    refine lv_iload_n C.1 C.2.1 dL_law_18 rfl (lv_at hl 3 rfl) ?_
    refine lv_aload_n C.1 C.2.1 dL_law_19 rfl (lv_at hl 0 rfl) ?_
    refine va_slen C.1 C.2.1 hX hbl hbA hS dL_law_20 ?_
    refine lv_bipush (v := 8) C.1 C.2.1 dL_law_21 (by decide) ?_
    refine lv_isub C.1 C.2.1 dL_law_23 ?_
    refine lv_icmp_gt (tgt := 459) C.1 C.2.1 dL_law_24 (by decide) (fun q => ?_) (fun q => ?_)
    · refine lv_iconst (v := 1) C.1 C.2.1 dL_law_459 (by decide) ?_
      refine va_forget (fun q hq => hS.2.2 q hq) ?_
      refine W.widen (k := 600000) (n := 7302250) (by omega) (by omega) ?_
      exact lw_ret hx hb hr hlocks dL_law_460
    · have hi : i + 8 ≤ L := by
        have q' : ¬ (nI L - (8 : Int32) < nI i) := q
        rw [l_gt hL (by omega)] at q'; omega
      have nx : NX p l e s m below meth c b i (lw_Z below #[Value.ref b] s) g ct ad bd := by
        intro mo P Ln fo n ro S T H locs ls hLI hl
        refine lv_iinc (v := nI (i + 8)) (lv' := [(3, .int (nI (i + 8))), (0, .ref b), (1, .ref (ad 0)), (2, .ref (bd 0))]) C.1 C.2.1 dL_law_453 hl (k := 3) rfl (by rw [← nI_add]; rfl) (by decide) rfl (fun ls hl => ?_)
        refine lv_goto (tgt := 18) C.1 C.2.1 dL_law_456 (by decide) ?_
        exact ih (i + 8) hi (by omega) mo P Ln fo n ro S T H locs ls hLI (lv_sub hl [1, 2, 3, 0] rfl)
      refine lv_aload_n C.1 C.2.1 dL_law_27 rfl (lv_at hl 0 rfl) ?_
      refine lv_iload_n C.1 C.2.1 dL_law_28 rfl (lv_at hl 3 rfl) ?_
      refine va_sld C.1 C.2.1 hX hbl hbA hS (nu_in (by omega) (by omega)) dL_law_29 ?_
      refine lv_bipush (v := 15) C.1 C.2.1 dL_law_30 (by decide) ?_
      refine lv_iand C.1 C.2.1 dL_law_32 ?_
      obtain ⟨j, hj, ej⟩ := l_and15 (xs (nI i).toNatClampNeg)
      rw [ej]
      have tj : (nI j).toInt = (j : Int) := nI_toInt (by omega)
      by_cases h9 : 9 < j
      · refine lv_tableOut (tgt := 453) C.1 C.2.1 dL_law_33 (Or.inr (by rw [tj]; omega)) (by decide) ?_
        exact nx mo P Ln fo n ro S T H locs ls hLI hl
      · rcases (show j = 0 ∨ j = 1 ∨ j = 2 ∨ j = 3 ∨ j = 4 ∨ j = 5 ∨ j = 6 ∨ j = 7 ∨ j = 8 ∨ j = 9 by omega) with rfl | rfl | rfl | rfl | rfl | rfl | rfl | rfl | rfl | rfl
        · refine lv_tableIn (tgt := 88) C.1 C.2.1 dL_law_33 (by decide) (by decide) rfl (by decide) ?_
          exact k_clear C hX hbl hKx hKm hN hi hL nx hLI hl
        · refine lv_tableIn (tgt := 101) C.1 C.2.1 dL_law_33 (by decide) (by decide) rfl (by decide) ?_
          exact k_model C hX hbl hKx hKm hN hi hL nx hLI hl
        · refine lv_tableIn (tgt := 124) C.1 C.2.1 dL_law_33 (by decide) (by decide) rfl (by decide) ?_
          exact k_add hG C hX hbl hKx hKm hN hi hL nx hLI hl
        · refine lv_tableIn (tgt := 211) C.1 C.2.1 dL_law_33 (by decide) (by decide) rfl (by decide) ?_
          exact k_find C hX hbl hKx hKm hN hi hL nx hLI hl
        · refine lv_tableIn (tgt := 224) C.1 C.2.1 dL_law_33 (by decide) (by decide) rfl (by decide) ?_
          exact k_outcome C hX hbl hKx hKm hN hi hL nx hLI hl
        · refine lv_tableIn (tgt := 248) C.1 C.2.1 dL_law_33 (by decide) (by decide) rfl (by decide) ?_
          exact k_with C hX hbl hKx hKm hN hi hL nx hLI hl
        · refine lv_tableIn (tgt := 281) C.1 C.2.1 dL_law_33 (by decide) (by decide) rfl (by decide) ?_
          exact k_both C hX hbl hKx hKm hN hi hL nx hLI hl
        · refine lv_tableIn (tgt := 334) C.1 C.2.1 dL_law_33 (by decide) (by decide) rfl (by decide) ?_
          exact k_is C hX hbl hKx hKm hN hi hL nx hLI hl
        · refine lv_tableIn (tgt := 387) C.1 C.2.1 dL_law_33 (by decide) (by decide) rfl (by decide) ?_
          exact k_instruction C hX hbl hKx hKm hN hi hL nx hLI hl
        · refine lv_tableIn (tgt := 430) C.1 C.2.1 dL_law_33 (by decide) (by decide) rfl (by decide) ?_
          exact k_count C hX hbl hKx hKm hN hi hL nx hLI hl
