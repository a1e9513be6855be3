def bX2_place_51 (n2 : Nat) (E : TE) (Q : St → Prop) (x1 : Int32) (x2 : Int32) (x3 : Int32) (x4 : Int32) (x5 : Int32) (n : Nat) (S : St) : Prop :=
  (∃ n1 : Nat, n ≤ n1 ∧ n1 ≤ n2 ∧ E (x2 ||| ((1 : Int32) <<< (x1 &&& 31))) (x3 + (1 : Int32)) n n1 S (fun (S2 : St) => (vp_in x4 3 ∧ ∀ S5 : St, S5 = wr S2 28 (Int32.toNatClampNeg x4) x5 → (n1 = n2 ∧ Q S5))))
def pX2_place (E : TE) (x1 : Int32) (x2 : Int32) (x3 : Int32) (n0 n2 : Nat) (S : St) (Q : St → Prop) : Prop :=
  pX5_accessAt x1 S (fun (i8 : Nat) (S7 : St) => (∀ y9 : Int32, y9 = (S7.1 32 i8) → (vp_in y9 3 ∧ (∀ y11 : Int32, y11 = (S7.1 28 (Int32.toNatClampNeg y9)) → (vp_in x1 6 ∧ ∀ S12 : St, S12 = wr S7 26 (Int32.toNatClampNeg x1) x3 → pX5_accessAt x1 S12 (fun (i15 : Nat) (S14 : St) => (((S14.1 35 i15) = 0 → bX2_place_51 n2 E Q x1 x2 x3 y9 y11 n0 S14) ∧ (¬ ((S14.1 35 i15) = 0) → (vp_in y9 3 ∧ ∀ S16 : St, S16 = wr S14 28 (Int32.toNatClampNeg y9) x1 → bX2_place_51 n2 E Q x1 x2 x3 y9 y11 n0 S16)))))))))
set_option maxHeartbeats 40000000 in
set_option maxRecDepth 100000 in
theorem kX2_place {p : Program} {l : Launch} {e : Env} {R : Room} {s : State} {m : MethodId} {args : Array Value} {below : List Frame} {meth : Method} {c : Code} {QQ : State → Prop} {g : va_G} {ct : Nat → ClassId} {ad : Nat → Nat} {n0 n2 ro : Nat} {A : Nat → Prop} (d : Nat) (E : TE) (hE : HE l g ct ad d E) (C : CallFix p m c cX2_place 6 s args wsX2_place RX2) (hK : va_K g vwCl (xT ct) s) (hN : xN s) (hA : ∀ q, s.heap.size ≤ q → A q) (hRf : 10 + 2 * d + 1 ≤ R.frames) (hRl : 400 + 49 * d + 24 ≤ R.locals) (hRc : n2 ≤ R.cells + n0 ∧ 2 * n2 ≤ R.slots + 2 * n0) (hn : n0 ≤ n2) (Q : St → Prop) (hret : ∀ (pc : Nat) (S : St) (ro : Nat) (H : Heap) (locs : List Loc) (ls : Array Slot) (cells slots : Nat), decode cX2_place pc = .ok (.return_, 1) → Q S → va_P g vwCl (wX ct ad n2 ro S) H → va_D A (wX ct ad n2 ro S) → va_S A s.heap H locs → cells + n0 = n2 ∧ slots + 2 * n0 = 2 * n2 ∧ n2 ≤ n2 → W p l e R s m args below meth c H locs cells slots QQ (F0 m pc ls [])) (x1 : Int32) (x2 : Int32) (x3 : Int32) (S : St) (h : pX2_place E x1 x2 x3 n0 n2 S Q) (H : Heap) (locs : List Loc) (ls : Array Slot) (hP : va_P g vwCl (wX ct ad n0 ro S) H) (hD : va_D A (wX ct ad n0 ro S)) (hS : va_S A s.heap H locs) (hl : lv_has ls 6 [(0, .ref (ad 12)), (1, .int x1), (2, .int x2), (3, .int x3)]) : W p l e R s m args below meth c H locs 0 0 QQ (F0 m 0 ls []) := by
  have hinX0 : ∀ w ∈ wsX00, w ∈ wsX2_place := by decide +kernel
  have hinX2 : ∀ w ∈ wsX20, w ∈ wsX2_place := by decide +kernel
  have B51 : ∀ (x1 : Int32) (x2 : Int32) (x3 : Int32) (x4 : Int32) (x5 : Int32) (n ro cells slots : Nat) (S : St) (H : Heap) (locs : List Loc) (ls : Array Slot), bX2_place_51 n2 E Q x1 x2 x3 x4 x5 n S → cells + n0 = n ∧ slots + 2 * n0 = 2 * n ∧ n ≤ n2 → va_P g vwCl (wX ct ad n ro S) H → va_D A (wX ct ad n ro S) → va_S A s.heap H locs → lv_has ls 6 [(0, .ref (ad 12)), (1, .int x1), (2, .int x2), (3, .int x3), (4, .int x4), (5, .int x5)] → W p l e R s m args below meth c H locs cells slots QQ (F0 m 51 ls []) := by
    intro x1 x2 x3 x4 x5 n ro cells slots S H locs ls h hc hP hD hS hl
    refine lv_aload_n C.1 C.2.1 dX2_place_51 rfl (lv_at hl 0 rfl) ?_
    refine lv_iload_n C.1 C.2.1 dX2_place_52 rfl (lv_at hl 2 rfl) ?_
    refine lv_iconst (v := 1) C.1 C.2.1 dX2_place_53 (by decide) ?_
    refine lv_iload_n C.1 C.2.1 dX2_place_54 rfl (lv_at hl 1 rfl) ?_
    refine lv_ishl C.1 C.2.1 dX2_place_55 ?_
    refine lv_ior C.1 C.2.1 dX2_place_56 ?_
    refine lv_iload_n C.1 C.2.1 dX2_place_57 rfl (lv_at hl 3 rfl) ?_
    refine lv_iconst (v := 1) C.1 C.2.1 dX2_place_58 (by decide) ?_
    refine lv_iadd C.1 C.2.1 dX2_place_59 ?_
    obtain ⟨n1, hn1, hn2, h⟩ := h
    refine g_callVvg C hK hN hA hP hD hS (hE H.size n n1 ro S (x2 ||| ((1 : Int32) <<< (x1 &&& 31))) (x3 + (1 : Int32)) _ hn1 h) (cwV 2 C.2.2.2.2 gX2_place_X2_extend rfl rfl rfl (by decide +kernel) ⟨show 10 + 2 * d + 1 ≤ R.frames by omega, show 8 + (5 + 11) + (400 + 49 * d) ≤ R.locals by omega⟩) (va_recv hK hP (ci := 2) (q0 := 12) rfl rfl) rfl hl.1 rfl (Nat.le_of_ble_eq_true rfl) dX2_place_60 (by omega) (fun S2 ro H locs cells3 slots4 ec es h hP hD hS => ?_)
    have hc : cells3 + n0 = n1 ∧ slots4 + 2 * n0 = 2 * n1 ∧ n1 ≤ n2 := by omega
    refine lv_aload_n C.1 C.2.1 dX2_place_63 rfl (lv_at hl 0 rfl) ?_
    refine xg2_latest C hinX2 hK hP (by decide +kernel) dX2_place_64 ?_
    refine lv_iload C.1 C.2.1 dX2_place_67 (lv_at hl 4 rfl) ?_
    refine lv_iload C.1 C.2.1 dX2_place_69 (lv_at hl 5 rfl) ?_
    obtain ⟨g6, h⟩ := h
    obtain ⟨S5, eS5⟩ : ∃ z : St, z = wr S2 28 (Int32.toNatClampNeg x4) x5 := ⟨_, rfl⟩
    have h := h S5 eS5
    refine xs_2_latest C hK hP hD hS  g6 rfl dX2_place_71 (fun H locs hP hD hS => ?_)
    rw [← eS5] at hP hD
    obtain ⟨en, h⟩ := h
    rw [en] at hP hD
    exact hret _ _ _ _ _ _ _ _ dX2_place_72 h hP hD hS (by omega)
  have hc : 0 + n0 = n0 ∧ 0 + 2 * n0 = 2 * n0 ∧ n0 ≤ n2 := by omega
  refine lv_aload_n C.1 C.2.1 dX2_place_0 rfl (lv_at hl 0 rfl) ?_
  refine xg2_way C hinX2 hK hP (by decide +kernel) dX2_place_1 ?_
  refine lv_iload_n C.1 C.2.1 dX2_place_4 rfl (lv_at hl 1 rfl) ?_
  refine g_callVr (w := wX ct ad n0 ro) C hK hN hA hP hD hS (mX5_accessAt l g ct ad n0 ro H.size S x1  _ h) (cwV 1 C.2.2.2.2 gX2_place_X5_accessAt rfl rfl rfl (by decide +kernel) ⟨show 0 + 1 ≤ R.frames by omega, show 8 + (2 + 11) + 0 ≤ R.locals by omega⟩) (va_recv hK hP (ci := 5) (q0 := 8) rfl rfl) rfl hl.1 rfl (Nat.le_of_ble_eq_true rfl) dX2_place_5 (by omega) (fun i8 S7 H locs hi8 h hP hD hS => ?_)
  refine xg0_location hi8 C hinX0 hK hP (hN _ (by decide +kernel)) dX2_place_8 ?_
  refine lv_topi (fun y9 ey9 => ?_)
  have h := h y9 ey9
  refine lv_istore (lv' := [(4, .int y9), (0, .ref (ad 12)), (1, .int x1), (2, .int x2), (3, .int x3)]) C.1 C.2.1 dX2_place_11 hl (by decide) rfl (fun ls hl => ?_)
  refine lv_aload_n C.1 C.2.1 dX2_place_13 rfl (lv_at hl 1 rfl) ?_
  refine xg2_latest C hinX2 hK hP (by decide +kernel) dX2_place_14 ?_
  refine lv_iload C.1 C.2.1 dX2_place_17 (lv_at hl 0 rfl) ?_
  obtain ⟨g10, h⟩ := h
  refine xa_2_latest C hK hP g10  rfl dX2_place_19 ?_
  refine lv_topi (fun y11 ey11 => ?_)
  have h := h y11 ey11
  refine lv_istore (lv' := [(5, .int y11), (4, .int y9), (0, .ref (ad 12)), (1, .int x1), (2, .int x2), (3, .int x3)]) C.1 C.2.1 dX2_place_20 hl (by decide) rfl (fun ls hl => ?_)
  refine lv_aload_n C.1 C.2.1 dX2_place_22 rfl (lv_at hl 2 rfl) ?_
  refine xg2_spots C hinX2 hK hP (by decide +kernel) dX2_place_23 ?_
  refine lv_iload_n C.1 C.2.1 dX2_place_26 rfl (lv_at hl 3 rfl) ?_
  refine lv_iload_n C.1 C.2.1 dX2_place_27 rfl (lv_at hl 5 rfl) ?_
  obtain ⟨g13, h⟩ := h
  obtain ⟨S12, eS12⟩ : ∃ z : St, z = wr S7 26 (Int32.toNatClampNeg x1) x3 := ⟨_, rfl⟩
  have h := h S12 eS12
  refine xs_2_spots C hK hP hD hS  g13 rfl dX2_place_28 (fun H locs hP hD hS => ?_)
  rw [← eS12] at hP hD
  refine lv_aload_n C.1 C.2.1 dX2_place_29 rfl (lv_at hl 2 rfl) ?_
  refine xg2_way C hinX2 hK hP (by decide +kernel) dX2_place_30 ?_
  refine lv_iload_n C.1 C.2.1 dX2_place_33 rfl (lv_at hl 3 rfl) ?_
  refine g_callVr (w := wX ct ad n0 ro) C hK hN hA hP hD hS (mX5_accessAt l g ct ad n0 ro H.size S12 x1  _ h) (cwV 1 C.2.2.2.2 gX2_place_X5_accessAt rfl rfl rfl (by decide +kernel) ⟨show 0 + 1 ≤ R.frames by omega, show 8 + (2 + 11) + 0 ≤ R.locals by omega⟩) (va_recv hK hP (ci := 5) (q0 := 8) rfl rfl) rfl hl.1 rfl (Nat.le_of_ble_eq_true rfl) dX2_place_34 (by omega) (fun i15 S14 H locs hi15 h hP hD hS => ?_)
  refine xg0_writes hi15 C hinX0 hK hP (hN _ (by decide +kernel)) dX2_place_37 ?_
  refine lv_if_eq (tgt := 51) C.1 C.2.1 dX2_place_40 (by decide) (fun c18 => ?_) (fun c18 => ?_)
  · have h := h.1 c18
    exact B51 x1 x2 x3 y9 y11 n0 ro 0 0 S14 H locs ls h hc hP hD hS (lv_sub hl [2, 3, 4, 5, 1, 0] rfl)
  · have h := h.2 c18
    refine lv_aload_n C.1 C.2.1 dX2_place_43 rfl (lv_at hl 2 rfl) ?_
    refine xg2_latest C hinX2 hK hP (by decide +kernel) dX2_place_44 ?_
    refine lv_iload C.1 C.2.1 dX2_place_47 (lv_at hl 1 rfl) ?_
    refine lv_iload_n C.1 C.2.1 dX2_place_49 rfl (lv_at hl 3 rfl) ?_
    obtain ⟨g17, h⟩ := h
    obtain ⟨S16, eS16⟩ : ∃ z : St, z = wr S14 28 (Int32.toNatClampNeg y9) x1 := ⟨_, rfl⟩
    have h := h S16 eS16
    refine xs_2_latest C hK hP hD hS  g17 rfl dX2_place_50 (fun H locs hP hD hS => ?_)
    rw [← eS16] at hP hD
    exact B51 x1 x2 x3 y9 y11 n0 ro 0 0 S16 H locs ls h hc hP hD hS (lv_sub hl [2, 3, 4, 5, 1, 0] rfl)
theorem mX2_place (l : Launch) (g : va_G) (ct : Nat → ClassId) (ad : Nat → Nat) (d : Nat) (E : TE) (hE : HE l g ct ad d E) (sz n0 n2 ro : Nat) (S : St) (x1 : Int32) (x2 : Int32) (x3 : Int32) (Q : St → Prop) (hn : n0 ≤ n2) (h : pX2_place E x1 x2 x3 n0 n2 S Q) : Met l yX2_place wsX2_place ({ frames := 10 + 2 * d + 1, cells := n2 - n0, slots := 2 * (n2 - n0), locals := 400 + 49 * d + 24 }) (gPc g (xT ct) (wX ct ad n0 ro S) sz [.ref (ad 12), .int x1, .int x2, .int x3]) (va_Qv Q (gBg g ct ad n2 (va_A (wX ct ad n0 ro S) sz)) (va_A (wX ct ad n0 ro S) sz)) (n2 - n0) (2 * (n2 - n0)) (va_A (wX ct ad n0 ro S) sz) :=
  g_metVg (cc := cX2_place) (maxL := 6) hn rfl rfl (by decide) rfl rfl (Nat.le_of_ble_eq_true rfl) rfl (fun p e s m args below meth c QQ A C hK hN hA hret H locs ls hP hD hS hl => kX2_place d E hE C hK hN hA (Nat.le_refl _) (Nat.le_refl _) (by show n2 ≤ (n2 - n0) + n0 ∧ 2 * n2 ≤ 2 * (n2 - n0) + 2 * n0; omega) hn Q hret x1 x2 x3 S h H locs ls hP hD hS hl)

def bX2_extend_137 (n2 : Nat) (E : TE) (k42 : Int32 → Int32 → Int32 → Nat → St → Prop) (Q : St → Prop) (x1 : Int32) (x2 : Int32) (x3 : Int32) (n : Nat) (S : St) : Prop :=
  (∀ y1 : Int32, y1 = x3 + (1 : Int32) → k42 x1 x2 y1 n S)
def bX2_extend_110 (n2 : Nat) (E : TE) (k42 : Int32 → Int32 → Int32 → Nat → St → Prop) (Q : St → Prop) (x1 : Int32) (x2 : Int32) (x3 : Int32) (x4 : Nat) (t1 : Int32) (t2 : Int32) (n : Nat) (S : St) : Prop :=
  (vp_in t1 6 ∧ ∀ S2 : St, S2 = wr S 27 (Int32.toNatClampNeg t1) t2 → pX2_mayReadHere x3 x1 S2 (fun (r5 : Int32) (S4 : St) => ((r5 = 0 → bX2_extend_137 n2 E k42 Q x1 x2 x3 n S4) ∧ (¬ (r5 = 0) → pX2_isAtomic x4 x1 S4 (fun (r7 : Int32) (S6 : St) => ((r7 = 0 → bX2_extend_137 n2 E k42 Q x1 x2 x3 n S6) ∧ (¬ (r7 = 0) → (∃ n8 : Nat, n ≤ n8 ∧ n8 ≤ n2 ∧ pX2_place E x3 x1 x2 n n8 S6 (fun (S9 : St) => bX2_extend_137 n2 E k42 Q x1 x2 x3 n8 S9)))))))))
def bX2_extend_42 (n2 : Nat) (E : TE) (k42 : Int32 → Int32 → Int32 → Nat → St → Prop) (Q : St → Prop) (x1 : Int32) (x2 : Int32) (x3 : Int32) (n : Nat) (S : St) : Prop :=
  pX5_size S (fun (r15 : Int32) (S14 : St) => ((r15 ≤ x3 → (n = n2 ∧ Q S14)) ∧ (¬ (r15 ≤ x3) → pX5_accessAt x3 S14 (fun (i17 : Nat) (S16 : St) => pX2_isIn x1 x3 (fun (r18 : Int32) => ((¬ r18 = 0 → bX2_extend_137 n2 E k42 Q x1 x2 x3 n S16) ∧ (r18 = 0 → ((((S16.1 43 i17) &&& (x1 ^^^ (-1 : Int32))) = 0 → (((S16.1 34 i17) = 0 → bX2_extend_110 n2 E k42 Q x1 x2 x3 i17 x3 (-1 : Int32) n S16) ∧ (¬ ((S16.1 34 i17) = 0) → pX2_sourceOf i17 x1 S16 (fun (r20 : Int32) (S19 : St) => bX2_extend_110 n2 E k42 Q x1 x2 x3 i17 x3 r20 n S19)))) ∧ (¬ (((S16.1 43 i17) &&& (x1 ^^^ (-1 : Int32))) = 0) → bX2_extend_137 n2 E k42 Q x1 x2 x3 n S16)))))))))
def pX2_extendF (E : TE) : TE := fun x1 x2 n0 n2 S Q =>
  pX5_size S (fun (r26 : Int32) (S25 : St) => ((x2 < r26 → (∃ N : Nat, itr (F := Int32 → Int32 → Int32 → Nat → St → Prop) (fun _ _ _ _ _ => False) (fun k42 x1 x2 x3 n S => bX2_extend_42 n2 E k42 Q x1 x2 x3 n S) N x1 x2 (0 : Int32) n0 S25)) ∧ (¬ (x2 < r26) → (∀ S27 : St, S27 = wr S25 16 0 (1 : Int32) → pX5_locationsPart S27 (fun (r29 : Int64) (S28 : St) => (∃ n30 : Nat, n0 ≤ n30 ∧ n30 ≤ n2 ∧ pX3_keep n0 n30 ((S27.2.2 0 0) + r29) S28 (fun (S31 : St) => (n30 = n2 ∧ Q S31))))))))
def pX2_extend (d : Nat) : TE := itr (F := TE) (fun _ _ _ _ _ _ => False) pX2_extendF d
set_option maxHeartbeats 40000000 in
set_option maxRecDepth 100000 in
theorem kX2_extend {p : Program} {l : Launch} {e : Env} {R : Room} {s : State} {m : MethodId} {args : Array Value} {below : List Frame} {meth : Method} {c : Code} {QQ : State → Prop} {g : va_G} {ct : Nat → ClassId} {ad : Nat → Nat} {n0 n2 ro : Nat} {A : Nat → Prop} (d : Nat) (E : TE) (hE : HE l g ct ad d E) (C : CallFix p m c cX2_extend 5 s args wsX2_extend RX2) (hK : va_K g vwCl (xT ct) s) (hN : xN s) (hA : ∀ q, s.heap.size ≤ q → A q) (hRf : 10 + 2 * (d + 1) ≤ R.frames) (hRl : 400 + 49 * (d + 1) ≤ R.locals) (hRc : n2 ≤ R.cells + n0 ∧ 2 * n2 ≤ R.slots + 2 * n0) (hn : n0 ≤ n2) (Q : St → Prop) (hret : ∀ (pc : Nat) (S : St) (ro : Nat) (H : Heap) (locs : List Loc) (ls : Array Slot) (cells slots : Nat), decode cX2_extend pc = .ok (.return_, 1) → Q S → va_P g vwCl (wX ct ad n2 ro S) H → va_D A (wX ct ad n2 ro S) → va_S A s.heap H locs → cells + n0 = n2 ∧ slots + 2 * n0 = 2 * n2 ∧ n2 ≤ n2 → W p l e R s m args below meth c H locs cells slots QQ (F0 m pc ls [])) (x1 : Int32) (x2 : Int32) (S : St) (h : pX2_extendF E x1 x2 n0 n2 S Q) (H : Heap) (locs : List Loc) (ls : Array Slot) (hP : va_P g vwCl (wX ct ad n0 ro S) H) (hD : va_D A (wX ct ad n0 ro S)) (hS : va_S A s.heap H locs) (hl : lv_has ls 5 [(0, .ref (ad 12)), (1, .int x1), (2, .int x2)]) : W p l e R s m args below meth c H locs 0 0 QQ (F0 m 0 ls []) := by
  have hinX0 : ∀ w ∈ wsX00, w ∈ wsX2_extend := by decide +kernel
  have hinX2 : ∀ w ∈ wsX20, w ∈ wsX2_extend := by decide +kernel
  have B137 : ∀ (k42 : Int32 → Int32 → Int32 → Nat → St → Prop) (hk42 : ∀ (x1 : Int32) (x2 : Int32) (x3 : Int32) (n ro cells slots : Nat) (S : St) (H : Heap) (locs : List Loc) (ls : Array Slot), k42 x1 x2 x3 n S → cells + n0 = n ∧ slots + 2 * n0 = 2 * n ∧ n ≤ n2 → va_P g vwCl (wX ct ad n ro S) H → va_D A (wX ct ad n ro S) → va_S A s.heap H locs → lv_has ls 5 [(0, .ref (ad 12)), (1, .int x1), (2, .int x2), (3, .int x3)] → W p l e R s m args below meth c H locs cells slots QQ (F0 m 42 ls [])) (x1 : Int32) (x2 : Int32) (x3 : Int32) (n ro cells slots : Nat) (S : St) (H : Heap) (locs : List Loc) (ls : Array Slot), bX2_extend_137 n2 E k42 Q x1 x2 x3 n S → cells + n0 = n ∧ slots + 2 * n0 = 2 * n ∧ n ≤ n2 → va_P g vwCl (wX ct ad n ro S) H → va_D A (wX ct ad n ro S) → va_S A s.heap H locs → lv_has ls 5 [(0, .ref (ad 12)), (1, .int x1), (2, .int x2), (3, .int x3)] → W p l e R s m args below meth c H locs cells slots QQ (F0 m 137 ls []) := by
    intro k42 hk42 x1 x2 x3 n ro cells slots S H locs ls h hc hP hD hS hl
    obtain ⟨y1, ey1⟩ : ∃ z : Int32, z = x3 + (1 : Int32) := ⟨_, rfl⟩
    have h := h y1 ey1
    refine lv_iinc (v := y1) (lv' := [(3, .int y1), (0, .ref (ad 12)), (1, .int x1), (2, .int x2)]) C.1 C.2.1 dX2_extend_137 hl (k := 3) rfl (by rw [ey1]; rfl) (by decide) rfl (fun ls hl => ?_)
    refine lv_goto (tgt := 42) C.1 C.2.1 dX2_extend_140 (by decide) ?_
    exact hk42 x1 x2 y1 n ro cells slots S H locs ls h hc hP hD hS (lv_sub hl [1, 2, 3, 0] rfl)
  have B110 : ∀ (k42 : Int32 → Int32 → Int32 → Nat → St → Prop) (hk42 : ∀ (x1 : Int32) (x2 : Int32) (x3 : Int32) (n ro cells slots : Nat) (S : St) (H : Heap) (locs : List Loc) (ls : Array Slot), k42 x1 x2 x3 n S → cells + n0 = n ∧ slots + 2 * n0 = 2 * n ∧ n ≤ n2 → va_P g vwCl (wX ct ad n ro S) H → va_D A (wX ct ad n ro S) → va_S A s.heap H locs → lv_has ls 5 [(0, .ref (ad 12)), (1, .int x1), (2, .int x2), (3, .int x3)] → W p l e R s m args below meth c H locs cells slots QQ (F0 m 42 ls [])) (x1 : Int32) (x2 : Int32) (x3 : Int32) (x4 : Nat) (t1 : Int32) (t2 : Int32) (hx4 : x4 < 6) (n ro cells slots : Nat) (S : St) (H : Heap) (locs : List Loc) (ls : Array Slot), bX2_extend_110 n2 E k42 Q x1 x2 x3 x4 t1 t2 n S → cells + n0 = n ∧ slots + 2 * n0 = 2 * n ∧ n ≤ n2 → va_P g vwCl (wX ct ad n ro S) H → va_D A (wX ct ad n ro S) → va_S A s.heap H locs → lv_has ls 5 [(0, .ref (ad 12)), (1, .int x1), (2, .int x2), (3, .int x3), (4, .ref (ad (20 + x4)))] → W p l e R s m args below meth c H locs cells slots QQ (F0 m 110 ls [.int t2, .int t1, .ref (ad 14)]) := by
    intro k42 hk42 x1 x2 x3 x4 t1 t2 hx4 n ro cells slots S H locs ls h hc hP hD hS hl
    obtain ⟨g3, h⟩ := h
    obtain ⟨S2, eS2⟩ : ∃ z : St, z = wr S 27 (Int32.toNatClampNeg t1) t2 := ⟨_, rfl⟩
    have h := h S2 eS2
    refine xs_2_sources C hK hP hD hS  g3 rfl dX2_extend_110 (fun H locs hP hD hS => ?_)
    rw [← eS2] at hP hD
    refine lv_aload_n C.1 C.2.1 dX2_extend_111 rfl (lv_at hl 0 rfl) ?_
    refine lv_iload_n C.1 C.2.1 dX2_extend_112 rfl (lv_at hl 3 rfl) ?_
    refine lv_iload_n C.1 C.2.1 dX2_extend_113 rfl (lv_at hl 1 rfl) ?_
    refine g_callVi (w := wX ct ad n ro) C hK hN hA hP hD hS (mX2_mayReadHere l g ct ad n ro H.size S2 x3 x1  _ h) (cwV 2 C.2.2.2.2 gX2_extend_X2_mayReadHere rfl rfl rfl (by decide +kernel) ⟨show 2 + 1 ≤ R.frames by omega, show 8 + (5 + 11) + 44 ≤ R.locals by omega⟩) (va_recv hK hP (ci := 2) (q0 := 12) rfl rfl) rfl hl.1 rfl (Nat.le_of_ble_eq_true rfl) dX2_extend_114 (by omega) (fun r5 S4 H locs h hP hD hS => ?_)
    refine lv_if_eq (tgt := 137) C.1 C.2.1 dX2_extend_117 (by decide) (fun c13 => ?_) (fun c13 => ?_)
    · have h := h.1 c13
      exact B137 k42 hk42 x1 x2 x3 n ro cells slots S4 H locs ls h hc hP hD hS (lv_sub hl [0, 1, 2, 3] rfl)
    · have h := h.2 c13
      refine lv_aload_n C.1 C.2.1 dX2_extend_120 rfl (lv_at hl 0 rfl) ?_
      refine lv_aload C.1 C.2.1 dX2_extend_121 (lv_at hl 4 rfl) ?_
      refine lv_iload_n C.1 C.2.1 dX2_extend_123 rfl (lv_at hl 1 rfl) ?_
      refine g_callVi (w := wX ct ad n ro) C hK hN hA hP hD hS (mX2_isAtomic l g ct ad n ro H.size S4 x4 x1 hx4 _ h) (cwV 2 C.2.2.2.2 gX2_extend_X2_isAtomic rfl rfl rfl (by decide +kernel) ⟨show 1 + 1 ≤ R.frames by omega, show 8 + (8 + 11) + 21 ≤ R.locals by omega⟩) (va_recv hK hP (ci := 2) (q0 := 12) rfl rfl) rfl hl.1 rfl (Nat.le_of_ble_eq_true rfl) dX2_extend_124 (by omega) (fun r7 S6 H locs h hP hD hS => ?_)
      refine lv_if_eq (tgt := 137) C.1 C.2.1 dX2_extend_127 (by decide) (fun c12 => ?_) (fun c12 => ?_)
      · have h := h.1 c12
        exact B137 k42 hk42 x1 x2 x3 n ro cells slots S6 H locs ls h hc hP hD hS (lv_sub hl [0, 1, 2, 3] rfl)
      · have h := h.2 c12
        refine lv_aload_n C.1 C.2.1 dX2_extend_130 rfl (lv_at hl 0 rfl) ?_
        refine lv_iload_n C.1 C.2.1 dX2_extend_131 rfl (lv_at hl 3 rfl) ?_
        refine lv_iload_n C.1 C.2.1 dX2_extend_132 rfl (lv_at hl 1 rfl) ?_
        refine lv_iload_n C.1 C.2.1 dX2_extend_133 rfl (lv_at hl 2 rfl) ?_
        obtain ⟨n8, hn1, hn2, h⟩ := h
        refine g_callVvg C hK hN hA hP hD hS (mX2_place l g ct ad d E hE H.size n n8 ro S6 x3 x1 x2 _ hn1 h) (cwV 3 C.2.2.2.2 gX2_extend_X2_place rfl rfl rfl (by decide +kernel) ⟨show 10 + 2 * d + 1 + 1 ≤ R.frames by omega, show 8 + (6 + 11) + (400 + 49 * d + 24) ≤ R.locals by omega⟩) (va_recv hK hP (ci := 2) (q0 := 12) rfl rfl) rfl hl.1 rfl (Nat.le_of_ble_eq_true rfl) dX2_extend_134 (by omega) (fun S9 ro H locs cells10 slots11 ec es h hP hD hS => ?_)
        have hc : cells10 + n0 = n8 ∧ slots11 + 2 * n0 = 2 * n8 ∧ n8 ≤ n2 := by omega
        exact B137 k42 hk42 x1 x2 x3 n8 ro cells10 slots11 S9 H locs ls h hc hP hD hS (lv_sub hl [0, 1, 2, 3] rfl)
  have B42 : ∀ (k42 : Int32 → Int32 → Int32 → Nat → St → Prop) (hk42 : ∀ (x1 : Int32) (x2 : Int32) (x3 : Int32) (n ro cells slots : Nat) (S : St) (H : Heap) (locs : List Loc) (ls : Array Slot), k42 x1 x2 x3 n S → cells + n0 = n ∧ slots + 2 * n0 = 2 * n ∧ n ≤ n2 → va_P g vwCl (wX ct ad n ro S) H → va_D A (wX ct ad n ro S) → va_S A s.heap H locs → lv_has ls 5 [(0, .ref (ad 12)), (1, .int x1), (2, .int x2), (3, .int x3)] → W p l e R s m args below meth c H locs cells slots QQ (F0 m 42 ls [])) (x1 : Int32) (x2 : Int32) (x3 : Int32) (n ro cells slots : Nat) (S : St) (H : Heap) (locs : List Loc) (ls : Array Slot), bX2_extend_42 n2 E k42 Q x1 x2 x3 n S → cells + n0 = n ∧ slots + 2 * n0 = 2 * n ∧ n ≤ n2 → va_P g vwCl (wX ct ad n ro S) H → va_D A (wX ct ad n ro S) → va_S A s.heap H locs → lv_has ls 5 [(0, .ref (ad 12)), (1, .int x1), (2, .int x2), (3, .int x3)] → W p l e R s m args below meth c H locs cells slots QQ (F0 m 42 ls []) := by
    intro k42 hk42 x1 x2 x3 n ro cells slots S H locs ls h hc hP hD hS hl
    refine lv_iload_n C.1 C.2.1 dX2_extend_42 rfl (lv_at hl 3 rfl) ?_
    refine lv_aload_n C.1 C.2.1 dX2_extend_43 rfl (lv_at hl 0 rfl) ?_
    refine xg2_way C hinX2 hK hP (by decide +kernel) dX2_extend_44 ?_
    refine g_callVi (w := wX ct ad n ro) C hK hN hA hP hD hS (mX5_size l g ct ad n ro H.size S   _ h) (cwV 0 C.2.2.2.2 gX2_extend_X5_size rfl rfl rfl (by decide +kernel) ⟨show 0 + 1 ≤ R.frames by omega, show 8 + (1 + 11) + 0 ≤ R.locals by omega⟩) (va_recv hK hP (ci := 5) (q0 := 8) rfl rfl) rfl hl.1 rfl (Nat.le_of_ble_eq_true rfl) dX2_extend_47 (by omega) (fun r15 S14 H locs h hP hD hS => ?_)
    refine lv_icmp_ge (tgt := 143) C.1 C.2.1 dX2_extend_50 (by decide) (fun c24 => ?_) (fun c24 => ?_)
    · have h := h.1 c24
      obtain ⟨en, h⟩ := h
      rw [en] at hP hD
      exact hret _ _ _ _ _ _ _ _ dX2_extend_143 h hP hD hS (by omega)
    · have h := h.2 c24
      refine lv_aload_n C.1 C.2.1 dX2_extend_53 rfl (lv_at hl 0 rfl) ?_
      refine xg2_way C hinX2 hK hP (by decide +kernel) dX2_extend_54 ?_
      refine lv_iload_n C.1 C.2.1 dX2_extend_57 rfl (lv_at hl 3 rfl) ?_
      refine g_callVr (w := wX ct ad n ro) C hK hN hA hP hD hS (mX5_accessAt l g ct ad n ro H.size S14 x3  _ h) (cwV 1 C.2.2.2.2 gX2_extend_X5_accessAt rfl rfl rfl (by decide +kernel) ⟨show 0 + 1 ≤ R.frames by omega, show 8 + (2 + 11) + 0 ≤ R.locals by omega⟩) (va_recv hK hP (ci := 5) (q0 := 8) rfl rfl) rfl hl.1 rfl (Nat.le_of_ble_eq_true rfl) dX2_extend_58 (by omega) (fun i17 S16 H locs hi17 h hP hD hS => ?_)
      refine lv_astore (lv' := [(4, .ref (ad (20 + i17))), (0, .ref (ad 12)), (1, .int x1), (2, .int x2), (3, .int x3)]) C.1 C.2.1 dX2_extend_61 hl (by decide) rfl (fun ls hl => ?_)
      refine lv_iload_n C.1 C.2.1 dX2_extend_63 rfl (lv_at hl 2 rfl) ?_
      refine lv_iload_n C.1 C.2.1 dX2_extend_64 rfl (lv_at hl 4 rfl) ?_
      refine g_callS (w := wX ct ad n ro) C hK hN hA hP hD hS (mX2_isIn l g (xT ct) S16 H.size x1 x3 _ h) (va_cwS 2 C.2.2.2.2 gX2_extend_X2_isIn rfl rfl rfl (by decide +kernel) ⟨show 0 + 1 ≤ R.frames by omega, show 8 + (2 + 11) + 0 ≤ R.locals by omega⟩) rfl hl.1 rfl (Nat.le_of_ble_eq_true rfl) dX2_extend_65 (by omega) (fun r18 H locs h hP hD hS => ?_)
      refine lv_if_ne (tgt := 137) C.1 C.2.1 dX2_extend_68 (by decide) (fun c23 => ?_) (fun c23 => ?_)
      · have h := h.1 c23
        exact B137 k42 hk42 x1 x2 x3 n ro cells slots S16 H locs ls h hc hP hD hS (lv_sub hl [1, 2, 3, 4] rfl)
      · have h := h.2 c23
        refine lv_aload C.1 C.2.1 dX2_extend_71 (lv_at hl 0 rfl) ?_
        refine xg0_after hi17 C hinX0 hK hP (hN _ (by decide +kernel)) dX2_extend_73 ?_
        refine lv_iload_n C.1 C.2.1 dX2_extend_76 rfl (lv_at hl 2 rfl) ?_
        refine lv_iconst (v := -1) C.1 C.2.1 dX2_extend_77 (by decide) ?_
        refine lv_ixor C.1 C.2.1 dX2_extend_78 ?_
        refine lv_iand C.1 C.2.1 dX2_extend_79 ?_
        refine lv_if_eq (tgt := 86) C.1 C.2.1 dX2_extend_80 (by decide) (fun c22 => ?_) (fun c22 => ?_)
        · have h := h.1 c22
          refine lv_aload_n C.1 C.2.1 dX2_extend_86 rfl (lv_at hl 1 rfl) ?_
          refine xg2_sources C hinX2 hK hP (by decide +kernel) dX2_extend_87 ?_
          refine lv_iload_n C.1 C.2.1 dX2_extend_90 rfl (lv_at hl 4 rfl) ?_
          refine lv_aload C.1 C.2.1 dX2_extend_91 (lv_at hl 0 rfl) ?_
          refine xg0_reads hi17 C hinX0 hK hP (hN _ (by decide +kernel)) dX2_extend_93 ?_
          refine lv_if_eq (tgt := 109) C.1 C.2.1 dX2_extend_96 (by decide) (fun c21 => ?_) (fun c21 => ?_)
          · have h := h.1 c21
            refine lv_iconst (v := -1) C.1 C.2.1 dX2_extend_109 (by decide) ?_
            exact B110 k42 hk42 x1 x2 x3 i17 x3 (-1 : Int32) hi17 n ro cells slots S16 H locs ls h hc hP hD hS (lv_sub hl [1, 2, 3, 4, 0] rfl)
          · have h := h.2 c21
            refine lv_aload_n C.1 C.2.1 dX2_extend_99 rfl (lv_at hl 1 rfl) ?_
            refine lv_aload C.1 C.2.1 dX2_extend_100 (lv_at hl 0 rfl) ?_
            refine lv_iload_n C.1 C.2.1 dX2_extend_102 rfl (lv_at hl 2 rfl) ?_
            refine g_callVi (w := wX ct ad n ro) C hK hN hA hP hD hS (mX2_sourceOf l g ct ad n ro H.size S16 i17 x1 hi17 _ h) (cwV 2 C.2.2.2.2 gX2_extend_X2_sourceOf rfl rfl rfl (by decide +kernel) ⟨show 1 + 1 ≤ R.frames by omega, show 8 + (4 + 11) + 21 ≤ R.locals by omega⟩) (va_recv hK hP (ci := 2) (q0 := 12) rfl rfl) rfl hl.1 rfl (Nat.le_of_ble_eq_true rfl) dX2_extend_103 (by omega) (fun r20 S19 H locs h hP hD hS => ?_)
            refine lv_goto (tgt := 110) C.1 C.2.1 dX2_extend_106 (by decide) ?_
            exact B110 k42 hk42 x1 x2 x3 i17 x3 r20 hi17 n ro cells slots S19 H locs ls h hc hP hD hS (lv_sub hl [1, 2, 3, 4, 0] rfl)
        · have h := h.2 c22
          refine lv_goto (tgt := 137) C.1 C.2.1 dX2_extend_83 (by decide) ?_
          exact B137 k42 hk42 x1 x2 x3 n ro cells slots S16 H locs ls h hc hP hD hS (lv_sub hl [1, 2, 3, 4] rfl)
  have L42 : ∀ (N : Nat) (x1 : Int32) (x2 : Int32) (x3 : Int32) (n ro cells slots : Nat) (S : St) (H : Heap) (locs : List Loc) (ls : Array Slot), itr (F := Int32 → Int32 → Int32 → Nat → St → Prop) (fun _ _ _ _ _ => False) (fun k42 x1 x2 x3 n S => bX2_extend_42 n2 E k42 Q x1 x2 x3 n S) N x1 x2 x3 n S → cells + n0 = n ∧ slots + 2 * n0 = 2 * n ∧ n ≤ n2 → va_P g vwCl (wX ct ad n ro S) H → va_D A (wX ct ad n ro S) → va_S A s.heap H locs → lv_has ls 5 [(0, .ref (ad 12)), (1, .int x1), (2, .int x2), (3, .int x3)] → W p l e R s m args below meth c H locs cells slots QQ (F0 m 42 ls []) := by
    intro N
    induction N with
    | zero => intro x1 x2 x3 n ro cells slots S H locs ls h hc hP hD hS hl; exact False.elim h
    | succ N ih => intro x1 x2 x3 n ro cells slots S H locs ls h hc hP hD hS hl; exact B42  (itr (F := Int32 → Int32 → Int32 → Nat → St → Prop) (fun _ _ _ _ _ => False) (fun k42 x1 x2 x3 n S => bX2_extend_42 n2 E k42 Q x1 x2 x3 n S) N) ih x1 x2 x3 n ro cells slots S H locs ls h hc hP hD hS hl
  have hc : 0 + n0 = n0 ∧ 0 + 2 * n0 = 2 * n0 ∧ n0 ≤ n2 := by omega
  refine lv_iload_n C.1 C.2.1 dX2_extend_0 rfl (lv_at hl 2 rfl) ?_
  refine lv_aload_n C.1 C.2.1 dX2_extend_1 rfl (lv_at hl 0 rfl) ?_
  refine xg2_way C hinX2 hK hP (by decide +kernel) dX2_extend_2 ?_
  refine g_callVi (w := wX ct ad n0 ro) C hK hN hA hP hD hS (mX5_size l g ct ad n0 ro H.size S   _ h) (cwV 0 C.2.2.2.2 gX2_extend_X5_size rfl rfl rfl (by decide +kernel) ⟨show 0 + 1 ≤ R.frames by omega, show 8 + (1 + 11) + 0 ≤ R.locals by omega⟩) (va_recv hK hP (ci := 5) (q0 := 8) rfl rfl) rfl hl.1 rfl (Nat.le_of_ble_eq_true rfl) dX2_extend_5 (by omega) (fun r26 S25 H locs h hP hD hS => ?_)
  refine lv_icmp_lt (tgt := 40) C.1 C.2.1 dX2_extend_8 (by decide) (fun c34 => ?_) (fun c34 => ?_)
  · have h := h.1 c34
    refine lv_iconst (v := 0) C.1 C.2.1 dX2_extend_40 (by decide) ?_
    refine lv_istore_n (lv' := [(3, .int (0 : Int32)), (0, .ref (ad 12)), (1, .int x1), (2, .int x2)]) C.1 C.2.1 dX2_extend_41 rfl hl (by decide) rfl (fun ls hl => ?_)
    obtain ⟨N, h⟩ := h
    exact L42 N x1 x2 (0 : Int32) n0 ro 0 0 S25 H locs ls h hc hP hD hS (lv_sub hl [1, 2, 3, 0] rfl)
  · have h := h.2 c34
    refine lv_aload_n C.1 C.2.1 dX2_extend_11 rfl (lv_at hl 0 rfl) ?_
    refine lv_iconst (v := 1) C.1 C.2.1 dX2_extend_12 (by decide) ?_
    obtain ⟨S27, eS27⟩ : ∃ z : St, z = wr S25 16 0 (1 : Int32) := ⟨_, rfl⟩
    have h := h S27 eS27
    refine xp2_any C hinX2 hK hP hD hS (by decide +kernel) zb_1 dX2_extend_13 (fun H locs hP hD hS => ?_)
    rw [← eS27] at hP hD
    refine lv_aload_n C.1 C.2.1 dX2_extend_16 rfl (lv_at hl 0 rfl) ?_
    refine xg2_outcomes C hinX2 hK hP (by decide +kernel) dX2_extend_17 ?_
    refine lv_aload_n C.1 C.2.1 dX2_extend_20 rfl (lv_at hl 0 rfl) ?_
    refine xg2_registersPart C hinX2 hK hP (by decide +kernel) dX2_extend_21 ?_
    refine lv_aload_n C.1 C.2.1 dX2_extend_24 rfl (lv_at hl 0 rfl) ?_
    refine xg2_way C hinX2 hK hP (by decide +kernel) dX2_extend_25 ?_
    refine lv_aload_n C.1 C.2.1 dX2_extend_28 rfl (lv_at hl 0 rfl) ?_
    refine xg2_latest C hinX2 hK hP (by decide +kernel) dX2_extend_29 ?_
    refine g_callVj (w := wX ct ad n0 ro) C hK hN hA hP hD hS (mX5_locationsPart l g ct ad n0 ro H.size S27   _ h) (cwV 1 C.2.2.2.2 gX2_extend_X5_locationsPart rfl rfl rfl (by decide +kernel) ⟨show 0 + 1 ≤ R.frames by omega, show 8 + (5 + 11) + 0 ≤ R.locals by omega⟩) (va_recv hK hP (ci := 5) (q0 := 8) rfl rfl) rfl hl.1 rfl (Nat.le_of_ble_eq_true rfl) dX2_extend_32 (by omega) (fun r29 S28 H locs h hP hD hS => ?_)
    refine lv_ladd C.1 C.2.1 dX2_extend_35 ?_
    obtain ⟨n30, hn1, hn2, h⟩ := h
    refine g_callVvg C hK hN hA hP hD hS (mX3_keep l g ct ad H.size n0 n30 ro S28 ((S27.2.2 0 0) + r29) _ hn1 h) (cwV 1 C.2.2.2.2 gX2_extend_X3_keep rfl rfl rfl (by decide +kernel) ⟨show 5 + 1 ≤ R.frames by omega, show 8 + (4 + 11) + 200 ≤ R.locals by omega⟩) (va_recv hK hP (ci := 3) (q0 := 16) rfl rfl) rfl hl.1 rfl (Nat.le_of_ble_eq_true rfl) dX2_extend_36 (by omega) (fun S31 ro H locs cells32 slots33 ec es h hP hD hS => ?_)
    have hc : cells32 + n0 = n30 ∧ slots33 + 2 * n0 = 2 * n30 ∧ n30 ≤ n2 := by omega
    obtain ⟨en, h⟩ := h
    rw [en] at hP hD
    exact hret _ _ _ _ _ _ _ _ dX2_extend_39 h hP hD hS (by omega)
theorem mX2_extend (l : Launch) (g : va_G) (ct : Nat → ClassId) (ad : Nat → Nat) (d : Nat) : HE l g ct ad d (pX2_extend d) := by
  induction d with
  | zero => intro sz n0 n2 ro S x1 x2 Q hn h; exact False.elim h
  | succ d hE =>
    intro sz n0 n2 ro S x1 x2 Q hn h
    exact g_metVg (cc := cX2_extend) (maxL := 5) hn rfl rfl (by decide) rfl rfl (Nat.le_of_ble_eq_true rfl) rfl (fun p e s m args below meth c QQ A C hK hN hA hret H locs ls hP hD hS hl => kX2_extend d (pX2_extend d) hE C hK hN hA (Nat.le_refl _) (Nat.le_refl _) (by show n2 ≤ (n2 - n0) + n0 ∧ 2 * n2 ≤ 2 * (n2 - n0) + 2 * n0; omega) hn Q hret x1 x2 S h H locs ls hP hD hS hl)

def pX2_search (n0 n2 : Nat) (S : St) (Q : Int32 → St → Prop) : Prop :=
  (∀ S1 : St, S1 = wr S 16 0 (0 : Int32) → pX5_registersPart S1 (fun (r3 : Int64) (S2 : St) => (∀ S4 : St, S4 = wrL S2 0 0 r3 → pfill_2_latest (-1 : Int32) S4 (fun (S5 : St) => (∃ n6 : Nat, n0 ≤ n6 ∧ n6 ≤ n2 ∧ pX2_extend 8 (0 : Int32) (0 : Int32) n0 n6 S5 (fun (S7 : St) => (n6 = n2 ∧ zb (S7.1 16 0) ∧ Q (S7.1 16 0) S7)))))))
set_option maxHeartbeats 40000000 in
set_option maxRecDepth 100000 in
theorem kX2_search {p : Program} {l : Launch} {e : Env} {R : Room} {s : State} {m : MethodId} {args : Array Value} {below : List Frame} {meth : Method} {c : Code} {QQ : State → Prop} {g : va_G} {ct : Nat → ClassId} {ad : Nat → Nat} {n0 n2 ro : Nat} {A : Nat → Prop} (C : CallFix p m c cX2_search 1 s args wsX2_search RX2) (hK : va_K g vwCl (xT ct) s) (hN : xN s) (hA : ∀ q, s.heap.size ≤ q → A q) (hRf : 27 ≤ R.frames) (hRl : 900 ≤ R.locals) (hRc : n2 ≤ R.cells + n0 ∧ 2 * n2 ≤ R.slots + 2 * n0) (hn : n0 ≤ n2) (Q : Int32 → St → Prop) (hret : ∀ (pc : Nat) (r : Int32) (S : St) (ro : Nat) (H : Heap) (locs : List Loc) (ls : Array Slot) (cells slots : Nat), decode cX2_search pc = .ok (.ireturn, 1) → zb r → Q r S → va_P g vwCl (wX ct ad n2 ro S) H → va_D A (wX ct ad n2 ro S) → va_S A s.heap H locs → cells + n0 = n2 ∧ slots + 2 * n0 = 2 * n2 ∧ n2 ≤ n2 → W p l e R s m args below meth c H locs cells slots QQ (F0 m pc ls [.int r])) (S : St) (h : pX2_search n0 n2 S Q) (H : Heap) (locs : List Loc) (ls : Array Slot) (hP : va_P g vwCl (wX ct ad n0 ro S) H) (hD : va_D A (wX ct ad n0 ro S)) (hS : va_S A s.heap H locs) (hl : lv_has ls 1 [(0, .ref (ad 12))]) : W p l e R s m args below meth c H locs 0 0 QQ (F0 m 0 ls []) := by
  have hinX2 : ∀ w ∈ wsX20, w ∈ wsX2_search := by decide +kernel
  have hc : 0 + n0 = n0 ∧ 0 + 2 * n0 = 2 * n0 ∧ n0 ≤ n2 := by omega
  refine lv_aload_n C.1 C.2.1 dX2_search_0 rfl (lv_at hl 0 rfl) ?_
  refine lv_iconst (v := 0) C.1 C.2.1 dX2_search_1 (by decide) ?_
  obtain ⟨S1, eS1⟩ : ∃ z : St, z = wr S 16 0 (0 : Int32) := ⟨_, rfl⟩
  have h := h S1 eS1
  refine xp2_any C hinX2 hK hP hD hS (by decide +kernel) zb_0 dX2_search_2 (fun H locs hP hD hS => ?_)
  rw [← eS1] at hP hD
  refine lv_aload_n C.1 C.2.1 dX2_search_5 rfl (lv_at hl 0 rfl) ?_
  refine lv_aload_n C.1 C.2.1 dX2_search_6 rfl (lv_at hl 0 rfl) ?_
  refine xg2_way C hinX2 hK hP (by decide +kernel) dX2_search_7 ?_
  refine g_callVj (w := wX ct ad n0 ro) C hK hN hA hP hD hS (mX5_registersPart l g ct ad n0 ro H.size S1   _ h) (cwV 0 C.2.2.2.2 gX2_search_X5_registersPart rfl rfl rfl (by decide +kernel) ⟨Nat.le_trans (by decide) hRf, Nat.le_trans (by decide) hRl⟩) (va_recv hK hP (ci := 5) (q0 := 8) rfl rfl) rfl hl.1 rfl (Nat.le_of_ble_eq_true rfl) dX2_search_10 (by omega) (fun r3 S2 H locs h hP hD hS => ?_)
  obtain ⟨S4, eS4⟩ : ∃ z : St, z = wrL S2 0 0 r3 := ⟨_, rfl⟩
  have h := h S4 eS4
  refine xp2_registersPart C hinX2 hK hP hD hS (by decide +kernel) dX2_search_13 (fun H locs hP hD hS => ?_)
  rw [← eS4] at hP hD
  refine lv_aload_n C.1 C.2.1 dX2_search_16 rfl (lv_at hl 0 rfl) ?_
  refine xg2_latest C hinX2 hK hP (by decide +kernel) dX2_search_17 ?_
  refine lv_iconst (v := -1) C.1 C.2.1 dX2_search_20 (by decide) ?_
  refine g_callSv (w := wX ct ad n0 ro) C hK hN hA hP hD hS (mfill_2_latest l g ct ad n0 ro H.size S4 (-1 : Int32) _ h) (va_cwS 2 C.2.2.2.2 gX2_search_J7_fill_53178 rfl rfl rfl (by decide +kernel) ⟨Nat.le_trans (by decide) hRf, Nat.le_trans (by decide) hRl⟩) rfl hl.1 rfl (Nat.le_of_ble_eq_true rfl) dX2_search_21 (by omega) (fun S5 H locs h hP hD hS => ?_)
  refine lv_aload_n C.1 C.2.1 dX2_search_24 rfl (lv_at hl 0 rfl) ?_
  refine lv_iconst (v := 0) C.1 C.2.1 dX2_search_25 (by decide) ?_
  refine lv_iconst (v := 0) C.1 C.2.1 dX2_search_26 (by decide) ?_
  obtain ⟨n6, hn1, hn2, h⟩ := h
  refine g_callVvg C hK hN hA hP hD hS (mX2_extend l g ct ad 8 H.size n0 n6 ro S5 (0 : Int32) (0 : Int32) _ hn1 h) (cwV 2 C.2.2.2.2 gX2_search_X2_extend rfl rfl rfl (by decide +kernel) ⟨Nat.le_trans (show 10 + 2 * 8 + 1 ≤ 27 by decide) hRf, Nat.le_trans (show 8 + (5 + 11) + (400 + 49 * 8) ≤ 900 by decide) hRl⟩) (va_recv hK hP (ci := 2) (q0 := 12) rfl rfl) rfl hl.1 rfl (Nat.le_of_ble_eq_true rfl) dX2_search_27 (by omega) (fun S7 ro H locs cells8 slots9 ec es h hP hD hS => ?_)
  have hc : cells8 + n0 = n6 ∧ slots9 + 2 * n0 = 2 * n6 ∧ n6 ≤ n2 := by omega
  refine lv_aload_n C.1 C.2.1 dX2_search_30 rfl (lv_at hl 0 rfl) ?_
  refine xg2_any C hinX2 hK hP (by decide +kernel) dX2_search_31 ?_
  obtain ⟨en, h⟩ := h
  rw [en] at hP hD
  exact hret _ _ _ _ _ _ _ _ _ dX2_search_34 h.1 h.2 hP hD hS (by omega)
theorem mX2_search (l : Launch) (g : va_G) (ct : Nat → ClassId) (ad : Nat → Nat) (sz n0 n2 ro : Nat) (S : St) (Q : Int32 → St → Prop) (hn : n0 ≤ n2) (h : pX2_search n0 n2 S Q) : Met l yX2_search wsX2_search ({ frames := 27, cells := n2 - n0, slots := 2 * (n2 - n0), locals := 900 }) (gPc g (xT ct) (wX ct ad n0 ro S) sz [.ref (ad 12)]) (va_Qi Q (gBg g ct ad n2 (va_A (wX ct ad n0 ro S) sz)) (va_A (wX ct ad n0 ro S) sz)) (n2 - n0) (2 * (n2 - n0)) (va_A (wX ct ad n0 ro S) sz) :=
  g_metZg (cc := cX2_search) (maxL := 1) hn rfl rfl (by decide) rfl rfl (Nat.le_of_ble_eq_true rfl) rfl (fun p e s m args below meth c QQ A C hK hN hA hret H locs ls hP hD hS hl => kX2_search C hK hN hA (Nat.le_refl _) (Nat.le_refl _) (by show n2 ≤ (n2 - n0) + n0 ∧ 2 * n2 ≤ 2 * (n2 - n0) + 2 * n0; omega) hn Q hret  S h H locs ls hP hD hS hl)

def bX6_find_104 (n2 : Nat) (Q : Int32 → St → Prop) (n : Nat) (S : St) : Prop :=
  (∀ S1 : St, S1 = wr S 2 0 (1 : Int32) → pX3_size S1 (fun (r3 : Int32) (S2 : St) => (n = n2 ∧ Q r3 S2)))
def bX6_find_90 (n2 : Nat) (k38 : Int32 → Int32 → Nat → St → Prop) (Q : Int32 → St → Prop) (x2 : Int32) (n : Nat) (S : St) : Prop :=
  pX1_advance S (fun (r5 : Int32) (S4 : St) => (∀ y6 : Int32, y6 = x2 + (1 : Int32) → k38 r5 y6 n S4))
def bX6_find_38 (n2 : Nat) (k38 : Int32 → Int32 → Nat → St → Prop) (Q : Int32 → St → Prop) (x1 : Int32) (x2 : Int32) (n : Nat) (S : St) : Prop :=
  ((x1 = 0 → bX6_find_104 n2 Q  n S) ∧ (¬ (x1 = 0) → (((4096 : Int32) ≤ x2 → bX6_find_104 n2 Q  n S) ∧ (¬ ((4096 : Int32) ≤ x2) → pX5_walk (S.1 0 0) S (fun (S7 : St) => pX5_isPlausible S7 (fun (r9 : Int32) (S8 : St) => ((r9 = 0 → bX6_find_90 n2 k38 Q x2 n S8) ∧ (¬ (r9 = 0) → (∃ n10 : Nat, n ≤ n10 ∧ n10 ≤ n2 ∧ pX2_search n n10  S8 (fun (r14 : Int32) (S11 : St) => ((r14 = 0 → bX6_find_90 n2 k38 Q x2 n10 S11) ∧ (¬ (r14 = 0) → (∀ S15 : St, S15 = wr S11 1 0 ((S11.1 1 0) + (1 : Int32)) → bX6_find_90 n2 k38 Q x2 n10 S15)))))))))))))
def pX6_find (n0 n2 : Nat) (S : St) (Q : Int32 → St → Prop) : Prop :=
  (((S.1 2 0) = 0 → pX3_removeAll S (fun (S20 : St) => pX1_restart S20 (fun (S21 : St) => (∀ S22 : St, S22 = wr S21 1 0 (0 : Int32) → (∃ N : Nat, itr (F := Int32 → Int32 → Nat → St → Prop) (fun _ _ _ _ => False) (fun k38 x1 x2 n S => bX6_find_38 n2 k38 Q x1 x2 n S) N (1 : Int32) (0 : Int32) n0 S22))))) ∧ (¬ ((S.1 2 0) = 0) → pX3_size S (fun (r24 : Int32) (S23 : St) => (n0 = n2 ∧ Q r24 S23))))
set_option maxHeartbeats 40000000 in
set_option maxRecDepth 100000 in
theorem kX6_find {p : Program} {l : Launch} {e : Env} {R : Room} {s : State} {m : MethodId} {args : Array Value} {below : List Frame} {meth : Method} {c : Code} {QQ : State → Prop} {g : va_G} {ct : Nat → ClassId} {ad : Nat → Nat} {n0 n2 ro : Nat} {A : Nat → Prop} (C : CallFix p m c cX6_find 3 s args wsX6_find RX6) (hK : va_K g vwCl (xT ct) s) (hN : xN s) (hA : ∀ q, s.heap.size ≤ q → A q) (hRf : 30 ≤ R.frames) (hRl : 1000 ≤ R.locals) (hRc : n2 ≤ R.cells + n0 ∧ 2 * n2 ≤ R.slots + 2 * n0) (hn : n0 ≤ n2) (Q : Int32 → St → Prop) (hret : ∀ (pc : Nat) (r : Int32) (S : St) (ro : Nat) (H : Heap) (locs : List Loc) (ls : Array Slot) (cells slots : Nat), decode cX6_find pc = .ok (.ireturn, 1) → Q r S → va_P g vwCl (wX ct ad n2 ro S) H → va_D A (wX ct ad n2 ro S) → va_S A s.heap H locs → cells + n0 = n2 ∧ slots + 2 * n0 = 2 * n2 ∧ n2 ≤ n2 → W p l e R s m args below meth c H locs cells slots QQ (F0 m pc ls [.int r])) (S : St) (h : pX6_find n0 n2 S Q) (H : Heap) (locs : List Loc) (ls : Array Slot) (hP : va_P g vwCl (wX ct ad n0 ro S) H) (hD : va_D A (wX ct ad n0 ro S)) (hS : va_S A s.heap H locs) (hl : lv_has ls 3 [(0, .ref (ad 0))]) : W p l e R s m args below meth c H locs 0 0 QQ (F0 m 0 ls []) := by
  have hinX6 : ∀ w ∈ wsX60, w ∈ wsX6_find := by decide +kernel
  have B104 : ∀ (n ro cells slots : Nat) (S : St) (H : Heap) (locs : List Loc) (ls : Array Slot), bX6_find_104 n2 Q n S → cells + n0 = n ∧ slots + 2 * n0 = 2 * n ∧ n ≤ n2 → va_P g vwCl (wX ct ad n ro S) H → va_D A (wX ct ad n ro S) → va_S A s.heap H locs → lv_has ls 3 [(0, .ref (ad 0))] → W p l e R s m args below meth c H locs cells slots QQ (F0 m 104 ls []) := by
    intro n ro cells slots S H locs ls h hc hP hD hS hl
    refine lv_aload_n C.1 C.2.1 dX6_find_104 rfl (lv_at hl 0 rfl) ?_
    refine lv_iconst (v := 1) C.1 C.2.1 dX6_find_105 (by decide) ?_
    obtain ⟨S1, eS1⟩ : ∃ z : St, z = wr S 2 0 (1 : Int32) := ⟨_, rfl⟩
    have h := h S1 eS1
    refine xp6_found C hinX6 hK hP hD hS (by decide +kernel) zb_1 dX6_find_106 (fun H locs hP hD hS => ?_)
    rw [← eS1] at hP hD
    refine lv_aload_n C.1 C.2.1 dX6_find_109 rfl (lv_at hl 0 rfl) ?_
    refine xg6_outcomes C hinX6 hK hP (by decide +kernel) dX6_find_110 ?_
    refine g_callVi (w := wX ct ad n ro) C hK hN hA hP hD hS (mX3_size l g ct ad n ro H.size S1   _ h) (cwV 0 C.2.2.2.2 gX6_find_X3_size rfl rfl rfl (by decide +kernel) ⟨Nat.le_trans (by decide) hRf, Nat.le_trans (by decide) hRl⟩) (va_recv hK hP (ci := 3) (q0 := 16) rfl rfl) rfl hl.1 rfl (Nat.le_of_ble_eq_true rfl) dX6_find_113 (by omega) (fun r3 S2 H locs h hP hD hS => ?_)
    obtain ⟨en, h⟩ := h
    rw [en] at hP hD
    exact hret _ _ _ _ _ _ _ _ _ dX6_find_116 h hP hD hS (by omega)
  have B90 : ∀ (k38 : Int32 → Int32 → Nat → St → Prop) (hk38 : ∀ (x1 : Int32) (x2 : Int32) (n ro cells slots : Nat) (S : St) (H : Heap) (locs : List Loc) (ls : Array Slot), k38 x1 x2 n S → cells + n0 = n ∧ slots + 2 * n0 = 2 * n ∧ n ≤ n2 → va_P g vwCl (wX ct ad n ro S) H → va_D A (wX ct ad n ro S) → va_S A s.heap H locs → lv_has ls 3 [(0, .ref (ad 0)), (1, .int x1), (2, .int x2)] → W p l e R s m args below meth c H locs cells slots QQ (F0 m 38 ls [])) (x2 : Int32) (n ro cells slots : Nat) (S : St) (H : Heap) (locs : List Loc) (ls : Array Slot), bX6_find_90 n2 k38 Q x2 n S → cells + n0 = n ∧ slots + 2 * n0 = 2 * n ∧ n ≤ n2 → va_P g vwCl (wX ct ad n ro S) H → va_D A (wX ct ad n ro S) → va_S A s.heap H locs → lv_has ls 3 [(0, .ref (ad 0)), (2, .int x2)] → W p l e R s m args below meth c H locs cells slots QQ (F0 m 90 ls []) := by
    intro k38 hk38 x2 n ro cells slots S H locs ls h hc hP hD hS hl
    refine lv_aload_n C.1 C.2.1 dX6_find_90 rfl (lv_at hl 0 rfl) ?_
    refine xg6_choices C hinX6 hK hP (by decide +kernel) dX6_find_91 ?_
    refine g_callVi (w := wX ct ad n ro) C hK hN hA hP hD hS (mX1_advance l g ct ad n ro H.size S   _ h) (cwV 0 C.2.2.2.2 gX6_find_X1_advance rfl rfl rfl (by decide +kernel) ⟨Nat.le_trans (by decide) hRf, Nat.le_trans (by decide) hRl⟩) (va_recv hK hP (ci := 1) (q0 := 5) rfl rfl) rfl hl.1 rfl (Nat.le_of_ble_eq_true rfl) dX6_find_94 (by omega) (fun r5 S4 H locs h hP hD hS => ?_)
    refine lv_istore_n (lv' := [(1, .int r5), (0, .ref (ad 0)), (2, .int x2)]) C.1 C.2.1 dX6_find_97 rfl hl (by decide) rfl (fun ls hl => ?_)
    obtain ⟨y6, ey6⟩ : ∃ z : Int32, z = x2 + (1 : Int32) := ⟨_, rfl⟩
    have h := h y6 ey6
    refine lv_iinc (v := y6) (lv' := [(2, .int y6), (1, .int r5), (0, .ref (ad 0))]) C.1 C.2.1 dX6_find_98 hl (k := 2) rfl (by rw [ey6]; rfl) (by decide) rfl (fun ls hl => ?_)
    refine lv_goto (tgt := 38) C.1 C.2.1 dX6_find_101 (by decide) ?_
    exact hk38 r5 y6 n ro cells slots S4 H locs ls h hc hP hD hS (lv_sub hl [2, 1, 0] rfl)
  have B38 : ∀ (k38 : Int32 → Int32 → Nat → St → Prop) (hk38 : ∀ (x1 : Int32) (x2 : Int32) (n ro cells slots : Nat) (S : St) (H : Heap) (locs : List Loc) (ls : Array Slot), k38 x1 x2 n S → cells + n0 = n ∧ slots + 2 * n0 = 2 * n ∧ n ≤ n2 → va_P g vwCl (wX ct ad n ro S) H → va_D A (wX ct ad n ro S) → va_S A s.heap H locs → lv_has ls 3 [(0, .ref (ad 0)), (1, .int x1), (2, .int x2)] → W p l e R s m args below meth c H locs cells slots QQ (F0 m 38 ls [])) (x1 : Int32) (x2 : Int32) (n ro cells slots : Nat) (S : St) (H : Heap) (locs : List Loc) (ls : Array Slot), bX6_find_38 n2 k38 Q x1 x2 n S → cells + n0 = n ∧ slots + 2 * n0 = 2 * n ∧ n ≤ n2 → va_P g vwCl (wX ct ad n ro S) H → va_D A (wX ct ad n ro S) → va_S A s.heap H locs → lv_has ls 3 [(0, .ref (ad 0)), (1, .int x1), (2, .int x2)] → W p l e R s m args below meth c H locs cells slots QQ (F0 m 38 ls []) := by
    intro k38 hk38 x1 x2 n ro cells slots S H locs ls h hc hP hD hS hl
    refine lv_iload_n C.1 C.2.1 dX6_find_38 rfl (lv_at hl 1 rfl) ?_
    refine lv_if_eq (tgt := 104) C.1 C.2.1 dX6_find_39 (by decide) (fun c19 => ?_) (fun c19 => ?_)
    · have h := h.1 c19
      exact B104  n ro cells slots S H locs ls h hc hP hD hS (lv_sub hl [0] rfl)
    · have h := h.2 c19
      refine lv_iload_n C.1 C.2.1 dX6_find_42 rfl (lv_at hl 2 rfl) ?_
      refine lv_sipush (v := 4096) C.1 C.2.1 dX6_find_43 (by decide) ?_
      refine lv_icmp_ge (tgt := 104) C.1 C.2.1 dX6_find_46 (by decide) (fun c18 => ?_) (fun c18 => ?_)
      · have h := h.1 c18
        exact B104  n ro cells slots S H locs ls h hc hP hD hS (lv_sub hl [0] rfl)
      · have h := h.2 c18
        refine lv_aload_n C.1 C.2.1 dX6_find_49 rfl (lv_at hl 0 rfl) ?_
        refine xg6_way C hinX6 hK hP (by decide +kernel) dX6_find_50 ?_
        refine lv_aload_n C.1 C.2.1 dX6_find_53 rfl (lv_at hl 0 rfl) ?_
        refine xg6_model C hinX6 hK hP (by decide +kernel) dX6_find_54 ?_
        refine g_callVv (w := wX ct ad n ro) C hK hN hA hP hD hS (mX5_walk l g ct ad n ro H.size S (S.1 0 0)  _ h) (cwV 1 C.2.2.2.2 gX6_find_X5_walk rfl rfl rfl (by decide +kernel) ⟨Nat.le_trans (by decide) hRf, Nat.le_trans (by decide) hRl⟩) (va_recv hK hP (ci := 5) (q0 := 8) rfl rfl) rfl hl.1 rfl (Nat.le_of_ble_eq_true rfl) dX6_find_57 (by omega) (fun S7 H locs h hP hD hS => ?_)
        refine lv_aload_n C.1 C.2.1 dX6_find_60 rfl (lv_at hl 0 rfl) ?_
        refine xg6_way C hinX6 hK hP (by decide +kernel) dX6_find_61 ?_
        refine g_callVi (w := wX ct ad n ro) C hK hN hA hP hD hS (mX5_isPlausible l g ct ad n ro H.size S7   _ h) (cwV 0 C.2.2.2.2 gX6_find_X5_isPlausible rfl rfl rfl (by decide +kernel) ⟨Nat.le_trans (by decide) hRf, Nat.le_trans (by decide) hRl⟩) (va_recv hK hP (ci := 5) (q0 := 8) rfl rfl) rfl hl.1 rfl (Nat.le_of_ble_eq_true rfl) dX6_find_64 (by omega) (fun r9 S8 H locs h hP hD hS => ?_)
        refine lv_if_eq (tgt := 90) C.1 C.2.1 dX6_find_67 (by decide) (fun c17 => ?_) (fun c17 => ?_)
        · have h := h.1 c17
          exact B90 k38 hk38 x2 n ro cells slots S8 H locs ls h hc hP hD hS (lv_sub hl [0, 2] rfl)
        · have h := h.2 c17
          refine lv_aload_n C.1 C.2.1 dX6_find_70 rfl (lv_at hl 0 rfl) ?_
          refine xg6_ordering C hinX6 hK hP (by decide +kernel) dX6_find_71 ?_
          obtain ⟨n10, hn1, hn2, h⟩ := h
          refine g_callVig C hK hN hA hP hD hS (mX2_search l g ct ad H.size n n10 ro S8  _ hn1 h) (cwV 0 C.2.2.2.2 gX6_find_X2_search rfl rfl rfl (by decide +kernel) ⟨Nat.le_trans (show 27 + 1 ≤ 30 by decide) hRf, Nat.le_trans (show 8 + (1 + 11) + 900 ≤ 1000 by decide) hRl⟩) (va_recv hK hP (ci := 2) (q0 := 12) rfl rfl) rfl hl.1 rfl (Nat.le_of_ble_eq_true rfl) dX6_find_74 (by omega) (fun r14 S11 ro H locs cells12 slots13 ec es h hP hD hS => ?_)
          have hc : cells12 + n0 = n10 ∧ slots13 + 2 * n0 = 2 * n10 ∧ n10 ≤ n2 := by omega
          refine lv_if_eq (tgt := 90) C.1 C.2.1 dX6_find_77 (by decide) (fun c16 => ?_) (fun c16 => ?_)
          · have h := h.1 c16
            exact B90 k38 hk38 x2 n10 ro cells12 slots13 S11 H locs ls h hc hP hD hS (lv_sub hl [0, 2] rfl)
          · have h := h.2 c16
            refine lv_aload_n C.1 C.2.1 dX6_find_80 rfl (lv_at hl 0 rfl) ?_
            refine lv_dup C.1 C.2.1 dX6_find_81 rfl ?_
            refine xg6_ways C hinX6 hK hP (by decide +kernel) dX6_find_82 ?_
            refine lv_iconst (v := 1) C.1 C.2.1 dX6_find_85 (by decide) ?_
            refine lv_iadd C.1 C.2.1 dX6_find_86 ?_
            obtain ⟨S15, eS15⟩ : ∃ z : St, z = wr S11 1 0 ((S11.1 1 0) + (1 : Int32)) := ⟨_, rfl⟩
            have h := h S15 eS15
            refine xp6_ways C hinX6 hK hP hD hS (by decide +kernel) dX6_find_87 (fun H locs hP hD hS => ?_)
            rw [← eS15] at hP hD
            exact B90 k38 hk38 x2 n10 ro cells12 slots13 S15 H locs ls h hc hP hD hS (lv_sub hl [0, 2] rfl)
  have L38 : ∀ (N : Nat) (x1 : Int32) (x2 : Int32) (n ro cells slots : Nat) (S : St) (H : Heap) (locs : List Loc) (ls : Array Slot), itr (F := Int32 → Int32 → Nat → St → Prop) (fun _ _ _ _ => False) (fun k38 x1 x2 n S => bX6_find_38 n2 k38 Q x1 x2 n S) N x1 x2 n S → cells + n0 = n ∧ slots + 2 * n0 = 2 * n ∧ n ≤ n2 → va_P g vwCl (wX ct ad n ro S) H → va_D A (wX ct ad n ro S) → va_S A s.heap H locs → lv_has ls 3 [(0, .ref (ad 0)), (1, .int x1), (2, .int x2)] → W p l e R s m args below meth c H locs cells slots QQ (F0 m 38 ls []) := by
    intro N
    induction N with
    | zero => intro x1 x2 n ro cells slots S H locs ls h hc hP hD hS hl; exact False.elim h
    | succ N ih => intro x1 x2 n ro cells slots S H locs ls h hc hP hD hS hl; exact B38  (itr (F := Int32 → Int32 → Nat → St → Prop) (fun _ _ _ _ => False) (fun k38 x1 x2 n S => bX6_find_38 n2 k38 Q x1 x2 n S) N) ih x1 x2 n ro cells slots S H locs ls h hc hP hD hS hl
  have hc : 0 + n0 = n0 ∧ 0 + 2 * n0 = 2 * n0 ∧ n0 ≤ n2 := by omega
  refine lv_aload_n C.1 C.2.1 dX6_find_0 rfl (lv_at hl 0 rfl) ?_
  refine xg6_found C hinX6 hK hP (by decide +kernel) dX6_find_1 ?_
  refine lv_if_eq (tgt := 15) C.1 C.2.1 dX6_find_4 (by decide) (fun c25 => ?_) (fun c25 => ?_)
  · have h := h.1 c25
    refine lv_aload_n C.1 C.2.1 dX6_find_15 rfl (lv_at hl 0 rfl) ?_
    refine xg6_outcomes C hinX6 hK hP (by decide +kernel) dX6_find_16 ?_
    refine g_callVv (w := wX ct ad n0 ro) C hK hN hA hP hD hS (mX3_removeAll l g ct ad n0 ro H.size S   _ h) (cwV 0 C.2.2.2.2 gX6_find_X3_removeAll rfl rfl rfl (by decide +kernel) ⟨Nat.le_trans (by decide) hRf, Nat.le_trans (by decide) hRl⟩) (va_recv hK hP (ci := 3) (q0 := 16) rfl rfl) rfl hl.1 rfl (Nat.le_of_ble_eq_true rfl) dX6_find_19 (by omega) (fun S20 H locs h hP hD hS => ?_)
    refine lv_aload_n C.1 C.2.1 dX6_find_22 rfl (lv_at hl 0 rfl) ?_
    refine xg6_choices C hinX6 hK hP (by decide +kernel) dX6_find_23 ?_
    refine g_callVv (w := wX ct ad n0 ro) C hK hN hA hP hD hS (mX1_restart l g ct ad n0 ro H.size S20   _ h) (cwV 0 C.2.2.2.2 gX6_find_X1_restart rfl rfl rfl (by decide +kernel) ⟨Nat.le_trans (by decide) hRf, Nat.le_trans (by decide) hRl⟩) (va_recv hK hP (ci := 1) (q0 := 5) rfl rfl) rfl hl.1 rfl (Nat.le_of_ble_eq_true rfl) dX6_find_26 (by omega) (fun S21 H locs h hP hD hS => ?_)
    refine lv_aload_n C.1 C.2.1 dX6_find_29 rfl (lv_at hl 0 rfl) ?_
    refine lv_iconst (v := 0) C.1 C.2.1 dX6_find_30 (by decide) ?_
    obtain ⟨S22, eS22⟩ : ∃ z : St, z = wr S21 1 0 (0 : Int32) := ⟨_, rfl⟩
    have h := h S22 eS22
    refine xp6_ways C hinX6 hK hP hD hS (by decide +kernel) dX6_find_31 (fun H locs hP hD hS => ?_)
    rw [← eS22] at hP hD
    refine lv_iconst (v := 1) C.1 C.2.1 dX6_find_34 (by decide) ?_
    refine lv_istore_n (lv' := [(1, .int (1 : Int32)), (0, .ref (ad 0))]) C.1 C.2.1 dX6_find_35 rfl hl (by decide) rfl (fun ls hl => ?_)
    refine lv_iconst (v := 0) C.1 C.2.1 dX6_find_36 (by decide) ?_
    refine lv_istore_n (lv' := [(2, .int (0 : Int32)), (1, .int (1 : Int32)), (0, .ref (ad 0))]) C.1 C.2.1 dX6_find_37 rfl hl (by decide) rfl (fun ls hl => ?_)
    obtain ⟨N, h⟩ := h
    exact L38 N (1 : Int32) (0 : Int32) n0 ro 0 0 S22 H locs ls h hc hP hD hS (lv_sub hl [2, 1, 0] rfl)
  · have h := h.2 c25
    refine lv_aload_n C.1 C.2.1 dX6_find_7 rfl (lv_at hl 0 rfl) ?_
    refine xg6_outcomes C hinX6 hK hP (by decide +kernel) dX6_find_8 ?_
    refine g_callVi (w := wX ct ad n0 ro) C hK hN hA hP hD hS (mX3_size l g ct ad n0 ro H.size S   _ h) (cwV 0 C.2.2.2.2 gX6_find_X3_size rfl rfl rfl (by decide +kernel) ⟨Nat.le_trans (by decide) hRf, Nat.le_trans (by decide) hRl⟩) (va_recv hK hP (ci := 3) (q0 := 16) rfl rfl) rfl hl.1 rfl (Nat.le_of_ble_eq_true rfl) dX6_find_11 (by omega) (fun r24 S23 H locs h hP hD hS => ?_)
    obtain ⟨en, h⟩ := h
    rw [en] at hP hD
    exact hret _ _ _ _ _ _ _ _ _ dX6_find_14 h hP hD hS (by omega)
theorem mX6_find (l : Launch) (g : va_G) (ct : Nat → ClassId) (ad : Nat → Nat) (sz n0 n2 ro : Nat) (S : St) (Q : Int32 → St → Prop) (hn : n0 ≤ n2) (h : pX6_find n0 n2 S Q) : Met l yX6_find wsX6_find ({ frames := 30, cells := n2 - n0, slots := 2 * (n2 - n0), locals := 1000 }) (gPc g (xT ct) (wX ct ad n0 ro S) sz [.ref (ad 0)]) (va_Qi Q (gBg g ct ad n2 (va_A (wX ct ad n0 ro S) sz)) (va_A (wX ct ad n0 ro S) sz)) (n2 - n0) (2 * (n2 - n0)) (va_A (wX ct ad n0 ro S) sz) :=
  g_metIg (cc := cX6_find) (maxL := 3) hn rfl rfl (by decide) rfl rfl (Nat.le_of_ble_eq_true rfl) rfl (fun p e s m args below meth c QQ A C hK hN hA hret H locs ls hP hD hS hl => kX6_find C hK hN hA (Nat.le_refl _) (Nat.le_refl _) (by show n2 ≤ (n2 - n0) + n0 ∧ 2 * n2 ≤ 2 * (n2 - n0) + 2 * n0; omega) hn Q hret  S h H locs ls hP hD hS hl)
