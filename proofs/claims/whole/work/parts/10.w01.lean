def pX3_size (S : St) (Q : Int32 → St → Prop) : Prop :=
  Q (S.1 17 0) S
set_option maxHeartbeats 40000000 in
set_option maxRecDepth 100000 in
theorem kX3_size {p : Program} {l : Launch} {e : Env} {R : Room} {s : State} {m : MethodId} {args : Array Value} {below : List Frame} {meth : Method} {c : Code} {QQ : State → Prop} {g : va_G} {ct : Nat → ClassId} {ad : Nat → Nat} {n ro : Nat} {A : Nat → Prop} (C : CallFix p m c cX3_size 1 s args wsX3_size RX3) (hK : va_K g vwCl (xT ct) s) (hN : xN s) (hA : ∀ q, s.heap.size ≤ q → A q) (hRf : 0 ≤ R.frames) (hRl : 0 ≤ R.locals) (Q : Int32 → St → Prop) (hret : ∀ (pc : Nat) (r : Int32) (S : St) (H : Heap) (locs : List Loc) (ls : Array Slot), decode cX3_size pc = .ok (.ireturn, 1) → Q r S → va_P g vwCl (wX ct ad n ro S) H → va_D A (wX ct ad n ro S) → va_S A s.heap H locs → W p l e R s m args below meth c H locs 0 0 QQ (F0 m pc ls [.int r])) (S : St) (h : pX3_size S Q) (H : Heap) (locs : List Loc) (ls : Array Slot) (hP : va_P g vwCl (wX ct ad n ro S) H) (hD : va_D A (wX ct ad n ro S)) (hS : va_S A s.heap H locs) (hl : lv_has ls 1 [(0, .ref (ad 16))]) : W p l e R s m args below meth c H locs 0 0 QQ (F0 m 0 ls []) := by
  have hinX3 : ∀ w ∈ wsX30, w ∈ wsX3_size := by decide +kernel
  refine lv_aload_n C.1 C.2.1 dX3_size_0 rfl (lv_at hl 0 rfl) ?_
  refine xg3_size C hinX3 hK hP (by decide +kernel) dX3_size_1 ?_
  exact hret _ _ _ _ _ _ dX3_size_4 h hP hD hS
theorem mX3_size (l : Launch) (g : va_G) (ct : Nat → ClassId) (ad : Nat → Nat) (n ro sz : Nat) (S : St) (Q : Int32 → St → Prop) (h : pX3_size S Q) : Met l yX3_size wsX3_size ({ frames := 0, cells := 0, slots := 0, locals := 0 }) (gPc g (xT ct) (wX ct ad n ro S) sz [.ref (ad 16)]) (va_Qi Q (gB g (xT ct) (wX ct ad n ro) (va_A (wX ct ad n ro S) sz)) (va_A (wX ct ad n ro S) sz)) 0 0 (va_A (wX ct ad n ro S) sz) :=
  g_metI (w := wX ct ad n ro) (cc := cX3_size) (maxL := 1) (by decide) rfl rfl (Nat.le_of_ble_eq_true rfl) rfl (fun p e s m args below meth c QQ A C hK hN hA hret H locs ls hP hD hS hl => kX3_size C hK hN hA (Nat.le_refl _) (Nat.le_refl _) Q hret  S h H locs ls hP hD hS hl)

def bX3_at_24 (n : Nat) (Q : Int64 → St → Prop) (t0 : Int64) (S : St) : Prop :=
  Q t0 S
def bX3_at_21 (n : Nat) (Q : Int64 → St → Prop) (S : St) : Prop :=
  bX3_at_24 n Q (-1 : Int64) S
def pX3_at (n : Nat) (x1 : Int32) (S : St) (Q : Int64 → St → Prop) : Prop :=
  ((x1 < 0 → bX3_at_21 n Q  S) ∧ (¬ (x1 < 0) → (((S.1 17 0) ≤ x1 → bX3_at_21 n Q  S) ∧ (¬ ((S.1 17 0) ≤ x1) → (vp_in x1 n ∧ bX3_at_24 n Q (S.2.2 1 (Int32.toNatClampNeg x1)) S)))))
set_option maxHeartbeats 40000000 in
set_option maxRecDepth 100000 in
theorem kX3_at {p : Program} {l : Launch} {e : Env} {R : Room} {s : State} {m : MethodId} {args : Array Value} {below : List Frame} {meth : Method} {c : Code} {QQ : State → Prop} {g : va_G} {ct : Nat → ClassId} {ad : Nat → Nat} {n ro : Nat} {A : Nat → Prop} (C : CallFix p m c cX3_at 2 s args wsX3_at RX3) (hK : va_K g vwCl (xT ct) s) (hN : xN s) (hA : ∀ q, s.heap.size ≤ q → A q) (hRf : 0 ≤ R.frames) (hRl : 0 ≤ R.locals) (Q : Int64 → St → Prop) (hret : ∀ (pc : Nat) (r : Int64) (S : St) (H : Heap) (locs : List Loc) (ls : Array Slot), decode cX3_at pc = .ok (.lreturn, 1) → Q r S → va_P g vwCl (wX ct ad n ro S) H → va_D A (wX ct ad n ro S) → va_S A s.heap H locs → W p l e R s m args below meth c H locs 0 0 QQ (F0 m pc ls [.long r])) (x1 : Int32) (S : St) (h : pX3_at n x1 S Q) (H : Heap) (locs : List Loc) (ls : Array Slot) (hP : va_P g vwCl (wX ct ad n ro S) H) (hD : va_D A (wX ct ad n ro S)) (hS : va_S A s.heap H locs) (hl : lv_has ls 2 [(0, .ref (ad 16)), (1, .int x1)]) : W p l e R s m args below meth c H locs 0 0 QQ (F0 m 0 ls []) := by
  have hinX3 : ∀ w ∈ wsX30, w ∈ wsX3_at := by decide +kernel
  have B24 : ∀ (t0 : Int64) (S : St) (H : Heap) (locs : List Loc) (ls : Array Slot), bX3_at_24 n Q t0 S → va_P g vwCl (wX ct ad n ro S) H → va_D A (wX ct ad n ro S) → va_S A s.heap H locs → lv_has ls 2 [(0, .ref (ad 16))] → W p l e R s m args below meth c H locs 0 0 QQ (F0 m 24 ls [.long t0]) := by
    intro t0 S H locs ls h hP hD hS hl
    exact hret _ _ _ _ _ _ dX3_at_24 h hP hD hS
  have B21 : ∀ (S : St) (H : Heap) (locs : List Loc) (ls : Array Slot), bX3_at_21 n Q S → va_P g vwCl (wX ct ad n ro S) H → va_D A (wX ct ad n ro S) → va_S A s.heap H locs → lv_has ls 2 [(0, .ref (ad 16))] → W p l e R s m args below meth c H locs 0 0 QQ (F0 m 21 ls []) := by
    intro S H locs ls h hP hD hS hl
    refine lv_ldc2 (v := -1) C.1 C.2.1 C.2.2.2.1 (C.2.2.2.2 (.constantLong RX3 19 (-1)) (by decide +kernel)) dX3_at_21 ?_
    exact B24 (-1 : Int64) S H locs ls h hP hD hS (lv_sub hl [0] rfl)
  refine lv_iload_n C.1 C.2.1 dX3_at_0 rfl (lv_at hl 1 rfl) ?_
  refine lv_if_lt (tgt := 21) C.1 C.2.1 dX3_at_1 (by decide) (fun c3 => ?_) (fun c3 => ?_)
  · have h := h.1 c3
    exact B21  S H locs ls h hP hD hS (lv_sub hl [0] rfl)
  · have h := h.2 c3
    refine lv_iload_n C.1 C.2.1 dX3_at_4 rfl (lv_at hl 1 rfl) ?_
    refine lv_aload_n C.1 C.2.1 dX3_at_5 rfl (lv_at hl 0 rfl) ?_
    refine xg3_size C hinX3 hK hP (by decide +kernel) dX3_at_6 ?_
    refine lv_icmp_ge (tgt := 21) C.1 C.2.1 dX3_at_9 (by decide) (fun c2 => ?_) (fun c2 => ?_)
    · have h := h.1 c2
      exact B21  S H locs ls h hP hD hS (lv_sub hl [0] rfl)
    · have h := h.2 c2
      refine lv_aload_n C.1 C.2.1 dX3_at_12 rfl (lv_at hl 0 rfl) ?_
      refine xg3_rows C hinX3 hK hP (by decide +kernel) dX3_at_13 ?_
      refine lv_iload_n C.1 C.2.1 dX3_at_16 rfl (lv_at hl 1 rfl) ?_
      obtain ⟨g1, h⟩ := h
      refine xa_out C hK hP g1  rfl dX3_at_17 ?_
      refine lv_goto (tgt := 24) C.1 C.2.1 dX3_at_18 (by decide) ?_
      exact B24 (S.2.2 1 (Int32.toNatClampNeg x1)) S H locs ls h hP hD hS (lv_sub hl [0] rfl)
theorem mX3_at (l : Launch) (g : va_G) (ct : Nat → ClassId) (ad : Nat → Nat) (n ro sz : Nat) (S : St) (x1 : Int32) (Q : Int64 → St → Prop) (h : pX3_at n x1 S Q) : Met l yX3_at wsX3_at ({ frames := 0, cells := 0, slots := 0, locals := 0 }) (gPc g (xT ct) (wX ct ad n ro S) sz [.ref (ad 16), .int x1]) (va_Ql Q (gB g (xT ct) (wX ct ad n ro) (va_A (wX ct ad n ro S) sz)) (va_A (wX ct ad n ro S) sz)) 0 0 (va_A (wX ct ad n ro S) sz) :=
  g_metJ (w := wX ct ad n ro) (cc := cX3_at) (maxL := 2) (by decide) rfl rfl (Nat.le_of_ble_eq_true rfl) rfl (fun p e s m args below meth c QQ A C hK hN hA hret H locs ls hP hD hS hl => kX3_at C hK hN hA (Nat.le_refl _) (Nat.le_refl _) Q hret x1 S h H locs ls hP hD hS hl)

def bX3_spotOf_62 (n : Nat) (Q : Int32 → St → Prop) (x3 : Int32) (S : St) : Prop :=
  Q x3 S
def bX3_spotOf_56 (n : Nat) (k11 : Int64 → Int32 → Int32 → Int32 → St → Prop) (Q : Int32 → St → Prop) (x1 : Int64) (x3 : Int32) (x4 : Int32) (x5 : Int32) (S : St) : Prop :=
  (∀ y1 : Int32, y1 = x5 + (1 : Int32) → k11 x1 x3 x4 y1 S)
def bX3_spotOf_11 (n : Nat) (k11 : Int64 → Int32 → Int32 → Int32 → St → Prop) (Q : Int32 → St → Prop) (x1 : Int64) (x3 : Int32) (x4 : Int32) (x5 : Int32) (S : St) : Prop :=
  ((x4 ≤ x3 → bX3_spotOf_62 n Q x3 S) ∧ (¬ (x4 ≤ x3) → (((32 : Int32) ≤ x5 → bX3_spotOf_62 n Q x3 S) ∧ (¬ ((32 : Int32) ≤ x5) → (∀ y2 : Int32, y2 = ((x3 + x4) / (2 : Int32)) → (vp_in y2 n ∧ ((0 ≤ (lg_cmp (S.2.2 1 (Int32.toNatClampNeg y2)) x1) → bX3_spotOf_56 n k11 Q x1 x3 y2 x5 S) ∧ (¬ (0 ≤ (lg_cmp (S.2.2 1 (Int32.toNatClampNeg y2)) x1)) → (∀ y4 : Int32, y4 = (y2 + (1 : Int32)) → bX3_spotOf_56 n k11 Q x1 y4 x4 x5 S)))))))))
def pX3_spotOf (n : Nat) (x1 : Int64) (S : St) (Q : Int32 → St → Prop) : Prop :=
  (∀ y8 : Int32, y8 = (S.1 17 0) → (∃ N : Nat, itr (F := Int64 → Int32 → Int32 → Int32 → St → Prop) (fun _ _ _ _ _ => False) (fun k11 x1 x3 x4 x5 S => bX3_spotOf_11 n k11 Q x1 x3 x4 x5 S) N x1 (0 : Int32) y8 (0 : Int32) S))
set_option maxHeartbeats 40000000 in
set_option maxRecDepth 100000 in
theorem kX3_spotOf {p : Program} {l : Launch} {e : Env} {R : Room} {s : State} {m : MethodId} {args : Array Value} {below : List Frame} {meth : Method} {c : Code} {QQ : State → Prop} {g : va_G} {ct : Nat → ClassId} {ad : Nat → Nat} {n ro : Nat} {A : Nat → Prop} (C : CallFix p m c cX3_spotOf 7 s args wsX3_spotOf RX3) (hK : va_K g vwCl (xT ct) s) (hN : xN s) (hA : ∀ q, s.heap.size ≤ q → A q) (hRf : 0 ≤ R.frames) (hRl : 0 ≤ R.locals) (Q : Int32 → St → Prop) (hret : ∀ (pc : Nat) (r : Int32) (S : St) (H : Heap) (locs : List Loc) (ls : Array Slot), decode cX3_spotOf pc = .ok (.ireturn, 1) → Q r S → va_P g vwCl (wX ct ad n ro S) H → va_D A (wX ct ad n ro S) → va_S A s.heap H locs → W p l e R s m args below meth c H locs 0 0 QQ (F0 m pc ls [.int r])) (x1 : Int64) (S : St) (h : pX3_spotOf n x1 S Q) (H : Heap) (locs : List Loc) (ls : Array Slot) (hP : va_P g vwCl (wX ct ad n ro S) H) (hD : va_D A (wX ct ad n ro S)) (hS : va_S A s.heap H locs) (hl : lv_has ls 7 [(0, .ref (ad 16)), (1, .long x1)]) : W p l e R s m args below meth c H locs 0 0 QQ (F0 m 0 ls []) := by
  have hinX3 : ∀ w ∈ wsX30, w ∈ wsX3_spotOf := by decide +kernel
  have B62 : ∀ (x3 : Int32) (S : St) (H : Heap) (locs : List Loc) (ls : Array Slot), bX3_spotOf_62 n Q x3 S → va_P g vwCl (wX ct ad n ro S) H → va_D A (wX ct ad n ro S) → va_S A s.heap H locs → lv_has ls 7 [(0, .ref (ad 16)), (3, .int x3)] → W p l e R s m args below meth c H locs 0 0 QQ (F0 m 62 ls []) := by
    intro x3 S H locs ls h hP hD hS hl
    refine lv_iload_n C.1 C.2.1 dX3_spotOf_62 rfl (lv_at hl 1 rfl) ?_
    exact hret _ _ _ _ _ _ dX3_spotOf_63 h hP hD hS
  have B56 : ∀ (k11 : Int64 → Int32 → Int32 → Int32 → St → Prop) (hk11 : ∀ (x1 : Int64) (x3 : Int32) (x4 : Int32) (x5 : Int32) (S : St) (H : Heap) (locs : List Loc) (ls : Array Slot), k11 x1 x3 x4 x5 S → va_P g vwCl (wX ct ad n ro S) H → va_D A (wX ct ad n ro S) → va_S A s.heap H locs → lv_has ls 7 [(0, .ref (ad 16)), (1, .long x1), (3, .int x3), (4, .int x4), (5, .int x5)] → W p l e R s m args below meth c H locs 0 0 QQ (F0 m 11 ls [])) (x1 : Int64) (x3 : Int32) (x4 : Int32) (x5 : Int32) (S : St) (H : Heap) (locs : List Loc) (ls : Array Slot), bX3_spotOf_56 n k11 Q x1 x3 x4 x5 S → va_P g vwCl (wX ct ad n ro S) H → va_D A (wX ct ad n ro S) → va_S A s.heap H locs → lv_has ls 7 [(0, .ref (ad 16)), (1, .long x1), (3, .int x3), (4, .int x4), (5, .int x5)] → W p l e R s m args below meth c H locs 0 0 QQ (F0 m 56 ls []) := by
    intro k11 hk11 x1 x3 x4 x5 S H locs ls h hP hD hS hl
    obtain ⟨y1, ey1⟩ : ∃ z : Int32, z = x5 + (1 : Int32) := ⟨_, rfl⟩
    have h := h y1 ey1
    refine lv_iinc (v := y1) (lv' := [(5, .int y1), (0, .ref (ad 16)), (1, .long x1), (3, .int x3), (4, .int x4)]) C.1 C.2.1 dX3_spotOf_56 hl (k := 4) rfl (by rw [ey1]; rfl) (by decide) rfl (fun ls hl => ?_)
    refine lv_goto (tgt := 11) C.1 C.2.1 dX3_spotOf_59 (by decide) ?_
    exact hk11 x1 x3 x4 y1 S H locs ls h hP hD hS (lv_sub hl [1, 2, 3, 4, 0] rfl)
  have B11 : ∀ (k11 : Int64 → Int32 → Int32 → Int32 → St → Prop) (hk11 : ∀ (x1 : Int64) (x3 : Int32) (x4 : Int32) (x5 : Int32) (S : St) (H : Heap) (locs : List Loc) (ls : Array Slot), k11 x1 x3 x4 x5 S → va_P g vwCl (wX ct ad n ro S) H → va_D A (wX ct ad n ro S) → va_S A s.heap H locs → lv_has ls 7 [(0, .ref (ad 16)), (1, .long x1), (3, .int x3), (4, .int x4), (5, .int x5)] → W p l e R s m args below meth c H locs 0 0 QQ (F0 m 11 ls [])) (x1 : Int64) (x3 : Int32) (x4 : Int32) (x5 : Int32) (S : St) (H : Heap) (locs : List Loc) (ls : Array Slot), bX3_spotOf_11 n k11 Q x1 x3 x4 x5 S → va_P g vwCl (wX ct ad n ro S) H → va_D A (wX ct ad n ro S) → va_S A s.heap H locs → lv_has ls 7 [(0, .ref (ad 16)), (1, .long x1), (3, .int x3), (4, .int x4), (5, .int x5)] → W p l e R s m args below meth c H locs 0 0 QQ (F0 m 11 ls []) := by
    intro k11 hk11 x1 x3 x4 x5 S H locs ls h hP hD hS hl
    refine lv_iload_n C.1 C.2.1 dX3_spotOf_11 rfl (lv_at hl 2 rfl) ?_
    refine lv_iload C.1 C.2.1 dX3_spotOf_12 (lv_at hl 3 rfl) ?_
    refine lv_icmp_ge (tgt := 62) C.1 C.2.1 dX3_spotOf_14 (by decide) (fun c7 => ?_) (fun c7 => ?_)
    · have h := h.1 c7
      exact B62 x3 S H locs ls h hP hD hS (lv_sub hl [0, 2] rfl)
    · have h := h.2 c7
      refine lv_iload C.1 C.2.1 dX3_spotOf_17 (lv_at hl 4 rfl) ?_
      refine lv_bipush (v := 32) C.1 C.2.1 dX3_spotOf_19 (by decide) ?_
      refine lv_icmp_ge (tgt := 62) C.1 C.2.1 dX3_spotOf_21 (by decide) (fun c6 => ?_) (fun c6 => ?_)
      · have h := h.1 c6
        exact B62 x3 S H locs ls h hP hD hS (lv_sub hl [0, 2] rfl)
      · have h := h.2 c6
        refine lv_iload_n C.1 C.2.1 dX3_spotOf_24 rfl (lv_at hl 2 rfl) ?_
        refine lv_iload C.1 C.2.1 dX3_spotOf_25 (lv_at hl 3 rfl) ?_
        refine lv_iadd C.1 C.2.1 dX3_spotOf_27 ?_
        refine lv_iconst (v := 2) C.1 C.2.1 dX3_spotOf_28 (by decide) ?_
        refine lv_idiv C.1 C.2.1 dX3_spotOf_29 (by decide) ?_
        refine lv_topi (fun y2 ey2 => ?_)
        have h := h y2 ey2
        refine lv_istore (lv' := [(6, .int y2), (0, .ref (ad 16)), (1, .long x1), (3, .int x3), (4, .int x4), (5, .int x5)]) C.1 C.2.1 dX3_spotOf_30 hl (by decide) rfl (fun ls hl => ?_)
        refine lv_aload_n C.1 C.2.1 dX3_spotOf_32 rfl (lv_at hl 1 rfl) ?_
        refine xg3_rows C hinX3 hK hP (by decide +kernel) dX3_spotOf_33 ?_
        refine lv_iload C.1 C.2.1 dX3_spotOf_36 (lv_at hl 0 rfl) ?_
        obtain ⟨g3, h⟩ := h
        refine xa_out C hK hP g3  rfl dX3_spotOf_38 ?_
        refine lv_lload_n C.1 C.2.1 dX3_spotOf_39 rfl (lv_at hl 2 rfl) ?_
        refine W.lcmp C.1 C.2.1 dX3_spotOf_40 ?_
        refine lv_if_ge (tgt := 52) C.1 C.2.1 dX3_spotOf_41 (by decide) (fun c5 => ?_) (fun c5 => ?_)
        · have h := h.1 c5
          refine lv_iload C.1 C.2.1 dX3_spotOf_52 (lv_at hl 0 rfl) ?_
          refine lv_istore (lv' := [(4, .int y2), (6, .int y2), (0, .ref (ad 16)), (1, .long x1), (3, .int x3), (5, .int x5)]) C.1 C.2.1 dX3_spotOf_54 hl (by decide) rfl (fun ls hl => ?_)
          exact B56 k11 hk11 x1 x3 y2 x5 S H locs ls h hP hD hS (lv_sub hl [2, 3, 4, 0, 5] rfl)
        · have h := h.2 c5
          refine lv_iload C.1 C.2.1 dX3_spotOf_44 (lv_at hl 0 rfl) ?_
          refine lv_iconst (v := 1) C.1 C.2.1 dX3_spotOf_46 (by decide) ?_
          refine lv_iadd C.1 C.2.1 dX3_spotOf_47 ?_
          refine lv_topi (fun y4 ey4 => ?_)
          have h := h y4 ey4
          refine lv_istore_n (lv' := [(3, .int y4), (6, .int y2), (0, .ref (ad 16)), (1, .long x1), (4, .int x4), (5, .int x5)]) C.1 C.2.1 dX3_spotOf_48 rfl hl (by decide) rfl (fun ls hl => ?_)
          refine lv_goto (tgt := 56) C.1 C.2.1 dX3_spotOf_49 (by decide) ?_
          exact B56 k11 hk11 x1 y4 x4 x5 S H locs ls h hP hD hS (lv_sub hl [2, 3, 0, 4, 5] rfl)
  have L11 : ∀ (N : Nat) (x1 : Int64) (x3 : Int32) (x4 : Int32) (x5 : Int32) (S : St) (H : Heap) (locs : List Loc) (ls : Array Slot), itr (F := Int64 → Int32 → Int32 → Int32 → St → Prop) (fun _ _ _ _ _ => False) (fun k11 x1 x3 x4 x5 S => bX3_spotOf_11 n k11 Q x1 x3 x4 x5 S) N x1 x3 x4 x5 S → va_P g vwCl (wX ct ad n ro S) H → va_D A (wX ct ad n ro S) → va_S A s.heap H locs → lv_has ls 7 [(0, .ref (ad 16)), (1, .long x1), (3, .int x3), (4, .int x4), (5, .int x5)] → W p l e R s m args below meth c H locs 0 0 QQ (F0 m 11 ls []) := by
    intro N
    induction N with
    | zero => intro x1 x3 x4 x5 S H locs ls h hP hD hS hl; exact False.elim h
    | succ N ih => intro x1 x3 x4 x5 S H locs ls h hP hD hS hl; exact B11  (itr (F := Int64 → Int32 → Int32 → Int32 → St → Prop) (fun _ _ _ _ _ => False) (fun k11 x1 x3 x4 x5 S => bX3_spotOf_11 n k11 Q x1 x3 x4 x5 S) N) ih x1 x3 x4 x5 S H locs ls h  hP hD hS hl
  refine lv_iconst (v := 0) C.1 C.2.1 dX3_spotOf_0 (by decide) ?_
  refine lv_istore_n (lv' := [(3, .int (0 : Int32)), (0, .ref (ad 16)), (1, .long x1)]) C.1 C.2.1 dX3_spotOf_1 rfl hl (by decide) rfl (fun ls hl => ?_)
  refine lv_aload_n C.1 C.2.1 dX3_spotOf_2 rfl (lv_at hl 1 rfl) ?_
  refine xg3_size C hinX3 hK hP (by decide +kernel) dX3_spotOf_3 ?_
  refine lv_topi (fun y8 ey8 => ?_)
  have h := h y8 ey8
  refine lv_istore (lv' := [(4, .int y8), (3, .int (0 : Int32)), (0, .ref (ad 16)), (1, .long x1)]) C.1 C.2.1 dX3_spotOf_6 hl (by decide) rfl (fun ls hl => ?_)
  refine lv_iconst (v := 0) C.1 C.2.1 dX3_spotOf_8 (by decide) ?_
  refine lv_istore (lv' := [(5, .int (0 : Int32)), (4, .int y8), (3, .int (0 : Int32)), (0, .ref (ad 16)), (1, .long x1)]) C.1 C.2.1 dX3_spotOf_9 hl (by decide) rfl (fun ls hl => ?_)
  obtain ⟨N, h⟩ := h
  exact L11 N x1 (0 : Int32) y8 (0 : Int32) S H locs ls h hP hD hS (lv_sub hl [3, 4, 2, 1, 0] rfl)
theorem mX3_spotOf (l : Launch) (g : va_G) (ct : Nat → ClassId) (ad : Nat → Nat) (n ro sz : Nat) (S : St) (x1 : Int64) (Q : Int32 → St → Prop) (h : pX3_spotOf n x1 S Q) : Met l yX3_spotOf wsX3_spotOf ({ frames := 0, cells := 0, slots := 0, locals := 0 }) (gPc g (xT ct) (wX ct ad n ro S) sz [.ref (ad 16), .long x1]) (va_Qi Q (gB g (xT ct) (wX ct ad n ro) (va_A (wX ct ad n ro S) sz)) (va_A (wX ct ad n ro S) sz)) 0 0 (va_A (wX ct ad n ro S) sz) :=
  g_metI (w := wX ct ad n ro) (cc := cX3_spotOf) (maxL := 7) (by decide) rfl rfl (Nat.le_of_ble_eq_true rfl) rfl (fun p e s m args below meth c QQ A C hK hN hA hret H locs ls hP hD hS hl => kX3_spotOf C hK hN hA (Nat.le_refl _) (Nat.le_refl _) Q hret x1 S h H locs ls hP hD hS hl)

def bX3_holds_30 (n : Nat) (Q : Int32 → St → Prop) (t0 : Int32) (S : St) : Prop :=
  (zb t0 ∧ Q t0 S)
def bX3_holds_29 (n : Nat) (Q : Int32 → St → Prop) (S : St) : Prop :=
  bX3_holds_30 n Q (0 : Int32) S
def pX3_holds (n : Nat) (x1 : Int64) (S : St) (Q : Int32 → St → Prop) : Prop :=
  pX3_spotOf n x1 S (fun (r2 : Int32) (S1 : St) => (((S1.1 17 0) ≤ r2 → bX3_holds_29 n Q  S1) ∧ (¬ ((S1.1 17 0) ≤ r2) → (vp_in r2 n ∧ ((¬ (lg_cmp (S1.2.2 1 (Int32.toNatClampNeg r2)) x1) = 0 → bX3_holds_29 n Q  S1) ∧ ((lg_cmp (S1.2.2 1 (Int32.toNatClampNeg r2)) x1) = 0 → bX3_holds_30 n Q (1 : Int32) S1))))))
set_option maxHeartbeats 40000000 in
set_option maxRecDepth 100000 in
theorem kX3_holds {p : Program} {l : Launch} {e : Env} {R : Room} {s : State} {m : MethodId} {args : Array Value} {below : List Frame} {meth : Method} {c : Code} {QQ : State → Prop} {g : va_G} {ct : Nat → ClassId} {ad : Nat → Nat} {n ro : Nat} {A : Nat → Prop} (C : CallFix p m c cX3_holds 4 s args wsX3_holds RX3) (hK : va_K g vwCl (xT ct) s) (hN : xN s) (hA : ∀ q, s.heap.size ≤ q → A q) (hRf : 1 ≤ R.frames) (hRl : 26 ≤ R.locals) (Q : Int32 → St → Prop) (hret : ∀ (pc : Nat) (r : Int32) (S : St) (H : Heap) (locs : List Loc) (ls : Array Slot), decode cX3_holds pc = .ok (.ireturn, 1) → zb r → Q r S → va_P g vwCl (wX ct ad n ro S) H → va_D A (wX ct ad n ro S) → va_S A s.heap H locs → W p l e R s m args below meth c H locs 0 0 QQ (F0 m pc ls [.int r])) (x1 : Int64) (S : St) (h : pX3_holds n x1 S Q) (H : Heap) (locs : List Loc) (ls : Array Slot) (hP : va_P g vwCl (wX ct ad n ro S) H) (hD : va_D A (wX ct ad n ro S)) (hS : va_S A s.heap H locs) (hl : lv_has ls 4 [(0, .ref (ad 16)), (1, .long x1)]) : W p l e R s m args below meth c H locs 0 0 QQ (F0 m 0 ls []) := by
  have hinX3 : ∀ w ∈ wsX30, w ∈ wsX3_holds := by decide +kernel
  have B30 : ∀ (t0 : Int32) (S : St) (H : Heap) (locs : List Loc) (ls : Array Slot), bX3_holds_30 n Q t0 S → va_P g vwCl (wX ct ad n ro S) H → va_D A (wX ct ad n ro S) → va_S A s.heap H locs → lv_has ls 4 [(0, .ref (ad 16))] → W p l e R s m args below meth c H locs 0 0 QQ (F0 m 30 ls [.int t0]) := by
    intro t0 S H locs ls h hP hD hS hl
    exact hret _ _ _ _ _ _ dX3_holds_30 h.1 h.2 hP hD hS
  have B29 : ∀ (S : St) (H : Heap) (locs : List Loc) (ls : Array Slot), bX3_holds_29 n Q S → va_P g vwCl (wX ct ad n ro S) H → va_D A (wX ct ad n ro S) → va_S A s.heap H locs → lv_has ls 4 [(0, .ref (ad 16))] → W p l e R s m args below meth c H locs 0 0 QQ (F0 m 29 ls []) := by
    intro S H locs ls h hP hD hS hl
    refine lv_iconst (v := 0) C.1 C.2.1 dX3_holds_29 (by decide) ?_
    exact B30 (0 : Int32) S H locs ls h hP hD hS (lv_sub hl [0] rfl)
  refine lv_aload_n C.1 C.2.1 dX3_holds_0 rfl (lv_at hl 0 rfl) ?_
  refine lv_lload_n C.1 C.2.1 dX3_holds_1 rfl (lv_at hl 1 rfl) ?_
  refine g_callVi (w := wX ct ad n ro) C hK hN hA hP hD hS (mX3_spotOf l g ct ad n ro H.size S x1  _ h) (cwV 1 C.2.2.2.2 gX3_holds_X3_spotOf rfl rfl rfl (by decide +kernel) ⟨Nat.le_trans (by decide) hRf, Nat.le_trans (by decide) hRl⟩) (va_recv hK hP (ci := 3) (q0 := 16) rfl rfl) rfl hl.1 rfl (Nat.le_of_ble_eq_true rfl) dX3_holds_2 ⟨Nat.zero_le _, Nat.zero_le _⟩ (fun r2 S1 H locs h hP hD hS => ?_)
  refine lv_istore_n (lv' := [(3, .int r2), (0, .ref (ad 16)), (1, .long x1)]) C.1 C.2.1 dX3_holds_5 rfl hl (by decide) rfl (fun ls hl => ?_)
  refine lv_iload_n C.1 C.2.1 dX3_holds_6 rfl (lv_at hl 0 rfl) ?_
  refine lv_aload_n C.1 C.2.1 dX3_holds_7 rfl (lv_at hl 1 rfl) ?_
  refine xg3_size C hinX3 hK hP (by decide +kernel) dX3_holds_8 ?_
  refine lv_icmp_ge (tgt := 29) C.1 C.2.1 dX3_holds_11 (by decide) (fun c5 => ?_) (fun c5 => ?_)
  · have h := h.1 c5
    exact B29  S1 H locs ls h hP hD hS (lv_sub hl [1] rfl)
  · have h := h.2 c5
    refine lv_aload_n C.1 C.2.1 dX3_holds_14 rfl (lv_at hl 1 rfl) ?_
    refine xg3_rows C hinX3 hK hP (by decide +kernel) dX3_holds_15 ?_
    refine lv_iload_n C.1 C.2.1 dX3_holds_18 rfl (lv_at hl 0 rfl) ?_
    obtain ⟨g3, h⟩ := h
    refine xa_out C hK hP g3  rfl dX3_holds_19 ?_
    refine lv_lload_n C.1 C.2.1 dX3_holds_20 rfl (lv_at hl 2 rfl) ?_
    refine W.lcmp C.1 C.2.1 dX3_holds_21 ?_
    refine lv_if_ne (tgt := 29) C.1 C.2.1 dX3_holds_22 (by decide) (fun c4 => ?_) (fun c4 => ?_)
    · have h := h.1 c4
      exact B29  S1 H locs ls h hP hD hS (lv_sub hl [1] rfl)
    · have h := h.2 c4
      refine lv_iconst (v := 1) C.1 C.2.1 dX3_holds_25 (by decide) ?_
      refine lv_goto (tgt := 30) C.1 C.2.1 dX3_holds_26 (by decide) ?_
      exact B30 (1 : Int32) S1 H locs ls h hP hD hS (lv_sub hl [1] rfl)
theorem mX3_holds (l : Launch) (g : va_G) (ct : Nat → ClassId) (ad : Nat → Nat) (n ro sz : Nat) (S : St) (x1 : Int64) (Q : Int32 → St → Prop) (h : pX3_holds n x1 S Q) : Met l yX3_holds wsX3_holds ({ frames := 1, cells := 0, slots := 0, locals := 26 }) (gPc g (xT ct) (wX ct ad n ro S) sz [.ref (ad 16), .long x1]) (va_Qi Q (gB g (xT ct) (wX ct ad n ro) (va_A (wX ct ad n ro S) sz)) (va_A (wX ct ad n ro S) sz)) 0 0 (va_A (wX ct ad n ro S) sz) :=
  g_metZ (w := wX ct ad n ro) (cc := cX3_holds) (maxL := 4) (by decide) rfl rfl (Nat.le_of_ble_eq_true rfl) rfl (fun p e s m args below meth c QQ A C hK hN hA hret H locs ls hP hD hS hl => kX3_holds C hK hN hA (Nat.le_refl _) (Nat.le_refl _) Q hret x1 S h H locs ls hP hD hS hl)

def pX3_partOf (x0 : Int64) (x2 : Int32) (Q : Int32 → Prop) : Prop :=
  Q ((Int64.toInt32 (x0 >>> (Int32.toInt64 ((2 : Int32) * x2) &&& 63))) &&& (3 : Int32))
set_option maxHeartbeats 40000000 in
set_option maxRecDepth 100000 in
theorem kX3_partOf {p : Program} {l : Launch} {e : Env} {R : Room} {s : State} {m : MethodId} {args : Array Value} {below : List Frame} {meth : Method} {c : Code} {QQ : State → Prop} {g : va_G} {tys : List (ClassId × FieldType)} {A : Nat → Prop} (C : CallFix p m c cX3_partOf 3 s args wsX3_partOf RX3) (hK : va_K g vwCl (tys) s) (hN : xN s) (hA : ∀ q, s.heap.size ≤ q → A q) (hRf : 0 ≤ R.frames) (hRl : 0 ≤ R.locals) (Q : Int32 → Prop) (hret : ∀ (pc : Nat) (r : Int32) (S : St) (H : Heap) (locs : List Loc) (ls : Array Slot), decode cX3_partOf pc = .ok (.ireturn, 1) → Q r → va_P g vwCl (w0 S) H → va_D A (w0 S) → va_S A s.heap H locs → W p l e R s m args below meth c H locs 0 0 QQ (F0 m pc ls [.int r])) (x0 : Int64) (x2 : Int32) (S : St) (h : pX3_partOf x0 x2 Q) (H : Heap) (locs : List Loc) (ls : Array Slot) (hP : va_P g vwCl (w0 S) H) (hD : va_D A (w0 S)) (hS : va_S A s.heap H locs) (hl : lv_has ls 3 [(0, .long x0), (2, .int x2)]) : W p l e R s m args below meth c H locs 0 0 QQ (F0 m 0 ls []) := by
  refine lv_lload_n C.1 C.2.1 dX3_partOf_0 rfl (lv_at hl 0 rfl) ?_
  refine lv_iconst (v := 2) C.1 C.2.1 dX3_partOf_1 (by decide) ?_
  refine lv_iload_n C.1 C.2.1 dX3_partOf_2 rfl (lv_at hl 1 rfl) ?_
  refine lv_imul C.1 C.2.1 dX3_partOf_3 ?_
  refine lv_lshr C.1 C.2.1 dX3_partOf_4 rfl ?_
  refine lv_l2i C.1 C.2.1 dX3_partOf_5 rfl ?_
  refine lv_iconst (v := 3) C.1 C.2.1 dX3_partOf_6 (by decide) ?_
  refine lv_iand C.1 C.2.1 dX3_partOf_7 ?_
  exact hret _ _ _ _ _ _ dX3_partOf_8 h hP hD hS
theorem mX3_partOf (l : Launch) (g : va_G) (tys : List (ClassId × FieldType)) (S : St) (sz : Nat) (x0 : Int64) (x2 : Int32) (Q : Int32 → Prop) (h : pX3_partOf x0 x2 Q) : Met l yX3_partOf wsX3_partOf ({ frames := 0, cells := 0, slots := 0, locals := 0 }) (gPc g (tys) (w0 S) sz [.long x0, .int x2]) (va_Qi (fun r _ => Q r) (gB g (tys) (w0) (va_A (w0 S) sz)) (va_A (w0 S) sz)) 0 0 (va_A (w0 S) sz) :=
  g_metI (w := w0) (Q := fun r _ => Q r) (cc := cX3_partOf) (maxL := 3) (by decide) rfl rfl (Nat.le_of_ble_eq_true rfl) rfl (fun p e s m args below meth c QQ A C hK hN hA hret H locs ls hP hD hS hl => kX3_partOf C hK hN hA (Nat.le_refl _) (Nat.le_refl _) Q hret x0 x2 S h H locs ls hP hD hS hl)

def bX3_howMany_49 (n : Nat) (k6 : Int32 → Int32 → Int32 → Int32 → Int32 → Int32 → St → Prop) (Q : Int32 → St → Prop) (x1 : Int32) (x2 : Int32) (x3 : Int32) (x4 : Int32) (x5 : Int32) (x6 : Int32) (S : St) : Prop :=
  (∀ y1 : Int32, y1 = x6 + (1 : Int32) → k6 x1 x2 x3 x4 x5 y1 S)
def bX3_howMany_6 (n : Nat) (k6 : Int32 → Int32 → Int32 → Int32 → Int32 → Int32 → St → Prop) (Q : Int32 → St → Prop) (x1 : Int32) (x2 : Int32) (x3 : Int32) (x4 : Int32) (x5 : Int32) (x6 : Int32) (S : St) : Prop :=
  (((S.1 17 0) ≤ x6 → Q x5 S) ∧ (¬ ((S.1 17 0) ≤ x6) → (vp_in x6 n ∧ pX3_partOf (S.2.2 1 (Int32.toNatClampNeg x6)) x1 (fun (r3 : Int32) => ((¬ r3 = x2 → bX3_howMany_49 n k6 Q x1 x2 x3 x4 x5 x6 S) ∧ (r3 = x2 → (vp_in x6 n ∧ pX3_partOf (S.2.2 1 (Int32.toNatClampNeg x6)) x3 (fun (r5 : Int32) => ((¬ r5 = x4 → bX3_howMany_49 n k6 Q x1 x2 x3 x4 x5 x6 S) ∧ (r5 = x4 → (∀ y6 : Int32, y6 = x5 + (1 : Int32) → bX3_howMany_49 n k6 Q x1 x2 x3 x4 y6 x6 S)))))))))))
def pX3_howMany (n : Nat) (x1 : Int32) (x2 : Int32) (x3 : Int32) (x4 : Int32) (S : St) (Q : Int32 → St → Prop) : Prop :=
  (∃ N : Nat, itr (F := Int32 → Int32 → Int32 → Int32 → Int32 → Int32 → St → Prop) (fun _ _ _ _ _ _ _ => False) (fun k6 x1 x2 x3 x4 x5 x6 S => bX3_howMany_6 n k6 Q x1 x2 x3 x4 x5 x6 S) N x1 x2 x3 x4 (0 : Int32) (0 : Int32) S)
set_option maxHeartbeats 40000000 in
set_option maxRecDepth 100000 in
theorem kX3_howMany {p : Program} {l : Launch} {e : Env} {R : Room} {s : State} {m : MethodId} {args : Array Value} {below : List Frame} {meth : Method} {c : Code} {QQ : State → Prop} {g : va_G} {ct : Nat → ClassId} {ad : Nat → Nat} {n ro : Nat} {A : Nat → Prop} (C : CallFix p m c cX3_howMany 7 s args wsX3_howMany RX3) (hK : va_K g vwCl (xT ct) s) (hN : xN s) (hA : ∀ q, s.heap.size ≤ q → A q) (hRf : 1 ≤ R.frames) (hRl : 22 ≤ R.locals) (Q : Int32 → St → Prop) (hret : ∀ (pc : Nat) (r : Int32) (S : St) (H : Heap) (locs : List Loc) (ls : Array Slot), decode cX3_howMany pc = .ok (.ireturn, 1) → Q r S → va_P g vwCl (wX ct ad n ro S) H → va_D A (wX ct ad n ro S) → va_S A s.heap H locs → W p l e R s m args below meth c H locs 0 0 QQ (F0 m pc ls [.int r])) (x1 : Int32) (x2 : Int32) (x3 : Int32) (x4 : Int32) (S : St) (h : pX3_howMany n x1 x2 x3 x4 S Q) (H : Heap) (locs : List Loc) (ls : Array Slot) (hP : va_P g vwCl (wX ct ad n ro S) H) (hD : va_D A (wX ct ad n ro S)) (hS : va_S A s.heap H locs) (hl : lv_has ls 7 [(0, .ref (ad 16)), (1, .int x1), (2, .int x2), (3, .int x3), (4, .int x4)]) : W p l e R s m args below meth c H locs 0 0 QQ (F0 m 0 ls []) := by
  have hinX3 : ∀ w ∈ wsX30, w ∈ wsX3_howMany := by decide +kernel
  have B49 : ∀ (k6 : Int32 → Int32 → Int32 → Int32 → Int32 → Int32 → St → Prop) (hk6 : ∀ (x1 : Int32) (x2 : Int32) (x3 : Int32) (x4 : Int32) (x5 : Int32) (x6 : Int32) (S : St) (H : Heap) (locs : List Loc) (ls : Array Slot), k6 x1 x2 x3 x4 x5 x6 S → va_P g vwCl (wX ct ad n ro S) H → va_D A (wX ct ad n ro S) → va_S A s.heap H locs → lv_has ls 7 [(0, .ref (ad 16)), (1, .int x1), (2, .int x2), (3, .int x3), (4, .int x4), (5, .int x5), (6, .int x6)] → W p l e R s m args below meth c H locs 0 0 QQ (F0 m 6 ls [])) (x1 : Int32) (x2 : Int32) (x3 : Int32) (x4 : Int32) (x5 : Int32) (x6 : Int32) (S : St) (H : Heap) (locs : List Loc) (ls : Array Slot), bX3_howMany_49 n k6 Q x1 x2 x3 x4 x5 x6 S → va_P g vwCl (wX ct ad n ro S) H → va_D A (wX ct ad n ro S) → va_S A s.heap H locs → lv_has ls 7 [(0, .ref (ad 16)), (1, .int x1), (2, .int x2), (3, .int x3), (4, .int x4), (5, .int x5), (6, .int x6)] → W p l e R s m args below meth c H locs 0 0 QQ (F0 m 49 ls []) := by
    intro k6 hk6 x1 x2 x3 x4 x5 x6 S H locs ls h hP hD hS hl
    obtain ⟨y1, ey1⟩ : ∃ z : Int32, z = x6 + (1 : Int32) := ⟨_, rfl⟩
    have h := h y1 ey1
    refine lv_iinc (v := y1) (lv' := [(6, .int y1), (0, .ref (ad 16)), (1, .int x1), (2, .int x2), (3, .int x3), (4, .int x4), (5, .int x5)]) C.1 C.2.1 dX3_howMany_49 hl (k := 6) rfl (by rw [ey1]; rfl) (by decide) rfl (fun ls hl => ?_)
    refine lv_goto (tgt := 6) C.1 C.2.1 dX3_howMany_52 (by decide) ?_
    exact hk6 x1 x2 x3 x4 x5 y1 S H locs ls h hP hD hS (lv_sub hl [1, 2, 3, 4, 5, 6, 0] rfl)
  have B6 : ∀ (k6 : Int32 → Int32 → Int32 → Int32 → Int32 → Int32 → St → Prop) (hk6 : ∀ (x1 : Int32) (x2 : Int32) (x3 : Int32) (x4 : Int32) (x5 : Int32) (x6 : Int32) (S : St) (H : Heap) (locs : List Loc) (ls : Array Slot), k6 x1 x2 x3 x4 x5 x6 S → va_P g vwCl (wX ct ad n ro S) H → va_D A (wX ct ad n ro S) → va_S A s.heap H locs → lv_has ls 7 [(0, .ref (ad 16)), (1, .int x1), (2, .int x2), (3, .int x3), (4, .int x4), (5, .int x5), (6, .int x6)] → W p l e R s m args below meth c H locs 0 0 QQ (F0 m 6 ls [])) (x1 : Int32) (x2 : Int32) (x3 : Int32) (x4 : Int32) (x5 : Int32) (x6 : Int32) (S : St) (H : Heap) (locs : List Loc) (ls : Array Slot), bX3_howMany_6 n k6 Q x1 x2 x3 x4 x5 x6 S → va_P g vwCl (wX ct ad n ro S) H → va_D A (wX ct ad n ro S) → va_S A s.heap H locs → lv_has ls 7 [(0, .ref (ad 16)), (1, .int x1), (2, .int x2), (3, .int x3), (4, .int x4), (5, .int x5), (6, .int x6)] → W p l e R s m args below meth c H locs 0 0 QQ (F0 m 6 ls []) := by
    intro k6 hk6 x1 x2 x3 x4 x5 x6 S H locs ls h hP hD hS hl
    refine lv_iload C.1 C.2.1 dX3_howMany_6 (lv_at hl 6 rfl) ?_
    refine lv_aload_n C.1 C.2.1 dX3_howMany_8 rfl (lv_at hl 0 rfl) ?_
    refine xg3_size C hinX3 hK hP (by decide +kernel) dX3_howMany_9 ?_
    refine lv_icmp_ge (tgt := 55) C.1 C.2.1 dX3_howMany_12 (by decide) (fun c9 => ?_) (fun c9 => ?_)
    · have h := h.1 c9
      refine lv_iload C.1 C.2.1 dX3_howMany_55 (lv_at hl 5 rfl) ?_
      exact hret _ _ _ _ _ _ dX3_howMany_57 h hP hD hS
    · have h := h.2 c9
      refine lv_aload_n C.1 C.2.1 dX3_howMany_15 rfl (lv_at hl 0 rfl) ?_
      refine xg3_rows C hinX3 hK hP (by decide +kernel) dX3_howMany_16 ?_
      refine lv_iload C.1 C.2.1 dX3_howMany_19 (lv_at hl 6 rfl) ?_
      obtain ⟨g2, h⟩ := h
      refine xa_out C hK hP g2  rfl dX3_howMany_21 ?_
      refine lv_iload_n C.1 C.2.1 dX3_howMany_22 rfl (lv_at hl 1 rfl) ?_
      refine g_callS (w := wX ct ad n ro) C hK hN hA hP hD hS (mX3_partOf l g (xT ct) S H.size (S.2.2 1 (Int32.toNatClampNeg x6)) x1 _ h) (va_cwS 2 C.2.2.2.2 gX3_howMany_X3_partOf rfl rfl rfl (by decide +kernel) ⟨Nat.le_trans (by decide) hRf, Nat.le_trans (by decide) hRl⟩) rfl hl.1 rfl (Nat.le_of_ble_eq_true rfl) dX3_howMany_23 ⟨Nat.zero_le _, Nat.zero_le _⟩ (fun r3 H locs h hP hD hS => ?_)
      refine lv_iload_n C.1 C.2.1 dX3_howMany_26 rfl (lv_at hl 2 rfl) ?_
      refine lv_icmp_ne (tgt := 49) C.1 C.2.1 dX3_howMany_27 (by decide) (fun c8 => ?_) (fun c8 => ?_)
      · have h := h.1 c8
        exact B49 k6 hk6 x1 x2 x3 x4 x5 x6 S H locs ls h hP hD hS (lv_sub hl [0, 1, 2, 3, 4, 5, 6] rfl)
      · have h := h.2 c8
        refine lv_aload_n C.1 C.2.1 dX3_howMany_30 rfl (lv_at hl 0 rfl) ?_
        refine xg3_rows C hinX3 hK hP (by decide +kernel) dX3_howMany_31 ?_
        refine lv_iload C.1 C.2.1 dX3_howMany_34 (lv_at hl 6 rfl) ?_
        obtain ⟨g4, h⟩ := h
        refine xa_out C hK hP g4  rfl dX3_howMany_36 ?_
        refine lv_iload_n C.1 C.2.1 dX3_howMany_37 rfl (lv_at hl 3 rfl) ?_
        refine g_callS (w := wX ct ad n ro) C hK hN hA hP hD hS (mX3_partOf l g (xT ct) S H.size (S.2.2 1 (Int32.toNatClampNeg x6)) x3 _ h) (va_cwS 2 C.2.2.2.2 gX3_howMany_X3_partOf rfl rfl rfl (by decide +kernel) ⟨Nat.le_trans (by decide) hRf, Nat.le_trans (by decide) hRl⟩) rfl hl.1 rfl (Nat.le_of_ble_eq_true rfl) dX3_howMany_38 ⟨Nat.zero_le _, Nat.zero_le _⟩ (fun r5 H locs h hP hD hS => ?_)
        refine lv_iload C.1 C.2.1 dX3_howMany_41 (lv_at hl 4 rfl) ?_
        refine lv_icmp_ne (tgt := 49) C.1 C.2.1 dX3_howMany_43 (by decide) (fun c7 => ?_) (fun c7 => ?_)
        · have h := h.1 c7
          exact B49 k6 hk6 x1 x2 x3 x4 x5 x6 S H locs ls h hP hD hS (lv_sub hl [0, 1, 2, 3, 4, 5, 6] rfl)
        · have h := h.2 c7
          obtain ⟨y6, ey6⟩ : ∃ z : Int32, z = x5 + (1 : Int32) := ⟨_, rfl⟩
          have h := h y6 ey6
          refine lv_iinc (v := y6) (lv' := [(5, .int y6), (0, .ref (ad 16)), (1, .int x1), (2, .int x2), (3, .int x3), (4, .int x4), (6, .int x6)]) C.1 C.2.1 dX3_howMany_46 hl (k := 5) rfl (by rw [ey6]; rfl) (by decide) rfl (fun ls hl => ?_)
          exact B49 k6 hk6 x1 x2 x3 x4 y6 x6 S H locs ls h hP hD hS (lv_sub hl [1, 2, 3, 4, 5, 0, 6] rfl)
  have L6 : ∀ (N : Nat) (x1 : Int32) (x2 : Int32) (x3 : Int32) (x4 : Int32) (x5 : Int32) (x6 : Int32) (S : St) (H : Heap) (locs : List Loc) (ls : Array Slot), itr (F := Int32 → Int32 → Int32 → Int32 → Int32 → Int32 → St → Prop) (fun _ _ _ _ _ _ _ => False) (fun k6 x1 x2 x3 x4 x5 x6 S => bX3_howMany_6 n k6 Q x1 x2 x3 x4 x5 x6 S) N x1 x2 x3 x4 x5 x6 S → va_P g vwCl (wX ct ad n ro S) H → va_D A (wX ct ad n ro S) → va_S A s.heap H locs → lv_has ls 7 [(0, .ref (ad 16)), (1, .int x1), (2, .int x2), (3, .int x3), (4, .int x4), (5, .int x5), (6, .int x6)] → W p l e R s m args below meth c H locs 0 0 QQ (F0 m 6 ls []) := by
    intro N
    induction N with
    | zero => intro x1 x2 x3 x4 x5 x6 S H locs ls h hP hD hS hl; exact False.elim h
    | succ N ih => intro x1 x2 x3 x4 x5 x6 S H locs ls h hP hD hS hl; exact B6  (itr (F := Int32 → Int32 → Int32 → Int32 → Int32 → Int32 → St → Prop) (fun _ _ _ _ _ _ _ => False) (fun k6 x1 x2 x3 x4 x5 x6 S => bX3_howMany_6 n k6 Q x1 x2 x3 x4 x5 x6 S) N) ih x1 x2 x3 x4 x5 x6 S H locs ls h  hP hD hS hl
  refine lv_iconst (v := 0) C.1 C.2.1 dX3_howMany_0 (by decide) ?_
  refine lv_istore (lv' := [(5, .int (0 : Int32)), (0, .ref (ad 16)), (1, .int x1), (2, .int x2), (3, .int x3), (4, .int x4)]) C.1 C.2.1 dX3_howMany_1 hl (by decide) rfl (fun ls hl => ?_)
  refine lv_iconst (v := 0) C.1 C.2.1 dX3_howMany_3 (by decide) ?_
  refine lv_istore (lv' := [(6, .int (0 : Int32)), (5, .int (0 : Int32)), (0, .ref (ad 16)), (1, .int x1), (2, .int x2), (3, .int x3), (4, .int x4)]) C.1 C.2.1 dX3_howMany_4 hl (by decide) rfl (fun ls hl => ?_)
  obtain ⟨N, h⟩ := h
  exact L6 N x1 x2 x3 x4 (0 : Int32) (0 : Int32) S H locs ls h hP hD hS (lv_sub hl [2, 3, 4, 5, 6, 1, 0] rfl)
theorem mX3_howMany (l : Launch) (g : va_G) (ct : Nat → ClassId) (ad : Nat → Nat) (n ro sz : Nat) (S : St) (x1 : Int32) (x2 : Int32) (x3 : Int32) (x4 : Int32) (Q : Int32 → St → Prop) (h : pX3_howMany n x1 x2 x3 x4 S Q) : Met l yX3_howMany wsX3_howMany ({ frames := 1, cells := 0, slots := 0, locals := 22 }) (gPc g (xT ct) (wX ct ad n ro S) sz [.ref (ad 16), .int x1, .int x2, .int x3, .int x4]) (va_Qi Q (gB g (xT ct) (wX ct ad n ro) (va_A (wX ct ad n ro S) sz)) (va_A (wX ct ad n ro S) sz)) 0 0 (va_A (wX ct ad n ro S) sz) :=
  g_metI (w := wX ct ad n ro) (cc := cX3_howMany) (maxL := 7) (by decide) rfl rfl (Nat.le_of_ble_eq_true rfl) rfl (fun p e s m args below meth c QQ A C hK hN hA hret H locs ls hP hD hS hl => kX3_howMany C hK hN hA (Nat.le_refl _) (Nat.le_refl _) Q hret x1 x2 x3 x4 S h H locs ls hP hD hS hl)

def bX4_size_13 (k13 : Int32 → Int32 → Int32 → St → Prop) (Q : Int32 → St → Prop) (x1 : Int32) (x3 : Int32) (x4 : Int32) (S : St) : Prop :=
  ((x3 ≤ x4 → Q x1 S) ∧ (¬ (x3 ≤ x4) → (vp_in x4 4 ∧ (∀ y2 : Int32, y2 = (S.1 20 (Int32.toNatClampNeg x4)) → (∀ y3 : Int32, y3 = (x1 + y2) → (∀ y4 : Int32, y4 = x4 + (1 : Int32) → k13 y3 x3 y4 S))))))
def pX4_size (S : St) (Q : Int32 → St → Prop) : Prop :=
  (∃ N : Nat, itr (F := Int32 → Int32 → Int32 → St → Prop) (fun _ _ _ _ => False) (fun k13 x1 x3 x4 S => bX4_size_13 k13 Q x1 x3 x4 S) N (0 : Int32) (4 : Int32) (0 : Int32) S)
set_option maxHeartbeats 40000000 in
set_option maxRecDepth 100000 in
theorem kX4_size {p : Program} {l : Launch} {e : Env} {R : Room} {s : State} {m : MethodId} {args : Array Value} {below : List Frame} {meth : Method} {c : Code} {QQ : State → Prop} {g : va_G} {ct : Nat → ClassId} {ad : Nat → Nat} {n ro : Nat} {A : Nat → Prop} (C : CallFix p m c cX4_size 6 s args wsX4_size RX4) (hK : va_K g vwCl (xT ct) s) (hN : xN s) (hA : ∀ q, s.heap.size ≤ q → A q) (hRf : 0 ≤ R.frames) (hRl : 0 ≤ R.locals) (Q : Int32 → St → Prop) (hret : ∀ (pc : Nat) (r : Int32) (S : St) (H : Heap) (locs : List Loc) (ls : Array Slot), decode cX4_size pc = .ok (.ireturn, 1) → Q r S → va_P g vwCl (wX ct ad n ro S) H → va_D A (wX ct ad n ro S) → va_S A s.heap H locs → W p l e R s m args below meth c H locs 0 0 QQ (F0 m pc ls [.int r])) (S : St) (h : pX4_size S Q) (H : Heap) (locs : List Loc) (ls : Array Slot) (hP : va_P g vwCl (wX ct ad n ro S) H) (hD : va_D A (wX ct ad n ro S)) (hS : va_S A s.heap H locs) (hl : lv_has ls 6 [(0, .ref (ad 1))]) : W p l e R s m args below meth c H locs 0 0 QQ (F0 m 0 ls []) := by
  have hinX4 : ∀ w ∈ wsX40, w ∈ wsX4_size := by decide +kernel
  have B13 : ∀ (k13 : Int32 → Int32 → Int32 → St → Prop) (hk13 : ∀ (x1 : Int32) (x3 : Int32) (x4 : Int32) (S : St) (H : Heap) (locs : List Loc) (ls : Array Slot), k13 x1 x3 x4 S → va_P g vwCl (wX ct ad n ro S) H → va_D A (wX ct ad n ro S) → va_S A s.heap H locs → lv_has ls 6 [(0, .ref (ad 1)), (1, .int x1), (2, .ref (ad 3)), (3, .int x3), (4, .int x4)] → W p l e R s m args below meth c H locs 0 0 QQ (F0 m 13 ls [])) (x1 : Int32) (x3 : Int32) (x4 : Int32) (S : St) (H : Heap) (locs : List Loc) (ls : Array Slot), bX4_size_13 k13 Q x1 x3 x4 S → va_P g vwCl (wX ct ad n ro S) H → va_D A (wX ct ad n ro S) → va_S A s.heap H locs → lv_has ls 6 [(0, .ref (ad 1)), (1, .int x1), (2, .ref (ad 3)), (3, .int x3), (4, .int x4)] → W p l e R s m args below meth c H locs 0 0 QQ (F0 m 13 ls []) := by
    intro k13 hk13 x1 x3 x4 S H locs ls h hP hD hS hl
    refine lv_iload C.1 C.2.1 dX4_size_13 (lv_at hl 4 rfl) ?_
    refine lv_iload_n C.1 C.2.1 dX4_size_15 rfl (lv_at hl 3 rfl) ?_
    refine lv_icmp_ge (tgt := 36) C.1 C.2.1 dX4_size_16 (by decide) (fun c5 => ?_) (fun c5 => ?_)
    · have h := h.1 c5
      refine lv_iload_n C.1 C.2.1 dX4_size_36 rfl (lv_at hl 1 rfl) ?_
      exact hret _ _ _ _ _ _ dX4_size_37 h hP hD hS
    · have h := h.2 c5
      refine lv_aload_n C.1 C.2.1 dX4_size_19 rfl (lv_at hl 2 rfl) ?_
      refine lv_iload C.1 C.2.1 dX4_size_20 (lv_at hl 4 rfl) ?_
      obtain ⟨g1, h⟩ := h
      refine xa_4_lengths C hK hP g1  rfl dX4_size_22 ?_
      refine lv_topi (fun y2 ey2 => ?_)
      have h := h y2 ey2
      refine lv_istore (lv' := [(5, .int y2), (0, .ref (ad 1)), (1, .int x1), (2, .ref (ad 3)), (3, .int x3), (4, .int x4)]) C.1 C.2.1 dX4_size_23 hl (by decide) rfl (fun ls hl => ?_)
      refine lv_iload_n C.1 C.2.1 dX4_size_25 rfl (lv_at hl 2 rfl) ?_
      refine lv_iload C.1 C.2.1 dX4_size_26 (lv_at hl 0 rfl) ?_
      refine lv_iadd C.1 C.2.1 dX4_size_28 ?_
      refine lv_topi (fun y3 ey3 => ?_)
      have h := h y3 ey3
      refine lv_istore_n (lv' := [(1, .int y3), (5, .int y2), (0, .ref (ad 1)), (2, .ref (ad 3)), (3, .int x3), (4, .int x4)]) C.1 C.2.1 dX4_size_29 rfl hl (by decide) rfl (fun ls hl => ?_)
      obtain ⟨y4, ey4⟩ : ∃ z : Int32, z = x4 + (1 : Int32) := ⟨_, rfl⟩
      have h := h y4 ey4
      refine lv_iinc (v := y4) (lv' := [(4, .int y4), (1, .int y3), (5, .int y2), (0, .ref (ad 1)), (2, .ref (ad 3)), (3, .int x3)]) C.1 C.2.1 dX4_size_30 hl (k := 5) rfl (by rw [ey4]; rfl) (by decide) rfl (fun ls hl => ?_)
      refine lv_goto (tgt := 13) C.1 C.2.1 dX4_size_33 (by decide) ?_
      exact hk13 y3 x3 y4 S H locs ls h hP hD hS (lv_sub hl [3, 1, 4, 5, 0] rfl)
  have L13 : ∀ (N : Nat) (x1 : Int32) (x3 : Int32) (x4 : Int32) (S : St) (H : Heap) (locs : List Loc) (ls : Array Slot), itr (F := Int32 → Int32 → Int32 → St → Prop) (fun _ _ _ _ => False) (fun k13 x1 x3 x4 S => bX4_size_13 k13 Q x1 x3 x4 S) N x1 x3 x4 S → va_P g vwCl (wX ct ad n ro S) H → va_D A (wX ct ad n ro S) → va_S A s.heap H locs → lv_has ls 6 [(0, .ref (ad 1)), (1, .int x1), (2, .ref (ad 3)), (3, .int x3), (4, .int x4)] → W p l e R s m args below meth c H locs 0 0 QQ (F0 m 13 ls []) := by
    intro N
    induction N with
    | zero => intro x1 x3 x4 S H locs ls h hP hD hS hl; exact False.elim h
    | succ N ih => intro x1 x3 x4 S H locs ls h hP hD hS hl; exact B13  (itr (F := Int32 → Int32 → Int32 → St → Prop) (fun _ _ _ _ => False) (fun k13 x1 x3 x4 S => bX4_size_13 k13 Q x1 x3 x4 S) N) ih x1 x3 x4 S H locs ls h  hP hD hS hl
  refine lv_iconst (v := 0) C.1 C.2.1 dX4_size_0 (by decide) ?_
  refine lv_istore_n (lv' := [(1, .int (0 : Int32)), (0, .ref (ad 1))]) C.1 C.2.1 dX4_size_1 rfl hl (by decide) rfl (fun ls hl => ?_)
  refine lv_aload_n C.1 C.2.1 dX4_size_2 rfl (lv_at hl 1 rfl) ?_
  refine xg4_lengths C hinX4 hK hP (by decide +kernel) dX4_size_3 ?_
  refine lv_astore_n (lv' := [(2, .ref (ad 3)), (1, .int (0 : Int32)), (0, .ref (ad 1))]) C.1 C.2.1 dX4_size_6 rfl hl (by decide) rfl (fun ls hl => ?_)
  refine lv_aload_n C.1 C.2.1 dX4_size_7 rfl (lv_at hl 0 rfl) ?_
  refine xl_3 C hK hP dX4_size_8 ?_
  refine lv_istore_n (lv' := [(3, .int (4 : Int32)), (2, .ref (ad 3)), (1, .int (0 : Int32)), (0, .ref (ad 1))]) C.1 C.2.1 dX4_size_9 rfl hl (by decide) rfl (fun ls hl => ?_)
  refine lv_iconst (v := 0) C.1 C.2.1 dX4_size_10 (by decide) ?_
  refine lv_istore (lv' := [(4, .int (0 : Int32)), (3, .int (4 : Int32)), (2, .ref (ad 3)), (1, .int (0 : Int32)), (0, .ref (ad 1))]) C.1 C.2.1 dX4_size_11 hl (by decide) rfl (fun ls hl => ?_)
  obtain ⟨N, h⟩ := h
  exact L13 N (0 : Int32) (4 : Int32) (0 : Int32) S H locs ls h hP hD hS (lv_sub hl [4, 3, 2, 1, 0] rfl)
theorem mX4_size (l : Launch) (g : va_G) (ct : Nat → ClassId) (ad : Nat → Nat) (n ro sz : Nat) (S : St) (Q : Int32 → St → Prop) (h : pX4_size S Q) : Met l yX4_size wsX4_size ({ frames := 0, cells := 0, slots := 0, locals := 0 }) (gPc g (xT ct) (wX ct ad n ro S) sz [.ref (ad 1)]) (va_Qi Q (gB g (xT ct) (wX ct ad n ro) (va_A (wX ct ad n ro S) sz)) (va_A (wX ct ad n ro S) sz)) 0 0 (va_A (wX ct ad n ro S) sz) :=
  g_metI (w := wX ct ad n ro) (cc := cX4_size) (maxL := 6) (by decide) rfl rfl (Nat.le_of_ble_eq_true rfl) rfl (fun p e s m args below meth c QQ A C hK hN hA hret H locs ls hP hD hS hl => kX4_size C hK hN hA (Nat.le_refl _) (Nat.le_refl _) Q hret  S h H locs ls hP hD hS hl)

def pX4_removeAll (S : St) (Q : Int32 → St → Prop) : Prop :=
  pX4_size S (fun (r2 : Int32) (S1 : St) => pfill_4_lengths (0 : Int32) S1 (fun (S3 : St) => (∀ S4 : St, S4 = wr S3 3 0 (0 : Int32) → (∀ S5 : St, S5 = wr S4 4 0 (0 : Int32) → Q r2 S5))))
set_option maxHeartbeats 40000000 in
set_option maxRecDepth 100000 in
theorem kX4_removeAll {p : Program} {l : Launch} {e : Env} {R : Room} {s : State} {m : MethodId} {args : Array Value} {below : List Frame} {meth : Method} {c : Code} {QQ : State → Prop} {g : va_G} {ct : Nat → ClassId} {ad : Nat → Nat} {n ro : Nat} {A : Nat → Prop} (C : CallFix p m c cX4_removeAll 2 s args wsX4_removeAll RX4) (hK : va_K g vwCl (xT ct) s) (hN : xN s) (hA : ∀ q, s.heap.size ≤ q → A q) (hRf : 1 ≤ R.frames) (hRl : 25 ≤ R.locals) (Q : Int32 → St → Prop) (hret : ∀ (pc : Nat) (r : Int32) (S : St) (H : Heap) (locs : List Loc) (ls : Array Slot), decode cX4_removeAll pc = .ok (.ireturn, 1) → Q r S → va_P g vwCl (wX ct ad n ro S) H → va_D A (wX ct ad n ro S) → va_S A s.heap H locs → W p l e R s m args below meth c H locs 0 0 QQ (F0 m pc ls [.int r])) (S : St) (h : pX4_removeAll S Q) (H : Heap) (locs : List Loc) (ls : Array Slot) (hP : va_P g vwCl (wX ct ad n ro S) H) (hD : va_D A (wX ct ad n ro S)) (hS : va_S A s.heap H locs) (hl : lv_has ls 2 [(0, .ref (ad 1))]) : W p l e R s m args below meth c H locs 0 0 QQ (F0 m 0 ls []) := by
  have hinX4 : ∀ w ∈ wsX40, w ∈ wsX4_removeAll := by decide +kernel
  refine lv_aload_n C.1 C.2.1 dX4_removeAll_0 rfl (lv_at hl 0 rfl) ?_
  refine g_callVi (w := wX ct ad n ro) C hK hN hA hP hD hS (mX4_size l g ct ad n ro H.size S   _ h) (cwV 0 C.2.2.2.2 gX4_removeAll_X4_size rfl rfl rfl (by decide +kernel) ⟨Nat.le_trans (by decide) hRf, Nat.le_trans (by decide) hRl⟩) (va_recv hK hP (ci := 4) (q0 := 1) rfl rfl) rfl hl.1 rfl (Nat.le_of_ble_eq_true rfl) dX4_removeAll_1 ⟨Nat.zero_le _, Nat.zero_le _⟩ (fun r2 S1 H locs h hP hD hS => ?_)
  refine lv_istore_n (lv' := [(1, .int r2), (0, .ref (ad 1))]) C.1 C.2.1 dX4_removeAll_4 rfl hl (by decide) rfl (fun ls hl => ?_)
  refine lv_aload_n C.1 C.2.1 dX4_removeAll_5 rfl (lv_at hl 1 rfl) ?_
  refine xg4_lengths C hinX4 hK hP (by decide +kernel) dX4_removeAll_6 ?_
  refine lv_iconst (v := 0) C.1 C.2.1 dX4_removeAll_9 (by decide) ?_
  refine g_callSv (w := wX ct ad n ro) C hK hN hA hP hD hS (mfill_4_lengths l g ct ad n ro H.size S1 (0 : Int32) _ h) (va_cwS 2 C.2.2.2.2 gX4_removeAll_J7_fill_53178 rfl rfl rfl (by decide +kernel) ⟨Nat.le_trans (by decide) hRf, Nat.le_trans (by decide) hRl⟩) rfl hl.1 rfl (Nat.le_of_ble_eq_true rfl) dX4_removeAll_10 ⟨Nat.zero_le _, Nat.zero_le _⟩ (fun S3 H locs h hP hD hS => ?_)
  refine lv_aload_n C.1 C.2.1 dX4_removeAll_13 rfl (lv_at hl 1 rfl) ?_
  refine lv_iconst (v := 0) C.1 C.2.1 dX4_removeAll_14 (by decide) ?_
  obtain ⟨S4, eS4⟩ : ∃ z : St, z = wr S3 3 0 (0 : Int32) := ⟨_, rfl⟩
  have h := h S4 eS4
  refine xp4_accesses C hinX4 hK hP hD hS (by decide +kernel) dX4_removeAll_15 (fun H locs hP hD hS => ?_)
  rw [← eS4] at hP hD
  refine lv_aload_n C.1 C.2.1 dX4_removeAll_18 rfl (lv_at hl 1 rfl) ?_
  refine lv_iconst (v := 0) C.1 C.2.1 dX4_removeAll_19 (by decide) ?_
  obtain ⟨S5, eS5⟩ : ∃ z : St, z = wr S4 4 0 (0 : Int32) := ⟨_, rfl⟩
  have h := h S5 eS5
  refine xp4_readers C hinX4 hK hP hD hS (by decide +kernel) dX4_removeAll_20 (fun H locs hP hD hS => ?_)
  rw [← eS5] at hP hD
  refine lv_iload_n C.1 C.2.1 dX4_removeAll_23 rfl (lv_at hl 0 rfl) ?_
  exact hret _ _ _ _ _ _ dX4_removeAll_24 h hP hD hS
theorem mX4_removeAll (l : Launch) (g : va_G) (ct : Nat → ClassId) (ad : Nat → Nat) (n ro sz : Nat) (S : St) (Q : Int32 → St → Prop) (h : pX4_removeAll S Q) : Met l yX4_removeAll wsX4_removeAll ({ frames := 1, cells := 0, slots := 0, locals := 25 }) (gPc g (xT ct) (wX ct ad n ro S) sz [.ref (ad 1)]) (va_Qi Q (gB g (xT ct) (wX ct ad n ro) (va_A (wX ct ad n ro S) sz)) (va_A (wX ct ad n ro S) sz)) 0 0 (va_A (wX ct ad n ro S) sz) :=
  g_metI (w := wX ct ad n ro) (cc := cX4_removeAll) (maxL := 2) (by decide) rfl rfl (Nat.le_of_ble_eq_true rfl) rfl (fun p e s m args below meth c QQ A C hK hN hA hret H locs ls hP hD hS hl => kX4_removeAll C hK hN hA (Nat.le_refl _) (Nat.le_refl _) Q hret  S h H locs ls hP hD hS hl)

def pX4_accesses (S : St) (Q : Int32 → St → Prop) : Prop :=
  Q (S.1 3 0) S
set_option maxHeartbeats 40000000 in
set_option maxRecDepth 100000 in
theorem kX4_accesses {p : Program} {l : Launch} {e : Env} {R : Room} {s : State} {m : MethodId} {args : Array Value} {below : List Frame} {meth : Method} {c : Code} {QQ : State → Prop} {g : va_G} {ct : Nat → ClassId} {ad : Nat → Nat} {n ro : Nat} {A : Nat → Prop} (C : CallFix p m c cX4_accesses 1 s args wsX4_accesses RX4) (hK : va_K g vwCl (xT ct) s) (hN : xN s) (hA : ∀ q, s.heap.size ≤ q → A q) (hRf : 0 ≤ R.frames) (hRl : 0 ≤ R.locals) (Q : Int32 → St → Prop) (hret : ∀ (pc : Nat) (r : Int32) (S : St) (H : Heap) (locs : List Loc) (ls : Array Slot), decode cX4_accesses pc = .ok (.ireturn, 1) → Q r S → va_P g vwCl (wX ct ad n ro S) H → va_D A (wX ct ad n ro S) → va_S A s.heap H locs → W p l e R s m args below meth c H locs 0 0 QQ (F0 m pc ls [.int r])) (S : St) (h : pX4_accesses S Q) (H : Heap) (locs : List Loc) (ls : Array Slot) (hP : va_P g vwCl (wX ct ad n ro S) H) (hD : va_D A (wX ct ad n ro S)) (hS : va_S A s.heap H locs) (hl : lv_has ls 1 [(0, .ref (ad 1))]) : W p l e R s m args below meth c H locs 0 0 QQ (F0 m 0 ls []) := by
  have hinX4 : ∀ w ∈ wsX40, w ∈ wsX4_accesses := by decide +kernel
  refine lv_aload_n C.1 C.2.1 dX4_accesses_0 rfl (lv_at hl 0 rfl) ?_
  refine xg4_accesses C hinX4 hK hP (by decide +kernel) dX4_accesses_1 ?_
  exact hret _ _ _ _ _ _ dX4_accesses_4 h hP hD hS
theorem mX4_accesses (l : Launch) (g : va_G) (ct : Nat → ClassId) (ad : Nat → Nat) (n ro sz : Nat) (S : St) (Q : Int32 → St → Prop) (h : pX4_accesses S Q) : Met l yX4_accesses wsX4_accesses ({ frames := 0, cells := 0, slots := 0, locals := 0 }) (gPc g (xT ct) (wX ct ad n ro S) sz [.ref (ad 1)]) (va_Qi Q (gB g (xT ct) (wX ct ad n ro) (va_A (wX ct ad n ro S) sz)) (va_A (wX ct ad n ro S) sz)) 0 0 (va_A (wX ct ad n ro S) sz) :=
  g_metI (w := wX ct ad n ro) (cc := cX4_accesses) (maxL := 1) (by decide) rfl rfl (Nat.le_of_ble_eq_true rfl) rfl (fun p e s m args below meth c QQ A C hK hN hA hret H locs ls hP hD hS hl => kX4_accesses C hK hN hA (Nat.le_refl _) (Nat.le_refl _) Q hret  S h H locs ls hP hD hS hl)

def pX4_readers (S : St) (Q : Int32 → St → Prop) : Prop :=
  Q (S.1 4 0) S
set_option maxHeartbeats 40000000 in
set_option maxRecDepth 100000 in
theorem kX4_readers {p : Program} {l : Launch} {e : Env} {R : Room} {s : State} {m : MethodId} {args : Array Value} {below : List Frame} {meth : Method} {c : Code} {QQ : State → Prop} {g : va_G} {ct : Nat → ClassId} {ad : Nat → Nat} {n ro : Nat} {A : Nat → Prop} (C : CallFix p m c cX4_readers 1 s args wsX4_readers RX4) (hK : va_K g vwCl (xT ct) s) (hN : xN s) (hA : ∀ q, s.heap.size ≤ q → A q) (hRf : 0 ≤ R.frames) (hRl : 0 ≤ R.locals) (Q : Int32 → St → Prop) (hret : ∀ (pc : Nat) (r : Int32) (S : St) (H : Heap) (locs : List Loc) (ls : Array Slot), decode cX4_readers pc = .ok (.ireturn, 1) → Q r S → va_P g vwCl (wX ct ad n ro S) H → va_D A (wX ct ad n ro S) → va_S A s.heap H locs → W p l e R s m args below meth c H locs 0 0 QQ (F0 m pc ls [.int r])) (S : St) (h : pX4_readers S Q) (H : Heap) (locs : List Loc) (ls : Array Slot) (hP : va_P g vwCl (wX ct ad n ro S) H) (hD : va_D A (wX ct ad n ro S)) (hS : va_S A s.heap H locs) (hl : lv_has ls 1 [(0, .ref (ad 1))]) : W p l e R s m args below meth c H locs 0 0 QQ (F0 m 0 ls []) := by
  have hinX4 : ∀ w ∈ wsX40, w ∈ wsX4_readers := by decide +kernel
  refine lv_aload_n C.1 C.2.1 dX4_readers_0 rfl (lv_at hl 0 rfl) ?_
  refine xg4_readers C hinX4 hK hP (by decide +kernel) dX4_readers_1 ?_
  exact hret _ _ _ _ _ _ dX4_readers_4 h hP hD hS
theorem mX4_readers (l : Launch) (g : va_G) (ct : Nat → ClassId) (ad : Nat → Nat) (n ro sz : Nat) (S : St) (Q : Int32 → St → Prop) (h : pX4_readers S Q) : Met l yX4_readers wsX4_readers ({ frames := 0, cells := 0, slots := 0, locals := 0 }) (gPc g (xT ct) (wX ct ad n ro S) sz [.ref (ad 1)]) (va_Qi Q (gB g (xT ct) (wX ct ad n ro) (va_A (wX ct ad n ro S) sz)) (va_A (wX ct ad n ro S) sz)) 0 0 (va_A (wX ct ad n ro S) sz) :=
  g_metI (w := wX ct ad n ro) (cc := cX4_readers) (maxL := 1) (by decide) rfl rfl (Nat.le_of_ble_eq_true rfl) rfl (fun p e s m args below meth c QQ A C hK hN hA hret H locs ls hP hD hS hl => kX4_readers C hK hN hA (Nat.le_refl _) (Nat.le_refl _) Q hret  S h H locs ls hP hD hS hl)

def pX4_length (x1 : Int32) (S : St) (Q : Int32 → St → Prop) : Prop :=
  (vp_in x1 4 ∧ Q (S.1 20 (Int32.toNatClampNeg x1)) S)
set_option maxHeartbeats 40000000 in
set_option maxRecDepth 100000 in
theorem kX4_length {p : Program} {l : Launch} {e : Env} {R : Room} {s : State} {m : MethodId} {args : Array Value} {below : List Frame} {meth : Method} {c : Code} {QQ : State → Prop} {g : va_G} {ct : Nat → ClassId} {ad : Nat → Nat} {n ro : Nat} {A : Nat → Prop} (C : CallFix p m c cX4_length 2 s args wsX4_length RX4) (hK : va_K g vwCl (xT ct) s) (hN : xN s) (hA : ∀ q, s.heap.size ≤ q → A q) (hRf : 0 ≤ R.frames) (hRl : 0 ≤ R.locals) (Q : Int32 → St → Prop) (hret : ∀ (pc : Nat) (r : Int32) (S : St) (H : Heap) (locs : List Loc) (ls : Array Slot), decode cX4_length pc = .ok (.ireturn, 1) → Q r S → va_P g vwCl (wX ct ad n ro S) H → va_D A (wX ct ad n ro S) → va_S A s.heap H locs → W p l e R s m args below meth c H locs 0 0 QQ (F0 m pc ls [.int r])) (x1 : Int32) (S : St) (h : pX4_length x1 S Q) (H : Heap) (locs : List Loc) (ls : Array Slot) (hP : va_P g vwCl (wX ct ad n ro S) H) (hD : va_D A (wX ct ad n ro S)) (hS : va_S A s.heap H locs) (hl : lv_has ls 2 [(0, .ref (ad 1)), (1, .int x1)]) : W p l e R s m args below meth c H locs 0 0 QQ (F0 m 0 ls []) := by
  have hinX4 : ∀ w ∈ wsX40, w ∈ wsX4_length := by decide +kernel
  refine lv_aload_n C.1 C.2.1 dX4_length_0 rfl (lv_at hl 0 rfl) ?_
  refine xg4_lengths C hinX4 hK hP (by decide +kernel) dX4_length_1 ?_
  refine lv_iload_n C.1 C.2.1 dX4_length_4 rfl (lv_at hl 1 rfl) ?_
  obtain ⟨g1, h⟩ := h
  refine xa_4_lengths C hK hP g1  rfl dX4_length_5 ?_
  exact hret _ _ _ _ _ _ dX4_length_6 h hP hD hS
theorem mX4_length (l : Launch) (g : va_G) (ct : Nat → ClassId) (ad : Nat → Nat) (n ro sz : Nat) (S : St) (x1 : Int32) (Q : Int32 → St → Prop) (h : pX4_length x1 S Q) : Met l yX4_length wsX4_length ({ frames := 0, cells := 0, slots := 0, locals := 0 }) (gPc g (xT ct) (wX ct ad n ro S) sz [.ref (ad 1), .int x1]) (va_Qi Q (gB g (xT ct) (wX ct ad n ro) (va_A (wX ct ad n ro S) sz)) (va_A (wX ct ad n ro S) sz)) 0 0 (va_A (wX ct ad n ro S) sz) :=
  g_metI (w := wX ct ad n ro) (cc := cX4_length) (maxL := 2) (by decide) rfl rfl (Nat.le_of_ble_eq_true rfl) rfl (fun p e s m args below meth c QQ A C hK hN hA hret H locs ls hP hD hS hl => kX4_length C hK hN hA (Nat.le_refl _) (Nat.le_refl _) Q hret x1 S h H locs ls hP hD hS hl)

def bX4_has_28 (Q : Int32 → St → Prop) (t0 : Int32) (S : St) : Prop :=
  (zb t0 ∧ Q t0 S)
def bX4_has_27 (Q : Int32 → St → Prop) (S : St) : Prop :=
  bX4_has_28 Q (0 : Int32) S
def pX4_has (x1 : Int32) (x2 : Int32) (S : St) (Q : Int32 → St → Prop) : Prop :=
  ((x1 < 0 → bX4_has_27 Q  S) ∧ (¬ (x1 < 0) → (((4 : Int32) ≤ x1 → bX4_has_27 Q  S) ∧ (¬ ((4 : Int32) ≤ x1) → ((x2 < 0 → bX4_has_27 Q  S) ∧ (¬ (x2 < 0) → (vp_in x1 4 ∧ (((S.1 20 (Int32.toNatClampNeg x1)) ≤ x2 → bX4_has_27 Q  S) ∧ (¬ ((S.1 20 (Int32.toNatClampNeg x1)) ≤ x2) → bX4_has_28 Q (1 : Int32) S)))))))))
set_option maxHeartbeats 40000000 in
set_option maxRecDepth 100000 in
theorem kX4_has {p : Program} {l : Launch} {e : Env} {R : Room} {s : State} {m : MethodId} {args : Array Value} {below : List Frame} {meth : Method} {c : Code} {QQ : State → Prop} {g : va_G} {ct : Nat → ClassId} {ad : Nat → Nat} {n ro : Nat} {A : Nat → Prop} (C : CallFix p m c cX4_has 3 s args wsX4_has RX4) (hK : va_K g vwCl (xT ct) s) (hN : xN s) (hA : ∀ q, s.heap.size ≤ q → A q) (hRf : 0 ≤ R.frames) (hRl : 0 ≤ R.locals) (Q : Int32 → St → Prop) (hret : ∀ (pc : Nat) (r : Int32) (S : St) (H : Heap) (locs : List Loc) (ls : Array Slot), decode cX4_has pc = .ok (.ireturn, 1) → zb r → Q r S → va_P g vwCl (wX ct ad n ro S) H → va_D A (wX ct ad n ro S) → va_S A s.heap H locs → W p l e R s m args below meth c H locs 0 0 QQ (F0 m pc ls [.int r])) (x1 : Int32) (x2 : Int32) (S : St) (h : pX4_has x1 x2 S Q) (H : Heap) (locs : List Loc) (ls : Array Slot) (hP : va_P g vwCl (wX ct ad n ro S) H) (hD : va_D A (wX ct ad n ro S)) (hS : va_S A s.heap H locs) (hl : lv_has ls 3 [(0, .ref (ad 1)), (1, .int x1), (2, .int x2)]) : W p l e R s m args below meth c H locs 0 0 QQ (F0 m 0 ls []) := by
  have hinX4 : ∀ w ∈ wsX40, w ∈ wsX4_has := by decide +kernel
  have B28 : ∀ (t0 : Int32) (S : St) (H : Heap) (locs : List Loc) (ls : Array Slot), bX4_has_28 Q t0 S → va_P g vwCl (wX ct ad n ro S) H → va_D A (wX ct ad n ro S) → va_S A s.heap H locs → lv_has ls 3 [(0, .ref (ad 1))] → W p l e R s m args below meth c H locs 0 0 QQ (F0 m 28 ls [.int t0]) := by
    intro t0 S H locs ls h hP hD hS hl
    exact hret _ _ _ _ _ _ dX4_has_28 h.1 h.2 hP hD hS
  have B27 : ∀ (S : St) (H : Heap) (locs : List Loc) (ls : Array Slot), bX4_has_27 Q S → va_P g vwCl (wX ct ad n ro S) H → va_D A (wX ct ad n ro S) → va_S A s.heap H locs → lv_has ls 3 [(0, .ref (ad 1))] → W p l e R s m args below meth c H locs 0 0 QQ (F0 m 27 ls []) := by
    intro S H locs ls h hP hD hS hl
    refine lv_iconst (v := 0) C.1 C.2.1 dX4_has_27 (by decide) ?_
    exact B28 (0 : Int32) S H locs ls h hP hD hS (lv_sub hl [0] rfl)
  refine lv_iload_n C.1 C.2.1 dX4_has_0 rfl (lv_at hl 1 rfl) ?_
  refine lv_if_lt (tgt := 27) C.1 C.2.1 dX4_has_1 (by decide) (fun c5 => ?_) (fun c5 => ?_)
  · have h := h.1 c5
    exact B27  S H locs ls h hP hD hS (lv_sub hl [0] rfl)
  · have h := h.2 c5
    refine lv_iload_n C.1 C.2.1 dX4_has_4 rfl (lv_at hl 1 rfl) ?_
    refine lv_iconst (v := 4) C.1 C.2.1 dX4_has_5 (by decide) ?_
    refine lv_icmp_ge (tgt := 27) C.1 C.2.1 dX4_has_6 (by decide) (fun c4 => ?_) (fun c4 => ?_)
    · have h := h.1 c4
      exact B27  S H locs ls h hP hD hS (lv_sub hl [0] rfl)
    · have h := h.2 c4
      refine lv_iload_n C.1 C.2.1 dX4_has_9 rfl (lv_at hl 2 rfl) ?_
      refine lv_if_lt (tgt := 27) C.1 C.2.1 dX4_has_10 (by decide) (fun c3 => ?_) (fun c3 => ?_)
      · have h := h.1 c3
        exact B27  S H locs ls h hP hD hS (lv_sub hl [0] rfl)
      · have h := h.2 c3
        refine lv_iload_n C.1 C.2.1 dX4_has_13 rfl (lv_at hl 2 rfl) ?_
        refine lv_aload_n C.1 C.2.1 dX4_has_14 rfl (lv_at hl 0 rfl) ?_
        refine xg4_lengths C hinX4 hK hP (by decide +kernel) dX4_has_15 ?_
        refine lv_iload_n C.1 C.2.1 dX4_has_18 rfl (lv_at hl 1 rfl) ?_
        obtain ⟨g1, h⟩ := h
        refine xa_4_lengths C hK hP g1  rfl dX4_has_19 ?_
        refine lv_icmp_ge (tgt := 27) C.1 C.2.1 dX4_has_20 (by decide) (fun c2 => ?_) (fun c2 => ?_)
        · have h := h.1 c2
          exact B27  S H locs ls h hP hD hS (lv_sub hl [0] rfl)
        · have h := h.2 c2
          refine lv_iconst (v := 1) C.1 C.2.1 dX4_has_23 (by decide) ?_
          refine lv_goto (tgt := 28) C.1 C.2.1 dX4_has_24 (by decide) ?_
          exact B28 (1 : Int32) S H locs ls h hP hD hS (lv_sub hl [0] rfl)
theorem mX4_has (l : Launch) (g : va_G) (ct : Nat → ClassId) (ad : Nat → Nat) (n ro sz : Nat) (S : St) (x1 : Int32) (x2 : Int32) (Q : Int32 → St → Prop) (h : pX4_has x1 x2 S Q) : Met l yX4_has wsX4_has ({ frames := 0, cells := 0, slots := 0, locals := 0 }) (gPc g (xT ct) (wX ct ad n ro S) sz [.ref (ad 1), .int x1, .int x2]) (va_Qi Q (gB g (xT ct) (wX ct ad n ro) (va_A (wX ct ad n ro S) sz)) (va_A (wX ct ad n ro S) sz)) 0 0 (va_A (wX ct ad n ro S) sz) :=
  g_metZ (w := wX ct ad n ro) (cc := cX4_has) (maxL := 3) (by decide) rfl rfl (Nat.le_of_ble_eq_true rfl) rfl (fun p e s m args below meth c QQ A C hK hN hA hret H locs ls hP hD hS hl => kX4_has C hK hN hA (Nat.le_refl _) (Nat.le_refl _) Q hret x1 x2 S h H locs ls hP hD hS hl)

def pX4_row (x1 : Int32) (x2 : Int32) (S : St) (Q : Nat → St → Prop) : Prop :=
  (vp_in ((x1 * (6 : Int32)) + x2) 24 ∧ ∀ i1 : Nat, i1 = Int32.toNatClampNeg ((x1 * (6 : Int32)) + x2) → Q i1 S)
set_option maxHeartbeats 40000000 in
set_option maxRecDepth 100000 in
theorem kX4_row {p : Program} {l : Launch} {e : Env} {R : Room} {s : State} {m : MethodId} {args : Array Value} {below : List Frame} {meth : Method} {c : Code} {QQ : State → Prop} {g : va_G} {ct : Nat → ClassId} {ad : Nat → Nat} {n ro : Nat} {A : Nat → Prop} (C : CallFix p m c cX4_row 3 s args wsX4_row RX4) (hK : va_K g vwCl (xT ct) s) (hN : xN s) (hA : ∀ q, s.heap.size ≤ q → A q) (hRf : 0 ≤ R.frames) (hRl : 0 ≤ R.locals) (Q : Nat → St → Prop) (hret : ∀ (pc : Nat) (r : Nat) (S : St) (H : Heap) (locs : List Loc) (ls : Array Slot), decode cX4_row pc = .ok (.areturn, 1) → r < 24 → Q r S → va_P g vwCl (wX ct ad n ro S) H → va_D A (wX ct ad n ro S) → va_S A s.heap H locs → W p l e R s m args below meth c H locs 0 0 QQ (F0 m pc ls [.ref (ad (30 + r))])) (x1 : Int32) (x2 : Int32) (S : St) (h : pX4_row x1 x2 S Q) (H : Heap) (locs : List Loc) (ls : Array Slot) (hP : va_P g vwCl (wX ct ad n ro S) H) (hD : va_D A (wX ct ad n ro S)) (hS : va_S A s.heap H locs) (hl : lv_has ls 3 [(0, .ref (ad 1)), (1, .int x1), (2, .int x2)]) : W p l e R s m args below meth c H locs 0 0 QQ (F0 m 0 ls []) := by
  have hinX4 : ∀ w ∈ wsX40, w ∈ wsX4_row := by decide +kernel
  refine lv_aload_n C.1 C.2.1 dX4_row_0 rfl (lv_at hl 0 rfl) ?_
  refine xg4_rows C hinX4 hK hP (by decide +kernel) dX4_row_1 ?_
  refine lv_iload_n C.1 C.2.1 dX4_row_4 rfl (lv_at hl 1 rfl) ?_
  refine lv_bipush (v := 6) C.1 C.2.1 dX4_row_5 (by decide) ?_
  refine lv_imul C.1 C.2.1 dX4_row_7 ?_
  refine lv_iload_n C.1 C.2.1 dX4_row_8 rfl (lv_at hl 2 rfl) ?_
  refine lv_iadd C.1 C.2.1 dX4_row_9 ?_
  obtain ⟨g2, h⟩ := h
  obtain ⟨i1, ei1⟩ : ∃ z : Nat, z = Int32.toNatClampNeg ((x1 * (6 : Int32)) + x2) := ⟨_, rfl⟩
  have h := h i1 ei1
  have hi1 : i1 < 24 := by rw [ei1]; exact lt_in g2
  refine xq_row C hK hP g2 ei1 dX4_row_10 ?_
  exact hret _ _ _ _ _ _ dX4_row_11 hi1 h hP hD hS
theorem mX4_row (l : Launch) (g : va_G) (ct : Nat → ClassId) (ad : Nat → Nat) (n ro sz : Nat) (S : St) (x1 : Int32) (x2 : Int32) (Q : Nat → St → Prop) (h : pX4_row x1 x2 S Q) : Met l yX4_row wsX4_row ({ frames := 0, cells := 0, slots := 0, locals := 0 }) (gPc g (xT ct) (wX ct ad n ro S) sz [.ref (ad 1), .int x1, .int x2]) (va_Qr (fun u : Nat × St => u.1 < 24 ∧ Q u.1 u.2) (fun u a t => a = ad (30 + u.1) ∧ gB g (xT ct) (wX ct ad n ro) (va_A (wX ct ad n ro S) sz) u.2 t) (va_A (wX ct ad n ro S) sz)) 0 0 (va_A (wX ct ad n ro S) sz) :=
  g_metR (ad := ad) 30 24 (Or.inr ⟨_, rfl⟩) (w := wX ct ad n ro) (cc := cX4_row) (maxL := 3) (by decide) rfl rfl (Nat.le_of_ble_eq_true rfl) rfl (fun p e s m args below meth c QQ A C hK hN hA hret H locs ls hP hD hS hl => kX4_row C hK hN hA (Nat.le_refl _) (Nat.le_refl _) Q hret x1 x2 S h H locs ls hP hD hS hl)

def pX4_propose (x1 : Int32) (x2 : Int32) (x3 : Int32) (x4 : Int32) (x5 : Int32) (x6 : Int32) (S : St) (Q : St → Prop) : Prop :=
  (∀ S1 : St, S1 = wr S 21 0 x1 → (∀ S2 : St, S2 = wr S1 21 1 x2 → (∀ S3 : St, S3 = wr S2 21 2 x3 → (∀ S4 : St, S4 = wr S3 21 3 x4 → (∀ S5 : St, S5 = wr S4 21 4 x5 → (∀ S6 : St, S6 = wr S5 21 5 x6 → Q S6))))))
set_option maxHeartbeats 40000000 in
set_option maxRecDepth 100000 in
theorem kX4_propose {p : Program} {l : Launch} {e : Env} {R : Room} {s : State} {m : MethodId} {args : Array Value} {below : List Frame} {meth : Method} {c : Code} {QQ : State → Prop} {g : va_G} {ct : Nat → ClassId} {ad : Nat → Nat} {n ro : Nat} {A : Nat → Prop} (C : CallFix p m c cX4_propose 7 s args wsX4_propose RX4) (hK : va_K g vwCl (xT ct) s) (hN : xN s) (hA : ∀ q, s.heap.size ≤ q → A q) (hRf : 0 ≤ R.frames) (hRl : 0 ≤ R.locals) (Q : St → Prop) (hret : ∀ (pc : Nat) (S : St) (H : Heap) (locs : List Loc) (ls : Array Slot), decode cX4_propose pc = .ok (.return_, 1) → Q S → va_P g vwCl (wX ct ad n ro S) H → va_D A (wX ct ad n ro S) → va_S A s.heap H locs → W p l e R s m args below meth c H locs 0 0 QQ (F0 m pc ls [])) (x1 : Int32) (x2 : Int32) (x3 : Int32) (x4 : Int32) (x5 : Int32) (x6 : Int32) (S : St) (h : pX4_propose x1 x2 x3 x4 x5 x6 S Q) (H : Heap) (locs : List Loc) (ls : Array Slot) (hP : va_P g vwCl (wX ct ad n ro S) H) (hD : va_D A (wX ct ad n ro S)) (hS : va_S A s.heap H locs) (hl : lv_has ls 7 [(0, .ref (ad 1)), (1, .int x1), (2, .int x2), (3, .int x3), (4, .int x4), (5, .int x5), (6, .int x6)]) : W p l e R s m args below meth c H locs 0 0 QQ (F0 m 0 ls []) := by
  have hinX4 : ∀ w ∈ wsX40, w ∈ wsX4_propose := by decide +kernel
  refine lv_aload_n C.1 C.2.1 dX4_propose_0 rfl (lv_at hl 0 rfl) ?_
  refine xg4_draft C hinX4 hK hP (by decide +kernel) dX4_propose_1 ?_
  refine lv_iconst (v := 0) C.1 C.2.1 dX4_propose_4 (by decide) ?_
  refine lv_iload_n C.1 C.2.1 dX4_propose_5 rfl (lv_at hl 1 rfl) ?_
  obtain ⟨S1, eS1⟩ : ∃ z : St, z = wr S 21 0 x1 := ⟨_, rfl⟩
  have h := h S1 eS1
  refine xs_4_draft C hK hP hD hS (j := 0) (by unfold vp_in; decide) (by decide) dX4_propose_6 (fun H locs hP hD hS => ?_)
  rw [← eS1] at hP hD
  refine lv_aload_n C.1 C.2.1 dX4_propose_7 rfl (lv_at hl 0 rfl) ?_
  refine xg4_draft C hinX4 hK hP (by decide +kernel) dX4_propose_8 ?_
  refine lv_iconst (v := 1) C.1 C.2.1 dX4_propose_11 (by decide) ?_
  refine lv_iload_n C.1 C.2.1 dX4_propose_12 rfl (lv_at hl 2 rfl) ?_
  obtain ⟨S2, eS2⟩ : ∃ z : St, z = wr S1 21 1 x2 := ⟨_, rfl⟩
  have h := h S2 eS2
  refine xs_4_draft C hK hP hD hS (j := 1) (by unfold vp_in; decide) (by decide) dX4_propose_13 (fun H locs hP hD hS => ?_)
  rw [← eS2] at hP hD
  refine lv_aload_n C.1 C.2.1 dX4_propose_14 rfl (lv_at hl 0 rfl) ?_
  refine xg4_draft C hinX4 hK hP (by decide +kernel) dX4_propose_15 ?_
  refine lv_iconst (v := 2) C.1 C.2.1 dX4_propose_18 (by decide) ?_
  refine lv_iload_n C.1 C.2.1 dX4_propose_19 rfl (lv_at hl 3 rfl) ?_
  obtain ⟨S3, eS3⟩ : ∃ z : St, z = wr S2 21 2 x3 := ⟨_, rfl⟩
  have h := h S3 eS3
  refine xs_4_draft C hK hP hD hS (j := 2) (by unfold vp_in; decide) (by decide) dX4_propose_20 (fun H locs hP hD hS => ?_)
  rw [← eS3] at hP hD
  refine lv_aload_n C.1 C.2.1 dX4_propose_21 rfl (lv_at hl 0 rfl) ?_
  refine xg4_draft C hinX4 hK hP (by decide +kernel) dX4_propose_22 ?_
  refine lv_iconst (v := 3) C.1 C.2.1 dX4_propose_25 (by decide) ?_
  refine lv_iload C.1 C.2.1 dX4_propose_26 (lv_at hl 4 rfl) ?_
  obtain ⟨S4, eS4⟩ : ∃ z : St, z = wr S3 21 3 x4 := ⟨_, rfl⟩
  have h := h S4 eS4
  refine xs_4_draft C hK hP hD hS (j := 3) (by unfold vp_in; decide) (by decide) dX4_propose_28 (fun H locs hP hD hS => ?_)
  rw [← eS4] at hP hD
  refine lv_aload_n C.1 C.2.1 dX4_propose_29 rfl (lv_at hl 0 rfl) ?_
  refine xg4_draft C hinX4 hK hP (by decide +kernel) dX4_propose_30 ?_
  refine lv_iconst (v := 4) C.1 C.2.1 dX4_propose_33 (by decide) ?_
  refine lv_iload C.1 C.2.1 dX4_propose_34 (lv_at hl 5 rfl) ?_
  obtain ⟨S5, eS5⟩ : ∃ z : St, z = wr S4 21 4 x5 := ⟨_, rfl⟩
  have h := h S5 eS5
  refine xs_4_draft C hK hP hD hS (j := 4) (by unfold vp_in; decide) (by decide) dX4_propose_36 (fun H locs hP hD hS => ?_)
  rw [← eS5] at hP hD
  refine lv_aload_n C.1 C.2.1 dX4_propose_37 rfl (lv_at hl 0 rfl) ?_
  refine xg4_draft C hinX4 hK hP (by decide +kernel) dX4_propose_38 ?_
  refine lv_iconst (v := 5) C.1 C.2.1 dX4_propose_41 (by decide) ?_
  refine lv_iload C.1 C.2.1 dX4_propose_42 (lv_at hl 6 rfl) ?_
  obtain ⟨S6, eS6⟩ : ∃ z : St, z = wr S5 21 5 x6 := ⟨_, rfl⟩
  have h := h S6 eS6
  refine xs_4_draft C hK hP hD hS (j := 5) (by unfold vp_in; decide) (by decide) dX4_propose_44 (fun H locs hP hD hS => ?_)
  rw [← eS6] at hP hD
  exact hret _ _ _ _ _ dX4_propose_45 h hP hD hS
theorem mX4_propose (l : Launch) (g : va_G) (ct : Nat → ClassId) (ad : Nat → Nat) (n ro sz : Nat) (S : St) (x1 : Int32) (x2 : Int32) (x3 : Int32) (x4 : Int32) (x5 : Int32) (x6 : Int32) (Q : St → Prop) (h : pX4_propose x1 x2 x3 x4 x5 x6 S Q) : Met l yX4_propose wsX4_propose ({ frames := 0, cells := 0, slots := 0, locals := 0 }) (gPc g (xT ct) (wX ct ad n ro S) sz [.ref (ad 1), .int x1, .int x2, .int x3, .int x4, .int x5, .int x6]) (va_Qv Q (gB g (xT ct) (wX ct ad n ro) (va_A (wX ct ad n ro S) sz)) (va_A (wX ct ad n ro S) sz)) 0 0 (va_A (wX ct ad n ro S) sz) :=
  g_metV (w := wX ct ad n ro) (cc := cX4_propose) (maxL := 7) (by decide) rfl rfl (Nat.le_of_ble_eq_true rfl) rfl (fun p e s m args below meth c QQ A C hK hN hA hret H locs ls hP hD hS hl => kX4_propose C hK hN hA (Nat.le_refl _) (Nat.le_refl _) Q hret x1 x2 x3 x4 x5 x6 S h H locs ls hP hD hS hl)

def bX4_isOfSort_183 (Q : Int32 → Prop) (t0 : Int32) : Prop :=
  (zb t0 ∧ Q t0)
def bX4_isOfSort_182 (Q : Int32 → Prop) : Prop :=
  bX4_isOfSort_183 Q (0 : Int32)
def bX4_isOfSort_169 (Q : Int32 → Prop) (x1 : Int32) : Prop :=
  ((x1 < 0 → bX4_isOfSort_182 Q ) ∧ (¬ (x1 < 0) → (((3 : Int32) < x1 → bX4_isOfSort_182 Q ) ∧ (¬ ((3 : Int32) < x1) → bX4_isOfSort_183 Q (1 : Int32)))))
def bX4_isOfSort_137 (Q : Int32 → Prop) (t0 : Int32) : Prop :=
  (zb t0 ∧ Q t0)
def bX4_isOfSort_132 (Q : Int32 → Prop) : Prop :=
  bX4_isOfSort_137 Q (1 : Int32)
def bX4_isOfSort_168 (Q : Int32 → Prop) (t0 : Int32) : Prop :=
  (zb t0 ∧ Q t0)
def bX4_isOfSort_167 (Q : Int32 → Prop) : Prop :=
  bX4_isOfSort_168 Q (0 : Int32)
def bX4_isOfSort_86 (Q : Int32 → Prop) (t0 : Int32) : Prop :=
  (zb t0 ∧ Q t0)
def bX4_isOfSort_85 (Q : Int32 → Prop) : Prop :=
  bX4_isOfSort_86 Q (0 : Int32)
def bX4_isOfSort_152 (Q : Int32 → Prop) (t0 : Int32) : Prop :=
  (zb t0 ∧ Q t0)
def bX4_isOfSort_147 (Q : Int32 → Prop) : Prop :=
  bX4_isOfSort_152 Q (1 : Int32)
def bX4_isOfSort_101 (Q : Int32 → Prop) (t0 : Int32) : Prop :=
  (zb t0 ∧ Q t0)
def bX4_isOfSort_100 (Q : Int32 → Prop) : Prop :=
  bX4_isOfSort_101 Q (0 : Int32)
def bX4_isOfSort_117 (Q : Int32 → Prop) (t0 : Int32) : Prop :=
  (zb t0 ∧ Q t0)
def bX4_isOfSort_116 (Q : Int32 → Prop) : Prop :=
  bX4_isOfSort_117 Q (0 : Int32)
def pX4_isOfSort (x0 : Int32) (x1 : Int32) (Q : Int32 → Prop) : Prop :=
  (((Int32.toInt x0 < 108 ∨ 121 < Int32.toInt x0) → bX4_isOfSort_169 Q x1) ∧ (x0 = (108 : Int32) → ((x1 = 0 → bX4_isOfSort_132 Q ) ∧ (¬ (x1 = 0) → ((x1 = (1 : Int32) → bX4_isOfSort_132 Q ) ∧ (¬ (x1 = (1 : Int32)) → ((¬ x1 = (3 : Int32) → bX4_isOfSort_137 Q (0 : Int32)) ∧ (x1 = (3 : Int32) → bX4_isOfSort_132 Q ))))))) ∧ (x0 = (109 : Int32) → bX4_isOfSort_169 Q x1) ∧ (x0 = (110 : Int32) → ((x1 < (1 : Int32) → bX4_isOfSort_167 Q ) ∧ (¬ (x1 < (1 : Int32)) → (((5 : Int32) < x1 → bX4_isOfSort_167 Q ) ∧ (¬ ((5 : Int32) < x1) → bX4_isOfSort_168 Q (1 : Int32)))))) ∧ (x0 = (111 : Int32) → bX4_isOfSort_169 Q x1) ∧ (x0 = (112 : Int32) → bX4_isOfSort_169 Q x1) ∧ (x0 = (113 : Int32) → bX4_isOfSort_169 Q x1) ∧ (x0 = (114 : Int32) → ((x1 < 0 → bX4_isOfSort_85 Q ) ∧ (¬ (x1 < 0) → (((4 : Int32) ≤ x1 → bX4_isOfSort_85 Q ) ∧ (¬ ((4 : Int32) ≤ x1) → bX4_isOfSort_86 Q (1 : Int32)))))) ∧ (x0 = (115 : Int32) → ((x1 = 0 → bX4_isOfSort_147 Q ) ∧ (¬ (x1 = 0) → ((¬ x1 = (2 : Int32) → bX4_isOfSort_152 Q (0 : Int32)) ∧ (x1 = (2 : Int32) → bX4_isOfSort_147 Q ))))) ∧ (x0 = (116 : Int32) → bX4_isOfSort_169 Q x1) ∧ (x0 = (117 : Int32) → bX4_isOfSort_169 Q x1) ∧ (x0 = (118 : Int32) → bX4_isOfSort_169 Q x1) ∧ (x0 = (119 : Int32) → bX4_isOfSort_169 Q x1) ∧ (x0 = (120 : Int32) → ((x1 < 0 → bX4_isOfSort_100 Q ) ∧ (¬ (x1 < 0) → (((3 : Int32) ≤ x1 → bX4_isOfSort_100 Q ) ∧ (¬ ((3 : Int32) ≤ x1) → bX4_isOfSort_101 Q (1 : Int32)))))) ∧ (x0 = (121 : Int32) → ((x1 < (-1 : Int32) → bX4_isOfSort_116 Q ) ∧ (¬ (x1 < (-1 : Int32)) → (((4 : Int32) ≤ x1 → bX4_isOfSort_116 Q ) ∧ (¬ ((4 : Int32) ≤ x1) → bX4_isOfSort_117 Q (1 : Int32)))))))
set_option maxHeartbeats 40000000 in
set_option maxRecDepth 100000 in
theorem kX4_isOfSort {p : Program} {l : Launch} {e : Env} {R : Room} {s : State} {m : MethodId} {args : Array Value} {below : List Frame} {meth : Method} {c : Code} {QQ : State → Prop} {g : va_G} {tys : List (ClassId × FieldType)} {A : Nat → Prop} (C : CallFix p m c cX4_isOfSort 2 s args wsX4_isOfSort RX4) (hK : va_K g vwCl (tys) s) (hN : xN s) (hA : ∀ q, s.heap.size ≤ q → A q) (hRf : 0 ≤ R.frames) (hRl : 0 ≤ R.locals) (Q : Int32 → Prop) (hret : ∀ (pc : Nat) (r : Int32) (S : St) (H : Heap) (locs : List Loc) (ls : Array Slot), decode cX4_isOfSort pc = .ok (.ireturn, 1) → zb r → Q r → va_P g vwCl (w0 S) H → va_D A (w0 S) → va_S A s.heap H locs → W p l e R s m args below meth c H locs 0 0 QQ (F0 m pc ls [.int r])) (x0 : Int32) (x1 : Int32) (S : St) (h : pX4_isOfSort x0 x1 Q) (H : Heap) (locs : List Loc) (ls : Array Slot) (hP : va_P g vwCl (w0 S) H) (hD : va_D A (w0 S)) (hS : va_S A s.heap H locs) (hl : lv_has ls 2 [(0, .int x0), (1, .int x1)]) : W p l e R s m args below meth c H locs 0 0 QQ (F0 m 0 ls []) := by
  have B183 : ∀ (t0 : Int32) (S : St) (H : Heap) (locs : List Loc) (ls : Array Slot), bX4_isOfSort_183 Q t0 → va_P g vwCl (w0 S) H → va_D A (w0 S) → va_S A s.heap H locs → lv_has ls 2 [] → W p l e R s m args below meth c H locs 0 0 QQ (F0 m 183 ls [.int t0]) := by
    intro t0 S H locs ls h hP hD hS hl
    exact hret _ _ _ _ _ _ dX4_isOfSort_183 h.1 h.2 hP hD hS
  have B182 : ∀ (S : St) (H : Heap) (locs : List Loc) (ls : Array Slot), bX4_isOfSort_182 Q → va_P g vwCl (w0 S) H → va_D A (w0 S) → va_S A s.heap H locs → lv_has ls 2 [] → W p l e R s m args below meth c H locs 0 0 QQ (F0 m 182 ls []) := by
    intro S H locs ls h hP hD hS hl
    refine lv_iconst (v := 0) C.1 C.2.1 dX4_isOfSort_182 (by decide) ?_
    exact B183 (0 : Int32) S H locs ls h hP hD hS (lv_sub hl [] rfl)
  have B169 : ∀ (x1 : Int32) (S : St) (H : Heap) (locs : List Loc) (ls : Array Slot), bX4_isOfSort_169 Q x1 → va_P g vwCl (w0 S) H → va_D A (w0 S) → va_S A s.heap H locs → lv_has ls 2 [(1, .int x1)] → W p l e R s m args below meth c H locs 0 0 QQ (F0 m 169 ls []) := by
    intro x1 S H locs ls h hP hD hS hl
    refine lv_iload_n C.1 C.2.1 dX4_isOfSort_169 rfl (lv_at hl 0 rfl) ?_
    refine lv_if_lt (tgt := 182) C.1 C.2.1 dX4_isOfSort_170 (by decide) (fun c2 => ?_) (fun c2 => ?_)
    · have h := h.1 c2
      exact B182  S H locs ls h hP hD hS (lv_sub hl [] rfl)
    · have h := h.2 c2
      refine lv_iload_n C.1 C.2.1 dX4_isOfSort_173 rfl (lv_at hl 0 rfl) ?_
      refine lv_iconst (v := 3) C.1 C.2.1 dX4_isOfSort_174 (by decide) ?_
      refine lv_icmp_gt (tgt := 182) C.1 C.2.1 dX4_isOfSort_175 (by decide) (fun c1 => ?_) (fun c1 => ?_)
      · have h := h.1 c1
        exact B182  S H locs ls h hP hD hS (lv_sub hl [] rfl)
      · have h := h.2 c1
        refine lv_iconst (v := 1) C.1 C.2.1 dX4_isOfSort_178 (by decide) ?_
        refine lv_goto (tgt := 183) C.1 C.2.1 dX4_isOfSort_179 (by decide) ?_
        exact B183 (1 : Int32) S H locs ls h hP hD hS (lv_sub hl [] rfl)
  have B137 : ∀ (t0 : Int32) (S : St) (H : Heap) (locs : List Loc) (ls : Array Slot), bX4_isOfSort_137 Q t0 → va_P g vwCl (w0 S) H → va_D A (w0 S) → va_S A s.heap H locs → lv_has ls 2 [] → W p l e R s m args below meth c H locs 0 0 QQ (F0 m 137 ls [.int t0]) := by
    intro t0 S H locs ls h hP hD hS hl
    exact hret _ _ _ _ _ _ dX4_isOfSort_137 h.1 h.2 hP hD hS
  have B132 : ∀ (S : St) (H : Heap) (locs : List Loc) (ls : Array Slot), bX4_isOfSort_132 Q → va_P g vwCl (w0 S) H → va_D A (w0 S) → va_S A s.heap H locs → lv_has ls 2 [] → W p l e R s m args below meth c H locs 0 0 QQ (F0 m 132 ls []) := by
    intro S H locs ls h hP hD hS hl
    refine lv_iconst (v := 1) C.1 C.2.1 dX4_isOfSort_132 (by decide) ?_
    refine lv_goto (tgt := 137) C.1 C.2.1 dX4_isOfSort_133 (by decide) ?_
    exact B137 (1 : Int32) S H locs ls h hP hD hS (lv_sub hl [] rfl)
  have B168 : ∀ (t0 : Int32) (S : St) (H : Heap) (locs : List Loc) (ls : Array Slot), bX4_isOfSort_168 Q t0 → va_P g vwCl (w0 S) H → va_D A (w0 S) → va_S A s.heap H locs → lv_has ls 2 [] → W p l e R s m args below meth c H locs 0 0 QQ (F0 m 168 ls [.int t0]) := by
    intro t0 S H locs ls h hP hD hS hl
    exact hret _ _ _ _ _ _ dX4_isOfSort_168 h.1 h.2 hP hD hS
  have B167 : ∀ (S : St) (H : Heap) (locs : List Loc) (ls : Array Slot), bX4_isOfSort_167 Q → va_P g vwCl (w0 S) H → va_D A (w0 S) → va_S A s.heap H locs → lv_has ls 2 [] → W p l e R s m args below meth c H locs 0 0 QQ (F0 m 167 ls []) := by
    intro S H locs ls h hP hD hS hl
    refine lv_iconst (v := 0) C.1 C.2.1 dX4_isOfSort_167 (by decide) ?_
    exact B168 (0 : Int32) S H locs ls h hP hD hS (lv_sub hl [] rfl)
  have B86 : ∀ (t0 : Int32) (S : St) (H : Heap) (locs : List Loc) (ls : Array Slot), bX4_isOfSort_86 Q t0 → va_P g vwCl (w0 S) H → va_D A (w0 S) → va_S A s.heap H locs → lv_has ls 2 [] → W p l e R s m args below meth c H locs 0 0 QQ (F0 m 86 ls [.int t0]) := by
    intro t0 S H locs ls h hP hD hS hl
    exact hret _ _ _ _ _ _ dX4_isOfSort_86 h.1 h.2 hP hD hS
  have B85 : ∀ (S : St) (H : Heap) (locs : List Loc) (ls : Array Slot), bX4_isOfSort_85 Q → va_P g vwCl (w0 S) H → va_D A (w0 S) → va_S A s.heap H locs → lv_has ls 2 [] → W p l e R s m args below meth c H locs 0 0 QQ (F0 m 85 ls []) := by
    intro S H locs ls h hP hD hS hl
    refine lv_iconst (v := 0) C.1 C.2.1 dX4_isOfSort_85 (by decide) ?_
    exact B86 (0 : Int32) S H locs ls h hP hD hS (lv_sub hl [] rfl)
  have B152 : ∀ (t0 : Int32) (S : St) (H : Heap) (locs : List Loc) (ls : Array Slot), bX4_isOfSort_152 Q t0 → va_P g vwCl (w0 S) H → va_D A (w0 S) → va_S A s.heap H locs → lv_has ls 2 [] → W p l e R s m args below meth c H locs 0 0 QQ (F0 m 152 ls [.int t0]) := by
    intro t0 S H locs ls h hP hD hS hl
    exact hret _ _ _ _ _ _ dX4_isOfSort_152 h.1 h.2 hP hD hS
  have B147 : ∀ (S : St) (H : Heap) (locs : List Loc) (ls : Array Slot), bX4_isOfSort_147 Q → va_P g vwCl (w0 S) H → va_D A (w0 S) → va_S A s.heap H locs → lv_has ls 2 [] → W p l e R s m args below meth c H locs 0 0 QQ (F0 m 147 ls []) := by
    intro S H locs ls h hP hD hS hl
    refine lv_iconst (v := 1) C.1 C.2.1 dX4_isOfSort_147 (by decide) ?_
    refine lv_goto (tgt := 152) C.1 C.2.1 dX4_isOfSort_148 (by decide) ?_
    exact B152 (1 : Int32) S H locs ls h hP hD hS (lv_sub hl [] rfl)
  have B101 : ∀ (t0 : Int32) (S : St) (H : Heap) (locs : List Loc) (ls : Array Slot), bX4_isOfSort_101 Q t0 → va_P g vwCl (w0 S) H → va_D A (w0 S) → va_S A s.heap H locs → lv_has ls 2 [] → W p l e R s m args below meth c H locs 0 0 QQ (F0 m 101 ls [.int t0]) := by
    intro t0 S H locs ls h hP hD hS hl
    exact hret _ _ _ _ _ _ dX4_isOfSort_101 h.1 h.2 hP hD hS
  have B100 : ∀ (S : St) (H : Heap) (locs : List Loc) (ls : Array Slot), bX4_isOfSort_100 Q → va_P g vwCl (w0 S) H → va_D A (w0 S) → va_S A s.heap H locs → lv_has ls 2 [] → W p l e R s m args below meth c H locs 0 0 QQ (F0 m 100 ls []) := by
    intro S H locs ls h hP hD hS hl
    refine lv_iconst (v := 0) C.1 C.2.1 dX4_isOfSort_100 (by decide) ?_
    exact B101 (0 : Int32) S H locs ls h hP hD hS (lv_sub hl [] rfl)
  have B117 : ∀ (t0 : Int32) (S : St) (H : Heap) (locs : List Loc) (ls : Array Slot), bX4_isOfSort_117 Q t0 → va_P g vwCl (w0 S) H → va_D A (w0 S) → va_S A s.heap H locs → lv_has ls 2 [] → W p l e R s m args below meth c H locs 0 0 QQ (F0 m 117 ls [.int t0]) := by
    intro t0 S H locs ls h hP hD hS hl
    exact hret _ _ _ _ _ _ dX4_isOfSort_117 h.1 h.2 hP hD hS
  have B116 : ∀ (S : St) (H : Heap) (locs : List Loc) (ls : Array Slot), bX4_isOfSort_116 Q → va_P g vwCl (w0 S) H → va_D A (w0 S) → va_S A s.heap H locs → lv_has ls 2 [] → W p l e R s m args below meth c H locs 0 0 QQ (F0 m 116 ls []) := by
    intro S H locs ls h hP hD hS hl
    refine lv_iconst (v := 0) C.1 C.2.1 dX4_isOfSort_116 (by decide) ?_
    exact B117 (0 : Int32) S H locs ls h hP hD hS (lv_sub hl [] rfl)
  refine lv_iload_n C.1 C.2.1 dX4_isOfSort_0 rfl (lv_at hl 0 rfl) ?_
  by_cases c3 : (Int32.toInt x0 < 108 ∨ 121 < Int32.toInt x0)
  · have h := h.1 c3
    refine lv_tableOut (tgt := 169) C.1 C.2.1 dX4_isOfSort_1 c3 (by decide) ?_
    exact B169 x1 S H locs ls h hP hD hS (lv_sub hl [1] rfl)
  · have h := h.2
    have hk : x0 = (108 : Int32) ∨ x0 = (109 : Int32) ∨ x0 = (110 : Int32) ∨ x0 = (111 : Int32) ∨ x0 = (112 : Int32) ∨ x0 = (113 : Int32) ∨ x0 = (114 : Int32) ∨ x0 = (115 : Int32) ∨ x0 = (116 : Int32) ∨ x0 = (117 : Int32) ∨ x0 = (118 : Int32) ∨ x0 = (119 : Int32) ∨ x0 = (120 : Int32) ∨ x0 = (121 : Int32) := by
      have hr : Int32.toInt x0 = 108 ∨ Int32.toInt x0 = 109 ∨ Int32.toInt x0 = 110 ∨ Int32.toInt x0 = 111 ∨ Int32.toInt x0 = 112 ∨ Int32.toInt x0 = 113 ∨ Int32.toInt x0 = 114 ∨ Int32.toInt x0 = 115 ∨ Int32.toInt x0 = 116 ∨ Int32.toInt x0 = 117 ∨ Int32.toInt x0 = 118 ∨ Int32.toInt x0 = 119 ∨ Int32.toInt x0 = 120 ∨ Int32.toInt x0 = 121 := by omega
      rcases hr with hr | hr | hr | hr | hr | hr | hr | hr | hr | hr | hr | hr | hr | hr <;> simp only [← Int32.toInt_inj] <;> simp [hr]
    rcases hk with hk | hk | hk | hk | hk | hk | hk | hk | hk | hk | hk | hk | hk | hk
    · have h := h.1 hk
      refine lv_tableIn (tgt := 118) C.1 C.2.1 dX4_isOfSort_1 (by rw [hk]; decide) (by rw [hk]; decide) (by rw [hk]; rfl) (by decide) ?_
      refine lv_iload_n C.1 C.2.1 dX4_isOfSort_118 rfl (lv_at hl 1 rfl) ?_
      refine lv_if_eq (tgt := 132) C.1 C.2.1 dX4_isOfSort_119 (by decide) (fun c6 => ?_) (fun c6 => ?_)
      · have h := h.1 c6
        exact B132  S H locs ls h hP hD hS (lv_sub hl [] rfl)
      · have h := h.2 c6
        refine lv_iload_n C.1 C.2.1 dX4_isOfSort_122 rfl (lv_at hl 1 rfl) ?_
        refine lv_iconst (v := 1) C.1 C.2.1 dX4_isOfSort_123 (by decide) ?_
        refine lv_icmp_eq (tgt := 132) C.1 C.2.1 dX4_isOfSort_124 (by decide) (fun c5 => ?_) (fun c5 => ?_)
        · have h := h.1 c5
          exact B132  S H locs ls h hP hD hS (lv_sub hl [] rfl)
        · have h := h.2 c5
          refine lv_iload_n C.1 C.2.1 dX4_isOfSort_127 rfl (lv_at hl 1 rfl) ?_
          refine lv_iconst (v := 3) C.1 C.2.1 dX4_isOfSort_128 (by decide) ?_
          refine lv_icmp_ne (tgt := 136) C.1 C.2.1 dX4_isOfSort_129 (by decide) (fun c4 => ?_) (fun c4 => ?_)
          · have h := h.1 c4
            refine lv_iconst (v := 0) C.1 C.2.1 dX4_isOfSort_136 (by decide) ?_
            exact B137 (0 : Int32) S H locs ls h hP hD hS (lv_sub hl [] rfl)
          · have h := h.2 c4
            exact B132  S H locs ls h hP hD hS (lv_sub hl [] rfl)
    · have h := h.2.1 hk
      refine lv_tableIn (tgt := 169) C.1 C.2.1 dX4_isOfSort_1 (by rw [hk]; decide) (by rw [hk]; decide) (by rw [hk]; rfl) (by decide) ?_
      exact B169 x1 S H locs ls h hP hD hS (lv_sub hl [1] rfl)
    · have h := h.2.2.1 hk
      refine lv_tableIn (tgt := 153) C.1 C.2.1 dX4_isOfSort_1 (by rw [hk]; decide) (by rw [hk]; decide) (by rw [hk]; rfl) (by decide) ?_
      refine lv_iload_n C.1 C.2.1 dX4_isOfSort_153 rfl (lv_at hl 1 rfl) ?_
      refine lv_iconst (v := 1) C.1 C.2.1 dX4_isOfSort_154 (by decide) ?_
      refine lv_icmp_lt (tgt := 167) C.1 C.2.1 dX4_isOfSort_155 (by decide) (fun c8 => ?_) (fun c8 => ?_)
      · have h := h.1 c8
        exact B167  S H locs ls h hP hD hS (lv_sub hl [] rfl)
      · have h := h.2 c8
        refine lv_iload_n C.1 C.2.1 dX4_isOfSort_158 rfl (lv_at hl 1 rfl) ?_
        refine lv_iconst (v := 5) C.1 C.2.1 dX4_isOfSort_159 (by decide) ?_
        refine lv_icmp_gt (tgt := 167) C.1 C.2.1 dX4_isOfSort_160 (by decide) (fun c7 => ?_) (fun c7 => ?_)
        · have h := h.1 c7
          exact B167  S H locs ls h hP hD hS (lv_sub hl [] rfl)
        · have h := h.2 c7
          refine lv_iconst (v := 1) C.1 C.2.1 dX4_isOfSort_163 (by decide) ?_
          refine lv_goto (tgt := 168) C.1 C.2.1 dX4_isOfSort_164 (by decide) ?_
          exact B168 (1 : Int32) S H locs ls h hP hD hS (lv_sub hl [] rfl)
    · have h := h.2.2.2.1 hk
      refine lv_tableIn (tgt := 169) C.1 C.2.1 dX4_isOfSort_1 (by rw [hk]; decide) (by rw [hk]; decide) (by rw [hk]; rfl) (by decide) ?_
      exact B169 x1 S H locs ls h hP hD hS (lv_sub hl [1] rfl)
    · have h := h.2.2.2.2.1 hk
      refine lv_tableIn (tgt := 169) C.1 C.2.1 dX4_isOfSort_1 (by rw [hk]; decide) (by rw [hk]; decide) (by rw [hk]; rfl) (by decide) ?_
      exact B169 x1 S H locs ls h hP hD hS (lv_sub hl [1] rfl)
    · have h := h.2.2.2.2.2.1 hk
      refine lv_tableIn (tgt := 169) C.1 C.2.1 dX4_isOfSort_1 (by rw [hk]; decide) (by rw [hk]; decide) (by rw [hk]; rfl) (by decide) ?_
      exact B169 x1 S H locs ls h hP hD hS (lv_sub hl [1] rfl)
    · have h := h.2.2.2.2.2.2.1 hk
      refine lv_tableIn (tgt := 72) C.1 C.2.1 dX4_isOfSort_1 (by rw [hk]; decide) (by rw [hk]; decide) (by rw [hk]; rfl) (by decide) ?_
      refine lv_iload_n C.1 C.2.1 dX4_isOfSort_72 rfl (lv_at hl 1 rfl) ?_
      refine lv_if_lt (tgt := 85) C.1 C.2.1 dX4_isOfSort_73 (by decide) (fun c10 => ?_) (fun c10 => ?_)
      · have h := h.1 c10
        exact B85  S H locs ls h hP hD hS (lv_sub hl [] rfl)
      · have h := h.2 c10
        refine lv_iload_n C.1 C.2.1 dX4_isOfSort_76 rfl (lv_at hl 1 rfl) ?_
        refine lv_iconst (v := 4) C.1 C.2.1 dX4_isOfSort_77 (by decide) ?_
        refine lv_icmp_ge (tgt := 85) C.1 C.2.1 dX4_isOfSort_78 (by decide) (fun c9 => ?_) (fun c9 => ?_)
        · have h := h.1 c9
          exact B85  S H locs ls h hP hD hS (lv_sub hl [] rfl)
        · have h := h.2 c9
          refine lv_iconst (v := 1) C.1 C.2.1 dX4_isOfSort_81 (by decide) ?_
          refine lv_goto (tgt := 86) C.1 C.2.1 dX4_isOfSort_82 (by decide) ?_
          exact B86 (1 : Int32) S H locs ls h hP hD hS (lv_sub hl [] rfl)
    · have h := h.2.2.2.2.2.2.2.1 hk
      refine lv_tableIn (tgt := 138) C.1 C.2.1 dX4_isOfSort_1 (by rw [hk]; decide) (by rw [hk]; decide) (by rw [hk]; rfl) (by decide) ?_
      refine lv_iload_n C.1 C.2.1 dX4_isOfSort_138 rfl (lv_at hl 1 rfl) ?_
      refine lv_if_eq (tgt := 147) C.1 C.2.1 dX4_isOfSort_139 (by decide) (fun c12 => ?_) (fun c12 => ?_)
      · have h := h.1 c12
        exact B147  S H locs ls h hP hD hS (lv_sub hl [] rfl)
      · have h := h.2 c12
        refine lv_iload_n C.1 C.2.1 dX4_isOfSort_142 rfl (lv_at hl 1 rfl) ?_
        refine lv_iconst (v := 2) C.1 C.2.1 dX4_isOfSort_143 (by decide) ?_
        refine lv_icmp_ne (tgt := 151) C.1 C.2.1 dX4_isOfSort_144 (by decide) (fun c11 => ?_) (fun c11 => ?_)
        · have h := h.1 c11
          refine lv_iconst (v := 0) C.1 C.2.1 dX4_isOfSort_151 (by decide) ?_
          exact B152 (0 : Int32) S H locs ls h hP hD hS (lv_sub hl [] rfl)
        · have h := h.2 c11
          exact B147  S H locs ls h hP hD hS (lv_sub hl [] rfl)
    · have h := h.2.2.2.2.2.2.2.2.1 hk
      refine lv_tableIn (tgt := 169) C.1 C.2.1 dX4_isOfSort_1 (by rw [hk]; decide) (by rw [hk]; decide) (by rw [hk]; rfl) (by decide) ?_
      exact B169 x1 S H locs ls h hP hD hS (lv_sub hl [1] rfl)
    · have h := h.2.2.2.2.2.2.2.2.2.1 hk
      refine lv_tableIn (tgt := 169) C.1 C.2.1 dX4_isOfSort_1 (by rw [hk]; decide) (by rw [hk]; decide) (by rw [hk]; rfl) (by decide) ?_
      exact B169 x1 S H locs ls h hP hD hS (lv_sub hl [1] rfl)
    · have h := h.2.2.2.2.2.2.2.2.2.2.1 hk
      refine lv_tableIn (tgt := 169) C.1 C.2.1 dX4_isOfSort_1 (by rw [hk]; decide) (by rw [hk]; decide) (by rw [hk]; rfl) (by decide) ?_
      exact B169 x1 S H locs ls h hP hD hS (lv_sub hl [1] rfl)
    · have h := h.2.2.2.2.2.2.2.2.2.2.2.1 hk
      refine lv_tableIn (tgt := 169) C.1 C.2.1 dX4_isOfSort_1 (by rw [hk]; decide) (by rw [hk]; decide) (by rw [hk]; rfl) (by decide) ?_
      exact B169 x1 S H locs ls h hP hD hS (lv_sub hl [1] rfl)
    · have h := h.2.2.2.2.2.2.2.2.2.2.2.2.1 hk
      refine lv_tableIn (tgt := 87) C.1 C.2.1 dX4_isOfSort_1 (by rw [hk]; decide) (by rw [hk]; decide) (by rw [hk]; rfl) (by decide) ?_
      refine lv_iload_n C.1 C.2.1 dX4_isOfSort_87 rfl (lv_at hl 1 rfl) ?_
      refine lv_if_lt (tgt := 100) C.1 C.2.1 dX4_isOfSort_88 (by decide) (fun c14 => ?_) (fun c14 => ?_)
      · have h := h.1 c14
        exact B100  S H locs ls h hP hD hS (lv_sub hl [] rfl)
      · have h := h.2 c14
        refine lv_iload_n C.1 C.2.1 dX4_isOfSort_91 rfl (lv_at hl 1 rfl) ?_
        refine lv_iconst (v := 3) C.1 C.2.1 dX4_isOfSort_92 (by decide) ?_
        refine lv_icmp_ge (tgt := 100) C.1 C.2.1 dX4_isOfSort_93 (by decide) (fun c13 => ?_) (fun c13 => ?_)
        · have h := h.1 c13
          exact B100  S H locs ls h hP hD hS (lv_sub hl [] rfl)
        · have h := h.2 c13
          refine lv_iconst (v := 1) C.1 C.2.1 dX4_isOfSort_96 (by decide) ?_
          refine lv_goto (tgt := 101) C.1 C.2.1 dX4_isOfSort_97 (by decide) ?_
          exact B101 (1 : Int32) S H locs ls h hP hD hS (lv_sub hl [] rfl)
    · have h := h.2.2.2.2.2.2.2.2.2.2.2.2.2 hk
      refine lv_tableIn (tgt := 102) C.1 C.2.1 dX4_isOfSort_1 (by rw [hk]; decide) (by rw [hk]; decide) (by rw [hk]; rfl) (by decide) ?_
      refine lv_iload_n C.1 C.2.1 dX4_isOfSort_102 rfl (lv_at hl 1 rfl) ?_
      refine lv_iconst (v := -1) C.1 C.2.1 dX4_isOfSort_103 (by decide) ?_
      refine lv_icmp_lt (tgt := 116) C.1 C.2.1 dX4_isOfSort_104 (by decide) (fun c16 => ?_) (fun c16 => ?_)
      · have h := h.1 c16
        exact B116  S H locs ls h hP hD hS (lv_sub hl [] rfl)
      · have h := h.2 c16
        refine lv_iload_n C.1 C.2.1 dX4_isOfSort_107 rfl (lv_at hl 1 rfl) ?_
        refine lv_iconst (v := 4) C.1 C.2.1 dX4_isOfSort_108 (by decide) ?_
        refine lv_icmp_ge (tgt := 116) C.1 C.2.1 dX4_isOfSort_109 (by decide) (fun c15 => ?_) (fun c15 => ?_)
        · have h := h.1 c15
          exact B116  S H locs ls h hP hD hS (lv_sub hl [] rfl)
        · have h := h.2 c15
          refine lv_iconst (v := 1) C.1 C.2.1 dX4_isOfSort_112 (by decide) ?_
          refine lv_goto (tgt := 117) C.1 C.2.1 dX4_isOfSort_113 (by decide) ?_
          exact B117 (1 : Int32) S H locs ls h hP hD hS (lv_sub hl [] rfl)
theorem mX4_isOfSort (l : Launch) (g : va_G) (tys : List (ClassId × FieldType)) (S : St) (sz : Nat) (x0 : Int32) (x1 : Int32) (Q : Int32 → Prop) (h : pX4_isOfSort x0 x1 Q) : Met l yX4_isOfSort wsX4_isOfSort ({ frames := 0, cells := 0, slots := 0, locals := 0 }) (gPc g (tys) (w0 S) sz [.int x0, .int x1]) (va_Qi (fun r _ => Q r) (gB g (tys) (w0) (va_A (w0 S) sz)) (va_A (w0 S) sz)) 0 0 (va_A (w0 S) sz) :=
  g_metZ (w := w0) (Q := fun r _ => Q r) (cc := cX4_isOfSort) (maxL := 2) (by decide) rfl rfl (Nat.le_of_ble_eq_true rfl) rfl (fun p e s m args below meth c QQ A C hK hN hA hret H locs ls hP hD hS hl => kX4_isOfSort C hK hN hA (Nat.le_refl _) (Nat.le_refl _) Q hret x0 x1 S h H locs ls hP hD hS hl)

def bX5_registersPart_5 (k5 : Int64 → Int32 → St → Prop) (Q : Int64 → St → Prop) (x1 : Int64) (x3 : Int32) (S : St) : Prop :=
  ((x3 < 0 → Q x1 S) ∧ (¬ (x3 < 0) → (vp_in x3 16 ∧ (∀ y2 : Int64, y2 = ((x1 * (4 : Int64)) + (Int32.toInt64 (S.1 24 (Int32.toNatClampNeg x3)))) → (∀ y3 : Int32, y3 = x3 + (-1 : Int32) → k5 y2 y3 S)))))
def pX5_registersPart (S : St) (Q : Int64 → St → Prop) : Prop :=
  (∃ N : Nat, itr (F := Int64 → Int32 → St → Prop) (fun _ _ _ => False) (fun k5 x1 x3 S => bX5_registersPart_5 k5 Q x1 x3 S) N (0 : Int64) (15 : Int32) S)
set_option maxHeartbeats 40000000 in
set_option maxRecDepth 100000 in
theorem kX5_registersPart {p : Program} {l : Launch} {e : Env} {R : Room} {s : State} {m : MethodId} {args : Array Value} {below : List Frame} {meth : Method} {c : Code} {QQ : State → Prop} {g : va_G} {ct : Nat → ClassId} {ad : Nat → Nat} {n ro : Nat} {A : Nat → Prop} (C : CallFix p m c cX5_registersPart 4 s args wsX5_registersPart RX5) (hK : va_K g vwCl (xT ct) s) (hN : xN s) (hA : ∀ q, s.heap.size ≤ q → A q) (hRf : 0 ≤ R.frames) (hRl : 0 ≤ R.locals) (Q : Int64 → St → Prop) (hret : ∀ (pc : Nat) (r : Int64) (S : St) (H : Heap) (locs : List Loc) (ls : Array Slot), decode cX5_registersPart pc = .ok (.lreturn, 1) → Q r S → va_P g vwCl (wX ct ad n ro S) H → va_D A (wX ct ad n ro S) → va_S A s.heap H locs → W p l e R s m args below meth c H locs 0 0 QQ (F0 m pc ls [.long r])) (S : St) (h : pX5_registersPart S Q) (H : Heap) (locs : List Loc) (ls : Array Slot) (hP : va_P g vwCl (wX ct ad n ro S) H) (hD : va_D A (wX ct ad n ro S)) (hS : va_S A s.heap H locs) (hl : lv_has ls 4 [(0, .ref (ad 8))]) : W p l e R s m args below meth c H locs 0 0 QQ (F0 m 0 ls []) := by
  have hinX5 : ∀ w ∈ wsX50, w ∈ wsX5_registersPart := by decide +kernel
  have B5 : ∀ (k5 : Int64 → Int32 → St → Prop) (hk5 : ∀ (x1 : Int64) (x3 : Int32) (S : St) (H : Heap) (locs : List Loc) (ls : Array Slot), k5 x1 x3 S → va_P g vwCl (wX ct ad n ro S) H → va_D A (wX ct ad n ro S) → va_S A s.heap H locs → lv_has ls 4 [(0, .ref (ad 8)), (1, .long x1), (3, .int x3)] → W p l e R s m args below meth c H locs 0 0 QQ (F0 m 5 ls [])) (x1 : Int64) (x3 : Int32) (S : St) (H : Heap) (locs : List Loc) (ls : Array Slot), bX5_registersPart_5 k5 Q x1 x3 S → va_P g vwCl (wX ct ad n ro S) H → va_D A (wX ct ad n ro S) → va_S A s.heap H locs → lv_has ls 4 [(0, .ref (ad 8)), (1, .long x1), (3, .int x3)] → W p l e R s m args below meth c H locs 0 0 QQ (F0 m 5 ls []) := by
    intro k5 hk5 x1 x3 S H locs ls h hP hD hS hl
    refine lv_iload_n C.1 C.2.1 dX5_registersPart_5 rfl (lv_at hl 2 rfl) ?_
    refine lv_if_lt (tgt := 29) C.1 C.2.1 dX5_registersPart_6 (by decide) (fun c4 => ?_) (fun c4 => ?_)
    · have h := h.1 c4
      refine lv_lload_n C.1 C.2.1 dX5_registersPart_29 rfl (lv_at hl 1 rfl) ?_
      exact hret _ _ _ _ _ _ dX5_registersPart_30 h hP hD hS
    · have h := h.2 c4
      refine lv_lload_n C.1 C.2.1 dX5_registersPart_9 rfl (lv_at hl 1 rfl) ?_
      refine lv_ldc2 (v := 4) C.1 C.2.1 C.2.2.2.1 (C.2.2.2.2 (.constantLong RX5 37 (4)) (by decide +kernel)) dX5_registersPart_10 ?_
      refine lv_lmul C.1 C.2.1 dX5_registersPart_13 ?_
      refine lv_aload_n C.1 C.2.1 dX5_registersPart_14 rfl (lv_at hl 0 rfl) ?_
      refine xg5_values C hinX5 hK hP (by decide +kernel) dX5_registersPart_15 ?_
      refine lv_iload_n C.1 C.2.1 dX5_registersPart_18 rfl (lv_at hl 2 rfl) ?_
      obtain ⟨g1, h⟩ := h
      refine xa_5_values C hK hP g1  rfl dX5_registersPart_19 ?_
      refine lv_i2l C.1 C.2.1 dX5_registersPart_20 rfl ?_
      refine lv_ladd C.1 C.2.1 dX5_registersPart_21 ?_
      refine lv_topl (fun y2 ey2 => ?_)
      have h := h y2 ey2
      refine lv_lstore_n (lv' := [(1, .long y2), (0, .ref (ad 8)), (3, .int x3)]) C.1 C.2.1 dX5_registersPart_22 rfl hl (by decide) rfl (fun ls hl => ?_)
      obtain ⟨y3, ey3⟩ : ∃ z : Int32, z = x3 + (-1 : Int32) := ⟨_, rfl⟩
      have h := h y3 ey3
      refine lv_iinc (v := y3) (lv' := [(3, .int y3), (1, .long y2), (0, .ref (ad 8))]) C.1 C.2.1 dX5_registersPart_23 hl (k := 2) rfl (by rw [ey3]; rfl) (by decide) rfl (fun ls hl => ?_)
      refine lv_goto (tgt := 5) C.1 C.2.1 dX5_registersPart_26 (by decide) ?_
      exact hk5 y2 y3 S H locs ls h hP hD hS (lv_sub hl [2, 1, 0] rfl)
  have L5 : ∀ (N : Nat) (x1 : Int64) (x3 : Int32) (S : St) (H : Heap) (locs : List Loc) (ls : Array Slot), itr (F := Int64 → Int32 → St → Prop) (fun _ _ _ => False) (fun k5 x1 x3 S => bX5_registersPart_5 k5 Q x1 x3 S) N x1 x3 S → va_P g vwCl (wX ct ad n ro S) H → va_D A (wX ct ad n ro S) → va_S A s.heap H locs → lv_has ls 4 [(0, .ref (ad 8)), (1, .long x1), (3, .int x3)] → W p l e R s m args below meth c H locs 0 0 QQ (F0 m 5 ls []) := by
    intro N
    induction N with
    | zero => intro x1 x3 S H locs ls h hP hD hS hl; exact False.elim h
    | succ N ih => intro x1 x3 S H locs ls h hP hD hS hl; exact B5  (itr (F := Int64 → Int32 → St → Prop) (fun _ _ _ => False) (fun k5 x1 x3 S => bX5_registersPart_5 k5 Q x1 x3 S) N) ih x1 x3 S H locs ls h  hP hD hS hl
  refine lv_lconst (v := 0) C.1 C.2.1 dX5_registersPart_0 (by decide) ?_
  refine lv_lstore_n (lv' := [(1, .long (0 : Int64)), (0, .ref (ad 8))]) C.1 C.2.1 dX5_registersPart_1 rfl hl (by decide) rfl (fun ls hl => ?_)
  refine lv_bipush (v := 15) C.1 C.2.1 dX5_registersPart_2 (by decide) ?_
  refine lv_istore_n (lv' := [(3, .int (15 : Int32)), (1, .long (0 : Int64)), (0, .ref (ad 8))]) C.1 C.2.1 dX5_registersPart_4 rfl hl (by decide) rfl (fun ls hl => ?_)
  obtain ⟨N, h⟩ := h
  exact L5 N (0 : Int64) (15 : Int32) S H locs ls h hP hD hS (lv_sub hl [2, 1, 0] rfl)
theorem mX5_registersPart (l : Launch) (g : va_G) (ct : Nat → ClassId) (ad : Nat → Nat) (n ro sz : Nat) (S : St) (Q : Int64 → St → Prop) (h : pX5_registersPart S Q) : Met l yX5_registersPart wsX5_registersPart ({ frames := 0, cells := 0, slots := 0, locals := 0 }) (gPc g (xT ct) (wX ct ad n ro S) sz [.ref (ad 8)]) (va_Ql Q (gB g (xT ct) (wX ct ad n ro) (va_A (wX ct ad n ro S) sz)) (va_A (wX ct ad n ro S) sz)) 0 0 (va_A (wX ct ad n ro S) sz) :=
  g_metJ (w := wX ct ad n ro) (cc := cX5_registersPart) (maxL := 4) (by decide) rfl rfl (Nat.le_of_ble_eq_true rfl) rfl (fun p e s m args below meth c QQ A C hK hN hA hret H locs ls hP hD hS hl => kX5_registersPart C hK hN hA (Nat.le_refl _) (Nat.le_refl _) Q hret  S h H locs ls hP hD hS hl)

def bX5_locationsPart_39 (k5 : Int64 → Int32 → St → Prop) (Q : Int64 → St → Prop) (x4 : Int32) (t0 : Int64) (t1 : Int32) (S : St) : Prop :=
  (∀ y1 : Int64, y1 = (t0 + (Int32.toInt64 t1)) → (∀ y2 : Int32, y2 = x4 + (-1 : Int32) → k5 y1 y2 S))
def bX5_locationsPart_5 (k5 : Int64 → Int32 → St → Prop) (Q : Int64 → St → Prop) (x2 : Int64) (x4 : Int32) (S : St) : Prop :=
  ((x4 < 0 → Q (x2 <<< (Int32.toInt64 (32 : Int32) &&& 63)) S) ∧ (¬ (x4 < 0) → (vp_in x4 3 ∧ ((¬ (S.1 28 (Int32.toNatClampNeg x4)) = (-1 : Int32) → (vp_in x4 3 ∧ (vp_in (S.1 28 (Int32.toNatClampNeg x4)) 6 ∧ ∀ i5 : Nat, i5 = Int32.toNatClampNeg (S.1 28 (Int32.toNatClampNeg x4)) → bX5_locationsPart_39 k5 Q x4 (x2 * (4 : Int64)) (S.1 37 i5) S))) ∧ ((S.1 28 (Int32.toNatClampNeg x4)) = (-1 : Int32) → bX5_locationsPart_39 k5 Q x4 (x2 * (4 : Int64)) (0 : Int32) S)))))
def pX5_locationsPart (S : St) (Q : Int64 → St → Prop) : Prop :=
  (∃ N : Nat, itr (F := Int64 → Int32 → St → Prop) (fun _ _ _ => False) (fun k5 x2 x4 S => bX5_locationsPart_5 k5 Q x2 x4 S) N (0 : Int64) (2 : Int32) S)
set_option maxHeartbeats 40000000 in
set_option maxRecDepth 100000 in
theorem kX5_locationsPart {p : Program} {l : Launch} {e : Env} {R : Room} {s : State} {m : MethodId} {args : Array Value} {below : List Frame} {meth : Method} {c : Code} {QQ : State → Prop} {g : va_G} {ct : Nat → ClassId} {ad : Nat → Nat} {n ro : Nat} {A : Nat → Prop} (C : CallFix p m c cX5_locationsPart 5 s args wsX5_locationsPart RX5) (hK : va_K g vwCl (xT ct) s) (hN : xN s) (hA : ∀ q, s.heap.size ≤ q → A q) (hRf : 0 ≤ R.frames) (hRl : 0 ≤ R.locals) (Q : Int64 → St → Prop) (hret : ∀ (pc : Nat) (r : Int64) (S : St) (H : Heap) (locs : List Loc) (ls : Array Slot), decode cX5_locationsPart pc = .ok (.lreturn, 1) → Q r S → va_P g vwCl (wX ct ad n ro S) H → va_D A (wX ct ad n ro S) → va_S A s.heap H locs → W p l e R s m args below meth c H locs 0 0 QQ (F0 m pc ls [.long r])) (S : St) (h : pX5_locationsPart S Q) (H : Heap) (locs : List Loc) (ls : Array Slot) (hP : va_P g vwCl (wX ct ad n ro S) H) (hD : va_D A (wX ct ad n ro S)) (hS : va_S A s.heap H locs) (hl : lv_has ls 5 [(0, .ref (ad 8)), (1, .ref (ad 15))]) : W p l e R s m args below meth c H locs 0 0 QQ (F0 m 0 ls []) := by
  have hinX0 : ∀ w ∈ wsX00, w ∈ wsX5_locationsPart := by decide +kernel
  have hinX5 : ∀ w ∈ wsX50, w ∈ wsX5_locationsPart := by decide +kernel
  have B39 : ∀ (k5 : Int64 → Int32 → St → Prop) (hk5 : ∀ (x2 : Int64) (x4 : Int32) (S : St) (H : Heap) (locs : List Loc) (ls : Array Slot), k5 x2 x4 S → va_P g vwCl (wX ct ad n ro S) H → va_D A (wX ct ad n ro S) → va_S A s.heap H locs → lv_has ls 5 [(0, .ref (ad 8)), (1, .ref (ad 15)), (2, .long x2), (4, .int x4)] → W p l e R s m args below meth c H locs 0 0 QQ (F0 m 5 ls [])) (x4 : Int32) (t0 : Int64) (t1 : Int32) (S : St) (H : Heap) (locs : List Loc) (ls : Array Slot), bX5_locationsPart_39 k5 Q x4 t0 t1 S → va_P g vwCl (wX ct ad n ro S) H → va_D A (wX ct ad n ro S) → va_S A s.heap H locs → lv_has ls 5 [(0, .ref (ad 8)), (1, .ref (ad 15)), (4, .int x4)] → W p l e R s m args below meth c H locs 0 0 QQ (F0 m 39 ls [.int t1, .long t0]) := by
    intro k5 hk5 x4 t0 t1 S H locs ls h hP hD hS hl
    refine lv_i2l C.1 C.2.1 dX5_locationsPart_39 rfl ?_
    refine lv_ladd C.1 C.2.1 dX5_locationsPart_40 ?_
    refine lv_topl (fun y1 ey1 => ?_)
    have h := h y1 ey1
    refine lv_lstore_n (lv' := [(2, .long y1), (0, .ref (ad 8)), (1, .ref (ad 15)), (4, .int x4)]) C.1 C.2.1 dX5_locationsPart_41 rfl hl (by decide) rfl (fun ls hl => ?_)
    obtain ⟨y2, ey2⟩ : ∃ z : Int32, z = x4 + (-1 : Int32) := ⟨_, rfl⟩
    have h := h y2 ey2
    refine lv_iinc (v := y2) (lv' := [(4, .int y2), (2, .long y1), (0, .ref (ad 8)), (1, .ref (ad 15))]) C.1 C.2.1 dX5_locationsPart_42 hl (k := 3) rfl (by rw [ey2]; rfl) (by decide) rfl (fun ls hl => ?_)
    refine lv_goto (tgt := 5) C.1 C.2.1 dX5_locationsPart_45 (by decide) ?_
    exact hk5 y1 y2 S H locs ls h hP hD hS (lv_sub hl [2, 3, 1, 0] rfl)
  have B5 : ∀ (k5 : Int64 → Int32 → St → Prop) (hk5 : ∀ (x2 : Int64) (x4 : Int32) (S : St) (H : Heap) (locs : List Loc) (ls : Array Slot), k5 x2 x4 S → va_P g vwCl (wX ct ad n ro S) H → va_D A (wX ct ad n ro S) → va_S A s.heap H locs → lv_has ls 5 [(0, .ref (ad 8)), (1, .ref (ad 15)), (2, .long x2), (4, .int x4)] → W p l e R s m args below meth c H locs 0 0 QQ (F0 m 5 ls [])) (x2 : Int64) (x4 : Int32) (S : St) (H : Heap) (locs : List Loc) (ls : Array Slot), bX5_locationsPart_5 k5 Q x2 x4 S → va_P g vwCl (wX ct ad n ro S) H → va_D A (wX ct ad n ro S) → va_S A s.heap H locs → lv_has ls 5 [(0, .ref (ad 8)), (1, .ref (ad 15)), (2, .long x2), (4, .int x4)] → W p l e R s m args below meth c H locs 0 0 QQ (F0 m 5 ls []) := by
    intro k5 hk5 x2 x4 S H locs ls h hP hD hS hl
    refine lv_iload C.1 C.2.1 dX5_locationsPart_5 (lv_at hl 3 rfl) ?_
    refine lv_if_lt (tgt := 48) C.1 C.2.1 dX5_locationsPart_7 (by decide) (fun c8 => ?_) (fun c8 => ?_)
    · have h := h.1 c8
      refine lv_lload_n C.1 C.2.1 dX5_locationsPart_48 rfl (lv_at hl 2 rfl) ?_
      refine lv_bipush (v := 32) C.1 C.2.1 dX5_locationsPart_49 (by decide) ?_
      refine lv_lshl C.1 C.2.1 dX5_locationsPart_51 rfl ?_
      exact hret _ _ _ _ _ _ dX5_locationsPart_52 h hP hD hS
    · have h := h.2 c8
      refine lv_lload_n C.1 C.2.1 dX5_locationsPart_10 rfl (lv_at hl 2 rfl) ?_
      refine lv_ldc2 (v := 4) C.1 C.2.1 C.2.2.2.1 (C.2.2.2.2 (.constantLong RX5 37 (4)) (by decide +kernel)) dX5_locationsPart_11 ?_
      refine lv_lmul C.1 C.2.1 dX5_locationsPart_14 ?_
      refine lv_aload_n C.1 C.2.1 dX5_locationsPart_15 rfl (lv_at hl 1 rfl) ?_
      refine lv_iload C.1 C.2.1 dX5_locationsPart_16 (lv_at hl 3 rfl) ?_
      obtain ⟨g3, h⟩ := h
      refine xa_2_latest C hK hP g3  rfl dX5_locationsPart_18 ?_
      refine lv_iconst (v := -1) C.1 C.2.1 dX5_locationsPart_19 (by decide) ?_
      refine lv_icmp_ne (tgt := 27) C.1 C.2.1 dX5_locationsPart_20 (by decide) (fun c7 => ?_) (fun c7 => ?_)
      · have h := h.1 c7
        refine lv_aload_n C.1 C.2.1 dX5_locationsPart_27 rfl (lv_at hl 0 rfl) ?_
        refine xg5_accesses C hinX5 hK hP (by decide +kernel) dX5_locationsPart_28 ?_
        refine lv_aload_n C.1 C.2.1 dX5_locationsPart_31 rfl (lv_at hl 1 rfl) ?_
        refine lv_iload C.1 C.2.1 dX5_locationsPart_32 (lv_at hl 3 rfl) ?_
        obtain ⟨g4, h⟩ := h
        refine xa_2_latest C hK hP g4  rfl dX5_locationsPart_34 ?_
        obtain ⟨g6, h⟩ := h
        obtain ⟨i5, ei5⟩ : ∃ z : Nat, z = Int32.toNatClampNeg (S.1 28 (Int32.toNatClampNeg x4)) := ⟨_, rfl⟩
        have h := h i5 ei5
        have hi5 : i5 < 6 := by rw [ei5]; exact lt_in g6
        refine xq_acc C hK hP g6 ei5 dX5_locationsPart_35 ?_
        refine xg0_put hi5 C hinX0 hK hP (hN _ (by decide +kernel)) dX5_locationsPart_36 ?_
        exact B39 k5 hk5 x4 (x2 * (4 : Int64)) (S.1 37 i5) S H locs ls h hP hD hS (lv_sub hl [0, 1, 3] rfl)
      · have h := h.2 c7
        refine lv_iconst (v := 0) C.1 C.2.1 dX5_locationsPart_23 (by decide) ?_
        refine lv_goto (tgt := 39) C.1 C.2.1 dX5_locationsPart_24 (by decide) ?_
        exact B39 k5 hk5 x4 (x2 * (4 : Int64)) (0 : Int32) S H locs ls h hP hD hS (lv_sub hl [0, 1, 3] rfl)
  have L5 : ∀ (N : Nat) (x2 : Int64) (x4 : Int32) (S : St) (H : Heap) (locs : List Loc) (ls : Array Slot), itr (F := Int64 → Int32 → St → Prop) (fun _ _ _ => False) (fun k5 x2 x4 S => bX5_locationsPart_5 k5 Q x2 x4 S) N x2 x4 S → va_P g vwCl (wX ct ad n ro S) H → va_D A (wX ct ad n ro S) → va_S A s.heap H locs → lv_has ls 5 [(0, .ref (ad 8)), (1, .ref (ad 15)), (2, .long x2), (4, .int x4)] → W p l e R s m args below meth c H locs 0 0 QQ (F0 m 5 ls []) := by
    intro N
    induction N with
    | zero => intro x2 x4 S H locs ls h hP hD hS hl; exact False.elim h
    | succ N ih => intro x2 x4 S H locs ls h hP hD hS hl; exact B5  (itr (F := Int64 → Int32 → St → Prop) (fun _ _ _ => False) (fun k5 x2 x4 S => bX5_locationsPart_5 k5 Q x2 x4 S) N) ih x2 x4 S H locs ls h  hP hD hS hl
  refine lv_lconst (v := 0) C.1 C.2.1 dX5_locationsPart_0 (by decide) ?_
  refine lv_lstore_n (lv' := [(2, .long (0 : Int64)), (0, .ref (ad 8)), (1, .ref (ad 15))]) C.1 C.2.1 dX5_locationsPart_1 rfl hl (by decide) rfl (fun ls hl => ?_)
  refine lv_iconst (v := 2) C.1 C.2.1 dX5_locationsPart_2 (by decide) ?_
  refine lv_istore (lv' := [(4, .int (2 : Int32)), (2, .long (0 : Int64)), (0, .ref (ad 8)), (1, .ref (ad 15))]) C.1 C.2.1 dX5_locationsPart_3 hl (by decide) rfl (fun ls hl => ?_)
  obtain ⟨N, h⟩ := h
  exact L5 N (0 : Int64) (2 : Int32) S H locs ls h hP hD hS (lv_sub hl [2, 3, 1, 0] rfl)
theorem mX5_locationsPart (l : Launch) (g : va_G) (ct : Nat → ClassId) (ad : Nat → Nat) (n ro sz : Nat) (S : St) (Q : Int64 → St → Prop) (h : pX5_locationsPart S Q) : Met l yX5_locationsPart wsX5_locationsPart ({ frames := 0, cells := 0, slots := 0, locals := 0 }) (gPc g (xT ct) (wX ct ad n ro S) sz [.ref (ad 8), .ref (ad 15)]) (va_Ql Q (gB g (xT ct) (wX ct ad n ro) (va_A (wX ct ad n ro S) sz)) (va_A (wX ct ad n ro S) sz)) 0 0 (va_A (wX ct ad n ro S) sz) :=
  g_metJ (w := wX ct ad n ro) (cc := cX5_locationsPart) (maxL := 5) (by decide) rfl rfl (Nat.le_of_ble_eq_true rfl) rfl (fun p e s m args below meth c QQ A C hK hN hA hret H locs ls hP hD hS hl => kX5_locationsPart C hK hN hA (Nat.le_refl _) (Nat.le_refl _) Q hret  S h H locs ls hP hD hS hl)

def pX5_carriedBy (x1 : Int32) (S : St) (Q : Int32 → St → Prop) : Prop :=
  (vp_in (((S.1 9 0) * (4 : Int32)) + x1) 16 ∧ Q (S.1 25 (Int32.toNatClampNeg (((S.1 9 0) * (4 : Int32)) + x1))) S)
set_option maxHeartbeats 40000000 in
set_option maxRecDepth 100000 in
theorem kX5_carriedBy {p : Program} {l : Launch} {e : Env} {R : Room} {s : State} {m : MethodId} {args : Array Value} {below : List Frame} {meth : Method} {c : Code} {QQ : State → Prop} {g : va_G} {ct : Nat → ClassId} {ad : Nat → Nat} {n ro : Nat} {A : Nat → Prop} (C : CallFix p m c cX5_carriedBy 2 s args wsX5_carriedBy RX5) (hK : va_K g vwCl (xT ct) s) (hN : xN s) (hA : ∀ q, s.heap.size ≤ q → A q) (hRf : 0 ≤ R.frames) (hRl : 0 ≤ R.locals) (Q : Int32 → St → Prop) (hret : ∀ (pc : Nat) (r : Int32) (S : St) (H : Heap) (locs : List Loc) (ls : Array Slot), decode cX5_carriedBy pc = .ok (.ireturn, 1) → Q r S → va_P g vwCl (wX ct ad n ro S) H → va_D A (wX ct ad n ro S) → va_S A s.heap H locs → W p l e R s m args below meth c H locs 0 0 QQ (F0 m pc ls [.int r])) (x1 : Int32) (S : St) (h : pX5_carriedBy x1 S Q) (H : Heap) (locs : List Loc) (ls : Array Slot) (hP : va_P g vwCl (wX ct ad n ro S) H) (hD : va_D A (wX ct ad n ro S)) (hS : va_S A s.heap H locs) (hl : lv_has ls 2 [(0, .ref (ad 8)), (1, .int x1)]) : W p l e R s m args below meth c H locs 0 0 QQ (F0 m 0 ls []) := by
  have hinX5 : ∀ w ∈ wsX50, w ∈ wsX5_carriedBy := by decide +kernel
  refine lv_aload_n C.1 C.2.1 dX5_carriedBy_0 rfl (lv_at hl 0 rfl) ?_
  refine xg5_carried C hinX5 hK hP (by decide +kernel) dX5_carriedBy_1 ?_
  refine lv_aload_n C.1 C.2.1 dX5_carriedBy_4 rfl (lv_at hl 0 rfl) ?_
  refine xg5_hart C hinX5 hK hP (by decide +kernel) dX5_carriedBy_5 ?_
  refine lv_iconst (v := 4) C.1 C.2.1 dX5_carriedBy_8 (by decide) ?_
  refine lv_imul C.1 C.2.1 dX5_carriedBy_9 ?_
  refine lv_iload_n C.1 C.2.1 dX5_carriedBy_10 rfl (lv_at hl 1 rfl) ?_
  refine lv_iadd C.1 C.2.1 dX5_carriedBy_11 ?_
  obtain ⟨g1, h⟩ := h
  refine xa_5_carried C hK hP g1  rfl dX5_carriedBy_12 ?_
  exact hret _ _ _ _ _ _ dX5_carriedBy_13 h hP hD hS
theorem mX5_carriedBy (l : Launch) (g : va_G) (ct : Nat → ClassId) (ad : Nat → Nat) (n ro sz : Nat) (S : St) (x1 : Int32) (Q : Int32 → St → Prop) (h : pX5_carriedBy x1 S Q) : Met l yX5_carriedBy wsX5_carriedBy ({ frames := 0, cells := 0, slots := 0, locals := 0 }) (gPc g (xT ct) (wX ct ad n ro S) sz [.ref (ad 8), .int x1]) (va_Qi Q (gB g (xT ct) (wX ct ad n ro) (va_A (wX ct ad n ro S) sz)) (va_A (wX ct ad n ro S) sz)) 0 0 (va_A (wX ct ad n ro S) sz) :=
  g_metI (w := wX ct ad n ro) (cc := cX5_carriedBy) (maxL := 2) (by decide) rfl rfl (Nat.le_of_ble_eq_true rfl) rfl (fun p e s m args below meth c QQ A C hK hN hA hret H locs ls hP hD hS hl => kX5_carriedBy C hK hN hA (Nat.le_refl _) (Nat.le_refl _) Q hret x1 S h H locs ls hP hD hS hl)

def pX5_valueOf (x1 : Int32) (S : St) (Q : Int32 → St → Prop) : Prop :=
  (vp_in (((S.1 9 0) * (4 : Int32)) + x1) 16 ∧ Q (S.1 24 (Int32.toNatClampNeg (((S.1 9 0) * (4 : Int32)) + x1))) S)
set_option maxHeartbeats 40000000 in
set_option maxRecDepth 100000 in
theorem kX5_valueOf {p : Program} {l : Launch} {e : Env} {R : Room} {s : State} {m : MethodId} {args : Array Value} {below : List Frame} {meth : Method} {c : Code} {QQ : State → Prop} {g : va_G} {ct : Nat → ClassId} {ad : Nat → Nat} {n ro : Nat} {A : Nat → Prop} (C : CallFix p m c cX5_valueOf 2 s args wsX5_valueOf RX5) (hK : va_K g vwCl (xT ct) s) (hN : xN s) (hA : ∀ q, s.heap.size ≤ q → A q) (hRf : 0 ≤ R.frames) (hRl : 0 ≤ R.locals) (Q : Int32 → St → Prop) (hret : ∀ (pc : Nat) (r : Int32) (S : St) (H : Heap) (locs : List Loc) (ls : Array Slot), decode cX5_valueOf pc = .ok (.ireturn, 1) → Q r S → va_P g vwCl (wX ct ad n ro S) H → va_D A (wX ct ad n ro S) → va_S A s.heap H locs → W p l e R s m args below meth c H locs 0 0 QQ (F0 m pc ls [.int r])) (x1 : Int32) (S : St) (h : pX5_valueOf x1 S Q) (H : Heap) (locs : List Loc) (ls : Array Slot) (hP : va_P g vwCl (wX ct ad n ro S) H) (hD : va_D A (wX ct ad n ro S)) (hS : va_S A s.heap H locs) (hl : lv_has ls 2 [(0, .ref (ad 8)), (1, .int x1)]) : W p l e R s m args below meth c H locs 0 0 QQ (F0 m 0 ls []) := by
  have hinX5 : ∀ w ∈ wsX50, w ∈ wsX5_valueOf := by decide +kernel
  refine lv_aload_n C.1 C.2.1 dX5_valueOf_0 rfl (lv_at hl 0 rfl) ?_
  refine xg5_values C hinX5 hK hP (by decide +kernel) dX5_valueOf_1 ?_
  refine lv_aload_n C.1 C.2.1 dX5_valueOf_4 rfl (lv_at hl 0 rfl) ?_
  refine xg5_hart C hinX5 hK hP (by decide +kernel) dX5_valueOf_5 ?_
  refine lv_iconst (v := 4) C.1 C.2.1 dX5_valueOf_8 (by decide) ?_
  refine lv_imul C.1 C.2.1 dX5_valueOf_9 ?_
  refine lv_iload_n C.1 C.2.1 dX5_valueOf_10 rfl (lv_at hl 1 rfl) ?_
  refine lv_iadd C.1 C.2.1 dX5_valueOf_11 ?_
  obtain ⟨g1, h⟩ := h
  refine xa_5_values C hK hP g1  rfl dX5_valueOf_12 ?_
  exact hret _ _ _ _ _ _ dX5_valueOf_13 h hP hD hS
theorem mX5_valueOf (l : Launch) (g : va_G) (ct : Nat → ClassId) (ad : Nat → Nat) (n ro sz : Nat) (S : St) (x1 : Int32) (Q : Int32 → St → Prop) (h : pX5_valueOf x1 S Q) : Met l yX5_valueOf wsX5_valueOf ({ frames := 0, cells := 0, slots := 0, locals := 0 }) (gPc g (xT ct) (wX ct ad n ro S) sz [.ref (ad 8), .int x1]) (va_Qi Q (gB g (xT ct) (wX ct ad n ro) (va_A (wX ct ad n ro S) sz)) (va_A (wX ct ad n ro S) sz)) 0 0 (va_A (wX ct ad n ro S) sz) :=
  g_metI (w := wX ct ad n ro) (cc := cX5_valueOf) (maxL := 2) (by decide) rfl rfl (Nat.le_of_ble_eq_true rfl) rfl (fun p e s m args below meth c QQ A C hK hN hA hret H locs ls hP hD hS hl => kX5_valueOf C hK hN hA (Nat.le_refl _) (Nat.le_refl _) Q hret x1 S h H locs ls hP hD hS hl)
