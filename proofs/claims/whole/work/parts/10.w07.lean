def bX7_isFenced_159 (k2 : Int32 → Int32 → Int32 → St → Prop) (Q : Int32 → St → Prop) (x1 : Int32) (x2 : Int32) (x3 : Int32) (S : St) : Prop :=
  (∀ y1 : Int32, y1 = x3 + (1 : Int32) → k2 x1 x2 y1 S)
def bX7_isFenced_140 (k2 : Int32 → Int32 → Int32 → St → Prop) (Q : Int32 → St → Prop) (x1 : Int32) (x2 : Int32) (x3 : Int32) (x4 : Int32) (x5 : Int32) (t0 : Int32) (S : St) : Prop :=
  ((x4 = 0 → bX7_isFenced_159 k2 Q x1 x2 x3 S) ∧ (¬ (x4 = 0) → ((x5 = 0 → bX7_isFenced_159 k2 Q x1 x2 x3 S) ∧ (¬ (x5 = 0) → ((t0 = 0 → bX7_isFenced_159 k2 Q x1 x2 x3 S) ∧ (¬ (t0 = 0) → Q (1 : Int32) S))))))
def bX7_isFenced_139 (k2 : Int32 → Int32 → Int32 → St → Prop) (Q : Int32 → St → Prop) (x1 : Int32) (x2 : Int32) (x3 : Int32) (x4 : Int32) (x5 : Int32) (S : St) : Prop :=
  bX7_isFenced_140 k2 Q x1 x2 x3 x4 x5 (0 : Int32) S
def bX7_isFenced_135 (k2 : Int32 → Int32 → Int32 → St → Prop) (Q : Int32 → St → Prop) (x1 : Int32) (x2 : Int32) (x3 : Int32) (x4 : Int32) (x5 : Int32) (S : St) : Prop :=
  bX7_isFenced_140 k2 Q x1 x2 x3 x4 x5 (1 : Int32) S
def bX7_isFenced_116 (k2 : Int32 → Int32 → Int32 → St → Prop) (Q : Int32 → St → Prop) (x1 : Int32) (x2 : Int32) (x3 : Int32) (x4 : Int32) (x5 : Int32) (S : St) : Prop :=
  pX7_writes x2 S (fun (r6 : Int32) (S5 : St) => ((r6 = 0 → bX7_isFenced_139 k2 Q x1 x2 x3 x4 x5 S5) ∧ (¬ (r6 = 0) → (vp_in x3 24 ∧ ((((S5.1 28 (Int32.toNatClampNeg x3)) &&& (2 : Int32)) = 0 → bX7_isFenced_139 k2 Q x1 x2 x3 x4 x5 S5) ∧ (¬ (((S5.1 28 (Int32.toNatClampNeg x3)) &&& (2 : Int32)) = 0) → bX7_isFenced_135 k2 Q x1 x2 x3 x4 x5 S5))))))
def bX7_isFenced_95 (k2 : Int32 → Int32 → Int32 → St → Prop) (Q : Int32 → St → Prop) (x1 : Int32) (x2 : Int32) (x3 : Int32) (x4 : Int32) (t0 : Int32) (S : St) : Prop :=
  pX7_reads x2 S (fun (r11 : Int32) (S10 : St) => ((r11 = 0 → bX7_isFenced_116 k2 Q x1 x2 x3 x4 t0 S10) ∧ (¬ (r11 = 0) → (vp_in x3 24 ∧ ((¬ ((S10.1 28 (Int32.toNatClampNeg x3)) &&& (1 : Int32)) = 0 → bX7_isFenced_135 k2 Q x1 x2 x3 x4 t0 S10) ∧ (((S10.1 28 (Int32.toNatClampNeg x3)) &&& (1 : Int32)) = 0 → bX7_isFenced_116 k2 Q x1 x2 x3 x4 t0 S10))))))
def bX7_isFenced_94 (k2 : Int32 → Int32 → Int32 → St → Prop) (Q : Int32 → St → Prop) (x1 : Int32) (x2 : Int32) (x3 : Int32) (x4 : Int32) (S : St) : Prop :=
  bX7_isFenced_95 k2 Q x1 x2 x3 x4 (0 : Int32) S
def bX7_isFenced_90 (k2 : Int32 → Int32 → Int32 → St → Prop) (Q : Int32 → St → Prop) (x1 : Int32) (x2 : Int32) (x3 : Int32) (x4 : Int32) (S : St) : Prop :=
  bX7_isFenced_95 k2 Q x1 x2 x3 x4 (1 : Int32) S
def bX7_isFenced_71 (k2 : Int32 → Int32 → Int32 → St → Prop) (Q : Int32 → St → Prop) (x1 : Int32) (x2 : Int32) (x3 : Int32) (x4 : Int32) (S : St) : Prop :=
  pX7_writes x1 S (fun (r16 : Int32) (S15 : St) => ((r16 = 0 → bX7_isFenced_94 k2 Q x1 x2 x3 x4 S15) ∧ (¬ (r16 = 0) → (vp_in x3 24 ∧ ((((S15.1 27 (Int32.toNatClampNeg x3)) &&& (2 : Int32)) = 0 → bX7_isFenced_94 k2 Q x1 x2 x3 x4 S15) ∧ (¬ (((S15.1 27 (Int32.toNatClampNeg x3)) &&& (2 : Int32)) = 0) → bX7_isFenced_90 k2 Q x1 x2 x3 x4 S15))))))
def bX7_isFenced_50 (k2 : Int32 → Int32 → Int32 → St → Prop) (Q : Int32 → St → Prop) (x1 : Int32) (x2 : Int32) (x3 : Int32) (t0 : Int32) (S : St) : Prop :=
  pX7_reads x1 S (fun (r21 : Int32) (S20 : St) => ((r21 = 0 → bX7_isFenced_71 k2 Q x1 x2 x3 t0 S20) ∧ (¬ (r21 = 0) → (vp_in x3 24 ∧ ((¬ ((S20.1 27 (Int32.toNatClampNeg x3)) &&& (1 : Int32)) = 0 → bX7_isFenced_90 k2 Q x1 x2 x3 t0 S20) ∧ (((S20.1 27 (Int32.toNatClampNeg x3)) &&& (1 : Int32)) = 0 → bX7_isFenced_71 k2 Q x1 x2 x3 t0 S20))))))
def bX7_isFenced_49 (k2 : Int32 → Int32 → Int32 → St → Prop) (Q : Int32 → St → Prop) (x1 : Int32) (x2 : Int32) (x3 : Int32) (S : St) : Prop :=
  bX7_isFenced_50 k2 Q x1 x2 x3 (0 : Int32) S
def bX7_isFenced_2 (k2 : Int32 → Int32 → Int32 → St → Prop) (Q : Int32 → St → Prop) (x1 : Int32) (x2 : Int32) (x3 : Int32) (S : St) : Prop :=
  (((S.1 24 0) ≤ x3 → Q (0 : Int32) S) ∧ (¬ ((S.1 24 0) ≤ x3) → (vp_in x3 24 ∧ (vp_in x1 6 ∧ ((¬ (S.1 25 (Int32.toNatClampNeg x3)) = (S.1 14 (Int32.toNatClampNeg x1)) → bX7_isFenced_49 k2 Q x1 x2 x3 S) ∧ ((S.1 25 (Int32.toNatClampNeg x3)) = (S.1 14 (Int32.toNatClampNeg x1)) → (vp_in x3 24 ∧ (((S.1 26 (Int32.toNatClampNeg x3)) ≤ x1 → bX7_isFenced_49 k2 Q x1 x2 x3 S) ∧ (¬ ((S.1 26 (Int32.toNatClampNeg x3)) ≤ x1) → (vp_in x3 24 ∧ ((x2 < (S.1 26 (Int32.toNatClampNeg x3)) → bX7_isFenced_49 k2 Q x1 x2 x3 S) ∧ (¬ (x2 < (S.1 26 (Int32.toNatClampNeg x3))) → bX7_isFenced_50 k2 Q x1 x2 x3 (1 : Int32) S))))))))))))
def pX7_isFenced (x1 : Int32) (x2 : Int32) (S : St) (Q : Int32 → St → Prop) : Prop :=
  (∃ N : Nat, itr (F := Int32 → Int32 → Int32 → St → Prop) (fun _ _ _ _ => False) (fun k2 x1 x2 x3 S => bX7_isFenced_2 k2 Q x1 x2 x3 S) N x1 x2 (0 : Int32) S)
set_option maxHeartbeats 40000000 in
set_option maxRecDepth 100000 in
theorem kX7_isFenced {p : Program} {l : Launch} {e : Env} {R : Room} {s : State} {m : MethodId} {args : Array Value} {below : List Frame} {meth : Method} {c : Code} {QQ : State → Prop} {g : va_G} {ct : Nat → ClassId} {ad : Nat → Nat} {A : Nat → Prop} (C : CallFix p m c cX7_isFenced 7 s args wsX7_isFenced RX7) (hK : va_K g vwCl (mT ct) s) (hN : xN s) (hA : ∀ q, s.heap.size ≤ q → A q) (hRf : 2 ≤ R.frames) (hRl : 41 ≤ R.locals) (Q : Int32 → St → Prop) (hret : ∀ (pc : Nat) (r : Int32) (S : St) (H : Heap) (locs : List Loc) (ls : Array Slot), decode cX7_isFenced pc = .ok (.ireturn, 1) → zb r → Q r S → va_P g vwCl (wM ct ad S) H → va_D A (wM ct ad S) → va_S A s.heap H locs → W p l e R s m args below meth c H locs 0 0 QQ (F0 m pc ls [.int r])) (x1 : Int32) (x2 : Int32) (S : St) (h : pX7_isFenced x1 x2 S Q) (H : Heap) (locs : List Loc) (ls : Array Slot) (hP : va_P g vwCl (wM ct ad S) H) (hD : va_D A (wM ct ad S)) (hS : va_S A s.heap H locs) (hl : lv_has ls 7 [(0, .ref (ad 0)), (1, .int x1), (2, .int x2)]) : W p l e R s m args below meth c H locs 0 0 QQ (F0 m 0 ls []) := by
  have hinX7 : ∀ w ∈ wsX70, w ∈ wsX7_isFenced := by decide +kernel
  have B159 : ∀ (k2 : Int32 → Int32 → Int32 → St → Prop) (hk2 : ∀ (x1 : Int32) (x2 : Int32) (x3 : Int32) (S : St) (H : Heap) (locs : List Loc) (ls : Array Slot), k2 x1 x2 x3 S → va_P g vwCl (wM ct ad S) H → va_D A (wM ct ad S) → va_S A s.heap H locs → lv_has ls 7 [(0, .ref (ad 0)), (1, .int x1), (2, .int x2), (3, .int x3)] → W p l e R s m args below meth c H locs 0 0 QQ (F0 m 2 ls [])) (x1 : Int32) (x2 : Int32) (x3 : Int32) (S : St) (H : Heap) (locs : List Loc) (ls : Array Slot), bX7_isFenced_159 k2 Q x1 x2 x3 S → va_P g vwCl (wM ct ad S) H → va_D A (wM ct ad S) → va_S A s.heap H locs → lv_has ls 7 [(0, .ref (ad 0)), (1, .int x1), (2, .int x2), (3, .int x3)] → W p l e R s m args below meth c H locs 0 0 QQ (F0 m 159 ls []) := by
    intro k2 hk2 x1 x2 x3 S H locs ls h hP hD hS hl
    obtain ⟨y1, ey1⟩ : ∃ z : Int32, z = x3 + (1 : Int32) := ⟨_, rfl⟩
    have h := h y1 ey1
    refine lv_iinc (v := y1) (lv' := [(3, .int y1), (0, .ref (ad 0)), (1, .int x1), (2, .int x2)]) C.1 C.2.1 dX7_isFenced_159 hl (k := 3) rfl (by rw [ey1]; rfl) (by decide) rfl (fun ls hl => ?_)
    refine lv_goto (tgt := 2) C.1 C.2.1 dX7_isFenced_162 (by decide) ?_
    exact hk2 x1 x2 y1 S H locs ls h hP hD hS (lv_sub hl [1, 2, 3, 0] rfl)
  have B140 : ∀ (k2 : Int32 → Int32 → Int32 → St → Prop) (hk2 : ∀ (x1 : Int32) (x2 : Int32) (x3 : Int32) (S : St) (H : Heap) (locs : List Loc) (ls : Array Slot), k2 x1 x2 x3 S → va_P g vwCl (wM ct ad S) H → va_D A (wM ct ad S) → va_S A s.heap H locs → lv_has ls 7 [(0, .ref (ad 0)), (1, .int x1), (2, .int x2), (3, .int x3)] → W p l e R s m args below meth c H locs 0 0 QQ (F0 m 2 ls [])) (x1 : Int32) (x2 : Int32) (x3 : Int32) (x4 : Int32) (x5 : Int32) (t0 : Int32) (S : St) (H : Heap) (locs : List Loc) (ls : Array Slot), bX7_isFenced_140 k2 Q x1 x2 x3 x4 x5 t0 S → va_P g vwCl (wM ct ad S) H → va_D A (wM ct ad S) → va_S A s.heap H locs → lv_has ls 7 [(0, .ref (ad 0)), (1, .int x1), (2, .int x2), (3, .int x3), (4, .int x4), (5, .int x5)] → W p l e R s m args below meth c H locs 0 0 QQ (F0 m 140 ls [.int t0]) := by
    intro k2 hk2 x1 x2 x3 x4 x5 t0 S H locs ls h hP hD hS hl
    refine lv_istore (lv' := [(6, .int t0), (0, .ref (ad 0)), (1, .int x1), (2, .int x2), (3, .int x3), (4, .int x4), (5, .int x5)]) C.1 C.2.1 dX7_isFenced_140 hl (by decide) rfl (fun ls hl => ?_)
    refine lv_iload C.1 C.2.1 dX7_isFenced_142 (lv_at hl 5 rfl) ?_
    refine lv_if_eq (tgt := 159) C.1 C.2.1 dX7_isFenced_144 (by decide) (fun c4 => ?_) (fun c4 => ?_)
    · have h := h.1 c4
      exact B159 k2 hk2 x1 x2 x3 S H locs ls h hP hD hS (lv_sub hl [1, 2, 3, 4] rfl)
    · have h := h.2 c4
      refine lv_iload C.1 C.2.1 dX7_isFenced_147 (lv_at hl 6 rfl) ?_
      refine lv_if_eq (tgt := 159) C.1 C.2.1 dX7_isFenced_149 (by decide) (fun c3 => ?_) (fun c3 => ?_)
      · have h := h.1 c3
        exact B159 k2 hk2 x1 x2 x3 S H locs ls h hP hD hS (lv_sub hl [1, 2, 3, 4] rfl)
      · have h := h.2 c3
        refine lv_iload C.1 C.2.1 dX7_isFenced_152 (lv_at hl 0 rfl) ?_
        refine lv_if_eq (tgt := 159) C.1 C.2.1 dX7_isFenced_154 (by decide) (fun c2 => ?_) (fun c2 => ?_)
        · have h := h.1 c2
          exact B159 k2 hk2 x1 x2 x3 S H locs ls h hP hD hS (lv_sub hl [1, 2, 3, 4] rfl)
        · have h := h.2 c2
          refine lv_iconst (v := 1) C.1 C.2.1 dX7_isFenced_157 (by decide) ?_
          exact hret _ _ _ _ _ _ dX7_isFenced_158 zb_1 h hP hD hS
  have B139 : ∀ (k2 : Int32 → Int32 → Int32 → St → Prop) (hk2 : ∀ (x1 : Int32) (x2 : Int32) (x3 : Int32) (S : St) (H : Heap) (locs : List Loc) (ls : Array Slot), k2 x1 x2 x3 S → va_P g vwCl (wM ct ad S) H → va_D A (wM ct ad S) → va_S A s.heap H locs → lv_has ls 7 [(0, .ref (ad 0)), (1, .int x1), (2, .int x2), (3, .int x3)] → W p l e R s m args below meth c H locs 0 0 QQ (F0 m 2 ls [])) (x1 : Int32) (x2 : Int32) (x3 : Int32) (x4 : Int32) (x5 : Int32) (S : St) (H : Heap) (locs : List Loc) (ls : Array Slot), bX7_isFenced_139 k2 Q x1 x2 x3 x4 x5 S → va_P g vwCl (wM ct ad S) H → va_D A (wM ct ad S) → va_S A s.heap H locs → lv_has ls 7 [(0, .ref (ad 0)), (1, .int x1), (2, .int x2), (3, .int x3), (4, .int x4), (5, .int x5)] → W p l e R s m args below meth c H locs 0 0 QQ (F0 m 139 ls []) := by
    intro k2 hk2 x1 x2 x3 x4 x5 S H locs ls h hP hD hS hl
    refine lv_iconst (v := 0) C.1 C.2.1 dX7_isFenced_139 (by decide) ?_
    exact B140 k2 hk2 x1 x2 x3 x4 x5 (0 : Int32) S H locs ls h hP hD hS (lv_sub hl [0, 1, 2, 3, 4, 5] rfl)
  have B135 : ∀ (k2 : Int32 → Int32 → Int32 → St → Prop) (hk2 : ∀ (x1 : Int32) (x2 : Int32) (x3 : Int32) (S : St) (H : Heap) (locs : List Loc) (ls : Array Slot), k2 x1 x2 x3 S → va_P g vwCl (wM ct ad S) H → va_D A (wM ct ad S) → va_S A s.heap H locs → lv_has ls 7 [(0, .ref (ad 0)), (1, .int x1), (2, .int x2), (3, .int x3)] → W p l e R s m args below meth c H locs 0 0 QQ (F0 m 2 ls [])) (x1 : Int32) (x2 : Int32) (x3 : Int32) (x4 : Int32) (x5 : Int32) (S : St) (H : Heap) (locs : List Loc) (ls : Array Slot), bX7_isFenced_135 k2 Q x1 x2 x3 x4 x5 S → va_P g vwCl (wM ct ad S) H → va_D A (wM ct ad S) → va_S A s.heap H locs → lv_has ls 7 [(0, .ref (ad 0)), (1, .int x1), (2, .int x2), (3, .int x3), (4, .int x4), (5, .int x5)] → W p l e R s m args below meth c H locs 0 0 QQ (F0 m 135 ls []) := by
    intro k2 hk2 x1 x2 x3 x4 x5 S H locs ls h hP hD hS hl
    refine lv_iconst (v := 1) C.1 C.2.1 dX7_isFenced_135 (by decide) ?_
    refine lv_goto (tgt := 140) C.1 C.2.1 dX7_isFenced_136 (by decide) ?_
    exact B140 k2 hk2 x1 x2 x3 x4 x5 (1 : Int32) S H locs ls h hP hD hS (lv_sub hl [0, 1, 2, 3, 4, 5] rfl)
  have B116 : ∀ (k2 : Int32 → Int32 → Int32 → St → Prop) (hk2 : ∀ (x1 : Int32) (x2 : Int32) (x3 : Int32) (S : St) (H : Heap) (locs : List Loc) (ls : Array Slot), k2 x1 x2 x3 S → va_P g vwCl (wM ct ad S) H → va_D A (wM ct ad S) → va_S A s.heap H locs → lv_has ls 7 [(0, .ref (ad 0)), (1, .int x1), (2, .int x2), (3, .int x3)] → W p l e R s m args below meth c H locs 0 0 QQ (F0 m 2 ls [])) (x1 : Int32) (x2 : Int32) (x3 : Int32) (x4 : Int32) (x5 : Int32) (S : St) (H : Heap) (locs : List Loc) (ls : Array Slot), bX7_isFenced_116 k2 Q x1 x2 x3 x4 x5 S → va_P g vwCl (wM ct ad S) H → va_D A (wM ct ad S) → va_S A s.heap H locs → lv_has ls 7 [(0, .ref (ad 0)), (1, .int x1), (2, .int x2), (3, .int x3), (4, .int x4), (5, .int x5)] → W p l e R s m args below meth c H locs 0 0 QQ (F0 m 116 ls []) := by
    intro k2 hk2 x1 x2 x3 x4 x5 S H locs ls h hP hD hS hl
    refine lv_aload_n C.1 C.2.1 dX7_isFenced_116 rfl (lv_at hl 0 rfl) ?_
    refine lv_iload_n C.1 C.2.1 dX7_isFenced_117 rfl (lv_at hl 2 rfl) ?_
    refine g_callVi (w := wM ct ad) C hK hN hA hP hD hS (mX7_writes l g ct ad H.size S x2  _ h) (cwV 1 C.2.2.2.2 gX7_isFenced_X7_writes rfl rfl rfl (by decide +kernel) ⟨Nat.le_trans (by decide) hRf, Nat.le_trans (by decide) hRl⟩) (va_recv hK hP (ci := 7) (q0 := 0) rfl rfl) rfl hl.1 rfl (Nat.le_of_ble_eq_true rfl) dX7_isFenced_118 ⟨Nat.zero_le _, Nat.zero_le _⟩ (fun r6 S5 H locs h hP hD hS => ?_)
    refine lv_if_eq (tgt := 139) C.1 C.2.1 dX7_isFenced_121 (by decide) (fun c9 => ?_) (fun c9 => ?_)
    · have h := h.1 c9
      exact B139 k2 hk2 x1 x2 x3 x4 x5 S5 H locs ls h hP hD hS (lv_sub hl [0, 1, 2, 3, 4, 5] rfl)
    · have h := h.2 c9
      refine lv_aload_n C.1 C.2.1 dX7_isFenced_124 rfl (lv_at hl 0 rfl) ?_
      refine mg_fenceSecond C hinX7 hK hP (by decide +kernel) dX7_isFenced_125 ?_
      refine lv_iload_n C.1 C.2.1 dX7_isFenced_128 rfl (lv_at hl 3 rfl) ?_
      obtain ⟨g7, h⟩ := h
      refine ma_fenceSecond C hK hP g7  rfl dX7_isFenced_129 ?_
      refine lv_iconst (v := 2) C.1 C.2.1 dX7_isFenced_130 (by decide) ?_
      refine lv_iand C.1 C.2.1 dX7_isFenced_131 ?_
      refine lv_if_eq (tgt := 139) C.1 C.2.1 dX7_isFenced_132 (by decide) (fun c8 => ?_) (fun c8 => ?_)
      · have h := h.1 c8
        exact B139 k2 hk2 x1 x2 x3 x4 x5 S5 H locs ls h hP hD hS (lv_sub hl [0, 1, 2, 3, 4, 5] rfl)
      · have h := h.2 c8
        exact B135 k2 hk2 x1 x2 x3 x4 x5 S5 H locs ls h hP hD hS (lv_sub hl [0, 1, 2, 3, 4, 5] rfl)
  have B95 : ∀ (k2 : Int32 → Int32 → Int32 → St → Prop) (hk2 : ∀ (x1 : Int32) (x2 : Int32) (x3 : Int32) (S : St) (H : Heap) (locs : List Loc) (ls : Array Slot), k2 x1 x2 x3 S → va_P g vwCl (wM ct ad S) H → va_D A (wM ct ad S) → va_S A s.heap H locs → lv_has ls 7 [(0, .ref (ad 0)), (1, .int x1), (2, .int x2), (3, .int x3)] → W p l e R s m args below meth c H locs 0 0 QQ (F0 m 2 ls [])) (x1 : Int32) (x2 : Int32) (x3 : Int32) (x4 : Int32) (t0 : Int32) (S : St) (H : Heap) (locs : List Loc) (ls : Array Slot), bX7_isFenced_95 k2 Q x1 x2 x3 x4 t0 S → va_P g vwCl (wM ct ad S) H → va_D A (wM ct ad S) → va_S A s.heap H locs → lv_has ls 7 [(0, .ref (ad 0)), (1, .int x1), (2, .int x2), (3, .int x3), (4, .int x4)] → W p l e R s m args below meth c H locs 0 0 QQ (F0 m 95 ls [.int t0]) := by
    intro k2 hk2 x1 x2 x3 x4 t0 S H locs ls h hP hD hS hl
    refine lv_istore (lv' := [(5, .int t0), (0, .ref (ad 0)), (1, .int x1), (2, .int x2), (3, .int x3), (4, .int x4)]) C.1 C.2.1 dX7_isFenced_95 hl (by decide) rfl (fun ls hl => ?_)
    refine lv_aload_n C.1 C.2.1 dX7_isFenced_97 rfl (lv_at hl 1 rfl) ?_
    refine lv_iload_n C.1 C.2.1 dX7_isFenced_98 rfl (lv_at hl 3 rfl) ?_
    refine g_callVi (w := wM ct ad) C hK hN hA hP hD hS (mX7_reads l g ct ad H.size S x2  _ h) (cwV 1 C.2.2.2.2 gX7_isFenced_X7_reads rfl rfl rfl (by decide +kernel) ⟨Nat.le_trans (by decide) hRf, Nat.le_trans (by decide) hRl⟩) (va_recv hK hP (ci := 7) (q0 := 0) rfl rfl) rfl hl.1 rfl (Nat.le_of_ble_eq_true rfl) dX7_isFenced_99 ⟨Nat.zero_le _, Nat.zero_le _⟩ (fun r11 S10 H locs h hP hD hS => ?_)
    refine lv_if_eq (tgt := 116) C.1 C.2.1 dX7_isFenced_102 (by decide) (fun c14 => ?_) (fun c14 => ?_)
    · have h := h.1 c14
      exact B116 k2 hk2 x1 x2 x3 x4 t0 S10 H locs ls h hP hD hS (lv_sub hl [1, 2, 3, 4, 5, 0] rfl)
    · have h := h.2 c14
      refine lv_aload_n C.1 C.2.1 dX7_isFenced_105 rfl (lv_at hl 1 rfl) ?_
      refine mg_fenceSecond C hinX7 hK hP (by decide +kernel) dX7_isFenced_106 ?_
      refine lv_iload_n C.1 C.2.1 dX7_isFenced_109 rfl (lv_at hl 4 rfl) ?_
      obtain ⟨g12, h⟩ := h
      refine ma_fenceSecond C hK hP g12  rfl dX7_isFenced_110 ?_
      refine lv_iconst (v := 1) C.1 C.2.1 dX7_isFenced_111 (by decide) ?_
      refine lv_iand C.1 C.2.1 dX7_isFenced_112 ?_
      refine lv_if_ne (tgt := 135) C.1 C.2.1 dX7_isFenced_113 (by decide) (fun c13 => ?_) (fun c13 => ?_)
      · have h := h.1 c13
        exact B135 k2 hk2 x1 x2 x3 x4 t0 S10 H locs ls h hP hD hS (lv_sub hl [1, 2, 3, 4, 5, 0] rfl)
      · have h := h.2 c13
        exact B116 k2 hk2 x1 x2 x3 x4 t0 S10 H locs ls h hP hD hS (lv_sub hl [1, 2, 3, 4, 5, 0] rfl)
  have B94 : ∀ (k2 : Int32 → Int32 → Int32 → St → Prop) (hk2 : ∀ (x1 : Int32) (x2 : Int32) (x3 : Int32) (S : St) (H : Heap) (locs : List Loc) (ls : Array Slot), k2 x1 x2 x3 S → va_P g vwCl (wM ct ad S) H → va_D A (wM ct ad S) → va_S A s.heap H locs → lv_has ls 7 [(0, .ref (ad 0)), (1, .int x1), (2, .int x2), (3, .int x3)] → W p l e R s m args below meth c H locs 0 0 QQ (F0 m 2 ls [])) (x1 : Int32) (x2 : Int32) (x3 : Int32) (x4 : Int32) (S : St) (H : Heap) (locs : List Loc) (ls : Array Slot), bX7_isFenced_94 k2 Q x1 x2 x3 x4 S → va_P g vwCl (wM ct ad S) H → va_D A (wM ct ad S) → va_S A s.heap H locs → lv_has ls 7 [(0, .ref (ad 0)), (1, .int x1), (2, .int x2), (3, .int x3), (4, .int x4)] → W p l e R s m args below meth c H locs 0 0 QQ (F0 m 94 ls []) := by
    intro k2 hk2 x1 x2 x3 x4 S H locs ls h hP hD hS hl
    refine lv_iconst (v := 0) C.1 C.2.1 dX7_isFenced_94 (by decide) ?_
    exact B95 k2 hk2 x1 x2 x3 x4 (0 : Int32) S H locs ls h hP hD hS (lv_sub hl [0, 1, 2, 3, 4] rfl)
  have B90 : ∀ (k2 : Int32 → Int32 → Int32 → St → Prop) (hk2 : ∀ (x1 : Int32) (x2 : Int32) (x3 : Int32) (S : St) (H : Heap) (locs : List Loc) (ls : Array Slot), k2 x1 x2 x3 S → va_P g vwCl (wM ct ad S) H → va_D A (wM ct ad S) → va_S A s.heap H locs → lv_has ls 7 [(0, .ref (ad 0)), (1, .int x1), (2, .int x2), (3, .int x3)] → W p l e R s m args below meth c H locs 0 0 QQ (F0 m 2 ls [])) (x1 : Int32) (x2 : Int32) (x3 : Int32) (x4 : Int32) (S : St) (H : Heap) (locs : List Loc) (ls : Array Slot), bX7_isFenced_90 k2 Q x1 x2 x3 x4 S → va_P g vwCl (wM ct ad S) H → va_D A (wM ct ad S) → va_S A s.heap H locs → lv_has ls 7 [(0, .ref (ad 0)), (1, .int x1), (2, .int x2), (3, .int x3), (4, .int x4)] → W p l e R s m args below meth c H locs 0 0 QQ (F0 m 90 ls []) := by
    intro k2 hk2 x1 x2 x3 x4 S H locs ls h hP hD hS hl
    refine lv_iconst (v := 1) C.1 C.2.1 dX7_isFenced_90 (by decide) ?_
    refine lv_goto (tgt := 95) C.1 C.2.1 dX7_isFenced_91 (by decide) ?_
    exact B95 k2 hk2 x1 x2 x3 x4 (1 : Int32) S H locs ls h hP hD hS (lv_sub hl [0, 1, 2, 3, 4] rfl)
  have B71 : ∀ (k2 : Int32 → Int32 → Int32 → St → Prop) (hk2 : ∀ (x1 : Int32) (x2 : Int32) (x3 : Int32) (S : St) (H : Heap) (locs : List Loc) (ls : Array Slot), k2 x1 x2 x3 S → va_P g vwCl (wM ct ad S) H → va_D A (wM ct ad S) → va_S A s.heap H locs → lv_has ls 7 [(0, .ref (ad 0)), (1, .int x1), (2, .int x2), (3, .int x3)] → W p l e R s m args below meth c H locs 0 0 QQ (F0 m 2 ls [])) (x1 : Int32) (x2 : Int32) (x3 : Int32) (x4 : Int32) (S : St) (H : Heap) (locs : List Loc) (ls : Array Slot), bX7_isFenced_71 k2 Q x1 x2 x3 x4 S → va_P g vwCl (wM ct ad S) H → va_D A (wM ct ad S) → va_S A s.heap H locs → lv_has ls 7 [(0, .ref (ad 0)), (1, .int x1), (2, .int x2), (3, .int x3), (4, .int x4)] → W p l e R s m args below meth c H locs 0 0 QQ (F0 m 71 ls []) := by
    intro k2 hk2 x1 x2 x3 x4 S H locs ls h hP hD hS hl
    refine lv_aload_n C.1 C.2.1 dX7_isFenced_71 rfl (lv_at hl 0 rfl) ?_
    refine lv_iload_n C.1 C.2.1 dX7_isFenced_72 rfl (lv_at hl 1 rfl) ?_
    refine g_callVi (w := wM ct ad) C hK hN hA hP hD hS (mX7_writes l g ct ad H.size S x1  _ h) (cwV 1 C.2.2.2.2 gX7_isFenced_X7_writes rfl rfl rfl (by decide +kernel) ⟨Nat.le_trans (by decide) hRf, Nat.le_trans (by decide) hRl⟩) (va_recv hK hP (ci := 7) (q0 := 0) rfl rfl) rfl hl.1 rfl (Nat.le_of_ble_eq_true rfl) dX7_isFenced_73 ⟨Nat.zero_le _, Nat.zero_le _⟩ (fun r16 S15 H locs h hP hD hS => ?_)
    refine lv_if_eq (tgt := 94) C.1 C.2.1 dX7_isFenced_76 (by decide) (fun c19 => ?_) (fun c19 => ?_)
    · have h := h.1 c19
      exact B94 k2 hk2 x1 x2 x3 x4 S15 H locs ls h hP hD hS (lv_sub hl [0, 1, 2, 3, 4] rfl)
    · have h := h.2 c19
      refine lv_aload_n C.1 C.2.1 dX7_isFenced_79 rfl (lv_at hl 0 rfl) ?_
      refine mg_fenceFirst C hinX7 hK hP (by decide +kernel) dX7_isFenced_80 ?_
      refine lv_iload_n C.1 C.2.1 dX7_isFenced_83 rfl (lv_at hl 3 rfl) ?_
      obtain ⟨g17, h⟩ := h
      refine ma_fenceFirst C hK hP g17  rfl dX7_isFenced_84 ?_
      refine lv_iconst (v := 2) C.1 C.2.1 dX7_isFenced_85 (by decide) ?_
      refine lv_iand C.1 C.2.1 dX7_isFenced_86 ?_
      refine lv_if_eq (tgt := 94) C.1 C.2.1 dX7_isFenced_87 (by decide) (fun c18 => ?_) (fun c18 => ?_)
      · have h := h.1 c18
        exact B94 k2 hk2 x1 x2 x3 x4 S15 H locs ls h hP hD hS (lv_sub hl [0, 1, 2, 3, 4] rfl)
      · have h := h.2 c18
        exact B90 k2 hk2 x1 x2 x3 x4 S15 H locs ls h hP hD hS (lv_sub hl [0, 1, 2, 3, 4] rfl)
  have B50 : ∀ (k2 : Int32 → Int32 → Int32 → St → Prop) (hk2 : ∀ (x1 : Int32) (x2 : Int32) (x3 : Int32) (S : St) (H : Heap) (locs : List Loc) (ls : Array Slot), k2 x1 x2 x3 S → va_P g vwCl (wM ct ad S) H → va_D A (wM ct ad S) → va_S A s.heap H locs → lv_has ls 7 [(0, .ref (ad 0)), (1, .int x1), (2, .int x2), (3, .int x3)] → W p l e R s m args below meth c H locs 0 0 QQ (F0 m 2 ls [])) (x1 : Int32) (x2 : Int32) (x3 : Int32) (t0 : Int32) (S : St) (H : Heap) (locs : List Loc) (ls : Array Slot), bX7_isFenced_50 k2 Q x1 x2 x3 t0 S → va_P g vwCl (wM ct ad S) H → va_D A (wM ct ad S) → va_S A s.heap H locs → lv_has ls 7 [(0, .ref (ad 0)), (1, .int x1), (2, .int x2), (3, .int x3)] → W p l e R s m args below meth c H locs 0 0 QQ (F0 m 50 ls [.int t0]) := by
    intro k2 hk2 x1 x2 x3 t0 S H locs ls h hP hD hS hl
    refine lv_istore (lv' := [(4, .int t0), (0, .ref (ad 0)), (1, .int x1), (2, .int x2), (3, .int x3)]) C.1 C.2.1 dX7_isFenced_50 hl (by decide) rfl (fun ls hl => ?_)
    refine lv_aload_n C.1 C.2.1 dX7_isFenced_52 rfl (lv_at hl 1 rfl) ?_
    refine lv_iload_n C.1 C.2.1 dX7_isFenced_53 rfl (lv_at hl 2 rfl) ?_
    refine g_callVi (w := wM ct ad) C hK hN hA hP hD hS (mX7_reads l g ct ad H.size S x1  _ h) (cwV 1 C.2.2.2.2 gX7_isFenced_X7_reads rfl rfl rfl (by decide +kernel) ⟨Nat.le_trans (by decide) hRf, Nat.le_trans (by decide) hRl⟩) (va_recv hK hP (ci := 7) (q0 := 0) rfl rfl) rfl hl.1 rfl (Nat.le_of_ble_eq_true rfl) dX7_isFenced_54 ⟨Nat.zero_le _, Nat.zero_le _⟩ (fun r21 S20 H locs h hP hD hS => ?_)
    refine lv_if_eq (tgt := 71) C.1 C.2.1 dX7_isFenced_57 (by decide) (fun c24 => ?_) (fun c24 => ?_)
    · have h := h.1 c24
      exact B71 k2 hk2 x1 x2 x3 t0 S20 H locs ls h hP hD hS (lv_sub hl [1, 2, 3, 4, 0] rfl)
    · have h := h.2 c24
      refine lv_aload_n C.1 C.2.1 dX7_isFenced_60 rfl (lv_at hl 1 rfl) ?_
      refine mg_fenceFirst C hinX7 hK hP (by decide +kernel) dX7_isFenced_61 ?_
      refine lv_iload_n C.1 C.2.1 dX7_isFenced_64 rfl (lv_at hl 4 rfl) ?_
      obtain ⟨g22, h⟩ := h
      refine ma_fenceFirst C hK hP g22  rfl dX7_isFenced_65 ?_
      refine lv_iconst (v := 1) C.1 C.2.1 dX7_isFenced_66 (by decide) ?_
      refine lv_iand C.1 C.2.1 dX7_isFenced_67 ?_
      refine lv_if_ne (tgt := 90) C.1 C.2.1 dX7_isFenced_68 (by decide) (fun c23 => ?_) (fun c23 => ?_)
      · have h := h.1 c23
        exact B90 k2 hk2 x1 x2 x3 t0 S20 H locs ls h hP hD hS (lv_sub hl [1, 2, 3, 4, 0] rfl)
      · have h := h.2 c23
        exact B71 k2 hk2 x1 x2 x3 t0 S20 H locs ls h hP hD hS (lv_sub hl [1, 2, 3, 4, 0] rfl)
  have B49 : ∀ (k2 : Int32 → Int32 → Int32 → St → Prop) (hk2 : ∀ (x1 : Int32) (x2 : Int32) (x3 : Int32) (S : St) (H : Heap) (locs : List Loc) (ls : Array Slot), k2 x1 x2 x3 S → va_P g vwCl (wM ct ad S) H → va_D A (wM ct ad S) → va_S A s.heap H locs → lv_has ls 7 [(0, .ref (ad 0)), (1, .int x1), (2, .int x2), (3, .int x3)] → W p l e R s m args below meth c H locs 0 0 QQ (F0 m 2 ls [])) (x1 : Int32) (x2 : Int32) (x3 : Int32) (S : St) (H : Heap) (locs : List Loc) (ls : Array Slot), bX7_isFenced_49 k2 Q x1 x2 x3 S → va_P g vwCl (wM ct ad S) H → va_D A (wM ct ad S) → va_S A s.heap H locs → lv_has ls 7 [(0, .ref (ad 0)), (1, .int x1), (2, .int x2), (3, .int x3)] → W p l e R s m args below meth c H locs 0 0 QQ (F0 m 49 ls []) := by
    intro k2 hk2 x1 x2 x3 S H locs ls h hP hD hS hl
    refine lv_iconst (v := 0) C.1 C.2.1 dX7_isFenced_49 (by decide) ?_
    exact B50 k2 hk2 x1 x2 x3 (0 : Int32) S H locs ls h hP hD hS (lv_sub hl [0, 1, 2, 3] rfl)
  have B2 : ∀ (k2 : Int32 → Int32 → Int32 → St → Prop) (hk2 : ∀ (x1 : Int32) (x2 : Int32) (x3 : Int32) (S : St) (H : Heap) (locs : List Loc) (ls : Array Slot), k2 x1 x2 x3 S → va_P g vwCl (wM ct ad S) H → va_D A (wM ct ad S) → va_S A s.heap H locs → lv_has ls 7 [(0, .ref (ad 0)), (1, .int x1), (2, .int x2), (3, .int x3)] → W p l e R s m args below meth c H locs 0 0 QQ (F0 m 2 ls [])) (x1 : Int32) (x2 : Int32) (x3 : Int32) (S : St) (H : Heap) (locs : List Loc) (ls : Array Slot), bX7_isFenced_2 k2 Q x1 x2 x3 S → va_P g vwCl (wM ct ad S) H → va_D A (wM ct ad S) → va_S A s.heap H locs → lv_has ls 7 [(0, .ref (ad 0)), (1, .int x1), (2, .int x2), (3, .int x3)] → W p l e R s m args below meth c H locs 0 0 QQ (F0 m 2 ls []) := by
    intro k2 hk2 x1 x2 x3 S H locs ls h hP hD hS hl
    refine lv_iload_n C.1 C.2.1 dX7_isFenced_2 rfl (lv_at hl 3 rfl) ?_
    refine lv_aload_n C.1 C.2.1 dX7_isFenced_3 rfl (lv_at hl 0 rfl) ?_
    refine mg_fences C hinX7 hK hP (by decide +kernel) dX7_isFenced_4 ?_
    refine lv_icmp_ge (tgt := 165) C.1 C.2.1 dX7_isFenced_7 (by decide) (fun c32 => ?_) (fun c32 => ?_)
    · have h := h.1 c32
      refine lv_iconst (v := 0) C.1 C.2.1 dX7_isFenced_165 (by decide) ?_
      exact hret _ _ _ _ _ _ dX7_isFenced_166 zb_0 h hP hD hS
    · have h := h.2 c32
      refine lv_aload_n C.1 C.2.1 dX7_isFenced_10 rfl (lv_at hl 0 rfl) ?_
      refine mg_fenceHart C hinX7 hK hP (by decide +kernel) dX7_isFenced_11 ?_
      refine lv_iload_n C.1 C.2.1 dX7_isFenced_14 rfl (lv_at hl 3 rfl) ?_
      obtain ⟨g25, h⟩ := h
      refine ma_fenceHart C hK hP g25  rfl dX7_isFenced_15 ?_
      refine lv_aload_n C.1 C.2.1 dX7_isFenced_16 rfl (lv_at hl 0 rfl) ?_
      refine mg_hartOf C hinX7 hK hP (by decide +kernel) dX7_isFenced_17 ?_
      refine lv_iload_n C.1 C.2.1 dX7_isFenced_20 rfl (lv_at hl 1 rfl) ?_
      obtain ⟨g26, h⟩ := h
      refine ma_hartOf C hK hP g26  rfl dX7_isFenced_21 ?_
      refine lv_icmp_ne (tgt := 49) C.1 C.2.1 dX7_isFenced_22 (by decide) (fun c31 => ?_) (fun c31 => ?_)
      · have h := h.1 c31
        exact B49 k2 hk2 x1 x2 x3 S H locs ls h hP hD hS (lv_sub hl [0, 1, 2, 3] rfl)
      · have h := h.2 c31
        refine lv_aload_n C.1 C.2.1 dX7_isFenced_25 rfl (lv_at hl 0 rfl) ?_
        refine mg_fenceAt C hinX7 hK hP (by decide +kernel) dX7_isFenced_26 ?_
        refine lv_iload_n C.1 C.2.1 dX7_isFenced_29 rfl (lv_at hl 3 rfl) ?_
        obtain ⟨g27, h⟩ := h
        refine ma_fenceAt C hK hP g27  rfl dX7_isFenced_30 ?_
        refine lv_iload_n C.1 C.2.1 dX7_isFenced_31 rfl (lv_at hl 1 rfl) ?_
        refine lv_icmp_le (tgt := 49) C.1 C.2.1 dX7_isFenced_32 (by decide) (fun c30 => ?_) (fun c30 => ?_)
        · have h := h.1 c30
          exact B49 k2 hk2 x1 x2 x3 S H locs ls h hP hD hS (lv_sub hl [0, 1, 2, 3] rfl)
        · have h := h.2 c30
          refine lv_aload_n C.1 C.2.1 dX7_isFenced_35 rfl (lv_at hl 0 rfl) ?_
          refine mg_fenceAt C hinX7 hK hP (by decide +kernel) dX7_isFenced_36 ?_
          refine lv_iload_n C.1 C.2.1 dX7_isFenced_39 rfl (lv_at hl 3 rfl) ?_
          obtain ⟨g28, h⟩ := h
          refine ma_fenceAt C hK hP g28  rfl dX7_isFenced_40 ?_
          refine lv_iload_n C.1 C.2.1 dX7_isFenced_41 rfl (lv_at hl 2 rfl) ?_
          refine lv_icmp_gt (tgt := 49) C.1 C.2.1 dX7_isFenced_42 (by decide) (fun c29 => ?_) (fun c29 => ?_)
          · have h := h.1 c29
            exact B49 k2 hk2 x1 x2 x3 S H locs ls h hP hD hS (lv_sub hl [0, 1, 2, 3] rfl)
          · have h := h.2 c29
            refine lv_iconst (v := 1) C.1 C.2.1 dX7_isFenced_45 (by decide) ?_
            refine lv_goto (tgt := 50) C.1 C.2.1 dX7_isFenced_46 (by decide) ?_
            exact B50 k2 hk2 x1 x2 x3 (1 : Int32) S H locs ls h hP hD hS (lv_sub hl [0, 1, 2, 3] rfl)
  have L2 : ∀ (N : Nat) (x1 : Int32) (x2 : Int32) (x3 : Int32) (S : St) (H : Heap) (locs : List Loc) (ls : Array Slot), itr (F := Int32 → Int32 → Int32 → St → Prop) (fun _ _ _ _ => False) (fun k2 x1 x2 x3 S => bX7_isFenced_2 k2 Q x1 x2 x3 S) N x1 x2 x3 S → va_P g vwCl (wM ct ad S) H → va_D A (wM ct ad S) → va_S A s.heap H locs → lv_has ls 7 [(0, .ref (ad 0)), (1, .int x1), (2, .int x2), (3, .int x3)] → W p l e R s m args below meth c H locs 0 0 QQ (F0 m 2 ls []) := by
    intro N
    induction N with
    | zero => intro x1 x2 x3 S H locs ls h hP hD hS hl; exact False.elim h
    | succ N ih => intro x1 x2 x3 S H locs ls h hP hD hS hl; exact B2  (itr (F := Int32 → Int32 → Int32 → St → Prop) (fun _ _ _ _ => False) (fun k2 x1 x2 x3 S => bX7_isFenced_2 k2 Q x1 x2 x3 S) N) ih x1 x2 x3 S H locs ls h  hP hD hS hl
  refine lv_iconst (v := 0) C.1 C.2.1 dX7_isFenced_0 (by decide) ?_
  refine lv_istore_n (lv' := [(3, .int (0 : Int32)), (0, .ref (ad 0)), (1, .int x1), (2, .int x2)]) C.1 C.2.1 dX7_isFenced_1 rfl hl (by decide) rfl (fun ls hl => ?_)
  obtain ⟨N, h⟩ := h
  exact L2 N x1 x2 (0 : Int32) S H locs ls h hP hD hS (lv_sub hl [1, 2, 3, 0] rfl)
theorem mX7_isFenced (l : Launch) (g : va_G) (ct : Nat → ClassId) (ad : Nat → Nat) (sz : Nat) (S : St) (x1 : Int32) (x2 : Int32) (Q : Int32 → St → Prop) (h : pX7_isFenced x1 x2 S Q) : Met l yX7_isFenced wsX7_isFenced ({ frames := 2, cells := 0, slots := 0, locals := 41 }) (gPc g (mT ct) (wM ct ad S) sz [.ref (ad 0), .int x1, .int x2]) (va_Qi Q (gB g (mT ct) (wM ct ad) (va_A (wM ct ad S) sz)) (va_A (wM ct ad S) sz)) 0 0 (va_A (wM ct ad S) sz) :=
  g_metZ (w := wM ct ad) (cc := cX7_isFenced) (maxL := 7) (by decide) rfl rfl (Nat.le_of_ble_eq_true rfl) rfl (fun p e s m args below meth c QQ A C hK hN hA hret H locs ls hP hD hS hl => kX7_isFenced C hK hN hA (Nat.le_refl _) (Nat.le_refl _) Q hret x1 x2 S h H locs ls hP hD hS hl)

def bX7_mustStand_32 (Q : Int32 → St → Prop) (S : St) : Prop :=
  Q (1 : Int32) S
def bX7_mustStand_116 (Q : Int32 → St → Prop) (S : St) : Prop :=
  Q (1 : Int32) S
def bX7_mustStand_185 (Q : Int32 → St → Prop) (S : St) : Prop :=
  Q (1 : Int32) S
def bX7_mustStand_251 (Q : Int32 → St → Prop) (t0 : Int32) (S : St) : Prop :=
  (zb t0 ∧ Q t0 S)
def bX7_mustStand_250 (Q : Int32 → St → Prop) (S : St) : Prop :=
  bX7_mustStand_251 Q (0 : Int32) S
def bX7_mustStand_225 (k195 : Int32 → Int32 → Int32 → Int32 → St → Prop) (Q : Int32 → St → Prop) (x1 : Int32) (x2 : Int32) (x5 : Int32) (t0 : Int32) (S : St) : Prop :=
  (∀ y1 : Int32, y1 = x5 + (1 : Int32) → k195 x1 x2 t0 y1 S)
def bX7_mustStand_220 (k195 : Int32 → Int32 → Int32 → Int32 → St → Prop) (Q : Int32 → St → Prop) (x1 : Int32) (x2 : Int32) (x5 : Int32) (S : St) : Prop :=
  bX7_mustStand_225 k195 Q x1 x2 x5 (1 : Int32) S
def bX7_mustStand_195 (k195 : Int32 → Int32 → Int32 → Int32 → St → Prop) (Q : Int32 → St → Prop) (x1 : Int32) (x2 : Int32) (x4 : Int32) (x5 : Int32) (S : St) : Prop :=
  ((x2 ≤ x5 → pX7_writes x2 S (fun (r3 : Int32) (S2 : St) => ((r3 = 0 → bX7_mustStand_250 Q  S2) ∧ (¬ (r3 = 0) → ((x4 = 0 → bX7_mustStand_250 Q  S2) ∧ (¬ (x4 = 0) → bX7_mustStand_251 Q (1 : Int32) S2)))))) ∧ (¬ (x2 ≤ x5) → ((¬ x4 = 0 → bX7_mustStand_220 k195 Q x1 x2 x5 S) ∧ (x4 = 0 → (vp_in x5 6 ∧ pX7_needs (S.1 20 (Int32.toNatClampNeg x5)) x1 (fun (r7 : Int32) => ((r7 = 0 → bX7_mustStand_225 k195 Q x1 x2 x5 (0 : Int32) S) ∧ (¬ (r7 = 0) → bX7_mustStand_220 k195 Q x1 x2 x5 S))))))))
def bX7_mustStand_187 (Q : Int32 → St → Prop) (x1 : Int32) (x2 : Int32) (S : St) : Prop :=
  (∀ y11 : Int32, y11 = (x1 + (1 : Int32)) → (∃ N : Nat, itr (F := Int32 → Int32 → Int32 → Int32 → St → Prop) (fun _ _ _ _ _ => False) (fun k195 x1 x2 x4 x5 S => bX7_mustStand_195 k195 Q x1 x2 x4 x5 S) N x1 x2 (0 : Int32) y11 S))
def bX7_mustStand_138 (Q : Int32 → St → Prop) (x1 : Int32) (x2 : Int32) (S : St) : Prop :=
  (vp_in x2 6 ∧ pX7_needs (S.1 20 (Int32.toNatClampNeg x2)) x1 (fun (r13 : Int32) => ((¬ r13 = 0 → bX7_mustStand_185 Q  S) ∧ (r13 = 0 → (vp_in x2 6 ∧ pX7_needs (S.1 21 (Int32.toNatClampNeg x2)) x1 (fun (r15 : Int32) => ((¬ r15 = 0 → bX7_mustStand_185 Q  S) ∧ (r15 = 0 → pX7_writes x2 S (fun (r17 : Int32) (S16 : St) => ((r17 = 0 → bX7_mustStand_187 Q x1 x2 S16) ∧ (¬ (r17 = 0) → (vp_in x2 6 ∧ pX7_needs (S16.1 22 (Int32.toNatClampNeg x2)) x1 (fun (r19 : Int32) => ((r19 = 0 → bX7_mustStand_187 Q x1 x2 S16) ∧ (¬ (r19 = 0) → bX7_mustStand_185 Q  S16)))))))))))))))
def bX7_mustStand_118 (Q : Int32 → St → Prop) (x1 : Int32) (x2 : Int32) (S : St) : Prop :=
  (vp_in x2 6 ∧ ((¬ (S.1 15 (Int32.toNatClampNeg x2)) = (5 : Int32) → bX7_mustStand_138 Q x1 x2 S) ∧ ((S.1 15 (Int32.toNatClampNeg x2)) = (5 : Int32) → (vp_in x2 6 ∧ (((S.1 23 (Int32.toNatClampNeg x2)) = x1 → bX7_mustStand_185 Q  S) ∧ (¬ ((S.1 23 (Int32.toNatClampNeg x2)) = x1) → bX7_mustStand_138 Q x1 x2 S))))))
def bX7_mustStand_67 (Q : Int32 → St → Prop) (x1 : Int32) (x2 : Int32) (S : St) : Prop :=
  pX7_isFenced x1 x2 S (fun (r29 : Int32) (S28 : St) => ((¬ r29 = 0 → bX7_mustStand_116 Q  S28) ∧ (r29 = 0 → (vp_in x1 6 ∧ ((¬ ((S28.1 19 (Int32.toNatClampNeg x1)) &&& (1 : Int32)) = 0 → bX7_mustStand_116 Q  S28) ∧ (((S28.1 19 (Int32.toNatClampNeg x1)) &&& (1 : Int32)) = 0 → (vp_in x2 6 ∧ ((¬ ((S28.1 19 (Int32.toNatClampNeg x2)) &&& (2 : Int32)) = 0 → bX7_mustStand_116 Q  S28) ∧ (((S28.1 19 (Int32.toNatClampNeg x2)) &&& (2 : Int32)) = 0 → (vp_in x1 6 ∧ (((S28.1 19 (Int32.toNatClampNeg x1)) = 0 → bX7_mustStand_118 Q x1 x2 S28) ∧ (¬ ((S28.1 19 (Int32.toNatClampNeg x1)) = 0) → (vp_in x2 6 ∧ (((S28.1 19 (Int32.toNatClampNeg x2)) = 0 → bX7_mustStand_118 Q x1 x2 S28) ∧ (¬ ((S28.1 19 (Int32.toNatClampNeg x2)) = 0) → bX7_mustStand_116 Q  S28)))))))))))))))
def bX7_mustStand_54 (Q : Int32 → St → Prop) (x1 : Int32) (x2 : Int32) (t0 : Int32) (S : St) : Prop :=
  pX7_writes x2 S (fun (r40 : Int32) (S39 : St) => ((r40 = 0 → bX7_mustStand_67 Q x1 x2 S39) ∧ (¬ (r40 = 0) → ((¬ t0 = 0 → bX7_mustStand_116 Q  S39) ∧ (t0 = 0 → bX7_mustStand_67 Q x1 x2 S39)))))
def bX7_mustStand_34 (Q : Int32 → St → Prop) (x1 : Int32) (x2 : Int32) (S : St) : Prop :=
  (vp_in x1 6 ∧ (vp_in x2 6 ∧ ((¬ (S.1 16 (Int32.toNatClampNeg x1)) = (S.1 16 (Int32.toNatClampNeg x2)) → bX7_mustStand_54 Q x1 x2 (0 : Int32) S) ∧ ((S.1 16 (Int32.toNatClampNeg x1)) = (S.1 16 (Int32.toNatClampNeg x2)) → bX7_mustStand_54 Q x1 x2 (1 : Int32) S))))
def pX7_mustStand (x1 : Int32) (x2 : Int32) (S : St) (Q : Int32 → St → Prop) : Prop :=
  (((S.1 0 0) = (2 : Int32) → bX7_mustStand_32 Q  S) ∧ (¬ ((S.1 0 0) = (2 : Int32)) → ((¬ (S.1 0 0) = (1 : Int32) → bX7_mustStand_34 Q x1 x2 S) ∧ ((S.1 0 0) = (1 : Int32) → pX7_reads x1 S (fun (r47 : Int32) (S46 : St) => ((¬ r47 = 0 → bX7_mustStand_32 Q  S46) ∧ (r47 = 0 → pX7_writes x2 S46 (fun (r49 : Int32) (S48 : St) => ((r49 = 0 → bX7_mustStand_34 Q x1 x2 S48) ∧ (¬ (r49 = 0) → bX7_mustStand_32 Q  S48))))))))))
set_option maxHeartbeats 40000000 in
set_option maxRecDepth 100000 in
theorem kX7_mustStand {p : Program} {l : Launch} {e : Env} {R : Room} {s : State} {m : MethodId} {args : Array Value} {below : List Frame} {meth : Method} {c : Code} {QQ : State → Prop} {g : va_G} {ct : Nat → ClassId} {ad : Nat → Nat} {A : Nat → Prop} (C : CallFix p m c cX7_mustStand 6 s args wsX7_mustStand RX7) (hK : va_K g vwCl (mT ct) s) (hN : xN s) (hA : ∀ q, s.heap.size ≤ q → A q) (hRf : 3 ≤ R.frames) (hRl : 67 ≤ R.locals) (Q : Int32 → St → Prop) (hret : ∀ (pc : Nat) (r : Int32) (S : St) (H : Heap) (locs : List Loc) (ls : Array Slot), decode cX7_mustStand pc = .ok (.ireturn, 1) → zb r → Q r S → va_P g vwCl (wM ct ad S) H → va_D A (wM ct ad S) → va_S A s.heap H locs → W p l e R s m args below meth c H locs 0 0 QQ (F0 m pc ls [.int r])) (x1 : Int32) (x2 : Int32) (S : St) (h : pX7_mustStand x1 x2 S Q) (H : Heap) (locs : List Loc) (ls : Array Slot) (hP : va_P g vwCl (wM ct ad S) H) (hD : va_D A (wM ct ad S)) (hS : va_S A s.heap H locs) (hl : lv_has ls 6 [(0, .ref (ad 0)), (1, .int x1), (2, .int x2)]) : W p l e R s m args below meth c H locs 0 0 QQ (F0 m 0 ls []) := by
  have hinX7 : ∀ w ∈ wsX70, w ∈ wsX7_mustStand := by decide +kernel
  have B32 : ∀ (S : St) (H : Heap) (locs : List Loc) (ls : Array Slot), bX7_mustStand_32 Q S → va_P g vwCl (wM ct ad S) H → va_D A (wM ct ad S) → va_S A s.heap H locs → lv_has ls 6 [(0, .ref (ad 0))] → W p l e R s m args below meth c H locs 0 0 QQ (F0 m 32 ls []) := by
    intro S H locs ls h hP hD hS hl
    refine lv_iconst (v := 1) C.1 C.2.1 dX7_mustStand_32 (by decide) ?_
    exact hret _ _ _ _ _ _ dX7_mustStand_33 zb_1 h hP hD hS
  have B116 : ∀ (S : St) (H : Heap) (locs : List Loc) (ls : Array Slot), bX7_mustStand_116 Q S → va_P g vwCl (wM ct ad S) H → va_D A (wM ct ad S) → va_S A s.heap H locs → lv_has ls 6 [(0, .ref (ad 0))] → W p l e R s m args below meth c H locs 0 0 QQ (F0 m 116 ls []) := by
    intro S H locs ls h hP hD hS hl
    refine lv_iconst (v := 1) C.1 C.2.1 dX7_mustStand_116 (by decide) ?_
    exact hret _ _ _ _ _ _ dX7_mustStand_117 zb_1 h hP hD hS
  have B185 : ∀ (S : St) (H : Heap) (locs : List Loc) (ls : Array Slot), bX7_mustStand_185 Q S → va_P g vwCl (wM ct ad S) H → va_D A (wM ct ad S) → va_S A s.heap H locs → lv_has ls 6 [(0, .ref (ad 0))] → W p l e R s m args below meth c H locs 0 0 QQ (F0 m 185 ls []) := by
    intro S H locs ls h hP hD hS hl
    refine lv_iconst (v := 1) C.1 C.2.1 dX7_mustStand_185 (by decide) ?_
    exact hret _ _ _ _ _ _ dX7_mustStand_186 zb_1 h hP hD hS
  have B251 : ∀ (t0 : Int32) (S : St) (H : Heap) (locs : List Loc) (ls : Array Slot), bX7_mustStand_251 Q t0 S → va_P g vwCl (wM ct ad S) H → va_D A (wM ct ad S) → va_S A s.heap H locs → lv_has ls 6 [(0, .ref (ad 0))] → W p l e R s m args below meth c H locs 0 0 QQ (F0 m 251 ls [.int t0]) := by
    intro t0 S H locs ls h hP hD hS hl
    exact hret _ _ _ _ _ _ dX7_mustStand_251 h.1 h.2 hP hD hS
  have B250 : ∀ (S : St) (H : Heap) (locs : List Loc) (ls : Array Slot), bX7_mustStand_250 Q S → va_P g vwCl (wM ct ad S) H → va_D A (wM ct ad S) → va_S A s.heap H locs → lv_has ls 6 [(0, .ref (ad 0))] → W p l e R s m args below meth c H locs 0 0 QQ (F0 m 250 ls []) := by
    intro S H locs ls h hP hD hS hl
    refine lv_iconst (v := 0) C.1 C.2.1 dX7_mustStand_250 (by decide) ?_
    exact B251 (0 : Int32) S H locs ls h hP hD hS (lv_sub hl [0] rfl)
  have B225 : ∀ (k195 : Int32 → Int32 → Int32 → Int32 → St → Prop) (hk195 : ∀ (x1 : Int32) (x2 : Int32) (x4 : Int32) (x5 : Int32) (S : St) (H : Heap) (locs : List Loc) (ls : Array Slot), k195 x1 x2 x4 x5 S → va_P g vwCl (wM ct ad S) H → va_D A (wM ct ad S) → va_S A s.heap H locs → lv_has ls 6 [(0, .ref (ad 0)), (1, .int x1), (2, .int x2), (4, .int x4), (5, .int x5)] → W p l e R s m args below meth c H locs 0 0 QQ (F0 m 195 ls [])) (x1 : Int32) (x2 : Int32) (x5 : Int32) (t0 : Int32) (S : St) (H : Heap) (locs : List Loc) (ls : Array Slot), bX7_mustStand_225 k195 Q x1 x2 x5 t0 S → va_P g vwCl (wM ct ad S) H → va_D A (wM ct ad S) → va_S A s.heap H locs → lv_has ls 6 [(0, .ref (ad 0)), (1, .int x1), (2, .int x2), (5, .int x5)] → W p l e R s m args below meth c H locs 0 0 QQ (F0 m 225 ls [.int t0]) := by
    intro k195 hk195 x1 x2 x5 t0 S H locs ls h hP hD hS hl
    refine lv_istore (lv' := [(4, .int t0), (0, .ref (ad 0)), (1, .int x1), (2, .int x2), (5, .int x5)]) C.1 C.2.1 dX7_mustStand_225 hl (by decide) rfl (fun ls hl => ?_)
    obtain ⟨y1, ey1⟩ : ∃ z : Int32, z = x5 + (1 : Int32) := ⟨_, rfl⟩
    have h := h y1 ey1
    refine lv_iinc (v := y1) (lv' := [(5, .int y1), (4, .int t0), (0, .ref (ad 0)), (1, .int x1), (2, .int x2)]) C.1 C.2.1 dX7_mustStand_227 hl (k := 4) rfl (by rw [ey1]; rfl) (by decide) rfl (fun ls hl => ?_)
    refine lv_goto (tgt := 195) C.1 C.2.1 dX7_mustStand_230 (by decide) ?_
    exact hk195 x1 x2 t0 y1 S H locs ls h hP hD hS (lv_sub hl [2, 3, 4, 1, 0] rfl)
  have B220 : ∀ (k195 : Int32 → Int32 → Int32 → Int32 → St → Prop) (hk195 : ∀ (x1 : Int32) (x2 : Int32) (x4 : Int32) (x5 : Int32) (S : St) (H : Heap) (locs : List Loc) (ls : Array Slot), k195 x1 x2 x4 x5 S → va_P g vwCl (wM ct ad S) H → va_D A (wM ct ad S) → va_S A s.heap H locs → lv_has ls 6 [(0, .ref (ad 0)), (1, .int x1), (2, .int x2), (4, .int x4), (5, .int x5)] → W p l e R s m args below meth c H locs 0 0 QQ (F0 m 195 ls [])) (x1 : Int32) (x2 : Int32) (x5 : Int32) (S : St) (H : Heap) (locs : List Loc) (ls : Array Slot), bX7_mustStand_220 k195 Q x1 x2 x5 S → va_P g vwCl (wM ct ad S) H → va_D A (wM ct ad S) → va_S A s.heap H locs → lv_has ls 6 [(0, .ref (ad 0)), (1, .int x1), (2, .int x2), (5, .int x5)] → W p l e R s m args below meth c H locs 0 0 QQ (F0 m 220 ls []) := by
    intro k195 hk195 x1 x2 x5 S H locs ls h hP hD hS hl
    refine lv_iconst (v := 1) C.1 C.2.1 dX7_mustStand_220 (by decide) ?_
    refine lv_goto (tgt := 225) C.1 C.2.1 dX7_mustStand_221 (by decide) ?_
    exact B225 k195 hk195 x1 x2 x5 (1 : Int32) S H locs ls h hP hD hS (lv_sub hl [0, 1, 2, 3] rfl)
  have B195 : ∀ (k195 : Int32 → Int32 → Int32 → Int32 → St → Prop) (hk195 : ∀ (x1 : Int32) (x2 : Int32) (x4 : Int32) (x5 : Int32) (S : St) (H : Heap) (locs : List Loc) (ls : Array Slot), k195 x1 x2 x4 x5 S → va_P g vwCl (wM ct ad S) H → va_D A (wM ct ad S) → va_S A s.heap H locs → lv_has ls 6 [(0, .ref (ad 0)), (1, .int x1), (2, .int x2), (4, .int x4), (5, .int x5)] → W p l e R s m args below meth c H locs 0 0 QQ (F0 m 195 ls [])) (x1 : Int32) (x2 : Int32) (x4 : Int32) (x5 : Int32) (S : St) (H : Heap) (locs : List Loc) (ls : Array Slot), bX7_mustStand_195 k195 Q x1 x2 x4 x5 S → va_P g vwCl (wM ct ad S) H → va_D A (wM ct ad S) → va_S A s.heap H locs → lv_has ls 6 [(0, .ref (ad 0)), (1, .int x1), (2, .int x2), (4, .int x4), (5, .int x5)] → W p l e R s m args below meth c H locs 0 0 QQ (F0 m 195 ls []) := by
    intro k195 hk195 x1 x2 x4 x5 S H locs ls h hP hD hS hl
    refine lv_iload C.1 C.2.1 dX7_mustStand_195 (lv_at hl 4 rfl) ?_
    refine lv_iload_n C.1 C.2.1 dX7_mustStand_197 rfl (lv_at hl 2 rfl) ?_
    refine lv_icmp_ge (tgt := 233) C.1 C.2.1 dX7_mustStand_198 (by decide) (fun c10 => ?_) (fun c10 => ?_)
    · have h := h.1 c10
      refine lv_aload_n C.1 C.2.1 dX7_mustStand_233 rfl (lv_at hl 0 rfl) ?_
      refine lv_iload_n C.1 C.2.1 dX7_mustStand_234 rfl (lv_at hl 2 rfl) ?_
      refine g_callVi (w := wM ct ad) C hK hN hA hP hD hS (mX7_writes l g ct ad H.size S x2  _ h) (cwV 1 C.2.2.2.2 gX7_mustStand_X7_writes rfl rfl rfl (by decide +kernel) ⟨Nat.le_trans (by decide) hRf, Nat.le_trans (by decide) hRl⟩) (va_recv hK hP (ci := 7) (q0 := 0) rfl rfl) rfl hl.1 rfl (Nat.le_of_ble_eq_true rfl) dX7_mustStand_235 ⟨Nat.zero_le _, Nat.zero_le _⟩ (fun r3 S2 H locs h hP hD hS => ?_)
      refine lv_if_eq (tgt := 250) C.1 C.2.1 dX7_mustStand_238 (by decide) (fun c5 => ?_) (fun c5 => ?_)
      · have h := h.1 c5
        exact B250  S2 H locs ls h hP hD hS (lv_sub hl [0] rfl)
      · have h := h.2 c5
        refine lv_iload C.1 C.2.1 dX7_mustStand_241 (lv_at hl 3 rfl) ?_
        refine lv_if_eq (tgt := 250) C.1 C.2.1 dX7_mustStand_243 (by decide) (fun c4 => ?_) (fun c4 => ?_)
        · have h := h.1 c4
          exact B250  S2 H locs ls h hP hD hS (lv_sub hl [0] rfl)
        · have h := h.2 c4
          refine lv_iconst (v := 1) C.1 C.2.1 dX7_mustStand_246 (by decide) ?_
          refine lv_goto (tgt := 251) C.1 C.2.1 dX7_mustStand_247 (by decide) ?_
          exact B251 (1 : Int32) S2 H locs ls h hP hD hS (lv_sub hl [0] rfl)
    · have h := h.2 c10
      refine lv_iload C.1 C.2.1 dX7_mustStand_201 (lv_at hl 3 rfl) ?_
      refine lv_if_ne (tgt := 220) C.1 C.2.1 dX7_mustStand_203 (by decide) (fun c9 => ?_) (fun c9 => ?_)
      · have h := h.1 c9
        exact B220 k195 hk195 x1 x2 x5 S H locs ls h hP hD hS (lv_sub hl [0, 1, 2, 4] rfl)
      · have h := h.2 c9
        refine lv_aload_n C.1 C.2.1 dX7_mustStand_206 rfl (lv_at hl 0 rfl) ?_
        refine mg_byPlace C hinX7 hK hP (by decide +kernel) dX7_mustStand_207 ?_
        refine lv_iload C.1 C.2.1 dX7_mustStand_210 (lv_at hl 4 rfl) ?_
        obtain ⟨g6, h⟩ := h
        refine ma_byPlace C hK hP g6  rfl dX7_mustStand_212 ?_
        refine lv_iload_n C.1 C.2.1 dX7_mustStand_213 rfl (lv_at hl 1 rfl) ?_
        refine g_callS (w := wM ct ad) C hK hN hA hP hD hS (mX7_needs l g (mT ct) S H.size (S.1 20 (Int32.toNatClampNeg x5)) x1 _ h) (va_cwS 2 C.2.2.2.2 gX7_mustStand_X7_needs rfl rfl rfl (by decide +kernel) ⟨Nat.le_trans (by decide) hRf, Nat.le_trans (by decide) hRl⟩) rfl hl.1 rfl (Nat.le_of_ble_eq_true rfl) dX7_mustStand_214 ⟨Nat.zero_le _, Nat.zero_le _⟩ (fun r7 H locs h hP hD hS => ?_)
        refine lv_if_eq (tgt := 224) C.1 C.2.1 dX7_mustStand_217 (by decide) (fun c8 => ?_) (fun c8 => ?_)
        · have h := h.1 c8
          refine lv_iconst (v := 0) C.1 C.2.1 dX7_mustStand_224 (by decide) ?_
          exact B225 k195 hk195 x1 x2 x5 (0 : Int32) S H locs ls h hP hD hS (lv_sub hl [0, 1, 2, 4] rfl)
        · have h := h.2 c8
          exact B220 k195 hk195 x1 x2 x5 S H locs ls h hP hD hS (lv_sub hl [0, 1, 2, 4] rfl)
  have L195 : ∀ (N : Nat) (x1 : Int32) (x2 : Int32) (x4 : Int32) (x5 : Int32) (S : St) (H : Heap) (locs : List Loc) (ls : Array Slot), itr (F := Int32 → Int32 → Int32 → Int32 → St → Prop) (fun _ _ _ _ _ => False) (fun k195 x1 x2 x4 x5 S => bX7_mustStand_195 k195 Q x1 x2 x4 x5 S) N x1 x2 x4 x5 S → va_P g vwCl (wM ct ad S) H → va_D A (wM ct ad S) → va_S A s.heap H locs → lv_has ls 6 [(0, .ref (ad 0)), (1, .int x1), (2, .int x2), (4, .int x4), (5, .int x5)] → W p l e R s m args below meth c H locs 0 0 QQ (F0 m 195 ls []) := by
    intro N
    induction N with
    | zero => intro x1 x2 x4 x5 S H locs ls h hP hD hS hl; exact False.elim h
    | succ N ih => intro x1 x2 x4 x5 S H locs ls h hP hD hS hl; exact B195  (itr (F := Int32 → Int32 → Int32 → Int32 → St → Prop) (fun _ _ _ _ _ => False) (fun k195 x1 x2 x4 x5 S => bX7_mustStand_195 k195 Q x1 x2 x4 x5 S) N) ih x1 x2 x4 x5 S H locs ls h  hP hD hS hl
  have B187 : ∀ (x1 : Int32) (x2 : Int32) (S : St) (H : Heap) (locs : List Loc) (ls : Array Slot), bX7_mustStand_187 Q x1 x2 S → va_P g vwCl (wM ct ad S) H → va_D A (wM ct ad S) → va_S A s.heap H locs → lv_has ls 6 [(0, .ref (ad 0)), (1, .int x1), (2, .int x2)] → W p l e R s m args below meth c H locs 0 0 QQ (F0 m 187 ls []) := by
    intro x1 x2 S H locs ls h hP hD hS hl
    refine lv_iconst (v := 0) C.1 C.2.1 dX7_mustStand_187 (by decide) ?_
    refine lv_istore (lv' := [(4, .int (0 : Int32)), (0, .ref (ad 0)), (1, .int x1), (2, .int x2)]) C.1 C.2.1 dX7_mustStand_188 hl (by decide) rfl (fun ls hl => ?_)
    refine lv_iload_n C.1 C.2.1 dX7_mustStand_190 rfl (lv_at hl 2 rfl) ?_
    refine lv_iconst (v := 1) C.1 C.2.1 dX7_mustStand_191 (by decide) ?_
    refine lv_iadd C.1 C.2.1 dX7_mustStand_192 ?_
    refine lv_topi (fun y11 ey11 => ?_)
    have h := h y11 ey11
    refine lv_istore (lv' := [(5, .int y11), (4, .int (0 : Int32)), (0, .ref (ad 0)), (1, .int x1), (2, .int x2)]) C.1 C.2.1 dX7_mustStand_193 hl (by decide) rfl (fun ls hl => ?_)
    obtain ⟨N, h⟩ := h
    exact L195 N x1 x2 (0 : Int32) y11 S H locs ls h hP hD hS (lv_sub hl [2, 3, 4, 1, 0] rfl)
  have B138 : ∀ (x1 : Int32) (x2 : Int32) (S : St) (H : Heap) (locs : List Loc) (ls : Array Slot), bX7_mustStand_138 Q x1 x2 S → va_P g vwCl (wM ct ad S) H → va_D A (wM ct ad S) → va_S A s.heap H locs → lv_has ls 6 [(0, .ref (ad 0)), (1, .int x1), (2, .int x2)] → W p l e R s m args below meth c H locs 0 0 QQ (F0 m 138 ls []) := by
    intro x1 x2 S H locs ls h hP hD hS hl
    refine lv_aload_n C.1 C.2.1 dX7_mustStand_138 rfl (lv_at hl 0 rfl) ?_
    refine mg_byPlace C hinX7 hK hP (by decide +kernel) dX7_mustStand_139 ?_
    refine lv_iload_n C.1 C.2.1 dX7_mustStand_142 rfl (lv_at hl 2 rfl) ?_
    obtain ⟨g12, h⟩ := h
    refine ma_byPlace C hK hP g12  rfl dX7_mustStand_143 ?_
    refine lv_iload_n C.1 C.2.1 dX7_mustStand_144 rfl (lv_at hl 1 rfl) ?_
    refine g_callS (w := wM ct ad) C hK hN hA hP hD hS (mX7_needs l g (mT ct) S H.size (S.1 20 (Int32.toNatClampNeg x2)) x1 _ h) (va_cwS 2 C.2.2.2.2 gX7_mustStand_X7_needs rfl rfl rfl (by decide +kernel) ⟨Nat.le_trans (by decide) hRf, Nat.le_trans (by decide) hRl⟩) rfl hl.1 rfl (Nat.le_of_ble_eq_true rfl) dX7_mustStand_145 ⟨Nat.zero_le _, Nat.zero_le _⟩ (fun r13 H locs h hP hD hS => ?_)
    refine lv_if_ne (tgt := 185) C.1 C.2.1 dX7_mustStand_148 (by decide) (fun c23 => ?_) (fun c23 => ?_)
    · have h := h.1 c23
      exact B185  S H locs ls h hP hD hS (lv_sub hl [0] rfl)
    · have h := h.2 c23
      refine lv_aload_n C.1 C.2.1 dX7_mustStand_151 rfl (lv_at hl 0 rfl) ?_
      refine mg_byValue C hinX7 hK hP (by decide +kernel) dX7_mustStand_152 ?_
      refine lv_iload_n C.1 C.2.1 dX7_mustStand_155 rfl (lv_at hl 2 rfl) ?_
      obtain ⟨g14, h⟩ := h
      refine ma_byValue C hK hP g14  rfl dX7_mustStand_156 ?_
      refine lv_iload_n C.1 C.2.1 dX7_mustStand_157 rfl (lv_at hl 1 rfl) ?_
      refine g_callS (w := wM ct ad) C hK hN hA hP hD hS (mX7_needs l g (mT ct) S H.size (S.1 21 (Int32.toNatClampNeg x2)) x1 _ h) (va_cwS 2 C.2.2.2.2 gX7_mustStand_X7_needs rfl rfl rfl (by decide +kernel) ⟨Nat.le_trans (by decide) hRf, Nat.le_trans (by decide) hRl⟩) rfl hl.1 rfl (Nat.le_of_ble_eq_true rfl) dX7_mustStand_158 ⟨Nat.zero_le _, Nat.zero_le _⟩ (fun r15 H locs h hP hD hS => ?_)
      refine lv_if_ne (tgt := 185) C.1 C.2.1 dX7_mustStand_161 (by decide) (fun c22 => ?_) (fun c22 => ?_)
      · have h := h.1 c22
        exact B185  S H locs ls h hP hD hS (lv_sub hl [0] rfl)
      · have h := h.2 c22
        refine lv_aload_n C.1 C.2.1 dX7_mustStand_164 rfl (lv_at hl 0 rfl) ?_
        refine lv_iload_n C.1 C.2.1 dX7_mustStand_165 rfl (lv_at hl 2 rfl) ?_
        refine g_callVi (w := wM ct ad) C hK hN hA hP hD hS (mX7_writes l g ct ad H.size S x2  _ h) (cwV 1 C.2.2.2.2 gX7_mustStand_X7_writes rfl rfl rfl (by decide +kernel) ⟨Nat.le_trans (by decide) hRf, Nat.le_trans (by decide) hRl⟩) (va_recv hK hP (ci := 7) (q0 := 0) rfl rfl) rfl hl.1 rfl (Nat.le_of_ble_eq_true rfl) dX7_mustStand_166 ⟨Nat.zero_le _, Nat.zero_le _⟩ (fun r17 S16 H locs h hP hD hS => ?_)
        refine lv_if_eq (tgt := 187) C.1 C.2.1 dX7_mustStand_169 (by decide) (fun c21 => ?_) (fun c21 => ?_)
        · have h := h.1 c21
          exact B187 x1 x2 S16 H locs ls h hP hD hS (lv_sub hl [0, 1, 2] rfl)
        · have h := h.2 c21
          refine lv_aload_n C.1 C.2.1 dX7_mustStand_172 rfl (lv_at hl 0 rfl) ?_
          refine mg_byWay C hinX7 hK hP (by decide +kernel) dX7_mustStand_173 ?_
          refine lv_iload_n C.1 C.2.1 dX7_mustStand_176 rfl (lv_at hl 2 rfl) ?_
          obtain ⟨g18, h⟩ := h
          refine ma_byWay C hK hP g18  rfl dX7_mustStand_177 ?_
          refine lv_iload_n C.1 C.2.1 dX7_mustStand_178 rfl (lv_at hl 1 rfl) ?_
          refine g_callS (w := wM ct ad) C hK hN hA hP hD hS (mX7_needs l g (mT ct) S16 H.size (S16.1 22 (Int32.toNatClampNeg x2)) x1 _ h) (va_cwS 2 C.2.2.2.2 gX7_mustStand_X7_needs rfl rfl rfl (by decide +kernel) ⟨Nat.le_trans (by decide) hRf, Nat.le_trans (by decide) hRl⟩) rfl hl.1 rfl (Nat.le_of_ble_eq_true rfl) dX7_mustStand_179 ⟨Nat.zero_le _, Nat.zero_le _⟩ (fun r19 H locs h hP hD hS => ?_)
          refine lv_if_eq (tgt := 187) C.1 C.2.1 dX7_mustStand_182 (by decide) (fun c20 => ?_) (fun c20 => ?_)
          · have h := h.1 c20
            exact B187 x1 x2 S16 H locs ls h hP hD hS (lv_sub hl [0, 1, 2] rfl)
          · have h := h.2 c20
            exact B185  S16 H locs ls h hP hD hS (lv_sub hl [0] rfl)
  have B118 : ∀ (x1 : Int32) (x2 : Int32) (S : St) (H : Heap) (locs : List Loc) (ls : Array Slot), bX7_mustStand_118 Q x1 x2 S → va_P g vwCl (wM ct ad S) H → va_D A (wM ct ad S) → va_S A s.heap H locs → lv_has ls 6 [(0, .ref (ad 0)), (1, .int x1), (2, .int x2)] → W p l e R s m args below meth c H locs 0 0 QQ (F0 m 118 ls []) := by
    intro x1 x2 S H locs ls h hP hD hS hl
    refine lv_aload_n C.1 C.2.1 dX7_mustStand_118 rfl (lv_at hl 0 rfl) ?_
    refine mg_kindOf C hinX7 hK hP (by decide +kernel) dX7_mustStand_119 ?_
    refine lv_iload_n C.1 C.2.1 dX7_mustStand_122 rfl (lv_at hl 2 rfl) ?_
    obtain ⟨g24, h⟩ := h
    refine ma_kindOf C hK hP g24  rfl dX7_mustStand_123 ?_
    refine lv_iconst (v := 5) C.1 C.2.1 dX7_mustStand_124 (by decide) ?_
    refine lv_icmp_ne (tgt := 138) C.1 C.2.1 dX7_mustStand_125 (by decide) (fun c27 => ?_) (fun c27 => ?_)
    · have h := h.1 c27
      exact B138 x1 x2 S H locs ls h hP hD hS (lv_sub hl [0, 1, 2] rfl)
    · have h := h.2 c27
      refine lv_aload_n C.1 C.2.1 dX7_mustStand_128 rfl (lv_at hl 0 rfl) ?_
      refine mg_reserve C hinX7 hK hP (by decide +kernel) dX7_mustStand_129 ?_
      refine lv_iload_n C.1 C.2.1 dX7_mustStand_132 rfl (lv_at hl 2 rfl) ?_
      obtain ⟨g25, h⟩ := h
      refine ma_reserve C hK hP g25  rfl dX7_mustStand_133 ?_
      refine lv_iload_n C.1 C.2.1 dX7_mustStand_134 rfl (lv_at hl 1 rfl) ?_
      refine lv_icmp_eq (tgt := 185) C.1 C.2.1 dX7_mustStand_135 (by decide) (fun c26 => ?_) (fun c26 => ?_)
      · have h := h.1 c26
        exact B185  S H locs ls h hP hD hS (lv_sub hl [0] rfl)
      · have h := h.2 c26
        exact B138 x1 x2 S H locs ls h hP hD hS (lv_sub hl [0, 1, 2] rfl)
  have B67 : ∀ (x1 : Int32) (x2 : Int32) (S : St) (H : Heap) (locs : List Loc) (ls : Array Slot), bX7_mustStand_67 Q x1 x2 S → va_P g vwCl (wM ct ad S) H → va_D A (wM ct ad S) → va_S A s.heap H locs → lv_has ls 6 [(0, .ref (ad 0)), (1, .int x1), (2, .int x2)] → W p l e R s m args below meth c H locs 0 0 QQ (F0 m 67 ls []) := by
    intro x1 x2 S H locs ls h hP hD hS hl
    refine lv_aload_n C.1 C.2.1 dX7_mustStand_67 rfl (lv_at hl 0 rfl) ?_
    refine lv_iload_n C.1 C.2.1 dX7_mustStand_68 rfl (lv_at hl 1 rfl) ?_
    refine lv_iload_n C.1 C.2.1 dX7_mustStand_69 rfl (lv_at hl 2 rfl) ?_
    refine g_callVi (w := wM ct ad) C hK hN hA hP hD hS (mX7_isFenced l g ct ad H.size S x1 x2  _ h) (cwV 2 C.2.2.2.2 gX7_mustStand_X7_isFenced rfl rfl rfl (by decide +kernel) ⟨Nat.le_trans (by decide) hRf, Nat.le_trans (by decide) hRl⟩) (va_recv hK hP (ci := 7) (q0 := 0) rfl rfl) rfl hl.1 rfl (Nat.le_of_ble_eq_true rfl) dX7_mustStand_70 ⟨Nat.zero_le _, Nat.zero_le _⟩ (fun r29 S28 H locs h hP hD hS => ?_)
    refine lv_if_ne (tgt := 116) C.1 C.2.1 dX7_mustStand_73 (by decide) (fun c38 => ?_) (fun c38 => ?_)
    · have h := h.1 c38
      exact B116  S28 H locs ls h hP hD hS (lv_sub hl [0] rfl)
    · have h := h.2 c38
      refine lv_aload_n C.1 C.2.1 dX7_mustStand_76 rfl (lv_at hl 0 rfl) ?_
      refine mg_marks C hinX7 hK hP (by decide +kernel) dX7_mustStand_77 ?_
      refine lv_iload_n C.1 C.2.1 dX7_mustStand_80 rfl (lv_at hl 1 rfl) ?_
      obtain ⟨g30, h⟩ := h
      refine ma_marks C hK hP g30  rfl dX7_mustStand_81 ?_
      refine lv_iconst (v := 1) C.1 C.2.1 dX7_mustStand_82 (by decide) ?_
      refine lv_iand C.1 C.2.1 dX7_mustStand_83 ?_
      refine lv_if_ne (tgt := 116) C.1 C.2.1 dX7_mustStand_84 (by decide) (fun c37 => ?_) (fun c37 => ?_)
      · have h := h.1 c37
        exact B116  S28 H locs ls h hP hD hS (lv_sub hl [0] rfl)
      · have h := h.2 c37
        refine lv_aload_n C.1 C.2.1 dX7_mustStand_87 rfl (lv_at hl 0 rfl) ?_
        refine mg_marks C hinX7 hK hP (by decide +kernel) dX7_mustStand_88 ?_
        refine lv_iload_n C.1 C.2.1 dX7_mustStand_91 rfl (lv_at hl 2 rfl) ?_
        obtain ⟨g31, h⟩ := h
        refine ma_marks C hK hP g31  rfl dX7_mustStand_92 ?_
        refine lv_iconst (v := 2) C.1 C.2.1 dX7_mustStand_93 (by decide) ?_
        refine lv_iand C.1 C.2.1 dX7_mustStand_94 ?_
        refine lv_if_ne (tgt := 116) C.1 C.2.1 dX7_mustStand_95 (by decide) (fun c36 => ?_) (fun c36 => ?_)
        · have h := h.1 c36
          exact B116  S28 H locs ls h hP hD hS (lv_sub hl [0] rfl)
        · have h := h.2 c36
          refine lv_aload_n C.1 C.2.1 dX7_mustStand_98 rfl (lv_at hl 0 rfl) ?_
          refine mg_marks C hinX7 hK hP (by decide +kernel) dX7_mustStand_99 ?_
          refine lv_iload_n C.1 C.2.1 dX7_mustStand_102 rfl (lv_at hl 1 rfl) ?_
          obtain ⟨g32, h⟩ := h
          refine ma_marks C hK hP g32  rfl dX7_mustStand_103 ?_
          refine lv_if_eq (tgt := 118) C.1 C.2.1 dX7_mustStand_104 (by decide) (fun c35 => ?_) (fun c35 => ?_)
          · have h := h.1 c35
            exact B118 x1 x2 S28 H locs ls h hP hD hS (lv_sub hl [0, 1, 2] rfl)
          · have h := h.2 c35
            refine lv_aload_n C.1 C.2.1 dX7_mustStand_107 rfl (lv_at hl 0 rfl) ?_
            refine mg_marks C hinX7 hK hP (by decide +kernel) dX7_mustStand_108 ?_
            refine lv_iload_n C.1 C.2.1 dX7_mustStand_111 rfl (lv_at hl 2 rfl) ?_
            obtain ⟨g33, h⟩ := h
            refine ma_marks C hK hP g33  rfl dX7_mustStand_112 ?_
            refine lv_if_eq (tgt := 118) C.1 C.2.1 dX7_mustStand_113 (by decide) (fun c34 => ?_) (fun c34 => ?_)
            · have h := h.1 c34
              exact B118 x1 x2 S28 H locs ls h hP hD hS (lv_sub hl [0, 1, 2] rfl)
            · have h := h.2 c34
              exact B116  S28 H locs ls h hP hD hS (lv_sub hl [0] rfl)
  have B54 : ∀ (x1 : Int32) (x2 : Int32) (t0 : Int32) (S : St) (H : Heap) (locs : List Loc) (ls : Array Slot), bX7_mustStand_54 Q x1 x2 t0 S → va_P g vwCl (wM ct ad S) H → va_D A (wM ct ad S) → va_S A s.heap H locs → lv_has ls 6 [(0, .ref (ad 0)), (1, .int x1), (2, .int x2)] → W p l e R s m args below meth c H locs 0 0 QQ (F0 m 54 ls [.int t0]) := by
    intro x1 x2 t0 S H locs ls h hP hD hS hl
    refine lv_istore_n (lv' := [(3, .int t0), (0, .ref (ad 0)), (1, .int x1), (2, .int x2)]) C.1 C.2.1 dX7_mustStand_54 rfl hl (by decide) rfl (fun ls hl => ?_)
    refine lv_aload_n C.1 C.2.1 dX7_mustStand_55 rfl (lv_at hl 1 rfl) ?_
    refine lv_iload_n C.1 C.2.1 dX7_mustStand_56 rfl (lv_at hl 3 rfl) ?_
    refine g_callVi (w := wM ct ad) C hK hN hA hP hD hS (mX7_writes l g ct ad H.size S x2  _ h) (cwV 1 C.2.2.2.2 gX7_mustStand_X7_writes rfl rfl rfl (by decide +kernel) ⟨Nat.le_trans (by decide) hRf, Nat.le_trans (by decide) hRl⟩) (va_recv hK hP (ci := 7) (q0 := 0) rfl rfl) rfl hl.1 rfl (Nat.le_of_ble_eq_true rfl) dX7_mustStand_57 ⟨Nat.zero_le _, Nat.zero_le _⟩ (fun r40 S39 H locs h hP hD hS => ?_)
    refine lv_if_eq (tgt := 67) C.1 C.2.1 dX7_mustStand_60 (by decide) (fun c42 => ?_) (fun c42 => ?_)
    · have h := h.1 c42
      exact B67 x1 x2 S39 H locs ls h hP hD hS (lv_sub hl [1, 2, 3] rfl)
    · have h := h.2 c42
      refine lv_iload_n C.1 C.2.1 dX7_mustStand_63 rfl (lv_at hl 0 rfl) ?_
      refine lv_if_ne (tgt := 116) C.1 C.2.1 dX7_mustStand_64 (by decide) (fun c41 => ?_) (fun c41 => ?_)
      · have h := h.1 c41
        exact B116  S39 H locs ls h hP hD hS (lv_sub hl [1] rfl)
      · have h := h.2 c41
        exact B67 x1 x2 S39 H locs ls h hP hD hS (lv_sub hl [1, 2, 3] rfl)
  have B34 : ∀ (x1 : Int32) (x2 : Int32) (S : St) (H : Heap) (locs : List Loc) (ls : Array Slot), bX7_mustStand_34 Q x1 x2 S → va_P g vwCl (wM ct ad S) H → va_D A (wM ct ad S) → va_S A s.heap H locs → lv_has ls 6 [(0, .ref (ad 0)), (1, .int x1), (2, .int x2)] → W p l e R s m args below meth c H locs 0 0 QQ (F0 m 34 ls []) := by
    intro x1 x2 S H locs ls h hP hD hS hl
    refine lv_aload_n C.1 C.2.1 dX7_mustStand_34 rfl (lv_at hl 0 rfl) ?_
    refine mg_locationOf C hinX7 hK hP (by decide +kernel) dX7_mustStand_35 ?_
    refine lv_iload_n C.1 C.2.1 dX7_mustStand_38 rfl (lv_at hl 1 rfl) ?_
    obtain ⟨g43, h⟩ := h
    refine ma_locationOf C hK hP g43  rfl dX7_mustStand_39 ?_
    refine lv_aload_n C.1 C.2.1 dX7_mustStand_40 rfl (lv_at hl 0 rfl) ?_
    refine mg_locationOf C hinX7 hK hP (by decide +kernel) dX7_mustStand_41 ?_
    refine lv_iload_n C.1 C.2.1 dX7_mustStand_44 rfl (lv_at hl 2 rfl) ?_
    obtain ⟨g44, h⟩ := h
    refine ma_locationOf C hK hP g44  rfl dX7_mustStand_45 ?_
    refine lv_icmp_ne (tgt := 53) C.1 C.2.1 dX7_mustStand_46 (by decide) (fun c45 => ?_) (fun c45 => ?_)
    · have h := h.1 c45
      refine lv_iconst (v := 0) C.1 C.2.1 dX7_mustStand_53 (by decide) ?_
      exact B54 x1 x2 (0 : Int32) S H locs ls h hP hD hS (lv_sub hl [0, 1, 2] rfl)
    · have h := h.2 c45
      refine lv_iconst (v := 1) C.1 C.2.1 dX7_mustStand_49 (by decide) ?_
      refine lv_goto (tgt := 54) C.1 C.2.1 dX7_mustStand_50 (by decide) ?_
      exact B54 x1 x2 (1 : Int32) S H locs ls h hP hD hS (lv_sub hl [0, 1, 2] rfl)
  refine lv_aload_n C.1 C.2.1 dX7_mustStand_0 rfl (lv_at hl 0 rfl) ?_
  refine mg_model C hinX7 hK hP (by decide +kernel) dX7_mustStand_1 ?_
  refine lv_iconst (v := 2) C.1 C.2.1 dX7_mustStand_4 (by decide) ?_
  refine lv_icmp_eq (tgt := 32) C.1 C.2.1 dX7_mustStand_5 (by decide) (fun c53 => ?_) (fun c53 => ?_)
  · have h := h.1 c53
    exact B32  S H locs ls h hP hD hS (lv_sub hl [0] rfl)
  · have h := h.2 c53
    refine lv_aload_n C.1 C.2.1 dX7_mustStand_8 rfl (lv_at hl 0 rfl) ?_
    refine mg_model C hinX7 hK hP (by decide +kernel) dX7_mustStand_9 ?_
    refine lv_iconst (v := 1) C.1 C.2.1 dX7_mustStand_12 (by decide) ?_
    refine lv_icmp_ne (tgt := 34) C.1 C.2.1 dX7_mustStand_13 (by decide) (fun c52 => ?_) (fun c52 => ?_)
    · have h := h.1 c52
      exact B34 x1 x2 S H locs ls h hP hD hS (lv_sub hl [0, 1, 2] rfl)
    · have h := h.2 c52
      refine lv_aload_n C.1 C.2.1 dX7_mustStand_16 rfl (lv_at hl 0 rfl) ?_
      refine lv_iload_n C.1 C.2.1 dX7_mustStand_17 rfl (lv_at hl 1 rfl) ?_
      refine g_callVi (w := wM ct ad) C hK hN hA hP hD hS (mX7_reads l g ct ad H.size S x1  _ h) (cwV 1 C.2.2.2.2 gX7_mustStand_X7_reads rfl rfl rfl (by decide +kernel) ⟨Nat.le_trans (by decide) hRf, Nat.le_trans (by decide) hRl⟩) (va_recv hK hP (ci := 7) (q0 := 0) rfl rfl) rfl hl.1 rfl (Nat.le_of_ble_eq_true rfl) dX7_mustStand_18 ⟨Nat.zero_le _, Nat.zero_le _⟩ (fun r47 S46 H locs h hP hD hS => ?_)
      refine lv_if_ne (tgt := 32) C.1 C.2.1 dX7_mustStand_21 (by decide) (fun c51 => ?_) (fun c51 => ?_)
      · have h := h.1 c51
        exact B32  S46 H locs ls h hP hD hS (lv_sub hl [0] rfl)
      · have h := h.2 c51
        refine lv_aload_n C.1 C.2.1 dX7_mustStand_24 rfl (lv_at hl 0 rfl) ?_
        refine lv_iload_n C.1 C.2.1 dX7_mustStand_25 rfl (lv_at hl 2 rfl) ?_
        refine g_callVi (w := wM ct ad) C hK hN hA hP hD hS (mX7_writes l g ct ad H.size S46 x2  _ h) (cwV 1 C.2.2.2.2 gX7_mustStand_X7_writes rfl rfl rfl (by decide +kernel) ⟨Nat.le_trans (by decide) hRf, Nat.le_trans (by decide) hRl⟩) (va_recv hK hP (ci := 7) (q0 := 0) rfl rfl) rfl hl.1 rfl (Nat.le_of_ble_eq_true rfl) dX7_mustStand_26 ⟨Nat.zero_le _, Nat.zero_le _⟩ (fun r49 S48 H locs h hP hD hS => ?_)
        refine lv_if_eq (tgt := 34) C.1 C.2.1 dX7_mustStand_29 (by decide) (fun c50 => ?_) (fun c50 => ?_)
        · have h := h.1 c50
          exact B34 x1 x2 S48 H locs ls h hP hD hS (lv_sub hl [0, 1, 2] rfl)
        · have h := h.2 c50
          exact B32  S48 H locs ls h hP hD hS (lv_sub hl [0] rfl)
theorem mX7_mustStand (l : Launch) (g : va_G) (ct : Nat → ClassId) (ad : Nat → Nat) (sz : Nat) (S : St) (x1 : Int32) (x2 : Int32) (Q : Int32 → St → Prop) (h : pX7_mustStand x1 x2 S Q) : Met l yX7_mustStand wsX7_mustStand ({ frames := 3, cells := 0, slots := 0, locals := 67 }) (gPc g (mT ct) (wM ct ad S) sz [.ref (ad 0), .int x1, .int x2]) (va_Qi Q (gB g (mT ct) (wM ct ad) (va_A (wM ct ad S) sz)) (va_A (wM ct ad S) sz)) 0 0 (va_A (wM ct ad S) sz) :=
  g_metZ (w := wM ct ad) (cc := cX7_mustStand) (maxL := 6) (by decide) rfl rfl (Nat.le_of_ble_eq_true rfl) rfl (fun p e s m args below meth c QQ A C hK hN hA hret H locs ls hP hD hS hl => kX7_mustStand C hK hN hA (Nat.le_refl _) (Nat.le_refl _) Q hret x1 x2 S h H locs ls hP hD hS hl)

def bX7_findMust_64 (k2 : Int32 → St → Prop) (k12 : Int32 → Int32 → St → Prop) (Q : St → Prop) (x1 : Int32) (x2 : Int32) (t1 : Int32) (t2 : Int32) (S : St) : Prop :=
  (vp_in t1 36 ∧ zb t2 ∧ ∀ S1 : St, S1 = wr S 29 (Int32.toNatClampNeg t1) t2 → (∀ y3 : Int32, y3 = x2 + (1 : Int32) → k12 x1 y3 S1))
def bX7_findMust_63 (k2 : Int32 → St → Prop) (k12 : Int32 → Int32 → St → Prop) (Q : St → Prop) (x1 : Int32) (x2 : Int32) (t1 : Int32) (S : St) : Prop :=
  bX7_findMust_64 k2 k12 Q x1 x2 t1 (0 : Int32) S
def bX7_findMust_12 (k2 : Int32 → St → Prop) (k12 : Int32 → Int32 → St → Prop) (Q : St → Prop) (x1 : Int32) (x2 : Int32) (S : St) : Prop :=
  (((S.1 13 0) ≤ x2 → (∀ y4 : Int32, y4 = x1 + (1 : Int32) → k2 y4 S)) ∧ (¬ ((S.1 13 0) ≤ x2) → ((x2 ≤ x1 → bX7_findMust_63 k2 k12 Q x1 x2 (((6 : Int32) * x1) + x2) S) ∧ (¬ (x2 ≤ x1) → (vp_in x1 6 ∧ (vp_in x2 6 ∧ ((¬ (S.1 14 (Int32.toNatClampNeg x1)) = (S.1 14 (Int32.toNatClampNeg x2)) → bX7_findMust_63 k2 k12 Q x1 x2 (((6 : Int32) * x1) + x2) S) ∧ ((S.1 14 (Int32.toNatClampNeg x1)) = (S.1 14 (Int32.toNatClampNeg x2)) → pX7_mustStand x1 x2 S (fun (r8 : Int32) (S7 : St) => ((r8 = 0 → bX7_findMust_63 k2 k12 Q x1 x2 (((6 : Int32) * x1) + x2) S7) ∧ (¬ (r8 = 0) → bX7_findMust_64 k2 k12 Q x1 x2 (((6 : Int32) * x1) + x2) (1 : Int32) S7)))))))))))
def bX7_findMust_2 (k2 : Int32 → St → Prop) (Q : St → Prop) (x1 : Int32) (S : St) : Prop :=
  (((S.1 13 0) ≤ x1 → Q S) ∧ (¬ ((S.1 13 0) ≤ x1) → (∃ N : Nat, itr (F := Int32 → Int32 → St → Prop) (fun _ _ _ => False) (fun k12 x1 x2 S => bX7_findMust_12 k2 k12 Q x1 x2 S) N x1 (0 : Int32) S)))
def pX7_findMust (S : St) (Q : St → Prop) : Prop :=
  (∃ N : Nat, itr (F := Int32 → St → Prop) (fun _ _ => False) (fun k2 x1 S => bX7_findMust_2 k2 Q x1 S) N (0 : Int32) S)
set_option maxHeartbeats 40000000 in
set_option maxRecDepth 100000 in
theorem kX7_findMust {p : Program} {l : Launch} {e : Env} {R : Room} {s : State} {m : MethodId} {args : Array Value} {below : List Frame} {meth : Method} {c : Code} {QQ : State → Prop} {g : va_G} {ct : Nat → ClassId} {ad : Nat → Nat} {A : Nat → Prop} (C : CallFix p m c cX7_findMust 3 s args wsX7_findMust RX7) (hK : va_K g vwCl (mT ct) s) (hN : xN s) (hA : ∀ q, s.heap.size ≤ q → A q) (hRf : 4 ≤ R.frames) (hRl : 92 ≤ R.locals) (Q : St → Prop) (hret : ∀ (pc : Nat) (S : St) (H : Heap) (locs : List Loc) (ls : Array Slot), decode cX7_findMust pc = .ok (.return_, 1) → Q S → va_P g vwCl (wM ct ad S) H → va_D A (wM ct ad S) → va_S A s.heap H locs → W p l e R s m args below meth c H locs 0 0 QQ (F0 m pc ls [])) (S : St) (h : pX7_findMust S Q) (H : Heap) (locs : List Loc) (ls : Array Slot) (hP : va_P g vwCl (wM ct ad S) H) (hD : va_D A (wM ct ad S)) (hS : va_S A s.heap H locs) (hl : lv_has ls 3 [(0, .ref (ad 0))]) : W p l e R s m args below meth c H locs 0 0 QQ (F0 m 0 ls []) := by
  have hinX7 : ∀ w ∈ wsX70, w ∈ wsX7_findMust := by decide +kernel
  have B64 : ∀ (k2 : Int32 → St → Prop) (hk2 : ∀ (x1 : Int32) (S : St) (H : Heap) (locs : List Loc) (ls : Array Slot), k2 x1 S → va_P g vwCl (wM ct ad S) H → va_D A (wM ct ad S) → va_S A s.heap H locs → lv_has ls 3 [(0, .ref (ad 0)), (1, .int x1)] → W p l e R s m args below meth c H locs 0 0 QQ (F0 m 2 ls [])) (k12 : Int32 → Int32 → St → Prop) (hk12 : ∀ (x1 : Int32) (x2 : Int32) (S : St) (H : Heap) (locs : List Loc) (ls : Array Slot), k12 x1 x2 S → va_P g vwCl (wM ct ad S) H → va_D A (wM ct ad S) → va_S A s.heap H locs → lv_has ls 3 [(0, .ref (ad 0)), (1, .int x1), (2, .int x2)] → W p l e R s m args below meth c H locs 0 0 QQ (F0 m 12 ls [])) (x1 : Int32) (x2 : Int32) (t1 : Int32) (t2 : Int32) (S : St) (H : Heap) (locs : List Loc) (ls : Array Slot), bX7_findMust_64 k2 k12 Q x1 x2 t1 t2 S → va_P g vwCl (wM ct ad S) H → va_D A (wM ct ad S) → va_S A s.heap H locs → lv_has ls 3 [(0, .ref (ad 0)), (1, .int x1), (2, .int x2)] → W p l e R s m args below meth c H locs 0 0 QQ (F0 m 64 ls [.int t2, .int t1, .ref (ad 22)]) := by
    intro k2 hk2 k12 hk12 x1 x2 t1 t2 S H locs ls h hP hD hS hl
    obtain ⟨g2, h⟩ := h
    obtain ⟨hz, h⟩ := h
    obtain ⟨S1, eS1⟩ : ∃ z : St, z = wr S 29 (Int32.toNatClampNeg t1) t2 := ⟨_, rfl⟩
    have h := h S1 eS1
    refine ms_must C hK hP hD hS  g2 rfl hz dX7_findMust_64 (fun H locs hP hD hS => ?_)
    rw [← eS1] at hP hD
    obtain ⟨y3, ey3⟩ : ∃ z : Int32, z = x2 + (1 : Int32) := ⟨_, rfl⟩
    have h := h y3 ey3
    refine lv_iinc (v := y3) (lv' := [(2, .int y3), (0, .ref (ad 0)), (1, .int x1)]) C.1 C.2.1 dX7_findMust_65 hl (k := 2) rfl (by rw [ey3]; rfl) (by decide) rfl (fun ls hl => ?_)
    refine lv_goto (tgt := 12) C.1 C.2.1 dX7_findMust_68 (by decide) ?_
    exact hk12 x1 y3 S1 H locs ls h hP hD hS (lv_sub hl [1, 2, 0] rfl)
  have B63 : ∀ (k2 : Int32 → St → Prop) (hk2 : ∀ (x1 : Int32) (S : St) (H : Heap) (locs : List Loc) (ls : Array Slot), k2 x1 S → va_P g vwCl (wM ct ad S) H → va_D A (wM ct ad S) → va_S A s.heap H locs → lv_has ls 3 [(0, .ref (ad 0)), (1, .int x1)] → W p l e R s m args below meth c H locs 0 0 QQ (F0 m 2 ls [])) (k12 : Int32 → Int32 → St → Prop) (hk12 : ∀ (x1 : Int32) (x2 : Int32) (S : St) (H : Heap) (locs : List Loc) (ls : Array Slot), k12 x1 x2 S → va_P g vwCl (wM ct ad S) H → va_D A (wM ct ad S) → va_S A s.heap H locs → lv_has ls 3 [(0, .ref (ad 0)), (1, .int x1), (2, .int x2)] → W p l e R s m args below meth c H locs 0 0 QQ (F0 m 12 ls [])) (x1 : Int32) (x2 : Int32) (t1 : Int32) (S : St) (H : Heap) (locs : List Loc) (ls : Array Slot), bX7_findMust_63 k2 k12 Q x1 x2 t1 S → va_P g vwCl (wM ct ad S) H → va_D A (wM ct ad S) → va_S A s.heap H locs → lv_has ls 3 [(0, .ref (ad 0)), (1, .int x1), (2, .int x2)] → W p l e R s m args below meth c H locs 0 0 QQ (F0 m 63 ls [.int t1, .ref (ad 22)]) := by
    intro k2 hk2 k12 hk12 x1 x2 t1 S H locs ls h hP hD hS hl
    refine lv_iconst (v := 0) C.1 C.2.1 dX7_findMust_63 (by decide) ?_
    exact B64 k2 hk2 k12 hk12 x1 x2 t1 (0 : Int32) S H locs ls h hP hD hS (lv_sub hl [0, 1, 2] rfl)
  have B12 : ∀ (k2 : Int32 → St → Prop) (hk2 : ∀ (x1 : Int32) (S : St) (H : Heap) (locs : List Loc) (ls : Array Slot), k2 x1 S → va_P g vwCl (wM ct ad S) H → va_D A (wM ct ad S) → va_S A s.heap H locs → lv_has ls 3 [(0, .ref (ad 0)), (1, .int x1)] → W p l e R s m args below meth c H locs 0 0 QQ (F0 m 2 ls [])) (k12 : Int32 → Int32 → St → Prop) (hk12 : ∀ (x1 : Int32) (x2 : Int32) (S : St) (H : Heap) (locs : List Loc) (ls : Array Slot), k12 x1 x2 S → va_P g vwCl (wM ct ad S) H → va_D A (wM ct ad S) → va_S A s.heap H locs → lv_has ls 3 [(0, .ref (ad 0)), (1, .int x1), (2, .int x2)] → W p l e R s m args below meth c H locs 0 0 QQ (F0 m 12 ls [])) (x1 : Int32) (x2 : Int32) (S : St) (H : Heap) (locs : List Loc) (ls : Array Slot), bX7_findMust_12 k2 k12 Q x1 x2 S → va_P g vwCl (wM ct ad S) H → va_D A (wM ct ad S) → va_S A s.heap H locs → lv_has ls 3 [(0, .ref (ad 0)), (1, .int x1), (2, .int x2)] → W p l e R s m args below meth c H locs 0 0 QQ (F0 m 12 ls []) := by
    intro k2 hk2 k12 hk12 x1 x2 S H locs ls h hP hD hS hl
    refine lv_iload_n C.1 C.2.1 dX7_findMust_12 rfl (lv_at hl 2 rfl) ?_
    refine lv_aload_n C.1 C.2.1 dX7_findMust_13 rfl (lv_at hl 0 rfl) ?_
    refine mg_accesses C hinX7 hK hP (by decide +kernel) dX7_findMust_14 ?_
    refine lv_icmp_ge (tgt := 71) C.1 C.2.1 dX7_findMust_17 (by decide) (fun c12 => ?_) (fun c12 => ?_)
    · have h := h.1 c12
      obtain ⟨y4, ey4⟩ : ∃ z : Int32, z = x1 + (1 : Int32) := ⟨_, rfl⟩
      have h := h y4 ey4
      refine lv_iinc (v := y4) (lv' := [(1, .int y4), (0, .ref (ad 0)), (2, .int x2)]) C.1 C.2.1 dX7_findMust_71 hl (k := 1) rfl (by rw [ey4]; rfl) (by decide) rfl (fun ls hl => ?_)
      refine lv_goto (tgt := 2) C.1 C.2.1 dX7_findMust_74 (by decide) ?_
      exact hk2 y4 S H locs ls h hP hD hS (lv_sub hl [1, 0] rfl)
    · have h := h.2 c12
      refine lv_aload_n C.1 C.2.1 dX7_findMust_20 rfl (lv_at hl 0 rfl) ?_
      refine mg_must C hinX7 hK hP (by decide +kernel) dX7_findMust_21 ?_
      refine lv_bipush (v := 6) C.1 C.2.1 dX7_findMust_24 (by decide) ?_
      refine lv_iload_n C.1 C.2.1 dX7_findMust_26 rfl (lv_at hl 1 rfl) ?_
      refine lv_imul C.1 C.2.1 dX7_findMust_27 ?_
      refine lv_iload_n C.1 C.2.1 dX7_findMust_28 rfl (lv_at hl 2 rfl) ?_
      refine lv_iadd C.1 C.2.1 dX7_findMust_29 ?_
      refine lv_iload_n C.1 C.2.1 dX7_findMust_30 rfl (lv_at hl 1 rfl) ?_
      refine lv_iload_n C.1 C.2.1 dX7_findMust_31 rfl (lv_at hl 2 rfl) ?_
      refine lv_icmp_ge (tgt := 63) C.1 C.2.1 dX7_findMust_32 (by decide) (fun c11 => ?_) (fun c11 => ?_)
      · have h := h.1 c11
        exact B63 k2 hk2 k12 hk12 x1 x2 (((6 : Int32) * x1) + x2) S H locs ls h hP hD hS (lv_sub hl [0, 1, 2] rfl)
      · have h := h.2 c11
        refine lv_aload_n C.1 C.2.1 dX7_findMust_35 rfl (lv_at hl 0 rfl) ?_
        refine mg_hartOf C hinX7 hK hP (by decide +kernel) dX7_findMust_36 ?_
        refine lv_iload_n C.1 C.2.1 dX7_findMust_39 rfl (lv_at hl 1 rfl) ?_
        obtain ⟨g5, h⟩ := h
        refine ma_hartOf C hK hP g5  rfl dX7_findMust_40 ?_
        refine lv_aload_n C.1 C.2.1 dX7_findMust_41 rfl (lv_at hl 0 rfl) ?_
        refine mg_hartOf C hinX7 hK hP (by decide +kernel) dX7_findMust_42 ?_
        refine lv_iload_n C.1 C.2.1 dX7_findMust_45 rfl (lv_at hl 2 rfl) ?_
        obtain ⟨g6, h⟩ := h
        refine ma_hartOf C hK hP g6  rfl dX7_findMust_46 ?_
        refine lv_icmp_ne (tgt := 63) C.1 C.2.1 dX7_findMust_47 (by decide) (fun c10 => ?_) (fun c10 => ?_)
        · have h := h.1 c10
          exact B63 k2 hk2 k12 hk12 x1 x2 (((6 : Int32) * x1) + x2) S H locs ls h hP hD hS (lv_sub hl [0, 1, 2] rfl)
        · have h := h.2 c10
          refine lv_aload_n C.1 C.2.1 dX7_findMust_50 rfl (lv_at hl 0 rfl) ?_
          refine lv_iload_n C.1 C.2.1 dX7_findMust_51 rfl (lv_at hl 1 rfl) ?_
          refine lv_iload_n C.1 C.2.1 dX7_findMust_52 rfl (lv_at hl 2 rfl) ?_
          refine g_callVi (w := wM ct ad) C hK hN hA hP hD hS (mX7_mustStand l g ct ad H.size S x1 x2  _ h) (cwV 2 C.2.2.2.2 gX7_findMust_X7_mustStand rfl rfl rfl (by decide +kernel) ⟨Nat.le_trans (by decide) hRf, Nat.le_trans (by decide) hRl⟩) (va_recv hK hP (ci := 7) (q0 := 0) rfl rfl) rfl hl.1 rfl (Nat.le_of_ble_eq_true rfl) dX7_findMust_53 ⟨Nat.zero_le _, Nat.zero_le _⟩ (fun r8 S7 H locs h hP hD hS => ?_)
          refine lv_if_eq (tgt := 63) C.1 C.2.1 dX7_findMust_56 (by decide) (fun c9 => ?_) (fun c9 => ?_)
          · have h := h.1 c9
            exact B63 k2 hk2 k12 hk12 x1 x2 (((6 : Int32) * x1) + x2) S7 H locs ls h hP hD hS (lv_sub hl [0, 1, 2] rfl)
          · have h := h.2 c9
            refine lv_iconst (v := 1) C.1 C.2.1 dX7_findMust_59 (by decide) ?_
            refine lv_goto (tgt := 64) C.1 C.2.1 dX7_findMust_60 (by decide) ?_
            exact B64 k2 hk2 k12 hk12 x1 x2 (((6 : Int32) * x1) + x2) (1 : Int32) S7 H locs ls h hP hD hS (lv_sub hl [0, 1, 2] rfl)
  have L12 : ∀ (k2 : Int32 → St → Prop) (hk2 : ∀ (x1 : Int32) (S : St) (H : Heap) (locs : List Loc) (ls : Array Slot), k2 x1 S → va_P g vwCl (wM ct ad S) H → va_D A (wM ct ad S) → va_S A s.heap H locs → lv_has ls 3 [(0, .ref (ad 0)), (1, .int x1)] → W p l e R s m args below meth c H locs 0 0 QQ (F0 m 2 ls [])) (N : Nat) (x1 : Int32) (x2 : Int32) (S : St) (H : Heap) (locs : List Loc) (ls : Array Slot), itr (F := Int32 → Int32 → St → Prop) (fun _ _ _ => False) (fun k12 x1 x2 S => bX7_findMust_12 k2 k12 Q x1 x2 S) N x1 x2 S → va_P g vwCl (wM ct ad S) H → va_D A (wM ct ad S) → va_S A s.heap H locs → lv_has ls 3 [(0, .ref (ad 0)), (1, .int x1), (2, .int x2)] → W p l e R s m args below meth c H locs 0 0 QQ (F0 m 12 ls []) := by
    intro k2 hk2 N
    induction N with
    | zero => intro x1 x2 S H locs ls h hP hD hS hl; exact False.elim h
    | succ N ih => intro x1 x2 S H locs ls h hP hD hS hl; exact B12 k2 hk2 (itr (F := Int32 → Int32 → St → Prop) (fun _ _ _ => False) (fun k12 x1 x2 S => bX7_findMust_12 k2 k12 Q x1 x2 S) N) ih x1 x2 S H locs ls h  hP hD hS hl
  have B2 : ∀ (k2 : Int32 → St → Prop) (hk2 : ∀ (x1 : Int32) (S : St) (H : Heap) (locs : List Loc) (ls : Array Slot), k2 x1 S → va_P g vwCl (wM ct ad S) H → va_D A (wM ct ad S) → va_S A s.heap H locs → lv_has ls 3 [(0, .ref (ad 0)), (1, .int x1)] → W p l e R s m args below meth c H locs 0 0 QQ (F0 m 2 ls [])) (x1 : Int32) (S : St) (H : Heap) (locs : List Loc) (ls : Array Slot), bX7_findMust_2 k2 Q x1 S → va_P g vwCl (wM ct ad S) H → va_D A (wM ct ad S) → va_S A s.heap H locs → lv_has ls 3 [(0, .ref (ad 0)), (1, .int x1)] → W p l e R s m args below meth c H locs 0 0 QQ (F0 m 2 ls []) := by
    intro k2 hk2 x1 S H locs ls h hP hD hS hl
    refine lv_iload_n C.1 C.2.1 dX7_findMust_2 rfl (lv_at hl 1 rfl) ?_
    refine lv_aload_n C.1 C.2.1 dX7_findMust_3 rfl (lv_at hl 0 rfl) ?_
    refine mg_accesses C hinX7 hK hP (by decide +kernel) dX7_findMust_4 ?_
    refine lv_icmp_ge (tgt := 77) C.1 C.2.1 dX7_findMust_7 (by decide) (fun c13 => ?_) (fun c13 => ?_)
    · have h := h.1 c13
      exact hret _ _ _ _ _ dX7_findMust_77 h hP hD hS
    · have h := h.2 c13
      refine lv_iconst (v := 0) C.1 C.2.1 dX7_findMust_10 (by decide) ?_
      refine lv_istore_n (lv' := [(2, .int (0 : Int32)), (0, .ref (ad 0)), (1, .int x1)]) C.1 C.2.1 dX7_findMust_11 rfl hl (by decide) rfl (fun ls hl => ?_)
      obtain ⟨N, h⟩ := h
      exact L12 k2 hk2 N x1 (0 : Int32) S H locs ls h hP hD hS (lv_sub hl [1, 2, 0] rfl)
  have L2 : ∀ (N : Nat) (x1 : Int32) (S : St) (H : Heap) (locs : List Loc) (ls : Array Slot), itr (F := Int32 → St → Prop) (fun _ _ => False) (fun k2 x1 S => bX7_findMust_2 k2 Q x1 S) N x1 S → va_P g vwCl (wM ct ad S) H → va_D A (wM ct ad S) → va_S A s.heap H locs → lv_has ls 3 [(0, .ref (ad 0)), (1, .int x1)] → W p l e R s m args below meth c H locs 0 0 QQ (F0 m 2 ls []) := by
    intro N
    induction N with
    | zero => intro x1 S H locs ls h hP hD hS hl; exact False.elim h
    | succ N ih => intro x1 S H locs ls h hP hD hS hl; exact B2  (itr (F := Int32 → St → Prop) (fun _ _ => False) (fun k2 x1 S => bX7_findMust_2 k2 Q x1 S) N) ih x1 S H locs ls h  hP hD hS hl
  refine lv_iconst (v := 0) C.1 C.2.1 dX7_findMust_0 (by decide) ?_
  refine lv_istore_n (lv' := [(1, .int (0 : Int32)), (0, .ref (ad 0))]) C.1 C.2.1 dX7_findMust_1 rfl hl (by decide) rfl (fun ls hl => ?_)
  obtain ⟨N, h⟩ := h
  exact L2 N (0 : Int32) S H locs ls h hP hD hS (lv_sub hl [1, 0] rfl)
theorem mX7_findMust (l : Launch) (g : va_G) (ct : Nat → ClassId) (ad : Nat → Nat) (sz : Nat) (S : St) (Q : St → Prop) (h : pX7_findMust S Q) : Met l yX7_findMust wsX7_findMust ({ frames := 4, cells := 0, slots := 0, locals := 92 }) (gPc g (mT ct) (wM ct ad S) sz [.ref (ad 0)]) (va_Qv Q (gB g (mT ct) (wM ct ad) (va_A (wM ct ad S) sz)) (va_A (wM ct ad S) sz)) 0 0 (va_A (wM ct ad S) sz) :=
  g_metV (w := wM ct ad) (cc := cX7_findMust) (maxL := 3) (by decide) rfl rfl (Nat.le_of_ble_eq_true rfl) rfl (fun p e s m args below meth c QQ A C hK hN hA hret H locs ls hP hD hS hl => kX7_findMust C hK hN hA (Nat.le_refl _) (Nat.le_refl _) Q hret  S h H locs ls hP hD hS hl)

def bX7_sourceOf_111 (k4 : Int32 → Int32 → Int32 → St → Prop) (Q : Int32 → St → Prop) (x1 : Int32) (x3 : Int32) (t0 : Int32) (S : St) : Prop :=
  (∀ y1 : Int32, y1 = x3 + (1 : Int32) → k4 x1 t0 y1 S)
def bX7_sourceOf_110 (k4 : Int32 → Int32 → Int32 → St → Prop) (Q : Int32 → St → Prop) (x1 : Int32) (x2 : Int32) (x3 : Int32) (S : St) : Prop :=
  bX7_sourceOf_111 k4 Q x1 x3 x2 S
def bX7_sourceOf_106 (k4 : Int32 → Int32 → Int32 → St → Prop) (Q : Int32 → St → Prop) (x1 : Int32) (x3 : Int32) (S : St) : Prop :=
  bX7_sourceOf_111 k4 Q x1 x3 x3 S
def bX7_sourceOf_80 (k4 : Int32 → Int32 → Int32 → St → Prop) (Q : Int32 → St → Prop) (x1 : Int32) (x2 : Int32) (x3 : Int32) (t0 : Int32) (S : St) : Prop :=
  ((t0 = 0 → bX7_sourceOf_110 k4 Q x1 x2 x3 S) ∧ (¬ (t0 = 0) → ((x2 < 0 → bX7_sourceOf_106 k4 Q x1 x3 S) ∧ (¬ (x2 < 0) → (vp_in x3 6 ∧ (vp_in x2 6 ∧ (((S.1 31 (Int32.toNatClampNeg x3)) ≤ (S.1 31 (Int32.toNatClampNeg x2)) → bX7_sourceOf_110 k4 Q x1 x2 x3 S) ∧ (¬ ((S.1 31 (Int32.toNatClampNeg x3)) ≤ (S.1 31 (Int32.toNatClampNeg x2))) → bX7_sourceOf_106 k4 Q x1 x3 S))))))))
def bX7_sourceOf_79 (k4 : Int32 → Int32 → Int32 → St → Prop) (Q : Int32 → St → Prop) (x1 : Int32) (x2 : Int32) (x3 : Int32) (S : St) : Prop :=
  bX7_sourceOf_80 k4 Q x1 x2 x3 (0 : Int32) S
def bX7_sourceOf_75 (k4 : Int32 → Int32 → Int32 → St → Prop) (Q : Int32 → St → Prop) (x1 : Int32) (x2 : Int32) (x3 : Int32) (S : St) : Prop :=
  bX7_sourceOf_80 k4 Q x1 x2 x3 (1 : Int32) S
def bX7_sourceOf_4 (k4 : Int32 → Int32 → Int32 → St → Prop) (Q : Int32 → St → Prop) (x1 : Int32) (x2 : Int32) (x3 : Int32) (S : St) : Prop :=
  (((S.1 13 0) ≤ x3 → Q x2 S) ∧ (¬ ((S.1 13 0) ≤ x3) → ((x3 = x1 → bX7_sourceOf_79 k4 Q x1 x2 x3 S) ∧ (¬ (x3 = x1) → pX7_writes x3 S (fun (r8 : Int32) (S7 : St) => ((r8 = 0 → bX7_sourceOf_79 k4 Q x1 x2 x3 S7) ∧ (¬ (r8 = 0) → (vp_in x3 6 ∧ (vp_in x1 6 ∧ ((¬ (S7.1 16 (Int32.toNatClampNeg x3)) = (S7.1 16 (Int32.toNatClampNeg x1)) → bX7_sourceOf_79 k4 Q x1 x2 x3 S7) ∧ ((S7.1 16 (Int32.toNatClampNeg x3)) = (S7.1 16 (Int32.toNatClampNeg x1)) → (vp_in x3 6 ∧ (vp_in x1 6 ∧ (((S7.1 31 (Int32.toNatClampNeg x3)) < (S7.1 31 (Int32.toNatClampNeg x1)) → bX7_sourceOf_75 k4 Q x1 x2 x3 S7) ∧ (¬ ((S7.1 31 (Int32.toNatClampNeg x3)) < (S7.1 31 (Int32.toNatClampNeg x1))) → (vp_in x3 6 ∧ (vp_in x1 6 ∧ ((¬ (S7.1 14 (Int32.toNatClampNeg x3)) = (S7.1 14 (Int32.toNatClampNeg x1)) → bX7_sourceOf_79 k4 Q x1 x2 x3 S7) ∧ ((S7.1 14 (Int32.toNatClampNeg x3)) = (S7.1 14 (Int32.toNatClampNeg x1)) → ((x1 ≤ x3 → bX7_sourceOf_79 k4 Q x1 x2 x3 S7) ∧ (¬ (x1 ≤ x3) → bX7_sourceOf_75 k4 Q x1 x2 x3 S7)))))))))))))))))))))
def pX7_sourceOf (x1 : Int32) (S : St) (Q : Int32 → St → Prop) : Prop :=
  (∃ N : Nat, itr (F := Int32 → Int32 → Int32 → St → Prop) (fun _ _ _ _ => False) (fun k4 x1 x2 x3 S => bX7_sourceOf_4 k4 Q x1 x2 x3 S) N x1 (-1 : Int32) (0 : Int32) S)
set_option maxHeartbeats 40000000 in
set_option maxRecDepth 100000 in
theorem kX7_sourceOf {p : Program} {l : Launch} {e : Env} {R : Room} {s : State} {m : MethodId} {args : Array Value} {below : List Frame} {meth : Method} {c : Code} {QQ : State → Prop} {g : va_G} {ct : Nat → ClassId} {ad : Nat → Nat} {A : Nat → Prop} (C : CallFix p m c cX7_sourceOf 5 s args wsX7_sourceOf RX7) (hK : va_K g vwCl (mT ct) s) (hN : xN s) (hA : ∀ q, s.heap.size ≤ q → A q) (hRf : 2 ≤ R.frames) (hRl : 41 ≤ R.locals) (Q : Int32 → St → Prop) (hret : ∀ (pc : Nat) (r : Int32) (S : St) (H : Heap) (locs : List Loc) (ls : Array Slot), decode cX7_sourceOf pc = .ok (.ireturn, 1) → Q r S → va_P g vwCl (wM ct ad S) H → va_D A (wM ct ad S) → va_S A s.heap H locs → W p l e R s m args below meth c H locs 0 0 QQ (F0 m pc ls [.int r])) (x1 : Int32) (S : St) (h : pX7_sourceOf x1 S Q) (H : Heap) (locs : List Loc) (ls : Array Slot) (hP : va_P g vwCl (wM ct ad S) H) (hD : va_D A (wM ct ad S)) (hS : va_S A s.heap H locs) (hl : lv_has ls 5 [(0, .ref (ad 0)), (1, .int x1)]) : W p l e R s m args below meth c H locs 0 0 QQ (F0 m 0 ls []) := by
  have hinX7 : ∀ w ∈ wsX70, w ∈ wsX7_sourceOf := by decide +kernel
  have B111 : ∀ (k4 : Int32 → Int32 → Int32 → St → Prop) (hk4 : ∀ (x1 : Int32) (x2 : Int32) (x3 : Int32) (S : St) (H : Heap) (locs : List Loc) (ls : Array Slot), k4 x1 x2 x3 S → va_P g vwCl (wM ct ad S) H → va_D A (wM ct ad S) → va_S A s.heap H locs → lv_has ls 5 [(0, .ref (ad 0)), (1, .int x1), (2, .int x2), (3, .int x3)] → W p l e R s m args below meth c H locs 0 0 QQ (F0 m 4 ls [])) (x1 : Int32) (x3 : Int32) (t0 : Int32) (S : St) (H : Heap) (locs : List Loc) (ls : Array Slot), bX7_sourceOf_111 k4 Q x1 x3 t0 S → va_P g vwCl (wM ct ad S) H → va_D A (wM ct ad S) → va_S A s.heap H locs → lv_has ls 5 [(0, .ref (ad 0)), (1, .int x1), (3, .int x3)] → W p l e R s m args below meth c H locs 0 0 QQ (F0 m 111 ls [.int t0]) := by
    intro k4 hk4 x1 x3 t0 S H locs ls h hP hD hS hl
    refine lv_istore_n (lv' := [(2, .int t0), (0, .ref (ad 0)), (1, .int x1), (3, .int x3)]) C.1 C.2.1 dX7_sourceOf_111 rfl hl (by decide) rfl (fun ls hl => ?_)
    obtain ⟨y1, ey1⟩ : ∃ z : Int32, z = x3 + (1 : Int32) := ⟨_, rfl⟩
    have h := h y1 ey1
    refine lv_iinc (v := y1) (lv' := [(3, .int y1), (2, .int t0), (0, .ref (ad 0)), (1, .int x1)]) C.1 C.2.1 dX7_sourceOf_112 hl (k := 3) rfl (by rw [ey1]; rfl) (by decide) rfl (fun ls hl => ?_)
    refine lv_goto (tgt := 4) C.1 C.2.1 dX7_sourceOf_115 (by decide) ?_
    exact hk4 x1 t0 y1 S H locs ls h hP hD hS (lv_sub hl [2, 3, 1, 0] rfl)
  have B110 : ∀ (k4 : Int32 → Int32 → Int32 → St → Prop) (hk4 : ∀ (x1 : Int32) (x2 : Int32) (x3 : Int32) (S : St) (H : Heap) (locs : List Loc) (ls : Array Slot), k4 x1 x2 x3 S → va_P g vwCl (wM ct ad S) H → va_D A (wM ct ad S) → va_S A s.heap H locs → lv_has ls 5 [(0, .ref (ad 0)), (1, .int x1), (2, .int x2), (3, .int x3)] → W p l e R s m args below meth c H locs 0 0 QQ (F0 m 4 ls [])) (x1 : Int32) (x2 : Int32) (x3 : Int32) (S : St) (H : Heap) (locs : List Loc) (ls : Array Slot), bX7_sourceOf_110 k4 Q x1 x2 x3 S → va_P g vwCl (wM ct ad S) H → va_D A (wM ct ad S) → va_S A s.heap H locs → lv_has ls 5 [(0, .ref (ad 0)), (1, .int x1), (2, .int x2), (3, .int x3)] → W p l e R s m args below meth c H locs 0 0 QQ (F0 m 110 ls []) := by
    intro k4 hk4 x1 x2 x3 S H locs ls h hP hD hS hl
    refine lv_iload_n C.1 C.2.1 dX7_sourceOf_110 rfl (lv_at hl 2 rfl) ?_
    exact B111 k4 hk4 x1 x3 x2 S H locs ls h hP hD hS (lv_sub hl [0, 1, 3] rfl)
  have B106 : ∀ (k4 : Int32 → Int32 → Int32 → St → Prop) (hk4 : ∀ (x1 : Int32) (x2 : Int32) (x3 : Int32) (S : St) (H : Heap) (locs : List Loc) (ls : Array Slot), k4 x1 x2 x3 S → va_P g vwCl (wM ct ad S) H → va_D A (wM ct ad S) → va_S A s.heap H locs → lv_has ls 5 [(0, .ref (ad 0)), (1, .int x1), (2, .int x2), (3, .int x3)] → W p l e R s m args below meth c H locs 0 0 QQ (F0 m 4 ls [])) (x1 : Int32) (x3 : Int32) (S : St) (H : Heap) (locs : List Loc) (ls : Array Slot), bX7_sourceOf_106 k4 Q x1 x3 S → va_P g vwCl (wM ct ad S) H → va_D A (wM ct ad S) → va_S A s.heap H locs → lv_has ls 5 [(0, .ref (ad 0)), (1, .int x1), (3, .int x3)] → W p l e R s m args below meth c H locs 0 0 QQ (F0 m 106 ls []) := by
    intro k4 hk4 x1 x3 S H locs ls h hP hD hS hl
    refine lv_iload_n C.1 C.2.1 dX7_sourceOf_106 rfl (lv_at hl 2 rfl) ?_
    refine lv_goto (tgt := 111) C.1 C.2.1 dX7_sourceOf_107 (by decide) ?_
    exact B111 k4 hk4 x1 x3 x3 S H locs ls h hP hD hS (lv_sub hl [0, 1, 2] rfl)
  have B80 : ∀ (k4 : Int32 → Int32 → Int32 → St → Prop) (hk4 : ∀ (x1 : Int32) (x2 : Int32) (x3 : Int32) (S : St) (H : Heap) (locs : List Loc) (ls : Array Slot), k4 x1 x2 x3 S → va_P g vwCl (wM ct ad S) H → va_D A (wM ct ad S) → va_S A s.heap H locs → lv_has ls 5 [(0, .ref (ad 0)), (1, .int x1), (2, .int x2), (3, .int x3)] → W p l e R s m args below meth c H locs 0 0 QQ (F0 m 4 ls [])) (x1 : Int32) (x2 : Int32) (x3 : Int32) (t0 : Int32) (S : St) (H : Heap) (locs : List Loc) (ls : Array Slot), bX7_sourceOf_80 k4 Q x1 x2 x3 t0 S → va_P g vwCl (wM ct ad S) H → va_D A (wM ct ad S) → va_S A s.heap H locs → lv_has ls 5 [(0, .ref (ad 0)), (1, .int x1), (2, .int x2), (3, .int x3)] → W p l e R s m args below meth c H locs 0 0 QQ (F0 m 80 ls [.int t0]) := by
    intro k4 hk4 x1 x2 x3 t0 S H locs ls h hP hD hS hl
    refine lv_istore (lv' := [(4, .int t0), (0, .ref (ad 0)), (1, .int x1), (2, .int x2), (3, .int x3)]) C.1 C.2.1 dX7_sourceOf_80 hl (by decide) rfl (fun ls hl => ?_)
    refine lv_iload C.1 C.2.1 dX7_sourceOf_82 (lv_at hl 0 rfl) ?_
    refine lv_if_eq (tgt := 110) C.1 C.2.1 dX7_sourceOf_84 (by decide) (fun c6 => ?_) (fun c6 => ?_)
    · have h := h.1 c6
      exact B110 k4 hk4 x1 x2 x3 S H locs ls h hP hD hS (lv_sub hl [1, 2, 3, 4] rfl)
    · have h := h.2 c6
      refine lv_iload_n C.1 C.2.1 dX7_sourceOf_87 rfl (lv_at hl 3 rfl) ?_
      refine lv_if_lt (tgt := 106) C.1 C.2.1 dX7_sourceOf_88 (by decide) (fun c5 => ?_) (fun c5 => ?_)
      · have h := h.1 c5
        exact B106 k4 hk4 x1 x3 S H locs ls h hP hD hS (lv_sub hl [1, 2, 4] rfl)
      · have h := h.2 c5
        refine lv_aload_n C.1 C.2.1 dX7_sourceOf_91 rfl (lv_at hl 1 rfl) ?_
        refine mg_place C hinX7 hK hP (by decide +kernel) dX7_sourceOf_92 ?_
        refine lv_iload_n C.1 C.2.1 dX7_sourceOf_95 rfl (lv_at hl 4 rfl) ?_
        obtain ⟨g2, h⟩ := h
        refine ma_place C hK hP g2  rfl dX7_sourceOf_96 ?_
        refine lv_aload_n C.1 C.2.1 dX7_sourceOf_97 rfl (lv_at hl 1 rfl) ?_
        refine mg_place C hinX7 hK hP (by decide +kernel) dX7_sourceOf_98 ?_
        refine lv_iload_n C.1 C.2.1 dX7_sourceOf_101 rfl (lv_at hl 3 rfl) ?_
        obtain ⟨g3, h⟩ := h
        refine ma_place C hK hP g3  rfl dX7_sourceOf_102 ?_
        refine lv_icmp_le (tgt := 110) C.1 C.2.1 dX7_sourceOf_103 (by decide) (fun c4 => ?_) (fun c4 => ?_)
        · have h := h.1 c4
          exact B110 k4 hk4 x1 x2 x3 S H locs ls h hP hD hS (lv_sub hl [1, 2, 3, 4] rfl)
        · have h := h.2 c4
          exact B106 k4 hk4 x1 x3 S H locs ls h hP hD hS (lv_sub hl [1, 2, 4] rfl)
  have B79 : ∀ (k4 : Int32 → Int32 → Int32 → St → Prop) (hk4 : ∀ (x1 : Int32) (x2 : Int32) (x3 : Int32) (S : St) (H : Heap) (locs : List Loc) (ls : Array Slot), k4 x1 x2 x3 S → va_P g vwCl (wM ct ad S) H → va_D A (wM ct ad S) → va_S A s.heap H locs → lv_has ls 5 [(0, .ref (ad 0)), (1, .int x1), (2, .int x2), (3, .int x3)] → W p l e R s m args below meth c H locs 0 0 QQ (F0 m 4 ls [])) (x1 : Int32) (x2 : Int32) (x3 : Int32) (S : St) (H : Heap) (locs : List Loc) (ls : Array Slot), bX7_sourceOf_79 k4 Q x1 x2 x3 S → va_P g vwCl (wM ct ad S) H → va_D A (wM ct ad S) → va_S A s.heap H locs → lv_has ls 5 [(0, .ref (ad 0)), (1, .int x1), (2, .int x2), (3, .int x3)] → W p l e R s m args below meth c H locs 0 0 QQ (F0 m 79 ls []) := by
    intro k4 hk4 x1 x2 x3 S H locs ls h hP hD hS hl
    refine lv_iconst (v := 0) C.1 C.2.1 dX7_sourceOf_79 (by decide) ?_
    exact B80 k4 hk4 x1 x2 x3 (0 : Int32) S H locs ls h hP hD hS (lv_sub hl [0, 1, 2, 3] rfl)
  have B75 : ∀ (k4 : Int32 → Int32 → Int32 → St → Prop) (hk4 : ∀ (x1 : Int32) (x2 : Int32) (x3 : Int32) (S : St) (H : Heap) (locs : List Loc) (ls : Array Slot), k4 x1 x2 x3 S → va_P g vwCl (wM ct ad S) H → va_D A (wM ct ad S) → va_S A s.heap H locs → lv_has ls 5 [(0, .ref (ad 0)), (1, .int x1), (2, .int x2), (3, .int x3)] → W p l e R s m args below meth c H locs 0 0 QQ (F0 m 4 ls [])) (x1 : Int32) (x2 : Int32) (x3 : Int32) (S : St) (H : Heap) (locs : List Loc) (ls : Array Slot), bX7_sourceOf_75 k4 Q x1 x2 x3 S → va_P g vwCl (wM ct ad S) H → va_D A (wM ct ad S) → va_S A s.heap H locs → lv_has ls 5 [(0, .ref (ad 0)), (1, .int x1), (2, .int x2), (3, .int x3)] → W p l e R s m args below meth c H locs 0 0 QQ (F0 m 75 ls []) := by
    intro k4 hk4 x1 x2 x3 S H locs ls h hP hD hS hl
    refine lv_iconst (v := 1) C.1 C.2.1 dX7_sourceOf_75 (by decide) ?_
    refine lv_goto (tgt := 80) C.1 C.2.1 dX7_sourceOf_76 (by decide) ?_
    exact B80 k4 hk4 x1 x2 x3 (1 : Int32) S H locs ls h hP hD hS (lv_sub hl [0, 1, 2, 3] rfl)
  have B4 : ∀ (k4 : Int32 → Int32 → Int32 → St → Prop) (hk4 : ∀ (x1 : Int32) (x2 : Int32) (x3 : Int32) (S : St) (H : Heap) (locs : List Loc) (ls : Array Slot), k4 x1 x2 x3 S → va_P g vwCl (wM ct ad S) H → va_D A (wM ct ad S) → va_S A s.heap H locs → lv_has ls 5 [(0, .ref (ad 0)), (1, .int x1), (2, .int x2), (3, .int x3)] → W p l e R s m args below meth c H locs 0 0 QQ (F0 m 4 ls [])) (x1 : Int32) (x2 : Int32) (x3 : Int32) (S : St) (H : Heap) (locs : List Loc) (ls : Array Slot), bX7_sourceOf_4 k4 Q x1 x2 x3 S → va_P g vwCl (wM ct ad S) H → va_D A (wM ct ad S) → va_S A s.heap H locs → lv_has ls 5 [(0, .ref (ad 0)), (1, .int x1), (2, .int x2), (3, .int x3)] → W p l e R s m args below meth c H locs 0 0 QQ (F0 m 4 ls []) := by
    intro k4 hk4 x1 x2 x3 S H locs ls h hP hD hS hl
    refine lv_iload_n C.1 C.2.1 dX7_sourceOf_4 rfl (lv_at hl 3 rfl) ?_
    refine lv_aload_n C.1 C.2.1 dX7_sourceOf_5 rfl (lv_at hl 0 rfl) ?_
    refine mg_accesses C hinX7 hK hP (by decide +kernel) dX7_sourceOf_6 ?_
    refine lv_icmp_ge (tgt := 118) C.1 C.2.1 dX7_sourceOf_9 (by decide) (fun c21 => ?_) (fun c21 => ?_)
    · have h := h.1 c21
      refine lv_iload_n C.1 C.2.1 dX7_sourceOf_118 rfl (lv_at hl 2 rfl) ?_
      exact hret _ _ _ _ _ _ dX7_sourceOf_119 h hP hD hS
    · have h := h.2 c21
      refine lv_iload_n C.1 C.2.1 dX7_sourceOf_12 rfl (lv_at hl 3 rfl) ?_
      refine lv_iload_n C.1 C.2.1 dX7_sourceOf_13 rfl (lv_at hl 1 rfl) ?_
      refine lv_icmp_eq (tgt := 79) C.1 C.2.1 dX7_sourceOf_14 (by decide) (fun c20 => ?_) (fun c20 => ?_)
      · have h := h.1 c20
        exact B79 k4 hk4 x1 x2 x3 S H locs ls h hP hD hS (lv_sub hl [0, 1, 2, 3] rfl)
      · have h := h.2 c20
        refine lv_aload_n C.1 C.2.1 dX7_sourceOf_17 rfl (lv_at hl 0 rfl) ?_
        refine lv_iload_n C.1 C.2.1 dX7_sourceOf_18 rfl (lv_at hl 3 rfl) ?_
        refine g_callVi (w := wM ct ad) C hK hN hA hP hD hS (mX7_writes l g ct ad H.size S x3  _ h) (cwV 1 C.2.2.2.2 gX7_sourceOf_X7_writes rfl rfl rfl (by decide +kernel) ⟨Nat.le_trans (by decide) hRf, Nat.le_trans (by decide) hRl⟩) (va_recv hK hP (ci := 7) (q0 := 0) rfl rfl) rfl hl.1 rfl (Nat.le_of_ble_eq_true rfl) dX7_sourceOf_19 ⟨Nat.zero_le _, Nat.zero_le _⟩ (fun r8 S7 H locs h hP hD hS => ?_)
        refine lv_if_eq (tgt := 79) C.1 C.2.1 dX7_sourceOf_22 (by decide) (fun c19 => ?_) (fun c19 => ?_)
        · have h := h.1 c19
          exact B79 k4 hk4 x1 x2 x3 S7 H locs ls h hP hD hS (lv_sub hl [0, 1, 2, 3] rfl)
        · have h := h.2 c19
          refine lv_aload_n C.1 C.2.1 dX7_sourceOf_25 rfl (lv_at hl 0 rfl) ?_
          refine mg_locationOf C hinX7 hK hP (by decide +kernel) dX7_sourceOf_26 ?_
          refine lv_iload_n C.1 C.2.1 dX7_sourceOf_29 rfl (lv_at hl 3 rfl) ?_
          obtain ⟨g9, h⟩ := h
          refine ma_locationOf C hK hP g9  rfl dX7_sourceOf_30 ?_
          refine lv_aload_n C.1 C.2.1 dX7_sourceOf_31 rfl (lv_at hl 0 rfl) ?_
          refine mg_locationOf C hinX7 hK hP (by decide +kernel) dX7_sourceOf_32 ?_
          refine lv_iload_n C.1 C.2.1 dX7_sourceOf_35 rfl (lv_at hl 1 rfl) ?_
          obtain ⟨g10, h⟩ := h
          refine ma_locationOf C hK hP g10  rfl dX7_sourceOf_36 ?_
          refine lv_icmp_ne (tgt := 79) C.1 C.2.1 dX7_sourceOf_37 (by decide) (fun c18 => ?_) (fun c18 => ?_)
          · have h := h.1 c18
            exact B79 k4 hk4 x1 x2 x3 S7 H locs ls h hP hD hS (lv_sub hl [0, 1, 2, 3] rfl)
          · have h := h.2 c18
            refine lv_aload_n C.1 C.2.1 dX7_sourceOf_40 rfl (lv_at hl 0 rfl) ?_
            refine mg_place C hinX7 hK hP (by decide +kernel) dX7_sourceOf_41 ?_
            refine lv_iload_n C.1 C.2.1 dX7_sourceOf_44 rfl (lv_at hl 3 rfl) ?_
            obtain ⟨g11, h⟩ := h
            refine ma_place C hK hP g11  rfl dX7_sourceOf_45 ?_
            refine lv_aload_n C.1 C.2.1 dX7_sourceOf_46 rfl (lv_at hl 0 rfl) ?_
            refine mg_place C hinX7 hK hP (by decide +kernel) dX7_sourceOf_47 ?_
            refine lv_iload_n C.1 C.2.1 dX7_sourceOf_50 rfl (lv_at hl 1 rfl) ?_
            obtain ⟨g12, h⟩ := h
            refine ma_place C hK hP g12  rfl dX7_sourceOf_51 ?_
            refine lv_icmp_lt (tgt := 75) C.1 C.2.1 dX7_sourceOf_52 (by decide) (fun c17 => ?_) (fun c17 => ?_)
            · have h := h.1 c17
              exact B75 k4 hk4 x1 x2 x3 S7 H locs ls h hP hD hS (lv_sub hl [0, 1, 2, 3] rfl)
            · have h := h.2 c17
              refine lv_aload_n C.1 C.2.1 dX7_sourceOf_55 rfl (lv_at hl 0 rfl) ?_
              refine mg_hartOf C hinX7 hK hP (by decide +kernel) dX7_sourceOf_56 ?_
              refine lv_iload_n C.1 C.2.1 dX7_sourceOf_59 rfl (lv_at hl 3 rfl) ?_
              obtain ⟨g13, h⟩ := h
              refine ma_hartOf C hK hP g13  rfl dX7_sourceOf_60 ?_
              refine lv_aload_n C.1 C.2.1 dX7_sourceOf_61 rfl (lv_at hl 0 rfl) ?_
              refine mg_hartOf C hinX7 hK hP (by decide +kernel) dX7_sourceOf_62 ?_
              refine lv_iload_n C.1 C.2.1 dX7_sourceOf_65 rfl (lv_at hl 1 rfl) ?_
              obtain ⟨g14, h⟩ := h
              refine ma_hartOf C hK hP g14  rfl dX7_sourceOf_66 ?_
              refine lv_icmp_ne (tgt := 79) C.1 C.2.1 dX7_sourceOf_67 (by decide) (fun c16 => ?_) (fun c16 => ?_)
              · have h := h.1 c16
                exact B79 k4 hk4 x1 x2 x3 S7 H locs ls h hP hD hS (lv_sub hl [0, 1, 2, 3] rfl)
              · have h := h.2 c16
                refine lv_iload_n C.1 C.2.1 dX7_sourceOf_70 rfl (lv_at hl 3 rfl) ?_
                refine lv_iload_n C.1 C.2.1 dX7_sourceOf_71 rfl (lv_at hl 1 rfl) ?_
                refine lv_icmp_ge (tgt := 79) C.1 C.2.1 dX7_sourceOf_72 (by decide) (fun c15 => ?_) (fun c15 => ?_)
                · have h := h.1 c15
                  exact B79 k4 hk4 x1 x2 x3 S7 H locs ls h hP hD hS (lv_sub hl [0, 1, 2, 3] rfl)
                · have h := h.2 c15
                  exact B75 k4 hk4 x1 x2 x3 S7 H locs ls h hP hD hS (lv_sub hl [0, 1, 2, 3] rfl)
  have L4 : ∀ (N : Nat) (x1 : Int32) (x2 : Int32) (x3 : Int32) (S : St) (H : Heap) (locs : List Loc) (ls : Array Slot), itr (F := Int32 → Int32 → Int32 → St → Prop) (fun _ _ _ _ => False) (fun k4 x1 x2 x3 S => bX7_sourceOf_4 k4 Q x1 x2 x3 S) N x1 x2 x3 S → va_P g vwCl (wM ct ad S) H → va_D A (wM ct ad S) → va_S A s.heap H locs → lv_has ls 5 [(0, .ref (ad 0)), (1, .int x1), (2, .int x2), (3, .int x3)] → W p l e R s m args below meth c H locs 0 0 QQ (F0 m 4 ls []) := by
    intro N
    induction N with
    | zero => intro x1 x2 x3 S H locs ls h hP hD hS hl; exact False.elim h
    | succ N ih => intro x1 x2 x3 S H locs ls h hP hD hS hl; exact B4  (itr (F := Int32 → Int32 → Int32 → St → Prop) (fun _ _ _ _ => False) (fun k4 x1 x2 x3 S => bX7_sourceOf_4 k4 Q x1 x2 x3 S) N) ih x1 x2 x3 S H locs ls h  hP hD hS hl
  refine lv_iconst (v := -1) C.1 C.2.1 dX7_sourceOf_0 (by decide) ?_
  refine lv_istore_n (lv' := [(2, .int (-1 : Int32)), (0, .ref (ad 0)), (1, .int x1)]) C.1 C.2.1 dX7_sourceOf_1 rfl hl (by decide) rfl (fun ls hl => ?_)
  refine lv_iconst (v := 0) C.1 C.2.1 dX7_sourceOf_2 (by decide) ?_
  refine lv_istore_n (lv' := [(3, .int (0 : Int32)), (2, .int (-1 : Int32)), (0, .ref (ad 0)), (1, .int x1)]) C.1 C.2.1 dX7_sourceOf_3 rfl hl (by decide) rfl (fun ls hl => ?_)
  obtain ⟨N, h⟩ := h
  exact L4 N x1 (-1 : Int32) (0 : Int32) S H locs ls h hP hD hS (lv_sub hl [2, 3, 1, 0] rfl)
theorem mX7_sourceOf (l : Launch) (g : va_G) (ct : Nat → ClassId) (ad : Nat → Nat) (sz : Nat) (S : St) (x1 : Int32) (Q : Int32 → St → Prop) (h : pX7_sourceOf x1 S Q) : Met l yX7_sourceOf wsX7_sourceOf ({ frames := 2, cells := 0, slots := 0, locals := 41 }) (gPc g (mT ct) (wM ct ad S) sz [.ref (ad 0), .int x1]) (va_Qi Q (gB g (mT ct) (wM ct ad) (va_A (wM ct ad S) sz)) (va_A (wM ct ad S) sz)) 0 0 (va_A (wM ct ad S) sz) :=
  g_metI (w := wM ct ad) (cc := cX7_sourceOf) (maxL := 5) (by decide) rfl rfl (Nat.le_of_ble_eq_true rfl) rfl (fun p e s m args below meth c QQ A C hK hN hA hret H locs ls hP hD hS hl => kX7_sourceOf C hK hN hA (Nat.le_refl _) (Nat.le_refl _) Q hret x1 S h H locs ls hP hD hS hl)
