def bX7_isWriteBetween_47 (k7 : Int32 → Int32 → Int32 → Int32 → St → Prop) (Q : Int32 → St → Prop) (x1 : Int32) (x2 : Int32) (x4 : Int32) (t0 : Int32) (S : St) : Prop :=
  (∀ y1 : Int32, y1 = x4 + (1 : Int32) → k7 x1 x2 t0 y1 S)
def bX7_isWriteBetween_42 (k7 : Int32 → Int32 → Int32 → Int32 → St → Prop) (Q : Int32 → St → Prop) (x1 : Int32) (x2 : Int32) (x4 : Int32) (S : St) : Prop :=
  bX7_isWriteBetween_47 k7 Q x1 x2 x4 (1 : Int32) S
def bX7_isWriteBetween_46 (k7 : Int32 → Int32 → Int32 → Int32 → St → Prop) (Q : Int32 → St → Prop) (x1 : Int32) (x2 : Int32) (x4 : Int32) (S : St) : Prop :=
  bX7_isWriteBetween_47 k7 Q x1 x2 x4 (0 : Int32) S
def bX7_isWriteBetween_7 (k7 : Int32 → Int32 → Int32 → Int32 → St → Prop) (Q : Int32 → St → Prop) (x1 : Int32) (x2 : Int32) (x3 : Int32) (x4 : Int32) (S : St) : Prop :=
  ((x2 ≤ x4 → (zb x3 ∧ Q x3 S)) ∧ (¬ (x2 ≤ x4) → ((¬ x3 = 0 → bX7_isWriteBetween_42 k7 Q x1 x2 x4 S) ∧ (x3 = 0 → pX7_writes x4 S (fun (r3 : Int32) (S2 : St) => ((r3 = 0 → bX7_isWriteBetween_46 k7 Q x1 x2 x4 S2) ∧ (¬ (r3 = 0) → (vp_in x4 6 ∧ (vp_in x1 6 ∧ ((¬ (S2.1 16 (Int32.toNatClampNeg x4)) = (S2.1 16 (Int32.toNatClampNeg x1)) → bX7_isWriteBetween_46 k7 Q x1 x2 x4 S2) ∧ ((S2.1 16 (Int32.toNatClampNeg x4)) = (S2.1 16 (Int32.toNatClampNeg x1)) → bX7_isWriteBetween_42 k7 Q x1 x2 x4 S2)))))))))))
def pX7_isWriteBetween (x1 : Int32) (x2 : Int32) (S : St) (Q : Int32 → St → Prop) : Prop :=
  (∀ y10 : Int32, y10 = (x1 + (1 : Int32)) → (∃ N : Nat, itr (F := Int32 → Int32 → Int32 → Int32 → St → Prop) (fun _ _ _ _ _ => False) (fun k7 x1 x2 x3 x4 S => bX7_isWriteBetween_7 k7 Q x1 x2 x3 x4 S) N x1 x2 (0 : Int32) y10 S))
set_option maxHeartbeats 40000000 in
set_option maxRecDepth 100000 in
theorem kX7_isWriteBetween {p : Program} {l : Launch} {e : Env} {R : Room} {s : State} {m : MethodId} {args : Array Value} {below : List Frame} {meth : Method} {c : Code} {QQ : State → Prop} {g : va_G} {ct : Nat → ClassId} {ad : Nat → Nat} {A : Nat → Prop} (C : CallFix p m c cX7_isWriteBetween 5 s args wsX7_isWriteBetween RX7) (hK : va_K g vwCl (mT ct) s) (hN : xN s) (hA : ∀ q, s.heap.size ≤ q → A q) (hRf : 2 ≤ R.frames) (hRl : 41 ≤ R.locals) (Q : Int32 → St → Prop) (hret : ∀ (pc : Nat) (r : Int32) (S : St) (H : Heap) (locs : List Loc) (ls : Array Slot), decode cX7_isWriteBetween pc = .ok (.ireturn, 1) → zb r → Q r S → va_P g vwCl (wM ct ad S) H → va_D A (wM ct ad S) → va_S A s.heap H locs → W p l e R s m args below meth c H locs 0 0 QQ (F0 m pc ls [.int r])) (x1 : Int32) (x2 : Int32) (S : St) (h : pX7_isWriteBetween x1 x2 S Q) (H : Heap) (locs : List Loc) (ls : Array Slot) (hP : va_P g vwCl (wM ct ad S) H) (hD : va_D A (wM ct ad S)) (hS : va_S A s.heap H locs) (hl : lv_has ls 5 [(0, .ref (ad 0)), (1, .int x1), (2, .int x2)]) : W p l e R s m args below meth c H locs 0 0 QQ (F0 m 0 ls []) := by
  have hinX7 : ∀ w ∈ wsX70, w ∈ wsX7_isWriteBetween := by decide +kernel
  have B47 : ∀ (k7 : Int32 → Int32 → Int32 → Int32 → St → Prop) (hk7 : ∀ (x1 : Int32) (x2 : Int32) (x3 : Int32) (x4 : Int32) (S : St) (H : Heap) (locs : List Loc) (ls : Array Slot), k7 x1 x2 x3 x4 S → va_P g vwCl (wM ct ad S) H → va_D A (wM ct ad S) → va_S A s.heap H locs → lv_has ls 5 [(0, .ref (ad 0)), (1, .int x1), (2, .int x2), (3, .int x3), (4, .int x4)] → W p l e R s m args below meth c H locs 0 0 QQ (F0 m 7 ls [])) (x1 : Int32) (x2 : Int32) (x4 : Int32) (t0 : Int32) (S : St) (H : Heap) (locs : List Loc) (ls : Array Slot), bX7_isWriteBetween_47 k7 Q x1 x2 x4 t0 S → va_P g vwCl (wM ct ad S) H → va_D A (wM ct ad S) → va_S A s.heap H locs → lv_has ls 5 [(0, .ref (ad 0)), (1, .int x1), (2, .int x2), (4, .int x4)] → W p l e R s m args below meth c H locs 0 0 QQ (F0 m 47 ls [.int t0]) := by
    intro k7 hk7 x1 x2 x4 t0 S H locs ls h hP hD hS hl
    refine lv_istore_n (lv' := [(3, .int t0), (0, .ref (ad 0)), (1, .int x1), (2, .int x2), (4, .int x4)]) C.1 C.2.1 dX7_isWriteBetween_47 rfl hl (by decide) rfl (fun ls hl => ?_)
    obtain ⟨y1, ey1⟩ : ∃ z : Int32, z = x4 + (1 : Int32) := ⟨_, rfl⟩
    have h := h y1 ey1
    refine lv_iinc (v := y1) (lv' := [(4, .int y1), (3, .int t0), (0, .ref (ad 0)), (1, .int x1), (2, .int x2)]) C.1 C.2.1 dX7_isWriteBetween_48 hl (k := 4) rfl (by rw [ey1]; rfl) (by decide) rfl (fun ls hl => ?_)
    refine lv_goto (tgt := 7) C.1 C.2.1 dX7_isWriteBetween_51 (by decide) ?_
    exact hk7 x1 x2 t0 y1 S H locs ls h hP hD hS (lv_sub hl [2, 3, 4, 1, 0] rfl)
  have B42 : ∀ (k7 : Int32 → Int32 → Int32 → Int32 → St → Prop) (hk7 : ∀ (x1 : Int32) (x2 : Int32) (x3 : Int32) (x4 : Int32) (S : St) (H : Heap) (locs : List Loc) (ls : Array Slot), k7 x1 x2 x3 x4 S → va_P g vwCl (wM ct ad S) H → va_D A (wM ct ad S) → va_S A s.heap H locs → lv_has ls 5 [(0, .ref (ad 0)), (1, .int x1), (2, .int x2), (3, .int x3), (4, .int x4)] → W p l e R s m args below meth c H locs 0 0 QQ (F0 m 7 ls [])) (x1 : Int32) (x2 : Int32) (x4 : Int32) (S : St) (H : Heap) (locs : List Loc) (ls : Array Slot), bX7_isWriteBetween_42 k7 Q x1 x2 x4 S → va_P g vwCl (wM ct ad S) H → va_D A (wM ct ad S) → va_S A s.heap H locs → lv_has ls 5 [(0, .ref (ad 0)), (1, .int x1), (2, .int x2), (4, .int x4)] → W p l e R s m args below meth c H locs 0 0 QQ (F0 m 42 ls []) := by
    intro k7 hk7 x1 x2 x4 S H locs ls h hP hD hS hl
    refine lv_iconst (v := 1) C.1 C.2.1 dX7_isWriteBetween_42 (by decide) ?_
    refine lv_goto (tgt := 47) C.1 C.2.1 dX7_isWriteBetween_43 (by decide) ?_
    exact B47 k7 hk7 x1 x2 x4 (1 : Int32) S H locs ls h hP hD hS (lv_sub hl [0, 1, 2, 3] rfl)
  have B46 : ∀ (k7 : Int32 → Int32 → Int32 → Int32 → St → Prop) (hk7 : ∀ (x1 : Int32) (x2 : Int32) (x3 : Int32) (x4 : Int32) (S : St) (H : Heap) (locs : List Loc) (ls : Array Slot), k7 x1 x2 x3 x4 S → va_P g vwCl (wM ct ad S) H → va_D A (wM ct ad S) → va_S A s.heap H locs → lv_has ls 5 [(0, .ref (ad 0)), (1, .int x1), (2, .int x2), (3, .int x3), (4, .int x4)] → W p l e R s m args below meth c H locs 0 0 QQ (F0 m 7 ls [])) (x1 : Int32) (x2 : Int32) (x4 : Int32) (S : St) (H : Heap) (locs : List Loc) (ls : Array Slot), bX7_isWriteBetween_46 k7 Q x1 x2 x4 S → va_P g vwCl (wM ct ad S) H → va_D A (wM ct ad S) → va_S A s.heap H locs → lv_has ls 5 [(0, .ref (ad 0)), (1, .int x1), (2, .int x2), (4, .int x4)] → W p l e R s m args below meth c H locs 0 0 QQ (F0 m 46 ls []) := by
    intro k7 hk7 x1 x2 x4 S H locs ls h hP hD hS hl
    refine lv_iconst (v := 0) C.1 C.2.1 dX7_isWriteBetween_46 (by decide) ?_
    exact B47 k7 hk7 x1 x2 x4 (0 : Int32) S H locs ls h hP hD hS (lv_sub hl [0, 1, 2, 3] rfl)
  have B7 : ∀ (k7 : Int32 → Int32 → Int32 → Int32 → St → Prop) (hk7 : ∀ (x1 : Int32) (x2 : Int32) (x3 : Int32) (x4 : Int32) (S : St) (H : Heap) (locs : List Loc) (ls : Array Slot), k7 x1 x2 x3 x4 S → va_P g vwCl (wM ct ad S) H → va_D A (wM ct ad S) → va_S A s.heap H locs → lv_has ls 5 [(0, .ref (ad 0)), (1, .int x1), (2, .int x2), (3, .int x3), (4, .int x4)] → W p l e R s m args below meth c H locs 0 0 QQ (F0 m 7 ls [])) (x1 : Int32) (x2 : Int32) (x3 : Int32) (x4 : Int32) (S : St) (H : Heap) (locs : List Loc) (ls : Array Slot), bX7_isWriteBetween_7 k7 Q x1 x2 x3 x4 S → va_P g vwCl (wM ct ad S) H → va_D A (wM ct ad S) → va_S A s.heap H locs → lv_has ls 5 [(0, .ref (ad 0)), (1, .int x1), (2, .int x2), (3, .int x3), (4, .int x4)] → W p l e R s m args below meth c H locs 0 0 QQ (F0 m 7 ls []) := by
    intro k7 hk7 x1 x2 x3 x4 S H locs ls h hP hD hS hl
    refine lv_iload C.1 C.2.1 dX7_isWriteBetween_7 (lv_at hl 4 rfl) ?_
    refine lv_iload_n C.1 C.2.1 dX7_isWriteBetween_9 rfl (lv_at hl 2 rfl) ?_
    refine lv_icmp_ge (tgt := 54) C.1 C.2.1 dX7_isWriteBetween_10 (by decide) (fun c9 => ?_) (fun c9 => ?_)
    · have h := h.1 c9
      refine lv_iload_n C.1 C.2.1 dX7_isWriteBetween_54 rfl (lv_at hl 3 rfl) ?_
      exact hret _ _ _ _ _ _ dX7_isWriteBetween_55 h.1 h.2 hP hD hS
    · have h := h.2 c9
      refine lv_iload_n C.1 C.2.1 dX7_isWriteBetween_13 rfl (lv_at hl 3 rfl) ?_
      refine lv_if_ne (tgt := 42) C.1 C.2.1 dX7_isWriteBetween_14 (by decide) (fun c8 => ?_) (fun c8 => ?_)
      · have h := h.1 c8
        exact B42 k7 hk7 x1 x2 x4 S H locs ls h hP hD hS (lv_sub hl [0, 1, 2, 4] rfl)
      · have h := h.2 c8
        refine lv_aload_n C.1 C.2.1 dX7_isWriteBetween_17 rfl (lv_at hl 0 rfl) ?_
        refine lv_iload C.1 C.2.1 dX7_isWriteBetween_18 (lv_at hl 4 rfl) ?_
        refine g_callVi (w := wM ct ad) C hK hN hA hP hD hS (mX7_writes l g ct ad H.size S x4  _ h) (cwV 1 C.2.2.2.2 gX7_isWriteBetween_X7_writes rfl rfl rfl (by decide +kernel) ⟨Nat.le_trans (by decide) hRf, Nat.le_trans (by decide) hRl⟩) (va_recv hK hP (ci := 7) (q0 := 0) rfl rfl) rfl hl.1 rfl (Nat.le_of_ble_eq_true rfl) dX7_isWriteBetween_20 ⟨Nat.zero_le _, Nat.zero_le _⟩ (fun r3 S2 H locs h hP hD hS => ?_)
        refine lv_if_eq (tgt := 46) C.1 C.2.1 dX7_isWriteBetween_23 (by decide) (fun c7 => ?_) (fun c7 => ?_)
        · have h := h.1 c7
          exact B46 k7 hk7 x1 x2 x4 S2 H locs ls h hP hD hS (lv_sub hl [0, 1, 2, 4] rfl)
        · have h := h.2 c7
          refine lv_aload_n C.1 C.2.1 dX7_isWriteBetween_26 rfl (lv_at hl 0 rfl) ?_
          refine mg_locationOf C hinX7 hK hP (by decide +kernel) dX7_isWriteBetween_27 ?_
          refine lv_iload C.1 C.2.1 dX7_isWriteBetween_30 (lv_at hl 4 rfl) ?_
          obtain ⟨g4, h⟩ := h
          refine ma_locationOf C hK hP g4  rfl dX7_isWriteBetween_32 ?_
          refine lv_aload_n C.1 C.2.1 dX7_isWriteBetween_33 rfl (lv_at hl 0 rfl) ?_
          refine mg_locationOf C hinX7 hK hP (by decide +kernel) dX7_isWriteBetween_34 ?_
          refine lv_iload_n C.1 C.2.1 dX7_isWriteBetween_37 rfl (lv_at hl 1 rfl) ?_
          obtain ⟨g5, h⟩ := h
          refine ma_locationOf C hK hP g5  rfl dX7_isWriteBetween_38 ?_
          refine lv_icmp_ne (tgt := 46) C.1 C.2.1 dX7_isWriteBetween_39 (by decide) (fun c6 => ?_) (fun c6 => ?_)
          · have h := h.1 c6
            exact B46 k7 hk7 x1 x2 x4 S2 H locs ls h hP hD hS (lv_sub hl [0, 1, 2, 4] rfl)
          · have h := h.2 c6
            exact B42 k7 hk7 x1 x2 x4 S2 H locs ls h hP hD hS (lv_sub hl [0, 1, 2, 4] rfl)
  have L7 : ∀ (N : Nat) (x1 : Int32) (x2 : Int32) (x3 : Int32) (x4 : Int32) (S : St) (H : Heap) (locs : List Loc) (ls : Array Slot), itr (F := Int32 → Int32 → Int32 → Int32 → St → Prop) (fun _ _ _ _ _ => False) (fun k7 x1 x2 x3 x4 S => bX7_isWriteBetween_7 k7 Q x1 x2 x3 x4 S) N x1 x2 x3 x4 S → va_P g vwCl (wM ct ad S) H → va_D A (wM ct ad S) → va_S A s.heap H locs → lv_has ls 5 [(0, .ref (ad 0)), (1, .int x1), (2, .int x2), (3, .int x3), (4, .int x4)] → W p l e R s m args below meth c H locs 0 0 QQ (F0 m 7 ls []) := by
    intro N
    induction N with
    | zero => intro x1 x2 x3 x4 S H locs ls h hP hD hS hl; exact False.elim h
    | succ N ih => intro x1 x2 x3 x4 S H locs ls h hP hD hS hl; exact B7  (itr (F := Int32 → Int32 → Int32 → Int32 → St → Prop) (fun _ _ _ _ _ => False) (fun k7 x1 x2 x3 x4 S => bX7_isWriteBetween_7 k7 Q x1 x2 x3 x4 S) N) ih x1 x2 x3 x4 S H locs ls h  hP hD hS hl
  refine lv_iconst (v := 0) C.1 C.2.1 dX7_isWriteBetween_0 (by decide) ?_
  refine lv_istore_n (lv' := [(3, .int (0 : Int32)), (0, .ref (ad 0)), (1, .int x1), (2, .int x2)]) C.1 C.2.1 dX7_isWriteBetween_1 rfl hl (by decide) rfl (fun ls hl => ?_)
  refine lv_iload_n C.1 C.2.1 dX7_isWriteBetween_2 rfl (lv_at hl 2 rfl) ?_
  refine lv_iconst (v := 1) C.1 C.2.1 dX7_isWriteBetween_3 (by decide) ?_
  refine lv_iadd C.1 C.2.1 dX7_isWriteBetween_4 ?_
  refine lv_topi (fun y10 ey10 => ?_)
  have h := h y10 ey10
  refine lv_istore (lv' := [(4, .int y10), (3, .int (0 : Int32)), (0, .ref (ad 0)), (1, .int x1), (2, .int x2)]) C.1 C.2.1 dX7_isWriteBetween_5 hl (by decide) rfl (fun ls hl => ?_)
  obtain ⟨N, h⟩ := h
  exact L7 N x1 x2 (0 : Int32) y10 S H locs ls h hP hD hS (lv_sub hl [2, 3, 4, 1, 0] rfl)
theorem mX7_isWriteBetween (l : Launch) (g : va_G) (ct : Nat → ClassId) (ad : Nat → Nat) (sz : Nat) (S : St) (x1 : Int32) (x2 : Int32) (Q : Int32 → St → Prop) (h : pX7_isWriteBetween x1 x2 S Q) : Met l yX7_isWriteBetween wsX7_isWriteBetween ({ frames := 2, cells := 0, slots := 0, locals := 41 }) (gPc g (mT ct) (wM ct ad S) sz [.ref (ad 0), .int x1, .int x2]) (va_Qi Q (gB g (mT ct) (wM ct ad) (va_A (wM ct ad S) sz)) (va_A (wM ct ad S) sz)) 0 0 (va_A (wM ct ad S) sz) :=
  g_metZ (w := wM ct ad) (cc := cX7_isWriteBetween) (maxL := 5) (by decide) rfl rfl (Nat.le_of_ble_eq_true rfl) rfl (fun p e s m args below meth c QQ A C hK hN hA hret H locs ls hP hD hS hl => kX7_isWriteBetween C hK hN hA (Nat.le_refl _) (Nat.le_refl _) Q hret x1 x2 S h H locs ls hP hD hS hl)

def bX7_isAsked_182 (Q : Int32 → St → Prop) (t0 : Int32) (S : St) : Prop :=
  (zb t0 ∧ Q t0 S)
def bX7_isAsked_181 (Q : Int32 → St → Prop) (S : St) : Prop :=
  bX7_isAsked_182 Q (0 : Int32) S
def bX7_isAsked_177 (Q : Int32 → St → Prop) (S : St) : Prop :=
  bX7_isAsked_182 Q (1 : Int32) S
def bX7_isAsked_113 (Q : Int32 → St → Prop) (x1 : Int32) (x2 : Int32) (S : St) : Prop :=
  (vp_in x2 6 ∧ (∀ y2 : Int32, y2 = (S.1 32 (Int32.toNatClampNeg x2)) → ((y2 ≤ x1 → bX7_isAsked_181 Q  S) ∧ (¬ (y2 ≤ x1) → ((x2 ≤ y2 → bX7_isAsked_181 Q  S) ∧ (¬ (x2 ≤ y2) → (vp_in y2 6 ∧ (vp_in x1 6 ∧ ((¬ (S.1 14 (Int32.toNatClampNeg y2)) = (S.1 14 (Int32.toNatClampNeg x1)) → bX7_isAsked_181 Q  S) ∧ ((S.1 14 (Int32.toNatClampNeg y2)) = (S.1 14 (Int32.toNatClampNeg x1)) → (vp_in y2 6 ∧ pX7_needs (S.1 20 (Int32.toNatClampNeg y2)) x1 (fun (r6 : Int32) => ((¬ r6 = 0 → bX7_isAsked_177 Q  S) ∧ (r6 = 0 → (vp_in y2 6 ∧ pX7_needs (S.1 21 (Int32.toNatClampNeg y2)) x1 (fun (r8 : Int32) => ((r8 = 0 → bX7_isAsked_181 Q  S) ∧ (¬ (r8 = 0) → bX7_isAsked_177 Q  S))))))))))))))))))
def bX7_isAsked_94 (Q : Int32 → St → Prop) (x1 : Int32) (x2 : Int32) (t0 : Int32) (S : St) : Prop :=
  ((t0 = 0 → bX7_isAsked_113 Q x1 x2 S) ∧ (¬ (t0 = 0) → (vp_in x2 6 ∧ ((¬ (S.1 32 (Int32.toNatClampNeg x2)) = x1 → bX7_isAsked_113 Q x1 x2 S) ∧ ((S.1 32 (Int32.toNatClampNeg x2)) = x1 → Q (1 : Int32) S)))))
def bX7_isAsked_89 (Q : Int32 → St → Prop) (x1 : Int32) (x2 : Int32) (S : St) : Prop :=
  bX7_isAsked_94 Q x1 x2 (1 : Int32) S
def bX7_isAsked_59 (Q : Int32 → St → Prop) (x1 : Int32) (x2 : Int32) (S : St) : Prop :=
  (vp_in x1 6 ∧ (((S.1 15 (Int32.toNatClampNeg x1)) = (2 : Int32) → bX7_isAsked_89 Q x1 x2 S) ∧ (¬ ((S.1 15 (Int32.toNatClampNeg x1)) = (2 : Int32)) → (vp_in x1 6 ∧ (((S.1 15 (Int32.toNatClampNeg x1)) = (3 : Int32) → bX7_isAsked_89 Q x1 x2 S) ∧ (¬ ((S.1 15 (Int32.toNatClampNeg x1)) = (3 : Int32)) → (vp_in x1 6 ∧ ((¬ (S.1 15 (Int32.toNatClampNeg x1)) = (5 : Int32) → bX7_isAsked_94 Q x1 x2 (0 : Int32) S) ∧ ((S.1 15 (Int32.toNatClampNeg x1)) = (5 : Int32) → bX7_isAsked_89 Q x1 x2 S)))))))))
def bX7_isAsked_20 (Q : Int32 → St → Prop) (x1 : Int32) (x2 : Int32) (t0 : Int32) (S : St) : Prop :=
  pX7_reads x1 S (fun (r24 : Int32) (S23 : St) => ((r24 = 0 → bX7_isAsked_59 Q x1 x2 S23) ∧ (¬ (r24 = 0) → ((t0 = 0 → bX7_isAsked_59 Q x1 x2 S23) ∧ (¬ (t0 = 0) → pX7_isWriteBetween x1 x2 S23 (fun (r26 : Int32) (S25 : St) => ((¬ r26 = 0 → bX7_isAsked_59 Q x1 x2 S25) ∧ (r26 = 0 → (vp_in x1 6 ∧ (vp_in x2 6 ∧ (((S25.1 32 (Int32.toNatClampNeg x1)) = (S25.1 32 (Int32.toNatClampNeg x2)) → bX7_isAsked_59 Q x1 x2 S25) ∧ (¬ ((S25.1 32 (Int32.toNatClampNeg x1)) = (S25.1 32 (Int32.toNatClampNeg x2))) → Q (1 : Int32) S25))))))))))))
def pX7_isAsked (x1 : Int32) (x2 : Int32) (S : St) (Q : Int32 → St → Prop) : Prop :=
  (vp_in x1 6 ∧ (vp_in x2 6 ∧ ((¬ (S.1 16 (Int32.toNatClampNeg x1)) = (S.1 16 (Int32.toNatClampNeg x2)) → bX7_isAsked_20 Q x1 x2 (0 : Int32) S) ∧ ((S.1 16 (Int32.toNatClampNeg x1)) = (S.1 16 (Int32.toNatClampNeg x2)) → bX7_isAsked_20 Q x1 x2 (1 : Int32) S))))
set_option maxHeartbeats 40000000 in
set_option maxRecDepth 100000 in
theorem kX7_isAsked {p : Program} {l : Launch} {e : Env} {R : Room} {s : State} {m : MethodId} {args : Array Value} {below : List Frame} {meth : Method} {c : Code} {QQ : State → Prop} {g : va_G} {ct : Nat → ClassId} {ad : Nat → Nat} {A : Nat → Prop} (C : CallFix p m c cX7_isAsked 6 s args wsX7_isAsked RX7) (hK : va_K g vwCl (mT ct) s) (hN : xN s) (hA : ∀ q, s.heap.size ≤ q → A q) (hRf : 3 ≤ R.frames) (hRl : 65 ≤ R.locals) (Q : Int32 → St → Prop) (hret : ∀ (pc : Nat) (r : Int32) (S : St) (H : Heap) (locs : List Loc) (ls : Array Slot), decode cX7_isAsked pc = .ok (.ireturn, 1) → zb r → Q r S → va_P g vwCl (wM ct ad S) H → va_D A (wM ct ad S) → va_S A s.heap H locs → W p l e R s m args below meth c H locs 0 0 QQ (F0 m pc ls [.int r])) (x1 : Int32) (x2 : Int32) (S : St) (h : pX7_isAsked x1 x2 S Q) (H : Heap) (locs : List Loc) (ls : Array Slot) (hP : va_P g vwCl (wM ct ad S) H) (hD : va_D A (wM ct ad S)) (hS : va_S A s.heap H locs) (hl : lv_has ls 6 [(0, .ref (ad 0)), (1, .int x1), (2, .int x2)]) : W p l e R s m args below meth c H locs 0 0 QQ (F0 m 0 ls []) := by
  have hinX7 : ∀ w ∈ wsX70, w ∈ wsX7_isAsked := by decide +kernel
  have B182 : ∀ (t0 : Int32) (S : St) (H : Heap) (locs : List Loc) (ls : Array Slot), bX7_isAsked_182 Q t0 S → va_P g vwCl (wM ct ad S) H → va_D A (wM ct ad S) → va_S A s.heap H locs → lv_has ls 6 [(0, .ref (ad 0))] → W p l e R s m args below meth c H locs 0 0 QQ (F0 m 182 ls [.int t0]) := by
    intro t0 S H locs ls h hP hD hS hl
    exact hret _ _ _ _ _ _ dX7_isAsked_182 h.1 h.2 hP hD hS
  have B181 : ∀ (S : St) (H : Heap) (locs : List Loc) (ls : Array Slot), bX7_isAsked_181 Q S → va_P g vwCl (wM ct ad S) H → va_D A (wM ct ad S) → va_S A s.heap H locs → lv_has ls 6 [(0, .ref (ad 0))] → W p l e R s m args below meth c H locs 0 0 QQ (F0 m 181 ls []) := by
    intro S H locs ls h hP hD hS hl
    refine lv_iconst (v := 0) C.1 C.2.1 dX7_isAsked_181 (by decide) ?_
    exact B182 (0 : Int32) S H locs ls h hP hD hS (lv_sub hl [0] rfl)
  have B177 : ∀ (S : St) (H : Heap) (locs : List Loc) (ls : Array Slot), bX7_isAsked_177 Q S → va_P g vwCl (wM ct ad S) H → va_D A (wM ct ad S) → va_S A s.heap H locs → lv_has ls 6 [(0, .ref (ad 0))] → W p l e R s m args below meth c H locs 0 0 QQ (F0 m 177 ls []) := by
    intro S H locs ls h hP hD hS hl
    refine lv_iconst (v := 1) C.1 C.2.1 dX7_isAsked_177 (by decide) ?_
    refine lv_goto (tgt := 182) C.1 C.2.1 dX7_isAsked_178 (by decide) ?_
    exact B182 (1 : Int32) S H locs ls h hP hD hS (lv_sub hl [0] rfl)
  have B113 : ∀ (x1 : Int32) (x2 : Int32) (S : St) (H : Heap) (locs : List Loc) (ls : Array Slot), bX7_isAsked_113 Q x1 x2 S → va_P g vwCl (wM ct ad S) H → va_D A (wM ct ad S) → va_S A s.heap H locs → lv_has ls 6 [(0, .ref (ad 0)), (1, .int x1), (2, .int x2)] → W p l e R s m args below meth c H locs 0 0 QQ (F0 m 113 ls []) := by
    intro x1 x2 S H locs ls h hP hD hS hl
    refine lv_aload_n C.1 C.2.1 dX7_isAsked_113 rfl (lv_at hl 0 rfl) ?_
    refine mg_source C hinX7 hK hP (by decide +kernel) dX7_isAsked_114 ?_
    refine lv_iload_n C.1 C.2.1 dX7_isAsked_117 rfl (lv_at hl 2 rfl) ?_
    obtain ⟨g1, h⟩ := h
    refine ma_source C hK hP g1  rfl dX7_isAsked_118 ?_
    refine lv_topi (fun y2 ey2 => ?_)
    have h := h y2 ey2
    refine lv_istore (lv' := [(5, .int y2), (0, .ref (ad 0)), (1, .int x1), (2, .int x2)]) C.1 C.2.1 dX7_isAsked_119 hl (by decide) rfl (fun ls hl => ?_)
    refine lv_iload C.1 C.2.1 dX7_isAsked_121 (lv_at hl 0 rfl) ?_
    refine lv_iload_n C.1 C.2.1 dX7_isAsked_123 rfl (lv_at hl 2 rfl) ?_
    refine lv_icmp_le (tgt := 181) C.1 C.2.1 dX7_isAsked_124 (by decide) (fun c13 => ?_) (fun c13 => ?_)
    · have h := h.1 c13
      exact B181  S H locs ls h hP hD hS (lv_sub hl [1] rfl)
    · have h := h.2 c13
      refine lv_iload C.1 C.2.1 dX7_isAsked_127 (lv_at hl 0 rfl) ?_
      refine lv_iload_n C.1 C.2.1 dX7_isAsked_129 rfl (lv_at hl 3 rfl) ?_
      refine lv_icmp_ge (tgt := 181) C.1 C.2.1 dX7_isAsked_130 (by decide) (fun c12 => ?_) (fun c12 => ?_)
      · have h := h.1 c12
        exact B181  S H locs ls h hP hD hS (lv_sub hl [1] rfl)
      · have h := h.2 c12
        refine lv_aload_n C.1 C.2.1 dX7_isAsked_133 rfl (lv_at hl 1 rfl) ?_
        refine mg_hartOf C hinX7 hK hP (by decide +kernel) dX7_isAsked_134 ?_
        refine lv_iload C.1 C.2.1 dX7_isAsked_137 (lv_at hl 0 rfl) ?_
        obtain ⟨g3, h⟩ := h
        refine ma_hartOf C hK hP g3  rfl dX7_isAsked_139 ?_
        refine lv_aload_n C.1 C.2.1 dX7_isAsked_140 rfl (lv_at hl 1 rfl) ?_
        refine mg_hartOf C hinX7 hK hP (by decide +kernel) dX7_isAsked_141 ?_
        refine lv_iload_n C.1 C.2.1 dX7_isAsked_144 rfl (lv_at hl 2 rfl) ?_
        obtain ⟨g4, h⟩ := h
        refine ma_hartOf C hK hP g4  rfl dX7_isAsked_145 ?_
        refine lv_icmp_ne (tgt := 181) C.1 C.2.1 dX7_isAsked_146 (by decide) (fun c11 => ?_) (fun c11 => ?_)
        · have h := h.1 c11
          exact B181  S H locs ls h hP hD hS (lv_sub hl [1] rfl)
        · have h := h.2 c11
          refine lv_aload_n C.1 C.2.1 dX7_isAsked_149 rfl (lv_at hl 1 rfl) ?_
          refine mg_byPlace C hinX7 hK hP (by decide +kernel) dX7_isAsked_150 ?_
          refine lv_iload C.1 C.2.1 dX7_isAsked_153 (lv_at hl 0 rfl) ?_
          obtain ⟨g5, h⟩ := h
          refine ma_byPlace C hK hP g5  rfl dX7_isAsked_155 ?_
          refine lv_iload_n C.1 C.2.1 dX7_isAsked_156 rfl (lv_at hl 2 rfl) ?_
          refine g_callS (w := wM ct ad) C hK hN hA hP hD hS (mX7_needs l g (mT ct) S H.size (S.1 20 (Int32.toNatClampNeg y2)) x1 _ h) (va_cwS 2 C.2.2.2.2 gX7_isAsked_X7_needs rfl rfl rfl (by decide +kernel) ⟨Nat.le_trans (by decide) hRf, Nat.le_trans (by decide) hRl⟩) rfl hl.1 rfl (Nat.le_of_ble_eq_true rfl) dX7_isAsked_157 ⟨Nat.zero_le _, Nat.zero_le _⟩ (fun r6 H locs h hP hD hS => ?_)
          refine lv_if_ne (tgt := 177) C.1 C.2.1 dX7_isAsked_160 (by decide) (fun c10 => ?_) (fun c10 => ?_)
          · have h := h.1 c10
            exact B177  S H locs ls h hP hD hS (lv_sub hl [1] rfl)
          · have h := h.2 c10
            refine lv_aload_n C.1 C.2.1 dX7_isAsked_163 rfl (lv_at hl 1 rfl) ?_
            refine mg_byValue C hinX7 hK hP (by decide +kernel) dX7_isAsked_164 ?_
            refine lv_iload C.1 C.2.1 dX7_isAsked_167 (lv_at hl 0 rfl) ?_
            obtain ⟨g7, h⟩ := h
            refine ma_byValue C hK hP g7  rfl dX7_isAsked_169 ?_
            refine lv_iload_n C.1 C.2.1 dX7_isAsked_170 rfl (lv_at hl 2 rfl) ?_
            refine g_callS (w := wM ct ad) C hK hN hA hP hD hS (mX7_needs l g (mT ct) S H.size (S.1 21 (Int32.toNatClampNeg y2)) x1 _ h) (va_cwS 2 C.2.2.2.2 gX7_isAsked_X7_needs rfl rfl rfl (by decide +kernel) ⟨Nat.le_trans (by decide) hRf, Nat.le_trans (by decide) hRl⟩) rfl hl.1 rfl (Nat.le_of_ble_eq_true rfl) dX7_isAsked_171 ⟨Nat.zero_le _, Nat.zero_le _⟩ (fun r8 H locs h hP hD hS => ?_)
            refine lv_if_eq (tgt := 181) C.1 C.2.1 dX7_isAsked_174 (by decide) (fun c9 => ?_) (fun c9 => ?_)
            · have h := h.1 c9
              exact B181  S H locs ls h hP hD hS (lv_sub hl [1] rfl)
            · have h := h.2 c9
              exact B177  S H locs ls h hP hD hS (lv_sub hl [1] rfl)
  have B94 : ∀ (x1 : Int32) (x2 : Int32) (t0 : Int32) (S : St) (H : Heap) (locs : List Loc) (ls : Array Slot), bX7_isAsked_94 Q x1 x2 t0 S → va_P g vwCl (wM ct ad S) H → va_D A (wM ct ad S) → va_S A s.heap H locs → lv_has ls 6 [(0, .ref (ad 0)), (1, .int x1), (2, .int x2)] → W p l e R s m args below meth c H locs 0 0 QQ (F0 m 94 ls [.int t0]) := by
    intro x1 x2 t0 S H locs ls h hP hD hS hl
    refine lv_istore (lv' := [(4, .int t0), (0, .ref (ad 0)), (1, .int x1), (2, .int x2)]) C.1 C.2.1 dX7_isAsked_94 hl (by decide) rfl (fun ls hl => ?_)
    refine lv_iload C.1 C.2.1 dX7_isAsked_96 (lv_at hl 0 rfl) ?_
    refine lv_if_eq (tgt := 113) C.1 C.2.1 dX7_isAsked_98 (by decide) (fun c16 => ?_) (fun c16 => ?_)
    · have h := h.1 c16
      exact B113 x1 x2 S H locs ls h hP hD hS (lv_sub hl [1, 2, 3] rfl)
    · have h := h.2 c16
      refine lv_aload_n C.1 C.2.1 dX7_isAsked_101 rfl (lv_at hl 1 rfl) ?_
      refine mg_source C hinX7 hK hP (by decide +kernel) dX7_isAsked_102 ?_
      refine lv_iload_n C.1 C.2.1 dX7_isAsked_105 rfl (lv_at hl 3 rfl) ?_
      obtain ⟨g14, h⟩ := h
      refine ma_source C hK hP g14  rfl dX7_isAsked_106 ?_
      refine lv_iload_n C.1 C.2.1 dX7_isAsked_107 rfl (lv_at hl 2 rfl) ?_
      refine lv_icmp_ne (tgt := 113) C.1 C.2.1 dX7_isAsked_108 (by decide) (fun c15 => ?_) (fun c15 => ?_)
      · have h := h.1 c15
        exact B113 x1 x2 S H locs ls h hP hD hS (lv_sub hl [1, 2, 3] rfl)
      · have h := h.2 c15
        refine lv_iconst (v := 1) C.1 C.2.1 dX7_isAsked_111 (by decide) ?_
        exact hret _ _ _ _ _ _ dX7_isAsked_112 zb_1 h hP hD hS
  have B89 : ∀ (x1 : Int32) (x2 : Int32) (S : St) (H : Heap) (locs : List Loc) (ls : Array Slot), bX7_isAsked_89 Q x1 x2 S → va_P g vwCl (wM ct ad S) H → va_D A (wM ct ad S) → va_S A s.heap H locs → lv_has ls 6 [(0, .ref (ad 0)), (1, .int x1), (2, .int x2)] → W p l e R s m args below meth c H locs 0 0 QQ (F0 m 89 ls []) := by
    intro x1 x2 S H locs ls h hP hD hS hl
    refine lv_iconst (v := 1) C.1 C.2.1 dX7_isAsked_89 (by decide) ?_
    refine lv_goto (tgt := 94) C.1 C.2.1 dX7_isAsked_90 (by decide) ?_
    exact B94 x1 x2 (1 : Int32) S H locs ls h hP hD hS (lv_sub hl [0, 1, 2] rfl)
  have B59 : ∀ (x1 : Int32) (x2 : Int32) (S : St) (H : Heap) (locs : List Loc) (ls : Array Slot), bX7_isAsked_59 Q x1 x2 S → va_P g vwCl (wM ct ad S) H → va_D A (wM ct ad S) → va_S A s.heap H locs → lv_has ls 6 [(0, .ref (ad 0)), (1, .int x1), (2, .int x2)] → W p l e R s m args below meth c H locs 0 0 QQ (F0 m 59 ls []) := by
    intro x1 x2 S H locs ls h hP hD hS hl
    refine lv_aload_n C.1 C.2.1 dX7_isAsked_59 rfl (lv_at hl 0 rfl) ?_
    refine mg_kindOf C hinX7 hK hP (by decide +kernel) dX7_isAsked_60 ?_
    refine lv_iload_n C.1 C.2.1 dX7_isAsked_63 rfl (lv_at hl 1 rfl) ?_
    obtain ⟨g17, h⟩ := h
    refine ma_kindOf C hK hP g17  rfl dX7_isAsked_64 ?_
    refine lv_iconst (v := 2) C.1 C.2.1 dX7_isAsked_65 (by decide) ?_
    refine lv_icmp_eq (tgt := 89) C.1 C.2.1 dX7_isAsked_66 (by decide) (fun c22 => ?_) (fun c22 => ?_)
    · have h := h.1 c22
      exact B89 x1 x2 S H locs ls h hP hD hS (lv_sub hl [0, 1, 2] rfl)
    · have h := h.2 c22
      refine lv_aload_n C.1 C.2.1 dX7_isAsked_69 rfl (lv_at hl 0 rfl) ?_
      refine mg_kindOf C hinX7 hK hP (by decide +kernel) dX7_isAsked_70 ?_
      refine lv_iload_n C.1 C.2.1 dX7_isAsked_73 rfl (lv_at hl 1 rfl) ?_
      obtain ⟨g18, h⟩ := h
      refine ma_kindOf C hK hP g18  rfl dX7_isAsked_74 ?_
      refine lv_iconst (v := 3) C.1 C.2.1 dX7_isAsked_75 (by decide) ?_
      refine lv_icmp_eq (tgt := 89) C.1 C.2.1 dX7_isAsked_76 (by decide) (fun c21 => ?_) (fun c21 => ?_)
      · have h := h.1 c21
        exact B89 x1 x2 S H locs ls h hP hD hS (lv_sub hl [0, 1, 2] rfl)
      · have h := h.2 c21
        refine lv_aload_n C.1 C.2.1 dX7_isAsked_79 rfl (lv_at hl 0 rfl) ?_
        refine mg_kindOf C hinX7 hK hP (by decide +kernel) dX7_isAsked_80 ?_
        refine lv_iload_n C.1 C.2.1 dX7_isAsked_83 rfl (lv_at hl 1 rfl) ?_
        obtain ⟨g19, h⟩ := h
        refine ma_kindOf C hK hP g19  rfl dX7_isAsked_84 ?_
        refine lv_iconst (v := 5) C.1 C.2.1 dX7_isAsked_85 (by decide) ?_
        refine lv_icmp_ne (tgt := 93) C.1 C.2.1 dX7_isAsked_86 (by decide) (fun c20 => ?_) (fun c20 => ?_)
        · have h := h.1 c20
          refine lv_iconst (v := 0) C.1 C.2.1 dX7_isAsked_93 (by decide) ?_
          exact B94 x1 x2 (0 : Int32) S H locs ls h hP hD hS (lv_sub hl [0, 1, 2] rfl)
        · have h := h.2 c20
          exact B89 x1 x2 S H locs ls h hP hD hS (lv_sub hl [0, 1, 2] rfl)
  have B20 : ∀ (x1 : Int32) (x2 : Int32) (t0 : Int32) (S : St) (H : Heap) (locs : List Loc) (ls : Array Slot), bX7_isAsked_20 Q x1 x2 t0 S → va_P g vwCl (wM ct ad S) H → va_D A (wM ct ad S) → va_S A s.heap H locs → lv_has ls 6 [(0, .ref (ad 0)), (1, .int x1), (2, .int x2)] → W p l e R s m args below meth c H locs 0 0 QQ (F0 m 20 ls [.int t0]) := by
    intro x1 x2 t0 S H locs ls h hP hD hS hl
    refine lv_istore_n (lv' := [(3, .int t0), (0, .ref (ad 0)), (1, .int x1), (2, .int x2)]) C.1 C.2.1 dX7_isAsked_20 rfl hl (by decide) rfl (fun ls hl => ?_)
    refine lv_aload_n C.1 C.2.1 dX7_isAsked_21 rfl (lv_at hl 1 rfl) ?_
    refine lv_iload_n C.1 C.2.1 dX7_isAsked_22 rfl (lv_at hl 2 rfl) ?_
    refine g_callVi (w := wM ct ad) C hK hN hA hP hD hS (mX7_reads l g ct ad H.size S x1  _ h) (cwV 1 C.2.2.2.2 gX7_isAsked_X7_reads rfl rfl rfl (by decide +kernel) ⟨Nat.le_trans (by decide) hRf, Nat.le_trans (by decide) hRl⟩) (va_recv hK hP (ci := 7) (q0 := 0) rfl rfl) rfl hl.1 rfl (Nat.le_of_ble_eq_true rfl) dX7_isAsked_23 ⟨Nat.zero_le _, Nat.zero_le _⟩ (fun r24 S23 H locs h hP hD hS => ?_)
    refine lv_if_eq (tgt := 59) C.1 C.2.1 dX7_isAsked_26 (by decide) (fun c32 => ?_) (fun c32 => ?_)
    · have h := h.1 c32
      exact B59 x1 x2 S23 H locs ls h hP hD hS (lv_sub hl [1, 2, 3] rfl)
    · have h := h.2 c32
      refine lv_iload_n C.1 C.2.1 dX7_isAsked_29 rfl (lv_at hl 0 rfl) ?_
      refine lv_if_eq (tgt := 59) C.1 C.2.1 dX7_isAsked_30 (by decide) (fun c31 => ?_) (fun c31 => ?_)
      · have h := h.1 c31
        exact B59 x1 x2 S23 H locs ls h hP hD hS (lv_sub hl [1, 2, 3] rfl)
      · have h := h.2 c31
        refine lv_aload_n C.1 C.2.1 dX7_isAsked_33 rfl (lv_at hl 1 rfl) ?_
        refine lv_iload_n C.1 C.2.1 dX7_isAsked_34 rfl (lv_at hl 2 rfl) ?_
        refine lv_iload_n C.1 C.2.1 dX7_isAsked_35 rfl (lv_at hl 3 rfl) ?_
        refine g_callVi (w := wM ct ad) C hK hN hA hP hD hS (mX7_isWriteBetween l g ct ad H.size S23 x1 x2  _ h) (cwV 2 C.2.2.2.2 gX7_isAsked_X7_isWriteBetween rfl rfl rfl (by decide +kernel) ⟨Nat.le_trans (by decide) hRf, Nat.le_trans (by decide) hRl⟩) (va_recv hK hP (ci := 7) (q0 := 0) rfl rfl) rfl hl.1 rfl (Nat.le_of_ble_eq_true rfl) dX7_isAsked_36 ⟨Nat.zero_le _, Nat.zero_le _⟩ (fun r26 S25 H locs h hP hD hS => ?_)
        refine lv_if_ne (tgt := 59) C.1 C.2.1 dX7_isAsked_39 (by decide) (fun c30 => ?_) (fun c30 => ?_)
        · have h := h.1 c30
          exact B59 x1 x2 S25 H locs ls h hP hD hS (lv_sub hl [1, 2, 3] rfl)
        · have h := h.2 c30
          refine lv_aload_n C.1 C.2.1 dX7_isAsked_42 rfl (lv_at hl 1 rfl) ?_
          refine mg_source C hinX7 hK hP (by decide +kernel) dX7_isAsked_43 ?_
          refine lv_iload_n C.1 C.2.1 dX7_isAsked_46 rfl (lv_at hl 2 rfl) ?_
          obtain ⟨g27, h⟩ := h
          refine ma_source C hK hP g27  rfl dX7_isAsked_47 ?_
          refine lv_aload_n C.1 C.2.1 dX7_isAsked_48 rfl (lv_at hl 1 rfl) ?_
          refine mg_source C hinX7 hK hP (by decide +kernel) dX7_isAsked_49 ?_
          refine lv_iload_n C.1 C.2.1 dX7_isAsked_52 rfl (lv_at hl 3 rfl) ?_
          obtain ⟨g28, h⟩ := h
          refine ma_source C hK hP g28  rfl dX7_isAsked_53 ?_
          refine lv_icmp_eq (tgt := 59) C.1 C.2.1 dX7_isAsked_54 (by decide) (fun c29 => ?_) (fun c29 => ?_)
          · have h := h.1 c29
            exact B59 x1 x2 S25 H locs ls h hP hD hS (lv_sub hl [1, 2, 3] rfl)
          · have h := h.2 c29
            refine lv_iconst (v := 1) C.1 C.2.1 dX7_isAsked_57 (by decide) ?_
            exact hret _ _ _ _ _ _ dX7_isAsked_58 zb_1 h hP hD hS
  refine lv_aload_n C.1 C.2.1 dX7_isAsked_0 rfl (lv_at hl 0 rfl) ?_
  refine mg_locationOf C hinX7 hK hP (by decide +kernel) dX7_isAsked_1 ?_
  refine lv_iload_n C.1 C.2.1 dX7_isAsked_4 rfl (lv_at hl 1 rfl) ?_
  obtain ⟨g33, h⟩ := h
  refine ma_locationOf C hK hP g33  rfl dX7_isAsked_5 ?_
  refine lv_aload_n C.1 C.2.1 dX7_isAsked_6 rfl (lv_at hl 0 rfl) ?_
  refine mg_locationOf C hinX7 hK hP (by decide +kernel) dX7_isAsked_7 ?_
  refine lv_iload_n C.1 C.2.1 dX7_isAsked_10 rfl (lv_at hl 2 rfl) ?_
  obtain ⟨g34, h⟩ := h
  refine ma_locationOf C hK hP g34  rfl dX7_isAsked_11 ?_
  refine lv_icmp_ne (tgt := 19) C.1 C.2.1 dX7_isAsked_12 (by decide) (fun c35 => ?_) (fun c35 => ?_)
  · have h := h.1 c35
    refine lv_iconst (v := 0) C.1 C.2.1 dX7_isAsked_19 (by decide) ?_
    exact B20 x1 x2 (0 : Int32) S H locs ls h hP hD hS (lv_sub hl [0, 1, 2] rfl)
  · have h := h.2 c35
    refine lv_iconst (v := 1) C.1 C.2.1 dX7_isAsked_15 (by decide) ?_
    refine lv_goto (tgt := 20) C.1 C.2.1 dX7_isAsked_16 (by decide) ?_
    exact B20 x1 x2 (1 : Int32) S H locs ls h hP hD hS (lv_sub hl [0, 1, 2] rfl)
theorem mX7_isAsked (l : Launch) (g : va_G) (ct : Nat → ClassId) (ad : Nat → Nat) (sz : Nat) (S : St) (x1 : Int32) (x2 : Int32) (Q : Int32 → St → Prop) (h : pX7_isAsked x1 x2 S Q) : Met l yX7_isAsked wsX7_isAsked ({ frames := 3, cells := 0, slots := 0, locals := 65 }) (gPc g (mT ct) (wM ct ad S) sz [.ref (ad 0), .int x1, .int x2]) (va_Qi Q (gB g (mT ct) (wM ct ad) (va_A (wM ct ad S) sz)) (va_A (wM ct ad S) sz)) 0 0 (va_A (wM ct ad S) sz) :=
  g_metZ (w := wM ct ad) (cc := cX7_isAsked) (maxL := 6) (by decide) rfl rfl (Nat.le_of_ble_eq_true rfl) rfl (fun p e s m args below meth c QQ A C hK hN hA hret H locs ls hP hD hS hl => kX7_isAsked C hK hN hA (Nat.le_refl _) (Nat.le_refl _) Q hret x1 x2 S h H locs ls hP hD hS hl)

def bX7_isAtomic_165 (Q : Int32 → St → Prop) (x5 : Int32) (S : St) : Prop :=
  (zb x5 ∧ Q x5 S)
def bX7_isAtomic_157 (k51 : Int32 → Int32 → Int32 → Int32 → Int32 → St → Prop) (Q : Int32 → St → Prop) (x1 : Int32) (x3 : Int32) (x4 : Int32) (x6 : Int32) (t0 : Int32) (S : St) : Prop :=
  (∀ y1 : Int32, y1 = x6 + (1 : Int32) → k51 x1 x3 x4 t0 y1 S)
def bX7_isAtomic_152 (k51 : Int32 → Int32 → Int32 → Int32 → Int32 → St → Prop) (Q : Int32 → St → Prop) (x1 : Int32) (x3 : Int32) (x4 : Int32) (x6 : Int32) (S : St) : Prop :=
  bX7_isAtomic_157 k51 Q x1 x3 x4 x6 (1 : Int32) S
def bX7_isAtomic_117 (k51 : Int32 → Int32 → Int32 → Int32 → Int32 → St → Prop) (Q : Int32 → St → Prop) (x1 : Int32) (x3 : Int32) (x4 : Int32) (x6 : Int32) (t0 : Int32) (S : St) : Prop :=
  ((t0 = 0 → bX7_isAtomic_152 k51 Q x1 x3 x4 x6 S) ∧ (¬ (t0 = 0) → (vp_in x6 6 ∧ (((S.1 31 (Int32.toNatClampNeg x6)) < x4 → bX7_isAtomic_152 k51 Q x1 x3 x4 x6 S) ∧ (¬ ((S.1 31 (Int32.toNatClampNeg x6)) < x4) → (vp_in x6 6 ∧ (vp_in x1 6 ∧ (((S.1 31 (Int32.toNatClampNeg x6)) ≤ (S.1 31 (Int32.toNatClampNeg x1)) → bX7_isAtomic_157 k51 Q x1 x3 x4 x6 (0 : Int32) S) ∧ (¬ ((S.1 31 (Int32.toNatClampNeg x6)) ≤ (S.1 31 (Int32.toNatClampNeg x1))) → bX7_isAtomic_152 k51 Q x1 x3 x4 x6 S)))))))))
def bX7_isAtomic_116 (k51 : Int32 → Int32 → Int32 → Int32 → Int32 → St → Prop) (Q : Int32 → St → Prop) (x1 : Int32) (x3 : Int32) (x4 : Int32) (x6 : Int32) (S : St) : Prop :=
  bX7_isAtomic_117 k51 Q x1 x3 x4 x6 (0 : Int32) S
def bX7_isAtomic_51 (k51 : Int32 → Int32 → Int32 → Int32 → Int32 → St → Prop) (Q : Int32 → St → Prop) (x1 : Int32) (x3 : Int32) (x4 : Int32) (x5 : Int32) (x6 : Int32) (S : St) : Prop :=
  (((S.1 13 0) ≤ x6 → bX7_isAtomic_165 Q x5 S) ∧ (¬ ((S.1 13 0) ≤ x6) → ((x5 = 0 → bX7_isAtomic_165 Q x5 S) ∧ (¬ (x5 = 0) → ((x6 = x3 → bX7_isAtomic_116 k51 Q x1 x3 x4 x6 S) ∧ (¬ (x6 = x3) → pX7_writes x6 S (fun (r9 : Int32) (S8 : St) => ((r9 = 0 → bX7_isAtomic_116 k51 Q x1 x3 x4 x6 S8) ∧ (¬ (r9 = 0) → (vp_in x6 6 ∧ (vp_in x1 6 ∧ (((S8.1 14 (Int32.toNatClampNeg x6)) = (S8.1 14 (Int32.toNatClampNeg x1)) → bX7_isAtomic_116 k51 Q x1 x3 x4 x6 S8) ∧ (¬ ((S8.1 14 (Int32.toNatClampNeg x6)) = (S8.1 14 (Int32.toNatClampNeg x1))) → (vp_in x6 6 ∧ (vp_in x1 6 ∧ ((¬ (S8.1 16 (Int32.toNatClampNeg x6)) = (S8.1 16 (Int32.toNatClampNeg x1)) → bX7_isAtomic_116 k51 Q x1 x3 x4 x6 S8) ∧ ((S8.1 16 (Int32.toNatClampNeg x6)) = (S8.1 16 (Int32.toNatClampNeg x1)) → bX7_isAtomic_117 k51 Q x1 x3 x4 x6 (1 : Int32) S8)))))))))))))))))
def bX7_isAtomic_46 (Q : Int32 → St → Prop) (x1 : Int32) (x3 : Int32) (x4 : Int32) (t0 : Int32) (S : St) : Prop :=
  (∃ N : Nat, itr (F := Int32 → Int32 → Int32 → Int32 → Int32 → St → Prop) (fun _ _ _ _ _ _ => False) (fun k51 x1 x3 x4 x5 x6 S => bX7_isAtomic_51 k51 Q x1 x3 x4 x5 x6 S) N x1 x3 x4 t0 (0 : Int32) S)
def bX7_isAtomic_28 (Q : Int32 → St → Prop) (x1 : Int32) (x3 : Int32) (t0 : Int32) (S : St) : Prop :=
  (vp_in x1 6 ∧ (((S.1 31 (Int32.toNatClampNeg x1)) ≤ t0 → bX7_isAtomic_46 Q x1 x3 t0 (0 : Int32) S) ∧ (¬ ((S.1 31 (Int32.toNatClampNeg x1)) ≤ t0) → bX7_isAtomic_46 Q x1 x3 t0 (1 : Int32) S)))
def pX7_isAtomic (x1 : Int32) (S : St) (Q : Int32 → St → Prop) : Prop :=
  (vp_in x1 6 ∧ (∀ y23 : Int32, y23 = (S.1 23 (Int32.toNatClampNeg x1)) → (vp_in y23 6 ∧ (∀ y25 : Int32, y25 = (S.1 32 (Int32.toNatClampNeg y23)) → ((0 ≤ y25 → (vp_in y25 6 ∧ bX7_isAtomic_28 Q x1 y25 (S.1 31 (Int32.toNatClampNeg y25)) S)) ∧ (¬ (0 ≤ y25) → bX7_isAtomic_28 Q x1 y25 (-1 : Int32) S))))))
set_option maxHeartbeats 40000000 in
set_option maxRecDepth 100000 in
theorem kX7_isAtomic {p : Program} {l : Launch} {e : Env} {R : Room} {s : State} {m : MethodId} {args : Array Value} {below : List Frame} {meth : Method} {c : Code} {QQ : State → Prop} {g : va_G} {ct : Nat → ClassId} {ad : Nat → Nat} {A : Nat → Prop} (C : CallFix p m c cX7_isAtomic 8 s args wsX7_isAtomic RX7) (hK : va_K g vwCl (mT ct) s) (hN : xN s) (hA : ∀ q, s.heap.size ≤ q → A q) (hRf : 2 ≤ R.frames) (hRl : 41 ≤ R.locals) (Q : Int32 → St → Prop) (hret : ∀ (pc : Nat) (r : Int32) (S : St) (H : Heap) (locs : List Loc) (ls : Array Slot), decode cX7_isAtomic pc = .ok (.ireturn, 1) → zb r → Q r S → va_P g vwCl (wM ct ad S) H → va_D A (wM ct ad S) → va_S A s.heap H locs → W p l e R s m args below meth c H locs 0 0 QQ (F0 m pc ls [.int r])) (x1 : Int32) (S : St) (h : pX7_isAtomic x1 S Q) (H : Heap) (locs : List Loc) (ls : Array Slot) (hP : va_P g vwCl (wM ct ad S) H) (hD : va_D A (wM ct ad S)) (hS : va_S A s.heap H locs) (hl : lv_has ls 8 [(0, .ref (ad 0)), (1, .int x1)]) : W p l e R s m args below meth c H locs 0 0 QQ (F0 m 0 ls []) := by
  have hinX7 : ∀ w ∈ wsX70, w ∈ wsX7_isAtomic := by decide +kernel
  have B165 : ∀ (x5 : Int32) (S : St) (H : Heap) (locs : List Loc) (ls : Array Slot), bX7_isAtomic_165 Q x5 S → va_P g vwCl (wM ct ad S) H → va_D A (wM ct ad S) → va_S A s.heap H locs → lv_has ls 8 [(0, .ref (ad 0)), (5, .int x5)] → W p l e R s m args below meth c H locs 0 0 QQ (F0 m 165 ls []) := by
    intro x5 S H locs ls h hP hD hS hl
    refine lv_iload C.1 C.2.1 dX7_isAtomic_165 (lv_at hl 1 rfl) ?_
    exact hret _ _ _ _ _ _ dX7_isAtomic_167 h.1 h.2 hP hD hS
  have B157 : ∀ (k51 : Int32 → Int32 → Int32 → Int32 → Int32 → St → Prop) (hk51 : ∀ (x1 : Int32) (x3 : Int32) (x4 : Int32) (x5 : Int32) (x6 : Int32) (S : St) (H : Heap) (locs : List Loc) (ls : Array Slot), k51 x1 x3 x4 x5 x6 S → va_P g vwCl (wM ct ad S) H → va_D A (wM ct ad S) → va_S A s.heap H locs → lv_has ls 8 [(0, .ref (ad 0)), (1, .int x1), (3, .int x3), (4, .int x4), (5, .int x5), (6, .int x6)] → W p l e R s m args below meth c H locs 0 0 QQ (F0 m 51 ls [])) (x1 : Int32) (x3 : Int32) (x4 : Int32) (x6 : Int32) (t0 : Int32) (S : St) (H : Heap) (locs : List Loc) (ls : Array Slot), bX7_isAtomic_157 k51 Q x1 x3 x4 x6 t0 S → va_P g vwCl (wM ct ad S) H → va_D A (wM ct ad S) → va_S A s.heap H locs → lv_has ls 8 [(0, .ref (ad 0)), (1, .int x1), (3, .int x3), (4, .int x4), (6, .int x6)] → W p l e R s m args below meth c H locs 0 0 QQ (F0 m 157 ls [.int t0]) := by
    intro k51 hk51 x1 x3 x4 x6 t0 S H locs ls h hP hD hS hl
    refine lv_istore (lv' := [(5, .int t0), (0, .ref (ad 0)), (1, .int x1), (3, .int x3), (4, .int x4), (6, .int x6)]) C.1 C.2.1 dX7_isAtomic_157 hl (by decide) rfl (fun ls hl => ?_)
    obtain ⟨y1, ey1⟩ : ∃ z : Int32, z = x6 + (1 : Int32) := ⟨_, rfl⟩
    have h := h y1 ey1
    refine lv_iinc (v := y1) (lv' := [(6, .int y1), (5, .int t0), (0, .ref (ad 0)), (1, .int x1), (3, .int x3), (4, .int x4)]) C.1 C.2.1 dX7_isAtomic_159 hl (k := 5) rfl (by rw [ey1]; rfl) (by decide) rfl (fun ls hl => ?_)
    refine lv_goto (tgt := 51) C.1 C.2.1 dX7_isAtomic_162 (by decide) ?_
    exact hk51 x1 x3 x4 t0 y1 S H locs ls h hP hD hS (lv_sub hl [2, 3, 4, 5, 1, 0] rfl)
  have B152 : ∀ (k51 : Int32 → Int32 → Int32 → Int32 → Int32 → St → Prop) (hk51 : ∀ (x1 : Int32) (x3 : Int32) (x4 : Int32) (x5 : Int32) (x6 : Int32) (S : St) (H : Heap) (locs : List Loc) (ls : Array Slot), k51 x1 x3 x4 x5 x6 S → va_P g vwCl (wM ct ad S) H → va_D A (wM ct ad S) → va_S A s.heap H locs → lv_has ls 8 [(0, .ref (ad 0)), (1, .int x1), (3, .int x3), (4, .int x4), (5, .int x5), (6, .int x6)] → W p l e R s m args below meth c H locs 0 0 QQ (F0 m 51 ls [])) (x1 : Int32) (x3 : Int32) (x4 : Int32) (x6 : Int32) (S : St) (H : Heap) (locs : List Loc) (ls : Array Slot), bX7_isAtomic_152 k51 Q x1 x3 x4 x6 S → va_P g vwCl (wM ct ad S) H → va_D A (wM ct ad S) → va_S A s.heap H locs → lv_has ls 8 [(0, .ref (ad 0)), (1, .int x1), (3, .int x3), (4, .int x4), (6, .int x6)] → W p l e R s m args below meth c H locs 0 0 QQ (F0 m 152 ls []) := by
    intro k51 hk51 x1 x3 x4 x6 S H locs ls h hP hD hS hl
    refine lv_iconst (v := 1) C.1 C.2.1 dX7_isAtomic_152 (by decide) ?_
    refine lv_goto (tgt := 157) C.1 C.2.1 dX7_isAtomic_153 (by decide) ?_
    exact B157 k51 hk51 x1 x3 x4 x6 (1 : Int32) S H locs ls h hP hD hS (lv_sub hl [0, 1, 2, 3, 4] rfl)
  have B117 : ∀ (k51 : Int32 → Int32 → Int32 → Int32 → Int32 → St → Prop) (hk51 : ∀ (x1 : Int32) (x3 : Int32) (x4 : Int32) (x5 : Int32) (x6 : Int32) (S : St) (H : Heap) (locs : List Loc) (ls : Array Slot), k51 x1 x3 x4 x5 x6 S → va_P g vwCl (wM ct ad S) H → va_D A (wM ct ad S) → va_S A s.heap H locs → lv_has ls 8 [(0, .ref (ad 0)), (1, .int x1), (3, .int x3), (4, .int x4), (5, .int x5), (6, .int x6)] → W p l e R s m args below meth c H locs 0 0 QQ (F0 m 51 ls [])) (x1 : Int32) (x3 : Int32) (x4 : Int32) (x6 : Int32) (t0 : Int32) (S : St) (H : Heap) (locs : List Loc) (ls : Array Slot), bX7_isAtomic_117 k51 Q x1 x3 x4 x6 t0 S → va_P g vwCl (wM ct ad S) H → va_D A (wM ct ad S) → va_S A s.heap H locs → lv_has ls 8 [(0, .ref (ad 0)), (1, .int x1), (3, .int x3), (4, .int x4), (6, .int x6)] → W p l e R s m args below meth c H locs 0 0 QQ (F0 m 117 ls [.int t0]) := by
    intro k51 hk51 x1 x3 x4 x6 t0 S H locs ls h hP hD hS hl
    refine lv_istore (lv' := [(7, .int t0), (0, .ref (ad 0)), (1, .int x1), (3, .int x3), (4, .int x4), (6, .int x6)]) C.1 C.2.1 dX7_isAtomic_117 hl (by decide) rfl (fun ls hl => ?_)
    refine lv_iload C.1 C.2.1 dX7_isAtomic_119 (lv_at hl 0 rfl) ?_
    refine lv_if_eq (tgt := 152) C.1 C.2.1 dX7_isAtomic_121 (by decide) (fun c7 => ?_) (fun c7 => ?_)
    · have h := h.1 c7
      exact B152 k51 hk51 x1 x3 x4 x6 S H locs ls h hP hD hS (lv_sub hl [1, 2, 3, 4, 5] rfl)
    · have h := h.2 c7
      refine lv_aload_n C.1 C.2.1 dX7_isAtomic_124 rfl (lv_at hl 1 rfl) ?_
      refine mg_place C hinX7 hK hP (by decide +kernel) dX7_isAtomic_125 ?_
      refine lv_iload C.1 C.2.1 dX7_isAtomic_128 (lv_at hl 5 rfl) ?_
      obtain ⟨g2, h⟩ := h
      refine ma_place C hK hP g2  rfl dX7_isAtomic_130 ?_
      refine lv_iload C.1 C.2.1 dX7_isAtomic_131 (lv_at hl 4 rfl) ?_
      refine lv_icmp_lt (tgt := 152) C.1 C.2.1 dX7_isAtomic_133 (by decide) (fun c6 => ?_) (fun c6 => ?_)
      · have h := h.1 c6
        exact B152 k51 hk51 x1 x3 x4 x6 S H locs ls h hP hD hS (lv_sub hl [1, 2, 3, 4, 5] rfl)
      · have h := h.2 c6
        refine lv_aload_n C.1 C.2.1 dX7_isAtomic_136 rfl (lv_at hl 1 rfl) ?_
        refine mg_place C hinX7 hK hP (by decide +kernel) dX7_isAtomic_137 ?_
        refine lv_iload C.1 C.2.1 dX7_isAtomic_140 (lv_at hl 5 rfl) ?_
        obtain ⟨g3, h⟩ := h
        refine ma_place C hK hP g3  rfl dX7_isAtomic_142 ?_
        refine lv_aload_n C.1 C.2.1 dX7_isAtomic_143 rfl (lv_at hl 1 rfl) ?_
        refine mg_place C hinX7 hK hP (by decide +kernel) dX7_isAtomic_144 ?_
        refine lv_iload_n C.1 C.2.1 dX7_isAtomic_147 rfl (lv_at hl 2 rfl) ?_
        obtain ⟨g4, h⟩ := h
        refine ma_place C hK hP g4  rfl dX7_isAtomic_148 ?_
        refine lv_icmp_le (tgt := 156) C.1 C.2.1 dX7_isAtomic_149 (by decide) (fun c5 => ?_) (fun c5 => ?_)
        · have h := h.1 c5
          refine lv_iconst (v := 0) C.1 C.2.1 dX7_isAtomic_156 (by decide) ?_
          exact B157 k51 hk51 x1 x3 x4 x6 (0 : Int32) S H locs ls h hP hD hS (lv_sub hl [1, 2, 3, 4, 5] rfl)
        · have h := h.2 c5
          exact B152 k51 hk51 x1 x3 x4 x6 S H locs ls h hP hD hS (lv_sub hl [1, 2, 3, 4, 5] rfl)
  have B116 : ∀ (k51 : Int32 → Int32 → Int32 → Int32 → Int32 → St → Prop) (hk51 : ∀ (x1 : Int32) (x3 : Int32) (x4 : Int32) (x5 : Int32) (x6 : Int32) (S : St) (H : Heap) (locs : List Loc) (ls : Array Slot), k51 x1 x3 x4 x5 x6 S → va_P g vwCl (wM ct ad S) H → va_D A (wM ct ad S) → va_S A s.heap H locs → lv_has ls 8 [(0, .ref (ad 0)), (1, .int x1), (3, .int x3), (4, .int x4), (5, .int x5), (6, .int x6)] → W p l e R s m args below meth c H locs 0 0 QQ (F0 m 51 ls [])) (x1 : Int32) (x3 : Int32) (x4 : Int32) (x6 : Int32) (S : St) (H : Heap) (locs : List Loc) (ls : Array Slot), bX7_isAtomic_116 k51 Q x1 x3 x4 x6 S → va_P g vwCl (wM ct ad S) H → va_D A (wM ct ad S) → va_S A s.heap H locs → lv_has ls 8 [(0, .ref (ad 0)), (1, .int x1), (3, .int x3), (4, .int x4), (6, .int x6)] → W p l e R s m args below meth c H locs 0 0 QQ (F0 m 116 ls []) := by
    intro k51 hk51 x1 x3 x4 x6 S H locs ls h hP hD hS hl
    refine lv_iconst (v := 0) C.1 C.2.1 dX7_isAtomic_116 (by decide) ?_
    exact B117 k51 hk51 x1 x3 x4 x6 (0 : Int32) S H locs ls h hP hD hS (lv_sub hl [0, 1, 2, 3, 4] rfl)
  have B51 : ∀ (k51 : Int32 → Int32 → Int32 → Int32 → Int32 → St → Prop) (hk51 : ∀ (x1 : Int32) (x3 : Int32) (x4 : Int32) (x5 : Int32) (x6 : Int32) (S : St) (H : Heap) (locs : List Loc) (ls : Array Slot), k51 x1 x3 x4 x5 x6 S → va_P g vwCl (wM ct ad S) H → va_D A (wM ct ad S) → va_S A s.heap H locs → lv_has ls 8 [(0, .ref (ad 0)), (1, .int x1), (3, .int x3), (4, .int x4), (5, .int x5), (6, .int x6)] → W p l e R s m args below meth c H locs 0 0 QQ (F0 m 51 ls [])) (x1 : Int32) (x3 : Int32) (x4 : Int32) (x5 : Int32) (x6 : Int32) (S : St) (H : Heap) (locs : List Loc) (ls : Array Slot), bX7_isAtomic_51 k51 Q x1 x3 x4 x5 x6 S → va_P g vwCl (wM ct ad S) H → va_D A (wM ct ad S) → va_S A s.heap H locs → lv_has ls 8 [(0, .ref (ad 0)), (1, .int x1), (3, .int x3), (4, .int x4), (5, .int x5), (6, .int x6)] → W p l e R s m args below meth c H locs 0 0 QQ (F0 m 51 ls []) := by
    intro k51 hk51 x1 x3 x4 x5 x6 S H locs ls h hP hD hS hl
    refine lv_iload C.1 C.2.1 dX7_isAtomic_51 (lv_at hl 5 rfl) ?_
    refine lv_aload_n C.1 C.2.1 dX7_isAtomic_53 rfl (lv_at hl 0 rfl) ?_
    refine mg_accesses C hinX7 hK hP (by decide +kernel) dX7_isAtomic_54 ?_
    refine lv_icmp_ge (tgt := 165) C.1 C.2.1 dX7_isAtomic_57 (by decide) (fun c19 => ?_) (fun c19 => ?_)
    · have h := h.1 c19
      exact B165 x5 S H locs ls h hP hD hS (lv_sub hl [0, 4] rfl)
    · have h := h.2 c19
      refine lv_iload C.1 C.2.1 dX7_isAtomic_60 (lv_at hl 4 rfl) ?_
      refine lv_if_eq (tgt := 165) C.1 C.2.1 dX7_isAtomic_62 (by decide) (fun c18 => ?_) (fun c18 => ?_)
      · have h := h.1 c18
        exact B165 x5 S H locs ls h hP hD hS (lv_sub hl [0, 4] rfl)
      · have h := h.2 c18
        refine lv_iload C.1 C.2.1 dX7_isAtomic_65 (lv_at hl 5 rfl) ?_
        refine lv_iload_n C.1 C.2.1 dX7_isAtomic_67 rfl (lv_at hl 2 rfl) ?_
        refine lv_icmp_eq (tgt := 116) C.1 C.2.1 dX7_isAtomic_68 (by decide) (fun c17 => ?_) (fun c17 => ?_)
        · have h := h.1 c17
          exact B116 k51 hk51 x1 x3 x4 x6 S H locs ls h hP hD hS (lv_sub hl [0, 1, 2, 3, 5] rfl)
        · have h := h.2 c17
          refine lv_aload_n C.1 C.2.1 dX7_isAtomic_71 rfl (lv_at hl 0 rfl) ?_
          refine lv_iload C.1 C.2.1 dX7_isAtomic_72 (lv_at hl 5 rfl) ?_
          refine g_callVi (w := wM ct ad) C hK hN hA hP hD hS (mX7_writes l g ct ad H.size S x6  _ h) (cwV 1 C.2.2.2.2 gX7_isAtomic_X7_writes rfl rfl rfl (by decide +kernel) ⟨Nat.le_trans (by decide) hRf, Nat.le_trans (by decide) hRl⟩) (va_recv hK hP (ci := 7) (q0 := 0) rfl rfl) rfl hl.1 rfl (Nat.le_of_ble_eq_true rfl) dX7_isAtomic_74 ⟨Nat.zero_le _, Nat.zero_le _⟩ (fun r9 S8 H locs h hP hD hS => ?_)
          refine lv_if_eq (tgt := 116) C.1 C.2.1 dX7_isAtomic_77 (by decide) (fun c16 => ?_) (fun c16 => ?_)
          · have h := h.1 c16
            exact B116 k51 hk51 x1 x3 x4 x6 S8 H locs ls h hP hD hS (lv_sub hl [0, 1, 2, 3, 5] rfl)
          · have h := h.2 c16
            refine lv_aload_n C.1 C.2.1 dX7_isAtomic_80 rfl (lv_at hl 0 rfl) ?_
            refine mg_hartOf C hinX7 hK hP (by decide +kernel) dX7_isAtomic_81 ?_
            refine lv_iload C.1 C.2.1 dX7_isAtomic_84 (lv_at hl 5 rfl) ?_
            obtain ⟨g10, h⟩ := h
            refine ma_hartOf C hK hP g10  rfl dX7_isAtomic_86 ?_
            refine lv_aload_n C.1 C.2.1 dX7_isAtomic_87 rfl (lv_at hl 0 rfl) ?_
            refine mg_hartOf C hinX7 hK hP (by decide +kernel) dX7_isAtomic_88 ?_
            refine lv_iload_n C.1 C.2.1 dX7_isAtomic_91 rfl (lv_at hl 1 rfl) ?_
            obtain ⟨g11, h⟩ := h
            refine ma_hartOf C hK hP g11  rfl dX7_isAtomic_92 ?_
            refine lv_icmp_eq (tgt := 116) C.1 C.2.1 dX7_isAtomic_93 (by decide) (fun c15 => ?_) (fun c15 => ?_)
            · have h := h.1 c15
              exact B116 k51 hk51 x1 x3 x4 x6 S8 H locs ls h hP hD hS (lv_sub hl [0, 1, 2, 3, 5] rfl)
            · have h := h.2 c15
              refine lv_aload_n C.1 C.2.1 dX7_isAtomic_96 rfl (lv_at hl 0 rfl) ?_
              refine mg_locationOf C hinX7 hK hP (by decide +kernel) dX7_isAtomic_97 ?_
              refine lv_iload C.1 C.2.1 dX7_isAtomic_100 (lv_at hl 5 rfl) ?_
              obtain ⟨g12, h⟩ := h
              refine ma_locationOf C hK hP g12  rfl dX7_isAtomic_102 ?_
              refine lv_aload_n C.1 C.2.1 dX7_isAtomic_103 rfl (lv_at hl 0 rfl) ?_
              refine mg_locationOf C hinX7 hK hP (by decide +kernel) dX7_isAtomic_104 ?_
              refine lv_iload_n C.1 C.2.1 dX7_isAtomic_107 rfl (lv_at hl 1 rfl) ?_
              obtain ⟨g13, h⟩ := h
              refine ma_locationOf C hK hP g13  rfl dX7_isAtomic_108 ?_
              refine lv_icmp_ne (tgt := 116) C.1 C.2.1 dX7_isAtomic_109 (by decide) (fun c14 => ?_) (fun c14 => ?_)
              · have h := h.1 c14
                exact B116 k51 hk51 x1 x3 x4 x6 S8 H locs ls h hP hD hS (lv_sub hl [0, 1, 2, 3, 5] rfl)
              · have h := h.2 c14
                refine lv_iconst (v := 1) C.1 C.2.1 dX7_isAtomic_112 (by decide) ?_
                refine lv_goto (tgt := 117) C.1 C.2.1 dX7_isAtomic_113 (by decide) ?_
                exact B117 k51 hk51 x1 x3 x4 x6 (1 : Int32) S8 H locs ls h hP hD hS (lv_sub hl [0, 1, 2, 3, 5] rfl)
  have L51 : ∀ (N : Nat) (x1 : Int32) (x3 : Int32) (x4 : Int32) (x5 : Int32) (x6 : Int32) (S : St) (H : Heap) (locs : List Loc) (ls : Array Slot), itr (F := Int32 → Int32 → Int32 → Int32 → Int32 → St → Prop) (fun _ _ _ _ _ _ => False) (fun k51 x1 x3 x4 x5 x6 S => bX7_isAtomic_51 k51 Q x1 x3 x4 x5 x6 S) N x1 x3 x4 x5 x6 S → va_P g vwCl (wM ct ad S) H → va_D A (wM ct ad S) → va_S A s.heap H locs → lv_has ls 8 [(0, .ref (ad 0)), (1, .int x1), (3, .int x3), (4, .int x4), (5, .int x5), (6, .int x6)] → W p l e R s m args below meth c H locs 0 0 QQ (F0 m 51 ls []) := by
    intro N
    induction N with
    | zero => intro x1 x3 x4 x5 x6 S H locs ls h hP hD hS hl; exact False.elim h
    | succ N ih => intro x1 x3 x4 x5 x6 S H locs ls h hP hD hS hl; exact B51  (itr (F := Int32 → Int32 → Int32 → Int32 → Int32 → St → Prop) (fun _ _ _ _ _ _ => False) (fun k51 x1 x3 x4 x5 x6 S => bX7_isAtomic_51 k51 Q x1 x3 x4 x5 x6 S) N) ih x1 x3 x4 x5 x6 S H locs ls h  hP hD hS hl
  have B46 : ∀ (x1 : Int32) (x3 : Int32) (x4 : Int32) (t0 : Int32) (S : St) (H : Heap) (locs : List Loc) (ls : Array Slot), bX7_isAtomic_46 Q x1 x3 x4 t0 S → va_P g vwCl (wM ct ad S) H → va_D A (wM ct ad S) → va_S A s.heap H locs → lv_has ls 8 [(0, .ref (ad 0)), (1, .int x1), (3, .int x3), (4, .int x4)] → W p l e R s m args below meth c H locs 0 0 QQ (F0 m 46 ls [.int t0]) := by
    intro x1 x3 x4 t0 S H locs ls h hP hD hS hl
    refine lv_istore (lv' := [(5, .int t0), (0, .ref (ad 0)), (1, .int x1), (3, .int x3), (4, .int x4)]) C.1 C.2.1 dX7_isAtomic_46 hl (by decide) rfl (fun ls hl => ?_)
    refine lv_iconst (v := 0) C.1 C.2.1 dX7_isAtomic_48 (by decide) ?_
    refine lv_istore (lv' := [(6, .int (0 : Int32)), (5, .int t0), (0, .ref (ad 0)), (1, .int x1), (3, .int x3), (4, .int x4)]) C.1 C.2.1 dX7_isAtomic_49 hl (by decide) rfl (fun ls hl => ?_)
    obtain ⟨N, h⟩ := h
    exact L51 N x1 x3 x4 t0 (0 : Int32) S H locs ls h hP hD hS (lv_sub hl [2, 3, 4, 5, 1, 0] rfl)
  have B28 : ∀ (x1 : Int32) (x3 : Int32) (t0 : Int32) (S : St) (H : Heap) (locs : List Loc) (ls : Array Slot), bX7_isAtomic_28 Q x1 x3 t0 S → va_P g vwCl (wM ct ad S) H → va_D A (wM ct ad S) → va_S A s.heap H locs → lv_has ls 8 [(0, .ref (ad 0)), (1, .int x1), (3, .int x3)] → W p l e R s m args below meth c H locs 0 0 QQ (F0 m 28 ls [.int t0]) := by
    intro x1 x3 t0 S H locs ls h hP hD hS hl
    refine lv_istore (lv' := [(4, .int t0), (0, .ref (ad 0)), (1, .int x1), (3, .int x3)]) C.1 C.2.1 dX7_isAtomic_28 hl (by decide) rfl (fun ls hl => ?_)
    refine lv_iload C.1 C.2.1 dX7_isAtomic_30 (lv_at hl 0 rfl) ?_
    refine lv_aload_n C.1 C.2.1 dX7_isAtomic_32 rfl (lv_at hl 1 rfl) ?_
    refine mg_place C hinX7 hK hP (by decide +kernel) dX7_isAtomic_33 ?_
    refine lv_iload_n C.1 C.2.1 dX7_isAtomic_36 rfl (lv_at hl 2 rfl) ?_
    obtain ⟨g20, h⟩ := h
    refine ma_place C hK hP g20  rfl dX7_isAtomic_37 ?_
    refine lv_icmp_ge (tgt := 45) C.1 C.2.1 dX7_isAtomic_38 (by decide) (fun c21 => ?_) (fun c21 => ?_)
    · have h := h.1 c21
      refine lv_iconst (v := 0) C.1 C.2.1 dX7_isAtomic_45 (by decide) ?_
      exact B46 x1 x3 t0 (0 : Int32) S H locs ls h hP hD hS (lv_sub hl [1, 2, 3, 0] rfl)
    · have h := h.2 c21
      refine lv_iconst (v := 1) C.1 C.2.1 dX7_isAtomic_41 (by decide) ?_
      refine lv_goto (tgt := 46) C.1 C.2.1 dX7_isAtomic_42 (by decide) ?_
      exact B46 x1 x3 t0 (1 : Int32) S H locs ls h hP hD hS (lv_sub hl [1, 2, 3, 0] rfl)
  refine lv_aload_n C.1 C.2.1 dX7_isAtomic_0 rfl (lv_at hl 0 rfl) ?_
  refine mg_reserve C hinX7 hK hP (by decide +kernel) dX7_isAtomic_1 ?_
  refine lv_iload_n C.1 C.2.1 dX7_isAtomic_4 rfl (lv_at hl 1 rfl) ?_
  obtain ⟨g22, h⟩ := h
  refine ma_reserve C hK hP g22  rfl dX7_isAtomic_5 ?_
  refine lv_topi (fun y23 ey23 => ?_)
  have h := h y23 ey23
  refine lv_istore_n (lv' := [(2, .int y23), (0, .ref (ad 0)), (1, .int x1)]) C.1 C.2.1 dX7_isAtomic_6 rfl hl (by decide) rfl (fun ls hl => ?_)
  refine lv_aload_n C.1 C.2.1 dX7_isAtomic_7 rfl (lv_at hl 1 rfl) ?_
  refine mg_source C hinX7 hK hP (by decide +kernel) dX7_isAtomic_8 ?_
  refine lv_iload_n C.1 C.2.1 dX7_isAtomic_11 rfl (lv_at hl 0 rfl) ?_
  obtain ⟨g24, h⟩ := h
  refine ma_source C hK hP g24  rfl dX7_isAtomic_12 ?_
  refine lv_topi (fun y25 ey25 => ?_)
  have h := h y25 ey25
  refine lv_istore_n (lv' := [(3, .int y25), (2, .int y23), (0, .ref (ad 0)), (1, .int x1)]) C.1 C.2.1 dX7_isAtomic_13 rfl hl (by decide) rfl (fun ls hl => ?_)
  refine lv_iload_n C.1 C.2.1 dX7_isAtomic_14 rfl (lv_at hl 0 rfl) ?_
  refine lv_if_ge (tgt := 22) C.1 C.2.1 dX7_isAtomic_15 (by decide) (fun c27 => ?_) (fun c27 => ?_)
  · have h := h.1 c27
    refine lv_aload_n C.1 C.2.1 dX7_isAtomic_22 rfl (lv_at hl 2 rfl) ?_
    refine mg_place C hinX7 hK hP (by decide +kernel) dX7_isAtomic_23 ?_
    refine lv_iload_n C.1 C.2.1 dX7_isAtomic_26 rfl (lv_at hl 0 rfl) ?_
    obtain ⟨g26, h⟩ := h
    refine ma_place C hK hP g26  rfl dX7_isAtomic_27 ?_
    exact B28 x1 y25 (S.1 31 (Int32.toNatClampNeg y25)) S H locs ls h hP hD hS (lv_sub hl [2, 3, 0] rfl)
  · have h := h.2 c27
    refine lv_iconst (v := -1) C.1 C.2.1 dX7_isAtomic_18 (by decide) ?_
    refine lv_goto (tgt := 28) C.1 C.2.1 dX7_isAtomic_19 (by decide) ?_
    exact B28 x1 y25 (-1 : Int32) S H locs ls h hP hD hS (lv_sub hl [2, 3, 0] rfl)
theorem mX7_isAtomic (l : Launch) (g : va_G) (ct : Nat → ClassId) (ad : Nat → Nat) (sz : Nat) (S : St) (x1 : Int32) (Q : Int32 → St → Prop) (h : pX7_isAtomic x1 S Q) : Met l yX7_isAtomic wsX7_isAtomic ({ frames := 2, cells := 0, slots := 0, locals := 41 }) (gPc g (mT ct) (wM ct ad S) sz [.ref (ad 0), .int x1]) (va_Qi Q (gB g (mT ct) (wM ct ad) (va_A (wM ct ad S) sz)) (va_A (wM ct ad S) sz)) 0 0 (va_A (wM ct ad S) sz) :=
  g_metZ (w := wM ct ad) (cc := cX7_isAtomic) (maxL := 8) (by decide) rfl rfl (Nat.le_of_ble_eq_true rfl) rfl (fun p e s m args below meth c QQ A C hK hN hA hret H locs ls hP hD hS hl => kX7_isAtomic C hK hN hA (Nat.le_refl _) (Nat.le_refl _) Q hret x1 S h H locs ls hP hD hS hl)

def bX7_isOrder_229 (k139 : Int32 → St → Prop) (Q : Int32 → St → Prop) (x1 : Int32) (S : St) : Prop :=
  (∀ y1 : Int32, y1 = x1 + (1 : Int32) → k139 y1 S)
def bX7_isOrder_203 (k139 : Int32 → St → Prop) (k149 : Int32 → Int32 → St → Prop) (Q : Int32 → St → Prop) (x1 : Int32) (x2 : Int32) (S : St) : Prop :=
  (∀ y2 : Int32, y2 = x2 + (1 : Int32) → k149 x1 y2 S)
def bX7_isOrder_149 (k139 : Int32 → St → Prop) (k149 : Int32 → Int32 → St → Prop) (Q : Int32 → St → Prop) (x1 : Int32) (x2 : Int32) (S : St) : Prop :=
  ((x1 ≤ x2 → (vp_in x1 6 ∧ ((¬ (S.1 15 (Int32.toNatClampNeg x1)) = (5 : Int32) → bX7_isOrder_229 k139 Q x1 S) ∧ ((S.1 15 (Int32.toNatClampNeg x1)) = (5 : Int32) → pX7_isAtomic x1 S (fun (r5 : Int32) (S4 : St) => ((¬ r5 = 0 → bX7_isOrder_229 k139 Q x1 S4) ∧ (r5 = 0 → Q (0 : Int32) S4))))))) ∧ (¬ (x1 ≤ x2) → pX7_reads x1 S (fun (r9 : Int32) (S8 : St) => ((r9 = 0 → bX7_isOrder_203 k139 k149 Q x1 x2 S8) ∧ (¬ (r9 = 0) → (vp_in x2 6 ∧ (vp_in x1 6 ∧ ((¬ (S8.1 14 (Int32.toNatClampNeg x2)) = (S8.1 14 (Int32.toNatClampNeg x1)) → bX7_isOrder_203 k139 k149 Q x1 x2 S8) ∧ ((S8.1 14 (Int32.toNatClampNeg x2)) = (S8.1 14 (Int32.toNatClampNeg x1)) → (vp_in x2 6 ∧ (vp_in x1 6 ∧ (((S8.1 31 (Int32.toNatClampNeg x2)) ≤ (S8.1 31 (Int32.toNatClampNeg x1)) → bX7_isOrder_203 k139 k149 Q x1 x2 S8) ∧ (¬ ((S8.1 31 (Int32.toNatClampNeg x2)) ≤ (S8.1 31 (Int32.toNatClampNeg x1))) → pX7_isAsked x2 x1 S8 (fun (r15 : Int32) (S14 : St) => ((r15 = 0 → bX7_isOrder_203 k139 k149 Q x1 x2 S14) ∧ (¬ (r15 = 0) → Q (0 : Int32) S14))))))))))))))))
def bX7_isOrder_139 (k139 : Int32 → St → Prop) (Q : Int32 → St → Prop) (x1 : Int32) (S : St) : Prop :=
  (((S.1 13 0) ≤ x1 → Q (1 : Int32) S) ∧ (¬ ((S.1 13 0) ≤ x1) → (∃ N : Nat, itr (F := Int32 → Int32 → St → Prop) (fun _ _ _ => False) (fun k149 x1 x2 S => bX7_isOrder_149 k139 k149 Q x1 x2 S) N x1 (0 : Int32) S)))
def bX7_isOrder_131 (k67 : Int32 → St → Prop) (Q : Int32 → St → Prop) (x1 : Int32) (S : St) : Prop :=
  (∀ y22 : Int32, y22 = x1 + (1 : Int32) → k67 y22 S)
def bX7_isOrder_118 (k67 : Int32 → St → Prop) (Q : Int32 → St → Prop) (x1 : Int32) (t0 : Int32) (S : St) : Prop :=
  (vp_in x1 6 ∧ ((t0 = (S.1 17 (Int32.toNatClampNeg x1)) → bX7_isOrder_131 k67 Q x1 S) ∧ (¬ (t0 = (S.1 17 (Int32.toNatClampNeg x1))) → Q (0 : Int32) S)))
def bX7_isOrder_67 (k67 : Int32 → St → Prop) (Q : Int32 → St → Prop) (x1 : Int32) (S : St) : Prop :=
  (((S.1 13 0) ≤ x1 → (∃ N : Nat, itr (F := Int32 → St → Prop) (fun _ _ => False) (fun k139 x1 S => bX7_isOrder_139 k139 Q x1 S) N (0 : Int32) S)) ∧ (¬ ((S.1 13 0) ≤ x1) → pX7_reads x1 S (fun (r26 : Int32) (S25 : St) => ((r26 = 0 → bX7_isOrder_131 k67 Q x1 S25) ∧ (¬ (r26 = 0) → pX7_sourceOf x1 S25 (fun (r28 : Int32) (S27 : St) => (vp_in x1 6 ∧ ∀ S29 : St, S29 = wr S27 32 (Int32.toNatClampNeg x1) r28 → (vp_in x1 6 ∧ ((0 ≤ (S29.1 32 (Int32.toNatClampNeg x1)) → (vp_in x1 6 ∧ (vp_in (S29.1 32 (Int32.toNatClampNeg x1)) 6 ∧ bX7_isOrder_118 k67 Q x1 (S29.1 18 (Int32.toNatClampNeg (S29.1 32 (Int32.toNatClampNeg x1)))) S29))) ∧ (¬ (0 ≤ (S29.1 32 (Int32.toNatClampNeg x1))) → bX7_isOrder_118 k67 Q x1 (0 : Int32) S29))))))))))
def bX7_isOrder_53 (k2 : Int32 → St → Prop) (k14 : Int32 → Int32 → St → Prop) (Q : Int32 → St → Prop) (x1 : Int32) (x2 : Int32) (S : St) : Prop :=
  (∀ y37 : Int32, y37 = x2 + (1 : Int32) → k14 x1 y37 S)
def bX7_isOrder_14 (k2 : Int32 → St → Prop) (k14 : Int32 → Int32 → St → Prop) (Q : Int32 → St → Prop) (x1 : Int32) (x2 : Int32) (S : St) : Prop :=
  (((S.1 13 0) ≤ x2 → (∀ y38 : Int32, y38 = x1 + (1 : Int32) → k2 y38 S)) ∧ (¬ ((S.1 13 0) ≤ x2) → (vp_in (((6 : Int32) * x1) + x2) 36 ∧ (((S.1 29 (Int32.toNatClampNeg (((6 : Int32) * x1) + x2))) = 0 → bX7_isOrder_53 k2 k14 Q x1 x2 S) ∧ (¬ ((S.1 29 (Int32.toNatClampNeg (((6 : Int32) * x1) + x2))) = 0) → (vp_in x1 6 ∧ (vp_in x2 6 ∧ (((S.1 31 (Int32.toNatClampNeg x1)) ≤ (S.1 31 (Int32.toNatClampNeg x2)) → bX7_isOrder_53 k2 k14 Q x1 x2 S) ∧ (¬ ((S.1 31 (Int32.toNatClampNeg x1)) ≤ (S.1 31 (Int32.toNatClampNeg x2))) → Q (0 : Int32) S)))))))))
def bX7_isOrder_2 (k2 : Int32 → St → Prop) (Q : Int32 → St → Prop) (x1 : Int32) (S : St) : Prop :=
  (((S.1 13 0) ≤ x1 → (∃ N : Nat, itr (F := Int32 → St → Prop) (fun _ _ => False) (fun k67 x1 S => bX7_isOrder_67 k67 Q x1 S) N (0 : Int32) S)) ∧ (¬ ((S.1 13 0) ≤ x1) → (∀ y45 : Int32, y45 = (x1 + (1 : Int32)) → (∃ N : Nat, itr (F := Int32 → Int32 → St → Prop) (fun _ _ _ => False) (fun k14 x1 x2 S => bX7_isOrder_14 k2 k14 Q x1 x2 S) N x1 y45 S))))
def pX7_isOrder (S : St) (Q : Int32 → St → Prop) : Prop :=
  (∃ N : Nat, itr (F := Int32 → St → Prop) (fun _ _ => False) (fun k2 x1 S => bX7_isOrder_2 k2 Q x1 S) N (0 : Int32) S)
set_option maxHeartbeats 40000000 in
set_option maxRecDepth 100000 in
theorem kX7_isOrder {p : Program} {l : Launch} {e : Env} {R : Room} {s : State} {m : MethodId} {args : Array Value} {below : List Frame} {meth : Method} {c : Code} {QQ : State → Prop} {g : va_G} {ct : Nat → ClassId} {ad : Nat → Nat} {A : Nat → Prop} (C : CallFix p m c cX7_isOrder 3 s args wsX7_isOrder RX7) (hK : va_K g vwCl (mT ct) s) (hN : xN s) (hA : ∀ q, s.heap.size ≤ q → A q) (hRf : 4 ≤ R.frames) (hRl : 90 ≤ R.locals) (Q : Int32 → St → Prop) (hret : ∀ (pc : Nat) (r : Int32) (S : St) (H : Heap) (locs : List Loc) (ls : Array Slot), decode cX7_isOrder pc = .ok (.ireturn, 1) → zb r → Q r S → va_P g vwCl (wM ct ad S) H → va_D A (wM ct ad S) → va_S A s.heap H locs → W p l e R s m args below meth c H locs 0 0 QQ (F0 m pc ls [.int r])) (S : St) (h : pX7_isOrder S Q) (H : Heap) (locs : List Loc) (ls : Array Slot) (hP : va_P g vwCl (wM ct ad S) H) (hD : va_D A (wM ct ad S)) (hS : va_S A s.heap H locs) (hl : lv_has ls 3 [(0, .ref (ad 0))]) : W p l e R s m args below meth c H locs 0 0 QQ (F0 m 0 ls []) := by
  have hinX7 : ∀ w ∈ wsX70, w ∈ wsX7_isOrder := by decide +kernel
  have B229 : ∀ (k139 : Int32 → St → Prop) (hk139 : ∀ (x1 : Int32) (S : St) (H : Heap) (locs : List Loc) (ls : Array Slot), k139 x1 S → va_P g vwCl (wM ct ad S) H → va_D A (wM ct ad S) → va_S A s.heap H locs → lv_has ls 3 [(0, .ref (ad 0)), (1, .int x1)] → W p l e R s m args below meth c H locs 0 0 QQ (F0 m 139 ls [])) (x1 : Int32) (S : St) (H : Heap) (locs : List Loc) (ls : Array Slot), bX7_isOrder_229 k139 Q x1 S → va_P g vwCl (wM ct ad S) H → va_D A (wM ct ad S) → va_S A s.heap H locs → lv_has ls 3 [(0, .ref (ad 0)), (1, .int x1)] → W p l e R s m args below meth c H locs 0 0 QQ (F0 m 229 ls []) := by
    intro k139 hk139 x1 S H locs ls h hP hD hS hl
    obtain ⟨y1, ey1⟩ : ∃ z : Int32, z = x1 + (1 : Int32) := ⟨_, rfl⟩
    have h := h y1 ey1
    refine lv_iinc (v := y1) (lv' := [(1, .int y1), (0, .ref (ad 0))]) C.1 C.2.1 dX7_isOrder_229 hl (k := 1) rfl (by rw [ey1]; rfl) (by decide) rfl (fun ls hl => ?_)
    refine lv_goto (tgt := 139) C.1 C.2.1 dX7_isOrder_232 (by decide) ?_
    exact hk139 y1 S H locs ls h hP hD hS (lv_sub hl [1, 0] rfl)
  have B203 : ∀ (k139 : Int32 → St → Prop) (hk139 : ∀ (x1 : Int32) (S : St) (H : Heap) (locs : List Loc) (ls : Array Slot), k139 x1 S → va_P g vwCl (wM ct ad S) H → va_D A (wM ct ad S) → va_S A s.heap H locs → lv_has ls 3 [(0, .ref (ad 0)), (1, .int x1)] → W p l e R s m args below meth c H locs 0 0 QQ (F0 m 139 ls [])) (k149 : Int32 → Int32 → St → Prop) (hk149 : ∀ (x1 : Int32) (x2 : Int32) (S : St) (H : Heap) (locs : List Loc) (ls : Array Slot), k149 x1 x2 S → va_P g vwCl (wM ct ad S) H → va_D A (wM ct ad S) → va_S A s.heap H locs → lv_has ls 3 [(0, .ref (ad 0)), (1, .int x1), (2, .int x2)] → W p l e R s m args below meth c H locs 0 0 QQ (F0 m 149 ls [])) (x1 : Int32) (x2 : Int32) (S : St) (H : Heap) (locs : List Loc) (ls : Array Slot), bX7_isOrder_203 k139 k149 Q x1 x2 S → va_P g vwCl (wM ct ad S) H → va_D A (wM ct ad S) → va_S A s.heap H locs → lv_has ls 3 [(0, .ref (ad 0)), (1, .int x1), (2, .int x2)] → W p l e R s m args below meth c H locs 0 0 QQ (F0 m 203 ls []) := by
    intro k139 hk139 k149 hk149 x1 x2 S H locs ls h hP hD hS hl
    obtain ⟨y2, ey2⟩ : ∃ z : Int32, z = x2 + (1 : Int32) := ⟨_, rfl⟩
    have h := h y2 ey2
    refine lv_iinc (v := y2) (lv' := [(2, .int y2), (0, .ref (ad 0)), (1, .int x1)]) C.1 C.2.1 dX7_isOrder_203 hl (k := 2) rfl (by rw [ey2]; rfl) (by decide) rfl (fun ls hl => ?_)
    refine lv_goto (tgt := 149) C.1 C.2.1 dX7_isOrder_206 (by decide) ?_
    exact hk149 x1 y2 S H locs ls h hP hD hS (lv_sub hl [1, 2, 0] rfl)
  have B149 : ∀ (k139 : Int32 → St → Prop) (hk139 : ∀ (x1 : Int32) (S : St) (H : Heap) (locs : List Loc) (ls : Array Slot), k139 x1 S → va_P g vwCl (wM ct ad S) H → va_D A (wM ct ad S) → va_S A s.heap H locs → lv_has ls 3 [(0, .ref (ad 0)), (1, .int x1)] → W p l e R s m args below meth c H locs 0 0 QQ (F0 m 139 ls [])) (k149 : Int32 → Int32 → St → Prop) (hk149 : ∀ (x1 : Int32) (x2 : Int32) (S : St) (H : Heap) (locs : List Loc) (ls : Array Slot), k149 x1 x2 S → va_P g vwCl (wM ct ad S) H → va_D A (wM ct ad S) → va_S A s.heap H locs → lv_has ls 3 [(0, .ref (ad 0)), (1, .int x1), (2, .int x2)] → W p l e R s m args below meth c H locs 0 0 QQ (F0 m 149 ls [])) (x1 : Int32) (x2 : Int32) (S : St) (H : Heap) (locs : List Loc) (ls : Array Slot), bX7_isOrder_149 k139 k149 Q x1 x2 S → va_P g vwCl (wM ct ad S) H → va_D A (wM ct ad S) → va_S A s.heap H locs → lv_has ls 3 [(0, .ref (ad 0)), (1, .int x1), (2, .int x2)] → W p l e R s m args below meth c H locs 0 0 QQ (F0 m 149 ls []) := by
    intro k139 hk139 k149 hk149 x1 x2 S H locs ls h hP hD hS hl
    refine lv_iload_n C.1 C.2.1 dX7_isOrder_149 rfl (lv_at hl 2 rfl) ?_
    refine lv_iload_n C.1 C.2.1 dX7_isOrder_150 rfl (lv_at hl 1 rfl) ?_
    refine lv_icmp_ge (tgt := 209) C.1 C.2.1 dX7_isOrder_151 (by decide) (fun c20 => ?_) (fun c20 => ?_)
    · have h := h.1 c20
      refine lv_aload_n C.1 C.2.1 dX7_isOrder_209 rfl (lv_at hl 0 rfl) ?_
      refine mg_kindOf C hinX7 hK hP (by decide +kernel) dX7_isOrder_210 ?_
      refine lv_iload_n C.1 C.2.1 dX7_isOrder_213 rfl (lv_at hl 1 rfl) ?_
      obtain ⟨g3, h⟩ := h
      refine ma_kindOf C hK hP g3  rfl dX7_isOrder_214 ?_
      refine lv_iconst (v := 5) C.1 C.2.1 dX7_isOrder_215 (by decide) ?_
      refine lv_icmp_ne (tgt := 229) C.1 C.2.1 dX7_isOrder_216 (by decide) (fun c7 => ?_) (fun c7 => ?_)
      · have h := h.1 c7
        exact B229 k139 hk139 x1 S H locs ls h hP hD hS (lv_sub hl [0, 1] rfl)
      · have h := h.2 c7
        refine lv_aload_n C.1 C.2.1 dX7_isOrder_219 rfl (lv_at hl 0 rfl) ?_
        refine lv_iload_n C.1 C.2.1 dX7_isOrder_220 rfl (lv_at hl 1 rfl) ?_
        refine g_callVi (w := wM ct ad) C hK hN hA hP hD hS (mX7_isAtomic l g ct ad H.size S x1  _ h) (cwV 1 C.2.2.2.2 gX7_isOrder_X7_isAtomic rfl rfl rfl (by decide +kernel) ⟨Nat.le_trans (by decide) hRf, Nat.le_trans (by decide) hRl⟩) (va_recv hK hP (ci := 7) (q0 := 0) rfl rfl) rfl hl.1 rfl (Nat.le_of_ble_eq_true rfl) dX7_isOrder_221 ⟨Nat.zero_le _, Nat.zero_le _⟩ (fun r5 S4 H locs h hP hD hS => ?_)
        refine lv_if_ne (tgt := 229) C.1 C.2.1 dX7_isOrder_224 (by decide) (fun c6 => ?_) (fun c6 => ?_)
        · have h := h.1 c6
          exact B229 k139 hk139 x1 S4 H locs ls h hP hD hS (lv_sub hl [0, 1] rfl)
        · have h := h.2 c6
          refine lv_iconst (v := 0) C.1 C.2.1 dX7_isOrder_227 (by decide) ?_
          exact hret _ _ _ _ _ _ dX7_isOrder_228 zb_0 h hP hD hS
    · have h := h.2 c20
      refine lv_aload_n C.1 C.2.1 dX7_isOrder_154 rfl (lv_at hl 0 rfl) ?_
      refine lv_iload_n C.1 C.2.1 dX7_isOrder_155 rfl (lv_at hl 1 rfl) ?_
      refine g_callVi (w := wM ct ad) C hK hN hA hP hD hS (mX7_reads l g ct ad H.size S x1  _ h) (cwV 1 C.2.2.2.2 gX7_isOrder_X7_reads rfl rfl rfl (by decide +kernel) ⟨Nat.le_trans (by decide) hRf, Nat.le_trans (by decide) hRl⟩) (va_recv hK hP (ci := 7) (q0 := 0) rfl rfl) rfl hl.1 rfl (Nat.le_of_ble_eq_true rfl) dX7_isOrder_156 ⟨Nat.zero_le _, Nat.zero_le _⟩ (fun r9 S8 H locs h hP hD hS => ?_)
      refine lv_if_eq (tgt := 203) C.1 C.2.1 dX7_isOrder_159 (by decide) (fun c19 => ?_) (fun c19 => ?_)
      · have h := h.1 c19
        exact B203 k139 hk139 k149 hk149 x1 x2 S8 H locs ls h hP hD hS (lv_sub hl [0, 1, 2] rfl)
      · have h := h.2 c19
        refine lv_aload_n C.1 C.2.1 dX7_isOrder_162 rfl (lv_at hl 0 rfl) ?_
        refine mg_hartOf C hinX7 hK hP (by decide +kernel) dX7_isOrder_163 ?_
        refine lv_iload_n C.1 C.2.1 dX7_isOrder_166 rfl (lv_at hl 2 rfl) ?_
        obtain ⟨g10, h⟩ := h
        refine ma_hartOf C hK hP g10  rfl dX7_isOrder_167 ?_
        refine lv_aload_n C.1 C.2.1 dX7_isOrder_168 rfl (lv_at hl 0 rfl) ?_
        refine mg_hartOf C hinX7 hK hP (by decide +kernel) dX7_isOrder_169 ?_
        refine lv_iload_n C.1 C.2.1 dX7_isOrder_172 rfl (lv_at hl 1 rfl) ?_
        obtain ⟨g11, h⟩ := h
        refine ma_hartOf C hK hP g11  rfl dX7_isOrder_173 ?_
        refine lv_icmp_ne (tgt := 203) C.1 C.2.1 dX7_isOrder_174 (by decide) (fun c18 => ?_) (fun c18 => ?_)
        · have h := h.1 c18
          exact B203 k139 hk139 k149 hk149 x1 x2 S8 H locs ls h hP hD hS (lv_sub hl [0, 1, 2] rfl)
        · have h := h.2 c18
          refine lv_aload_n C.1 C.2.1 dX7_isOrder_177 rfl (lv_at hl 0 rfl) ?_
          refine mg_place C hinX7 hK hP (by decide +kernel) dX7_isOrder_178 ?_
          refine lv_iload_n C.1 C.2.1 dX7_isOrder_181 rfl (lv_at hl 2 rfl) ?_
          obtain ⟨g12, h⟩ := h
          refine ma_place C hK hP g12  rfl dX7_isOrder_182 ?_
          refine lv_aload_n C.1 C.2.1 dX7_isOrder_183 rfl (lv_at hl 0 rfl) ?_
          refine mg_place C hinX7 hK hP (by decide +kernel) dX7_isOrder_184 ?_
          refine lv_iload_n C.1 C.2.1 dX7_isOrder_187 rfl (lv_at hl 1 rfl) ?_
          obtain ⟨g13, h⟩ := h
          refine ma_place C hK hP g13  rfl dX7_isOrder_188 ?_
          refine lv_icmp_le (tgt := 203) C.1 C.2.1 dX7_isOrder_189 (by decide) (fun c17 => ?_) (fun c17 => ?_)
          · have h := h.1 c17
            exact B203 k139 hk139 k149 hk149 x1 x2 S8 H locs ls h hP hD hS (lv_sub hl [0, 1, 2] rfl)
          · have h := h.2 c17
            refine lv_aload_n C.1 C.2.1 dX7_isOrder_192 rfl (lv_at hl 0 rfl) ?_
            refine lv_iload_n C.1 C.2.1 dX7_isOrder_193 rfl (lv_at hl 2 rfl) ?_
            refine lv_iload_n C.1 C.2.1 dX7_isOrder_194 rfl (lv_at hl 1 rfl) ?_
            refine g_callVi (w := wM ct ad) C hK hN hA hP hD hS (mX7_isAsked l g ct ad H.size S8 x2 x1  _ h) (cwV 2 C.2.2.2.2 gX7_isOrder_X7_isAsked rfl rfl rfl (by decide +kernel) ⟨Nat.le_trans (by decide) hRf, Nat.le_trans (by decide) hRl⟩) (va_recv hK hP (ci := 7) (q0 := 0) rfl rfl) rfl hl.1 rfl (Nat.le_of_ble_eq_true rfl) dX7_isOrder_195 ⟨Nat.zero_le _, Nat.zero_le _⟩ (fun r15 S14 H locs h hP hD hS => ?_)
            refine lv_if_eq (tgt := 203) C.1 C.2.1 dX7_isOrder_198 (by decide) (fun c16 => ?_) (fun c16 => ?_)
            · have h := h.1 c16
              exact B203 k139 hk139 k149 hk149 x1 x2 S14 H locs ls h hP hD hS (lv_sub hl [0, 1, 2] rfl)
            · have h := h.2 c16
              refine lv_iconst (v := 0) C.1 C.2.1 dX7_isOrder_201 (by decide) ?_
              exact hret _ _ _ _ _ _ dX7_isOrder_202 zb_0 h hP hD hS
  have L149 : ∀ (k139 : Int32 → St → Prop) (hk139 : ∀ (x1 : Int32) (S : St) (H : Heap) (locs : List Loc) (ls : Array Slot), k139 x1 S → va_P g vwCl (wM ct ad S) H → va_D A (wM ct ad S) → va_S A s.heap H locs → lv_has ls 3 [(0, .ref (ad 0)), (1, .int x1)] → W p l e R s m args below meth c H locs 0 0 QQ (F0 m 139 ls [])) (N : Nat) (x1 : Int32) (x2 : Int32) (S : St) (H : Heap) (locs : List Loc) (ls : Array Slot), itr (F := Int32 → Int32 → St → Prop) (fun _ _ _ => False) (fun k149 x1 x2 S => bX7_isOrder_149 k139 k149 Q x1 x2 S) N x1 x2 S → va_P g vwCl (wM ct ad S) H → va_D A (wM ct ad S) → va_S A s.heap H locs → lv_has ls 3 [(0, .ref (ad 0)), (1, .int x1), (2, .int x2)] → W p l e R s m args below meth c H locs 0 0 QQ (F0 m 149 ls []) := by
    intro k139 hk139 N
    induction N with
    | zero => intro x1 x2 S H locs ls h hP hD hS hl; exact False.elim h
    | succ N ih => intro x1 x2 S H locs ls h hP hD hS hl; exact B149 k139 hk139 (itr (F := Int32 → Int32 → St → Prop) (fun _ _ _ => False) (fun k149 x1 x2 S => bX7_isOrder_149 k139 k149 Q x1 x2 S) N) ih x1 x2 S H locs ls h  hP hD hS hl
  have B139 : ∀ (k139 : Int32 → St → Prop) (hk139 : ∀ (x1 : Int32) (S : St) (H : Heap) (locs : List Loc) (ls : Array Slot), k139 x1 S → va_P g vwCl (wM ct ad S) H → va_D A (wM ct ad S) → va_S A s.heap H locs → lv_has ls 3 [(0, .ref (ad 0)), (1, .int x1)] → W p l e R s m args below meth c H locs 0 0 QQ (F0 m 139 ls [])) (x1 : Int32) (S : St) (H : Heap) (locs : List Loc) (ls : Array Slot), bX7_isOrder_139 k139 Q x1 S → va_P g vwCl (wM ct ad S) H → va_D A (wM ct ad S) → va_S A s.heap H locs → lv_has ls 3 [(0, .ref (ad 0)), (1, .int x1)] → W p l e R s m args below meth c H locs 0 0 QQ (F0 m 139 ls []) := by
    intro k139 hk139 x1 S H locs ls h hP hD hS hl
    refine lv_iload_n C.1 C.2.1 dX7_isOrder_139 rfl (lv_at hl 1 rfl) ?_
    refine lv_aload_n C.1 C.2.1 dX7_isOrder_140 rfl (lv_at hl 0 rfl) ?_
    refine mg_accesses C hinX7 hK hP (by decide +kernel) dX7_isOrder_141 ?_
    refine lv_icmp_ge (tgt := 235) C.1 C.2.1 dX7_isOrder_144 (by decide) (fun c21 => ?_) (fun c21 => ?_)
    · have h := h.1 c21
      refine lv_iconst (v := 1) C.1 C.2.1 dX7_isOrder_235 (by decide) ?_
      exact hret _ _ _ _ _ _ dX7_isOrder_236 zb_1 h hP hD hS
    · have h := h.2 c21
      refine lv_iconst (v := 0) C.1 C.2.1 dX7_isOrder_147 (by decide) ?_
      refine lv_istore_n (lv' := [(2, .int (0 : Int32)), (0, .ref (ad 0)), (1, .int x1)]) C.1 C.2.1 dX7_isOrder_148 rfl hl (by decide) rfl (fun ls hl => ?_)
      obtain ⟨N, h⟩ := h
      exact L149 k139 hk139 N x1 (0 : Int32) S H locs ls h hP hD hS (lv_sub hl [1, 2, 0] rfl)
  have L139 : ∀ (N : Nat) (x1 : Int32) (S : St) (H : Heap) (locs : List Loc) (ls : Array Slot), itr (F := Int32 → St → Prop) (fun _ _ => False) (fun k139 x1 S => bX7_isOrder_139 k139 Q x1 S) N x1 S → va_P g vwCl (wM ct ad S) H → va_D A (wM ct ad S) → va_S A s.heap H locs → lv_has ls 3 [(0, .ref (ad 0)), (1, .int x1)] → W p l e R s m args below meth c H locs 0 0 QQ (F0 m 139 ls []) := by
    intro N
    induction N with
    | zero => intro x1 S H locs ls h hP hD hS hl; exact False.elim h
    | succ N ih => intro x1 S H locs ls h hP hD hS hl; exact B139  (itr (F := Int32 → St → Prop) (fun _ _ => False) (fun k139 x1 S => bX7_isOrder_139 k139 Q x1 S) N) ih x1 S H locs ls h  hP hD hS hl
  have B131 : ∀ (k67 : Int32 → St → Prop) (hk67 : ∀ (x1 : Int32) (S : St) (H : Heap) (locs : List Loc) (ls : Array Slot), k67 x1 S → va_P g vwCl (wM ct ad S) H → va_D A (wM ct ad S) → va_S A s.heap H locs → lv_has ls 3 [(0, .ref (ad 0)), (1, .int x1)] → W p l e R s m args below meth c H locs 0 0 QQ (F0 m 67 ls [])) (x1 : Int32) (S : St) (H : Heap) (locs : List Loc) (ls : Array Slot), bX7_isOrder_131 k67 Q x1 S → va_P g vwCl (wM ct ad S) H → va_D A (wM ct ad S) → va_S A s.heap H locs → lv_has ls 3 [(0, .ref (ad 0)), (1, .int x1)] → W p l e R s m args below meth c H locs 0 0 QQ (F0 m 131 ls []) := by
    intro k67 hk67 x1 S H locs ls h hP hD hS hl
    obtain ⟨y22, ey22⟩ : ∃ z : Int32, z = x1 + (1 : Int32) := ⟨_, rfl⟩
    have h := h y22 ey22
    refine lv_iinc (v := y22) (lv' := [(1, .int y22), (0, .ref (ad 0))]) C.1 C.2.1 dX7_isOrder_131 hl (k := 1) rfl (by rw [ey22]; rfl) (by decide) rfl (fun ls hl => ?_)
    refine lv_goto (tgt := 67) C.1 C.2.1 dX7_isOrder_134 (by decide) ?_
    exact hk67 y22 S H locs ls h hP hD hS (lv_sub hl [1, 0] rfl)
  have B118 : ∀ (k67 : Int32 → St → Prop) (hk67 : ∀ (x1 : Int32) (S : St) (H : Heap) (locs : List Loc) (ls : Array Slot), k67 x1 S → va_P g vwCl (wM ct ad S) H → va_D A (wM ct ad S) → va_S A s.heap H locs → lv_has ls 3 [(0, .ref (ad 0)), (1, .int x1)] → W p l e R s m args below meth c H locs 0 0 QQ (F0 m 67 ls [])) (x1 : Int32) (t0 : Int32) (S : St) (H : Heap) (locs : List Loc) (ls : Array Slot), bX7_isOrder_118 k67 Q x1 t0 S → va_P g vwCl (wM ct ad S) H → va_D A (wM ct ad S) → va_S A s.heap H locs → lv_has ls 3 [(0, .ref (ad 0)), (1, .int x1)] → W p l e R s m args below meth c H locs 0 0 QQ (F0 m 118 ls [.int t0]) := by
    intro k67 hk67 x1 t0 S H locs ls h hP hD hS hl
    refine lv_istore_n (lv' := [(2, .int t0), (0, .ref (ad 0)), (1, .int x1)]) C.1 C.2.1 dX7_isOrder_118 rfl hl (by decide) rfl (fun ls hl => ?_)
    refine lv_iload_n C.1 C.2.1 dX7_isOrder_119 rfl (lv_at hl 0 rfl) ?_
    refine lv_aload_n C.1 C.2.1 dX7_isOrder_120 rfl (lv_at hl 1 rfl) ?_
    refine mg_read C hinX7 hK hP (by decide +kernel) dX7_isOrder_121 ?_
    refine lv_iload_n C.1 C.2.1 dX7_isOrder_124 rfl (lv_at hl 2 rfl) ?_
    obtain ⟨g23, h⟩ := h
    refine ma_read C hK hP g23  rfl dX7_isOrder_125 ?_
    refine lv_icmp_eq (tgt := 131) C.1 C.2.1 dX7_isOrder_126 (by decide) (fun c24 => ?_) (fun c24 => ?_)
    · have h := h.1 c24
      exact B131 k67 hk67 x1 S H locs ls h hP hD hS (lv_sub hl [1, 2] rfl)
    · have h := h.2 c24
      refine lv_iconst (v := 0) C.1 C.2.1 dX7_isOrder_129 (by decide) ?_
      exact hret _ _ _ _ _ _ dX7_isOrder_130 zb_0 h hP hD hS
  have B67 : ∀ (k67 : Int32 → St → Prop) (hk67 : ∀ (x1 : Int32) (S : St) (H : Heap) (locs : List Loc) (ls : Array Slot), k67 x1 S → va_P g vwCl (wM ct ad S) H → va_D A (wM ct ad S) → va_S A s.heap H locs → lv_has ls 3 [(0, .ref (ad 0)), (1, .int x1)] → W p l e R s m args below meth c H locs 0 0 QQ (F0 m 67 ls [])) (x1 : Int32) (S : St) (H : Heap) (locs : List Loc) (ls : Array Slot), bX7_isOrder_67 k67 Q x1 S → va_P g vwCl (wM ct ad S) H → va_D A (wM ct ad S) → va_S A s.heap H locs → lv_has ls 3 [(0, .ref (ad 0)), (1, .int x1)] → W p l e R s m args below meth c H locs 0 0 QQ (F0 m 67 ls []) := by
    intro k67 hk67 x1 S H locs ls h hP hD hS hl
    refine lv_iload_n C.1 C.2.1 dX7_isOrder_67 rfl (lv_at hl 1 rfl) ?_
    refine lv_aload_n C.1 C.2.1 dX7_isOrder_68 rfl (lv_at hl 0 rfl) ?_
    refine mg_accesses C hinX7 hK hP (by decide +kernel) dX7_isOrder_69 ?_
    refine lv_icmp_ge (tgt := 137) C.1 C.2.1 dX7_isOrder_72 (by decide) (fun c36 => ?_) (fun c36 => ?_)
    · have h := h.1 c36
      refine lv_iconst (v := 0) C.1 C.2.1 dX7_isOrder_137 (by decide) ?_
      refine lv_istore_n (lv' := [(1, .int (0 : Int32)), (0, .ref (ad 0))]) C.1 C.2.1 dX7_isOrder_138 rfl hl (by decide) rfl (fun ls hl => ?_)
      obtain ⟨N, h⟩ := h
      exact L139 N (0 : Int32) S H locs ls h hP hD hS (lv_sub hl [1, 0] rfl)
    · have h := h.2 c36
      refine lv_aload_n C.1 C.2.1 dX7_isOrder_75 rfl (lv_at hl 0 rfl) ?_
      refine lv_iload_n C.1 C.2.1 dX7_isOrder_76 rfl (lv_at hl 1 rfl) ?_
      refine g_callVi (w := wM ct ad) C hK hN hA hP hD hS (mX7_reads l g ct ad H.size S x1  _ h) (cwV 1 C.2.2.2.2 gX7_isOrder_X7_reads rfl rfl rfl (by decide +kernel) ⟨Nat.le_trans (by decide) hRf, Nat.le_trans (by decide) hRl⟩) (va_recv hK hP (ci := 7) (q0 := 0) rfl rfl) rfl hl.1 rfl (Nat.le_of_ble_eq_true rfl) dX7_isOrder_77 ⟨Nat.zero_le _, Nat.zero_le _⟩ (fun r26 S25 H locs h hP hD hS => ?_)
      refine lv_if_eq (tgt := 131) C.1 C.2.1 dX7_isOrder_80 (by decide) (fun c35 => ?_) (fun c35 => ?_)
      · have h := h.1 c35
        exact B131 k67 hk67 x1 S25 H locs ls h hP hD hS (lv_sub hl [0, 1] rfl)
      · have h := h.2 c35
        refine lv_aload_n C.1 C.2.1 dX7_isOrder_83 rfl (lv_at hl 0 rfl) ?_
        refine mg_source C hinX7 hK hP (by decide +kernel) dX7_isOrder_84 ?_
        refine lv_iload_n C.1 C.2.1 dX7_isOrder_87 rfl (lv_at hl 1 rfl) ?_
        refine lv_aload_n C.1 C.2.1 dX7_isOrder_88 rfl (lv_at hl 0 rfl) ?_
        refine lv_iload_n C.1 C.2.1 dX7_isOrder_89 rfl (lv_at hl 1 rfl) ?_
        refine g_callVi (w := wM ct ad) C hK hN hA hP hD hS (mX7_sourceOf l g ct ad H.size S25 x1  _ h) (cwV 1 C.2.2.2.2 gX7_isOrder_X7_sourceOf rfl rfl rfl (by decide +kernel) ⟨Nat.le_trans (by decide) hRf, Nat.le_trans (by decide) hRl⟩) (va_recv hK hP (ci := 7) (q0 := 0) rfl rfl) rfl hl.1 rfl (Nat.le_of_ble_eq_true rfl) dX7_isOrder_90 ⟨Nat.zero_le _, Nat.zero_le _⟩ (fun r28 S27 H locs h hP hD hS => ?_)
        obtain ⟨g30, h⟩ := h
        obtain ⟨S29, eS29⟩ : ∃ z : St, z = wr S27 32 (Int32.toNatClampNeg x1) r28 := ⟨_, rfl⟩
        have h := h S29 eS29
        refine ms_source C hK hP hD hS  g30 rfl dX7_isOrder_93 (fun H locs hP hD hS => ?_)
        rw [← eS29] at hP hD
        refine lv_aload_n C.1 C.2.1 dX7_isOrder_94 rfl (lv_at hl 0 rfl) ?_
        refine mg_source C hinX7 hK hP (by decide +kernel) dX7_isOrder_95 ?_
        refine lv_iload_n C.1 C.2.1 dX7_isOrder_98 rfl (lv_at hl 1 rfl) ?_
        obtain ⟨g31, h⟩ := h
        refine ma_source C hK hP g31  rfl dX7_isOrder_99 ?_
        refine lv_if_ge (tgt := 107) C.1 C.2.1 dX7_isOrder_100 (by decide) (fun c34 => ?_) (fun c34 => ?_)
        · have h := h.1 c34
          refine lv_aload_n C.1 C.2.1 dX7_isOrder_107 rfl (lv_at hl 0 rfl) ?_
          refine mg_written C hinX7 hK hP (by decide +kernel) dX7_isOrder_108 ?_
          refine lv_aload_n C.1 C.2.1 dX7_isOrder_111 rfl (lv_at hl 0 rfl) ?_
          refine mg_source C hinX7 hK hP (by decide +kernel) dX7_isOrder_112 ?_
          refine lv_iload_n C.1 C.2.1 dX7_isOrder_115 rfl (lv_at hl 1 rfl) ?_
          obtain ⟨g32, h⟩ := h
          refine ma_source C hK hP g32  rfl dX7_isOrder_116 ?_
          obtain ⟨g33, h⟩ := h
          refine ma_written C hK hP g33  rfl dX7_isOrder_117 ?_
          exact B118 k67 hk67 x1 (S29.1 18 (Int32.toNatClampNeg (S29.1 32 (Int32.toNatClampNeg x1)))) S29 H locs ls h hP hD hS (lv_sub hl [0, 1] rfl)
        · have h := h.2 c34
          refine lv_iconst (v := 0) C.1 C.2.1 dX7_isOrder_103 (by decide) ?_
          refine lv_goto (tgt := 118) C.1 C.2.1 dX7_isOrder_104 (by decide) ?_
          exact B118 k67 hk67 x1 (0 : Int32) S29 H locs ls h hP hD hS (lv_sub hl [0, 1] rfl)
  have L67 : ∀ (N : Nat) (x1 : Int32) (S : St) (H : Heap) (locs : List Loc) (ls : Array Slot), itr (F := Int32 → St → Prop) (fun _ _ => False) (fun k67 x1 S => bX7_isOrder_67 k67 Q x1 S) N x1 S → va_P g vwCl (wM ct ad S) H → va_D A (wM ct ad S) → va_S A s.heap H locs → lv_has ls 3 [(0, .ref (ad 0)), (1, .int x1)] → W p l e R s m args below meth c H locs 0 0 QQ (F0 m 67 ls []) := by
    intro N
    induction N with
    | zero => intro x1 S H locs ls h hP hD hS hl; exact False.elim h
    | succ N ih => intro x1 S H locs ls h hP hD hS hl; exact B67  (itr (F := Int32 → St → Prop) (fun _ _ => False) (fun k67 x1 S => bX7_isOrder_67 k67 Q x1 S) N) ih x1 S H locs ls h  hP hD hS hl
  have B53 : ∀ (k2 : Int32 → St → Prop) (hk2 : ∀ (x1 : Int32) (S : St) (H : Heap) (locs : List Loc) (ls : Array Slot), k2 x1 S → va_P g vwCl (wM ct ad S) H → va_D A (wM ct ad S) → va_S A s.heap H locs → lv_has ls 3 [(0, .ref (ad 0)), (1, .int x1)] → W p l e R s m args below meth c H locs 0 0 QQ (F0 m 2 ls [])) (k14 : Int32 → Int32 → St → Prop) (hk14 : ∀ (x1 : Int32) (x2 : Int32) (S : St) (H : Heap) (locs : List Loc) (ls : Array Slot), k14 x1 x2 S → va_P g vwCl (wM ct ad S) H → va_D A (wM ct ad S) → va_S A s.heap H locs → lv_has ls 3 [(0, .ref (ad 0)), (1, .int x1), (2, .int x2)] → W p l e R s m args below meth c H locs 0 0 QQ (F0 m 14 ls [])) (x1 : Int32) (x2 : Int32) (S : St) (H : Heap) (locs : List Loc) (ls : Array Slot), bX7_isOrder_53 k2 k14 Q x1 x2 S → va_P g vwCl (wM ct ad S) H → va_D A (wM ct ad S) → va_S A s.heap H locs → lv_has ls 3 [(0, .ref (ad 0)), (1, .int x1), (2, .int x2)] → W p l e R s m args below meth c H locs 0 0 QQ (F0 m 53 ls []) := by
    intro k2 hk2 k14 hk14 x1 x2 S H locs ls h hP hD hS hl
    obtain ⟨y37, ey37⟩ : ∃ z : Int32, z = x2 + (1 : Int32) := ⟨_, rfl⟩
    have h := h y37 ey37
    refine lv_iinc (v := y37) (lv' := [(2, .int y37), (0, .ref (ad 0)), (1, .int x1)]) C.1 C.2.1 dX7_isOrder_53 hl (k := 2) rfl (by rw [ey37]; rfl) (by decide) rfl (fun ls hl => ?_)
    refine lv_goto (tgt := 14) C.1 C.2.1 dX7_isOrder_56 (by decide) ?_
    exact hk14 x1 y37 S H locs ls h hP hD hS (lv_sub hl [1, 2, 0] rfl)
  have B14 : ∀ (k2 : Int32 → St → Prop) (hk2 : ∀ (x1 : Int32) (S : St) (H : Heap) (locs : List Loc) (ls : Array Slot), k2 x1 S → va_P g vwCl (wM ct ad S) H → va_D A (wM ct ad S) → va_S A s.heap H locs → lv_has ls 3 [(0, .ref (ad 0)), (1, .int x1)] → W p l e R s m args below meth c H locs 0 0 QQ (F0 m 2 ls [])) (k14 : Int32 → Int32 → St → Prop) (hk14 : ∀ (x1 : Int32) (x2 : Int32) (S : St) (H : Heap) (locs : List Loc) (ls : Array Slot), k14 x1 x2 S → va_P g vwCl (wM ct ad S) H → va_D A (wM ct ad S) → va_S A s.heap H locs → lv_has ls 3 [(0, .ref (ad 0)), (1, .int x1), (2, .int x2)] → W p l e R s m args below meth c H locs 0 0 QQ (F0 m 14 ls [])) (x1 : Int32) (x2 : Int32) (S : St) (H : Heap) (locs : List Loc) (ls : Array Slot), bX7_isOrder_14 k2 k14 Q x1 x2 S → va_P g vwCl (wM ct ad S) H → va_D A (wM ct ad S) → va_S A s.heap H locs → lv_has ls 3 [(0, .ref (ad 0)), (1, .int x1), (2, .int x2)] → W p l e R s m args below meth c H locs 0 0 QQ (F0 m 14 ls []) := by
    intro k2 hk2 k14 hk14 x1 x2 S H locs ls h hP hD hS hl
    refine lv_iload_n C.1 C.2.1 dX7_isOrder_14 rfl (lv_at hl 2 rfl) ?_
    refine lv_aload_n C.1 C.2.1 dX7_isOrder_15 rfl (lv_at hl 0 rfl) ?_
    refine mg_accesses C hinX7 hK hP (by decide +kernel) dX7_isOrder_16 ?_
    refine lv_icmp_ge (tgt := 59) C.1 C.2.1 dX7_isOrder_19 (by decide) (fun c44 => ?_) (fun c44 => ?_)
    · have h := h.1 c44
      obtain ⟨y38, ey38⟩ : ∃ z : Int32, z = x1 + (1 : Int32) := ⟨_, rfl⟩
      have h := h y38 ey38
      refine lv_iinc (v := y38) (lv' := [(1, .int y38), (0, .ref (ad 0)), (2, .int x2)]) C.1 C.2.1 dX7_isOrder_59 hl (k := 1) rfl (by rw [ey38]; rfl) (by decide) rfl (fun ls hl => ?_)
      refine lv_goto (tgt := 2) C.1 C.2.1 dX7_isOrder_62 (by decide) ?_
      exact hk2 y38 S H locs ls h hP hD hS (lv_sub hl [1, 0] rfl)
    · have h := h.2 c44
      refine lv_aload_n C.1 C.2.1 dX7_isOrder_22 rfl (lv_at hl 0 rfl) ?_
      refine mg_must C hinX7 hK hP (by decide +kernel) dX7_isOrder_23 ?_
      refine lv_bipush (v := 6) C.1 C.2.1 dX7_isOrder_26 (by decide) ?_
      refine lv_iload_n C.1 C.2.1 dX7_isOrder_28 rfl (lv_at hl 1 rfl) ?_
      refine lv_imul C.1 C.2.1 dX7_isOrder_29 ?_
      refine lv_iload_n C.1 C.2.1 dX7_isOrder_30 rfl (lv_at hl 2 rfl) ?_
      refine lv_iadd C.1 C.2.1 dX7_isOrder_31 ?_
      obtain ⟨g39, h⟩ := h
      refine ma_must C hK hP g39  rfl dX7_isOrder_32 ?_
      refine lv_if_eq (tgt := 53) C.1 C.2.1 dX7_isOrder_33 (by decide) (fun c43 => ?_) (fun c43 => ?_)
      · have h := h.1 c43
        exact B53 k2 hk2 k14 hk14 x1 x2 S H locs ls h hP hD hS (lv_sub hl [0, 1, 2] rfl)
      · have h := h.2 c43
        refine lv_aload_n C.1 C.2.1 dX7_isOrder_36 rfl (lv_at hl 0 rfl) ?_
        refine mg_place C hinX7 hK hP (by decide +kernel) dX7_isOrder_37 ?_
        refine lv_iload_n C.1 C.2.1 dX7_isOrder_40 rfl (lv_at hl 1 rfl) ?_
        obtain ⟨g40, h⟩ := h
        refine ma_place C hK hP g40  rfl dX7_isOrder_41 ?_
        refine lv_aload_n C.1 C.2.1 dX7_isOrder_42 rfl (lv_at hl 0 rfl) ?_
        refine mg_place C hinX7 hK hP (by decide +kernel) dX7_isOrder_43 ?_
        refine lv_iload_n C.1 C.2.1 dX7_isOrder_46 rfl (lv_at hl 2 rfl) ?_
        obtain ⟨g41, h⟩ := h
        refine ma_place C hK hP g41  rfl dX7_isOrder_47 ?_
        refine lv_icmp_le (tgt := 53) C.1 C.2.1 dX7_isOrder_48 (by decide) (fun c42 => ?_) (fun c42 => ?_)
        · have h := h.1 c42
          exact B53 k2 hk2 k14 hk14 x1 x2 S H locs ls h hP hD hS (lv_sub hl [0, 1, 2] rfl)
        · have h := h.2 c42
          refine lv_iconst (v := 0) C.1 C.2.1 dX7_isOrder_51 (by decide) ?_
          exact hret _ _ _ _ _ _ dX7_isOrder_52 zb_0 h hP hD hS
  have L14 : ∀ (k2 : Int32 → St → Prop) (hk2 : ∀ (x1 : Int32) (S : St) (H : Heap) (locs : List Loc) (ls : Array Slot), k2 x1 S → va_P g vwCl (wM ct ad S) H → va_D A (wM ct ad S) → va_S A s.heap H locs → lv_has ls 3 [(0, .ref (ad 0)), (1, .int x1)] → W p l e R s m args below meth c H locs 0 0 QQ (F0 m 2 ls [])) (N : Nat) (x1 : Int32) (x2 : Int32) (S : St) (H : Heap) (locs : List Loc) (ls : Array Slot), itr (F := Int32 → Int32 → St → Prop) (fun _ _ _ => False) (fun k14 x1 x2 S => bX7_isOrder_14 k2 k14 Q x1 x2 S) N x1 x2 S → va_P g vwCl (wM ct ad S) H → va_D A (wM ct ad S) → va_S A s.heap H locs → lv_has ls 3 [(0, .ref (ad 0)), (1, .int x1), (2, .int x2)] → W p l e R s m args below meth c H locs 0 0 QQ (F0 m 14 ls []) := by
    intro k2 hk2 N
    induction N with
    | zero => intro x1 x2 S H locs ls h hP hD hS hl; exact False.elim h
    | succ N ih => intro x1 x2 S H locs ls h hP hD hS hl; exact B14 k2 hk2 (itr (F := Int32 → Int32 → St → Prop) (fun _ _ _ => False) (fun k14 x1 x2 S => bX7_isOrder_14 k2 k14 Q x1 x2 S) N) ih x1 x2 S H locs ls h  hP hD hS hl
  have B2 : ∀ (k2 : Int32 → St → Prop) (hk2 : ∀ (x1 : Int32) (S : St) (H : Heap) (locs : List Loc) (ls : Array Slot), k2 x1 S → va_P g vwCl (wM ct ad S) H → va_D A (wM ct ad S) → va_S A s.heap H locs → lv_has ls 3 [(0, .ref (ad 0)), (1, .int x1)] → W p l e R s m args below meth c H locs 0 0 QQ (F0 m 2 ls [])) (x1 : Int32) (S : St) (H : Heap) (locs : List Loc) (ls : Array Slot), bX7_isOrder_2 k2 Q x1 S → va_P g vwCl (wM ct ad S) H → va_D A (wM ct ad S) → va_S A s.heap H locs → lv_has ls 3 [(0, .ref (ad 0)), (1, .int x1)] → W p l e R s m args below meth c H locs 0 0 QQ (F0 m 2 ls []) := by
    intro k2 hk2 x1 S H locs ls h hP hD hS hl
    refine lv_iload_n C.1 C.2.1 dX7_isOrder_2 rfl (lv_at hl 1 rfl) ?_
    refine lv_aload_n C.1 C.2.1 dX7_isOrder_3 rfl (lv_at hl 0 rfl) ?_
    refine mg_accesses C hinX7 hK hP (by decide +kernel) dX7_isOrder_4 ?_
    refine lv_icmp_ge (tgt := 65) C.1 C.2.1 dX7_isOrder_7 (by decide) (fun c46 => ?_) (fun c46 => ?_)
    · have h := h.1 c46
      refine lv_iconst (v := 0) C.1 C.2.1 dX7_isOrder_65 (by decide) ?_
      refine lv_istore_n (lv' := [(1, .int (0 : Int32)), (0, .ref (ad 0))]) C.1 C.2.1 dX7_isOrder_66 rfl hl (by decide) rfl (fun ls hl => ?_)
      obtain ⟨N, h⟩ := h
      exact L67 N (0 : Int32) S H locs ls h hP hD hS (lv_sub hl [1, 0] rfl)
    · have h := h.2 c46
      refine lv_iload_n C.1 C.2.1 dX7_isOrder_10 rfl (lv_at hl 1 rfl) ?_
      refine lv_iconst (v := 1) C.1 C.2.1 dX7_isOrder_11 (by decide) ?_
      refine lv_iadd C.1 C.2.1 dX7_isOrder_12 ?_
      refine lv_topi (fun y45 ey45 => ?_)
      have h := h y45 ey45
      refine lv_istore_n (lv' := [(2, .int y45), (0, .ref (ad 0)), (1, .int x1)]) C.1 C.2.1 dX7_isOrder_13 rfl hl (by decide) rfl (fun ls hl => ?_)
      obtain ⟨N, h⟩ := h
      exact L14 k2 hk2 N x1 y45 S H locs ls h hP hD hS (lv_sub hl [1, 2, 0] rfl)
  have L2 : ∀ (N : Nat) (x1 : Int32) (S : St) (H : Heap) (locs : List Loc) (ls : Array Slot), itr (F := Int32 → St → Prop) (fun _ _ => False) (fun k2 x1 S => bX7_isOrder_2 k2 Q x1 S) N x1 S → va_P g vwCl (wM ct ad S) H → va_D A (wM ct ad S) → va_S A s.heap H locs → lv_has ls 3 [(0, .ref (ad 0)), (1, .int x1)] → W p l e R s m args below meth c H locs 0 0 QQ (F0 m 2 ls []) := by
    intro N
    induction N with
    | zero => intro x1 S H locs ls h hP hD hS hl; exact False.elim h
    | succ N ih => intro x1 S H locs ls h hP hD hS hl; exact B2  (itr (F := Int32 → St → Prop) (fun _ _ => False) (fun k2 x1 S => bX7_isOrder_2 k2 Q x1 S) N) ih x1 S H locs ls h  hP hD hS hl
  refine lv_iconst (v := 0) C.1 C.2.1 dX7_isOrder_0 (by decide) ?_
  refine lv_istore_n (lv' := [(1, .int (0 : Int32)), (0, .ref (ad 0))]) C.1 C.2.1 dX7_isOrder_1 rfl hl (by decide) rfl (fun ls hl => ?_)
  obtain ⟨N, h⟩ := h
  exact L2 N (0 : Int32) S H locs ls h hP hD hS (lv_sub hl [1, 0] rfl)
theorem mX7_isOrder (l : Launch) (g : va_G) (ct : Nat → ClassId) (ad : Nat → Nat) (sz : Nat) (S : St) (Q : Int32 → St → Prop) (h : pX7_isOrder S Q) : Met l yX7_isOrder wsX7_isOrder ({ frames := 4, cells := 0, slots := 0, locals := 90 }) (gPc g (mT ct) (wM ct ad S) sz [.ref (ad 0)]) (va_Qi Q (gB g (mT ct) (wM ct ad) (va_A (wM ct ad S) sz)) (va_A (wM ct ad S) sz)) 0 0 (va_A (wM ct ad S) sz) :=
  g_metZ (w := wM ct ad) (cc := cX7_isOrder) (maxL := 3) (by decide) rfl rfl (Nat.le_of_ble_eq_true rfl) rfl (fun p e s m args below meth c QQ A C hK hN hA hret H locs ls hP hD hS hl => kX7_isOrder C hK hN hA (Nat.le_refl _) (Nat.le_refl _) Q hret  S h H locs ls hP hD hS hl)
