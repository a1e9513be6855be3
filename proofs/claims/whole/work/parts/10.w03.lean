def bX5_relate_135 (k22 : Nat → Int32 → St → Prop) (Q : St → Prop) (x1 : Nat) (x2 : Int32) (S : St) : Prop :=
  (∀ y1 : Int32, y1 = x2 + (-1 : Int32) → k22 x1 y1 S)
def bX5_relate_114 (k22 : Nat → Int32 → St → Prop) (Q : St → Prop) (x1 : Nat) (x2 : Int32) (S : St) : Prop :=
  pX5_isOrdered x2 x1 S (fun (r3 : Int32) (S2 : St) => ((r3 = 0 → bX5_relate_135 k22 Q x1 x2 S2) ∧ (¬ (r3 = 0) → (∀ S4 : St, S4 = wr S2 43 x1 ((S2.1 43 x1) ||| ((1 : Int32) <<< (x2 &&& 31))) → bX5_relate_135 k22 Q x1 x2 S4))))
def bX5_relate_111 (k22 : Nat → Int32 → St → Prop) (Q : St → Prop) (x1 : Nat) (x2 : Int32) (t0 : Nat) (t1 : Int32) (S : St) : Prop :=
  (∀ S6 : St, S6 = wr S 41 t0 t1 → bX5_relate_114 k22 Q x1 x2 S6)
def bX5_relate_94 (k22 : Nat → Int32 → St → Prop) (Q : St → Prop) (x1 : Nat) (x2 : Int32) (x3 : Nat) (t0 : Nat) (t1 : Int32) (t2 : Int32) (S : St) : Prop :=
  (∀ S7 : St, S7 = wr S 42 t0 (t1 ||| t2) → (((S7.1 35 x3) = 0 → bX5_relate_111 k22 Q x1 x2 x1 (-1 : Int32) S7) ∧ (¬ ((S7.1 35 x3) = 0) → bX5_relate_111 k22 Q x1 x2 x1 x2 S7)))
def bX5_relate_93 (k22 : Nat → Int32 → St → Prop) (Q : St → Prop) (x1 : Nat) (x2 : Int32) (x3 : Nat) (t0 : Nat) (t1 : Int32) (S : St) : Prop :=
  bX5_relate_94 k22 Q x1 x2 x3 t0 t1 (0 : Int32) S
def bX5_relate_53 (k22 : Nat → Int32 → St → Prop) (Q : St → Prop) (x1 : Nat) (x2 : Int32) (x3 : Nat) (t0 : Int32) (S : St) : Prop :=
  ((t0 = 0 → bX5_relate_114 k22 Q x1 x2 S) ∧ (¬ (t0 = 0) → ((¬ (S.1 41 x1) = (-1 : Int32) → bX5_relate_114 k22 Q x1 x2 S) ∧ ((S.1 41 x1) = (-1 : Int32) → (((S.1 34 x1) = 0 → bX5_relate_93 k22 Q x1 x2 x3 x1 (S.1 42 x1) S) ∧ (¬ ((S.1 34 x1) = 0) → (((S.1 34 x3) = 0 → bX5_relate_93 k22 Q x1 x2 x3 x1 (S.1 42 x1) S) ∧ (¬ ((S.1 34 x3) = 0) → bX5_relate_94 k22 Q x1 x2 x3 x1 (S.1 42 x1) ((1 : Int32) <<< (x2 &&& 31)) S))))))))
def bX5_relate_22 (k22 : Nat → Int32 → St → Prop) (Q : St → Prop) (x1 : Nat) (x2 : Int32) (S : St) : Prop :=
  ((x2 < (S.1 10 0) → Q S) ∧ (¬ (x2 < (S.1 10 0)) → (vp_in x2 6 ∧ ∀ i13 : Nat, i13 = Int32.toNatClampNeg x2 → ((¬ (S.1 32 i13) = (S.1 32 x1) → bX5_relate_53 k22 Q x1 x2 i13 (0 : Int32) S) ∧ ((S.1 32 i13) = (S.1 32 x1) → bX5_relate_53 k22 Q x1 x2 i13 (1 : Int32) S)))))
def pX5_relate (x1 : Nat) (S : St) (Q : St → Prop) : Prop :=
  (∀ S17 : St, S17 = wr S 43 x1 (0 : Int32) → (∀ S18 : St, S18 = wr S17 42 x1 (0 : Int32) → (∀ S19 : St, S19 = wr S18 41 x1 (-1 : Int32) → (∀ y20 : Int32, y20 = ((S19.1 7 0) - (1 : Int32)) → (∃ N : Nat, itr (F := Nat → Int32 → St → Prop) (fun _ _ _ => False) (fun k22 x1 x2 S => bX5_relate_22 k22 Q x1 x2 S) N x1 y20 S19)))))
set_option maxHeartbeats 40000000 in
set_option maxRecDepth 100000 in
theorem kX5_relate {p : Program} {l : Launch} {e : Env} {R : Room} {s : State} {m : MethodId} {args : Array Value} {below : List Frame} {meth : Method} {c : Code} {QQ : State → Prop} {g : va_G} {ct : Nat → ClassId} {ad : Nat → Nat} {n ro : Nat} {A : Nat → Prop} (C : CallFix p m c cX5_relate 5 s args wsX5_relate RX5) (hK : va_K g vwCl (xT ct) s) (hN : xN s) (hA : ∀ q, s.heap.size ≤ q → A q) (hRf : 1 ≤ R.frames) (hRl : 32 ≤ R.locals) (Q : St → Prop) (hret : ∀ (pc : Nat) (S : St) (H : Heap) (locs : List Loc) (ls : Array Slot), decode cX5_relate pc = .ok (.return_, 1) → Q S → va_P g vwCl (wX ct ad n ro S) H → va_D A (wX ct ad n ro S) → va_S A s.heap H locs → W p l e R s m args below meth c H locs 0 0 QQ (F0 m pc ls [])) (x1 : Nat) (hx1 : x1 < 6) (S : St) (h : pX5_relate x1 S Q) (H : Heap) (locs : List Loc) (ls : Array Slot) (hP : va_P g vwCl (wX ct ad n ro S) H) (hD : va_D A (wX ct ad n ro S)) (hS : va_S A s.heap H locs) (hl : lv_has ls 5 [(0, .ref (ad 8)), (1, .ref (ad (20 + x1)))]) : W p l e R s m args below meth c H locs 0 0 QQ (F0 m 0 ls []) := by
  have hinX0 : ∀ w ∈ wsX00, w ∈ wsX5_relate := by decide +kernel
  have hinX5 : ∀ w ∈ wsX50, w ∈ wsX5_relate := by decide +kernel
  have B135 : ∀ (k22 : Nat → Int32 → St → Prop) (hk22 : ∀ (x1 : Nat) (x2 : Int32) (hx1 : x1 < 6) (S : St) (H : Heap) (locs : List Loc) (ls : Array Slot), k22 x1 x2 S → va_P g vwCl (wX ct ad n ro S) H → va_D A (wX ct ad n ro S) → va_S A s.heap H locs → lv_has ls 5 [(0, .ref (ad 8)), (1, .ref (ad (20 + x1))), (2, .int x2)] → W p l e R s m args below meth c H locs 0 0 QQ (F0 m 22 ls [])) (x1 : Nat) (x2 : Int32) (hx1 : x1 < 6) (S : St) (H : Heap) (locs : List Loc) (ls : Array Slot), bX5_relate_135 k22 Q x1 x2 S → va_P g vwCl (wX ct ad n ro S) H → va_D A (wX ct ad n ro S) → va_S A s.heap H locs → lv_has ls 5 [(0, .ref (ad 8)), (1, .ref (ad (20 + x1))), (2, .int x2)] → W p l e R s m args below meth c H locs 0 0 QQ (F0 m 135 ls []) := by
    intro k22 hk22 x1 x2 hx1 S H locs ls h hP hD hS hl
    obtain ⟨y1, ey1⟩ : ∃ z : Int32, z = x2 + (-1 : Int32) := ⟨_, rfl⟩
    have h := h y1 ey1
    refine lv_iinc (v := y1) (lv' := [(2, .int y1), (0, .ref (ad 8)), (1, .ref (ad (20 + x1)))]) C.1 C.2.1 dX5_relate_135 hl (k := 2) rfl (by rw [ey1]; rfl) (by decide) rfl (fun ls hl => ?_)
    refine lv_goto (tgt := 22) C.1 C.2.1 dX5_relate_138 (by decide) ?_
    exact hk22 x1 y1 hx1 S H locs ls h hP hD hS (lv_sub hl [1, 2, 0] rfl)
  have B114 : ∀ (k22 : Nat → Int32 → St → Prop) (hk22 : ∀ (x1 : Nat) (x2 : Int32) (hx1 : x1 < 6) (S : St) (H : Heap) (locs : List Loc) (ls : Array Slot), k22 x1 x2 S → va_P g vwCl (wX ct ad n ro S) H → va_D A (wX ct ad n ro S) → va_S A s.heap H locs → lv_has ls 5 [(0, .ref (ad 8)), (1, .ref (ad (20 + x1))), (2, .int x2)] → W p l e R s m args below meth c H locs 0 0 QQ (F0 m 22 ls [])) (x1 : Nat) (x2 : Int32) (hx1 : x1 < 6) (S : St) (H : Heap) (locs : List Loc) (ls : Array Slot), bX5_relate_114 k22 Q x1 x2 S → va_P g vwCl (wX ct ad n ro S) H → va_D A (wX ct ad n ro S) → va_S A s.heap H locs → lv_has ls 5 [(0, .ref (ad 8)), (1, .ref (ad (20 + x1))), (2, .int x2)] → W p l e R s m args below meth c H locs 0 0 QQ (F0 m 114 ls []) := by
    intro k22 hk22 x1 x2 hx1 S H locs ls h hP hD hS hl
    refine lv_aload_n C.1 C.2.1 dX5_relate_114 rfl (lv_at hl 0 rfl) ?_
    refine lv_iload_n C.1 C.2.1 dX5_relate_115 rfl (lv_at hl 2 rfl) ?_
    refine lv_aload_n C.1 C.2.1 dX5_relate_116 rfl (lv_at hl 1 rfl) ?_
    refine g_callVi (w := wX ct ad n ro) C hK hN hA hP hD hS (mX5_isOrdered l g ct ad n ro H.size S x2 x1 hx1 _ h) (cwV 2 C.2.2.2.2 gX5_relate_X5_isOrdered rfl rfl rfl (by decide +kernel) ⟨Nat.le_trans (by decide) hRf, Nat.le_trans (by decide) hRl⟩) (va_recv hK hP (ci := 5) (q0 := 8) rfl rfl) rfl hl.1 rfl (Nat.le_of_ble_eq_true rfl) dX5_relate_117 ⟨Nat.zero_le _, Nat.zero_le _⟩ (fun r3 S2 H locs h hP hD hS => ?_)
    refine lv_if_eq (tgt := 135) C.1 C.2.1 dX5_relate_120 (by decide) (fun c5 => ?_) (fun c5 => ?_)
    · have h := h.1 c5
      exact B135 k22 hk22 x1 x2 hx1 S2 H locs ls h hP hD hS (lv_sub hl [0, 1, 2] rfl)
    · have h := h.2 c5
      refine lv_aload_n C.1 C.2.1 dX5_relate_123 rfl (lv_at hl 1 rfl) ?_
      refine lv_dup C.1 C.2.1 dX5_relate_124 rfl ?_
      refine xg0_after hx1 C hinX0 hK hP (hN _ (by decide +kernel)) dX5_relate_125 ?_
      refine lv_iconst (v := 1) C.1 C.2.1 dX5_relate_128 (by decide) ?_
      refine lv_iload_n C.1 C.2.1 dX5_relate_129 rfl (lv_at hl 2 rfl) ?_
      refine lv_ishl C.1 C.2.1 dX5_relate_130 ?_
      refine lv_ior C.1 C.2.1 dX5_relate_131 ?_
      obtain ⟨S4, eS4⟩ : ∃ z : St, z = wr S2 43 x1 ((S2.1 43 x1) ||| ((1 : Int32) <<< (x2 &&& 31))) := ⟨_, rfl⟩
      have h := h S4 eS4
      refine xp0_after hx1 C hinX0 hK hP hD hS (hN _ (by decide +kernel)) dX5_relate_132 (fun H locs hP hD hS => ?_)
      rw [← eS4] at hP hD
      exact B135 k22 hk22 x1 x2 hx1 S4 H locs ls h hP hD hS (lv_sub hl [0, 1, 2] rfl)
  have B111 : ∀ (k22 : Nat → Int32 → St → Prop) (hk22 : ∀ (x1 : Nat) (x2 : Int32) (hx1 : x1 < 6) (S : St) (H : Heap) (locs : List Loc) (ls : Array Slot), k22 x1 x2 S → va_P g vwCl (wX ct ad n ro S) H → va_D A (wX ct ad n ro S) → va_S A s.heap H locs → lv_has ls 5 [(0, .ref (ad 8)), (1, .ref (ad (20 + x1))), (2, .int x2)] → W p l e R s m args below meth c H locs 0 0 QQ (F0 m 22 ls [])) (x1 : Nat) (x2 : Int32) (t0 : Nat) (t1 : Int32) (hx1 : x1 < 6) (ht0 : t0 < 6) (S : St) (H : Heap) (locs : List Loc) (ls : Array Slot), bX5_relate_111 k22 Q x1 x2 t0 t1 S → va_P g vwCl (wX ct ad n ro S) H → va_D A (wX ct ad n ro S) → va_S A s.heap H locs → lv_has ls 5 [(0, .ref (ad 8)), (1, .ref (ad (20 + x1))), (2, .int x2)] → W p l e R s m args below meth c H locs 0 0 QQ (F0 m 111 ls [.int t1, .ref (ad (20 + t0))]) := by
    intro k22 hk22 x1 x2 t0 t1 hx1 ht0 S H locs ls h hP hD hS hl
    obtain ⟨S6, eS6⟩ : ∃ z : St, z = wr S 41 t0 t1 := ⟨_, rfl⟩
    have h := h S6 eS6
    refine xp0_ownWrite ht0 C hinX0 hK hP hD hS (hN _ (by decide +kernel)) dX5_relate_111 (fun H locs hP hD hS => ?_)
    rw [← eS6] at hP hD
    exact B114 k22 hk22 x1 x2 hx1 S6 H locs ls h hP hD hS (lv_sub hl [0, 1, 2] rfl)
  have B94 : ∀ (k22 : Nat → Int32 → St → Prop) (hk22 : ∀ (x1 : Nat) (x2 : Int32) (hx1 : x1 < 6) (S : St) (H : Heap) (locs : List Loc) (ls : Array Slot), k22 x1 x2 S → va_P g vwCl (wX ct ad n ro S) H → va_D A (wX ct ad n ro S) → va_S A s.heap H locs → lv_has ls 5 [(0, .ref (ad 8)), (1, .ref (ad (20 + x1))), (2, .int x2)] → W p l e R s m args below meth c H locs 0 0 QQ (F0 m 22 ls [])) (x1 : Nat) (x2 : Int32) (x3 : Nat) (t0 : Nat) (t1 : Int32) (t2 : Int32) (hx1 : x1 < 6) (hx3 : x3 < 6) (ht0 : t0 < 6) (S : St) (H : Heap) (locs : List Loc) (ls : Array Slot), bX5_relate_94 k22 Q x1 x2 x3 t0 t1 t2 S → va_P g vwCl (wX ct ad n ro S) H → va_D A (wX ct ad n ro S) → va_S A s.heap H locs → lv_has ls 5 [(0, .ref (ad 8)), (1, .ref (ad (20 + x1))), (2, .int x2), (3, .ref (ad (20 + x3)))] → W p l e R s m args below meth c H locs 0 0 QQ (F0 m 94 ls [.int t2, .int t1, .ref (ad (20 + t0))]) := by
    intro k22 hk22 x1 x2 x3 t0 t1 t2 hx1 hx3 ht0 S H locs ls h hP hD hS hl
    refine lv_ior C.1 C.2.1 dX5_relate_94 ?_
    obtain ⟨S7, eS7⟩ : ∃ z : St, z = wr S 42 t0 (t1 ||| t2) := ⟨_, rfl⟩
    have h := h S7 eS7
    refine xp0_twins ht0 C hinX0 hK hP hD hS (hN _ (by decide +kernel)) dX5_relate_95 (fun H locs hP hD hS => ?_)
    rw [← eS7] at hP hD
    refine lv_aload_n C.1 C.2.1 dX5_relate_98 rfl (lv_at hl 1 rfl) ?_
    refine lv_aload_n C.1 C.2.1 dX5_relate_99 rfl (lv_at hl 3 rfl) ?_
    refine xg0_writes hx3 C hinX0 hK hP (hN _ (by decide +kernel)) dX5_relate_100 ?_
    refine lv_if_eq (tgt := 110) C.1 C.2.1 dX5_relate_103 (by decide) (fun c8 => ?_) (fun c8 => ?_)
    · have h := h.1 c8
      refine lv_iconst (v := -1) C.1 C.2.1 dX5_relate_110 (by decide) ?_
      exact B111 k22 hk22 x1 x2 x1 (-1 : Int32) hx1 hx1 S7 H locs ls h hP hD hS (lv_sub hl [0, 1, 2] rfl)
    · have h := h.2 c8
      refine lv_iload_n C.1 C.2.1 dX5_relate_106 rfl (lv_at hl 2 rfl) ?_
      refine lv_goto (tgt := 111) C.1 C.2.1 dX5_relate_107 (by decide) ?_
      exact B111 k22 hk22 x1 x2 x1 x2 hx1 hx1 S7 H locs ls h hP hD hS (lv_sub hl [0, 1, 2] rfl)
  have B93 : ∀ (k22 : Nat → Int32 → St → Prop) (hk22 : ∀ (x1 : Nat) (x2 : Int32) (hx1 : x1 < 6) (S : St) (H : Heap) (locs : List Loc) (ls : Array Slot), k22 x1 x2 S → va_P g vwCl (wX ct ad n ro S) H → va_D A (wX ct ad n ro S) → va_S A s.heap H locs → lv_has ls 5 [(0, .ref (ad 8)), (1, .ref (ad (20 + x1))), (2, .int x2)] → W p l e R s m args below meth c H locs 0 0 QQ (F0 m 22 ls [])) (x1 : Nat) (x2 : Int32) (x3 : Nat) (t0 : Nat) (t1 : Int32) (hx1 : x1 < 6) (hx3 : x3 < 6) (ht0 : t0 < 6) (S : St) (H : Heap) (locs : List Loc) (ls : Array Slot), bX5_relate_93 k22 Q x1 x2 x3 t0 t1 S → va_P g vwCl (wX ct ad n ro S) H → va_D A (wX ct ad n ro S) → va_S A s.heap H locs → lv_has ls 5 [(0, .ref (ad 8)), (1, .ref (ad (20 + x1))), (2, .int x2), (3, .ref (ad (20 + x3)))] → W p l e R s m args below meth c H locs 0 0 QQ (F0 m 93 ls [.int t1, .ref (ad (20 + t0))]) := by
    intro k22 hk22 x1 x2 x3 t0 t1 hx1 hx3 ht0 S H locs ls h hP hD hS hl
    refine lv_iconst (v := 0) C.1 C.2.1 dX5_relate_93 (by decide) ?_
    exact B94 k22 hk22 x1 x2 x3 t0 t1 (0 : Int32) hx1 hx3 ht0 S H locs ls h hP hD hS (lv_sub hl [0, 1, 2, 3] rfl)
  have B53 : ∀ (k22 : Nat → Int32 → St → Prop) (hk22 : ∀ (x1 : Nat) (x2 : Int32) (hx1 : x1 < 6) (S : St) (H : Heap) (locs : List Loc) (ls : Array Slot), k22 x1 x2 S → va_P g vwCl (wX ct ad n ro S) H → va_D A (wX ct ad n ro S) → va_S A s.heap H locs → lv_has ls 5 [(0, .ref (ad 8)), (1, .ref (ad (20 + x1))), (2, .int x2)] → W p l e R s m args below meth c H locs 0 0 QQ (F0 m 22 ls [])) (x1 : Nat) (x2 : Int32) (x3 : Nat) (t0 : Int32) (hx1 : x1 < 6) (hx3 : x3 < 6) (S : St) (H : Heap) (locs : List Loc) (ls : Array Slot), bX5_relate_53 k22 Q x1 x2 x3 t0 S → va_P g vwCl (wX ct ad n ro S) H → va_D A (wX ct ad n ro S) → va_S A s.heap H locs → lv_has ls 5 [(0, .ref (ad 8)), (1, .ref (ad (20 + x1))), (2, .int x2), (3, .ref (ad (20 + x3)))] → W p l e R s m args below meth c H locs 0 0 QQ (F0 m 53 ls [.int t0]) := by
    intro k22 hk22 x1 x2 x3 t0 hx1 hx3 S H locs ls h hP hD hS hl
    refine lv_istore (lv' := [(4, .int t0), (0, .ref (ad 8)), (1, .ref (ad (20 + x1))), (2, .int x2), (3, .ref (ad (20 + x3)))]) C.1 C.2.1 dX5_relate_53 hl (by decide) rfl (fun ls hl => ?_)
    refine lv_iload C.1 C.2.1 dX5_relate_55 (lv_at hl 0 rfl) ?_
    refine lv_if_eq (tgt := 114) C.1 C.2.1 dX5_relate_57 (by decide) (fun c12 => ?_) (fun c12 => ?_)
    · have h := h.1 c12
      exact B114 k22 hk22 x1 x2 hx1 S H locs ls h hP hD hS (lv_sub hl [1, 2, 3] rfl)
    · have h := h.2 c12
      refine lv_aload_n C.1 C.2.1 dX5_relate_60 rfl (lv_at hl 2 rfl) ?_
      refine xg0_ownWrite hx1 C hinX0 hK hP (hN _ (by decide +kernel)) dX5_relate_61 ?_
      refine lv_iconst (v := -1) C.1 C.2.1 dX5_relate_64 (by decide) ?_
      refine lv_icmp_ne (tgt := 114) C.1 C.2.1 dX5_relate_65 (by decide) (fun c11 => ?_) (fun c11 => ?_)
      · have h := h.1 c11
        exact B114 k22 hk22 x1 x2 hx1 S H locs ls h hP hD hS (lv_sub hl [1, 2, 3] rfl)
      · have h := h.2 c11
        refine lv_aload_n C.1 C.2.1 dX5_relate_68 rfl (lv_at hl 2 rfl) ?_
        refine lv_dup C.1 C.2.1 dX5_relate_69 rfl ?_
        refine xg0_twins hx1 C hinX0 hK hP (hN _ (by decide +kernel)) dX5_relate_70 ?_
        refine lv_aload_n C.1 C.2.1 dX5_relate_73 rfl (lv_at hl 2 rfl) ?_
        refine xg0_reads hx1 C hinX0 hK hP (hN _ (by decide +kernel)) dX5_relate_74 ?_
        refine lv_if_eq (tgt := 93) C.1 C.2.1 dX5_relate_77 (by decide) (fun c10 => ?_) (fun c10 => ?_)
        · have h := h.1 c10
          exact B93 k22 hk22 x1 x2 x3 x1 (S.1 42 x1) hx1 hx3 hx1 S H locs ls h hP hD hS (lv_sub hl [1, 2, 3, 4] rfl)
        · have h := h.2 c10
          refine lv_aload_n C.1 C.2.1 dX5_relate_80 rfl (lv_at hl 4 rfl) ?_
          refine xg0_reads hx3 C hinX0 hK hP (hN _ (by decide +kernel)) dX5_relate_81 ?_
          refine lv_if_eq (tgt := 93) C.1 C.2.1 dX5_relate_84 (by decide) (fun c9 => ?_) (fun c9 => ?_)
          · have h := h.1 c9
            exact B93 k22 hk22 x1 x2 x3 x1 (S.1 42 x1) hx1 hx3 hx1 S H locs ls h hP hD hS (lv_sub hl [1, 2, 3, 4] rfl)
          · have h := h.2 c9
            refine lv_iconst (v := 1) C.1 C.2.1 dX5_relate_87 (by decide) ?_
            refine lv_iload_n C.1 C.2.1 dX5_relate_88 rfl (lv_at hl 3 rfl) ?_
            refine lv_ishl C.1 C.2.1 dX5_relate_89 ?_
            refine lv_goto (tgt := 94) C.1 C.2.1 dX5_relate_90 (by decide) ?_
            exact B94 k22 hk22 x1 x2 x3 x1 (S.1 42 x1) ((1 : Int32) <<< (x2 &&& 31)) hx1 hx3 hx1 S H locs ls h hP hD hS (lv_sub hl [1, 2, 3, 4] rfl)
  have B22 : ∀ (k22 : Nat → Int32 → St → Prop) (hk22 : ∀ (x1 : Nat) (x2 : Int32) (hx1 : x1 < 6) (S : St) (H : Heap) (locs : List Loc) (ls : Array Slot), k22 x1 x2 S → va_P g vwCl (wX ct ad n ro S) H → va_D A (wX ct ad n ro S) → va_S A s.heap H locs → lv_has ls 5 [(0, .ref (ad 8)), (1, .ref (ad (20 + x1))), (2, .int x2)] → W p l e R s m args below meth c H locs 0 0 QQ (F0 m 22 ls [])) (x1 : Nat) (x2 : Int32) (hx1 : x1 < 6) (S : St) (H : Heap) (locs : List Loc) (ls : Array Slot), bX5_relate_22 k22 Q x1 x2 S → va_P g vwCl (wX ct ad n ro S) H → va_D A (wX ct ad n ro S) → va_S A s.heap H locs → lv_has ls 5 [(0, .ref (ad 8)), (1, .ref (ad (20 + x1))), (2, .int x2)] → W p l e R s m args below meth c H locs 0 0 QQ (F0 m 22 ls []) := by
    intro k22 hk22 x1 x2 hx1 S H locs ls h hP hD hS hl
    refine lv_iload_n C.1 C.2.1 dX5_relate_22 rfl (lv_at hl 2 rfl) ?_
    refine lv_aload_n C.1 C.2.1 dX5_relate_23 rfl (lv_at hl 0 rfl) ?_
    refine xg5_first C hinX5 hK hP (by decide +kernel) dX5_relate_24 ?_
    refine lv_icmp_lt (tgt := 141) C.1 C.2.1 dX5_relate_27 (by decide) (fun c16 => ?_) (fun c16 => ?_)
    · have h := h.1 c16
      exact hret _ _ _ _ _ dX5_relate_141 h hP hD hS
    · have h := h.2 c16
      refine lv_aload_n C.1 C.2.1 dX5_relate_30 rfl (lv_at hl 0 rfl) ?_
      refine xg5_accesses C hinX5 hK hP (by decide +kernel) dX5_relate_31 ?_
      refine lv_iload_n C.1 C.2.1 dX5_relate_34 rfl (lv_at hl 2 rfl) ?_
      obtain ⟨g14, h⟩ := h
      obtain ⟨i13, ei13⟩ : ∃ z : Nat, z = Int32.toNatClampNeg x2 := ⟨_, rfl⟩
      have h := h i13 ei13
      have hi13 : i13 < 6 := by rw [ei13]; exact lt_in g14
      refine xq_acc C hK hP g14 ei13 dX5_relate_35 ?_
      refine lv_astore_n (lv' := [(3, .ref (ad (20 + i13))), (0, .ref (ad 8)), (1, .ref (ad (20 + x1))), (2, .int x2)]) C.1 C.2.1 dX5_relate_36 rfl hl (by decide) rfl (fun ls hl => ?_)
      refine lv_aload_n C.1 C.2.1 dX5_relate_37 rfl (lv_at hl 0 rfl) ?_
      refine xg0_location hi13 C hinX0 hK hP (hN _ (by decide +kernel)) dX5_relate_38 ?_
      refine lv_aload_n C.1 C.2.1 dX5_relate_41 rfl (lv_at hl 2 rfl) ?_
      refine xg0_location hx1 C hinX0 hK hP (hN _ (by decide +kernel)) dX5_relate_42 ?_
      refine lv_icmp_ne (tgt := 52) C.1 C.2.1 dX5_relate_45 (by decide) (fun c15 => ?_) (fun c15 => ?_)
      · have h := h.1 c15
        refine lv_iconst (v := 0) C.1 C.2.1 dX5_relate_52 (by decide) ?_
        exact B53 k22 hk22 x1 x2 i13 (0 : Int32) hx1 hi13 S H locs ls h hP hD hS (lv_sub hl [1, 2, 3, 0] rfl)
      · have h := h.2 c15
        refine lv_iconst (v := 1) C.1 C.2.1 dX5_relate_48 (by decide) ?_
        refine lv_goto (tgt := 53) C.1 C.2.1 dX5_relate_49 (by decide) ?_
        exact B53 k22 hk22 x1 x2 i13 (1 : Int32) hx1 hi13 S H locs ls h hP hD hS (lv_sub hl [1, 2, 3, 0] rfl)
  have L22 : ∀ (N : Nat) (x1 : Nat) (x2 : Int32) (hx1 : x1 < 6) (S : St) (H : Heap) (locs : List Loc) (ls : Array Slot), itr (F := Nat → Int32 → St → Prop) (fun _ _ _ => False) (fun k22 x1 x2 S => bX5_relate_22 k22 Q x1 x2 S) N x1 x2 S → va_P g vwCl (wX ct ad n ro S) H → va_D A (wX ct ad n ro S) → va_S A s.heap H locs → lv_has ls 5 [(0, .ref (ad 8)), (1, .ref (ad (20 + x1))), (2, .int x2)] → W p l e R s m args below meth c H locs 0 0 QQ (F0 m 22 ls []) := by
    intro N
    induction N with
    | zero => intro x1 x2 hx1 S H locs ls h hP hD hS hl; exact False.elim h
    | succ N ih => intro x1 x2 hx1 S H locs ls h hP hD hS hl; exact B22  (itr (F := Nat → Int32 → St → Prop) (fun _ _ _ => False) (fun k22 x1 x2 S => bX5_relate_22 k22 Q x1 x2 S) N) ih x1 x2 hx1 S H locs ls h  hP hD hS hl
  refine lv_aload_n C.1 C.2.1 dX5_relate_0 rfl (lv_at hl 1 rfl) ?_
  refine lv_iconst (v := 0) C.1 C.2.1 dX5_relate_1 (by decide) ?_
  obtain ⟨S17, eS17⟩ : ∃ z : St, z = wr S 43 x1 (0 : Int32) := ⟨_, rfl⟩
  have h := h S17 eS17
  refine xp0_after hx1 C hinX0 hK hP hD hS (hN _ (by decide +kernel)) dX5_relate_2 (fun H locs hP hD hS => ?_)
  rw [← eS17] at hP hD
  refine lv_aload_n C.1 C.2.1 dX5_relate_5 rfl (lv_at hl 1 rfl) ?_
  refine lv_iconst (v := 0) C.1 C.2.1 dX5_relate_6 (by decide) ?_
  obtain ⟨S18, eS18⟩ : ∃ z : St, z = wr S17 42 x1 (0 : Int32) := ⟨_, rfl⟩
  have h := h S18 eS18
  refine xp0_twins hx1 C hinX0 hK hP hD hS (hN _ (by decide +kernel)) dX5_relate_7 (fun H locs hP hD hS => ?_)
  rw [← eS18] at hP hD
  refine lv_aload_n C.1 C.2.1 dX5_relate_10 rfl (lv_at hl 1 rfl) ?_
  refine lv_iconst (v := -1) C.1 C.2.1 dX5_relate_11 (by decide) ?_
  obtain ⟨S19, eS19⟩ : ∃ z : St, z = wr S18 41 x1 (-1 : Int32) := ⟨_, rfl⟩
  have h := h S19 eS19
  refine xp0_ownWrite hx1 C hinX0 hK hP hD hS (hN _ (by decide +kernel)) dX5_relate_12 (fun H locs hP hD hS => ?_)
  rw [← eS19] at hP hD
  refine lv_aload_n C.1 C.2.1 dX5_relate_15 rfl (lv_at hl 0 rfl) ?_
  refine xg5_size C hinX5 hK hP (by decide +kernel) dX5_relate_16 ?_
  refine lv_iconst (v := 1) C.1 C.2.1 dX5_relate_19 (by decide) ?_
  refine lv_isub C.1 C.2.1 dX5_relate_20 ?_
  refine lv_topi (fun y20 ey20 => ?_)
  have h := h y20 ey20
  refine lv_istore_n (lv' := [(2, .int y20), (0, .ref (ad 8)), (1, .ref (ad (20 + x1)))]) C.1 C.2.1 dX5_relate_21 rfl hl (by decide) rfl (fun ls hl => ?_)
  obtain ⟨N, h⟩ := h
  exact L22 N x1 y20 hx1 S19 H locs ls h hP hD hS (lv_sub hl [1, 2, 0] rfl)
theorem mX5_relate (l : Launch) (g : va_G) (ct : Nat → ClassId) (ad : Nat → Nat) (n ro sz : Nat) (S : St) (x1 : Nat) (hx1 : x1 < 6) (Q : St → Prop) (h : pX5_relate x1 S Q) : Met l yX5_relate wsX5_relate ({ frames := 1, cells := 0, slots := 0, locals := 32 }) (gPc g (xT ct) (wX ct ad n ro S) sz [.ref (ad 8), .ref (ad (20 + x1))]) (va_Qv Q (gB g (xT ct) (wX ct ad n ro) (va_A (wX ct ad n ro S) sz)) (va_A (wX ct ad n ro S) sz)) 0 0 (va_A (wX ct ad n ro S) sz) :=
  g_metV (w := wX ct ad n ro) (cc := cX5_relate) (maxL := 5) (by decide) rfl rfl (Nat.le_of_ble_eq_true rfl) rfl (fun p e s m args below meth c QQ A C hK hN hA hret H locs ls hP hD hS hl => kX5_relate C hK hN hA (Nat.le_refl _) (Nat.le_refl _) Q hret x1 hx1 S h H locs ls hP hD hS hl)

def bX5_makeAccess_296 (Q : St → Prop) (S : St) : Prop :=
  Q S
def bX5_makeAccess_275 (Q : St → Prop) (x1 : Nat) (x2 : Int32) (x4 : Int32) (x5 : Nat) (S : St) : Prop :=
  ((x2 = (1 : Int32) → bX5_makeAccess_296 Q  S) ∧ (¬ (x2 = (1 : Int32)) → pX5_setRegister (S.2.1 x1 1) (S.1 36 x5) ((1 : Int32) <<< (x4 &&& 31)) S (fun (S1 : St) => bX5_makeAccess_296 Q  S1)))
def bX5_makeAccess_231 (Q : St → Prop) (x1 : Nat) (x2 : Int32) (x4 : Int32) (x5 : Nat) (t0 : Nat) (t1 : Int32) (S : St) : Prop :=
  (∀ S3 : St, S3 = wr S 37 t0 t1 → pX5_relate x5 S3 (fun (S4 : St) => (∀ S5 : St, S5 = wr S4 7 0 ((S4.1 7 0) + (1 : Int32)) → (∀ S6 : St, S6 = wr S5 13 0 ((S5.1 13 0) ||| (S5.1 38 x5)) → ((¬ x2 = (4 : Int32) → bX5_makeAccess_275 Q x1 x2 x4 x5 S6) ∧ (x2 = (4 : Int32) → (∀ S7 : St, S7 = wr S6 11 0 x4 → bX5_makeAccess_275 Q x1 x2 x4 x5 S7)))))))
def bX5_makeAccess_203 (Q : St → Prop) (x1 : Nat) (x2 : Int32) (x3 : Int32) (x4 : Int32) (x5 : Nat) (t0 : Nat) (t1 : Int32) (S : St) : Prop :=
  (∀ S9 : St, S9 = wr S 36 t0 t1 → (((S9.1 35 x5) = 0 → bX5_makeAccess_231 Q x1 x2 x4 x5 x5 (0 : Int32) S9) ∧ (¬ ((S9.1 35 x5) = 0) → (vp_in (x3 - (1 : Int32)) 6 ∧ pX5_written (S9.2.1 x1 (Int32.toNatClampNeg (x3 - (1 : Int32)))) x5 S9 (fun (r12 : Int32) (S11 : St) => bX5_makeAccess_231 Q x1 x2 x4 x5 x5 r12 S11)))))
def bX5_makeAccess_178 (Q : St → Prop) (x1 : Nat) (x2 : Int32) (x3 : Int32) (x4 : Int32) (x5 : Nat) (t0 : Nat) (t1 : Int32) (S : St) : Prop :=
  (∀ S14 : St, S14 = wr S 40 t0 t1 → (((S14.1 34 x5) = 0 → bX5_makeAccess_203 Q x1 x2 x3 x4 x5 x5 (0 : Int32) S14) ∧ (¬ ((S14.1 34 x5) = 0) → pX1_choose (4 : Int32) S14 (fun (r16 : Int32) (S15 : St) => bX5_makeAccess_203 Q x1 x2 x3 x4 x5 x5 r16 S15))))
def bX5_makeAccess_160 (Q : St → Prop) (x1 : Nat) (x2 : Int32) (x3 : Int32) (x4 : Int32) (x5 : Nat) (t0 : Nat) (t1 : Int32) (S : St) : Prop :=
  (∀ S18 : St, S18 = wr S 39 t0 t1 → ((¬ x2 = (5 : Int32) → bX5_makeAccess_178 Q x1 x2 x3 x4 x5 x5 (-1 : Int32) S18) ∧ (x2 = (5 : Int32) → bX5_makeAccess_178 Q x1 x2 x3 x4 x5 x5 (S18.1 11 0) S18)))
def bX5_makeAccess_134 (Q : St → Prop) (x1 : Nat) (x2 : Int32) (x3 : Int32) (x4 : Int32) (x5 : Nat) (t0 : Nat) (t1 : Int32) (S : St) : Prop :=
  (∀ S20 : St, S20 = wr S 38 t0 t1 → (((S20.1 35 x5) = 0 → bX5_makeAccess_160 Q x1 x2 x3 x4 x5 x5 (0 : Int32) S20) ∧ (¬ ((S20.1 35 x5) = 0) → (vp_in (x3 - (1 : Int32)) 6 ∧ pX5_carriedBy (S20.2.1 x1 (Int32.toNatClampNeg (x3 - (1 : Int32)))) S20 (fun (r23 : Int32) (S22 : St) => bX5_makeAccess_160 Q x1 x2 x3 x4 x5 x5 r23 S22)))))
def bX5_makeAccess_34 (Q : St → Prop) (x1 : Nat) (x2 : Int32) (t0 : Int32) (S : St) : Prop :=
  (∀ y25 : Int32, y25 = (S.1 7 0) → (vp_in y25 6 ∧ ∀ i26 : Nat, i26 = Int32.toNatClampNeg y25 → (∀ S28 : St, S28 = wr S 30 i26 (S.1 9 0) → (∀ S29 : St, S29 = wr S28 31 i26 x2 → (vp_in t0 6 ∧ (vp_in (t0 + (1 : Int32)) 6 ∧ pX5_place (S29.2.1 x1 (Int32.toNatClampNeg t0)) (S29.2.1 x1 (Int32.toNatClampNeg (t0 + (1 : Int32)))) S29 (fun (r33 : Int32) (S32 : St) => (∀ S34 : St, S34 = wr S32 32 i26 r33 → (vp_in (t0 + (2 : Int32)) 6 ∧ (∀ S36 : St, S36 = wr S34 33 i26 (S34.2.1 x1 (Int32.toNatClampNeg (t0 + (2 : Int32)))) → pX6_isReader x2 (fun (r37 : Int32) => (zb r37 ∧ ∀ S38 : St, S38 = wr S36 34 i26 r37 → pX6_isWriter x2 (fun (r39 : Int32) => (zb r39 ∧ ∀ S40 : St, S40 = wr S38 35 i26 r39 → (vp_in (t0 + (1 : Int32)) 6 ∧ ((¬ (S40.2.1 x1 (Int32.toNatClampNeg (t0 + (1 : Int32)))) = (-1 : Int32) → (vp_in (t0 + (1 : Int32)) 6 ∧ pX5_carriedBy (S40.2.1 x1 (Int32.toNatClampNeg (t0 + (1 : Int32)))) S40 (fun (r44 : Int32) (S43 : St) => bX5_makeAccess_134 Q x1 x2 t0 y25 i26 i26 r44 S43))) ∧ ((S40.2.1 x1 (Int32.toNatClampNeg (t0 + (1 : Int32)))) = (-1 : Int32) → bX5_makeAccess_134 Q x1 x2 t0 y25 i26 i26 (0 : Int32) S40)))))))))))))))))
def bX5_makeAccess_29 (Q : St → Prop) (x1 : Nat) (x2 : Int32) (S : St) : Prop :=
  bX5_makeAccess_34 Q x1 x2 (3 : Int32) S
def pX5_makeAccess (x1 : Nat) (S : St) (Q : St → Prop) : Prop :=
  (((S.1 7 0) < (6 : Int32) → (∀ y46 : Int32, y46 = (S.2.1 x1 0) → ((y46 = (2 : Int32) → bX5_makeAccess_29 Q x1 y46 S) ∧ (¬ (y46 = (2 : Int32)) → ((y46 = (3 : Int32) → bX5_makeAccess_29 Q x1 y46 S) ∧ (¬ (y46 = (3 : Int32)) → ((¬ y46 = (5 : Int32) → bX5_makeAccess_34 Q x1 y46 (2 : Int32) S) ∧ (y46 = (5 : Int32) → bX5_makeAccess_29 Q x1 y46 S)))))))) ∧ (¬ ((S.1 7 0) < (6 : Int32)) → Q S))
set_option maxHeartbeats 40000000 in
set_option maxRecDepth 100000 in
theorem kX5_makeAccess {p : Program} {l : Launch} {e : Env} {R : Room} {s : State} {m : MethodId} {args : Array Value} {below : List Frame} {meth : Method} {c : Code} {QQ : State → Prop} {g : va_G} {ct : Nat → ClassId} {ad : Nat → Nat} {n ro : Nat} {A : Nat → Prop} (C : CallFix p m c cX5_makeAccess 6 s args wsX5_makeAccess RX5) (hK : va_K g vwCl (xT ct) s) (hN : xN s) (hA : ∀ q, s.heap.size ≤ q → A q) (hRf : 2 ≤ R.frames) (hRl : 56 ≤ R.locals) (Q : St → Prop) (hret : ∀ (pc : Nat) (S : St) (H : Heap) (locs : List Loc) (ls : Array Slot), decode cX5_makeAccess pc = .ok (.return_, 1) → Q S → va_P g vwCl (wX ct ad n ro S) H → va_D A (wX ct ad n ro S) → va_S A s.heap H locs → W p l e R s m args below meth c H locs 0 0 QQ (F0 m pc ls [])) (x1 : Nat) (hx1 : x1 < 24) (S : St) (h : pX5_makeAccess x1 S Q) (H : Heap) (locs : List Loc) (ls : Array Slot) (hP : va_P g vwCl (wX ct ad n ro S) H) (hD : va_D A (wX ct ad n ro S)) (hS : va_S A s.heap H locs) (hl : lv_has ls 6 [(0, .ref (ad 8)), (1, .ref (ad (30 + x1)))]) : W p l e R s m args below meth c H locs 0 0 QQ (F0 m 0 ls []) := by
  have hinX0 : ∀ w ∈ wsX00, w ∈ wsX5_makeAccess := by decide +kernel
  have hinX5 : ∀ w ∈ wsX50, w ∈ wsX5_makeAccess := by decide +kernel
  have B296 : ∀ (S : St) (H : Heap) (locs : List Loc) (ls : Array Slot), bX5_makeAccess_296 Q S → va_P g vwCl (wX ct ad n ro S) H → va_D A (wX ct ad n ro S) → va_S A s.heap H locs → lv_has ls 6 [(0, .ref (ad 8))] → W p l e R s m args below meth c H locs 0 0 QQ (F0 m 296 ls []) := by
    intro S H locs ls h hP hD hS hl
    exact hret _ _ _ _ _ dX5_makeAccess_296 h hP hD hS
  have B275 : ∀ (x1 : Nat) (x2 : Int32) (x4 : Int32) (x5 : Nat) (hx1 : x1 < 24) (hx5 : x5 < 6) (S : St) (H : Heap) (locs : List Loc) (ls : Array Slot), bX5_makeAccess_275 Q x1 x2 x4 x5 S → va_P g vwCl (wX ct ad n ro S) H → va_D A (wX ct ad n ro S) → va_S A s.heap H locs → lv_has ls 6 [(0, .ref (ad 8)), (1, .ref (ad (30 + x1))), (2, .int x2), (4, .int x4), (5, .ref (ad (20 + x5)))] → W p l e R s m args below meth c H locs 0 0 QQ (F0 m 275 ls []) := by
    intro x1 x2 x4 x5 hx1 hx5 S H locs ls h hP hD hS hl
    refine lv_iload_n C.1 C.2.1 dX5_makeAccess_275 rfl (lv_at hl 2 rfl) ?_
    refine lv_iconst (v := 1) C.1 C.2.1 dX5_makeAccess_276 (by decide) ?_
    refine lv_icmp_eq (tgt := 296) C.1 C.2.1 dX5_makeAccess_277 (by decide) (fun c2 => ?_) (fun c2 => ?_)
    · have h := h.1 c2
      exact B296  S H locs ls h hP hD hS (lv_sub hl [0] rfl)
    · have h := h.2 c2
      refine lv_aload_n C.1 C.2.1 dX5_makeAccess_280 rfl (lv_at hl 0 rfl) ?_
      refine lv_aload_n C.1 C.2.1 dX5_makeAccess_281 rfl (lv_at hl 1 rfl) ?_
      refine lv_iconst (v := 1) C.1 C.2.1 dX5_makeAccess_282 (by decide) ?_
      refine xa_row hx1 C hK hP (j := 1) (by unfold vp_in; decide) (by decide) dX5_makeAccess_283 ?_
      refine lv_aload C.1 C.2.1 dX5_makeAccess_284 (lv_at hl 4 rfl) ?_
      refine xg0_got hx5 C hinX0 hK hP (hN _ (by decide +kernel)) dX5_makeAccess_286 ?_
      refine lv_iconst (v := 1) C.1 C.2.1 dX5_makeAccess_289 (by decide) ?_
      refine lv_iload C.1 C.2.1 dX5_makeAccess_290 (lv_at hl 3 rfl) ?_
      refine lv_ishl C.1 C.2.1 dX5_makeAccess_292 ?_
      refine g_callVv (w := wX ct ad n ro) C hK hN hA hP hD hS (mX5_setRegister l g ct ad n ro H.size S (S.2.1 x1 1) (S.1 36 x5) ((1 : Int32) <<< (x4 &&& 31))  _ h) (cwV 3 C.2.2.2.2 gX5_makeAccess_X5_setRegister rfl rfl rfl (by decide +kernel) ⟨Nat.le_trans (by decide) hRf, Nat.le_trans (by decide) hRl⟩) (va_recv hK hP (ci := 5) (q0 := 8) rfl rfl) rfl hl.1 rfl (Nat.le_of_ble_eq_true rfl) dX5_makeAccess_293 ⟨Nat.zero_le _, Nat.zero_le _⟩ (fun S1 H locs h hP hD hS => ?_)
      exact B296  S1 H locs ls h hP hD hS (lv_sub hl [0] rfl)
  have B231 : ∀ (x1 : Nat) (x2 : Int32) (x4 : Int32) (x5 : Nat) (t0 : Nat) (t1 : Int32) (hx1 : x1 < 24) (hx5 : x5 < 6) (ht0 : t0 < 6) (S : St) (H : Heap) (locs : List Loc) (ls : Array Slot), bX5_makeAccess_231 Q x1 x2 x4 x5 t0 t1 S → va_P g vwCl (wX ct ad n ro S) H → va_D A (wX ct ad n ro S) → va_S A s.heap H locs → lv_has ls 6 [(0, .ref (ad 8)), (1, .ref (ad (30 + x1))), (2, .int x2), (4, .int x4), (5, .ref (ad (20 + x5)))] → W p l e R s m args below meth c H locs 0 0 QQ (F0 m 231 ls [.int t1, .ref (ad (20 + t0))]) := by
    intro x1 x2 x4 x5 t0 t1 hx1 hx5 ht0 S H locs ls h hP hD hS hl
    obtain ⟨S3, eS3⟩ : ∃ z : St, z = wr S 37 t0 t1 := ⟨_, rfl⟩
    have h := h S3 eS3
    refine xp0_put ht0 C hinX0 hK hP hD hS (hN _ (by decide +kernel)) dX5_makeAccess_231 (fun H locs hP hD hS => ?_)
    rw [← eS3] at hP hD
    refine lv_aload_n C.1 C.2.1 dX5_makeAccess_234 rfl (lv_at hl 0 rfl) ?_
    refine lv_aload C.1 C.2.1 dX5_makeAccess_235 (lv_at hl 4 rfl) ?_
    refine g_callVv (w := wX ct ad n ro) C hK hN hA hP hD hS (mX5_relate l g ct ad n ro H.size S3 x5 hx5 _ h) (cwV 1 C.2.2.2.2 gX5_makeAccess_X5_relate rfl rfl rfl (by decide +kernel) ⟨Nat.le_trans (by decide) hRf, Nat.le_trans (by decide) hRl⟩) (va_recv hK hP (ci := 5) (q0 := 8) rfl rfl) rfl hl.1 rfl (Nat.le_of_ble_eq_true rfl) dX5_makeAccess_237 ⟨Nat.zero_le _, Nat.zero_le _⟩ (fun S4 H locs h hP hD hS => ?_)
    refine lv_aload_n C.1 C.2.1 dX5_makeAccess_240 rfl (lv_at hl 0 rfl) ?_
    refine lv_dup C.1 C.2.1 dX5_makeAccess_241 rfl ?_
    refine xg5_size C hinX5 hK hP (by decide +kernel) dX5_makeAccess_242 ?_
    refine lv_iconst (v := 1) C.1 C.2.1 dX5_makeAccess_245 (by decide) ?_
    refine lv_iadd C.1 C.2.1 dX5_makeAccess_246 ?_
    obtain ⟨S5, eS5⟩ : ∃ z : St, z = wr S4 7 0 ((S4.1 7 0) + (1 : Int32)) := ⟨_, rfl⟩
    have h := h S5 eS5
    refine xp5_size C hinX5 hK hP hD hS (by decide +kernel) dX5_makeAccess_247 (fun H locs hP hD hS => ?_)
    rw [← eS5] at hP hD
    refine lv_aload_n C.1 C.2.1 dX5_makeAccess_250 rfl (lv_at hl 0 rfl) ?_
    refine lv_dup C.1 C.2.1 dX5_makeAccess_251 rfl ?_
    refine xg5_neededForPlaces C hinX5 hK hP (by decide +kernel) dX5_makeAccess_252 ?_
    refine lv_aload C.1 C.2.1 dX5_makeAccess_255 (lv_at hl 4 rfl) ?_
    refine xg0_byPlace hx5 C hinX0 hK hP (hN _ (by decide +kernel)) dX5_makeAccess_257 ?_
    refine lv_ior C.1 C.2.1 dX5_makeAccess_260 ?_
    obtain ⟨S6, eS6⟩ : ∃ z : St, z = wr S5 13 0 ((S5.1 13 0) ||| (S5.1 38 x5)) := ⟨_, rfl⟩
    have h := h S6 eS6
    refine xp5_neededForPlaces C hinX5 hK hP hD hS (by decide +kernel) dX5_makeAccess_261 (fun H locs hP hD hS => ?_)
    rw [← eS6] at hP hD
    refine lv_iload_n C.1 C.2.1 dX5_makeAccess_264 rfl (lv_at hl 2 rfl) ?_
    refine lv_iconst (v := 4) C.1 C.2.1 dX5_makeAccess_265 (by decide) ?_
    refine lv_icmp_ne (tgt := 275) C.1 C.2.1 dX5_makeAccess_266 (by decide) (fun c8 => ?_) (fun c8 => ?_)
    · have h := h.1 c8
      exact B275 x1 x2 x4 x5 hx1 hx5 S6 H locs ls h hP hD hS (lv_sub hl [0, 1, 2, 3, 4] rfl)
    · have h := h.2 c8
      refine lv_aload_n C.1 C.2.1 dX5_makeAccess_269 rfl (lv_at hl 0 rfl) ?_
      refine lv_iload C.1 C.2.1 dX5_makeAccess_270 (lv_at hl 3 rfl) ?_
      obtain ⟨S7, eS7⟩ : ∃ z : St, z = wr S6 11 0 x4 := ⟨_, rfl⟩
      have h := h S7 eS7
      refine xp5_reserve C hinX5 hK hP hD hS (by decide +kernel) dX5_makeAccess_272 (fun H locs hP hD hS => ?_)
      rw [← eS7] at hP hD
      exact B275 x1 x2 x4 x5 hx1 hx5 S7 H locs ls h hP hD hS (lv_sub hl [0, 1, 2, 3, 4] rfl)
  have B203 : ∀ (x1 : Nat) (x2 : Int32) (x3 : Int32) (x4 : Int32) (x5 : Nat) (t0 : Nat) (t1 : Int32) (hx1 : x1 < 24) (hx5 : x5 < 6) (ht0 : t0 < 6) (S : St) (H : Heap) (locs : List Loc) (ls : Array Slot), bX5_makeAccess_203 Q x1 x2 x3 x4 x5 t0 t1 S → va_P g vwCl (wX ct ad n ro S) H → va_D A (wX ct ad n ro S) → va_S A s.heap H locs → lv_has ls 6 [(0, .ref (ad 8)), (1, .ref (ad (30 + x1))), (2, .int x2), (3, .int x3), (4, .int x4), (5, .ref (ad (20 + x5)))] → W p l e R s m args below meth c H locs 0 0 QQ (F0 m 203 ls [.int t1, .ref (ad (20 + t0))]) := by
    intro x1 x2 x3 x4 x5 t0 t1 hx1 hx5 ht0 S H locs ls h hP hD hS hl
    obtain ⟨S9, eS9⟩ : ∃ z : St, z = wr S 36 t0 t1 := ⟨_, rfl⟩
    have h := h S9 eS9
    refine xp0_got ht0 C hinX0 hK hP hD hS (hN _ (by decide +kernel)) dX5_makeAccess_203 (fun H locs hP hD hS => ?_)
    rw [← eS9] at hP hD
    refine lv_aload C.1 C.2.1 dX5_makeAccess_206 (lv_at hl 5 rfl) ?_
    refine lv_aload C.1 C.2.1 dX5_makeAccess_208 (lv_at hl 5 rfl) ?_
    refine xg0_writes hx5 C hinX0 hK hP (hN _ (by decide +kernel)) dX5_makeAccess_210 ?_
    refine lv_if_eq (tgt := 230) C.1 C.2.1 dX5_makeAccess_213 (by decide) (fun c13 => ?_) (fun c13 => ?_)
    · have h := h.1 c13
      refine lv_iconst (v := 0) C.1 C.2.1 dX5_makeAccess_230 (by decide) ?_
      exact B231 x1 x2 x4 x5 x5 (0 : Int32) hx1 hx5 hx5 S9 H locs ls h hP hD hS (lv_sub hl [0, 1, 2, 4, 5] rfl)
    · have h := h.2 c13
      refine lv_aload_n C.1 C.2.1 dX5_makeAccess_216 rfl (lv_at hl 0 rfl) ?_
      refine lv_aload_n C.1 C.2.1 dX5_makeAccess_217 rfl (lv_at hl 1 rfl) ?_
      refine lv_iload_n C.1 C.2.1 dX5_makeAccess_218 rfl (lv_at hl 3 rfl) ?_
      refine lv_iconst (v := 1) C.1 C.2.1 dX5_makeAccess_219 (by decide) ?_
      refine lv_isub C.1 C.2.1 dX5_makeAccess_220 ?_
      obtain ⟨g10, h⟩ := h
      refine xa_row hx1 C hK hP g10  rfl dX5_makeAccess_221 ?_
      refine lv_aload C.1 C.2.1 dX5_makeAccess_222 (lv_at hl 5 rfl) ?_
      refine g_callVi (w := wX ct ad n ro) C hK hN hA hP hD hS (mX5_written l g ct ad n ro H.size S9 (S9.2.1 x1 (Int32.toNatClampNeg (x3 - (1 : Int32)))) x5 hx5 _ h) (cwV 2 C.2.2.2.2 gX5_makeAccess_X5_written rfl rfl rfl (by decide +kernel) ⟨Nat.le_trans (by decide) hRf, Nat.le_trans (by decide) hRl⟩) (va_recv hK hP (ci := 5) (q0 := 8) rfl rfl) rfl hl.1 rfl (Nat.le_of_ble_eq_true rfl) dX5_makeAccess_224 ⟨Nat.zero_le _, Nat.zero_le _⟩ (fun r12 S11 H locs h hP hD hS => ?_)
      refine lv_goto (tgt := 231) C.1 C.2.1 dX5_makeAccess_227 (by decide) ?_
      exact B231 x1 x2 x4 x5 x5 r12 hx1 hx5 hx5 S11 H locs ls h hP hD hS (lv_sub hl [0, 1, 2, 4, 5] rfl)
  have B178 : ∀ (x1 : Nat) (x2 : Int32) (x3 : Int32) (x4 : Int32) (x5 : Nat) (t0 : Nat) (t1 : Int32) (hx1 : x1 < 24) (hx5 : x5 < 6) (ht0 : t0 < 6) (S : St) (H : Heap) (locs : List Loc) (ls : Array Slot), bX5_makeAccess_178 Q x1 x2 x3 x4 x5 t0 t1 S → va_P g vwCl (wX ct ad n ro S) H → va_D A (wX ct ad n ro S) → va_S A s.heap H locs → lv_has ls 6 [(0, .ref (ad 8)), (1, .ref (ad (30 + x1))), (2, .int x2), (3, .int x3), (4, .int x4), (5, .ref (ad (20 + x5)))] → W p l e R s m args below meth c H locs 0 0 QQ (F0 m 178 ls [.int t1, .ref (ad (20 + t0))]) := by
    intro x1 x2 x3 x4 x5 t0 t1 hx1 hx5 ht0 S H locs ls h hP hD hS hl
    obtain ⟨S14, eS14⟩ : ∃ z : St, z = wr S 40 t0 t1 := ⟨_, rfl⟩
    have h := h S14 eS14
    refine xp0_reserve ht0 C hinX0 hK hP hD hS (hN _ (by decide +kernel)) dX5_makeAccess_178 (fun H locs hP hD hS => ?_)
    rw [← eS14] at hP hD
    refine lv_aload C.1 C.2.1 dX5_makeAccess_181 (lv_at hl 5 rfl) ?_
    refine lv_aload C.1 C.2.1 dX5_makeAccess_183 (lv_at hl 5 rfl) ?_
    refine xg0_reads hx5 C hinX0 hK hP (hN _ (by decide +kernel)) dX5_makeAccess_185 ?_
    refine lv_if_eq (tgt := 202) C.1 C.2.1 dX5_makeAccess_188 (by decide) (fun c17 => ?_) (fun c17 => ?_)
    · have h := h.1 c17
      refine lv_iconst (v := 0) C.1 C.2.1 dX5_makeAccess_202 (by decide) ?_
      exact B203 x1 x2 x3 x4 x5 x5 (0 : Int32) hx1 hx5 hx5 S14 H locs ls h hP hD hS (lv_sub hl [0, 1, 2, 3, 4, 5] rfl)
    · have h := h.2 c17
      refine lv_aload_n C.1 C.2.1 dX5_makeAccess_191 rfl (lv_at hl 0 rfl) ?_
      refine xg5_choices C hinX5 hK hP (by decide +kernel) dX5_makeAccess_192 ?_
      refine lv_iconst (v := 4) C.1 C.2.1 dX5_makeAccess_195 (by decide) ?_
      refine g_callVi (w := wX ct ad n ro) C hK hN hA hP hD hS (mX1_choose l g ct ad n ro H.size S14 (4 : Int32)  _ h) (cwV 1 C.2.2.2.2 gX5_makeAccess_X1_choose rfl rfl rfl (by decide +kernel) ⟨Nat.le_trans (by decide) hRf, Nat.le_trans (by decide) hRl⟩) (va_recv hK hP (ci := 1) (q0 := 5) rfl rfl) rfl hl.1 rfl (Nat.le_of_ble_eq_true rfl) dX5_makeAccess_196 ⟨Nat.zero_le _, Nat.zero_le _⟩ (fun r16 S15 H locs h hP hD hS => ?_)
      refine lv_goto (tgt := 203) C.1 C.2.1 dX5_makeAccess_199 (by decide) ?_
      exact B203 x1 x2 x3 x4 x5 x5 r16 hx1 hx5 hx5 S15 H locs ls h hP hD hS (lv_sub hl [0, 1, 2, 3, 4, 5] rfl)
  have B160 : ∀ (x1 : Nat) (x2 : Int32) (x3 : Int32) (x4 : Int32) (x5 : Nat) (t0 : Nat) (t1 : Int32) (hx1 : x1 < 24) (hx5 : x5 < 6) (ht0 : t0 < 6) (S : St) (H : Heap) (locs : List Loc) (ls : Array Slot), bX5_makeAccess_160 Q x1 x2 x3 x4 x5 t0 t1 S → va_P g vwCl (wX ct ad n ro S) H → va_D A (wX ct ad n ro S) → va_S A s.heap H locs → lv_has ls 6 [(0, .ref (ad 8)), (1, .ref (ad (30 + x1))), (2, .int x2), (3, .int x3), (4, .int x4), (5, .ref (ad (20 + x5)))] → W p l e R s m args below meth c H locs 0 0 QQ (F0 m 160 ls [.int t1, .ref (ad (20 + t0))]) := by
    intro x1 x2 x3 x4 x5 t0 t1 hx1 hx5 ht0 S H locs ls h hP hD hS hl
    obtain ⟨S18, eS18⟩ : ∃ z : St, z = wr S 39 t0 t1 := ⟨_, rfl⟩
    have h := h S18 eS18
    refine xp0_byValue ht0 C hinX0 hK hP hD hS (hN _ (by decide +kernel)) dX5_makeAccess_160 (fun H locs hP hD hS => ?_)
    rw [← eS18] at hP hD
    refine lv_aload C.1 C.2.1 dX5_makeAccess_163 (lv_at hl 5 rfl) ?_
    refine lv_iload_n C.1 C.2.1 dX5_makeAccess_165 rfl (lv_at hl 2 rfl) ?_
    refine lv_iconst (v := 5) C.1 C.2.1 dX5_makeAccess_166 (by decide) ?_
    refine lv_icmp_ne (tgt := 177) C.1 C.2.1 dX5_makeAccess_167 (by decide) (fun c19 => ?_) (fun c19 => ?_)
    · have h := h.1 c19
      refine lv_iconst (v := -1) C.1 C.2.1 dX5_makeAccess_177 (by decide) ?_
      exact B178 x1 x2 x3 x4 x5 x5 (-1 : Int32) hx1 hx5 hx5 S18 H locs ls h hP hD hS (lv_sub hl [0, 1, 2, 3, 4, 5] rfl)
    · have h := h.2 c19
      refine lv_aload_n C.1 C.2.1 dX5_makeAccess_170 rfl (lv_at hl 0 rfl) ?_
      refine xg5_reserve C hinX5 hK hP (by decide +kernel) dX5_makeAccess_171 ?_
      refine lv_goto (tgt := 178) C.1 C.2.1 dX5_makeAccess_174 (by decide) ?_
      exact B178 x1 x2 x3 x4 x5 x5 (S18.1 11 0) hx1 hx5 hx5 S18 H locs ls h hP hD hS (lv_sub hl [0, 1, 2, 3, 4, 5] rfl)
  have B134 : ∀ (x1 : Nat) (x2 : Int32) (x3 : Int32) (x4 : Int32) (x5 : Nat) (t0 : Nat) (t1 : Int32) (hx1 : x1 < 24) (hx5 : x5 < 6) (ht0 : t0 < 6) (S : St) (H : Heap) (locs : List Loc) (ls : Array Slot), bX5_makeAccess_134 Q x1 x2 x3 x4 x5 t0 t1 S → va_P g vwCl (wX ct ad n ro S) H → va_D A (wX ct ad n ro S) → va_S A s.heap H locs → lv_has ls 6 [(0, .ref (ad 8)), (1, .ref (ad (30 + x1))), (2, .int x2), (3, .int x3), (4, .int x4), (5, .ref (ad (20 + x5)))] → W p l e R s m args below meth c H locs 0 0 QQ (F0 m 134 ls [.int t1, .ref (ad (20 + t0))]) := by
    intro x1 x2 x3 x4 x5 t0 t1 hx1 hx5 ht0 S H locs ls h hP hD hS hl
    obtain ⟨S20, eS20⟩ : ∃ z : St, z = wr S 38 t0 t1 := ⟨_, rfl⟩
    have h := h S20 eS20
    refine xp0_byPlace ht0 C hinX0 hK hP hD hS (hN _ (by decide +kernel)) dX5_makeAccess_134 (fun H locs hP hD hS => ?_)
    rw [← eS20] at hP hD
    refine lv_aload C.1 C.2.1 dX5_makeAccess_137 (lv_at hl 5 rfl) ?_
    refine lv_aload C.1 C.2.1 dX5_makeAccess_139 (lv_at hl 5 rfl) ?_
    refine xg0_writes hx5 C hinX0 hK hP (hN _ (by decide +kernel)) dX5_makeAccess_141 ?_
    refine lv_if_eq (tgt := 159) C.1 C.2.1 dX5_makeAccess_144 (by decide) (fun c24 => ?_) (fun c24 => ?_)
    · have h := h.1 c24
      refine lv_iconst (v := 0) C.1 C.2.1 dX5_makeAccess_159 (by decide) ?_
      exact B160 x1 x2 x3 x4 x5 x5 (0 : Int32) hx1 hx5 hx5 S20 H locs ls h hP hD hS (lv_sub hl [0, 1, 2, 3, 4, 5] rfl)
    · have h := h.2 c24
      refine lv_aload_n C.1 C.2.1 dX5_makeAccess_147 rfl (lv_at hl 0 rfl) ?_
      refine lv_aload_n C.1 C.2.1 dX5_makeAccess_148 rfl (lv_at hl 1 rfl) ?_
      refine lv_iload_n C.1 C.2.1 dX5_makeAccess_149 rfl (lv_at hl 3 rfl) ?_
      refine lv_iconst (v := 1) C.1 C.2.1 dX5_makeAccess_150 (by decide) ?_
      refine lv_isub C.1 C.2.1 dX5_makeAccess_151 ?_
      obtain ⟨g21, h⟩ := h
      refine xa_row hx1 C hK hP g21  rfl dX5_makeAccess_152 ?_
      refine g_callVi (w := wX ct ad n ro) C hK hN hA hP hD hS (mX5_carriedBy l g ct ad n ro H.size S20 (S20.2.1 x1 (Int32.toNatClampNeg (x3 - (1 : Int32))))  _ h) (cwV 1 C.2.2.2.2 gX5_makeAccess_X5_carriedBy rfl rfl rfl (by decide +kernel) ⟨Nat.le_trans (by decide) hRf, Nat.le_trans (by decide) hRl⟩) (va_recv hK hP (ci := 5) (q0 := 8) rfl rfl) rfl hl.1 rfl (Nat.le_of_ble_eq_true rfl) dX5_makeAccess_153 ⟨Nat.zero_le _, Nat.zero_le _⟩ (fun r23 S22 H locs h hP hD hS => ?_)
      refine lv_goto (tgt := 160) C.1 C.2.1 dX5_makeAccess_156 (by decide) ?_
      exact B160 x1 x2 x3 x4 x5 x5 r23 hx1 hx5 hx5 S22 H locs ls h hP hD hS (lv_sub hl [0, 1, 2, 3, 4, 5] rfl)
  have B34 : ∀ (x1 : Nat) (x2 : Int32) (t0 : Int32) (hx1 : x1 < 24) (S : St) (H : Heap) (locs : List Loc) (ls : Array Slot), bX5_makeAccess_34 Q x1 x2 t0 S → va_P g vwCl (wX ct ad n ro S) H → va_D A (wX ct ad n ro S) → va_S A s.heap H locs → lv_has ls 6 [(0, .ref (ad 8)), (1, .ref (ad (30 + x1))), (2, .int x2)] → W p l e R s m args below meth c H locs 0 0 QQ (F0 m 34 ls [.int t0]) := by
    intro x1 x2 t0 hx1 S H locs ls h hP hD hS hl
    refine lv_istore_n (lv' := [(3, .int t0), (0, .ref (ad 8)), (1, .ref (ad (30 + x1))), (2, .int x2)]) C.1 C.2.1 dX5_makeAccess_34 rfl hl (by decide) rfl (fun ls hl => ?_)
    refine lv_aload_n C.1 C.2.1 dX5_makeAccess_35 rfl (lv_at hl 1 rfl) ?_
    refine xg5_size C hinX5 hK hP (by decide +kernel) dX5_makeAccess_36 ?_
    refine lv_topi (fun y25 ey25 => ?_)
    have h := h y25 ey25
    refine lv_istore (lv' := [(4, .int y25), (3, .int t0), (0, .ref (ad 8)), (1, .ref (ad (30 + x1))), (2, .int x2)]) C.1 C.2.1 dX5_makeAccess_39 hl (by decide) rfl (fun ls hl => ?_)
    refine lv_aload_n C.1 C.2.1 dX5_makeAccess_41 rfl (lv_at hl 2 rfl) ?_
    refine xg5_accesses C hinX5 hK hP (by decide +kernel) dX5_makeAccess_42 ?_
    refine lv_iload C.1 C.2.1 dX5_makeAccess_45 (lv_at hl 0 rfl) ?_
    obtain ⟨g27, h⟩ := h
    obtain ⟨i26, ei26⟩ : ∃ z : Nat, z = Int32.toNatClampNeg y25 := ⟨_, rfl⟩
    have h := h i26 ei26
    have hi26 : i26 < 6 := by rw [ei26]; exact lt_in g27
    refine xq_acc C hK hP g27 ei26 dX5_makeAccess_47 ?_
    refine lv_astore (lv' := [(5, .ref (ad (20 + i26))), (4, .int y25), (3, .int t0), (0, .ref (ad 8)), (1, .ref (ad (30 + x1))), (2, .int x2)]) C.1 C.2.1 dX5_makeAccess_48 hl (by decide) rfl (fun ls hl => ?_)
    refine lv_aload C.1 C.2.1 dX5_makeAccess_50 (lv_at hl 0 rfl) ?_
    refine lv_aload_n C.1 C.2.1 dX5_makeAccess_52 rfl (lv_at hl 3 rfl) ?_
    refine xg5_hart C hinX5 hK hP (by decide +kernel) dX5_makeAccess_53 ?_
    obtain ⟨S28, eS28⟩ : ∃ z : St, z = wr S 30 i26 (S.1 9 0) := ⟨_, rfl⟩
    have h := h S28 eS28
    refine xp0_hart hi26 C hinX0 hK hP hD hS (hN _ (by decide +kernel)) dX5_makeAccess_56 (fun H locs hP hD hS => ?_)
    rw [← eS28] at hP hD
    refine lv_aload C.1 C.2.1 dX5_makeAccess_59 (lv_at hl 0 rfl) ?_
    refine lv_iload_n C.1 C.2.1 dX5_makeAccess_61 rfl (lv_at hl 5 rfl) ?_
    obtain ⟨S29, eS29⟩ : ∃ z : St, z = wr S28 31 i26 x2 := ⟨_, rfl⟩
    have h := h S29 eS29
    refine xp0_kind hi26 C hinX0 hK hP hD hS (hN _ (by decide +kernel)) dX5_makeAccess_62 (fun H locs hP hD hS => ?_)
    rw [← eS29] at hP hD
    refine lv_aload C.1 C.2.1 dX5_makeAccess_65 (lv_at hl 0 rfl) ?_
    refine lv_aload_n C.1 C.2.1 dX5_makeAccess_67 rfl (lv_at hl 3 rfl) ?_
    refine lv_aload_n C.1 C.2.1 dX5_makeAccess_68 rfl (lv_at hl 4 rfl) ?_
    refine lv_iload_n C.1 C.2.1 dX5_makeAccess_69 rfl (lv_at hl 2 rfl) ?_
    obtain ⟨g30, h⟩ := h
    refine xa_row hx1 C hK hP g30  rfl dX5_makeAccess_70 ?_
    refine lv_aload_n C.1 C.2.1 dX5_makeAccess_71 rfl (lv_at hl 4 rfl) ?_
    refine lv_iload_n C.1 C.2.1 dX5_makeAccess_72 rfl (lv_at hl 2 rfl) ?_
    refine lv_iconst (v := 1) C.1 C.2.1 dX5_makeAccess_73 (by decide) ?_
    refine lv_iadd C.1 C.2.1 dX5_makeAccess_74 ?_
    obtain ⟨g31, h⟩ := h
    refine xa_row hx1 C hK hP g31  rfl dX5_makeAccess_75 ?_
    refine g_callVi (w := wX ct ad n ro) C hK hN hA hP hD hS (mX5_place l g ct ad n ro H.size S29 (S29.2.1 x1 (Int32.toNatClampNeg t0)) (S29.2.1 x1 (Int32.toNatClampNeg (t0 + (1 : Int32))))  _ h) (cwV 2 C.2.2.2.2 gX5_makeAccess_X5_place rfl rfl rfl (by decide +kernel) ⟨Nat.le_trans (by decide) hRf, Nat.le_trans (by decide) hRl⟩) (va_recv hK hP (ci := 5) (q0 := 8) rfl rfl) rfl hl.1 rfl (Nat.le_of_ble_eq_true rfl) dX5_makeAccess_76 ⟨Nat.zero_le _, Nat.zero_le _⟩ (fun r33 S32 H locs h hP hD hS => ?_)
    obtain ⟨S34, eS34⟩ : ∃ z : St, z = wr S32 32 i26 r33 := ⟨_, rfl⟩
    have h := h S34 eS34
    refine xp0_location hi26 C hinX0 hK hP hD hS (hN _ (by decide +kernel)) dX5_makeAccess_79 (fun H locs hP hD hS => ?_)
    rw [← eS34] at hP hD
    refine lv_aload C.1 C.2.1 dX5_makeAccess_82 (lv_at hl 0 rfl) ?_
    refine lv_aload_n C.1 C.2.1 dX5_makeAccess_84 rfl (lv_at hl 4 rfl) ?_
    refine lv_iload_n C.1 C.2.1 dX5_makeAccess_85 rfl (lv_at hl 2 rfl) ?_
    refine lv_iconst (v := 2) C.1 C.2.1 dX5_makeAccess_86 (by decide) ?_
    refine lv_iadd C.1 C.2.1 dX5_makeAccess_87 ?_
    obtain ⟨g35, h⟩ := h
    refine xa_row hx1 C hK hP g35  rfl dX5_makeAccess_88 ?_
    obtain ⟨S36, eS36⟩ : ∃ z : St, z = wr S34 33 i26 (S34.2.1 x1 (Int32.toNatClampNeg (t0 + (2 : Int32)))) := ⟨_, rfl⟩
    have h := h S36 eS36
    refine xp0_marks hi26 C hinX0 hK hP hD hS (hN _ (by decide +kernel)) dX5_makeAccess_89 (fun H locs hP hD hS => ?_)
    rw [← eS36] at hP hD
    refine lv_aload C.1 C.2.1 dX5_makeAccess_92 (lv_at hl 0 rfl) ?_
    refine lv_iload_n C.1 C.2.1 dX5_makeAccess_94 rfl (lv_at hl 5 rfl) ?_
    refine g_callSN (host := "LitmusRunner") (w := wX ct ad n ro) C hK hN hA hP hD hS (mX6_isReader l g (xT ct) S36 H.size x2 _ h) ⟨va_cnB 1 C.2.2.2.2 gX5_makeAccess_X6_isReader_n148 rfl rfl rfl (hN (.methodLinkNest RX5 148 yX6_isReader "LitmusRunner") (by decide +kernel)) (C.2.2.2.2 (.initialized RX6) (by decide +kernel)) (by decide +kernel) ⟨Nat.le_trans (by decide) hRf, Nat.le_trans (by decide) hRl⟩, C.2.2.2.2 (.static yX6_isReader) (by decide +kernel), trivial⟩ rfl hl.1 rfl (Nat.le_of_ble_eq_true rfl) dX5_makeAccess_95 ⟨Nat.zero_le _, Nat.zero_le _⟩ (fun r37 H locs h hP hD hS => ?_)
    obtain ⟨hz, h⟩ := h
    obtain ⟨S38, eS38⟩ : ∃ z : St, z = wr S36 34 i26 r37 := ⟨_, rfl⟩
    have h := h S38 eS38
    refine xp0_reads hi26 C hinX0 hK hP hD hS (hN _ (by decide +kernel)) hz dX5_makeAccess_98 (fun H locs hP hD hS => ?_)
    rw [← eS38] at hP hD
    refine lv_aload C.1 C.2.1 dX5_makeAccess_101 (lv_at hl 0 rfl) ?_
    refine lv_iload_n C.1 C.2.1 dX5_makeAccess_103 rfl (lv_at hl 5 rfl) ?_
    refine g_callSN (host := "LitmusRunner") (w := wX ct ad n ro) C hK hN hA hP hD hS (mX6_isWriter l g (xT ct) S38 H.size x2 _ h) ⟨va_cnB 1 C.2.2.2.2 gX5_makeAccess_X6_isWriter_n151 rfl rfl rfl (hN (.methodLinkNest RX5 151 yX6_isWriter "LitmusRunner") (by decide +kernel)) (C.2.2.2.2 (.initialized RX6) (by decide +kernel)) (by decide +kernel) ⟨Nat.le_trans (by decide) hRf, Nat.le_trans (by decide) hRl⟩, C.2.2.2.2 (.static yX6_isWriter) (by decide +kernel), trivial⟩ rfl hl.1 rfl (Nat.le_of_ble_eq_true rfl) dX5_makeAccess_104 ⟨Nat.zero_le _, Nat.zero_le _⟩ (fun r39 H locs h hP hD hS => ?_)
    obtain ⟨hz, h⟩ := h
    obtain ⟨S40, eS40⟩ : ∃ z : St, z = wr S38 35 i26 r39 := ⟨_, rfl⟩
    have h := h S40 eS40
    refine xp0_writes hi26 C hinX0 hK hP hD hS (hN _ (by decide +kernel)) hz dX5_makeAccess_107 (fun H locs hP hD hS => ?_)
    rw [← eS40] at hP hD
    refine lv_aload C.1 C.2.1 dX5_makeAccess_110 (lv_at hl 0 rfl) ?_
    refine lv_aload_n C.1 C.2.1 dX5_makeAccess_112 rfl (lv_at hl 4 rfl) ?_
    refine lv_iload_n C.1 C.2.1 dX5_makeAccess_113 rfl (lv_at hl 2 rfl) ?_
    refine lv_iconst (v := 1) C.1 C.2.1 dX5_makeAccess_114 (by decide) ?_
    refine lv_iadd C.1 C.2.1 dX5_makeAccess_115 ?_
    obtain ⟨g41, h⟩ := h
    refine xa_row hx1 C hK hP g41  rfl dX5_makeAccess_116 ?_
    refine lv_iconst (v := -1) C.1 C.2.1 dX5_makeAccess_117 (by decide) ?_
    refine lv_icmp_ne (tgt := 125) C.1 C.2.1 dX5_makeAccess_118 (by decide) (fun c45 => ?_) (fun c45 => ?_)
    · have h := h.1 c45
      refine lv_aload_n C.1 C.2.1 dX5_makeAccess_125 rfl (lv_at hl 3 rfl) ?_
      refine lv_aload_n C.1 C.2.1 dX5_makeAccess_126 rfl (lv_at hl 4 rfl) ?_
      refine lv_iload_n C.1 C.2.1 dX5_makeAccess_127 rfl (lv_at hl 2 rfl) ?_
      refine lv_iconst (v := 1) C.1 C.2.1 dX5_makeAccess_128 (by decide) ?_
      refine lv_iadd C.1 C.2.1 dX5_makeAccess_129 ?_
      obtain ⟨g42, h⟩ := h
      refine xa_row hx1 C hK hP g42  rfl dX5_makeAccess_130 ?_
      refine g_callVi (w := wX ct ad n ro) C hK hN hA hP hD hS (mX5_carriedBy l g ct ad n ro H.size S40 (S40.2.1 x1 (Int32.toNatClampNeg (t0 + (1 : Int32))))  _ h) (cwV 1 C.2.2.2.2 gX5_makeAccess_X5_carriedBy rfl rfl rfl (by decide +kernel) ⟨Nat.le_trans (by decide) hRf, Nat.le_trans (by decide) hRl⟩) (va_recv hK hP (ci := 5) (q0 := 8) rfl rfl) rfl hl.1 rfl (Nat.le_of_ble_eq_true rfl) dX5_makeAccess_131 ⟨Nat.zero_le _, Nat.zero_le _⟩ (fun r44 S43 H locs h hP hD hS => ?_)
      exact B134 x1 x2 t0 y25 i26 i26 r44 hx1 hi26 hi26 S43 H locs ls h hP hD hS (lv_sub hl [3, 4, 5, 2, 1, 0] rfl)
    · have h := h.2 c45
      refine lv_iconst (v := 0) C.1 C.2.1 dX5_makeAccess_121 (by decide) ?_
      refine lv_goto (tgt := 134) C.1 C.2.1 dX5_makeAccess_122 (by decide) ?_
      exact B134 x1 x2 t0 y25 i26 i26 (0 : Int32) hx1 hi26 hi26 S40 H locs ls h hP hD hS (lv_sub hl [3, 4, 5, 2, 1, 0] rfl)
  have B29 : ∀ (x1 : Nat) (x2 : Int32) (hx1 : x1 < 24) (S : St) (H : Heap) (locs : List Loc) (ls : Array Slot), bX5_makeAccess_29 Q x1 x2 S → va_P g vwCl (wX ct ad n ro S) H → va_D A (wX ct ad n ro S) → va_S A s.heap H locs → lv_has ls 6 [(0, .ref (ad 8)), (1, .ref (ad (30 + x1))), (2, .int x2)] → W p l e R s m args below meth c H locs 0 0 QQ (F0 m 29 ls []) := by
    intro x1 x2 hx1 S H locs ls h hP hD hS hl
    refine lv_iconst (v := 3) C.1 C.2.1 dX5_makeAccess_29 (by decide) ?_
    refine lv_goto (tgt := 34) C.1 C.2.1 dX5_makeAccess_30 (by decide) ?_
    exact B34 x1 x2 (3 : Int32) hx1 S H locs ls h hP hD hS (lv_sub hl [0, 1, 2] rfl)
  refine lv_aload_n C.1 C.2.1 dX5_makeAccess_0 rfl (lv_at hl 0 rfl) ?_
  refine xg5_size C hinX5 hK hP (by decide +kernel) dX5_makeAccess_1 ?_
  refine lv_bipush (v := 6) C.1 C.2.1 dX5_makeAccess_4 (by decide) ?_
  refine lv_icmp_lt (tgt := 10) C.1 C.2.1 dX5_makeAccess_6 (by decide) (fun c50 => ?_) (fun c50 => ?_)
  · have h := h.1 c50
    refine lv_aload_n C.1 C.2.1 dX5_makeAccess_10 rfl (lv_at hl 1 rfl) ?_
    refine lv_iconst (v := 0) C.1 C.2.1 dX5_makeAccess_11 (by decide) ?_
    refine xa_row hx1 C hK hP (j := 0) (by unfold vp_in; decide) (by decide) dX5_makeAccess_12 ?_
    refine lv_topi (fun y46 ey46 => ?_)
    have h := h y46 ey46
    refine lv_istore_n (lv' := [(2, .int y46), (0, .ref (ad 8)), (1, .ref (ad (30 + x1)))]) C.1 C.2.1 dX5_makeAccess_13 rfl hl (by decide) rfl (fun ls hl => ?_)
    refine lv_iload_n C.1 C.2.1 dX5_makeAccess_14 rfl (lv_at hl 0 rfl) ?_
    refine lv_iconst (v := 2) C.1 C.2.1 dX5_makeAccess_15 (by decide) ?_
    refine lv_icmp_eq (tgt := 29) C.1 C.2.1 dX5_makeAccess_16 (by decide) (fun c49 => ?_) (fun c49 => ?_)
    · have h := h.1 c49
      exact B29 x1 y46 hx1 S H locs ls h hP hD hS (lv_sub hl [1, 2, 0] rfl)
    · have h := h.2 c49
      refine lv_iload_n C.1 C.2.1 dX5_makeAccess_19 rfl (lv_at hl 0 rfl) ?_
      refine lv_iconst (v := 3) C.1 C.2.1 dX5_makeAccess_20 (by decide) ?_
      refine lv_icmp_eq (tgt := 29) C.1 C.2.1 dX5_makeAccess_21 (by decide) (fun c48 => ?_) (fun c48 => ?_)
      · have h := h.1 c48
        exact B29 x1 y46 hx1 S H locs ls h hP hD hS (lv_sub hl [1, 2, 0] rfl)
      · have h := h.2 c48
        refine lv_iload_n C.1 C.2.1 dX5_makeAccess_24 rfl (lv_at hl 0 rfl) ?_
        refine lv_iconst (v := 5) C.1 C.2.1 dX5_makeAccess_25 (by decide) ?_
        refine lv_icmp_ne (tgt := 33) C.1 C.2.1 dX5_makeAccess_26 (by decide) (fun c47 => ?_) (fun c47 => ?_)
        · have h := h.1 c47
          refine lv_iconst (v := 2) C.1 C.2.1 dX5_makeAccess_33 (by decide) ?_
          exact B34 x1 y46 (2 : Int32) hx1 S H locs ls h hP hD hS (lv_sub hl [1, 2, 0] rfl)
        · have h := h.2 c47
          exact B29 x1 y46 hx1 S H locs ls h hP hD hS (lv_sub hl [1, 2, 0] rfl)
  · have h := h.2 c50
    exact hret _ _ _ _ _ dX5_makeAccess_9 h hP hD hS
theorem mX5_makeAccess (l : Launch) (g : va_G) (ct : Nat → ClassId) (ad : Nat → Nat) (n ro sz : Nat) (S : St) (x1 : Nat) (hx1 : x1 < 24) (Q : St → Prop) (h : pX5_makeAccess x1 S Q) : Met l yX5_makeAccess wsX5_makeAccess ({ frames := 2, cells := 0, slots := 0, locals := 56 }) (gPc g (xT ct) (wX ct ad n ro S) sz [.ref (ad 8), .ref (ad (30 + x1))]) (va_Qv Q (gB g (xT ct) (wX ct ad n ro) (va_A (wX ct ad n ro S) sz)) (va_A (wX ct ad n ro S) sz)) 0 0 (va_A (wX ct ad n ro S) sz) :=
  g_metV (w := wX ct ad n ro) (cc := cX5_makeAccess) (maxL := 6) (by decide) rfl rfl (Nat.le_of_ble_eq_true rfl) rfl (fun p e s m args below meth c QQ A C hK hN hA hret H locs ls hP hD hS hl => kX5_makeAccess C hK hN hA (Nat.le_refl _) (Nat.le_refl _) Q hret x1 hx1 S h H locs ls hP hD hS hl)

def bX5_step_181 (Q : St → Prop) (S : St) : Prop :=
  Q S
def bX5_step_168 (Q : St → Prop) (S : St) : Prop :=
  (∀ S1 : St, S1 = wr S 11 0 (-1 : Int32) → bX5_step_181 Q  S1)
def pX5_step (x1 : Nat) (S : St) (Q : St → Prop) : Prop :=
  (((Int32.toInt (S.2.1 x1 0) < 5 ∨ 9 < Int32.toInt (S.2.1 x1 0)) → pX5_makeAccess x1 S (fun (S3 : St) => bX5_step_181 Q  S3)) ∧ ((S.2.1 x1 0) = (5 : Int32) → pX5_fails x1 S (fun (r5 : Int32) (S4 : St) => ((r5 = 0 → pX5_makeAccess x1 S4 (fun (S6 : St) => bX5_step_168 Q  S6)) ∧ (¬ (r5 = 0) → pX5_setRegister (S4.2.1 x1 1) (1 : Int32) (0 : Int32) S4 (fun (S7 : St) => bX5_step_168 Q  S7))))) ∧ ((S.2.1 x1 0) = (6 : Int32) → pX5_fence (S.2.1 x1 1) (S.2.1 x1 2) S (fun (S9 : St) => bX5_step_181 Q  S9)) ∧ ((S.2.1 x1 0) = (7 : Int32) → pX5_setRegister (S.2.1 x1 1) (S.2.1 x1 2) (0 : Int32) S (fun (S10 : St) => bX5_step_181 Q  S10)) ∧ ((S.2.1 x1 0) = (8 : Int32) → pX5_valueOf (S.2.1 x1 2) S (fun (r12 : Int32) (S11 : St) => pX5_valueOf (S11.2.1 x1 3) S11 (fun (r14 : Int32) (S13 : St) => pX5_carriedBy (S13.2.1 x1 2) S13 (fun (r16 : Int32) (S15 : St) => pX5_carriedBy (S15.2.1 x1 3) S15 (fun (r18 : Int32) (S17 : St) => pX5_setRegister (S.2.1 x1 1) (r12 + r14) (r16 ||| r18) S17 (fun (S19 : St) => bX5_step_181 Q  S19)))))) ∧ ((S.2.1 x1 0) = (9 : Int32) → pX5_valueOf (S.2.1 x1 2) S (fun (r21 : Int32) (S20 : St) => pX5_valueOf (S20.2.1 x1 3) S20 (fun (r23 : Int32) (S22 : St) => pX5_carriedBy (S22.2.1 x1 2) S22 (fun (r25 : Int32) (S24 : St) => pX5_carriedBy (S24.2.1 x1 3) S24 (fun (r27 : Int32) (S26 : St) => pX5_setRegister (S.2.1 x1 1) (r21 ^^^ r23) (r25 ||| r27) S26 (fun (S28 : St) => bX5_step_181 Q  S28)))))))
set_option maxHeartbeats 40000000 in
set_option maxRecDepth 100000 in
theorem kX5_step {p : Program} {l : Launch} {e : Env} {R : Room} {s : State} {m : MethodId} {args : Array Value} {below : List Frame} {meth : Method} {c : Code} {QQ : State → Prop} {g : va_G} {ct : Nat → ClassId} {ad : Nat → Nat} {n ro : Nat} {A : Nat → Prop} (C : CallFix p m c cX5_step 2 s args wsX5_step RX5) (hK : va_K g vwCl (xT ct) s) (hN : xN s) (hA : ∀ q, s.heap.size ≤ q → A q) (hRf : 3 ≤ R.frames) (hRl : 81 ≤ R.locals) (Q : St → Prop) (hret : ∀ (pc : Nat) (S : St) (H : Heap) (locs : List Loc) (ls : Array Slot), decode cX5_step pc = .ok (.return_, 1) → Q S → va_P g vwCl (wX ct ad n ro S) H → va_D A (wX ct ad n ro S) → va_S A s.heap H locs → W p l e R s m args below meth c H locs 0 0 QQ (F0 m pc ls [])) (x1 : Nat) (hx1 : x1 < 24) (S : St) (h : pX5_step x1 S Q) (H : Heap) (locs : List Loc) (ls : Array Slot) (hP : va_P g vwCl (wX ct ad n ro S) H) (hD : va_D A (wX ct ad n ro S)) (hS : va_S A s.heap H locs) (hl : lv_has ls 2 [(0, .ref (ad 8)), (1, .ref (ad (30 + x1)))]) : W p l e R s m args below meth c H locs 0 0 QQ (F0 m 0 ls []) := by
  have hinX5 : ∀ w ∈ wsX50, w ∈ wsX5_step := by decide +kernel
  have B181 : ∀ (S : St) (H : Heap) (locs : List Loc) (ls : Array Slot), bX5_step_181 Q S → va_P g vwCl (wX ct ad n ro S) H → va_D A (wX ct ad n ro S) → va_S A s.heap H locs → lv_has ls 2 [(0, .ref (ad 8))] → W p l e R s m args below meth c H locs 0 0 QQ (F0 m 181 ls []) := by
    intro S H locs ls h hP hD hS hl
    exact hret _ _ _ _ _ dX5_step_181 h hP hD hS
  have B168 : ∀ (S : St) (H : Heap) (locs : List Loc) (ls : Array Slot), bX5_step_168 Q S → va_P g vwCl (wX ct ad n ro S) H → va_D A (wX ct ad n ro S) → va_S A s.heap H locs → lv_has ls 2 [(0, .ref (ad 8))] → W p l e R s m args below meth c H locs 0 0 QQ (F0 m 168 ls []) := by
    intro S H locs ls h hP hD hS hl
    refine lv_aload_n C.1 C.2.1 dX5_step_168 rfl (lv_at hl 0 rfl) ?_
    refine lv_iconst (v := -1) C.1 C.2.1 dX5_step_169 (by decide) ?_
    obtain ⟨S1, eS1⟩ : ∃ z : St, z = wr S 11 0 (-1 : Int32) := ⟨_, rfl⟩
    have h := h S1 eS1
    refine xp5_reserve C hinX5 hK hP hD hS (by decide +kernel) dX5_step_170 (fun H locs hP hD hS => ?_)
    rw [← eS1] at hP hD
    refine lv_goto (tgt := 181) C.1 C.2.1 dX5_step_173 (by decide) ?_
    exact B181  S1 H locs ls h hP hD hS (lv_sub hl [0] rfl)
  refine lv_aload_n C.1 C.2.1 dX5_step_0 rfl (lv_at hl 1 rfl) ?_
  refine lv_iconst (v := 0) C.1 C.2.1 dX5_step_1 (by decide) ?_
  refine xa_row hx1 C hK hP (j := 0) (by unfold vp_in; decide) (by decide) dX5_step_2 ?_
  by_cases c2 : (Int32.toInt (S.2.1 x1 0) < 5 ∨ 9 < Int32.toInt (S.2.1 x1 0))
  · have h := h.1 c2
    refine lv_tableOut (tgt := 176) C.1 C.2.1 dX5_step_3 c2 (by decide) ?_
    refine lv_aload_n C.1 C.2.1 dX5_step_176 rfl (lv_at hl 0 rfl) ?_
    refine lv_aload_n C.1 C.2.1 dX5_step_177 rfl (lv_at hl 1 rfl) ?_
    refine g_callVv (w := wX ct ad n ro) C hK hN hA hP hD hS (mX5_makeAccess l g ct ad n ro H.size S x1 hx1 _ h) (cwV 1 C.2.2.2.2 gX5_step_X5_makeAccess rfl rfl rfl (by decide +kernel) ⟨Nat.le_trans (by decide) hRf, Nat.le_trans (by decide) hRl⟩) (va_recv hK hP (ci := 5) (q0 := 8) rfl rfl) rfl hl.1 rfl (Nat.le_of_ble_eq_true rfl) dX5_step_178 ⟨Nat.zero_le _, Nat.zero_le _⟩ (fun S3 H locs h hP hD hS => ?_)
    exact B181  S3 H locs ls h hP hD hS (lv_sub hl [0] rfl)
  · have h := h.2
    have hk : (S.2.1 x1 0) = (5 : Int32) ∨ (S.2.1 x1 0) = (6 : Int32) ∨ (S.2.1 x1 0) = (7 : Int32) ∨ (S.2.1 x1 0) = (8 : Int32) ∨ (S.2.1 x1 0) = (9 : Int32) := by
      have hr : Int32.toInt (S.2.1 x1 0) = 5 ∨ Int32.toInt (S.2.1 x1 0) = 6 ∨ Int32.toInt (S.2.1 x1 0) = 7 ∨ Int32.toInt (S.2.1 x1 0) = 8 ∨ Int32.toInt (S.2.1 x1 0) = 9 := by omega
      rcases hr with hr | hr | hr | hr | hr <;> simp only [← Int32.toInt_inj] <;> simp [hr]
    rcases hk with hk | hk | hk | hk | hk
    · have h := h.1 hk
      refine lv_tableIn (tgt := 143) C.1 C.2.1 dX5_step_3 (by rw [hk]; decide) (by rw [hk]; decide) (by rw [hk]; rfl) (by decide) ?_
      refine lv_aload_n C.1 C.2.1 dX5_step_143 rfl (lv_at hl 0 rfl) ?_
      refine lv_aload_n C.1 C.2.1 dX5_step_144 rfl (lv_at hl 1 rfl) ?_
      refine g_callVi (w := wX ct ad n ro) C hK hN hA hP hD hS (mX5_fails l g ct ad n ro H.size S x1 hx1 _ h) (cwV 1 C.2.2.2.2 gX5_step_X5_fails rfl rfl rfl (by decide +kernel) ⟨Nat.le_trans (by decide) hRf, Nat.le_trans (by decide) hRl⟩) (va_recv hK hP (ci := 5) (q0 := 8) rfl rfl) rfl hl.1 rfl (Nat.le_of_ble_eq_true rfl) dX5_step_145 ⟨Nat.zero_le _, Nat.zero_le _⟩ (fun r5 S4 H locs h hP hD hS => ?_)
      refine lv_if_eq (tgt := 163) C.1 C.2.1 dX5_step_148 (by decide) (fun c8 => ?_) (fun c8 => ?_)
      · have h := h.1 c8
        refine lv_aload_n C.1 C.2.1 dX5_step_163 rfl (lv_at hl 0 rfl) ?_
        refine lv_aload_n C.1 C.2.1 dX5_step_164 rfl (lv_at hl 1 rfl) ?_
        refine g_callVv (w := wX ct ad n ro) C hK hN hA hP hD hS (mX5_makeAccess l g ct ad n ro H.size S4 x1 hx1 _ h) (cwV 1 C.2.2.2.2 gX5_step_X5_makeAccess rfl rfl rfl (by decide +kernel) ⟨Nat.le_trans (by decide) hRf, Nat.le_trans (by decide) hRl⟩) (va_recv hK hP (ci := 5) (q0 := 8) rfl rfl) rfl hl.1 rfl (Nat.le_of_ble_eq_true rfl) dX5_step_165 ⟨Nat.zero_le _, Nat.zero_le _⟩ (fun S6 H locs h hP hD hS => ?_)
        exact B168  S6 H locs ls h hP hD hS (lv_sub hl [0] rfl)
      · have h := h.2 c8
        refine lv_aload_n C.1 C.2.1 dX5_step_151 rfl (lv_at hl 0 rfl) ?_
        refine lv_aload_n C.1 C.2.1 dX5_step_152 rfl (lv_at hl 1 rfl) ?_
        refine lv_iconst (v := 1) C.1 C.2.1 dX5_step_153 (by decide) ?_
        refine xa_row hx1 C hK hP (j := 1) (by unfold vp_in; decide) (by decide) dX5_step_154 ?_
        refine lv_iconst (v := 1) C.1 C.2.1 dX5_step_155 (by decide) ?_
        refine lv_iconst (v := 0) C.1 C.2.1 dX5_step_156 (by decide) ?_
        refine g_callVv (w := wX ct ad n ro) C hK hN hA hP hD hS (mX5_setRegister l g ct ad n ro H.size S4 (S4.2.1 x1 1) (1 : Int32) (0 : Int32)  _ h) (cwV 3 C.2.2.2.2 gX5_step_X5_setRegister rfl rfl rfl (by decide +kernel) ⟨Nat.le_trans (by decide) hRf, Nat.le_trans (by decide) hRl⟩) (va_recv hK hP (ci := 5) (q0 := 8) rfl rfl) rfl hl.1 rfl (Nat.le_of_ble_eq_true rfl) dX5_step_157 ⟨Nat.zero_le _, Nat.zero_le _⟩ (fun S7 H locs h hP hD hS => ?_)
        refine lv_goto (tgt := 168) C.1 C.2.1 dX5_step_160 (by decide) ?_
        exact B168  S7 H locs ls h hP hD hS (lv_sub hl [0] rfl)
    · have h := h.2.1 hk
      refine lv_tableIn (tgt := 36) C.1 C.2.1 dX5_step_3 (by rw [hk]; decide) (by rw [hk]; decide) (by rw [hk]; rfl) (by decide) ?_
      refine lv_aload_n C.1 C.2.1 dX5_step_36 rfl (lv_at hl 0 rfl) ?_
      refine lv_aload_n C.1 C.2.1 dX5_step_37 rfl (lv_at hl 1 rfl) ?_
      refine lv_iconst (v := 1) C.1 C.2.1 dX5_step_38 (by decide) ?_
      refine xa_row hx1 C hK hP (j := 1) (by unfold vp_in; decide) (by decide) dX5_step_39 ?_
      refine lv_aload_n C.1 C.2.1 dX5_step_40 rfl (lv_at hl 1 rfl) ?_
      refine lv_iconst (v := 2) C.1 C.2.1 dX5_step_41 (by decide) ?_
      refine xa_row hx1 C hK hP (j := 2) (by unfold vp_in; decide) (by decide) dX5_step_42 ?_
      refine g_callVv (w := wX ct ad n ro) C hK hN hA hP hD hS (mX5_fence l g ct ad n ro H.size S (S.2.1 x1 1) (S.2.1 x1 2)  _ h) (cwV 2 C.2.2.2.2 gX5_step_X5_fence rfl rfl rfl (by decide +kernel) ⟨Nat.le_trans (by decide) hRf, Nat.le_trans (by decide) hRl⟩) (va_recv hK hP (ci := 5) (q0 := 8) rfl rfl) rfl hl.1 rfl (Nat.le_of_ble_eq_true rfl) dX5_step_43 ⟨Nat.zero_le _, Nat.zero_le _⟩ (fun S9 H locs h hP hD hS => ?_)
      refine lv_goto (tgt := 181) C.1 C.2.1 dX5_step_46 (by decide) ?_
      exact B181  S9 H locs ls h hP hD hS (lv_sub hl [0] rfl)
    · have h := h.2.2.1 hk
      refine lv_tableIn (tgt := 49) C.1 C.2.1 dX5_step_3 (by rw [hk]; decide) (by rw [hk]; decide) (by rw [hk]; rfl) (by decide) ?_
      refine lv_aload_n C.1 C.2.1 dX5_step_49 rfl (lv_at hl 0 rfl) ?_
      refine lv_aload_n C.1 C.2.1 dX5_step_50 rfl (lv_at hl 1 rfl) ?_
      refine lv_iconst (v := 1) C.1 C.2.1 dX5_step_51 (by decide) ?_
      refine xa_row hx1 C hK hP (j := 1) (by unfold vp_in; decide) (by decide) dX5_step_52 ?_
      refine lv_aload_n C.1 C.2.1 dX5_step_53 rfl (lv_at hl 1 rfl) ?_
      refine lv_iconst (v := 2) C.1 C.2.1 dX5_step_54 (by decide) ?_
      refine xa_row hx1 C hK hP (j := 2) (by unfold vp_in; decide) (by decide) dX5_step_55 ?_
      refine lv_iconst (v := 0) C.1 C.2.1 dX5_step_56 (by decide) ?_
      refine g_callVv (w := wX ct ad n ro) C hK hN hA hP hD hS (mX5_setRegister l g ct ad n ro H.size S (S.2.1 x1 1) (S.2.1 x1 2) (0 : Int32)  _ h) (cwV 3 C.2.2.2.2 gX5_step_X5_setRegister rfl rfl rfl (by decide +kernel) ⟨Nat.le_trans (by decide) hRf, Nat.le_trans (by decide) hRl⟩) (va_recv hK hP (ci := 5) (q0 := 8) rfl rfl) rfl hl.1 rfl (Nat.le_of_ble_eq_true rfl) dX5_step_57 ⟨Nat.zero_le _, Nat.zero_le _⟩ (fun S10 H locs h hP hD hS => ?_)
      refine lv_goto (tgt := 181) C.1 C.2.1 dX5_step_60 (by decide) ?_
      exact B181  S10 H locs ls h hP hD hS (lv_sub hl [0] rfl)
    · have h := h.2.2.2.1 hk
      refine lv_tableIn (tgt := 63) C.1 C.2.1 dX5_step_3 (by rw [hk]; decide) (by rw [hk]; decide) (by rw [hk]; rfl) (by decide) ?_
      refine lv_aload_n C.1 C.2.1 dX5_step_63 rfl (lv_at hl 0 rfl) ?_
      refine lv_aload_n C.1 C.2.1 dX5_step_64 rfl (lv_at hl 1 rfl) ?_
      refine lv_iconst (v := 1) C.1 C.2.1 dX5_step_65 (by decide) ?_
      refine xa_row hx1 C hK hP (j := 1) (by unfold vp_in; decide) (by decide) dX5_step_66 ?_
      refine lv_aload_n C.1 C.2.1 dX5_step_67 rfl (lv_at hl 0 rfl) ?_
      refine lv_aload_n C.1 C.2.1 dX5_step_68 rfl (lv_at hl 1 rfl) ?_
      refine lv_iconst (v := 2) C.1 C.2.1 dX5_step_69 (by decide) ?_
      refine xa_row hx1 C hK hP (j := 2) (by unfold vp_in; decide) (by decide) dX5_step_70 ?_
      refine g_callVi (w := wX ct ad n ro) C hK hN hA hP hD hS (mX5_valueOf l g ct ad n ro H.size S (S.2.1 x1 2)  _ h) (cwV 1 C.2.2.2.2 gX5_step_X5_valueOf rfl rfl rfl (by decide +kernel) ⟨Nat.le_trans (by decide) hRf, Nat.le_trans (by decide) hRl⟩) (va_recv hK hP (ci := 5) (q0 := 8) rfl rfl) rfl hl.1 rfl (Nat.le_of_ble_eq_true rfl) dX5_step_71 ⟨Nat.zero_le _, Nat.zero_le _⟩ (fun r12 S11 H locs h hP hD hS => ?_)
      refine lv_aload_n C.1 C.2.1 dX5_step_74 rfl (lv_at hl 0 rfl) ?_
      refine lv_aload_n C.1 C.2.1 dX5_step_75 rfl (lv_at hl 1 rfl) ?_
      refine lv_iconst (v := 3) C.1 C.2.1 dX5_step_76 (by decide) ?_
      refine xa_row hx1 C hK hP (j := 3) (by unfold vp_in; decide) (by decide) dX5_step_77 ?_
      refine g_callVi (w := wX ct ad n ro) C hK hN hA hP hD hS (mX5_valueOf l g ct ad n ro H.size S11 (S11.2.1 x1 3)  _ h) (cwV 1 C.2.2.2.2 gX5_step_X5_valueOf rfl rfl rfl (by decide +kernel) ⟨Nat.le_trans (by decide) hRf, Nat.le_trans (by decide) hRl⟩) (va_recv hK hP (ci := 5) (q0 := 8) rfl rfl) rfl hl.1 rfl (Nat.le_of_ble_eq_true rfl) dX5_step_78 ⟨Nat.zero_le _, Nat.zero_le _⟩ (fun r14 S13 H locs h hP hD hS => ?_)
      refine lv_iadd C.1 C.2.1 dX5_step_81 ?_
      refine lv_aload_n C.1 C.2.1 dX5_step_82 rfl (lv_at hl 0 rfl) ?_
      refine lv_aload_n C.1 C.2.1 dX5_step_83 rfl (lv_at hl 1 rfl) ?_
      refine lv_iconst (v := 2) C.1 C.2.1 dX5_step_84 (by decide) ?_
      refine xa_row hx1 C hK hP (j := 2) (by unfold vp_in; decide) (by decide) dX5_step_85 ?_
      refine g_callVi (w := wX ct ad n ro) C hK hN hA hP hD hS (mX5_carriedBy l g ct ad n ro H.size S13 (S13.2.1 x1 2)  _ h) (cwV 1 C.2.2.2.2 gX5_step_X5_carriedBy rfl rfl rfl (by decide +kernel) ⟨Nat.le_trans (by decide) hRf, Nat.le_trans (by decide) hRl⟩) (va_recv hK hP (ci := 5) (q0 := 8) rfl rfl) rfl hl.1 rfl (Nat.le_of_ble_eq_true rfl) dX5_step_86 ⟨Nat.zero_le _, Nat.zero_le _⟩ (fun r16 S15 H locs h hP hD hS => ?_)
      refine lv_aload_n C.1 C.2.1 dX5_step_89 rfl (lv_at hl 0 rfl) ?_
      refine lv_aload_n C.1 C.2.1 dX5_step_90 rfl (lv_at hl 1 rfl) ?_
      refine lv_iconst (v := 3) C.1 C.2.1 dX5_step_91 (by decide) ?_
      refine xa_row hx1 C hK hP (j := 3) (by unfold vp_in; decide) (by decide) dX5_step_92 ?_
      refine g_callVi (w := wX ct ad n ro) C hK hN hA hP hD hS (mX5_carriedBy l g ct ad n ro H.size S15 (S15.2.1 x1 3)  _ h) (cwV 1 C.2.2.2.2 gX5_step_X5_carriedBy rfl rfl rfl (by decide +kernel) ⟨Nat.le_trans (by decide) hRf, Nat.le_trans (by decide) hRl⟩) (va_recv hK hP (ci := 5) (q0 := 8) rfl rfl) rfl hl.1 rfl (Nat.le_of_ble_eq_true rfl) dX5_step_93 ⟨Nat.zero_le _, Nat.zero_le _⟩ (fun r18 S17 H locs h hP hD hS => ?_)
      refine lv_ior C.1 C.2.1 dX5_step_96 ?_
      refine g_callVv (w := wX ct ad n ro) C hK hN hA hP hD hS (mX5_setRegister l g ct ad n ro H.size S17 (S.2.1 x1 1) (r12 + r14) (r16 ||| r18)  _ h) (cwV 3 C.2.2.2.2 gX5_step_X5_setRegister rfl rfl rfl (by decide +kernel) ⟨Nat.le_trans (by decide) hRf, Nat.le_trans (by decide) hRl⟩) (va_recv hK hP (ci := 5) (q0 := 8) rfl rfl) rfl hl.1 rfl (Nat.le_of_ble_eq_true rfl) dX5_step_97 ⟨Nat.zero_le _, Nat.zero_le _⟩ (fun S19 H locs h hP hD hS => ?_)
      refine lv_goto (tgt := 181) C.1 C.2.1 dX5_step_100 (by decide) ?_
      exact B181  S19 H locs ls h hP hD hS (lv_sub hl [0] rfl)
    · have h := h.2.2.2.2 hk
      refine lv_tableIn (tgt := 103) C.1 C.2.1 dX5_step_3 (by rw [hk]; decide) (by rw [hk]; decide) (by rw [hk]; rfl) (by decide) ?_
      refine lv_aload_n C.1 C.2.1 dX5_step_103 rfl (lv_at hl 0 rfl) ?_
      refine lv_aload_n C.1 C.2.1 dX5_step_104 rfl (lv_at hl 1 rfl) ?_
      refine lv_iconst (v := 1) C.1 C.2.1 dX5_step_105 (by decide) ?_
      refine xa_row hx1 C hK hP (j := 1) (by unfold vp_in; decide) (by decide) dX5_step_106 ?_
      refine lv_aload_n C.1 C.2.1 dX5_step_107 rfl (lv_at hl 0 rfl) ?_
      refine lv_aload_n C.1 C.2.1 dX5_step_108 rfl (lv_at hl 1 rfl) ?_
      refine lv_iconst (v := 2) C.1 C.2.1 dX5_step_109 (by decide) ?_
      refine xa_row hx1 C hK hP (j := 2) (by unfold vp_in; decide) (by decide) dX5_step_110 ?_
      refine g_callVi (w := wX ct ad n ro) C hK hN hA hP hD hS (mX5_valueOf l g ct ad n ro H.size S (S.2.1 x1 2)  _ h) (cwV 1 C.2.2.2.2 gX5_step_X5_valueOf rfl rfl rfl (by decide +kernel) ⟨Nat.le_trans (by decide) hRf, Nat.le_trans (by decide) hRl⟩) (va_recv hK hP (ci := 5) (q0 := 8) rfl rfl) rfl hl.1 rfl (Nat.le_of_ble_eq_true rfl) dX5_step_111 ⟨Nat.zero_le _, Nat.zero_le _⟩ (fun r21 S20 H locs h hP hD hS => ?_)
      refine lv_aload_n C.1 C.2.1 dX5_step_114 rfl (lv_at hl 0 rfl) ?_
      refine lv_aload_n C.1 C.2.1 dX5_step_115 rfl (lv_at hl 1 rfl) ?_
      refine lv_iconst (v := 3) C.1 C.2.1 dX5_step_116 (by decide) ?_
      refine xa_row hx1 C hK hP (j := 3) (by unfold vp_in; decide) (by decide) dX5_step_117 ?_
      refine g_callVi (w := wX ct ad n ro) C hK hN hA hP hD hS (mX5_valueOf l g ct ad n ro H.size S20 (S20.2.1 x1 3)  _ h) (cwV 1 C.2.2.2.2 gX5_step_X5_valueOf rfl rfl rfl (by decide +kernel) ⟨Nat.le_trans (by decide) hRf, Nat.le_trans (by decide) hRl⟩) (va_recv hK hP (ci := 5) (q0 := 8) rfl rfl) rfl hl.1 rfl (Nat.le_of_ble_eq_true rfl) dX5_step_118 ⟨Nat.zero_le _, Nat.zero_le _⟩ (fun r23 S22 H locs h hP hD hS => ?_)
      refine lv_ixor C.1 C.2.1 dX5_step_121 ?_
      refine lv_aload_n C.1 C.2.1 dX5_step_122 rfl (lv_at hl 0 rfl) ?_
      refine lv_aload_n C.1 C.2.1 dX5_step_123 rfl (lv_at hl 1 rfl) ?_
      refine lv_iconst (v := 2) C.1 C.2.1 dX5_step_124 (by decide) ?_
      refine xa_row hx1 C hK hP (j := 2) (by unfold vp_in; decide) (by decide) dX5_step_125 ?_
      refine g_callVi (w := wX ct ad n ro) C hK hN hA hP hD hS (mX5_carriedBy l g ct ad n ro H.size S22 (S22.2.1 x1 2)  _ h) (cwV 1 C.2.2.2.2 gX5_step_X5_carriedBy rfl rfl rfl (by decide +kernel) ⟨Nat.le_trans (by decide) hRf, Nat.le_trans (by decide) hRl⟩) (va_recv hK hP (ci := 5) (q0 := 8) rfl rfl) rfl hl.1 rfl (Nat.le_of_ble_eq_true rfl) dX5_step_126 ⟨Nat.zero_le _, Nat.zero_le _⟩ (fun r25 S24 H locs h hP hD hS => ?_)
      refine lv_aload_n C.1 C.2.1 dX5_step_129 rfl (lv_at hl 0 rfl) ?_
      refine lv_aload_n C.1 C.2.1 dX5_step_130 rfl (lv_at hl 1 rfl) ?_
      refine lv_iconst (v := 3) C.1 C.2.1 dX5_step_131 (by decide) ?_
      refine xa_row hx1 C hK hP (j := 3) (by unfold vp_in; decide) (by decide) dX5_step_132 ?_
      refine g_callVi (w := wX ct ad n ro) C hK hN hA hP hD hS (mX5_carriedBy l g ct ad n ro H.size S24 (S24.2.1 x1 3)  _ h) (cwV 1 C.2.2.2.2 gX5_step_X5_carriedBy rfl rfl rfl (by decide +kernel) ⟨Nat.le_trans (by decide) hRf, Nat.le_trans (by decide) hRl⟩) (va_recv hK hP (ci := 5) (q0 := 8) rfl rfl) rfl hl.1 rfl (Nat.le_of_ble_eq_true rfl) dX5_step_133 ⟨Nat.zero_le _, Nat.zero_le _⟩ (fun r27 S26 H locs h hP hD hS => ?_)
      refine lv_ior C.1 C.2.1 dX5_step_136 ?_
      refine g_callVv (w := wX ct ad n ro) C hK hN hA hP hD hS (mX5_setRegister l g ct ad n ro H.size S26 (S.2.1 x1 1) (r21 ^^^ r23) (r25 ||| r27)  _ h) (cwV 3 C.2.2.2.2 gX5_step_X5_setRegister rfl rfl rfl (by decide +kernel) ⟨Nat.le_trans (by decide) hRf, Nat.le_trans (by decide) hRl⟩) (va_recv hK hP (ci := 5) (q0 := 8) rfl rfl) rfl hl.1 rfl (Nat.le_of_ble_eq_true rfl) dX5_step_137 ⟨Nat.zero_le _, Nat.zero_le _⟩ (fun S28 H locs h hP hD hS => ?_)
      refine lv_goto (tgt := 181) C.1 C.2.1 dX5_step_140 (by decide) ?_
      exact B181  S28 H locs ls h hP hD hS (lv_sub hl [0] rfl)
theorem mX5_step (l : Launch) (g : va_G) (ct : Nat → ClassId) (ad : Nat → Nat) (n ro sz : Nat) (S : St) (x1 : Nat) (hx1 : x1 < 24) (Q : St → Prop) (h : pX5_step x1 S Q) : Met l yX5_step wsX5_step ({ frames := 3, cells := 0, slots := 0, locals := 81 }) (gPc g (xT ct) (wX ct ad n ro S) sz [.ref (ad 8), .ref (ad (30 + x1))]) (va_Qv Q (gB g (xT ct) (wX ct ad n ro) (va_A (wX ct ad n ro S) sz)) (va_A (wX ct ad n ro S) sz)) 0 0 (va_A (wX ct ad n ro S) sz) :=
  g_metV (w := wX ct ad n ro) (cc := cX5_step) (maxL := 2) (by decide) rfl rfl (Nat.le_of_ble_eq_true rfl) rfl (fun p e s m args below meth c QQ A C hK hN hA hret H locs ls hP hD hS hl => kX5_step C hK hN hA (Nat.le_refl _) (Nat.le_refl _) Q hret x1 hx1 S h H locs ls hP hD hS hl)

def bX5_walkHart_98 (k52 : Int32 → Int32 → St → Prop) (Q : St → Prop) (x2 : Int32) (x3 : Int32) (S : St) : Prop :=
  (∀ y1 : Int32, y1 = x3 + (1 : Int32) → k52 x2 y1 S)
def bX5_walkHart_52 (k52 : Int32 → Int32 → St → Prop) (Q : St → Prop) (x2 : Int32) (x3 : Int32) (S : St) : Prop :=
  ((x2 ≤ x3 → Q S) ∧ (¬ (x2 ≤ x3) → pX4_row (S.1 9 0) x3 S (fun (i3 : Nat) (S2 : St) => ((¬ (S2.2.1 i3 0) = (10 : Int32) → pX5_step i3 S2 (fun (S4 : St) => bX5_walkHart_98 k52 Q x2 x3 S4)) ∧ ((S2.2.1 i3 0) = (10 : Int32) → pX5_leftOut i3 S2 (fun (r6 : Int32) (S5 : St) => (∀ y7 : Int32, y7 = (x3 + r6) → bX5_walkHart_98 k52 Q x2 y7 S5)))))))
def pX5_walkHart (x1 : Int32) (S : St) (Q : St → Prop) : Prop :=
  (∀ S10 : St, S10 = wr S 9 0 x1 → (∀ S11 : St, S11 = wr S10 10 0 (S10.1 7 0) → (∀ S12 : St, S12 = wr S11 11 0 (-1 : Int32) → (∀ S13 : St, S13 = wr S12 12 0 (0 : Int32) → (∀ S14 : St, S14 = wr S13 13 0 (0 : Int32) → (∀ S15 : St, S15 = wr S14 14 0 (0 : Int32) → (∀ S16 : St, S16 = wr S15 15 0 (0 : Int32) → pX4_length (S16.1 9 0) S16 (fun (r18 : Int32) (S17 : St) => (∃ N : Nat, itr (F := Int32 → Int32 → St → Prop) (fun _ _ _ => False) (fun k52 x2 x3 S => bX5_walkHart_52 k52 Q x2 x3 S) N r18 (0 : Int32) S17)))))))))
set_option maxHeartbeats 40000000 in
set_option maxRecDepth 100000 in
theorem kX5_walkHart {p : Program} {l : Launch} {e : Env} {R : Room} {s : State} {m : MethodId} {args : Array Value} {below : List Frame} {meth : Method} {c : Code} {QQ : State → Prop} {g : va_G} {ct : Nat → ClassId} {ad : Nat → Nat} {n ro : Nat} {A : Nat → Prop} (C : CallFix p m c cX5_walkHart 5 s args wsX5_walkHart RX5) (hK : va_K g vwCl (xT ct) s) (hN : xN s) (hA : ∀ q, s.heap.size ≤ q → A q) (hRf : 4 ≤ R.frames) (hRl : 102 ≤ R.locals) (Q : St → Prop) (hret : ∀ (pc : Nat) (S : St) (H : Heap) (locs : List Loc) (ls : Array Slot), decode cX5_walkHart pc = .ok (.return_, 1) → Q S → va_P g vwCl (wX ct ad n ro S) H → va_D A (wX ct ad n ro S) → va_S A s.heap H locs → W p l e R s m args below meth c H locs 0 0 QQ (F0 m pc ls [])) (x1 : Int32) (S : St) (h : pX5_walkHart x1 S Q) (H : Heap) (locs : List Loc) (ls : Array Slot) (hP : va_P g vwCl (wX ct ad n ro S) H) (hD : va_D A (wX ct ad n ro S)) (hS : va_S A s.heap H locs) (hl : lv_has ls 5 [(0, .ref (ad 8)), (1, .int x1)]) : W p l e R s m args below meth c H locs 0 0 QQ (F0 m 0 ls []) := by
  have hinX5 : ∀ w ∈ wsX50, w ∈ wsX5_walkHart := by decide +kernel
  have B98 : ∀ (k52 : Int32 → Int32 → St → Prop) (hk52 : ∀ (x2 : Int32) (x3 : Int32) (S : St) (H : Heap) (locs : List Loc) (ls : Array Slot), k52 x2 x3 S → va_P g vwCl (wX ct ad n ro S) H → va_D A (wX ct ad n ro S) → va_S A s.heap H locs → lv_has ls 5 [(0, .ref (ad 8)), (2, .int x2), (3, .int x3)] → W p l e R s m args below meth c H locs 0 0 QQ (F0 m 52 ls [])) (x2 : Int32) (x3 : Int32) (S : St) (H : Heap) (locs : List Loc) (ls : Array Slot), bX5_walkHart_98 k52 Q x2 x3 S → va_P g vwCl (wX ct ad n ro S) H → va_D A (wX ct ad n ro S) → va_S A s.heap H locs → lv_has ls 5 [(0, .ref (ad 8)), (2, .int x2), (3, .int x3)] → W p l e R s m args below meth c H locs 0 0 QQ (F0 m 98 ls []) := by
    intro k52 hk52 x2 x3 S H locs ls h hP hD hS hl
    obtain ⟨y1, ey1⟩ : ∃ z : Int32, z = x3 + (1 : Int32) := ⟨_, rfl⟩
    have h := h y1 ey1
    refine lv_iinc (v := y1) (lv' := [(3, .int y1), (0, .ref (ad 8)), (2, .int x2)]) C.1 C.2.1 dX5_walkHart_98 hl (k := 2) rfl (by rw [ey1]; rfl) (by decide) rfl (fun ls hl => ?_)
    refine lv_goto (tgt := 52) C.1 C.2.1 dX5_walkHart_101 (by decide) ?_
    exact hk52 x2 y1 S H locs ls h hP hD hS (lv_sub hl [1, 2, 0] rfl)
  have B52 : ∀ (k52 : Int32 → Int32 → St → Prop) (hk52 : ∀ (x2 : Int32) (x3 : Int32) (S : St) (H : Heap) (locs : List Loc) (ls : Array Slot), k52 x2 x3 S → va_P g vwCl (wX ct ad n ro S) H → va_D A (wX ct ad n ro S) → va_S A s.heap H locs → lv_has ls 5 [(0, .ref (ad 8)), (2, .int x2), (3, .int x3)] → W p l e R s m args below meth c H locs 0 0 QQ (F0 m 52 ls [])) (x2 : Int32) (x3 : Int32) (S : St) (H : Heap) (locs : List Loc) (ls : Array Slot), bX5_walkHart_52 k52 Q x2 x3 S → va_P g vwCl (wX ct ad n ro S) H → va_D A (wX ct ad n ro S) → va_S A s.heap H locs → lv_has ls 5 [(0, .ref (ad 8)), (2, .int x2), (3, .int x3)] → W p l e R s m args below meth c H locs 0 0 QQ (F0 m 52 ls []) := by
    intro k52 hk52 x2 x3 S H locs ls h hP hD hS hl
    refine lv_iload_n C.1 C.2.1 dX5_walkHart_52 rfl (lv_at hl 2 rfl) ?_
    refine lv_iload_n C.1 C.2.1 dX5_walkHart_53 rfl (lv_at hl 1 rfl) ?_
    refine lv_icmp_ge (tgt := 104) C.1 C.2.1 dX5_walkHart_54 (by decide) (fun c9 => ?_) (fun c9 => ?_)
    · have h := h.1 c9
      exact hret _ _ _ _ _ dX5_walkHart_104 h hP hD hS
    · have h := h.2 c9
      refine lv_aload_n C.1 C.2.1 dX5_walkHart_57 rfl (lv_at hl 0 rfl) ?_
      refine xg5_programs C hinX5 hK hP (by decide +kernel) dX5_walkHart_58 ?_
      refine lv_aload_n C.1 C.2.1 dX5_walkHart_61 rfl (lv_at hl 0 rfl) ?_
      refine xg5_hart C hinX5 hK hP (by decide +kernel) dX5_walkHart_62 ?_
      refine lv_iload_n C.1 C.2.1 dX5_walkHart_65 rfl (lv_at hl 2 rfl) ?_
      refine g_callVr (w := wX ct ad n ro) C hK hN hA hP hD hS (mX4_row l g ct ad n ro H.size S (S.1 9 0) x3  _ h) (cwV 2 C.2.2.2.2 gX5_walkHart_X4_row rfl rfl rfl (by decide +kernel) ⟨Nat.le_trans (by decide) hRf, Nat.le_trans (by decide) hRl⟩) (va_recv hK hP (ci := 4) (q0 := 1) rfl rfl) rfl hl.1 rfl (Nat.le_of_ble_eq_true rfl) dX5_walkHart_66 ⟨Nat.zero_le _, Nat.zero_le _⟩ (fun i3 S2 H locs hi3 h hP hD hS => ?_)
      refine lv_astore (lv' := [(4, .ref (ad (30 + i3))), (0, .ref (ad 8)), (2, .int x2), (3, .int x3)]) C.1 C.2.1 dX5_walkHart_69 hl (by decide) rfl (fun ls hl => ?_)
      refine lv_aload C.1 C.2.1 dX5_walkHart_71 (lv_at hl 0 rfl) ?_
      refine lv_iconst (v := 0) C.1 C.2.1 dX5_walkHart_73 (by decide) ?_
      refine xa_row hi3 C hK hP (j := 0) (by unfold vp_in; decide) (by decide) dX5_walkHart_74 ?_
      refine lv_bipush (v := 10) C.1 C.2.1 dX5_walkHart_75 (by decide) ?_
      refine lv_icmp_ne (tgt := 92) C.1 C.2.1 dX5_walkHart_77 (by decide) (fun c8 => ?_) (fun c8 => ?_)
      · have h := h.1 c8
        refine lv_aload_n C.1 C.2.1 dX5_walkHart_92 rfl (lv_at hl 1 rfl) ?_
        refine lv_aload C.1 C.2.1 dX5_walkHart_93 (lv_at hl 0 rfl) ?_
        refine g_callVv (w := wX ct ad n ro) C hK hN hA hP hD hS (mX5_step l g ct ad n ro H.size S2 i3 hi3 _ h) (cwV 1 C.2.2.2.2 gX5_walkHart_X5_step rfl rfl rfl (by decide +kernel) ⟨Nat.le_trans (by decide) hRf, Nat.le_trans (by decide) hRl⟩) (va_recv hK hP (ci := 5) (q0 := 8) rfl rfl) rfl hl.1 rfl (Nat.le_of_ble_eq_true rfl) dX5_walkHart_95 ⟨Nat.zero_le _, Nat.zero_le _⟩ (fun S4 H locs h hP hD hS => ?_)
        exact B98 k52 hk52 x2 x3 S4 H locs ls h hP hD hS (lv_sub hl [1, 2, 3] rfl)
      · have h := h.2 c8
        refine lv_iload_n C.1 C.2.1 dX5_walkHart_80 rfl (lv_at hl 3 rfl) ?_
        refine lv_aload_n C.1 C.2.1 dX5_walkHart_81 rfl (lv_at hl 1 rfl) ?_
        refine lv_aload C.1 C.2.1 dX5_walkHart_82 (lv_at hl 0 rfl) ?_
        refine g_callVi (w := wX ct ad n ro) C hK hN hA hP hD hS (mX5_leftOut l g ct ad n ro H.size S2 i3 hi3 _ h) (cwV 1 C.2.2.2.2 gX5_walkHart_X5_leftOut rfl rfl rfl (by decide +kernel) ⟨Nat.le_trans (by decide) hRf, Nat.le_trans (by decide) hRl⟩) (va_recv hK hP (ci := 5) (q0 := 8) rfl rfl) rfl hl.1 rfl (Nat.le_of_ble_eq_true rfl) dX5_walkHart_84 ⟨Nat.zero_le _, Nat.zero_le _⟩ (fun r6 S5 H locs h hP hD hS => ?_)
        refine lv_iadd C.1 C.2.1 dX5_walkHart_87 ?_
        refine lv_topi (fun y7 ey7 => ?_)
        have h := h y7 ey7
        refine lv_istore_n (lv' := [(3, .int y7), (4, .ref (ad (30 + i3))), (0, .ref (ad 8)), (2, .int x2)]) C.1 C.2.1 dX5_walkHart_88 rfl hl (by decide) rfl (fun ls hl => ?_)
        refine lv_goto (tgt := 98) C.1 C.2.1 dX5_walkHart_89 (by decide) ?_
        exact B98 k52 hk52 x2 y7 S5 H locs ls h hP hD hS (lv_sub hl [2, 3, 0] rfl)
  have L52 : ∀ (N : Nat) (x2 : Int32) (x3 : Int32) (S : St) (H : Heap) (locs : List Loc) (ls : Array Slot), itr (F := Int32 → Int32 → St → Prop) (fun _ _ _ => False) (fun k52 x2 x3 S => bX5_walkHart_52 k52 Q x2 x3 S) N x2 x3 S → va_P g vwCl (wX ct ad n ro S) H → va_D A (wX ct ad n ro S) → va_S A s.heap H locs → lv_has ls 5 [(0, .ref (ad 8)), (2, .int x2), (3, .int x3)] → W p l e R s m args below meth c H locs 0 0 QQ (F0 m 52 ls []) := by
    intro N
    induction N with
    | zero => intro x2 x3 S H locs ls h hP hD hS hl; exact False.elim h
    | succ N ih => intro x2 x3 S H locs ls h hP hD hS hl; exact B52  (itr (F := Int32 → Int32 → St → Prop) (fun _ _ _ => False) (fun k52 x2 x3 S => bX5_walkHart_52 k52 Q x2 x3 S) N) ih x2 x3 S H locs ls h  hP hD hS hl
  refine lv_aload_n C.1 C.2.1 dX5_walkHart_0 rfl (lv_at hl 0 rfl) ?_
  refine lv_iload_n C.1 C.2.1 dX5_walkHart_1 rfl (lv_at hl 1 rfl) ?_
  obtain ⟨S10, eS10⟩ : ∃ z : St, z = wr S 9 0 x1 := ⟨_, rfl⟩
  have h := h S10 eS10
  refine xp5_hart C hinX5 hK hP hD hS (by decide +kernel) dX5_walkHart_2 (fun H locs hP hD hS => ?_)
  rw [← eS10] at hP hD
  refine lv_aload_n C.1 C.2.1 dX5_walkHart_5 rfl (lv_at hl 0 rfl) ?_
  refine lv_aload_n C.1 C.2.1 dX5_walkHart_6 rfl (lv_at hl 0 rfl) ?_
  refine xg5_size C hinX5 hK hP (by decide +kernel) dX5_walkHart_7 ?_
  obtain ⟨S11, eS11⟩ : ∃ z : St, z = wr S10 10 0 (S10.1 7 0) := ⟨_, rfl⟩
  have h := h S11 eS11
  refine xp5_first C hinX5 hK hP hD hS (by decide +kernel) dX5_walkHart_10 (fun H locs hP hD hS => ?_)
  rw [← eS11] at hP hD
  refine lv_aload_n C.1 C.2.1 dX5_walkHart_13 rfl (lv_at hl 0 rfl) ?_
  refine lv_iconst (v := -1) C.1 C.2.1 dX5_walkHart_14 (by decide) ?_
  obtain ⟨S12, eS12⟩ : ∃ z : St, z = wr S11 11 0 (-1 : Int32) := ⟨_, rfl⟩
  have h := h S12 eS12
  refine xp5_reserve C hinX5 hK hP hD hS (by decide +kernel) dX5_walkHart_15 (fun H locs hP hD hS => ?_)
  rw [← eS12] at hP hD
  refine lv_aload_n C.1 C.2.1 dX5_walkHart_18 rfl (lv_at hl 0 rfl) ?_
  refine lv_iconst (v := 0) C.1 C.2.1 dX5_walkHart_19 (by decide) ?_
  obtain ⟨S13, eS13⟩ : ∃ z : St, z = wr S12 12 0 (0 : Int32) := ⟨_, rfl⟩
  have h := h S13 eS13
  refine xp5_byWay C hinX5 hK hP hD hS (by decide +kernel) dX5_walkHart_20 (fun H locs hP hD hS => ?_)
  rw [← eS13] at hP hD
  refine lv_aload_n C.1 C.2.1 dX5_walkHart_23 rfl (lv_at hl 0 rfl) ?_
  refine lv_iconst (v := 0) C.1 C.2.1 dX5_walkHart_24 (by decide) ?_
  obtain ⟨S14, eS14⟩ : ∃ z : St, z = wr S13 13 0 (0 : Int32) := ⟨_, rfl⟩
  have h := h S14 eS14
  refine xp5_neededForPlaces C hinX5 hK hP hD hS (by decide +kernel) dX5_walkHart_25 (fun H locs hP hD hS => ?_)
  rw [← eS14] at hP hD
  refine lv_aload_n C.1 C.2.1 dX5_walkHart_28 rfl (lv_at hl 0 rfl) ?_
  refine lv_iconst (v := 0) C.1 C.2.1 dX5_walkHart_29 (by decide) ?_
  obtain ⟨S15, eS15⟩ : ∃ z : St, z = wr S14 14 0 (0 : Int32) := ⟨_, rfl⟩
  have h := h S15 eS15
  refine xp5_fencedBeforeReads C hinX5 hK hP hD hS (by decide +kernel) dX5_walkHart_30 (fun H locs hP hD hS => ?_)
  rw [← eS15] at hP hD
  refine lv_aload_n C.1 C.2.1 dX5_walkHart_33 rfl (lv_at hl 0 rfl) ?_
  refine lv_iconst (v := 0) C.1 C.2.1 dX5_walkHart_34 (by decide) ?_
  obtain ⟨S16, eS16⟩ : ∃ z : St, z = wr S15 15 0 (0 : Int32) := ⟨_, rfl⟩
  have h := h S16 eS16
  refine xp5_fencedBeforeWrites C hinX5 hK hP hD hS (by decide +kernel) dX5_walkHart_35 (fun H locs hP hD hS => ?_)
  rw [← eS16] at hP hD
  refine lv_aload_n C.1 C.2.1 dX5_walkHart_38 rfl (lv_at hl 0 rfl) ?_
  refine xg5_programs C hinX5 hK hP (by decide +kernel) dX5_walkHart_39 ?_
  refine lv_aload_n C.1 C.2.1 dX5_walkHart_42 rfl (lv_at hl 0 rfl) ?_
  refine xg5_hart C hinX5 hK hP (by decide +kernel) dX5_walkHart_43 ?_
  refine g_callVi (w := wX ct ad n ro) C hK hN hA hP hD hS (mX4_length l g ct ad n ro H.size S16 (S16.1 9 0)  _ h) (cwV 1 C.2.2.2.2 gX5_walkHart_X4_length rfl rfl rfl (by decide +kernel) ⟨Nat.le_trans (by decide) hRf, Nat.le_trans (by decide) hRl⟩) (va_recv hK hP (ci := 4) (q0 := 1) rfl rfl) rfl hl.1 rfl (Nat.le_of_ble_eq_true rfl) dX5_walkHart_46 ⟨Nat.zero_le _, Nat.zero_le _⟩ (fun r18 S17 H locs h hP hD hS => ?_)
  refine lv_istore_n (lv' := [(2, .int r18), (0, .ref (ad 8)), (1, .int x1)]) C.1 C.2.1 dX5_walkHart_49 rfl hl (by decide) rfl (fun ls hl => ?_)
  refine lv_iconst (v := 0) C.1 C.2.1 dX5_walkHart_50 (by decide) ?_
  refine lv_istore_n (lv' := [(3, .int (0 : Int32)), (2, .int r18), (0, .ref (ad 8)), (1, .int x1)]) C.1 C.2.1 dX5_walkHart_51 rfl hl (by decide) rfl (fun ls hl => ?_)
  obtain ⟨N, h⟩ := h
  exact L52 N r18 (0 : Int32) S17 H locs ls h hP hD hS (lv_sub hl [2, 1, 0] rfl)
theorem mX5_walkHart (l : Launch) (g : va_G) (ct : Nat → ClassId) (ad : Nat → Nat) (n ro sz : Nat) (S : St) (x1 : Int32) (Q : St → Prop) (h : pX5_walkHart x1 S Q) : Met l yX5_walkHart wsX5_walkHart ({ frames := 4, cells := 0, slots := 0, locals := 102 }) (gPc g (xT ct) (wX ct ad n ro S) sz [.ref (ad 8), .int x1]) (va_Qv Q (gB g (xT ct) (wX ct ad n ro) (va_A (wX ct ad n ro S) sz)) (va_A (wX ct ad n ro S) sz)) 0 0 (va_A (wX ct ad n ro S) sz) :=
  g_metV (w := wX ct ad n ro) (cc := cX5_walkHart) (maxL := 5) (by decide) rfl rfl (Nat.le_of_ble_eq_true rfl) rfl (fun p e s m args below meth c QQ A C hK hN hA hret H locs ls hP hD hS hl => kX5_walkHart C hK hN hA (Nat.le_refl _) (Nat.le_refl _) Q hret x1 S h H locs ls hP hD hS hl)

def bX5_walk_28 (k28 : Int32 → St → Prop) (Q : St → Prop) (x2 : Int32) (S : St) : Prop :=
  (((4 : Int32) ≤ x2 → Q S) ∧ (¬ ((4 : Int32) ≤ x2) → pX5_walkHart x2 S (fun (S1 : St) => (∀ y2 : Int32, y2 = x2 + (1 : Int32) → k28 y2 S1))))
def pX5_walk (x1 : Int32) (S : St) (Q : St → Prop) : Prop :=
  (∀ S4 : St, S4 = wr S 8 0 x1 → (∀ S5 : St, S5 = wr S4 7 0 (0 : Int32) → pfill_5_values (0 : Int32) S5 (fun (S6 : St) => pfill_5_carried (0 : Int32) S6 (fun (S7 : St) => (∃ N : Nat, itr (F := Int32 → St → Prop) (fun _ _ => False) (fun k28 x2 S => bX5_walk_28 k28 Q x2 S) N (0 : Int32) S7)))))
set_option maxHeartbeats 40000000 in
set_option maxRecDepth 100000 in
theorem kX5_walk {p : Program} {l : Launch} {e : Env} {R : Room} {s : State} {m : MethodId} {args : Array Value} {below : List Frame} {meth : Method} {c : Code} {QQ : State → Prop} {g : va_G} {ct : Nat → ClassId} {ad : Nat → Nat} {n ro : Nat} {A : Nat → Prop} (C : CallFix p m c cX5_walk 3 s args wsX5_walk RX5) (hK : va_K g vwCl (xT ct) s) (hN : xN s) (hA : ∀ q, s.heap.size ≤ q → A q) (hRf : 5 ≤ R.frames) (hRl : 126 ≤ R.locals) (Q : St → Prop) (hret : ∀ (pc : Nat) (S : St) (H : Heap) (locs : List Loc) (ls : Array Slot), decode cX5_walk pc = .ok (.return_, 1) → Q S → va_P g vwCl (wX ct ad n ro S) H → va_D A (wX ct ad n ro S) → va_S A s.heap H locs → W p l e R s m args below meth c H locs 0 0 QQ (F0 m pc ls [])) (x1 : Int32) (S : St) (h : pX5_walk x1 S Q) (H : Heap) (locs : List Loc) (ls : Array Slot) (hP : va_P g vwCl (wX ct ad n ro S) H) (hD : va_D A (wX ct ad n ro S)) (hS : va_S A s.heap H locs) (hl : lv_has ls 3 [(0, .ref (ad 8)), (1, .int x1)]) : W p l e R s m args below meth c H locs 0 0 QQ (F0 m 0 ls []) := by
  have hinX5 : ∀ w ∈ wsX50, w ∈ wsX5_walk := by decide +kernel
  have B28 : ∀ (k28 : Int32 → St → Prop) (hk28 : ∀ (x2 : Int32) (S : St) (H : Heap) (locs : List Loc) (ls : Array Slot), k28 x2 S → va_P g vwCl (wX ct ad n ro S) H → va_D A (wX ct ad n ro S) → va_S A s.heap H locs → lv_has ls 3 [(0, .ref (ad 8)), (2, .int x2)] → W p l e R s m args below meth c H locs 0 0 QQ (F0 m 28 ls [])) (x2 : Int32) (S : St) (H : Heap) (locs : List Loc) (ls : Array Slot), bX5_walk_28 k28 Q x2 S → va_P g vwCl (wX ct ad n ro S) H → va_D A (wX ct ad n ro S) → va_S A s.heap H locs → lv_has ls 3 [(0, .ref (ad 8)), (2, .int x2)] → W p l e R s m args below meth c H locs 0 0 QQ (F0 m 28 ls []) := by
    intro k28 hk28 x2 S H locs ls h hP hD hS hl
    refine lv_iload_n C.1 C.2.1 dX5_walk_28 rfl (lv_at hl 1 rfl) ?_
    refine lv_iconst (v := 4) C.1 C.2.1 dX5_walk_29 (by decide) ?_
    refine lv_icmp_ge (tgt := 44) C.1 C.2.1 dX5_walk_30 (by decide) (fun c3 => ?_) (fun c3 => ?_)
    · have h := h.1 c3
      exact hret _ _ _ _ _ dX5_walk_44 h hP hD hS
    · have h := h.2 c3
      refine lv_aload_n C.1 C.2.1 dX5_walk_33 rfl (lv_at hl 0 rfl) ?_
      refine lv_iload_n C.1 C.2.1 dX5_walk_34 rfl (lv_at hl 1 rfl) ?_
      refine g_callVv (w := wX ct ad n ro) C hK hN hA hP hD hS (mX5_walkHart l g ct ad n ro H.size S x2  _ h) (cwV 1 C.2.2.2.2 gX5_walk_X5_walkHart rfl rfl rfl (by decide +kernel) ⟨Nat.le_trans (by decide) hRf, Nat.le_trans (by decide) hRl⟩) (va_recv hK hP (ci := 5) (q0 := 8) rfl rfl) rfl hl.1 rfl (Nat.le_of_ble_eq_true rfl) dX5_walk_35 ⟨Nat.zero_le _, Nat.zero_le _⟩ (fun S1 H locs h hP hD hS => ?_)
      obtain ⟨y2, ey2⟩ : ∃ z : Int32, z = x2 + (1 : Int32) := ⟨_, rfl⟩
      have h := h y2 ey2
      refine lv_iinc (v := y2) (lv' := [(2, .int y2), (0, .ref (ad 8))]) C.1 C.2.1 dX5_walk_38 hl (k := 1) rfl (by rw [ey2]; rfl) (by decide) rfl (fun ls hl => ?_)
      refine lv_goto (tgt := 28) C.1 C.2.1 dX5_walk_41 (by decide) ?_
      exact hk28 y2 S1 H locs ls h hP hD hS (lv_sub hl [1, 0] rfl)
  have L28 : ∀ (N : Nat) (x2 : Int32) (S : St) (H : Heap) (locs : List Loc) (ls : Array Slot), itr (F := Int32 → St → Prop) (fun _ _ => False) (fun k28 x2 S => bX5_walk_28 k28 Q x2 S) N x2 S → va_P g vwCl (wX ct ad n ro S) H → va_D A (wX ct ad n ro S) → va_S A s.heap H locs → lv_has ls 3 [(0, .ref (ad 8)), (2, .int x2)] → W p l e R s m args below meth c H locs 0 0 QQ (F0 m 28 ls []) := by
    intro N
    induction N with
    | zero => intro x2 S H locs ls h hP hD hS hl; exact False.elim h
    | succ N ih => intro x2 S H locs ls h hP hD hS hl; exact B28  (itr (F := Int32 → St → Prop) (fun _ _ => False) (fun k28 x2 S => bX5_walk_28 k28 Q x2 S) N) ih x2 S H locs ls h  hP hD hS hl
  refine lv_aload_n C.1 C.2.1 dX5_walk_0 rfl (lv_at hl 0 rfl) ?_
  refine lv_iload_n C.1 C.2.1 dX5_walk_1 rfl (lv_at hl 1 rfl) ?_
  obtain ⟨S4, eS4⟩ : ∃ z : St, z = wr S 8 0 x1 := ⟨_, rfl⟩
  have h := h S4 eS4
  refine xp5_model C hinX5 hK hP hD hS (by decide +kernel) dX5_walk_2 (fun H locs hP hD hS => ?_)
  rw [← eS4] at hP hD
  refine lv_aload_n C.1 C.2.1 dX5_walk_5 rfl (lv_at hl 0 rfl) ?_
  refine lv_iconst (v := 0) C.1 C.2.1 dX5_walk_6 (by decide) ?_
  obtain ⟨S5, eS5⟩ : ∃ z : St, z = wr S4 7 0 (0 : Int32) := ⟨_, rfl⟩
  have h := h S5 eS5
  refine xp5_size C hinX5 hK hP hD hS (by decide +kernel) dX5_walk_7 (fun H locs hP hD hS => ?_)
  rw [← eS5] at hP hD
  refine lv_aload_n C.1 C.2.1 dX5_walk_10 rfl (lv_at hl 0 rfl) ?_
  refine xg5_values C hinX5 hK hP (by decide +kernel) dX5_walk_11 ?_
  refine lv_iconst (v := 0) C.1 C.2.1 dX5_walk_14 (by decide) ?_
  refine g_callSv (w := wX ct ad n ro) C hK hN hA hP hD hS (mfill_5_values l g ct ad n ro H.size S5 (0 : Int32) _ h) (va_cwS 2 C.2.2.2.2 gX5_walk_J7_fill_53178 rfl rfl rfl (by decide +kernel) ⟨Nat.le_trans (by decide) hRf, Nat.le_trans (by decide) hRl⟩) rfl hl.1 rfl (Nat.le_of_ble_eq_true rfl) dX5_walk_15 ⟨Nat.zero_le _, Nat.zero_le _⟩ (fun S6 H locs h hP hD hS => ?_)
  refine lv_aload_n C.1 C.2.1 dX5_walk_18 rfl (lv_at hl 0 rfl) ?_
  refine xg5_carried C hinX5 hK hP (by decide +kernel) dX5_walk_19 ?_
  refine lv_iconst (v := 0) C.1 C.2.1 dX5_walk_22 (by decide) ?_
  refine g_callSv (w := wX ct ad n ro) C hK hN hA hP hD hS (mfill_5_carried l g ct ad n ro H.size S6 (0 : Int32) _ h) (va_cwS 2 C.2.2.2.2 gX5_walk_J7_fill_53178 rfl rfl rfl (by decide +kernel) ⟨Nat.le_trans (by decide) hRf, Nat.le_trans (by decide) hRl⟩) rfl hl.1 rfl (Nat.le_of_ble_eq_true rfl) dX5_walk_23 ⟨Nat.zero_le _, Nat.zero_le _⟩ (fun S7 H locs h hP hD hS => ?_)
  refine lv_iconst (v := 0) C.1 C.2.1 dX5_walk_26 (by decide) ?_
  refine lv_istore_n (lv' := [(2, .int (0 : Int32)), (0, .ref (ad 8)), (1, .int x1)]) C.1 C.2.1 dX5_walk_27 rfl hl (by decide) rfl (fun ls hl => ?_)
  obtain ⟨N, h⟩ := h
  exact L28 N (0 : Int32) S7 H locs ls h hP hD hS (lv_sub hl [1, 0] rfl)
theorem mX5_walk (l : Launch) (g : va_G) (ct : Nat → ClassId) (ad : Nat → Nat) (n ro sz : Nat) (S : St) (x1 : Int32) (Q : St → Prop) (h : pX5_walk x1 S Q) : Met l yX5_walk wsX5_walk ({ frames := 5, cells := 0, slots := 0, locals := 126 }) (gPc g (xT ct) (wX ct ad n ro S) sz [.ref (ad 8), .int x1]) (va_Qv Q (gB g (xT ct) (wX ct ad n ro) (va_A (wX ct ad n ro S) sz)) (va_A (wX ct ad n ro S) sz)) 0 0 (va_A (wX ct ad n ro S) sz) :=
  g_metV (w := wX ct ad n ro) (cc := cX5_walk) (maxL := 3) (by decide) rfl rfl (Nat.le_of_ble_eq_true rfl) rfl (fun p e s m args below meth c QQ A C hK hN hA hret H locs ls hP hD hS hl => kX5_walk C hK hN hA (Nat.le_refl _) (Nat.le_refl _) Q hret x1 S h H locs ls hP hD hS hl)

def bX5_isWrittenFor_64 (k9 : Int32 → Nat → Int32 → St → Prop) (Q : Int32 → St → Prop) (x1 : Int32) (x2 : Nat) (x3 : Int32) (S : St) : Prop :=
  (∀ y1 : Int32, y1 = x3 + (1 : Int32) → k9 x1 x2 y1 S)
def bX5_isWrittenFor_9 (k9 : Int32 → Nat → Int32 → St → Prop) (Q : Int32 → St → Prop) (x1 : Int32) (x2 : Nat) (x3 : Int32) (S : St) : Prop :=
  (((S.1 7 0) ≤ x3 → Q (0 : Int32) S) ∧ (¬ ((S.1 7 0) ≤ x3) → (vp_in x3 6 ∧ ∀ i2 : Nat, i2 = Int32.toNatClampNeg x3 → ((x3 = x1 → bX5_isWrittenFor_64 k9 Q x1 x2 x3 S) ∧ (¬ (x3 = x1) → (((S.1 35 i2) = 0 → bX5_isWrittenFor_64 k9 Q x1 x2 x3 S) ∧ (¬ ((S.1 35 i2) = 0) → ((¬ (S.1 32 i2) = (S.1 32 x2) → bX5_isWrittenFor_64 k9 Q x1 x2 x3 S) ∧ ((S.1 32 i2) = (S.1 32 x2) → ((¬ (S.1 37 i2) = (S.1 36 x2) → bX5_isWrittenFor_64 k9 Q x1 x2 x3 S) ∧ ((S.1 37 i2) = (S.1 36 x2) → Q (1 : Int32) S)))))))))))
def pX5_isWrittenFor (x1 : Int32) (S : St) (Q : Int32 → St → Prop) : Prop :=
  (vp_in x1 6 ∧ ∀ i9 : Nat, i9 = Int32.toNatClampNeg x1 → (∃ N : Nat, itr (F := Int32 → Nat → Int32 → St → Prop) (fun _ _ _ _ => False) (fun k9 x1 x2 x3 S => bX5_isWrittenFor_9 k9 Q x1 x2 x3 S) N x1 i9 (0 : Int32) S))
set_option maxHeartbeats 40000000 in
set_option maxRecDepth 100000 in
theorem kX5_isWrittenFor {p : Program} {l : Launch} {e : Env} {R : Room} {s : State} {m : MethodId} {args : Array Value} {below : List Frame} {meth : Method} {c : Code} {QQ : State → Prop} {g : va_G} {ct : Nat → ClassId} {ad : Nat → Nat} {n ro : Nat} {A : Nat → Prop} (C : CallFix p m c cX5_isWrittenFor 5 s args wsX5_isWrittenFor RX5) (hK : va_K g vwCl (xT ct) s) (hN : xN s) (hA : ∀ q, s.heap.size ≤ q → A q) (hRf : 0 ≤ R.frames) (hRl : 0 ≤ R.locals) (Q : Int32 → St → Prop) (hret : ∀ (pc : Nat) (r : Int32) (S : St) (H : Heap) (locs : List Loc) (ls : Array Slot), decode cX5_isWrittenFor pc = .ok (.ireturn, 1) → zb r → Q r S → va_P g vwCl (wX ct ad n ro S) H → va_D A (wX ct ad n ro S) → va_S A s.heap H locs → W p l e R s m args below meth c H locs 0 0 QQ (F0 m pc ls [.int r])) (x1 : Int32) (S : St) (h : pX5_isWrittenFor x1 S Q) (H : Heap) (locs : List Loc) (ls : Array Slot) (hP : va_P g vwCl (wX ct ad n ro S) H) (hD : va_D A (wX ct ad n ro S)) (hS : va_S A s.heap H locs) (hl : lv_has ls 5 [(0, .ref (ad 8)), (1, .int x1)]) : W p l e R s m args below meth c H locs 0 0 QQ (F0 m 0 ls []) := by
  have hinX0 : ∀ w ∈ wsX00, w ∈ wsX5_isWrittenFor := by decide +kernel
  have hinX5 : ∀ w ∈ wsX50, w ∈ wsX5_isWrittenFor := by decide +kernel
  have B64 : ∀ (k9 : Int32 → Nat → Int32 → St → Prop) (hk9 : ∀ (x1 : Int32) (x2 : Nat) (x3 : Int32) (hx2 : x2 < 6) (S : St) (H : Heap) (locs : List Loc) (ls : Array Slot), k9 x1 x2 x3 S → va_P g vwCl (wX ct ad n ro S) H → va_D A (wX ct ad n ro S) → va_S A s.heap H locs → lv_has ls 5 [(0, .ref (ad 8)), (1, .int x1), (2, .ref (ad (20 + x2))), (3, .int x3)] → W p l e R s m args below meth c H locs 0 0 QQ (F0 m 9 ls [])) (x1 : Int32) (x2 : Nat) (x3 : Int32) (hx2 : x2 < 6) (S : St) (H : Heap) (locs : List Loc) (ls : Array Slot), bX5_isWrittenFor_64 k9 Q x1 x2 x3 S → va_P g vwCl (wX ct ad n ro S) H → va_D A (wX ct ad n ro S) → va_S A s.heap H locs → lv_has ls 5 [(0, .ref (ad 8)), (1, .int x1), (2, .ref (ad (20 + x2))), (3, .int x3)] → W p l e R s m args below meth c H locs 0 0 QQ (F0 m 64 ls []) := by
    intro k9 hk9 x1 x2 x3 hx2 S H locs ls h hP hD hS hl
    obtain ⟨y1, ey1⟩ : ∃ z : Int32, z = x3 + (1 : Int32) := ⟨_, rfl⟩
    have h := h y1 ey1
    refine lv_iinc (v := y1) (lv' := [(3, .int y1), (0, .ref (ad 8)), (1, .int x1), (2, .ref (ad (20 + x2)))]) C.1 C.2.1 dX5_isWrittenFor_64 hl (k := 3) rfl (by rw [ey1]; rfl) (by decide) rfl (fun ls hl => ?_)
    refine lv_goto (tgt := 9) C.1 C.2.1 dX5_isWrittenFor_67 (by decide) ?_
    exact hk9 x1 x2 y1 hx2 S H locs ls h hP hD hS (lv_sub hl [1, 2, 3, 0] rfl)
  have B9 : ∀ (k9 : Int32 → Nat → Int32 → St → Prop) (hk9 : ∀ (x1 : Int32) (x2 : Nat) (x3 : Int32) (hx2 : x2 < 6) (S : St) (H : Heap) (locs : List Loc) (ls : Array Slot), k9 x1 x2 x3 S → va_P g vwCl (wX ct ad n ro S) H → va_D A (wX ct ad n ro S) → va_S A s.heap H locs → lv_has ls 5 [(0, .ref (ad 8)), (1, .int x1), (2, .ref (ad (20 + x2))), (3, .int x3)] → W p l e R s m args below meth c H locs 0 0 QQ (F0 m 9 ls [])) (x1 : Int32) (x2 : Nat) (x3 : Int32) (hx2 : x2 < 6) (S : St) (H : Heap) (locs : List Loc) (ls : Array Slot), bX5_isWrittenFor_9 k9 Q x1 x2 x3 S → va_P g vwCl (wX ct ad n ro S) H → va_D A (wX ct ad n ro S) → va_S A s.heap H locs → lv_has ls 5 [(0, .ref (ad 8)), (1, .int x1), (2, .ref (ad (20 + x2))), (3, .int x3)] → W p l e R s m args below meth c H locs 0 0 QQ (F0 m 9 ls []) := by
    intro k9 hk9 x1 x2 x3 hx2 S H locs ls h hP hD hS hl
    refine lv_iload_n C.1 C.2.1 dX5_isWrittenFor_9 rfl (lv_at hl 3 rfl) ?_
    refine lv_aload_n C.1 C.2.1 dX5_isWrittenFor_10 rfl (lv_at hl 0 rfl) ?_
    refine xg5_size C hinX5 hK hP (by decide +kernel) dX5_isWrittenFor_11 ?_
    refine lv_icmp_ge (tgt := 70) C.1 C.2.1 dX5_isWrittenFor_14 (by decide) (fun c8 => ?_) (fun c8 => ?_)
    · have h := h.1 c8
      refine lv_iconst (v := 0) C.1 C.2.1 dX5_isWrittenFor_70 (by decide) ?_
      exact hret _ _ _ _ _ _ dX5_isWrittenFor_71 zb_0 h hP hD hS
    · have h := h.2 c8
      refine lv_aload_n C.1 C.2.1 dX5_isWrittenFor_17 rfl (lv_at hl 0 rfl) ?_
      refine xg5_accesses C hinX5 hK hP (by decide +kernel) dX5_isWrittenFor_18 ?_
      refine lv_iload_n C.1 C.2.1 dX5_isWrittenFor_21 rfl (lv_at hl 3 rfl) ?_
      obtain ⟨g3, h⟩ := h
      obtain ⟨i2, ei2⟩ : ∃ z : Nat, z = Int32.toNatClampNeg x3 := ⟨_, rfl⟩
      have h := h i2 ei2
      have hi2 : i2 < 6 := by rw [ei2]; exact lt_in g3
      refine xq_acc C hK hP g3 ei2 dX5_isWrittenFor_22 ?_
      refine lv_astore (lv' := [(4, .ref (ad (20 + i2))), (0, .ref (ad 8)), (1, .int x1), (2, .ref (ad (20 + x2))), (3, .int x3)]) C.1 C.2.1 dX5_isWrittenFor_23 hl (by decide) rfl (fun ls hl => ?_)
      refine lv_iload_n C.1 C.2.1 dX5_isWrittenFor_25 rfl (lv_at hl 4 rfl) ?_
      refine lv_iload_n C.1 C.2.1 dX5_isWrittenFor_26 rfl (lv_at hl 2 rfl) ?_
      refine lv_icmp_eq (tgt := 64) C.1 C.2.1 dX5_isWrittenFor_27 (by decide) (fun c7 => ?_) (fun c7 => ?_)
      · have h := h.1 c7
        exact B64 k9 hk9 x1 x2 x3 hx2 S H locs ls h hP hD hS (lv_sub hl [1, 2, 3, 4] rfl)
      · have h := h.2 c7
        refine lv_aload C.1 C.2.1 dX5_isWrittenFor_30 (lv_at hl 0 rfl) ?_
        refine xg0_writes hi2 C hinX0 hK hP (hN _ (by decide +kernel)) dX5_isWrittenFor_32 ?_
        refine lv_if_eq (tgt := 64) C.1 C.2.1 dX5_isWrittenFor_35 (by decide) (fun c6 => ?_) (fun c6 => ?_)
        · have h := h.1 c6
          exact B64 k9 hk9 x1 x2 x3 hx2 S H locs ls h hP hD hS (lv_sub hl [1, 2, 3, 4] rfl)
        · have h := h.2 c6
          refine lv_aload C.1 C.2.1 dX5_isWrittenFor_38 (lv_at hl 0 rfl) ?_
          refine xg0_location hi2 C hinX0 hK hP (hN _ (by decide +kernel)) dX5_isWrittenFor_40 ?_
          refine lv_aload_n C.1 C.2.1 dX5_isWrittenFor_43 rfl (lv_at hl 3 rfl) ?_
          refine xg0_location hx2 C hinX0 hK hP (hN _ (by decide +kernel)) dX5_isWrittenFor_44 ?_
          refine lv_icmp_ne (tgt := 64) C.1 C.2.1 dX5_isWrittenFor_47 (by decide) (fun c5 => ?_) (fun c5 => ?_)
          · have h := h.1 c5
            exact B64 k9 hk9 x1 x2 x3 hx2 S H locs ls h hP hD hS (lv_sub hl [1, 2, 3, 4] rfl)
          · have h := h.2 c5
            refine lv_aload C.1 C.2.1 dX5_isWrittenFor_50 (lv_at hl 0 rfl) ?_
            refine xg0_put hi2 C hinX0 hK hP (hN _ (by decide +kernel)) dX5_isWrittenFor_52 ?_
            refine lv_aload_n C.1 C.2.1 dX5_isWrittenFor_55 rfl (lv_at hl 3 rfl) ?_
            refine xg0_got hx2 C hinX0 hK hP (hN _ (by decide +kernel)) dX5_isWrittenFor_56 ?_
            refine lv_icmp_ne (tgt := 64) C.1 C.2.1 dX5_isWrittenFor_59 (by decide) (fun c4 => ?_) (fun c4 => ?_)
            · have h := h.1 c4
              exact B64 k9 hk9 x1 x2 x3 hx2 S H locs ls h hP hD hS (lv_sub hl [1, 2, 3, 4] rfl)
            · have h := h.2 c4
              refine lv_iconst (v := 1) C.1 C.2.1 dX5_isWrittenFor_62 (by decide) ?_
              exact hret _ _ _ _ _ _ dX5_isWrittenFor_63 zb_1 h hP hD hS
  have L9 : ∀ (N : Nat) (x1 : Int32) (x2 : Nat) (x3 : Int32) (hx2 : x2 < 6) (S : St) (H : Heap) (locs : List Loc) (ls : Array Slot), itr (F := Int32 → Nat → Int32 → St → Prop) (fun _ _ _ _ => False) (fun k9 x1 x2 x3 S => bX5_isWrittenFor_9 k9 Q x1 x2 x3 S) N x1 x2 x3 S → va_P g vwCl (wX ct ad n ro S) H → va_D A (wX ct ad n ro S) → va_S A s.heap H locs → lv_has ls 5 [(0, .ref (ad 8)), (1, .int x1), (2, .ref (ad (20 + x2))), (3, .int x3)] → W p l e R s m args below meth c H locs 0 0 QQ (F0 m 9 ls []) := by
    intro N
    induction N with
    | zero => intro x1 x2 x3 hx2 S H locs ls h hP hD hS hl; exact False.elim h
    | succ N ih => intro x1 x2 x3 hx2 S H locs ls h hP hD hS hl; exact B9  (itr (F := Int32 → Nat → Int32 → St → Prop) (fun _ _ _ _ => False) (fun k9 x1 x2 x3 S => bX5_isWrittenFor_9 k9 Q x1 x2 x3 S) N) ih x1 x2 x3 hx2 S H locs ls h  hP hD hS hl
  refine lv_aload_n C.1 C.2.1 dX5_isWrittenFor_0 rfl (lv_at hl 0 rfl) ?_
  refine xg5_accesses C hinX5 hK hP (by decide +kernel) dX5_isWrittenFor_1 ?_
  refine lv_iload_n C.1 C.2.1 dX5_isWrittenFor_4 rfl (lv_at hl 1 rfl) ?_
  obtain ⟨g10, h⟩ := h
  obtain ⟨i9, ei9⟩ : ∃ z : Nat, z = Int32.toNatClampNeg x1 := ⟨_, rfl⟩
  have h := h i9 ei9
  have hi9 : i9 < 6 := by rw [ei9]; exact lt_in g10
  refine xq_acc C hK hP g10 ei9 dX5_isWrittenFor_5 ?_
  refine lv_astore_n (lv' := [(2, .ref (ad (20 + i9))), (0, .ref (ad 8)), (1, .int x1)]) C.1 C.2.1 dX5_isWrittenFor_6 rfl hl (by decide) rfl (fun ls hl => ?_)
  refine lv_iconst (v := 0) C.1 C.2.1 dX5_isWrittenFor_7 (by decide) ?_
  refine lv_istore_n (lv' := [(3, .int (0 : Int32)), (2, .ref (ad (20 + i9))), (0, .ref (ad 8)), (1, .int x1)]) C.1 C.2.1 dX5_isWrittenFor_8 rfl hl (by decide) rfl (fun ls hl => ?_)
  obtain ⟨N, h⟩ := h
  exact L9 N x1 i9 (0 : Int32) hi9 S H locs ls h hP hD hS (lv_sub hl [2, 3, 1, 0] rfl)
theorem mX5_isWrittenFor (l : Launch) (g : va_G) (ct : Nat → ClassId) (ad : Nat → Nat) (n ro sz : Nat) (S : St) (x1 : Int32) (Q : Int32 → St → Prop) (h : pX5_isWrittenFor x1 S Q) : Met l yX5_isWrittenFor wsX5_isWrittenFor ({ frames := 0, cells := 0, slots := 0, locals := 0 }) (gPc g (xT ct) (wX ct ad n ro S) sz [.ref (ad 8), .int x1]) (va_Qi Q (gB g (xT ct) (wX ct ad n ro) (va_A (wX ct ad n ro S) sz)) (va_A (wX ct ad n ro S) sz)) 0 0 (va_A (wX ct ad n ro S) sz) :=
  g_metZ (w := wX ct ad n ro) (cc := cX5_isWrittenFor) (maxL := 5) (by decide) rfl rfl (Nat.le_of_ble_eq_true rfl) rfl (fun p e s m args below meth c QQ A C hK hN hA hret H locs ls hP hD hS hl => kX5_isWrittenFor C hK hN hA (Nat.le_refl _) (Nat.le_refl _) Q hret x1 S h H locs ls hP hD hS hl)
