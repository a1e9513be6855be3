def bX5_leftOut_33 (Q : Int32 → St → Prop) (t0 : Int32) (S : St) : Prop :=
  Q t0 S
def pX5_leftOut (x1 : Nat) (S : St) (Q : Int32 → St → Prop) : Prop :=
  pX5_carriedBy (S.2.1 x1 1) S (fun (r2 : Int32) (S1 : St) => (∀ S3 : St, S3 = wr S1 12 0 ((S.1 12 0) ||| r2) → pX5_valueOf (S3.2.1 x1 1) S3 (fun (r5 : Int32) (S4 : St) => ((¬ r5 = 0 → bX5_leftOut_33 Q (0 : Int32) S4) ∧ (r5 = 0 → bX5_leftOut_33 Q (S4.2.1 x1 2) S4)))))
set_option maxHeartbeats 40000000 in
set_option maxRecDepth 100000 in
theorem kX5_leftOut {p : Program} {l : Launch} {e : Env} {R : Room} {s : State} {m : MethodId} {args : Array Value} {below : List Frame} {meth : Method} {c : Code} {QQ : State → Prop} {g : va_G} {ct : Nat → ClassId} {ad : Nat → Nat} {n ro : Nat} {A : Nat → Prop} (C : CallFix p m c cX5_leftOut 2 s args wsX5_leftOut RX5) (hK : va_K g vwCl (xT ct) s) (hN : xN s) (hA : ∀ q, s.heap.size ≤ q → A q) (hRf : 1 ≤ R.frames) (hRl : 21 ≤ R.locals) (Q : Int32 → St → Prop) (hret : ∀ (pc : Nat) (r : Int32) (S : St) (H : Heap) (locs : List Loc) (ls : Array Slot), decode cX5_leftOut pc = .ok (.ireturn, 1) → Q r S → va_P g vwCl (wX ct ad n ro S) H → va_D A (wX ct ad n ro S) → va_S A s.heap H locs → W p l e R s m args below meth c H locs 0 0 QQ (F0 m pc ls [.int r])) (x1 : Nat) (hx1 : x1 < 24) (S : St) (h : pX5_leftOut x1 S Q) (H : Heap) (locs : List Loc) (ls : Array Slot) (hP : va_P g vwCl (wX ct ad n ro S) H) (hD : va_D A (wX ct ad n ro S)) (hS : va_S A s.heap H locs) (hl : lv_has ls 2 [(0, .ref (ad 8)), (1, .ref (ad (30 + x1)))]) : W p l e R s m args below meth c H locs 0 0 QQ (F0 m 0 ls []) := by
  have hinX5 : ∀ w ∈ wsX50, w ∈ wsX5_leftOut := by decide +kernel
  have B33 : ∀ (t0 : Int32) (S : St) (H : Heap) (locs : List Loc) (ls : Array Slot), bX5_leftOut_33 Q t0 S → va_P g vwCl (wX ct ad n ro S) H → va_D A (wX ct ad n ro S) → va_S A s.heap H locs → lv_has ls 2 [(0, .ref (ad 8))] → W p l e R s m args below meth c H locs 0 0 QQ (F0 m 33 ls [.int t0]) := by
    intro t0 S H locs ls h hP hD hS hl
    exact hret _ _ _ _ _ _ dX5_leftOut_33 h hP hD hS
  refine lv_aload_n C.1 C.2.1 dX5_leftOut_0 rfl (lv_at hl 0 rfl) ?_
  refine lv_dup C.1 C.2.1 dX5_leftOut_1 rfl ?_
  refine xg5_byWay C hinX5 hK hP (by decide +kernel) dX5_leftOut_2 ?_
  refine lv_aload_n C.1 C.2.1 dX5_leftOut_5 rfl (lv_at hl 0 rfl) ?_
  refine lv_aload_n C.1 C.2.1 dX5_leftOut_6 rfl (lv_at hl 1 rfl) ?_
  refine lv_iconst (v := 1) C.1 C.2.1 dX5_leftOut_7 (by decide) ?_
  refine xa_row hx1 C hK hP (j := 1) (by unfold vp_in; decide) (by decide) dX5_leftOut_8 ?_
  refine g_callVi (w := wX ct ad n ro) C hK hN hA hP hD hS (mX5_carriedBy l g ct ad n ro H.size S (S.2.1 x1 1)  _ h) (cwV 1 C.2.2.2.2 gX5_leftOut_X5_carriedBy rfl rfl rfl (by decide +kernel) ⟨Nat.le_trans (by decide) hRf, Nat.le_trans (by decide) hRl⟩) (va_recv hK hP (ci := 5) (q0 := 8) rfl rfl) rfl hl.1 rfl (Nat.le_of_ble_eq_true rfl) dX5_leftOut_9 ⟨Nat.zero_le _, Nat.zero_le _⟩ (fun r2 S1 H locs h hP hD hS => ?_)
  refine lv_ior C.1 C.2.1 dX5_leftOut_12 ?_
  obtain ⟨S3, eS3⟩ : ∃ z : St, z = wr S1 12 0 ((S.1 12 0) ||| r2) := ⟨_, rfl⟩
  have h := h S3 eS3
  refine xp5_byWay C hinX5 hK hP hD hS (by decide +kernel) dX5_leftOut_13 (fun H locs hP hD hS => ?_)
  rw [← eS3] at hP hD
  refine lv_aload_n C.1 C.2.1 dX5_leftOut_16 rfl (lv_at hl 0 rfl) ?_
  refine lv_aload_n C.1 C.2.1 dX5_leftOut_17 rfl (lv_at hl 1 rfl) ?_
  refine lv_iconst (v := 1) C.1 C.2.1 dX5_leftOut_18 (by decide) ?_
  refine xa_row hx1 C hK hP (j := 1) (by unfold vp_in; decide) (by decide) dX5_leftOut_19 ?_
  refine g_callVi (w := wX ct ad n ro) C hK hN hA hP hD hS (mX5_valueOf l g ct ad n ro H.size S3 (S3.2.1 x1 1)  _ h) (cwV 1 C.2.2.2.2 gX5_leftOut_X5_valueOf rfl rfl rfl (by decide +kernel) ⟨Nat.le_trans (by decide) hRf, Nat.le_trans (by decide) hRl⟩) (va_recv hK hP (ci := 5) (q0 := 8) rfl rfl) rfl hl.1 rfl (Nat.le_of_ble_eq_true rfl) dX5_leftOut_20 ⟨Nat.zero_le _, Nat.zero_le _⟩ (fun r5 S4 H locs h hP hD hS => ?_)
  refine lv_if_ne (tgt := 32) C.1 C.2.1 dX5_leftOut_23 (by decide) (fun c6 => ?_) (fun c6 => ?_)
  · have h := h.1 c6
    refine lv_iconst (v := 0) C.1 C.2.1 dX5_leftOut_32 (by decide) ?_
    exact B33 (0 : Int32) S4 H locs ls h hP hD hS (lv_sub hl [0] rfl)
  · have h := h.2 c6
    refine lv_aload_n C.1 C.2.1 dX5_leftOut_26 rfl (lv_at hl 1 rfl) ?_
    refine lv_iconst (v := 2) C.1 C.2.1 dX5_leftOut_27 (by decide) ?_
    refine xa_row hx1 C hK hP (j := 2) (by unfold vp_in; decide) (by decide) dX5_leftOut_28 ?_
    refine lv_goto (tgt := 33) C.1 C.2.1 dX5_leftOut_29 (by decide) ?_
    exact B33 (S4.2.1 x1 2) S4 H locs ls h hP hD hS (lv_sub hl [0] rfl)
theorem mX5_leftOut (l : Launch) (g : va_G) (ct : Nat → ClassId) (ad : Nat → Nat) (n ro sz : Nat) (S : St) (x1 : Nat) (hx1 : x1 < 24) (Q : Int32 → St → Prop) (h : pX5_leftOut x1 S Q) : Met l yX5_leftOut wsX5_leftOut ({ frames := 1, cells := 0, slots := 0, locals := 21 }) (gPc g (xT ct) (wX ct ad n ro S) sz [.ref (ad 8), .ref (ad (30 + x1))]) (va_Qi Q (gB g (xT ct) (wX ct ad n ro) (va_A (wX ct ad n ro S) sz)) (va_A (wX ct ad n ro S) sz)) 0 0 (va_A (wX ct ad n ro S) sz) :=
  g_metI (w := wX ct ad n ro) (cc := cX5_leftOut) (maxL := 2) (by decide) rfl rfl (Nat.le_of_ble_eq_true rfl) rfl (fun p e s m args below meth c QQ A C hK hN hA hret H locs ls hP hD hS hl => kX5_leftOut C hK hN hA (Nat.le_refl _) (Nat.le_refl _) Q hret x1 hx1 S h H locs ls hP hD hS hl)

def bX5_fence_131 (Q : St → Prop) (t1 : Int32) (t2 : Int32) (S : St) : Prop :=
  (∀ S1 : St, S1 = wr S 15 0 (t1 ||| t2) → Q S1)
def bX5_fence_111 (Q : St → Prop) (x2 : Int32) (x3 : Int32) (t1 : Int32) (t2 : Int32) (S : St) : Prop :=
  (∀ S2 : St, S2 = wr S 14 0 (t1 ||| t2) → (((x2 &&& (2 : Int32)) = 0 → bX5_fence_131 Q (S2.1 15 0) (0 : Int32) S2) ∧ (¬ ((x2 &&& (2 : Int32)) = 0) → bX5_fence_131 Q (S2.1 15 0) x3 S2)))
def bX5_fence_87 (k8 : Int32 → Int32 → Int32 → Int32 → St → Prop) (Q : St → Prop) (x1 : Int32) (x2 : Int32) (x4 : Int32) (t0 : Int32) (t1 : Int32) (S : St) : Prop :=
  (∀ y4 : Int32, y4 = (t0 ||| t1) → (∀ y5 : Int32, y5 = x4 + (1 : Int32) → k8 x1 x2 y4 y5 S))
def bX5_fence_79 (k8 : Int32 → Int32 → Int32 → Int32 → St → Prop) (Q : St → Prop) (x1 : Int32) (x2 : Int32) (x4 : Int32) (t0 : Int32) (S : St) : Prop :=
  bX5_fence_87 k8 Q x1 x2 x4 t0 ((1 : Int32) <<< (x4 &&& 31)) S
def bX5_fence_66 (k8 : Int32 → Int32 → Int32 → Int32 → St → Prop) (Q : St → Prop) (x1 : Int32) (x2 : Int32) (x3 : Int32) (x4 : Int32) (x6 : Int32) (t0 : Int32) (S : St) : Prop :=
  ((¬ x6 = 0 → bX5_fence_79 k8 Q x1 x2 x4 x3 S) ∧ (x6 = 0 → ((t0 = 0 → bX5_fence_87 k8 Q x1 x2 x4 x3 (0 : Int32) S) ∧ (¬ (t0 = 0) → bX5_fence_79 k8 Q x1 x2 x4 x3 S))))
def bX5_fence_65 (k8 : Int32 → Int32 → Int32 → Int32 → St → Prop) (Q : St → Prop) (x1 : Int32) (x2 : Int32) (x3 : Int32) (x4 : Int32) (x6 : Int32) (S : St) : Prop :=
  bX5_fence_66 k8 Q x1 x2 x3 x4 x6 (0 : Int32) S
def bX5_fence_45 (k8 : Int32 → Int32 → Int32 → Int32 → St → Prop) (Q : St → Prop) (x1 : Int32) (x2 : Int32) (x3 : Int32) (x4 : Int32) (x5 : Nat) (t0 : Int32) (S : St) : Prop :=
  (((S.1 35 x5) = 0 → bX5_fence_65 k8 Q x1 x2 x3 x4 t0 S) ∧ (¬ ((S.1 35 x5) = 0) → (((x1 &&& (2 : Int32)) = 0 → bX5_fence_65 k8 Q x1 x2 x3 x4 t0 S) ∧ (¬ ((x1 &&& (2 : Int32)) = 0) → bX5_fence_66 k8 Q x1 x2 x3 x4 t0 (1 : Int32) S))))
def bX5_fence_44 (k8 : Int32 → Int32 → Int32 → Int32 → St → Prop) (Q : St → Prop) (x1 : Int32) (x2 : Int32) (x3 : Int32) (x4 : Int32) (x5 : Nat) (S : St) : Prop :=
  bX5_fence_45 k8 Q x1 x2 x3 x4 x5 (0 : Int32) S
def bX5_fence_8 (k8 : Int32 → Int32 → Int32 → Int32 → St → Prop) (Q : St → Prop) (x1 : Int32) (x2 : Int32) (x3 : Int32) (x4 : Int32) (S : St) : Prop :=
  (((S.1 7 0) ≤ x4 → (((x2 &&& (1 : Int32)) = 0 → bX5_fence_111 Q x2 x3 (S.1 14 0) (0 : Int32) S) ∧ (¬ ((x2 &&& (1 : Int32)) = 0) → bX5_fence_111 Q x2 x3 (S.1 14 0) x3 S))) ∧ (¬ ((S.1 7 0) ≤ x4) → (vp_in x4 6 ∧ ∀ i11 : Nat, i11 = Int32.toNatClampNeg x4 → (((S.1 34 i11) = 0 → bX5_fence_44 k8 Q x1 x2 x3 x4 i11 S) ∧ (¬ ((S.1 34 i11) = 0) → (((x1 &&& (1 : Int32)) = 0 → bX5_fence_44 k8 Q x1 x2 x3 x4 i11 S) ∧ (¬ ((x1 &&& (1 : Int32)) = 0) → bX5_fence_45 k8 Q x1 x2 x3 x4 i11 (1 : Int32) S)))))))
def pX5_fence (x1 : Int32) (x2 : Int32) (S : St) (Q : St → Prop) : Prop :=
  (∀ y16 : Int32, y16 = (S.1 10 0) → (∃ N : Nat, itr (F := Int32 → Int32 → Int32 → Int32 → St → Prop) (fun _ _ _ _ _ => False) (fun k8 x1 x2 x3 x4 S => bX5_fence_8 k8 Q x1 x2 x3 x4 S) N x1 x2 (0 : Int32) y16 S))
set_option maxHeartbeats 40000000 in
set_option maxRecDepth 100000 in
theorem kX5_fence {p : Program} {l : Launch} {e : Env} {R : Room} {s : State} {m : MethodId} {args : Array Value} {below : List Frame} {meth : Method} {c : Code} {QQ : State → Prop} {g : va_G} {ct : Nat → ClassId} {ad : Nat → Nat} {n ro : Nat} {A : Nat → Prop} (C : CallFix p m c cX5_fence 8 s args wsX5_fence RX5) (hK : va_K g vwCl (xT ct) s) (hN : xN s) (hA : ∀ q, s.heap.size ≤ q → A q) (hRf : 0 ≤ R.frames) (hRl : 0 ≤ R.locals) (Q : St → Prop) (hret : ∀ (pc : Nat) (S : St) (H : Heap) (locs : List Loc) (ls : Array Slot), decode cX5_fence pc = .ok (.return_, 1) → Q S → va_P g vwCl (wX ct ad n ro S) H → va_D A (wX ct ad n ro S) → va_S A s.heap H locs → W p l e R s m args below meth c H locs 0 0 QQ (F0 m pc ls [])) (x1 : Int32) (x2 : Int32) (S : St) (h : pX5_fence x1 x2 S Q) (H : Heap) (locs : List Loc) (ls : Array Slot) (hP : va_P g vwCl (wX ct ad n ro S) H) (hD : va_D A (wX ct ad n ro S)) (hS : va_S A s.heap H locs) (hl : lv_has ls 8 [(0, .ref (ad 8)), (1, .int x1), (2, .int x2)]) : W p l e R s m args below meth c H locs 0 0 QQ (F0 m 0 ls []) := by
  have hinX0 : ∀ w ∈ wsX00, w ∈ wsX5_fence := by decide +kernel
  have hinX5 : ∀ w ∈ wsX50, w ∈ wsX5_fence := by decide +kernel
  have B131 : ∀ (t1 : Int32) (t2 : Int32) (S : St) (H : Heap) (locs : List Loc) (ls : Array Slot), bX5_fence_131 Q t1 t2 S → va_P g vwCl (wX ct ad n ro S) H → va_D A (wX ct ad n ro S) → va_S A s.heap H locs → lv_has ls 8 [(0, .ref (ad 8))] → W p l e R s m args below meth c H locs 0 0 QQ (F0 m 131 ls [.int t2, .int t1, .ref (ad 8)]) := by
    intro t1 t2 S H locs ls h hP hD hS hl
    refine lv_ior C.1 C.2.1 dX5_fence_131 ?_
    obtain ⟨S1, eS1⟩ : ∃ z : St, z = wr S 15 0 (t1 ||| t2) := ⟨_, rfl⟩
    have h := h S1 eS1
    refine xp5_fencedBeforeWrites C hinX5 hK hP hD hS (by decide +kernel) dX5_fence_132 (fun H locs hP hD hS => ?_)
    rw [← eS1] at hP hD
    exact hret _ _ _ _ _ dX5_fence_135 h hP hD hS
  have B111 : ∀ (x2 : Int32) (x3 : Int32) (t1 : Int32) (t2 : Int32) (S : St) (H : Heap) (locs : List Loc) (ls : Array Slot), bX5_fence_111 Q x2 x3 t1 t2 S → va_P g vwCl (wX ct ad n ro S) H → va_D A (wX ct ad n ro S) → va_S A s.heap H locs → lv_has ls 8 [(0, .ref (ad 8)), (2, .int x2), (3, .int x3)] → W p l e R s m args below meth c H locs 0 0 QQ (F0 m 111 ls [.int t2, .int t1, .ref (ad 8)]) := by
    intro x2 x3 t1 t2 S H locs ls h hP hD hS hl
    refine lv_ior C.1 C.2.1 dX5_fence_111 ?_
    obtain ⟨S2, eS2⟩ : ∃ z : St, z = wr S 14 0 (t1 ||| t2) := ⟨_, rfl⟩
    have h := h S2 eS2
    refine xp5_fencedBeforeReads C hinX5 hK hP hD hS (by decide +kernel) dX5_fence_112 (fun H locs hP hD hS => ?_)
    rw [← eS2] at hP hD
    refine lv_aload_n C.1 C.2.1 dX5_fence_115 rfl (lv_at hl 0 rfl) ?_
    refine lv_dup C.1 C.2.1 dX5_fence_116 rfl ?_
    refine xg5_fencedBeforeWrites C hinX5 hK hP (by decide +kernel) dX5_fence_117 ?_
    refine lv_iload_n C.1 C.2.1 dX5_fence_120 rfl (lv_at hl 1 rfl) ?_
    refine lv_iconst (v := 2) C.1 C.2.1 dX5_fence_121 (by decide) ?_
    refine lv_iand C.1 C.2.1 dX5_fence_122 ?_
    refine lv_if_eq (tgt := 130) C.1 C.2.1 dX5_fence_123 (by decide) (fun c3 => ?_) (fun c3 => ?_)
    · have h := h.1 c3
      refine lv_iconst (v := 0) C.1 C.2.1 dX5_fence_130 (by decide) ?_
      exact B131 (S2.1 15 0) (0 : Int32) S2 H locs ls h hP hD hS (lv_sub hl [0] rfl)
    · have h := h.2 c3
      refine lv_iload_n C.1 C.2.1 dX5_fence_126 rfl (lv_at hl 2 rfl) ?_
      refine lv_goto (tgt := 131) C.1 C.2.1 dX5_fence_127 (by decide) ?_
      exact B131 (S2.1 15 0) x3 S2 H locs ls h hP hD hS (lv_sub hl [0] rfl)
  have B87 : ∀ (k8 : Int32 → Int32 → Int32 → Int32 → St → Prop) (hk8 : ∀ (x1 : Int32) (x2 : Int32) (x3 : Int32) (x4 : Int32) (S : St) (H : Heap) (locs : List Loc) (ls : Array Slot), k8 x1 x2 x3 x4 S → va_P g vwCl (wX ct ad n ro S) H → va_D A (wX ct ad n ro S) → va_S A s.heap H locs → lv_has ls 8 [(0, .ref (ad 8)), (1, .int x1), (2, .int x2), (3, .int x3), (4, .int x4)] → W p l e R s m args below meth c H locs 0 0 QQ (F0 m 8 ls [])) (x1 : Int32) (x2 : Int32) (x4 : Int32) (t0 : Int32) (t1 : Int32) (S : St) (H : Heap) (locs : List Loc) (ls : Array Slot), bX5_fence_87 k8 Q x1 x2 x4 t0 t1 S → va_P g vwCl (wX ct ad n ro S) H → va_D A (wX ct ad n ro S) → va_S A s.heap H locs → lv_has ls 8 [(0, .ref (ad 8)), (1, .int x1), (2, .int x2), (4, .int x4)] → W p l e R s m args below meth c H locs 0 0 QQ (F0 m 87 ls [.int t1, .int t0]) := by
    intro k8 hk8 x1 x2 x4 t0 t1 S H locs ls h hP hD hS hl
    refine lv_ior C.1 C.2.1 dX5_fence_87 ?_
    refine lv_topi (fun y4 ey4 => ?_)
    have h := h y4 ey4
    refine lv_istore_n (lv' := [(3, .int y4), (0, .ref (ad 8)), (1, .int x1), (2, .int x2), (4, .int x4)]) C.1 C.2.1 dX5_fence_88 rfl hl (by decide) rfl (fun ls hl => ?_)
    obtain ⟨y5, ey5⟩ : ∃ z : Int32, z = x4 + (1 : Int32) := ⟨_, rfl⟩
    have h := h y5 ey5
    refine lv_iinc (v := y5) (lv' := [(4, .int y5), (3, .int y4), (0, .ref (ad 8)), (1, .int x1), (2, .int x2)]) C.1 C.2.1 dX5_fence_89 hl (k := 4) rfl (by rw [ey5]; rfl) (by decide) rfl (fun ls hl => ?_)
    refine lv_goto (tgt := 8) C.1 C.2.1 dX5_fence_92 (by decide) ?_
    exact hk8 x1 x2 y4 y5 S H locs ls h hP hD hS (lv_sub hl [2, 3, 4, 1, 0] rfl)
  have B79 : ∀ (k8 : Int32 → Int32 → Int32 → Int32 → St → Prop) (hk8 : ∀ (x1 : Int32) (x2 : Int32) (x3 : Int32) (x4 : Int32) (S : St) (H : Heap) (locs : List Loc) (ls : Array Slot), k8 x1 x2 x3 x4 S → va_P g vwCl (wX ct ad n ro S) H → va_D A (wX ct ad n ro S) → va_S A s.heap H locs → lv_has ls 8 [(0, .ref (ad 8)), (1, .int x1), (2, .int x2), (3, .int x3), (4, .int x4)] → W p l e R s m args below meth c H locs 0 0 QQ (F0 m 8 ls [])) (x1 : Int32) (x2 : Int32) (x4 : Int32) (t0 : Int32) (S : St) (H : Heap) (locs : List Loc) (ls : Array Slot), bX5_fence_79 k8 Q x1 x2 x4 t0 S → va_P g vwCl (wX ct ad n ro S) H → va_D A (wX ct ad n ro S) → va_S A s.heap H locs → lv_has ls 8 [(0, .ref (ad 8)), (1, .int x1), (2, .int x2), (4, .int x4)] → W p l e R s m args below meth c H locs 0 0 QQ (F0 m 79 ls [.int t0]) := by
    intro k8 hk8 x1 x2 x4 t0 S H locs ls h hP hD hS hl
    refine lv_iconst (v := 1) C.1 C.2.1 dX5_fence_79 (by decide) ?_
    refine lv_iload C.1 C.2.1 dX5_fence_80 (lv_at hl 3 rfl) ?_
    refine lv_ishl C.1 C.2.1 dX5_fence_82 ?_
    refine lv_goto (tgt := 87) C.1 C.2.1 dX5_fence_83 (by decide) ?_
    exact B87 k8 hk8 x1 x2 x4 t0 ((1 : Int32) <<< (x4 &&& 31)) S H locs ls h hP hD hS (lv_sub hl [0, 1, 2, 3] rfl)
  have B66 : ∀ (k8 : Int32 → Int32 → Int32 → Int32 → St → Prop) (hk8 : ∀ (x1 : Int32) (x2 : Int32) (x3 : Int32) (x4 : Int32) (S : St) (H : Heap) (locs : List Loc) (ls : Array Slot), k8 x1 x2 x3 x4 S → va_P g vwCl (wX ct ad n ro S) H → va_D A (wX ct ad n ro S) → va_S A s.heap H locs → lv_has ls 8 [(0, .ref (ad 8)), (1, .int x1), (2, .int x2), (3, .int x3), (4, .int x4)] → W p l e R s m args below meth c H locs 0 0 QQ (F0 m 8 ls [])) (x1 : Int32) (x2 : Int32) (x3 : Int32) (x4 : Int32) (x6 : Int32) (t0 : Int32) (S : St) (H : Heap) (locs : List Loc) (ls : Array Slot), bX5_fence_66 k8 Q x1 x2 x3 x4 x6 t0 S → va_P g vwCl (wX ct ad n ro S) H → va_D A (wX ct ad n ro S) → va_S A s.heap H locs → lv_has ls 8 [(0, .ref (ad 8)), (1, .int x1), (2, .int x2), (3, .int x3), (4, .int x4), (6, .int x6)] → W p l e R s m args below meth c H locs 0 0 QQ (F0 m 66 ls [.int t0]) := by
    intro k8 hk8 x1 x2 x3 x4 x6 t0 S H locs ls h hP hD hS hl
    refine lv_istore (lv' := [(7, .int t0), (0, .ref (ad 8)), (1, .int x1), (2, .int x2), (3, .int x3), (4, .int x4), (6, .int x6)]) C.1 C.2.1 dX5_fence_66 hl (by decide) rfl (fun ls hl => ?_)
    refine lv_iload_n C.1 C.2.1 dX5_fence_68 rfl (lv_at hl 4 rfl) ?_
    refine lv_iload C.1 C.2.1 dX5_fence_69 (lv_at hl 6 rfl) ?_
    refine lv_if_ne (tgt := 79) C.1 C.2.1 dX5_fence_71 (by decide) (fun c7 => ?_) (fun c7 => ?_)
    · have h := h.1 c7
      exact B79 k8 hk8 x1 x2 x4 x3 S H locs ls h hP hD hS (lv_sub hl [1, 2, 3, 5] rfl)
    · have h := h.2 c7
      refine lv_iload C.1 C.2.1 dX5_fence_74 (lv_at hl 0 rfl) ?_
      refine lv_if_eq (tgt := 86) C.1 C.2.1 dX5_fence_76 (by decide) (fun c6 => ?_) (fun c6 => ?_)
      · have h := h.1 c6
        refine lv_iconst (v := 0) C.1 C.2.1 dX5_fence_86 (by decide) ?_
        exact B87 k8 hk8 x1 x2 x4 x3 (0 : Int32) S H locs ls h hP hD hS (lv_sub hl [1, 2, 3, 5] rfl)
      · have h := h.2 c6
        exact B79 k8 hk8 x1 x2 x4 x3 S H locs ls h hP hD hS (lv_sub hl [1, 2, 3, 5] rfl)
  have B65 : ∀ (k8 : Int32 → Int32 → Int32 → Int32 → St → Prop) (hk8 : ∀ (x1 : Int32) (x2 : Int32) (x3 : Int32) (x4 : Int32) (S : St) (H : Heap) (locs : List Loc) (ls : Array Slot), k8 x1 x2 x3 x4 S → va_P g vwCl (wX ct ad n ro S) H → va_D A (wX ct ad n ro S) → va_S A s.heap H locs → lv_has ls 8 [(0, .ref (ad 8)), (1, .int x1), (2, .int x2), (3, .int x3), (4, .int x4)] → W p l e R s m args below meth c H locs 0 0 QQ (F0 m 8 ls [])) (x1 : Int32) (x2 : Int32) (x3 : Int32) (x4 : Int32) (x6 : Int32) (S : St) (H : Heap) (locs : List Loc) (ls : Array Slot), bX5_fence_65 k8 Q x1 x2 x3 x4 x6 S → va_P g vwCl (wX ct ad n ro S) H → va_D A (wX ct ad n ro S) → va_S A s.heap H locs → lv_has ls 8 [(0, .ref (ad 8)), (1, .int x1), (2, .int x2), (3, .int x3), (4, .int x4), (6, .int x6)] → W p l e R s m args below meth c H locs 0 0 QQ (F0 m 65 ls []) := by
    intro k8 hk8 x1 x2 x3 x4 x6 S H locs ls h hP hD hS hl
    refine lv_iconst (v := 0) C.1 C.2.1 dX5_fence_65 (by decide) ?_
    exact B66 k8 hk8 x1 x2 x3 x4 x6 (0 : Int32) S H locs ls h hP hD hS (lv_sub hl [0, 1, 2, 3, 4, 5] rfl)
  have B45 : ∀ (k8 : Int32 → Int32 → Int32 → Int32 → St → Prop) (hk8 : ∀ (x1 : Int32) (x2 : Int32) (x3 : Int32) (x4 : Int32) (S : St) (H : Heap) (locs : List Loc) (ls : Array Slot), k8 x1 x2 x3 x4 S → va_P g vwCl (wX ct ad n ro S) H → va_D A (wX ct ad n ro S) → va_S A s.heap H locs → lv_has ls 8 [(0, .ref (ad 8)), (1, .int x1), (2, .int x2), (3, .int x3), (4, .int x4)] → W p l e R s m args below meth c H locs 0 0 QQ (F0 m 8 ls [])) (x1 : Int32) (x2 : Int32) (x3 : Int32) (x4 : Int32) (x5 : Nat) (t0 : Int32) (hx5 : x5 < 6) (S : St) (H : Heap) (locs : List Loc) (ls : Array Slot), bX5_fence_45 k8 Q x1 x2 x3 x4 x5 t0 S → va_P g vwCl (wX ct ad n ro S) H → va_D A (wX ct ad n ro S) → va_S A s.heap H locs → lv_has ls 8 [(0, .ref (ad 8)), (1, .int x1), (2, .int x2), (3, .int x3), (4, .int x4), (5, .ref (ad (20 + x5)))] → W p l e R s m args below meth c H locs 0 0 QQ (F0 m 45 ls [.int t0]) := by
    intro k8 hk8 x1 x2 x3 x4 x5 t0 hx5 S H locs ls h hP hD hS hl
    refine lv_istore (lv' := [(6, .int t0), (0, .ref (ad 8)), (1, .int x1), (2, .int x2), (3, .int x3), (4, .int x4), (5, .ref (ad (20 + x5)))]) C.1 C.2.1 dX5_fence_45 hl (by decide) rfl (fun ls hl => ?_)
    refine lv_aload C.1 C.2.1 dX5_fence_47 (lv_at hl 6 rfl) ?_
    refine xg0_writes hx5 C hinX0 hK hP (hN _ (by decide +kernel)) dX5_fence_49 ?_
    refine lv_if_eq (tgt := 65) C.1 C.2.1 dX5_fence_52 (by decide) (fun c9 => ?_) (fun c9 => ?_)
    · have h := h.1 c9
      exact B65 k8 hk8 x1 x2 x3 x4 t0 S H locs ls h hP hD hS (lv_sub hl [1, 2, 3, 4, 5, 0] rfl)
    · have h := h.2 c9
      refine lv_iload_n C.1 C.2.1 dX5_fence_55 rfl (lv_at hl 2 rfl) ?_
      refine lv_iconst (v := 2) C.1 C.2.1 dX5_fence_56 (by decide) ?_
      refine lv_iand C.1 C.2.1 dX5_fence_57 ?_
      refine lv_if_eq (tgt := 65) C.1 C.2.1 dX5_fence_58 (by decide) (fun c8 => ?_) (fun c8 => ?_)
      · have h := h.1 c8
        exact B65 k8 hk8 x1 x2 x3 x4 t0 S H locs ls h hP hD hS (lv_sub hl [1, 2, 3, 4, 5, 0] rfl)
      · have h := h.2 c8
        refine lv_iconst (v := 1) C.1 C.2.1 dX5_fence_61 (by decide) ?_
        refine lv_goto (tgt := 66) C.1 C.2.1 dX5_fence_62 (by decide) ?_
        exact B66 k8 hk8 x1 x2 x3 x4 t0 (1 : Int32) S H locs ls h hP hD hS (lv_sub hl [1, 2, 3, 4, 5, 0] rfl)
  have B44 : ∀ (k8 : Int32 → Int32 → Int32 → Int32 → St → Prop) (hk8 : ∀ (x1 : Int32) (x2 : Int32) (x3 : Int32) (x4 : Int32) (S : St) (H : Heap) (locs : List Loc) (ls : Array Slot), k8 x1 x2 x3 x4 S → va_P g vwCl (wX ct ad n ro S) H → va_D A (wX ct ad n ro S) → va_S A s.heap H locs → lv_has ls 8 [(0, .ref (ad 8)), (1, .int x1), (2, .int x2), (3, .int x3), (4, .int x4)] → W p l e R s m args below meth c H locs 0 0 QQ (F0 m 8 ls [])) (x1 : Int32) (x2 : Int32) (x3 : Int32) (x4 : Int32) (x5 : Nat) (hx5 : x5 < 6) (S : St) (H : Heap) (locs : List Loc) (ls : Array Slot), bX5_fence_44 k8 Q x1 x2 x3 x4 x5 S → va_P g vwCl (wX ct ad n ro S) H → va_D A (wX ct ad n ro S) → va_S A s.heap H locs → lv_has ls 8 [(0, .ref (ad 8)), (1, .int x1), (2, .int x2), (3, .int x3), (4, .int x4), (5, .ref (ad (20 + x5)))] → W p l e R s m args below meth c H locs 0 0 QQ (F0 m 44 ls []) := by
    intro k8 hk8 x1 x2 x3 x4 x5 hx5 S H locs ls h hP hD hS hl
    refine lv_iconst (v := 0) C.1 C.2.1 dX5_fence_44 (by decide) ?_
    exact B45 k8 hk8 x1 x2 x3 x4 x5 (0 : Int32) hx5 S H locs ls h hP hD hS (lv_sub hl [0, 1, 2, 3, 4, 5] rfl)
  have B8 : ∀ (k8 : Int32 → Int32 → Int32 → Int32 → St → Prop) (hk8 : ∀ (x1 : Int32) (x2 : Int32) (x3 : Int32) (x4 : Int32) (S : St) (H : Heap) (locs : List Loc) (ls : Array Slot), k8 x1 x2 x3 x4 S → va_P g vwCl (wX ct ad n ro S) H → va_D A (wX ct ad n ro S) → va_S A s.heap H locs → lv_has ls 8 [(0, .ref (ad 8)), (1, .int x1), (2, .int x2), (3, .int x3), (4, .int x4)] → W p l e R s m args below meth c H locs 0 0 QQ (F0 m 8 ls [])) (x1 : Int32) (x2 : Int32) (x3 : Int32) (x4 : Int32) (S : St) (H : Heap) (locs : List Loc) (ls : Array Slot), bX5_fence_8 k8 Q x1 x2 x3 x4 S → va_P g vwCl (wX ct ad n ro S) H → va_D A (wX ct ad n ro S) → va_S A s.heap H locs → lv_has ls 8 [(0, .ref (ad 8)), (1, .int x1), (2, .int x2), (3, .int x3), (4, .int x4)] → W p l e R s m args below meth c H locs 0 0 QQ (F0 m 8 ls []) := by
    intro k8 hk8 x1 x2 x3 x4 S H locs ls h hP hD hS hl
    refine lv_iload C.1 C.2.1 dX5_fence_8 (lv_at hl 4 rfl) ?_
    refine lv_aload_n C.1 C.2.1 dX5_fence_10 rfl (lv_at hl 0 rfl) ?_
    refine xg5_size C hinX5 hK hP (by decide +kernel) dX5_fence_11 ?_
    refine lv_icmp_ge (tgt := 95) C.1 C.2.1 dX5_fence_14 (by decide) (fun c15 => ?_) (fun c15 => ?_)
    · have h := h.1 c15
      refine lv_aload_n C.1 C.2.1 dX5_fence_95 rfl (lv_at hl 0 rfl) ?_
      refine lv_dup C.1 C.2.1 dX5_fence_96 rfl ?_
      refine xg5_fencedBeforeReads C hinX5 hK hP (by decide +kernel) dX5_fence_97 ?_
      refine lv_iload_n C.1 C.2.1 dX5_fence_100 rfl (lv_at hl 2 rfl) ?_
      refine lv_iconst (v := 1) C.1 C.2.1 dX5_fence_101 (by decide) ?_
      refine lv_iand C.1 C.2.1 dX5_fence_102 ?_
      refine lv_if_eq (tgt := 110) C.1 C.2.1 dX5_fence_103 (by decide) (fun c10 => ?_) (fun c10 => ?_)
      · have h := h.1 c10
        refine lv_iconst (v := 0) C.1 C.2.1 dX5_fence_110 (by decide) ?_
        exact B111 x2 x3 (S.1 14 0) (0 : Int32) S H locs ls h hP hD hS (lv_sub hl [0, 2, 3] rfl)
      · have h := h.2 c10
        refine lv_iload_n C.1 C.2.1 dX5_fence_106 rfl (lv_at hl 3 rfl) ?_
        refine lv_goto (tgt := 111) C.1 C.2.1 dX5_fence_107 (by decide) ?_
        exact B111 x2 x3 (S.1 14 0) x3 S H locs ls h hP hD hS (lv_sub hl [0, 2, 3] rfl)
    · have h := h.2 c15
      refine lv_aload_n C.1 C.2.1 dX5_fence_17 rfl (lv_at hl 0 rfl) ?_
      refine xg5_accesses C hinX5 hK hP (by decide +kernel) dX5_fence_18 ?_
      refine lv_iload C.1 C.2.1 dX5_fence_21 (lv_at hl 4 rfl) ?_
      obtain ⟨g12, h⟩ := h
      obtain ⟨i11, ei11⟩ : ∃ z : Nat, z = Int32.toNatClampNeg x4 := ⟨_, rfl⟩
      have h := h i11 ei11
      have hi11 : i11 < 6 := by rw [ei11]; exact lt_in g12
      refine xq_acc C hK hP g12 ei11 dX5_fence_23 ?_
      refine lv_astore (lv' := [(5, .ref (ad (20 + i11))), (0, .ref (ad 8)), (1, .int x1), (2, .int x2), (3, .int x3), (4, .int x4)]) C.1 C.2.1 dX5_fence_24 hl (by decide) rfl (fun ls hl => ?_)
      refine lv_aload C.1 C.2.1 dX5_fence_26 (lv_at hl 0 rfl) ?_
      refine xg0_reads hi11 C hinX0 hK hP (hN _ (by decide +kernel)) dX5_fence_28 ?_
      refine lv_if_eq (tgt := 44) C.1 C.2.1 dX5_fence_31 (by decide) (fun c14 => ?_) (fun c14 => ?_)
      · have h := h.1 c14
        exact B44 k8 hk8 x1 x2 x3 x4 i11 hi11 S H locs ls h hP hD hS (lv_sub hl [1, 2, 3, 4, 5, 0] rfl)
      · have h := h.2 c14
        refine lv_iload_n C.1 C.2.1 dX5_fence_34 rfl (lv_at hl 2 rfl) ?_
        refine lv_iconst (v := 1) C.1 C.2.1 dX5_fence_35 (by decide) ?_
        refine lv_iand C.1 C.2.1 dX5_fence_36 ?_
        refine lv_if_eq (tgt := 44) C.1 C.2.1 dX5_fence_37 (by decide) (fun c13 => ?_) (fun c13 => ?_)
        · have h := h.1 c13
          exact B44 k8 hk8 x1 x2 x3 x4 i11 hi11 S H locs ls h hP hD hS (lv_sub hl [1, 2, 3, 4, 5, 0] rfl)
        · have h := h.2 c13
          refine lv_iconst (v := 1) C.1 C.2.1 dX5_fence_40 (by decide) ?_
          refine lv_goto (tgt := 45) C.1 C.2.1 dX5_fence_41 (by decide) ?_
          exact B45 k8 hk8 x1 x2 x3 x4 i11 (1 : Int32) hi11 S H locs ls h hP hD hS (lv_sub hl [1, 2, 3, 4, 5, 0] rfl)
  have L8 : ∀ (N : Nat) (x1 : Int32) (x2 : Int32) (x3 : Int32) (x4 : Int32) (S : St) (H : Heap) (locs : List Loc) (ls : Array Slot), itr (F := Int32 → Int32 → Int32 → Int32 → St → Prop) (fun _ _ _ _ _ => False) (fun k8 x1 x2 x3 x4 S => bX5_fence_8 k8 Q x1 x2 x3 x4 S) N x1 x2 x3 x4 S → va_P g vwCl (wX ct ad n ro S) H → va_D A (wX ct ad n ro S) → va_S A s.heap H locs → lv_has ls 8 [(0, .ref (ad 8)), (1, .int x1), (2, .int x2), (3, .int x3), (4, .int x4)] → W p l e R s m args below meth c H locs 0 0 QQ (F0 m 8 ls []) := by
    intro N
    induction N with
    | zero => intro x1 x2 x3 x4 S H locs ls h hP hD hS hl; exact False.elim h
    | succ N ih => intro x1 x2 x3 x4 S H locs ls h hP hD hS hl; exact B8  (itr (F := Int32 → Int32 → Int32 → Int32 → St → Prop) (fun _ _ _ _ _ => False) (fun k8 x1 x2 x3 x4 S => bX5_fence_8 k8 Q x1 x2 x3 x4 S) N) ih x1 x2 x3 x4 S H locs ls h  hP hD hS hl
  refine lv_iconst (v := 0) C.1 C.2.1 dX5_fence_0 (by decide) ?_
  refine lv_istore_n (lv' := [(3, .int (0 : Int32)), (0, .ref (ad 8)), (1, .int x1), (2, .int x2)]) C.1 C.2.1 dX5_fence_1 rfl hl (by decide) rfl (fun ls hl => ?_)
  refine lv_aload_n C.1 C.2.1 dX5_fence_2 rfl (lv_at hl 1 rfl) ?_
  refine xg5_first C hinX5 hK hP (by decide +kernel) dX5_fence_3 ?_
  refine lv_topi (fun y16 ey16 => ?_)
  have h := h y16 ey16
  refine lv_istore (lv' := [(4, .int y16), (3, .int (0 : Int32)), (0, .ref (ad 8)), (1, .int x1), (2, .int x2)]) C.1 C.2.1 dX5_fence_6 hl (by decide) rfl (fun ls hl => ?_)
  obtain ⟨N, h⟩ := h
  exact L8 N x1 x2 (0 : Int32) y16 S H locs ls h hP hD hS (lv_sub hl [2, 3, 4, 1, 0] rfl)
theorem mX5_fence (l : Launch) (g : va_G) (ct : Nat → ClassId) (ad : Nat → Nat) (n ro sz : Nat) (S : St) (x1 : Int32) (x2 : Int32) (Q : St → Prop) (h : pX5_fence x1 x2 S Q) : Met l yX5_fence wsX5_fence ({ frames := 0, cells := 0, slots := 0, locals := 0 }) (gPc g (xT ct) (wX ct ad n ro S) sz [.ref (ad 8), .int x1, .int x2]) (va_Qv Q (gB g (xT ct) (wX ct ad n ro) (va_A (wX ct ad n ro S) sz)) (va_A (wX ct ad n ro S) sz)) 0 0 (va_A (wX ct ad n ro S) sz) :=
  g_metV (w := wX ct ad n ro) (cc := cX5_fence) (maxL := 8) (by decide) rfl rfl (Nat.le_of_ble_eq_true rfl) rfl (fun p e s m args below meth c QQ A C hK hN hA hret H locs ls hP hD hS hl => kX5_fence C hK hN hA (Nat.le_refl _) (Nat.le_refl _) Q hret x1 x2 S h H locs ls hP hD hS hl)

def pX5_setRegister (x1 : Int32) (x2 : Int32) (x3 : Int32) (S : St) (Q : St → Prop) : Prop :=
  (vp_in (((S.1 9 0) * (4 : Int32)) + x1) 16 ∧ ∀ S1 : St, S1 = wr S 24 (Int32.toNatClampNeg (((S.1 9 0) * (4 : Int32)) + x1)) (x2 - x2 / (4 : Int32) * (4 : Int32)) → (vp_in (((S1.1 9 0) * (4 : Int32)) + x1) 16 ∧ ∀ S3 : St, S3 = wr S1 25 (Int32.toNatClampNeg (((S1.1 9 0) * (4 : Int32)) + x1)) x3 → Q S3))
set_option maxHeartbeats 40000000 in
set_option maxRecDepth 100000 in
theorem kX5_setRegister {p : Program} {l : Launch} {e : Env} {R : Room} {s : State} {m : MethodId} {args : Array Value} {below : List Frame} {meth : Method} {c : Code} {QQ : State → Prop} {g : va_G} {ct : Nat → ClassId} {ad : Nat → Nat} {n ro : Nat} {A : Nat → Prop} (C : CallFix p m c cX5_setRegister 4 s args wsX5_setRegister RX5) (hK : va_K g vwCl (xT ct) s) (hN : xN s) (hA : ∀ q, s.heap.size ≤ q → A q) (hRf : 0 ≤ R.frames) (hRl : 0 ≤ R.locals) (Q : St → Prop) (hret : ∀ (pc : Nat) (S : St) (H : Heap) (locs : List Loc) (ls : Array Slot), decode cX5_setRegister pc = .ok (.return_, 1) → Q S → va_P g vwCl (wX ct ad n ro S) H → va_D A (wX ct ad n ro S) → va_S A s.heap H locs → W p l e R s m args below meth c H locs 0 0 QQ (F0 m pc ls [])) (x1 : Int32) (x2 : Int32) (x3 : Int32) (S : St) (h : pX5_setRegister x1 x2 x3 S Q) (H : Heap) (locs : List Loc) (ls : Array Slot) (hP : va_P g vwCl (wX ct ad n ro S) H) (hD : va_D A (wX ct ad n ro S)) (hS : va_S A s.heap H locs) (hl : lv_has ls 4 [(0, .ref (ad 8)), (1, .int x1), (2, .int x2), (3, .int x3)]) : W p l e R s m args below meth c H locs 0 0 QQ (F0 m 0 ls []) := by
  have hinX5 : ∀ w ∈ wsX50, w ∈ wsX5_setRegister := by decide +kernel
  refine lv_aload_n C.1 C.2.1 dX5_setRegister_0 rfl (lv_at hl 0 rfl) ?_
  refine xg5_values C hinX5 hK hP (by decide +kernel) dX5_setRegister_1 ?_
  refine lv_aload_n C.1 C.2.1 dX5_setRegister_4 rfl (lv_at hl 0 rfl) ?_
  refine xg5_hart C hinX5 hK hP (by decide +kernel) dX5_setRegister_5 ?_
  refine lv_iconst (v := 4) C.1 C.2.1 dX5_setRegister_8 (by decide) ?_
  refine lv_imul C.1 C.2.1 dX5_setRegister_9 ?_
  refine lv_iload_n C.1 C.2.1 dX5_setRegister_10 rfl (lv_at hl 1 rfl) ?_
  refine lv_iadd C.1 C.2.1 dX5_setRegister_11 ?_
  refine lv_iload_n C.1 C.2.1 dX5_setRegister_12 rfl (lv_at hl 2 rfl) ?_
  refine lv_iconst (v := 4) C.1 C.2.1 dX5_setRegister_13 (by decide) ?_
  refine lv_irem C.1 C.2.1 dX5_setRegister_14 (by decide) ?_
  obtain ⟨g2, h⟩ := h
  obtain ⟨S1, eS1⟩ : ∃ z : St, z = wr S 24 (Int32.toNatClampNeg (((S.1 9 0) * (4 : Int32)) + x1)) (x2 - x2 / (4 : Int32) * (4 : Int32)) := ⟨_, rfl⟩
  have h := h S1 eS1
  refine xs_5_values C hK hP hD hS  g2 rfl dX5_setRegister_15 (fun H locs hP hD hS => ?_)
  rw [← eS1] at hP hD
  refine lv_aload_n C.1 C.2.1 dX5_setRegister_16 rfl (lv_at hl 0 rfl) ?_
  refine xg5_carried C hinX5 hK hP (by decide +kernel) dX5_setRegister_17 ?_
  refine lv_aload_n C.1 C.2.1 dX5_setRegister_20 rfl (lv_at hl 0 rfl) ?_
  refine xg5_hart C hinX5 hK hP (by decide +kernel) dX5_setRegister_21 ?_
  refine lv_iconst (v := 4) C.1 C.2.1 dX5_setRegister_24 (by decide) ?_
  refine lv_imul C.1 C.2.1 dX5_setRegister_25 ?_
  refine lv_iload_n C.1 C.2.1 dX5_setRegister_26 rfl (lv_at hl 1 rfl) ?_
  refine lv_iadd C.1 C.2.1 dX5_setRegister_27 ?_
  refine lv_iload_n C.1 C.2.1 dX5_setRegister_28 rfl (lv_at hl 3 rfl) ?_
  obtain ⟨g4, h⟩ := h
  obtain ⟨S3, eS3⟩ : ∃ z : St, z = wr S1 25 (Int32.toNatClampNeg (((S1.1 9 0) * (4 : Int32)) + x1)) x3 := ⟨_, rfl⟩
  have h := h S3 eS3
  refine xs_5_carried C hK hP hD hS  g4 rfl dX5_setRegister_29 (fun H locs hP hD hS => ?_)
  rw [← eS3] at hP hD
  exact hret _ _ _ _ _ dX5_setRegister_30 h hP hD hS
theorem mX5_setRegister (l : Launch) (g : va_G) (ct : Nat → ClassId) (ad : Nat → Nat) (n ro sz : Nat) (S : St) (x1 : Int32) (x2 : Int32) (x3 : Int32) (Q : St → Prop) (h : pX5_setRegister x1 x2 x3 S Q) : Met l yX5_setRegister wsX5_setRegister ({ frames := 0, cells := 0, slots := 0, locals := 0 }) (gPc g (xT ct) (wX ct ad n ro S) sz [.ref (ad 8), .int x1, .int x2, .int x3]) (va_Qv Q (gB g (xT ct) (wX ct ad n ro) (va_A (wX ct ad n ro S) sz)) (va_A (wX ct ad n ro S) sz)) 0 0 (va_A (wX ct ad n ro S) sz) :=
  g_metV (w := wX ct ad n ro) (cc := cX5_setRegister) (maxL := 4) (by decide) rfl rfl (Nat.le_of_ble_eq_true rfl) rfl (fun p e s m args below meth c QQ A C hK hN hA hret H locs ls hP hD hS hl => kX5_setRegister C hK hN hA (Nat.le_refl _) (Nat.le_refl _) Q hret x1 x2 x3 S h H locs ls hP hD hS hl)

def bX5_place_18 (Q : Int32 → St → Prop) (t0 : Int32) (S : St) : Prop :=
  Q t0 S
def pX5_place (x1 : Int32) (x2 : Int32) (S : St) (Q : Int32 → St → Prop) : Prop :=
  ((¬ x2 = (-1 : Int32) → pX5_valueOf x2 S (fun (r2 : Int32) (S1 : St) => bX5_place_18 Q ((x1 + r2) - (x1 + r2) / (3 : Int32) * (3 : Int32)) S1)) ∧ (x2 = (-1 : Int32) → bX5_place_18 Q x1 S))
set_option maxHeartbeats 40000000 in
set_option maxRecDepth 100000 in
theorem kX5_place {p : Program} {l : Launch} {e : Env} {R : Room} {s : State} {m : MethodId} {args : Array Value} {below : List Frame} {meth : Method} {c : Code} {QQ : State → Prop} {g : va_G} {ct : Nat → ClassId} {ad : Nat → Nat} {n ro : Nat} {A : Nat → Prop} (C : CallFix p m c cX5_place 3 s args wsX5_place RX5) (hK : va_K g vwCl (xT ct) s) (hN : xN s) (hA : ∀ q, s.heap.size ≤ q → A q) (hRf : 1 ≤ R.frames) (hRl : 21 ≤ R.locals) (Q : Int32 → St → Prop) (hret : ∀ (pc : Nat) (r : Int32) (S : St) (H : Heap) (locs : List Loc) (ls : Array Slot), decode cX5_place pc = .ok (.ireturn, 1) → Q r S → va_P g vwCl (wX ct ad n ro S) H → va_D A (wX ct ad n ro S) → va_S A s.heap H locs → W p l e R s m args below meth c H locs 0 0 QQ (F0 m pc ls [.int r])) (x1 : Int32) (x2 : Int32) (S : St) (h : pX5_place x1 x2 S Q) (H : Heap) (locs : List Loc) (ls : Array Slot) (hP : va_P g vwCl (wX ct ad n ro S) H) (hD : va_D A (wX ct ad n ro S)) (hS : va_S A s.heap H locs) (hl : lv_has ls 3 [(0, .ref (ad 8)), (1, .int x1), (2, .int x2)]) : W p l e R s m args below meth c H locs 0 0 QQ (F0 m 0 ls []) := by
  have B18 : ∀ (t0 : Int32) (S : St) (H : Heap) (locs : List Loc) (ls : Array Slot), bX5_place_18 Q t0 S → va_P g vwCl (wX ct ad n ro S) H → va_D A (wX ct ad n ro S) → va_S A s.heap H locs → lv_has ls 3 [(0, .ref (ad 8))] → W p l e R s m args below meth c H locs 0 0 QQ (F0 m 18 ls [.int t0]) := by
    intro t0 S H locs ls h hP hD hS hl
    exact hret _ _ _ _ _ _ dX5_place_18 h hP hD hS
  refine lv_iload_n C.1 C.2.1 dX5_place_0 rfl (lv_at hl 2 rfl) ?_
  refine lv_iconst (v := -1) C.1 C.2.1 dX5_place_1 (by decide) ?_
  refine lv_icmp_ne (tgt := 9) C.1 C.2.1 dX5_place_2 (by decide) (fun c3 => ?_) (fun c3 => ?_)
  · have h := h.1 c3
    refine lv_iload_n C.1 C.2.1 dX5_place_9 rfl (lv_at hl 1 rfl) ?_
    refine lv_aload_n C.1 C.2.1 dX5_place_10 rfl (lv_at hl 0 rfl) ?_
    refine lv_iload_n C.1 C.2.1 dX5_place_11 rfl (lv_at hl 2 rfl) ?_
    refine g_callVi (w := wX ct ad n ro) C hK hN hA hP hD hS (mX5_valueOf l g ct ad n ro H.size S x2  _ h) (cwV 1 C.2.2.2.2 gX5_place_X5_valueOf rfl rfl rfl (by decide +kernel) ⟨Nat.le_trans (by decide) hRf, Nat.le_trans (by decide) hRl⟩) (va_recv hK hP (ci := 5) (q0 := 8) rfl rfl) rfl hl.1 rfl (Nat.le_of_ble_eq_true rfl) dX5_place_12 ⟨Nat.zero_le _, Nat.zero_le _⟩ (fun r2 S1 H locs h hP hD hS => ?_)
    refine lv_iadd C.1 C.2.1 dX5_place_15 ?_
    refine lv_iconst (v := 3) C.1 C.2.1 dX5_place_16 (by decide) ?_
    refine lv_irem C.1 C.2.1 dX5_place_17 (by decide) ?_
    exact B18 ((x1 + r2) - (x1 + r2) / (3 : Int32) * (3 : Int32)) S1 H locs ls h hP hD hS (lv_sub hl [0] rfl)
  · have h := h.2 c3
    refine lv_iload_n C.1 C.2.1 dX5_place_5 rfl (lv_at hl 1 rfl) ?_
    refine lv_goto (tgt := 18) C.1 C.2.1 dX5_place_6 (by decide) ?_
    exact B18 x1 S H locs ls h hP hD hS (lv_sub hl [0] rfl)
theorem mX5_place (l : Launch) (g : va_G) (ct : Nat → ClassId) (ad : Nat → Nat) (n ro sz : Nat) (S : St) (x1 : Int32) (x2 : Int32) (Q : Int32 → St → Prop) (h : pX5_place x1 x2 S Q) : Met l yX5_place wsX5_place ({ frames := 1, cells := 0, slots := 0, locals := 21 }) (gPc g (xT ct) (wX ct ad n ro S) sz [.ref (ad 8), .int x1, .int x2]) (va_Qi Q (gB g (xT ct) (wX ct ad n ro) (va_A (wX ct ad n ro S) sz)) (va_A (wX ct ad n ro S) sz)) 0 0 (va_A (wX ct ad n ro S) sz) :=
  g_metI (w := wX ct ad n ro) (cc := cX5_place) (maxL := 3) (by decide) rfl rfl (Nat.le_of_ble_eq_true rfl) rfl (fun p e s m args below meth c QQ A C hK hN hA hret H locs ls hP hD hS hl => kX5_place C hK hN hA (Nat.le_refl _) (Nat.le_refl _) Q hret x1 x2 S h H locs ls hP hD hS hl)

def bX5_fails_60 (Q : Int32 → St → Prop) (t0 : Int32) (S : St) : Prop :=
  (zb t0 ∧ Q t0 S)
def bX5_fails_55 (Q : Int32 → St → Prop) (S : St) : Prop :=
  bX5_fails_60 Q (1 : Int32) S
def bX5_fails_38 (Q : Int32 → St → Prop) (t0 : Int32) (S : St) : Prop :=
  ((t0 = 0 → bX5_fails_55 Q  S) ∧ (¬ (t0 = 0) → pX1_choose (2 : Int32) S (fun (r2 : Int32) (S1 : St) => ((¬ r2 = (1 : Int32) → bX5_fails_60 Q (0 : Int32) S1) ∧ (r2 = (1 : Int32) → bX5_fails_55 Q  S1)))))
def bX5_fails_37 (Q : Int32 → St → Prop) (S : St) : Prop :=
  bX5_fails_38 Q (0 : Int32) S
def pX5_fails (x1 : Nat) (S : St) (Q : Int32 → St → Prop) : Prop :=
  (((S.1 11 0) = (-1 : Int32) → bX5_fails_37 Q  S) ∧ (¬ ((S.1 11 0) = (-1 : Int32)) → (vp_in (S.1 11 0) 6 ∧ ∀ i5 : Nat, i5 = Int32.toNatClampNeg (S.1 11 0) → pX5_place (S.2.1 x1 3) (S.2.1 x1 4) S (fun (r8 : Int32) (S7 : St) => ((¬ (S.1 32 i5) = r8 → bX5_fails_37 Q  S7) ∧ ((S.1 32 i5) = r8 → bX5_fails_38 Q (1 : Int32) S7))))))
set_option maxHeartbeats 40000000 in
set_option maxRecDepth 100000 in
theorem kX5_fails {p : Program} {l : Launch} {e : Env} {R : Room} {s : State} {m : MethodId} {args : Array Value} {below : List Frame} {meth : Method} {c : Code} {QQ : State → Prop} {g : va_G} {ct : Nat → ClassId} {ad : Nat → Nat} {n ro : Nat} {A : Nat → Prop} (C : CallFix p m c cX5_fails 3 s args wsX5_fails RX5) (hK : va_K g vwCl (xT ct) s) (hN : xN s) (hA : ∀ q, s.heap.size ≤ q → A q) (hRf : 2 ≤ R.frames) (hRl : 43 ≤ R.locals) (Q : Int32 → St → Prop) (hret : ∀ (pc : Nat) (r : Int32) (S : St) (H : Heap) (locs : List Loc) (ls : Array Slot), decode cX5_fails pc = .ok (.ireturn, 1) → zb r → Q r S → va_P g vwCl (wX ct ad n ro S) H → va_D A (wX ct ad n ro S) → va_S A s.heap H locs → W p l e R s m args below meth c H locs 0 0 QQ (F0 m pc ls [.int r])) (x1 : Nat) (hx1 : x1 < 24) (S : St) (h : pX5_fails x1 S Q) (H : Heap) (locs : List Loc) (ls : Array Slot) (hP : va_P g vwCl (wX ct ad n ro S) H) (hD : va_D A (wX ct ad n ro S)) (hS : va_S A s.heap H locs) (hl : lv_has ls 3 [(0, .ref (ad 8)), (1, .ref (ad (30 + x1)))]) : W p l e R s m args below meth c H locs 0 0 QQ (F0 m 0 ls []) := by
  have hinX0 : ∀ w ∈ wsX00, w ∈ wsX5_fails := by decide +kernel
  have hinX5 : ∀ w ∈ wsX50, w ∈ wsX5_fails := by decide +kernel
  have B60 : ∀ (t0 : Int32) (S : St) (H : Heap) (locs : List Loc) (ls : Array Slot), bX5_fails_60 Q t0 S → va_P g vwCl (wX ct ad n ro S) H → va_D A (wX ct ad n ro S) → va_S A s.heap H locs → lv_has ls 3 [(0, .ref (ad 8))] → W p l e R s m args below meth c H locs 0 0 QQ (F0 m 60 ls [.int t0]) := by
    intro t0 S H locs ls h hP hD hS hl
    exact hret _ _ _ _ _ _ dX5_fails_60 h.1 h.2 hP hD hS
  have B55 : ∀ (S : St) (H : Heap) (locs : List Loc) (ls : Array Slot), bX5_fails_55 Q S → va_P g vwCl (wX ct ad n ro S) H → va_D A (wX ct ad n ro S) → va_S A s.heap H locs → lv_has ls 3 [(0, .ref (ad 8))] → W p l e R s m args below meth c H locs 0 0 QQ (F0 m 55 ls []) := by
    intro S H locs ls h hP hD hS hl
    refine lv_iconst (v := 1) C.1 C.2.1 dX5_fails_55 (by decide) ?_
    refine lv_goto (tgt := 60) C.1 C.2.1 dX5_fails_56 (by decide) ?_
    exact B60 (1 : Int32) S H locs ls h hP hD hS (lv_sub hl [0] rfl)
  have B38 : ∀ (t0 : Int32) (S : St) (H : Heap) (locs : List Loc) (ls : Array Slot), bX5_fails_38 Q t0 S → va_P g vwCl (wX ct ad n ro S) H → va_D A (wX ct ad n ro S) → va_S A s.heap H locs → lv_has ls 3 [(0, .ref (ad 8))] → W p l e R s m args below meth c H locs 0 0 QQ (F0 m 38 ls [.int t0]) := by
    intro t0 S H locs ls h hP hD hS hl
    refine lv_istore_n (lv' := [(2, .int t0), (0, .ref (ad 8))]) C.1 C.2.1 dX5_fails_38 rfl hl (by decide) rfl (fun ls hl => ?_)
    refine lv_iload_n C.1 C.2.1 dX5_fails_39 rfl (lv_at hl 0 rfl) ?_
    refine lv_if_eq (tgt := 55) C.1 C.2.1 dX5_fails_40 (by decide) (fun c4 => ?_) (fun c4 => ?_)
    · have h := h.1 c4
      exact B55  S H locs ls h hP hD hS (lv_sub hl [1] rfl)
    · have h := h.2 c4
      refine lv_aload_n C.1 C.2.1 dX5_fails_43 rfl (lv_at hl 1 rfl) ?_
      refine xg5_choices C hinX5 hK hP (by decide +kernel) dX5_fails_44 ?_
      refine lv_iconst (v := 2) C.1 C.2.1 dX5_fails_47 (by decide) ?_
      refine g_callVi (w := wX ct ad n ro) C hK hN hA hP hD hS (mX1_choose l g ct ad n ro H.size S (2 : Int32)  _ h) (cwV 1 C.2.2.2.2 gX5_fails_X1_choose rfl rfl rfl (by decide +kernel) ⟨Nat.le_trans (by decide) hRf, Nat.le_trans (by decide) hRl⟩) (va_recv hK hP (ci := 1) (q0 := 5) rfl rfl) rfl hl.1 rfl (Nat.le_of_ble_eq_true rfl) dX5_fails_48 ⟨Nat.zero_le _, Nat.zero_le _⟩ (fun r2 S1 H locs h hP hD hS => ?_)
      refine lv_iconst (v := 1) C.1 C.2.1 dX5_fails_51 (by decide) ?_
      refine lv_icmp_ne (tgt := 59) C.1 C.2.1 dX5_fails_52 (by decide) (fun c3 => ?_) (fun c3 => ?_)
      · have h := h.1 c3
        refine lv_iconst (v := 0) C.1 C.2.1 dX5_fails_59 (by decide) ?_
        exact B60 (0 : Int32) S1 H locs ls h hP hD hS (lv_sub hl [1] rfl)
      · have h := h.2 c3
        exact B55  S1 H locs ls h hP hD hS (lv_sub hl [1] rfl)
  have B37 : ∀ (S : St) (H : Heap) (locs : List Loc) (ls : Array Slot), bX5_fails_37 Q S → va_P g vwCl (wX ct ad n ro S) H → va_D A (wX ct ad n ro S) → va_S A s.heap H locs → lv_has ls 3 [(0, .ref (ad 8))] → W p l e R s m args below meth c H locs 0 0 QQ (F0 m 37 ls []) := by
    intro S H locs ls h hP hD hS hl
    refine lv_iconst (v := 0) C.1 C.2.1 dX5_fails_37 (by decide) ?_
    exact B38 (0 : Int32) S H locs ls h hP hD hS (lv_sub hl [0] rfl)
  refine lv_aload_n C.1 C.2.1 dX5_fails_0 rfl (lv_at hl 0 rfl) ?_
  refine xg5_reserve C hinX5 hK hP (by decide +kernel) dX5_fails_1 ?_
  refine lv_iconst (v := -1) C.1 C.2.1 dX5_fails_4 (by decide) ?_
  refine lv_icmp_eq (tgt := 37) C.1 C.2.1 dX5_fails_5 (by decide) (fun c10 => ?_) (fun c10 => ?_)
  · have h := h.1 c10
    exact B37  S H locs ls h hP hD hS (lv_sub hl [0] rfl)
  · have h := h.2 c10
    refine lv_aload_n C.1 C.2.1 dX5_fails_8 rfl (lv_at hl 0 rfl) ?_
    refine xg5_accesses C hinX5 hK hP (by decide +kernel) dX5_fails_9 ?_
    refine lv_aload_n C.1 C.2.1 dX5_fails_12 rfl (lv_at hl 0 rfl) ?_
    refine xg5_reserve C hinX5 hK hP (by decide +kernel) dX5_fails_13 ?_
    obtain ⟨g6, h⟩ := h
    obtain ⟨i5, ei5⟩ : ∃ z : Nat, z = Int32.toNatClampNeg (S.1 11 0) := ⟨_, rfl⟩
    have h := h i5 ei5
    have hi5 : i5 < 6 := by rw [ei5]; exact lt_in g6
    refine xq_acc C hK hP g6 ei5 dX5_fails_16 ?_
    refine xg0_location hi5 C hinX0 hK hP (hN _ (by decide +kernel)) dX5_fails_17 ?_
    refine lv_aload_n C.1 C.2.1 dX5_fails_20 rfl (lv_at hl 0 rfl) ?_
    refine lv_aload_n C.1 C.2.1 dX5_fails_21 rfl (lv_at hl 1 rfl) ?_
    refine lv_iconst (v := 3) C.1 C.2.1 dX5_fails_22 (by decide) ?_
    refine xa_row hx1 C hK hP (j := 3) (by unfold vp_in; decide) (by decide) dX5_fails_23 ?_
    refine lv_aload_n C.1 C.2.1 dX5_fails_24 rfl (lv_at hl 1 rfl) ?_
    refine lv_iconst (v := 4) C.1 C.2.1 dX5_fails_25 (by decide) ?_
    refine xa_row hx1 C hK hP (j := 4) (by unfold vp_in; decide) (by decide) dX5_fails_26 ?_
    refine g_callVi (w := wX ct ad n ro) C hK hN hA hP hD hS (mX5_place l g ct ad n ro H.size S (S.2.1 x1 3) (S.2.1 x1 4)  _ h) (cwV 2 C.2.2.2.2 gX5_fails_X5_place rfl rfl rfl (by decide +kernel) ⟨Nat.le_trans (by decide) hRf, Nat.le_trans (by decide) hRl⟩) (va_recv hK hP (ci := 5) (q0 := 8) rfl rfl) rfl hl.1 rfl (Nat.le_of_ble_eq_true rfl) dX5_fails_27 ⟨Nat.zero_le _, Nat.zero_le _⟩ (fun r8 S7 H locs h hP hD hS => ?_)
    refine lv_icmp_ne (tgt := 37) C.1 C.2.1 dX5_fails_30 (by decide) (fun c9 => ?_) (fun c9 => ?_)
    · have h := h.1 c9
      exact B37  S7 H locs ls h hP hD hS (lv_sub hl [0] rfl)
    · have h := h.2 c9
      refine lv_iconst (v := 1) C.1 C.2.1 dX5_fails_33 (by decide) ?_
      refine lv_goto (tgt := 38) C.1 C.2.1 dX5_fails_34 (by decide) ?_
      exact B38 (1 : Int32) S7 H locs ls h hP hD hS (lv_sub hl [0] rfl)
theorem mX5_fails (l : Launch) (g : va_G) (ct : Nat → ClassId) (ad : Nat → Nat) (n ro sz : Nat) (S : St) (x1 : Nat) (hx1 : x1 < 24) (Q : Int32 → St → Prop) (h : pX5_fails x1 S Q) : Met l yX5_fails wsX5_fails ({ frames := 2, cells := 0, slots := 0, locals := 43 }) (gPc g (xT ct) (wX ct ad n ro S) sz [.ref (ad 8), .ref (ad (30 + x1))]) (va_Qi Q (gB g (xT ct) (wX ct ad n ro) (va_A (wX ct ad n ro S) sz)) (va_A (wX ct ad n ro S) sz)) 0 0 (va_A (wX ct ad n ro S) sz) :=
  g_metZ (w := wX ct ad n ro) (cc := cX5_fails) (maxL := 3) (by decide) rfl rfl (Nat.le_of_ble_eq_true rfl) rfl (fun p e s m args below meth c QQ A C hK hN hA hret H locs ls hP hD hS hl => kX5_fails C hK hN hA (Nat.le_refl _) (Nat.le_refl _) Q hret x1 hx1 S h H locs ls hP hD hS hl)

def bX6_isReader_24 (Q : Int32 → Prop) (t0 : Int32) : Prop :=
  (zb t0 ∧ Q t0)
def bX6_isReader_19 (Q : Int32 → Prop) : Prop :=
  bX6_isReader_24 Q (1 : Int32)
def pX6_isReader (x0 : Int32) (Q : Int32 → Prop) : Prop :=
  ((x0 = 0 → bX6_isReader_19 Q ) ∧ (¬ (x0 = 0) → ((x0 = (2 : Int32) → bX6_isReader_19 Q ) ∧ (¬ (x0 = (2 : Int32)) → ((x0 = (3 : Int32) → bX6_isReader_19 Q ) ∧ (¬ (x0 = (3 : Int32)) → ((¬ x0 = (4 : Int32) → bX6_isReader_24 Q (0 : Int32)) ∧ (x0 = (4 : Int32) → bX6_isReader_19 Q ))))))))
set_option maxHeartbeats 40000000 in
set_option maxRecDepth 100000 in
theorem kX6_isReader {p : Program} {l : Launch} {e : Env} {R : Room} {s : State} {m : MethodId} {args : Array Value} {below : List Frame} {meth : Method} {c : Code} {QQ : State → Prop} {g : va_G} {tys : List (ClassId × FieldType)} {A : Nat → Prop} (C : CallFix p m c cX6_isReader 1 s args wsX6_isReader RX6) (hK : va_K g vwCl (tys) s) (hN : xN s) (hA : ∀ q, s.heap.size ≤ q → A q) (hRf : 0 ≤ R.frames) (hRl : 0 ≤ R.locals) (Q : Int32 → Prop) (hret : ∀ (pc : Nat) (r : Int32) (S : St) (H : Heap) (locs : List Loc) (ls : Array Slot), decode cX6_isReader pc = .ok (.ireturn, 1) → zb r → Q r → va_P g vwCl (w0 S) H → va_D A (w0 S) → va_S A s.heap H locs → W p l e R s m args below meth c H locs 0 0 QQ (F0 m pc ls [.int r])) (x0 : Int32) (S : St) (h : pX6_isReader x0 Q) (H : Heap) (locs : List Loc) (ls : Array Slot) (hP : va_P g vwCl (w0 S) H) (hD : va_D A (w0 S)) (hS : va_S A s.heap H locs) (hl : lv_has ls 1 [(0, .int x0)]) : W p l e R s m args below meth c H locs 0 0 QQ (F0 m 0 ls []) := by
  have B24 : ∀ (t0 : Int32) (S : St) (H : Heap) (locs : List Loc) (ls : Array Slot), bX6_isReader_24 Q t0 → va_P g vwCl (w0 S) H → va_D A (w0 S) → va_S A s.heap H locs → lv_has ls 1 [] → W p l e R s m args below meth c H locs 0 0 QQ (F0 m 24 ls [.int t0]) := by
    intro t0 S H locs ls h hP hD hS hl
    exact hret _ _ _ _ _ _ dX6_isReader_24 h.1 h.2 hP hD hS
  have B19 : ∀ (S : St) (H : Heap) (locs : List Loc) (ls : Array Slot), bX6_isReader_19 Q → va_P g vwCl (w0 S) H → va_D A (w0 S) → va_S A s.heap H locs → lv_has ls 1 [] → W p l e R s m args below meth c H locs 0 0 QQ (F0 m 19 ls []) := by
    intro S H locs ls h hP hD hS hl
    refine lv_iconst (v := 1) C.1 C.2.1 dX6_isReader_19 (by decide) ?_
    refine lv_goto (tgt := 24) C.1 C.2.1 dX6_isReader_20 (by decide) ?_
    exact B24 (1 : Int32) S H locs ls h hP hD hS (lv_sub hl [] rfl)
  refine lv_iload_n C.1 C.2.1 dX6_isReader_0 rfl (lv_at hl 0 rfl) ?_
  refine lv_if_eq (tgt := 19) C.1 C.2.1 dX6_isReader_1 (by decide) (fun c4 => ?_) (fun c4 => ?_)
  · have h := h.1 c4
    exact B19  S H locs ls h hP hD hS (lv_sub hl [] rfl)
  · have h := h.2 c4
    refine lv_iload_n C.1 C.2.1 dX6_isReader_4 rfl (lv_at hl 0 rfl) ?_
    refine lv_iconst (v := 2) C.1 C.2.1 dX6_isReader_5 (by decide) ?_
    refine lv_icmp_eq (tgt := 19) C.1 C.2.1 dX6_isReader_6 (by decide) (fun c3 => ?_) (fun c3 => ?_)
    · have h := h.1 c3
      exact B19  S H locs ls h hP hD hS (lv_sub hl [] rfl)
    · have h := h.2 c3
      refine lv_iload_n C.1 C.2.1 dX6_isReader_9 rfl (lv_at hl 0 rfl) ?_
      refine lv_iconst (v := 3) C.1 C.2.1 dX6_isReader_10 (by decide) ?_
      refine lv_icmp_eq (tgt := 19) C.1 C.2.1 dX6_isReader_11 (by decide) (fun c2 => ?_) (fun c2 => ?_)
      · have h := h.1 c2
        exact B19  S H locs ls h hP hD hS (lv_sub hl [] rfl)
      · have h := h.2 c2
        refine lv_iload_n C.1 C.2.1 dX6_isReader_14 rfl (lv_at hl 0 rfl) ?_
        refine lv_iconst (v := 4) C.1 C.2.1 dX6_isReader_15 (by decide) ?_
        refine lv_icmp_ne (tgt := 23) C.1 C.2.1 dX6_isReader_16 (by decide) (fun c1 => ?_) (fun c1 => ?_)
        · have h := h.1 c1
          refine lv_iconst (v := 0) C.1 C.2.1 dX6_isReader_23 (by decide) ?_
          exact B24 (0 : Int32) S H locs ls h hP hD hS (lv_sub hl [] rfl)
        · have h := h.2 c1
          exact B19  S H locs ls h hP hD hS (lv_sub hl [] rfl)
theorem mX6_isReader (l : Launch) (g : va_G) (tys : List (ClassId × FieldType)) (S : St) (sz : Nat) (x0 : Int32) (Q : Int32 → Prop) (h : pX6_isReader x0 Q) : Met l yX6_isReader wsX6_isReader ({ frames := 0, cells := 0, slots := 0, locals := 0 }) (gPc g (tys) (w0 S) sz [.int x0]) (va_Qi (fun r _ => Q r) (gB g (tys) (w0) (va_A (w0 S) sz)) (va_A (w0 S) sz)) 0 0 (va_A (w0 S) sz) :=
  g_metZ (w := w0) (Q := fun r _ => Q r) (cc := cX6_isReader) (maxL := 1) (by decide) rfl rfl (Nat.le_of_ble_eq_true rfl) rfl (fun p e s m args below meth c QQ A C hK hN hA hret H locs ls hP hD hS hl => kX6_isReader C hK hN hA (Nat.le_refl _) (Nat.le_refl _) Q hret x0 S h H locs ls hP hD hS hl)

def bX6_isWriter_25 (Q : Int32 → Prop) (t0 : Int32) : Prop :=
  (zb t0 ∧ Q t0)
def bX6_isWriter_20 (Q : Int32 → Prop) : Prop :=
  bX6_isWriter_25 Q (1 : Int32)
def pX6_isWriter (x0 : Int32) (Q : Int32 → Prop) : Prop :=
  ((x0 = (1 : Int32) → bX6_isWriter_20 Q ) ∧ (¬ (x0 = (1 : Int32)) → ((x0 = (2 : Int32) → bX6_isWriter_20 Q ) ∧ (¬ (x0 = (2 : Int32)) → ((x0 = (3 : Int32) → bX6_isWriter_20 Q ) ∧ (¬ (x0 = (3 : Int32)) → ((¬ x0 = (5 : Int32) → bX6_isWriter_25 Q (0 : Int32)) ∧ (x0 = (5 : Int32) → bX6_isWriter_20 Q ))))))))
set_option maxHeartbeats 40000000 in
set_option maxRecDepth 100000 in
theorem kX6_isWriter {p : Program} {l : Launch} {e : Env} {R : Room} {s : State} {m : MethodId} {args : Array Value} {below : List Frame} {meth : Method} {c : Code} {QQ : State → Prop} {g : va_G} {tys : List (ClassId × FieldType)} {A : Nat → Prop} (C : CallFix p m c cX6_isWriter 1 s args wsX6_isWriter RX6) (hK : va_K g vwCl (tys) s) (hN : xN s) (hA : ∀ q, s.heap.size ≤ q → A q) (hRf : 0 ≤ R.frames) (hRl : 0 ≤ R.locals) (Q : Int32 → Prop) (hret : ∀ (pc : Nat) (r : Int32) (S : St) (H : Heap) (locs : List Loc) (ls : Array Slot), decode cX6_isWriter pc = .ok (.ireturn, 1) → zb r → Q r → va_P g vwCl (w0 S) H → va_D A (w0 S) → va_S A s.heap H locs → W p l e R s m args below meth c H locs 0 0 QQ (F0 m pc ls [.int r])) (x0 : Int32) (S : St) (h : pX6_isWriter x0 Q) (H : Heap) (locs : List Loc) (ls : Array Slot) (hP : va_P g vwCl (w0 S) H) (hD : va_D A (w0 S)) (hS : va_S A s.heap H locs) (hl : lv_has ls 1 [(0, .int x0)]) : W p l e R s m args below meth c H locs 0 0 QQ (F0 m 0 ls []) := by
  have B25 : ∀ (t0 : Int32) (S : St) (H : Heap) (locs : List Loc) (ls : Array Slot), bX6_isWriter_25 Q t0 → va_P g vwCl (w0 S) H → va_D A (w0 S) → va_S A s.heap H locs → lv_has ls 1 [] → W p l e R s m args below meth c H locs 0 0 QQ (F0 m 25 ls [.int t0]) := by
    intro t0 S H locs ls h hP hD hS hl
    exact hret _ _ _ _ _ _ dX6_isWriter_25 h.1 h.2 hP hD hS
  have B20 : ∀ (S : St) (H : Heap) (locs : List Loc) (ls : Array Slot), bX6_isWriter_20 Q → va_P g vwCl (w0 S) H → va_D A (w0 S) → va_S A s.heap H locs → lv_has ls 1 [] → W p l e R s m args below meth c H locs 0 0 QQ (F0 m 20 ls []) := by
    intro S H locs ls h hP hD hS hl
    refine lv_iconst (v := 1) C.1 C.2.1 dX6_isWriter_20 (by decide) ?_
    refine lv_goto (tgt := 25) C.1 C.2.1 dX6_isWriter_21 (by decide) ?_
    exact B25 (1 : Int32) S H locs ls h hP hD hS (lv_sub hl [] rfl)
  refine lv_iload_n C.1 C.2.1 dX6_isWriter_0 rfl (lv_at hl 0 rfl) ?_
  refine lv_iconst (v := 1) C.1 C.2.1 dX6_isWriter_1 (by decide) ?_
  refine lv_icmp_eq (tgt := 20) C.1 C.2.1 dX6_isWriter_2 (by decide) (fun c4 => ?_) (fun c4 => ?_)
  · have h := h.1 c4
    exact B20  S H locs ls h hP hD hS (lv_sub hl [] rfl)
  · have h := h.2 c4
    refine lv_iload_n C.1 C.2.1 dX6_isWriter_5 rfl (lv_at hl 0 rfl) ?_
    refine lv_iconst (v := 2) C.1 C.2.1 dX6_isWriter_6 (by decide) ?_
    refine lv_icmp_eq (tgt := 20) C.1 C.2.1 dX6_isWriter_7 (by decide) (fun c3 => ?_) (fun c3 => ?_)
    · have h := h.1 c3
      exact B20  S H locs ls h hP hD hS (lv_sub hl [] rfl)
    · have h := h.2 c3
      refine lv_iload_n C.1 C.2.1 dX6_isWriter_10 rfl (lv_at hl 0 rfl) ?_
      refine lv_iconst (v := 3) C.1 C.2.1 dX6_isWriter_11 (by decide) ?_
      refine lv_icmp_eq (tgt := 20) C.1 C.2.1 dX6_isWriter_12 (by decide) (fun c2 => ?_) (fun c2 => ?_)
      · have h := h.1 c2
        exact B20  S H locs ls h hP hD hS (lv_sub hl [] rfl)
      · have h := h.2 c2
        refine lv_iload_n C.1 C.2.1 dX6_isWriter_15 rfl (lv_at hl 0 rfl) ?_
        refine lv_iconst (v := 5) C.1 C.2.1 dX6_isWriter_16 (by decide) ?_
        refine lv_icmp_ne (tgt := 24) C.1 C.2.1 dX6_isWriter_17 (by decide) (fun c1 => ?_) (fun c1 => ?_)
        · have h := h.1 c1
          refine lv_iconst (v := 0) C.1 C.2.1 dX6_isWriter_24 (by decide) ?_
          exact B25 (0 : Int32) S H locs ls h hP hD hS (lv_sub hl [] rfl)
        · have h := h.2 c1
          exact B20  S H locs ls h hP hD hS (lv_sub hl [] rfl)
theorem mX6_isWriter (l : Launch) (g : va_G) (tys : List (ClassId × FieldType)) (S : St) (sz : Nat) (x0 : Int32) (Q : Int32 → Prop) (h : pX6_isWriter x0 Q) : Met l yX6_isWriter wsX6_isWriter ({ frames := 0, cells := 0, slots := 0, locals := 0 }) (gPc g (tys) (w0 S) sz [.int x0]) (va_Qi (fun r _ => Q r) (gB g (tys) (w0) (va_A (w0 S) sz)) (va_A (w0 S) sz)) 0 0 (va_A (w0 S) sz) :=
  g_metZ (w := w0) (Q := fun r _ => Q r) (cc := cX6_isWriter) (maxL := 1) (by decide) rfl rfl (Nat.le_of_ble_eq_true rfl) rfl (fun p e s m args below meth c QQ A C hK hN hA hret H locs ls hP hD hS hl => kX6_isWriter C hK hN hA (Nat.le_refl _) (Nat.le_refl _) Q hret x0 S h H locs ls hP hD hS hl)

def bX5_written_21 (Q : Int32 → St → Prop) (t0 : Int32) (t1 : Int32) (S : St) : Prop :=
  (∀ y1 : Int32, y1 = (t0 + t1) → Q (y1 - y1 / (4 : Int32) * (4 : Int32)) S)
def pX5_written (x1 : Int32) (x2 : Nat) (S : St) (Q : Int32 → St → Prop) : Prop :=
  pX5_valueOf x1 S (fun (r3 : Int32) (S2 : St) => ((¬ (S2.1 31 x2) = (3 : Int32) → bX5_written_21 Q r3 (0 : Int32) S2) ∧ ((S2.1 31 x2) = (3 : Int32) → bX5_written_21 Q r3 (S2.1 36 x2) S2)))
set_option maxHeartbeats 40000000 in
set_option maxRecDepth 100000 in
theorem kX5_written {p : Program} {l : Launch} {e : Env} {R : Room} {s : State} {m : MethodId} {args : Array Value} {below : List Frame} {meth : Method} {c : Code} {QQ : State → Prop} {g : va_G} {ct : Nat → ClassId} {ad : Nat → Nat} {n ro : Nat} {A : Nat → Prop} (C : CallFix p m c cX5_written 4 s args wsX5_written RX5) (hK : va_K g vwCl (xT ct) s) (hN : xN s) (hA : ∀ q, s.heap.size ≤ q → A q) (hRf : 1 ≤ R.frames) (hRl : 21 ≤ R.locals) (Q : Int32 → St → Prop) (hret : ∀ (pc : Nat) (r : Int32) (S : St) (H : Heap) (locs : List Loc) (ls : Array Slot), decode cX5_written pc = .ok (.ireturn, 1) → Q r S → va_P g vwCl (wX ct ad n ro S) H → va_D A (wX ct ad n ro S) → va_S A s.heap H locs → W p l e R s m args below meth c H locs 0 0 QQ (F0 m pc ls [.int r])) (x1 : Int32) (x2 : Nat) (hx2 : x2 < 6) (S : St) (h : pX5_written x1 x2 S Q) (H : Heap) (locs : List Loc) (ls : Array Slot) (hP : va_P g vwCl (wX ct ad n ro S) H) (hD : va_D A (wX ct ad n ro S)) (hS : va_S A s.heap H locs) (hl : lv_has ls 4 [(0, .ref (ad 8)), (1, .int x1), (2, .ref (ad (20 + x2)))]) : W p l e R s m args below meth c H locs 0 0 QQ (F0 m 0 ls []) := by
  have hinX0 : ∀ w ∈ wsX00, w ∈ wsX5_written := by decide +kernel
  have B21 : ∀ (t0 : Int32) (t1 : Int32) (S : St) (H : Heap) (locs : List Loc) (ls : Array Slot), bX5_written_21 Q t0 t1 S → va_P g vwCl (wX ct ad n ro S) H → va_D A (wX ct ad n ro S) → va_S A s.heap H locs → lv_has ls 4 [(0, .ref (ad 8))] → W p l e R s m args below meth c H locs 0 0 QQ (F0 m 21 ls [.int t1, .int t0]) := by
    intro t0 t1 S H locs ls h hP hD hS hl
    refine lv_iadd C.1 C.2.1 dX5_written_21 ?_
    refine lv_topi (fun y1 ey1 => ?_)
    have h := h y1 ey1
    refine lv_istore_n (lv' := [(3, .int y1), (0, .ref (ad 8))]) C.1 C.2.1 dX5_written_22 rfl hl (by decide) rfl (fun ls hl => ?_)
    refine lv_iload_n C.1 C.2.1 dX5_written_23 rfl (lv_at hl 0 rfl) ?_
    refine lv_iconst (v := 4) C.1 C.2.1 dX5_written_24 (by decide) ?_
    refine lv_irem C.1 C.2.1 dX5_written_25 (by decide) ?_
    exact hret _ _ _ _ _ _ dX5_written_26 h hP hD hS
  refine lv_aload_n C.1 C.2.1 dX5_written_0 rfl (lv_at hl 0 rfl) ?_
  refine lv_iload_n C.1 C.2.1 dX5_written_1 rfl (lv_at hl 1 rfl) ?_
  refine g_callVi (w := wX ct ad n ro) C hK hN hA hP hD hS (mX5_valueOf l g ct ad n ro H.size S x1  _ h) (cwV 1 C.2.2.2.2 gX5_written_X5_valueOf rfl rfl rfl (by decide +kernel) ⟨Nat.le_trans (by decide) hRf, Nat.le_trans (by decide) hRl⟩) (va_recv hK hP (ci := 5) (q0 := 8) rfl rfl) rfl hl.1 rfl (Nat.le_of_ble_eq_true rfl) dX5_written_2 ⟨Nat.zero_le _, Nat.zero_le _⟩ (fun r3 S2 H locs h hP hD hS => ?_)
  refine lv_aload_n C.1 C.2.1 dX5_written_5 rfl (lv_at hl 2 rfl) ?_
  refine xg0_kind hx2 C hinX0 hK hP (hN _ (by decide +kernel)) dX5_written_6 ?_
  refine lv_iconst (v := 3) C.1 C.2.1 dX5_written_9 (by decide) ?_
  refine lv_icmp_ne (tgt := 20) C.1 C.2.1 dX5_written_10 (by decide) (fun c4 => ?_) (fun c4 => ?_)
  · have h := h.1 c4
    refine lv_iconst (v := 0) C.1 C.2.1 dX5_written_20 (by decide) ?_
    exact B21 r3 (0 : Int32) S2 H locs ls h hP hD hS (lv_sub hl [0] rfl)
  · have h := h.2 c4
    refine lv_aload_n C.1 C.2.1 dX5_written_13 rfl (lv_at hl 2 rfl) ?_
    refine xg0_got hx2 C hinX0 hK hP (hN _ (by decide +kernel)) dX5_written_14 ?_
    refine lv_goto (tgt := 21) C.1 C.2.1 dX5_written_17 (by decide) ?_
    exact B21 r3 (S2.1 36 x2) S2 H locs ls h hP hD hS (lv_sub hl [0] rfl)
theorem mX5_written (l : Launch) (g : va_G) (ct : Nat → ClassId) (ad : Nat → Nat) (n ro sz : Nat) (S : St) (x1 : Int32) (x2 : Nat) (hx2 : x2 < 6) (Q : Int32 → St → Prop) (h : pX5_written x1 x2 S Q) : Met l yX5_written wsX5_written ({ frames := 1, cells := 0, slots := 0, locals := 21 }) (gPc g (xT ct) (wX ct ad n ro S) sz [.ref (ad 8), .int x1, .ref (ad (20 + x2))]) (va_Qi Q (gB g (xT ct) (wX ct ad n ro) (va_A (wX ct ad n ro S) sz)) (va_A (wX ct ad n ro S) sz)) 0 0 (va_A (wX ct ad n ro S) sz) :=
  g_metI (w := wX ct ad n ro) (cc := cX5_written) (maxL := 4) (by decide) rfl rfl (Nat.le_of_ble_eq_true rfl) rfl (fun p e s m args below meth c QQ A C hK hN hA hret H locs ls hP hD hS hl => kX5_written C hK hN hA (Nat.le_refl _) (Nat.le_refl _) Q hret x1 x2 hx2 S h H locs ls hP hD hS hl)

def bX5_isOrdered_262 (Q : Int32 → St → Prop) (t0 : Int32) (S : St) : Prop :=
  (zb t0 ∧ Q t0 S)
def bX5_isOrdered_257 (Q : Int32 → St → Prop) (S : St) : Prop :=
  bX5_isOrdered_262 Q (1 : Int32) S
def bX5_isOrdered_220 (Q : Int32 → St → Prop) (x6 : Int32) (x7 : Int32) (x8 : Int32) (x9 : Int32) (x10 : Int32) (x11 : Int32) (t0 : Int32) (S : St) : Prop :=
  ((¬ x6 = 0 → bX5_isOrdered_257 Q  S) ∧ (x6 = 0 → ((¬ x7 = 0 → bX5_isOrdered_257 Q  S) ∧ (x7 = 0 → ((¬ x8 = 0 → bX5_isOrdered_257 Q  S) ∧ (x8 = 0 → ((¬ x9 = 0 → bX5_isOrdered_257 Q  S) ∧ (x9 = 0 → ((¬ x10 = 0 → bX5_isOrdered_257 Q  S) ∧ (x10 = 0 → ((¬ x11 = 0 → bX5_isOrdered_257 Q  S) ∧ (x11 = 0 → ((t0 = 0 → bX5_isOrdered_262 Q (0 : Int32) S) ∧ (¬ (t0 = 0) → bX5_isOrdered_257 Q  S))))))))))))))
def bX5_isOrdered_215 (Q : Int32 → St → Prop) (x6 : Int32) (x7 : Int32) (x8 : Int32) (x9 : Int32) (x10 : Int32) (x11 : Int32) (S : St) : Prop :=
  bX5_isOrdered_220 Q x6 x7 x8 x9 x10 x11 (1 : Int32) S
def bX5_isOrdered_219 (Q : Int32 → St → Prop) (x6 : Int32) (x7 : Int32) (x8 : Int32) (x9 : Int32) (x10 : Int32) (x11 : Int32) (S : St) : Prop :=
  bX5_isOrdered_220 Q x6 x7 x8 x9 x10 x11 (0 : Int32) S
def bX5_isOrdered_183 (Q : Int32 → St → Prop) (x2 : Nat) (x3 : Nat) (x6 : Int32) (x7 : Int32) (x8 : Int32) (x9 : Int32) (x10 : Int32) (t0 : Int32) (S : St) : Prop :=
  (((S.1 8 0) = (2 : Int32) → bX5_isOrdered_215 Q x6 x7 x8 x9 x10 t0 S) ∧ (¬ ((S.1 8 0) = (2 : Int32)) → ((¬ (S.1 8 0) = (1 : Int32) → bX5_isOrdered_219 Q x6 x7 x8 x9 x10 t0 S) ∧ ((S.1 8 0) = (1 : Int32) → ((¬ (S.1 34 x3) = 0 → bX5_isOrdered_215 Q x6 x7 x8 x9 x10 t0 S) ∧ ((S.1 34 x3) = 0 → (((S.1 35 x2) = 0 → bX5_isOrdered_219 Q x6 x7 x8 x9 x10 t0 S) ∧ (¬ ((S.1 35 x2) = 0) → bX5_isOrdered_215 Q x6 x7 x8 x9 x10 t0 S))))))))
def bX5_isOrdered_167 (Q : Int32 → St → Prop) (x1 : Int32) (x2 : Nat) (x3 : Nat) (x4 : Int32) (x6 : Int32) (x7 : Int32) (x8 : Int32) (x9 : Int32) (t0 : Int32) (S : St) : Prop :=
  ((((x4 >>> (x1 &&& 31)) &&& (1 : Int32)) = 0 → bX5_isOrdered_183 Q x2 x3 x6 x7 x8 x9 t0 (0 : Int32) S) ∧ (¬ (((x4 >>> (x1 &&& 31)) &&& (1 : Int32)) = 0) → bX5_isOrdered_183 Q x2 x3 x6 x7 x8 x9 t0 (1 : Int32) S))
def bX5_isOrdered_152 (Q : Int32 → St → Prop) (x1 : Int32) (x2 : Nat) (x3 : Nat) (x4 : Int32) (x6 : Int32) (x7 : Int32) (x8 : Int32) (t0 : Int32) (S : St) : Prop :=
  ((¬ (S.1 40 x2) = x1 → bX5_isOrdered_167 Q x1 x2 x3 x4 x6 x7 x8 t0 (0 : Int32) S) ∧ ((S.1 40 x2) = x1 → bX5_isOrdered_167 Q x1 x2 x3 x4 x6 x7 x8 t0 (1 : Int32) S))
def bX5_isOrdered_151 (Q : Int32 → St → Prop) (x1 : Int32) (x2 : Nat) (x3 : Nat) (x4 : Int32) (x6 : Int32) (x7 : Int32) (x8 : Int32) (S : St) : Prop :=
  bX5_isOrdered_152 Q x1 x2 x3 x4 x6 x7 x8 (0 : Int32) S
def bX5_isOrdered_131 (Q : Int32 → St → Prop) (x1 : Int32) (x2 : Nat) (x3 : Nat) (x4 : Int32) (x6 : Int32) (x7 : Int32) (t0 : Int32) (S : St) : Prop :=
  (((S.1 33 x3) = 0 → bX5_isOrdered_151 Q x1 x2 x3 x4 x6 x7 t0 S) ∧ (¬ ((S.1 33 x3) = 0) → (((S.1 33 x2) = 0 → bX5_isOrdered_151 Q x1 x2 x3 x4 x6 x7 t0 S) ∧ (¬ ((S.1 33 x2) = 0) → bX5_isOrdered_152 Q x1 x2 x3 x4 x6 x7 t0 (1 : Int32) S))))
def bX5_isOrdered_126 (Q : Int32 → St → Prop) (x1 : Int32) (x2 : Nat) (x3 : Nat) (x4 : Int32) (x6 : Int32) (x7 : Int32) (S : St) : Prop :=
  bX5_isOrdered_131 Q x1 x2 x3 x4 x6 x7 (1 : Int32) S
def bX5_isOrdered_106 (Q : Int32 → St → Prop) (x1 : Int32) (x2 : Nat) (x3 : Nat) (x4 : Int32) (x6 : Int32) (t0 : Int32) (S : St) : Prop :=
  ((¬ ((S.1 33 x3) &&& (1 : Int32)) = 0 → bX5_isOrdered_126 Q x1 x2 x3 x4 x6 t0 S) ∧ (((S.1 33 x3) &&& (1 : Int32)) = 0 → ((((S.1 33 x2) &&& (2 : Int32)) = 0 → bX5_isOrdered_131 Q x1 x2 x3 x4 x6 t0 (0 : Int32) S) ∧ (¬ (((S.1 33 x2) &&& (2 : Int32)) = 0) → bX5_isOrdered_126 Q x1 x2 x3 x4 x6 t0 S))))
def bX5_isOrdered_90 (Q : Int32 → St → Prop) (x1 : Int32) (x2 : Nat) (x3 : Nat) (x4 : Int32) (x5 : Int32) (t0 : Int32) (S : St) : Prop :=
  ((((x5 >>> (x1 &&& 31)) &&& (1 : Int32)) = 0 → bX5_isOrdered_106 Q x1 x2 x3 x4 t0 (0 : Int32) S) ∧ (¬ (((x5 >>> (x1 &&& 31)) &&& (1 : Int32)) = 0) → bX5_isOrdered_106 Q x1 x2 x3 x4 t0 (1 : Int32) S))
def bX5_isOrdered_89 (Q : Int32 → St → Prop) (x1 : Int32) (x2 : Nat) (x3 : Nat) (x4 : Int32) (x5 : Int32) (S : St) : Prop :=
  bX5_isOrdered_90 Q x1 x2 x3 x4 x5 (0 : Int32) S
def bX5_isOrdered_67 (Q : Int32 → St → Prop) (x1 : Int32) (x2 : Nat) (x3 : Nat) (x4 : Int32) (x5 : Int32) (S : St) : Prop :=
  (((S.1 35 x2) = 0 → bX5_isOrdered_89 Q x1 x2 x3 x4 x5 S) ∧ (¬ ((S.1 35 x2) = 0) → ((¬ (S.1 32 x3) = (S.1 32 x2) → bX5_isOrdered_89 Q x1 x2 x3 x4 x5 S) ∧ ((S.1 32 x3) = (S.1 32 x2) → bX5_isOrdered_90 Q x1 x2 x3 x4 x5 (1 : Int32) S))))
def bX5_isOrdered_37 (Q : Int32 → St → Prop) (x1 : Int32) (x2 : Nat) (x3 : Nat) (x4 : Int32) (x5 : Int32) (S : St) : Prop :=
  (((S.1 35 x2) = 0 → bX5_isOrdered_67 Q x1 x2 x3 x4 x5 S) ∧ (¬ ((S.1 35 x2) = 0) → (∀ y21 : Int32, y21 = (x5 ||| (S.1 15 0)) → (∀ y22 : Int32, y22 = (x4 ||| ((S.1 12 0) ||| (S.1 13 0))) → bX5_isOrdered_67 Q x1 x2 x3 y22 y21 S))))
def pX5_isOrdered (x1 : Int32) (x2 : Nat) (S : St) (Q : Int32 → St → Prop) : Prop :=
  (vp_in x1 6 ∧ ∀ i24 : Nat, i24 = Int32.toNatClampNeg x1 → (∀ y26 : Int32, y26 = ((S.1 38 x2) ||| (S.1 39 x2)) → (((S.1 34 x2) = 0 → bX5_isOrdered_37 Q x1 x2 i24 y26 (0 : Int32) S) ∧ (¬ ((S.1 34 x2) = 0) → (∀ y27 : Int32, y27 = ((0 : Int32) ||| (S.1 14 0)) → bX5_isOrdered_37 Q x1 x2 i24 y26 y27 S)))))
set_option maxHeartbeats 40000000 in
set_option maxRecDepth 100000 in
theorem kX5_isOrdered {p : Program} {l : Launch} {e : Env} {R : Room} {s : State} {m : MethodId} {args : Array Value} {below : List Frame} {meth : Method} {c : Code} {QQ : State → Prop} {g : va_G} {ct : Nat → ClassId} {ad : Nat → Nat} {n ro : Nat} {A : Nat → Prop} (C : CallFix p m c cX5_isOrdered 13 s args wsX5_isOrdered RX5) (hK : va_K g vwCl (xT ct) s) (hN : xN s) (hA : ∀ q, s.heap.size ≤ q → A q) (hRf : 0 ≤ R.frames) (hRl : 0 ≤ R.locals) (Q : Int32 → St → Prop) (hret : ∀ (pc : Nat) (r : Int32) (S : St) (H : Heap) (locs : List Loc) (ls : Array Slot), decode cX5_isOrdered pc = .ok (.ireturn, 1) → zb r → Q r S → va_P g vwCl (wX ct ad n ro S) H → va_D A (wX ct ad n ro S) → va_S A s.heap H locs → W p l e R s m args below meth c H locs 0 0 QQ (F0 m pc ls [.int r])) (x1 : Int32) (x2 : Nat) (hx2 : x2 < 6) (S : St) (h : pX5_isOrdered x1 x2 S Q) (H : Heap) (locs : List Loc) (ls : Array Slot) (hP : va_P g vwCl (wX ct ad n ro S) H) (hD : va_D A (wX ct ad n ro S)) (hS : va_S A s.heap H locs) (hl : lv_has ls 13 [(0, .ref (ad 8)), (1, .int x1), (2, .ref (ad (20 + x2)))]) : W p l e R s m args below meth c H locs 0 0 QQ (F0 m 0 ls []) := by
  have hinX0 : ∀ w ∈ wsX00, w ∈ wsX5_isOrdered := by decide +kernel
  have hinX5 : ∀ w ∈ wsX50, w ∈ wsX5_isOrdered := by decide +kernel
  have B262 : ∀ (t0 : Int32) (S : St) (H : Heap) (locs : List Loc) (ls : Array Slot), bX5_isOrdered_262 Q t0 S → va_P g vwCl (wX ct ad n ro S) H → va_D A (wX ct ad n ro S) → va_S A s.heap H locs → lv_has ls 13 [(0, .ref (ad 8))] → W p l e R s m args below meth c H locs 0 0 QQ (F0 m 262 ls [.int t0]) := by
    intro t0 S H locs ls h hP hD hS hl
    exact hret _ _ _ _ _ _ dX5_isOrdered_262 h.1 h.2 hP hD hS
  have B257 : ∀ (S : St) (H : Heap) (locs : List Loc) (ls : Array Slot), bX5_isOrdered_257 Q S → va_P g vwCl (wX ct ad n ro S) H → va_D A (wX ct ad n ro S) → va_S A s.heap H locs → lv_has ls 13 [(0, .ref (ad 8))] → W p l e R s m args below meth c H locs 0 0 QQ (F0 m 257 ls []) := by
    intro S H locs ls h hP hD hS hl
    refine lv_iconst (v := 1) C.1 C.2.1 dX5_isOrdered_257 (by decide) ?_
    refine lv_goto (tgt := 262) C.1 C.2.1 dX5_isOrdered_258 (by decide) ?_
    exact B262 (1 : Int32) S H locs ls h hP hD hS (lv_sub hl [0] rfl)
  have B220 : ∀ (x6 : Int32) (x7 : Int32) (x8 : Int32) (x9 : Int32) (x10 : Int32) (x11 : Int32) (t0 : Int32) (S : St) (H : Heap) (locs : List Loc) (ls : Array Slot), bX5_isOrdered_220 Q x6 x7 x8 x9 x10 x11 t0 S → va_P g vwCl (wX ct ad n ro S) H → va_D A (wX ct ad n ro S) → va_S A s.heap H locs → lv_has ls 13 [(0, .ref (ad 8)), (6, .int x6), (7, .int x7), (8, .int x8), (9, .int x9), (10, .int x10), (11, .int x11)] → W p l e R s m args below meth c H locs 0 0 QQ (F0 m 220 ls [.int t0]) := by
    intro x6 x7 x8 x9 x10 x11 t0 S H locs ls h hP hD hS hl
    refine lv_istore (lv' := [(12, .int t0), (0, .ref (ad 8)), (6, .int x6), (7, .int x7), (8, .int x8), (9, .int x9), (10, .int x10), (11, .int x11)]) C.1 C.2.1 dX5_isOrdered_220 hl (by decide) rfl (fun ls hl => ?_)
    refine lv_iload C.1 C.2.1 dX5_isOrdered_222 (lv_at hl 2 rfl) ?_
    refine lv_if_ne (tgt := 257) C.1 C.2.1 dX5_isOrdered_224 (by decide) (fun c7 => ?_) (fun c7 => ?_)
    · have h := h.1 c7
      exact B257  S H locs ls h hP hD hS (lv_sub hl [1] rfl)
    · have h := h.2 c7
      refine lv_iload C.1 C.2.1 dX5_isOrdered_227 (lv_at hl 3 rfl) ?_
      refine lv_if_ne (tgt := 257) C.1 C.2.1 dX5_isOrdered_229 (by decide) (fun c6 => ?_) (fun c6 => ?_)
      · have h := h.1 c6
        exact B257  S H locs ls h hP hD hS (lv_sub hl [1] rfl)
      · have h := h.2 c6
        refine lv_iload C.1 C.2.1 dX5_isOrdered_232 (lv_at hl 4 rfl) ?_
        refine lv_if_ne (tgt := 257) C.1 C.2.1 dX5_isOrdered_234 (by decide) (fun c5 => ?_) (fun c5 => ?_)
        · have h := h.1 c5
          exact B257  S H locs ls h hP hD hS (lv_sub hl [1] rfl)
        · have h := h.2 c5
          refine lv_iload C.1 C.2.1 dX5_isOrdered_237 (lv_at hl 5 rfl) ?_
          refine lv_if_ne (tgt := 257) C.1 C.2.1 dX5_isOrdered_239 (by decide) (fun c4 => ?_) (fun c4 => ?_)
          · have h := h.1 c4
            exact B257  S H locs ls h hP hD hS (lv_sub hl [1] rfl)
          · have h := h.2 c4
            refine lv_iload C.1 C.2.1 dX5_isOrdered_242 (lv_at hl 6 rfl) ?_
            refine lv_if_ne (tgt := 257) C.1 C.2.1 dX5_isOrdered_244 (by decide) (fun c3 => ?_) (fun c3 => ?_)
            · have h := h.1 c3
              exact B257  S H locs ls h hP hD hS (lv_sub hl [1] rfl)
            · have h := h.2 c3
              refine lv_iload C.1 C.2.1 dX5_isOrdered_247 (lv_at hl 7 rfl) ?_
              refine lv_if_ne (tgt := 257) C.1 C.2.1 dX5_isOrdered_249 (by decide) (fun c2 => ?_) (fun c2 => ?_)
              · have h := h.1 c2
                exact B257  S H locs ls h hP hD hS (lv_sub hl [1] rfl)
              · have h := h.2 c2
                refine lv_iload C.1 C.2.1 dX5_isOrdered_252 (lv_at hl 0 rfl) ?_
                refine lv_if_eq (tgt := 261) C.1 C.2.1 dX5_isOrdered_254 (by decide) (fun c1 => ?_) (fun c1 => ?_)
                · have h := h.1 c1
                  refine lv_iconst (v := 0) C.1 C.2.1 dX5_isOrdered_261 (by decide) ?_
                  exact B262 (0 : Int32) S H locs ls h hP hD hS (lv_sub hl [1] rfl)
                · have h := h.2 c1
                  exact B257  S H locs ls h hP hD hS (lv_sub hl [1] rfl)
  have B215 : ∀ (x6 : Int32) (x7 : Int32) (x8 : Int32) (x9 : Int32) (x10 : Int32) (x11 : Int32) (S : St) (H : Heap) (locs : List Loc) (ls : Array Slot), bX5_isOrdered_215 Q x6 x7 x8 x9 x10 x11 S → va_P g vwCl (wX ct ad n ro S) H → va_D A (wX ct ad n ro S) → va_S A s.heap H locs → lv_has ls 13 [(0, .ref (ad 8)), (6, .int x6), (7, .int x7), (8, .int x8), (9, .int x9), (10, .int x10), (11, .int x11)] → W p l e R s m args below meth c H locs 0 0 QQ (F0 m 215 ls []) := by
    intro x6 x7 x8 x9 x10 x11 S H locs ls h hP hD hS hl
    refine lv_iconst (v := 1) C.1 C.2.1 dX5_isOrdered_215 (by decide) ?_
    refine lv_goto (tgt := 220) C.1 C.2.1 dX5_isOrdered_216 (by decide) ?_
    exact B220 x6 x7 x8 x9 x10 x11 (1 : Int32) S H locs ls h hP hD hS (lv_sub hl [0, 1, 2, 3, 4, 5, 6] rfl)
  have B219 : ∀ (x6 : Int32) (x7 : Int32) (x8 : Int32) (x9 : Int32) (x10 : Int32) (x11 : Int32) (S : St) (H : Heap) (locs : List Loc) (ls : Array Slot), bX5_isOrdered_219 Q x6 x7 x8 x9 x10 x11 S → va_P g vwCl (wX ct ad n ro S) H → va_D A (wX ct ad n ro S) → va_S A s.heap H locs → lv_has ls 13 [(0, .ref (ad 8)), (6, .int x6), (7, .int x7), (8, .int x8), (9, .int x9), (10, .int x10), (11, .int x11)] → W p l e R s m args below meth c H locs 0 0 QQ (F0 m 219 ls []) := by
    intro x6 x7 x8 x9 x10 x11 S H locs ls h hP hD hS hl
    refine lv_iconst (v := 0) C.1 C.2.1 dX5_isOrdered_219 (by decide) ?_
    exact B220 x6 x7 x8 x9 x10 x11 (0 : Int32) S H locs ls h hP hD hS (lv_sub hl [0, 1, 2, 3, 4, 5, 6] rfl)
  have B183 : ∀ (x2 : Nat) (x3 : Nat) (x6 : Int32) (x7 : Int32) (x8 : Int32) (x9 : Int32) (x10 : Int32) (t0 : Int32) (hx2 : x2 < 6) (hx3 : x3 < 6) (S : St) (H : Heap) (locs : List Loc) (ls : Array Slot), bX5_isOrdered_183 Q x2 x3 x6 x7 x8 x9 x10 t0 S → va_P g vwCl (wX ct ad n ro S) H → va_D A (wX ct ad n ro S) → va_S A s.heap H locs → lv_has ls 13 [(0, .ref (ad 8)), (2, .ref (ad (20 + x2))), (3, .ref (ad (20 + x3))), (6, .int x6), (7, .int x7), (8, .int x8), (9, .int x9), (10, .int x10)] → W p l e R s m args below meth c H locs 0 0 QQ (F0 m 183 ls [.int t0]) := by
    intro x2 x3 x6 x7 x8 x9 x10 t0 hx2 hx3 S H locs ls h hP hD hS hl
    refine lv_istore (lv' := [(11, .int t0), (0, .ref (ad 8)), (2, .ref (ad (20 + x2))), (3, .ref (ad (20 + x3))), (6, .int x6), (7, .int x7), (8, .int x8), (9, .int x9), (10, .int x10)]) C.1 C.2.1 dX5_isOrdered_183 hl (by decide) rfl (fun ls hl => ?_)
    refine lv_aload_n C.1 C.2.1 dX5_isOrdered_185 rfl (lv_at hl 1 rfl) ?_
    refine xg5_model C hinX5 hK hP (by decide +kernel) dX5_isOrdered_186 ?_
    refine lv_iconst (v := 2) C.1 C.2.1 dX5_isOrdered_189 (by decide) ?_
    refine lv_icmp_eq (tgt := 215) C.1 C.2.1 dX5_isOrdered_190 (by decide) (fun c11 => ?_) (fun c11 => ?_)
    · have h := h.1 c11
      exact B215 x6 x7 x8 x9 x10 t0 S H locs ls h hP hD hS (lv_sub hl [1, 4, 5, 6, 7, 8, 0] rfl)
    · have h := h.2 c11
      refine lv_aload_n C.1 C.2.1 dX5_isOrdered_193 rfl (lv_at hl 1 rfl) ?_
      refine xg5_model C hinX5 hK hP (by decide +kernel) dX5_isOrdered_194 ?_
      refine lv_iconst (v := 1) C.1 C.2.1 dX5_isOrdered_197 (by decide) ?_
      refine lv_icmp_ne (tgt := 219) C.1 C.2.1 dX5_isOrdered_198 (by decide) (fun c10 => ?_) (fun c10 => ?_)
      · have h := h.1 c10
        exact B219 x6 x7 x8 x9 x10 t0 S H locs ls h hP hD hS (lv_sub hl [1, 4, 5, 6, 7, 8, 0] rfl)
      · have h := h.2 c10
        refine lv_aload_n C.1 C.2.1 dX5_isOrdered_201 rfl (lv_at hl 3 rfl) ?_
        refine xg0_reads hx3 C hinX0 hK hP (hN _ (by decide +kernel)) dX5_isOrdered_202 ?_
        refine lv_if_ne (tgt := 215) C.1 C.2.1 dX5_isOrdered_205 (by decide) (fun c9 => ?_) (fun c9 => ?_)
        · have h := h.1 c9
          exact B215 x6 x7 x8 x9 x10 t0 S H locs ls h hP hD hS (lv_sub hl [1, 4, 5, 6, 7, 8, 0] rfl)
        · have h := h.2 c9
          refine lv_aload_n C.1 C.2.1 dX5_isOrdered_208 rfl (lv_at hl 2 rfl) ?_
          refine xg0_writes hx2 C hinX0 hK hP (hN _ (by decide +kernel)) dX5_isOrdered_209 ?_
          refine lv_if_eq (tgt := 219) C.1 C.2.1 dX5_isOrdered_212 (by decide) (fun c8 => ?_) (fun c8 => ?_)
          · have h := h.1 c8
            exact B219 x6 x7 x8 x9 x10 t0 S H locs ls h hP hD hS (lv_sub hl [1, 4, 5, 6, 7, 8, 0] rfl)
          · have h := h.2 c8
            exact B215 x6 x7 x8 x9 x10 t0 S H locs ls h hP hD hS (lv_sub hl [1, 4, 5, 6, 7, 8, 0] rfl)
  have B167 : ∀ (x1 : Int32) (x2 : Nat) (x3 : Nat) (x4 : Int32) (x6 : Int32) (x7 : Int32) (x8 : Int32) (x9 : Int32) (t0 : Int32) (hx2 : x2 < 6) (hx3 : x3 < 6) (S : St) (H : Heap) (locs : List Loc) (ls : Array Slot), bX5_isOrdered_167 Q x1 x2 x3 x4 x6 x7 x8 x9 t0 S → va_P g vwCl (wX ct ad n ro S) H → va_D A (wX ct ad n ro S) → va_S A s.heap H locs → lv_has ls 13 [(0, .ref (ad 8)), (1, .int x1), (2, .ref (ad (20 + x2))), (3, .ref (ad (20 + x3))), (4, .int x4), (6, .int x6), (7, .int x7), (8, .int x8), (9, .int x9)] → W p l e R s m args below meth c H locs 0 0 QQ (F0 m 167 ls [.int t0]) := by
    intro x1 x2 x3 x4 x6 x7 x8 x9 t0 hx2 hx3 S H locs ls h hP hD hS hl
    refine lv_istore (lv' := [(10, .int t0), (0, .ref (ad 8)), (1, .int x1), (2, .ref (ad (20 + x2))), (3, .ref (ad (20 + x3))), (4, .int x4), (6, .int x6), (7, .int x7), (8, .int x8), (9, .int x9)]) C.1 C.2.1 dX5_isOrdered_167 hl (by decide) rfl (fun ls hl => ?_)
    refine lv_iload C.1 C.2.1 dX5_isOrdered_169 (lv_at hl 5 rfl) ?_
    refine lv_iload_n C.1 C.2.1 dX5_isOrdered_171 rfl (lv_at hl 2 rfl) ?_
    refine lv_ishr C.1 C.2.1 dX5_isOrdered_172 ?_
    refine lv_iconst (v := 1) C.1 C.2.1 dX5_isOrdered_173 (by decide) ?_
    refine lv_iand C.1 C.2.1 dX5_isOrdered_174 ?_
    refine lv_if_eq (tgt := 182) C.1 C.2.1 dX5_isOrdered_175 (by decide) (fun c12 => ?_) (fun c12 => ?_)
    · have h := h.1 c12
      refine lv_iconst (v := 0) C.1 C.2.1 dX5_isOrdered_182 (by decide) ?_
      exact B183 x2 x3 x6 x7 x8 x9 t0 (0 : Int32) hx2 hx3 S H locs ls h hP hD hS (lv_sub hl [1, 3, 4, 6, 7, 8, 9, 0] rfl)
    · have h := h.2 c12
      refine lv_iconst (v := 1) C.1 C.2.1 dX5_isOrdered_178 (by decide) ?_
      refine lv_goto (tgt := 183) C.1 C.2.1 dX5_isOrdered_179 (by decide) ?_
      exact B183 x2 x3 x6 x7 x8 x9 t0 (1 : Int32) hx2 hx3 S H locs ls h hP hD hS (lv_sub hl [1, 3, 4, 6, 7, 8, 9, 0] rfl)
  have B152 : ∀ (x1 : Int32) (x2 : Nat) (x3 : Nat) (x4 : Int32) (x6 : Int32) (x7 : Int32) (x8 : Int32) (t0 : Int32) (hx2 : x2 < 6) (hx3 : x3 < 6) (S : St) (H : Heap) (locs : List Loc) (ls : Array Slot), bX5_isOrdered_152 Q x1 x2 x3 x4 x6 x7 x8 t0 S → va_P g vwCl (wX ct ad n ro S) H → va_D A (wX ct ad n ro S) → va_S A s.heap H locs → lv_has ls 13 [(0, .ref (ad 8)), (1, .int x1), (2, .ref (ad (20 + x2))), (3, .ref (ad (20 + x3))), (4, .int x4), (6, .int x6), (7, .int x7), (8, .int x8)] → W p l e R s m args below meth c H locs 0 0 QQ (F0 m 152 ls [.int t0]) := by
    intro x1 x2 x3 x4 x6 x7 x8 t0 hx2 hx3 S H locs ls h hP hD hS hl
    refine lv_istore (lv' := [(9, .int t0), (0, .ref (ad 8)), (1, .int x1), (2, .ref (ad (20 + x2))), (3, .ref (ad (20 + x3))), (4, .int x4), (6, .int x6), (7, .int x7), (8, .int x8)]) C.1 C.2.1 dX5_isOrdered_152 hl (by decide) rfl (fun ls hl => ?_)
    refine lv_aload_n C.1 C.2.1 dX5_isOrdered_154 rfl (lv_at hl 3 rfl) ?_
    refine xg0_reserve hx2 C hinX0 hK hP (hN _ (by decide +kernel)) dX5_isOrdered_155 ?_
    refine lv_iload_n C.1 C.2.1 dX5_isOrdered_158 rfl (lv_at hl 2 rfl) ?_
    refine lv_icmp_ne (tgt := 166) C.1 C.2.1 dX5_isOrdered_159 (by decide) (fun c13 => ?_) (fun c13 => ?_)
    · have h := h.1 c13
      refine lv_iconst (v := 0) C.1 C.2.1 dX5_isOrdered_166 (by decide) ?_
      exact B167 x1 x2 x3 x4 x6 x7 x8 t0 (0 : Int32) hx2 hx3 S H locs ls h hP hD hS (lv_sub hl [1, 2, 3, 4, 5, 6, 7, 8, 0] rfl)
    · have h := h.2 c13
      refine lv_iconst (v := 1) C.1 C.2.1 dX5_isOrdered_162 (by decide) ?_
      refine lv_goto (tgt := 167) C.1 C.2.1 dX5_isOrdered_163 (by decide) ?_
      exact B167 x1 x2 x3 x4 x6 x7 x8 t0 (1 : Int32) hx2 hx3 S H locs ls h hP hD hS (lv_sub hl [1, 2, 3, 4, 5, 6, 7, 8, 0] rfl)
  have B151 : ∀ (x1 : Int32) (x2 : Nat) (x3 : Nat) (x4 : Int32) (x6 : Int32) (x7 : Int32) (x8 : Int32) (hx2 : x2 < 6) (hx3 : x3 < 6) (S : St) (H : Heap) (locs : List Loc) (ls : Array Slot), bX5_isOrdered_151 Q x1 x2 x3 x4 x6 x7 x8 S → va_P g vwCl (wX ct ad n ro S) H → va_D A (wX ct ad n ro S) → va_S A s.heap H locs → lv_has ls 13 [(0, .ref (ad 8)), (1, .int x1), (2, .ref (ad (20 + x2))), (3, .ref (ad (20 + x3))), (4, .int x4), (6, .int x6), (7, .int x7), (8, .int x8)] → W p l e R s m args below meth c H locs 0 0 QQ (F0 m 151 ls []) := by
    intro x1 x2 x3 x4 x6 x7 x8 hx2 hx3 S H locs ls h hP hD hS hl
    refine lv_iconst (v := 0) C.1 C.2.1 dX5_isOrdered_151 (by decide) ?_
    exact B152 x1 x2 x3 x4 x6 x7 x8 (0 : Int32) hx2 hx3 S H locs ls h hP hD hS (lv_sub hl [0, 1, 2, 3, 4, 5, 6, 7] rfl)
  have B131 : ∀ (x1 : Int32) (x2 : Nat) (x3 : Nat) (x4 : Int32) (x6 : Int32) (x7 : Int32) (t0 : Int32) (hx2 : x2 < 6) (hx3 : x3 < 6) (S : St) (H : Heap) (locs : List Loc) (ls : Array Slot), bX5_isOrdered_131 Q x1 x2 x3 x4 x6 x7 t0 S → va_P g vwCl (wX ct ad n ro S) H → va_D A (wX ct ad n ro S) → va_S A s.heap H locs → lv_has ls 13 [(0, .ref (ad 8)), (1, .int x1), (2, .ref (ad (20 + x2))), (3, .ref (ad (20 + x3))), (4, .int x4), (6, .int x6), (7, .int x7)] → W p l e R s m args below meth c H locs 0 0 QQ (F0 m 131 ls [.int t0]) := by
    intro x1 x2 x3 x4 x6 x7 t0 hx2 hx3 S H locs ls h hP hD hS hl
    refine lv_istore (lv' := [(8, .int t0), (0, .ref (ad 8)), (1, .int x1), (2, .ref (ad (20 + x2))), (3, .ref (ad (20 + x3))), (4, .int x4), (6, .int x6), (7, .int x7)]) C.1 C.2.1 dX5_isOrdered_131 hl (by decide) rfl (fun ls hl => ?_)
    refine lv_aload_n C.1 C.2.1 dX5_isOrdered_133 rfl (lv_at hl 4 rfl) ?_
    refine xg0_marks hx3 C hinX0 hK hP (hN _ (by decide +kernel)) dX5_isOrdered_134 ?_
    refine lv_if_eq (tgt := 151) C.1 C.2.1 dX5_isOrdered_137 (by decide) (fun c15 => ?_) (fun c15 => ?_)
    · have h := h.1 c15
      exact B151 x1 x2 x3 x4 x6 x7 t0 hx2 hx3 S H locs ls h hP hD hS (lv_sub hl [1, 2, 3, 4, 5, 6, 7, 0] rfl)
    · have h := h.2 c15
      refine lv_aload_n C.1 C.2.1 dX5_isOrdered_140 rfl (lv_at hl 3 rfl) ?_
      refine xg0_marks hx2 C hinX0 hK hP (hN _ (by decide +kernel)) dX5_isOrdered_141 ?_
      refine lv_if_eq (tgt := 151) C.1 C.2.1 dX5_isOrdered_144 (by decide) (fun c14 => ?_) (fun c14 => ?_)
      · have h := h.1 c14
        exact B151 x1 x2 x3 x4 x6 x7 t0 hx2 hx3 S H locs ls h hP hD hS (lv_sub hl [1, 2, 3, 4, 5, 6, 7, 0] rfl)
      · have h := h.2 c14
        refine lv_iconst (v := 1) C.1 C.2.1 dX5_isOrdered_147 (by decide) ?_
        refine lv_goto (tgt := 152) C.1 C.2.1 dX5_isOrdered_148 (by decide) ?_
        exact B152 x1 x2 x3 x4 x6 x7 t0 (1 : Int32) hx2 hx3 S H locs ls h hP hD hS (lv_sub hl [1, 2, 3, 4, 5, 6, 7, 0] rfl)
  have B126 : ∀ (x1 : Int32) (x2 : Nat) (x3 : Nat) (x4 : Int32) (x6 : Int32) (x7 : Int32) (hx2 : x2 < 6) (hx3 : x3 < 6) (S : St) (H : Heap) (locs : List Loc) (ls : Array Slot), bX5_isOrdered_126 Q x1 x2 x3 x4 x6 x7 S → va_P g vwCl (wX ct ad n ro S) H → va_D A (wX ct ad n ro S) → va_S A s.heap H locs → lv_has ls 13 [(0, .ref (ad 8)), (1, .int x1), (2, .ref (ad (20 + x2))), (3, .ref (ad (20 + x3))), (4, .int x4), (6, .int x6), (7, .int x7)] → W p l e R s m args below meth c H locs 0 0 QQ (F0 m 126 ls []) := by
    intro x1 x2 x3 x4 x6 x7 hx2 hx3 S H locs ls h hP hD hS hl
    refine lv_iconst (v := 1) C.1 C.2.1 dX5_isOrdered_126 (by decide) ?_
    refine lv_goto (tgt := 131) C.1 C.2.1 dX5_isOrdered_127 (by decide) ?_
    exact B131 x1 x2 x3 x4 x6 x7 (1 : Int32) hx2 hx3 S H locs ls h hP hD hS (lv_sub hl [0, 1, 2, 3, 4, 5, 6] rfl)
  have B106 : ∀ (x1 : Int32) (x2 : Nat) (x3 : Nat) (x4 : Int32) (x6 : Int32) (t0 : Int32) (hx2 : x2 < 6) (hx3 : x3 < 6) (S : St) (H : Heap) (locs : List Loc) (ls : Array Slot), bX5_isOrdered_106 Q x1 x2 x3 x4 x6 t0 S → va_P g vwCl (wX ct ad n ro S) H → va_D A (wX ct ad n ro S) → va_S A s.heap H locs → lv_has ls 13 [(0, .ref (ad 8)), (1, .int x1), (2, .ref (ad (20 + x2))), (3, .ref (ad (20 + x3))), (4, .int x4), (6, .int x6)] → W p l e R s m args below meth c H locs 0 0 QQ (F0 m 106 ls [.int t0]) := by
    intro x1 x2 x3 x4 x6 t0 hx2 hx3 S H locs ls h hP hD hS hl
    refine lv_istore (lv' := [(7, .int t0), (0, .ref (ad 8)), (1, .int x1), (2, .ref (ad (20 + x2))), (3, .ref (ad (20 + x3))), (4, .int x4), (6, .int x6)]) C.1 C.2.1 dX5_isOrdered_106 hl (by decide) rfl (fun ls hl => ?_)
    refine lv_aload_n C.1 C.2.1 dX5_isOrdered_108 rfl (lv_at hl 4 rfl) ?_
    refine xg0_marks hx3 C hinX0 hK hP (hN _ (by decide +kernel)) dX5_isOrdered_109 ?_
    refine lv_iconst (v := 1) C.1 C.2.1 dX5_isOrdered_112 (by decide) ?_
    refine lv_iand C.1 C.2.1 dX5_isOrdered_113 ?_
    refine lv_if_ne (tgt := 126) C.1 C.2.1 dX5_isOrdered_114 (by decide) (fun c17 => ?_) (fun c17 => ?_)
    · have h := h.1 c17
      exact B126 x1 x2 x3 x4 x6 t0 hx2 hx3 S H locs ls h hP hD hS (lv_sub hl [1, 2, 3, 4, 5, 6, 0] rfl)
    · have h := h.2 c17
      refine lv_aload_n C.1 C.2.1 dX5_isOrdered_117 rfl (lv_at hl 3 rfl) ?_
      refine xg0_marks hx2 C hinX0 hK hP (hN _ (by decide +kernel)) dX5_isOrdered_118 ?_
      refine lv_iconst (v := 2) C.1 C.2.1 dX5_isOrdered_121 (by decide) ?_
      refine lv_iand C.1 C.2.1 dX5_isOrdered_122 ?_
      refine lv_if_eq (tgt := 130) C.1 C.2.1 dX5_isOrdered_123 (by decide) (fun c16 => ?_) (fun c16 => ?_)
      · have h := h.1 c16
        refine lv_iconst (v := 0) C.1 C.2.1 dX5_isOrdered_130 (by decide) ?_
        exact B131 x1 x2 x3 x4 x6 t0 (0 : Int32) hx2 hx3 S H locs ls h hP hD hS (lv_sub hl [1, 2, 3, 4, 5, 6, 0] rfl)
      · have h := h.2 c16
        exact B126 x1 x2 x3 x4 x6 t0 hx2 hx3 S H locs ls h hP hD hS (lv_sub hl [1, 2, 3, 4, 5, 6, 0] rfl)
  have B90 : ∀ (x1 : Int32) (x2 : Nat) (x3 : Nat) (x4 : Int32) (x5 : Int32) (t0 : Int32) (hx2 : x2 < 6) (hx3 : x3 < 6) (S : St) (H : Heap) (locs : List Loc) (ls : Array Slot), bX5_isOrdered_90 Q x1 x2 x3 x4 x5 t0 S → va_P g vwCl (wX ct ad n ro S) H → va_D A (wX ct ad n ro S) → va_S A s.heap H locs → lv_has ls 13 [(0, .ref (ad 8)), (1, .int x1), (2, .ref (ad (20 + x2))), (3, .ref (ad (20 + x3))), (4, .int x4), (5, .int x5)] → W p l e R s m args below meth c H locs 0 0 QQ (F0 m 90 ls [.int t0]) := by
    intro x1 x2 x3 x4 x5 t0 hx2 hx3 S H locs ls h hP hD hS hl
    refine lv_istore (lv' := [(6, .int t0), (0, .ref (ad 8)), (1, .int x1), (2, .ref (ad (20 + x2))), (3, .ref (ad (20 + x3))), (4, .int x4), (5, .int x5)]) C.1 C.2.1 dX5_isOrdered_90 hl (by decide) rfl (fun ls hl => ?_)
    refine lv_iload C.1 C.2.1 dX5_isOrdered_92 (lv_at hl 6 rfl) ?_
    refine lv_iload_n C.1 C.2.1 dX5_isOrdered_94 rfl (lv_at hl 2 rfl) ?_
    refine lv_ishr C.1 C.2.1 dX5_isOrdered_95 ?_
    refine lv_iconst (v := 1) C.1 C.2.1 dX5_isOrdered_96 (by decide) ?_
    refine lv_iand C.1 C.2.1 dX5_isOrdered_97 ?_
    refine lv_if_eq (tgt := 105) C.1 C.2.1 dX5_isOrdered_98 (by decide) (fun c18 => ?_) (fun c18 => ?_)
    · have h := h.1 c18
      refine lv_iconst (v := 0) C.1 C.2.1 dX5_isOrdered_105 (by decide) ?_
      exact B106 x1 x2 x3 x4 t0 (0 : Int32) hx2 hx3 S H locs ls h hP hD hS (lv_sub hl [1, 2, 3, 4, 5, 0] rfl)
    · have h := h.2 c18
      refine lv_iconst (v := 1) C.1 C.2.1 dX5_isOrdered_101 (by decide) ?_
      refine lv_goto (tgt := 106) C.1 C.2.1 dX5_isOrdered_102 (by decide) ?_
      exact B106 x1 x2 x3 x4 t0 (1 : Int32) hx2 hx3 S H locs ls h hP hD hS (lv_sub hl [1, 2, 3, 4, 5, 0] rfl)
  have B89 : ∀ (x1 : Int32) (x2 : Nat) (x3 : Nat) (x4 : Int32) (x5 : Int32) (hx2 : x2 < 6) (hx3 : x3 < 6) (S : St) (H : Heap) (locs : List Loc) (ls : Array Slot), bX5_isOrdered_89 Q x1 x2 x3 x4 x5 S → va_P g vwCl (wX ct ad n ro S) H → va_D A (wX ct ad n ro S) → va_S A s.heap H locs → lv_has ls 13 [(0, .ref (ad 8)), (1, .int x1), (2, .ref (ad (20 + x2))), (3, .ref (ad (20 + x3))), (4, .int x4), (5, .int x5)] → W p l e R s m args below meth c H locs 0 0 QQ (F0 m 89 ls []) := by
    intro x1 x2 x3 x4 x5 hx2 hx3 S H locs ls h hP hD hS hl
    refine lv_iconst (v := 0) C.1 C.2.1 dX5_isOrdered_89 (by decide) ?_
    exact B90 x1 x2 x3 x4 x5 (0 : Int32) hx2 hx3 S H locs ls h hP hD hS (lv_sub hl [0, 1, 2, 3, 4, 5] rfl)
  have B67 : ∀ (x1 : Int32) (x2 : Nat) (x3 : Nat) (x4 : Int32) (x5 : Int32) (hx2 : x2 < 6) (hx3 : x3 < 6) (S : St) (H : Heap) (locs : List Loc) (ls : Array Slot), bX5_isOrdered_67 Q x1 x2 x3 x4 x5 S → va_P g vwCl (wX ct ad n ro S) H → va_D A (wX ct ad n ro S) → va_S A s.heap H locs → lv_has ls 13 [(0, .ref (ad 8)), (1, .int x1), (2, .ref (ad (20 + x2))), (3, .ref (ad (20 + x3))), (4, .int x4), (5, .int x5)] → W p l e R s m args below meth c H locs 0 0 QQ (F0 m 67 ls []) := by
    intro x1 x2 x3 x4 x5 hx2 hx3 S H locs ls h hP hD hS hl
    refine lv_aload_n C.1 C.2.1 dX5_isOrdered_67 rfl (lv_at hl 2 rfl) ?_
    refine xg0_writes hx2 C hinX0 hK hP (hN _ (by decide +kernel)) dX5_isOrdered_68 ?_
    refine lv_if_eq (tgt := 89) C.1 C.2.1 dX5_isOrdered_71 (by decide) (fun c20 => ?_) (fun c20 => ?_)
    · have h := h.1 c20
      exact B89 x1 x2 x3 x4 x5 hx2 hx3 S H locs ls h hP hD hS (lv_sub hl [0, 1, 2, 3, 4, 5] rfl)
    · have h := h.2 c20
      refine lv_aload_n C.1 C.2.1 dX5_isOrdered_74 rfl (lv_at hl 3 rfl) ?_
      refine xg0_location hx3 C hinX0 hK hP (hN _ (by decide +kernel)) dX5_isOrdered_75 ?_
      refine lv_aload_n C.1 C.2.1 dX5_isOrdered_78 rfl (lv_at hl 2 rfl) ?_
      refine xg0_location hx2 C hinX0 hK hP (hN _ (by decide +kernel)) dX5_isOrdered_79 ?_
      refine lv_icmp_ne (tgt := 89) C.1 C.2.1 dX5_isOrdered_82 (by decide) (fun c19 => ?_) (fun c19 => ?_)
      · have h := h.1 c19
        exact B89 x1 x2 x3 x4 x5 hx2 hx3 S H locs ls h hP hD hS (lv_sub hl [0, 1, 2, 3, 4, 5] rfl)
      · have h := h.2 c19
        refine lv_iconst (v := 1) C.1 C.2.1 dX5_isOrdered_85 (by decide) ?_
        refine lv_goto (tgt := 90) C.1 C.2.1 dX5_isOrdered_86 (by decide) ?_
        exact B90 x1 x2 x3 x4 x5 (1 : Int32) hx2 hx3 S H locs ls h hP hD hS (lv_sub hl [0, 1, 2, 3, 4, 5] rfl)
  have B37 : ∀ (x1 : Int32) (x2 : Nat) (x3 : Nat) (x4 : Int32) (x5 : Int32) (hx2 : x2 < 6) (hx3 : x3 < 6) (S : St) (H : Heap) (locs : List Loc) (ls : Array Slot), bX5_isOrdered_37 Q x1 x2 x3 x4 x5 S → va_P g vwCl (wX ct ad n ro S) H → va_D A (wX ct ad n ro S) → va_S A s.heap H locs → lv_has ls 13 [(0, .ref (ad 8)), (1, .int x1), (2, .ref (ad (20 + x2))), (3, .ref (ad (20 + x3))), (4, .int x4), (5, .int x5)] → W p l e R s m args below meth c H locs 0 0 QQ (F0 m 37 ls []) := by
    intro x1 x2 x3 x4 x5 hx2 hx3 S H locs ls h hP hD hS hl
    refine lv_aload_n C.1 C.2.1 dX5_isOrdered_37 rfl (lv_at hl 2 rfl) ?_
    refine xg0_writes hx2 C hinX0 hK hP (hN _ (by decide +kernel)) dX5_isOrdered_38 ?_
    refine lv_if_eq (tgt := 67) C.1 C.2.1 dX5_isOrdered_41 (by decide) (fun c23 => ?_) (fun c23 => ?_)
    · have h := h.1 c23
      exact B67 x1 x2 x3 x4 x5 hx2 hx3 S H locs ls h hP hD hS (lv_sub hl [0, 1, 2, 3, 4, 5] rfl)
    · have h := h.2 c23
      refine lv_iload C.1 C.2.1 dX5_isOrdered_44 (lv_at hl 5 rfl) ?_
      refine lv_aload_n C.1 C.2.1 dX5_isOrdered_46 rfl (lv_at hl 0 rfl) ?_
      refine xg5_fencedBeforeWrites C hinX5 hK hP (by decide +kernel) dX5_isOrdered_47 ?_
      refine lv_ior C.1 C.2.1 dX5_isOrdered_50 ?_
      refine lv_topi (fun y21 ey21 => ?_)
      have h := h y21 ey21
      refine lv_istore (lv' := [(5, .int y21), (0, .ref (ad 8)), (1, .int x1), (2, .ref (ad (20 + x2))), (3, .ref (ad (20 + x3))), (4, .int x4)]) C.1 C.2.1 dX5_isOrdered_51 hl (by decide) rfl (fun ls hl => ?_)
      refine lv_iload C.1 C.2.1 dX5_isOrdered_53 (lv_at hl 5 rfl) ?_
      refine lv_aload_n C.1 C.2.1 dX5_isOrdered_55 rfl (lv_at hl 1 rfl) ?_
      refine xg5_byWay C hinX5 hK hP (by decide +kernel) dX5_isOrdered_56 ?_
      refine lv_aload_n C.1 C.2.1 dX5_isOrdered_59 rfl (lv_at hl 1 rfl) ?_
      refine xg5_neededForPlaces C hinX5 hK hP (by decide +kernel) dX5_isOrdered_60 ?_
      refine lv_ior C.1 C.2.1 dX5_isOrdered_63 ?_
      refine lv_ior C.1 C.2.1 dX5_isOrdered_64 ?_
      refine lv_topi (fun y22 ey22 => ?_)
      have h := h y22 ey22
      refine lv_istore (lv' := [(4, .int y22), (5, .int y21), (0, .ref (ad 8)), (1, .int x1), (2, .ref (ad (20 + x2))), (3, .ref (ad (20 + x3)))]) C.1 C.2.1 dX5_isOrdered_65 hl (by decide) rfl (fun ls hl => ?_)
      exact B67 x1 x2 x3 y22 y21 hx2 hx3 S H locs ls h hP hD hS (lv_sub hl [2, 3, 4, 5, 0, 1] rfl)
  refine lv_aload_n C.1 C.2.1 dX5_isOrdered_0 rfl (lv_at hl 0 rfl) ?_
  refine xg5_accesses C hinX5 hK hP (by decide +kernel) dX5_isOrdered_1 ?_
  refine lv_iload_n C.1 C.2.1 dX5_isOrdered_4 rfl (lv_at hl 1 rfl) ?_
  obtain ⟨g25, h⟩ := h
  obtain ⟨i24, ei24⟩ : ∃ z : Nat, z = Int32.toNatClampNeg x1 := ⟨_, rfl⟩
  have h := h i24 ei24
  have hi24 : i24 < 6 := by rw [ei24]; exact lt_in g25
  refine xq_acc C hK hP g25 ei24 dX5_isOrdered_5 ?_
  refine lv_astore_n (lv' := [(3, .ref (ad (20 + i24))), (0, .ref (ad 8)), (1, .int x1), (2, .ref (ad (20 + x2)))]) C.1 C.2.1 dX5_isOrdered_6 rfl hl (by decide) rfl (fun ls hl => ?_)
  refine lv_aload_n C.1 C.2.1 dX5_isOrdered_7 rfl (lv_at hl 3 rfl) ?_
  refine xg0_byPlace hx2 C hinX0 hK hP (hN _ (by decide +kernel)) dX5_isOrdered_8 ?_
  refine lv_aload_n C.1 C.2.1 dX5_isOrdered_11 rfl (lv_at hl 3 rfl) ?_
  refine xg0_byValue hx2 C hinX0 hK hP (hN _ (by decide +kernel)) dX5_isOrdered_12 ?_
  refine lv_ior C.1 C.2.1 dX5_isOrdered_15 ?_
  refine lv_topi (fun y26 ey26 => ?_)
  have h := h y26 ey26
  refine lv_istore (lv' := [(4, .int y26), (3, .ref (ad (20 + i24))), (0, .ref (ad 8)), (1, .int x1), (2, .ref (ad (20 + x2)))]) C.1 C.2.1 dX5_isOrdered_16 hl (by decide) rfl (fun ls hl => ?_)
  refine lv_iconst (v := 0) C.1 C.2.1 dX5_isOrdered_18 (by decide) ?_
  refine lv_istore (lv' := [(5, .int (0 : Int32)), (4, .int y26), (3, .ref (ad (20 + i24))), (0, .ref (ad 8)), (1, .int x1), (2, .ref (ad (20 + x2)))]) C.1 C.2.1 dX5_isOrdered_19 hl (by decide) rfl (fun ls hl => ?_)
  refine lv_aload_n C.1 C.2.1 dX5_isOrdered_21 rfl (lv_at hl 5 rfl) ?_
  refine xg0_reads hx2 C hinX0 hK hP (hN _ (by decide +kernel)) dX5_isOrdered_22 ?_
  refine lv_if_eq (tgt := 37) C.1 C.2.1 dX5_isOrdered_25 (by decide) (fun c28 => ?_) (fun c28 => ?_)
  · have h := h.1 c28
    exact B37 x1 x2 i24 y26 (0 : Int32) hx2 hi24 S H locs ls h hP hD hS (lv_sub hl [3, 4, 5, 2, 1, 0] rfl)
  · have h := h.2 c28
    refine lv_iload C.1 C.2.1 dX5_isOrdered_28 (lv_at hl 0 rfl) ?_
    refine lv_aload_n C.1 C.2.1 dX5_isOrdered_30 rfl (lv_at hl 3 rfl) ?_
    refine xg5_fencedBeforeReads C hinX5 hK hP (by decide +kernel) dX5_isOrdered_31 ?_
    refine lv_ior C.1 C.2.1 dX5_isOrdered_34 ?_
    refine lv_topi (fun y27 ey27 => ?_)
    have h := h y27 ey27
    refine lv_istore (lv' := [(5, .int y27), (4, .int y26), (3, .ref (ad (20 + i24))), (0, .ref (ad 8)), (1, .int x1), (2, .ref (ad (20 + x2)))]) C.1 C.2.1 dX5_isOrdered_35 hl (by decide) rfl (fun ls hl => ?_)
    exact B37 x1 x2 i24 y26 y27 hx2 hi24 S H locs ls h hP hD hS (lv_sub hl [3, 4, 5, 2, 1, 0] rfl)
theorem mX5_isOrdered (l : Launch) (g : va_G) (ct : Nat → ClassId) (ad : Nat → Nat) (n ro sz : Nat) (S : St) (x1 : Int32) (x2 : Nat) (hx2 : x2 < 6) (Q : Int32 → St → Prop) (h : pX5_isOrdered x1 x2 S Q) : Met l yX5_isOrdered wsX5_isOrdered ({ frames := 0, cells := 0, slots := 0, locals := 0 }) (gPc g (xT ct) (wX ct ad n ro S) sz [.ref (ad 8), .int x1, .ref (ad (20 + x2))]) (va_Qi Q (gB g (xT ct) (wX ct ad n ro) (va_A (wX ct ad n ro S) sz)) (va_A (wX ct ad n ro S) sz)) 0 0 (va_A (wX ct ad n ro S) sz) :=
  g_metZ (w := wX ct ad n ro) (cc := cX5_isOrdered) (maxL := 13) (by decide) rfl rfl (Nat.le_of_ble_eq_true rfl) rfl (fun p e s m args below meth c QQ A C hK hN hA hret H locs ls hP hD hS hl => kX5_isOrdered C hK hN hA (Nat.le_refl _) (Nat.le_refl _) Q hret x1 x2 hx2 S h H locs ls hP hD hS hl)
