def bX7_both_17 (Q : Int32 → St → Prop) (S : St) : Prop :=
  Q (-2 : Int32) S
def bX7_both_84 (k35 : Int32 → Int32 → Int32 → Int32 → Int32 → Int32 → St → Prop) (Q : Int32 → St → Prop) (x1 : Int32) (x2 : Int32) (x3 : Int32) (x4 : Int32) (x6 : Int32) (t0 : Int32) (S : St) : Prop :=
  (∀ y1 : Int32, y1 = x6 + (1 : Int32) → k35 x1 x2 x3 x4 t0 y1 S)
def bX7_both_82 (k35 : Int32 → Int32 → Int32 → Int32 → Int32 → Int32 → St → Prop) (Q : Int32 → St → Prop) (x1 : Int32) (x2 : Int32) (x3 : Int32) (x4 : Int32) (x5 : Int32) (x6 : Int32) (S : St) : Prop :=
  bX7_both_84 k35 Q x1 x2 x3 x4 x6 x5 S
def bX7_both_35 (k35 : Int32 → Int32 → Int32 → Int32 → Int32 → Int32 → St → Prop) (Q : Int32 → St → Prop) (x1 : Int32) (x2 : Int32) (x3 : Int32) (x4 : Int32) (x5 : Int32) (x6 : Int32) (S : St) : Prop :=
  (((S.1 5 0) ≤ x6 → Q x5 S) ∧ (¬ ((S.1 5 0) ≤ x6) → (vp_in x6 40000 ∧ pX7_has (S.2.2 0 (Int32.toNatClampNeg x6)) x1 x2 (fun (r3 : Int32) => ((r3 = 0 → bX7_both_82 k35 Q x1 x2 x3 x4 x5 x6 S) ∧ (¬ (r3 = 0) → (vp_in x6 40000 ∧ pX7_has (S.2.2 0 (Int32.toNatClampNeg x6)) x3 x4 (fun (r5 : Int32) => ((r5 = 0 → bX7_both_82 k35 Q x1 x2 x3 x4 x5 x6 S) ∧ (¬ (r5 = 0) → bX7_both_84 k35 Q x1 x2 x3 x4 x6 (x5 + (1 : Int32)) S))))))))))
def pX7_both (x1 : Int32) (x2 : Int32) (x3 : Int32) (x4 : Int32) (S : St) (Q : Int32 → St → Prop) : Prop :=
  pX7_isAsking x1 x2 (fun (r9 : Int32) => ((r9 = 0 → bX7_both_17 Q  S) ∧ (¬ (r9 = 0) → pX7_isAsking x3 x4 (fun (r10 : Int32) => ((¬ r10 = 0 → ((¬ (S.1 3 0) = 0 → (∃ N : Nat, itr (F := Int32 → Int32 → Int32 → Int32 → Int32 → Int32 → St → Prop) (fun _ _ _ _ _ _ _ => False) (fun k35 x1 x2 x3 x4 x5 x6 S => bX7_both_35 k35 Q x1 x2 x3 x4 x5 x6 S) N x1 x2 x3 x4 (0 : Int32) (0 : Int32) S)) ∧ ((S.1 3 0) = 0 → Q (-1 : Int32) S))) ∧ (r10 = 0 → bX7_both_17 Q  S))))))
set_option maxHeartbeats 40000000 in
set_option maxRecDepth 100000 in
theorem kX7_both {p : Program} {l : Launch} {e : Env} {R : Room} {s : State} {m : MethodId} {args : Array Value} {below : List Frame} {meth : Method} {c : Code} {QQ : State → Prop} {g : va_G} {ct : Nat → ClassId} {ad : Nat → Nat} {A : Nat → Prop} (C : CallFix p m c cX7_both 7 s args wsX7_both RX7) (hK : va_K g vwCl (mT ct) s) (hN : xN s) (hA : ∀ q, s.heap.size ≤ q → A q) (hRf : 2 ≤ R.frames) (hRl : 43 ≤ R.locals) (Q : Int32 → St → Prop) (hret : ∀ (pc : Nat) (r : Int32) (S : St) (H : Heap) (locs : List Loc) (ls : Array Slot), decode cX7_both pc = .ok (.ireturn, 1) → Q r S → va_P g vwCl (wM ct ad S) H → va_D A (wM ct ad S) → va_S A s.heap H locs → W p l e R s m args below meth c H locs 0 0 QQ (F0 m pc ls [.int r])) (x1 : Int32) (x2 : Int32) (x3 : Int32) (x4 : Int32) (S : St) (h : pX7_both x1 x2 x3 x4 S Q) (H : Heap) (locs : List Loc) (ls : Array Slot) (hP : va_P g vwCl (wM ct ad S) H) (hD : va_D A (wM ct ad S)) (hS : va_S A s.heap H locs) (hl : lv_has ls 7 [(0, .ref (ad 0)), (1, .int x1), (2, .int x2), (3, .int x3), (4, .int x4)]) : W p l e R s m args below meth c H locs 0 0 QQ (F0 m 0 ls []) := by
  have hinX7 : ∀ w ∈ wsX70, w ∈ wsX7_both := by decide +kernel
  have B17 : ∀ (S : St) (H : Heap) (locs : List Loc) (ls : Array Slot), bX7_both_17 Q S → va_P g vwCl (wM ct ad S) H → va_D A (wM ct ad S) → va_S A s.heap H locs → lv_has ls 7 [(0, .ref (ad 0))] → W p l e R s m args below meth c H locs 0 0 QQ (F0 m 17 ls []) := by
    intro S H locs ls h hP hD hS hl
    refine lv_bipush (v := -2) C.1 C.2.1 dX7_both_17 (by decide) ?_
    exact hret _ _ _ _ _ _ dX7_both_19 h hP hD hS
  have B84 : ∀ (k35 : Int32 → Int32 → Int32 → Int32 → Int32 → Int32 → St → Prop) (hk35 : ∀ (x1 : Int32) (x2 : Int32) (x3 : Int32) (x4 : Int32) (x5 : Int32) (x6 : Int32) (S : St) (H : Heap) (locs : List Loc) (ls : Array Slot), k35 x1 x2 x3 x4 x5 x6 S → va_P g vwCl (wM ct ad S) H → va_D A (wM ct ad S) → va_S A s.heap H locs → lv_has ls 7 [(0, .ref (ad 0)), (1, .int x1), (2, .int x2), (3, .int x3), (4, .int x4), (5, .int x5), (6, .int x6)] → W p l e R s m args below meth c H locs 0 0 QQ (F0 m 35 ls [])) (x1 : Int32) (x2 : Int32) (x3 : Int32) (x4 : Int32) (x6 : Int32) (t0 : Int32) (S : St) (H : Heap) (locs : List Loc) (ls : Array Slot), bX7_both_84 k35 Q x1 x2 x3 x4 x6 t0 S → va_P g vwCl (wM ct ad S) H → va_D A (wM ct ad S) → va_S A s.heap H locs → lv_has ls 7 [(0, .ref (ad 0)), (1, .int x1), (2, .int x2), (3, .int x3), (4, .int x4), (6, .int x6)] → W p l e R s m args below meth c H locs 0 0 QQ (F0 m 84 ls [.int t0]) := by
    intro k35 hk35 x1 x2 x3 x4 x6 t0 S H locs ls h hP hD hS hl
    refine lv_istore (lv' := [(5, .int t0), (0, .ref (ad 0)), (1, .int x1), (2, .int x2), (3, .int x3), (4, .int x4), (6, .int x6)]) C.1 C.2.1 dX7_both_84 hl (by decide) rfl (fun ls hl => ?_)
    obtain ⟨y1, ey1⟩ : ∃ z : Int32, z = x6 + (1 : Int32) := ⟨_, rfl⟩
    have h := h y1 ey1
    refine lv_iinc (v := y1) (lv' := [(6, .int y1), (5, .int t0), (0, .ref (ad 0)), (1, .int x1), (2, .int x2), (3, .int x3), (4, .int x4)]) C.1 C.2.1 dX7_both_86 hl (k := 6) rfl (by rw [ey1]; rfl) (by decide) rfl (fun ls hl => ?_)
    refine lv_goto (tgt := 35) C.1 C.2.1 dX7_both_89 (by decide) ?_
    exact hk35 x1 x2 x3 x4 t0 y1 S H locs ls h hP hD hS (lv_sub hl [2, 3, 4, 5, 6, 1, 0] rfl)
  have B82 : ∀ (k35 : Int32 → Int32 → Int32 → Int32 → Int32 → Int32 → St → Prop) (hk35 : ∀ (x1 : Int32) (x2 : Int32) (x3 : Int32) (x4 : Int32) (x5 : Int32) (x6 : Int32) (S : St) (H : Heap) (locs : List Loc) (ls : Array Slot), k35 x1 x2 x3 x4 x5 x6 S → va_P g vwCl (wM ct ad S) H → va_D A (wM ct ad S) → va_S A s.heap H locs → lv_has ls 7 [(0, .ref (ad 0)), (1, .int x1), (2, .int x2), (3, .int x3), (4, .int x4), (5, .int x5), (6, .int x6)] → W p l e R s m args below meth c H locs 0 0 QQ (F0 m 35 ls [])) (x1 : Int32) (x2 : Int32) (x3 : Int32) (x4 : Int32) (x5 : Int32) (x6 : Int32) (S : St) (H : Heap) (locs : List Loc) (ls : Array Slot), bX7_both_82 k35 Q x1 x2 x3 x4 x5 x6 S → va_P g vwCl (wM ct ad S) H → va_D A (wM ct ad S) → va_S A s.heap H locs → lv_has ls 7 [(0, .ref (ad 0)), (1, .int x1), (2, .int x2), (3, .int x3), (4, .int x4), (5, .int x5), (6, .int x6)] → W p l e R s m args below meth c H locs 0 0 QQ (F0 m 82 ls []) := by
    intro k35 hk35 x1 x2 x3 x4 x5 x6 S H locs ls h hP hD hS hl
    refine lv_iload C.1 C.2.1 dX7_both_82 (lv_at hl 5 rfl) ?_
    exact B84 k35 hk35 x1 x2 x3 x4 x6 x5 S H locs ls h hP hD hS (lv_sub hl [0, 1, 2, 3, 4, 6] rfl)
  have B35 : ∀ (k35 : Int32 → Int32 → Int32 → Int32 → Int32 → Int32 → St → Prop) (hk35 : ∀ (x1 : Int32) (x2 : Int32) (x3 : Int32) (x4 : Int32) (x5 : Int32) (x6 : Int32) (S : St) (H : Heap) (locs : List Loc) (ls : Array Slot), k35 x1 x2 x3 x4 x5 x6 S → va_P g vwCl (wM ct ad S) H → va_D A (wM ct ad S) → va_S A s.heap H locs → lv_has ls 7 [(0, .ref (ad 0)), (1, .int x1), (2, .int x2), (3, .int x3), (4, .int x4), (5, .int x5), (6, .int x6)] → W p l e R s m args below meth c H locs 0 0 QQ (F0 m 35 ls [])) (x1 : Int32) (x2 : Int32) (x3 : Int32) (x4 : Int32) (x5 : Int32) (x6 : Int32) (S : St) (H : Heap) (locs : List Loc) (ls : Array Slot), bX7_both_35 k35 Q x1 x2 x3 x4 x5 x6 S → va_P g vwCl (wM ct ad S) H → va_D A (wM ct ad S) → va_S A s.heap H locs → lv_has ls 7 [(0, .ref (ad 0)), (1, .int x1), (2, .int x2), (3, .int x3), (4, .int x4), (5, .int x5), (6, .int x6)] → W p l e R s m args below meth c H locs 0 0 QQ (F0 m 35 ls []) := by
    intro k35 hk35 x1 x2 x3 x4 x5 x6 S H locs ls h hP hD hS hl
    refine lv_iload C.1 C.2.1 dX7_both_35 (lv_at hl 6 rfl) ?_
    refine lv_aload_n C.1 C.2.1 dX7_both_37 rfl (lv_at hl 0 rfl) ?_
    refine mg_many C hinX7 hK hP (by decide +kernel) dX7_both_38 ?_
    refine lv_icmp_ge (tgt := 92) C.1 C.2.1 dX7_both_41 (by decide) (fun c8 => ?_) (fun c8 => ?_)
    · have h := h.1 c8
      refine lv_iload C.1 C.2.1 dX7_both_92 (lv_at hl 5 rfl) ?_
      exact hret _ _ _ _ _ _ dX7_both_94 h hP hD hS
    · have h := h.2 c8
      refine lv_aload_n C.1 C.2.1 dX7_both_44 rfl (lv_at hl 0 rfl) ?_
      refine mg_outcomes C hinX7 hK hP (by decide +kernel) dX7_both_45 ?_
      refine lv_iload C.1 C.2.1 dX7_both_48 (lv_at hl 6 rfl) ?_
      obtain ⟨g2, h⟩ := h
      refine ma_outcomes C hK hP g2  rfl dX7_both_50 ?_
      refine lv_iload_n C.1 C.2.1 dX7_both_51 rfl (lv_at hl 1 rfl) ?_
      refine lv_iload_n C.1 C.2.1 dX7_both_52 rfl (lv_at hl 2 rfl) ?_
      refine g_callS (w := wM ct ad) C hK hN hA hP hD hS (mX7_has l g (mT ct) S H.size (S.2.2 0 (Int32.toNatClampNeg x6)) x1 x2 _ h) (va_cwS 3 C.2.2.2.2 gX7_both_X7_has rfl rfl rfl (by decide +kernel) ⟨Nat.le_trans (by decide) hRf, Nat.le_trans (by decide) hRl⟩) rfl hl.1 rfl (Nat.le_of_ble_eq_true rfl) dX7_both_53 ⟨Nat.zero_le _, Nat.zero_le _⟩ (fun r3 H locs h hP hD hS => ?_)
      refine lv_if_eq (tgt := 82) C.1 C.2.1 dX7_both_56 (by decide) (fun c7 => ?_) (fun c7 => ?_)
      · have h := h.1 c7
        exact B82 k35 hk35 x1 x2 x3 x4 x5 x6 S H locs ls h hP hD hS (lv_sub hl [0, 1, 2, 3, 4, 5, 6] rfl)
      · have h := h.2 c7
        refine lv_aload_n C.1 C.2.1 dX7_both_59 rfl (lv_at hl 0 rfl) ?_
        refine mg_outcomes C hinX7 hK hP (by decide +kernel) dX7_both_60 ?_
        refine lv_iload C.1 C.2.1 dX7_both_63 (lv_at hl 6 rfl) ?_
        obtain ⟨g4, h⟩ := h
        refine ma_outcomes C hK hP g4  rfl dX7_both_65 ?_
        refine lv_iload_n C.1 C.2.1 dX7_both_66 rfl (lv_at hl 3 rfl) ?_
        refine lv_iload C.1 C.2.1 dX7_both_67 (lv_at hl 4 rfl) ?_
        refine g_callS (w := wM ct ad) C hK hN hA hP hD hS (mX7_has l g (mT ct) S H.size (S.2.2 0 (Int32.toNatClampNeg x6)) x3 x4 _ h) (va_cwS 3 C.2.2.2.2 gX7_both_X7_has rfl rfl rfl (by decide +kernel) ⟨Nat.le_trans (by decide) hRf, Nat.le_trans (by decide) hRl⟩) rfl hl.1 rfl (Nat.le_of_ble_eq_true rfl) dX7_both_69 ⟨Nat.zero_le _, Nat.zero_le _⟩ (fun r5 H locs h hP hD hS => ?_)
        refine lv_if_eq (tgt := 82) C.1 C.2.1 dX7_both_72 (by decide) (fun c6 => ?_) (fun c6 => ?_)
        · have h := h.1 c6
          exact B82 k35 hk35 x1 x2 x3 x4 x5 x6 S H locs ls h hP hD hS (lv_sub hl [0, 1, 2, 3, 4, 5, 6] rfl)
        · have h := h.2 c6
          refine lv_iload C.1 C.2.1 dX7_both_75 (lv_at hl 5 rfl) ?_
          refine lv_iconst (v := 1) C.1 C.2.1 dX7_both_77 (by decide) ?_
          refine lv_iadd C.1 C.2.1 dX7_both_78 ?_
          refine lv_goto (tgt := 84) C.1 C.2.1 dX7_both_79 (by decide) ?_
          exact B84 k35 hk35 x1 x2 x3 x4 x6 (x5 + (1 : Int32)) S H locs ls h hP hD hS (lv_sub hl [0, 1, 2, 3, 4, 6] rfl)
  have L35 : ∀ (N : Nat) (x1 : Int32) (x2 : Int32) (x3 : Int32) (x4 : Int32) (x5 : Int32) (x6 : Int32) (S : St) (H : Heap) (locs : List Loc) (ls : Array Slot), itr (F := Int32 → Int32 → Int32 → Int32 → Int32 → Int32 → St → Prop) (fun _ _ _ _ _ _ _ => False) (fun k35 x1 x2 x3 x4 x5 x6 S => bX7_both_35 k35 Q x1 x2 x3 x4 x5 x6 S) N x1 x2 x3 x4 x5 x6 S → va_P g vwCl (wM ct ad S) H → va_D A (wM ct ad S) → va_S A s.heap H locs → lv_has ls 7 [(0, .ref (ad 0)), (1, .int x1), (2, .int x2), (3, .int x3), (4, .int x4), (5, .int x5), (6, .int x6)] → W p l e R s m args below meth c H locs 0 0 QQ (F0 m 35 ls []) := by
    intro N
    induction N with
    | zero => intro x1 x2 x3 x4 x5 x6 S H locs ls h hP hD hS hl; exact False.elim h
    | succ N ih => intro x1 x2 x3 x4 x5 x6 S H locs ls h hP hD hS hl; exact B35  (itr (F := Int32 → Int32 → Int32 → Int32 → Int32 → Int32 → St → Prop) (fun _ _ _ _ _ _ _ => False) (fun k35 x1 x2 x3 x4 x5 x6 S => bX7_both_35 k35 Q x1 x2 x3 x4 x5 x6 S) N) ih x1 x2 x3 x4 x5 x6 S H locs ls h  hP hD hS hl
  refine lv_iload_n C.1 C.2.1 dX7_both_0 rfl (lv_at hl 1 rfl) ?_
  refine lv_iload_n C.1 C.2.1 dX7_both_1 rfl (lv_at hl 2 rfl) ?_
  refine g_callS (w := wM ct ad) C hK hN hA hP hD hS (mX7_isAsking l g (mT ct) S H.size x1 x2 _ h) (va_cwS 2 C.2.2.2.2 gX7_both_X7_isAsking rfl rfl rfl (by decide +kernel) ⟨Nat.le_trans (by decide) hRf, Nat.le_trans (by decide) hRl⟩) rfl hl.1 rfl (Nat.le_of_ble_eq_true rfl) dX7_both_2 ⟨Nat.zero_le _, Nat.zero_le _⟩ (fun r9 H locs h hP hD hS => ?_)
  refine lv_if_eq (tgt := 17) C.1 C.2.1 dX7_both_5 (by decide) (fun c13 => ?_) (fun c13 => ?_)
  · have h := h.1 c13
    exact B17  S H locs ls h hP hD hS (lv_sub hl [0] rfl)
  · have h := h.2 c13
    refine lv_iload_n C.1 C.2.1 dX7_both_8 rfl (lv_at hl 3 rfl) ?_
    refine lv_iload C.1 C.2.1 dX7_both_9 (lv_at hl 4 rfl) ?_
    refine g_callS (w := wM ct ad) C hK hN hA hP hD hS (mX7_isAsking l g (mT ct) S H.size x3 x4 _ h) (va_cwS 2 C.2.2.2.2 gX7_both_X7_isAsking rfl rfl rfl (by decide +kernel) ⟨Nat.le_trans (by decide) hRf, Nat.le_trans (by decide) hRl⟩) rfl hl.1 rfl (Nat.le_of_ble_eq_true rfl) dX7_both_11 ⟨Nat.zero_le _, Nat.zero_le _⟩ (fun r10 H locs h hP hD hS => ?_)
    refine lv_if_ne (tgt := 20) C.1 C.2.1 dX7_both_14 (by decide) (fun c12 => ?_) (fun c12 => ?_)
    · have h := h.1 c12
      refine lv_aload_n C.1 C.2.1 dX7_both_20 rfl (lv_at hl 0 rfl) ?_
      refine mg_isFound C hinX7 hK hP (by decide +kernel) dX7_both_21 ?_
      refine lv_if_ne (tgt := 29) C.1 C.2.1 dX7_both_24 (by decide) (fun c11 => ?_) (fun c11 => ?_)
      · have h := h.1 c11
        refine lv_iconst (v := 0) C.1 C.2.1 dX7_both_29 (by decide) ?_
        refine lv_istore (lv' := [(5, .int (0 : Int32)), (0, .ref (ad 0)), (1, .int x1), (2, .int x2), (3, .int x3), (4, .int x4)]) C.1 C.2.1 dX7_both_30 hl (by decide) rfl (fun ls hl => ?_)
        refine lv_iconst (v := 0) C.1 C.2.1 dX7_both_32 (by decide) ?_
        refine lv_istore (lv' := [(6, .int (0 : Int32)), (5, .int (0 : Int32)), (0, .ref (ad 0)), (1, .int x1), (2, .int x2), (3, .int x3), (4, .int x4)]) C.1 C.2.1 dX7_both_33 hl (by decide) rfl (fun ls hl => ?_)
        obtain ⟨N, h⟩ := h
        exact L35 N x1 x2 x3 x4 (0 : Int32) (0 : Int32) S H locs ls h hP hD hS (lv_sub hl [2, 3, 4, 5, 6, 1, 0] rfl)
      · have h := h.2 c11
        refine lv_iconst (v := -1) C.1 C.2.1 dX7_both_27 (by decide) ?_
        exact hret _ _ _ _ _ _ dX7_both_28 h hP hD hS
    · have h := h.2 c12
      exact B17  S H locs ls h hP hD hS (lv_sub hl [0] rfl)
theorem mX7_both (l : Launch) (g : va_G) (ct : Nat → ClassId) (ad : Nat → Nat) (sz : Nat) (S : St) (x1 : Int32) (x2 : Int32) (x3 : Int32) (x4 : Int32) (Q : Int32 → St → Prop) (h : pX7_both x1 x2 x3 x4 S Q) : Met l yX7_both wsX7_both ({ frames := 2, cells := 0, slots := 0, locals := 43 }) (gPc g (mT ct) (wM ct ad S) sz [.ref (ad 0), .int x1, .int x2, .int x3, .int x4]) (va_Qi Q (gB g (mT ct) (wM ct ad) (va_A (wM ct ad S) sz)) (va_A (wM ct ad S) sz)) 0 0 (va_A (wM ct ad S) sz) :=
  g_metI (w := wM ct ad) (cc := cX7_both) (maxL := 7) (by decide) rfl rfl (Nat.le_of_ble_eq_true rfl) rfl (fun p e s m args below meth c QQ A C hK hN hA hret H locs ls hP hD hS hl => kX7_both C hK hN hA (Nat.le_refl _) (Nat.le_refl _) Q hret x1 x2 x3 x4 S h H locs ls hP hD hS hl)

def pX7_with (x1 : Int32) (x2 : Int32) (S : St) (Q : Int32 → St → Prop) : Prop :=
  pX7_both x1 x2 x1 x2 S (fun (r2 : Int32) (S1 : St) => Q r2 S1)
set_option maxHeartbeats 40000000 in
set_option maxRecDepth 100000 in
theorem kX7_with {p : Program} {l : Launch} {e : Env} {R : Room} {s : State} {m : MethodId} {args : Array Value} {below : List Frame} {meth : Method} {c : Code} {QQ : State → Prop} {g : va_G} {ct : Nat → ClassId} {ad : Nat → Nat} {A : Nat → Prop} (C : CallFix p m c cX7_with 3 s args wsX7_with RX7) (hK : va_K g vwCl (mT ct) s) (hN : xN s) (hA : ∀ q, s.heap.size ≤ q → A q) (hRf : 3 ≤ R.frames) (hRl : 69 ≤ R.locals) (Q : Int32 → St → Prop) (hret : ∀ (pc : Nat) (r : Int32) (S : St) (H : Heap) (locs : List Loc) (ls : Array Slot), decode cX7_with pc = .ok (.ireturn, 1) → Q r S → va_P g vwCl (wM ct ad S) H → va_D A (wM ct ad S) → va_S A s.heap H locs → W p l e R s m args below meth c H locs 0 0 QQ (F0 m pc ls [.int r])) (x1 : Int32) (x2 : Int32) (S : St) (h : pX7_with x1 x2 S Q) (H : Heap) (locs : List Loc) (ls : Array Slot) (hP : va_P g vwCl (wM ct ad S) H) (hD : va_D A (wM ct ad S)) (hS : va_S A s.heap H locs) (hl : lv_has ls 3 [(0, .ref (ad 0)), (1, .int x1), (2, .int x2)]) : W p l e R s m args below meth c H locs 0 0 QQ (F0 m 0 ls []) := by
  refine lv_aload_n C.1 C.2.1 dX7_with_0 rfl (lv_at hl 0 rfl) ?_
  refine lv_iload_n C.1 C.2.1 dX7_with_1 rfl (lv_at hl 1 rfl) ?_
  refine lv_iload_n C.1 C.2.1 dX7_with_2 rfl (lv_at hl 2 rfl) ?_
  refine lv_iload_n C.1 C.2.1 dX7_with_3 rfl (lv_at hl 1 rfl) ?_
  refine lv_iload_n C.1 C.2.1 dX7_with_4 rfl (lv_at hl 2 rfl) ?_
  refine g_callVi (w := wM ct ad) C hK hN hA hP hD hS (mX7_both l g ct ad H.size S x1 x2 x1 x2  _ h) (cwV 4 C.2.2.2.2 gX7_with_X7_both rfl rfl rfl (by decide +kernel) ⟨Nat.le_trans (by decide) hRf, Nat.le_trans (by decide) hRl⟩) (va_recv hK hP (ci := 7) (q0 := 0) rfl rfl) rfl hl.1 rfl (Nat.le_of_ble_eq_true rfl) dX7_with_5 ⟨Nat.zero_le _, Nat.zero_le _⟩ (fun r2 S1 H locs h hP hD hS => ?_)
  exact hret _ _ _ _ _ _ dX7_with_8 h hP hD hS
theorem mX7_with (l : Launch) (g : va_G) (ct : Nat → ClassId) (ad : Nat → Nat) (sz : Nat) (S : St) (x1 : Int32) (x2 : Int32) (Q : Int32 → St → Prop) (h : pX7_with x1 x2 S Q) : Met l yX7_with wsX7_with ({ frames := 3, cells := 0, slots := 0, locals := 69 }) (gPc g (mT ct) (wM ct ad S) sz [.ref (ad 0), .int x1, .int x2]) (va_Qi Q (gB g (mT ct) (wM ct ad) (va_A (wM ct ad S) sz)) (va_A (wM ct ad S) sz)) 0 0 (va_A (wM ct ad S) sz) :=
  g_metI (w := wM ct ad) (cc := cX7_with) (maxL := 3) (by decide) rfl rfl (Nat.le_of_ble_eq_true rfl) rfl (fun p e s m args below meth c QQ A C hK hN hA hret H locs ls hP hD hS hl => kX7_with C hK hN hA (Nat.le_refl _) (Nat.le_refl _) Q hret x1 x2 S h H locs ls hP hD hS hl)

def bX7_is_39 (Q : Int32 → St → Prop) (t0 : Int32) (S : St) : Prop :=
  Q t0 S
def bX7_is_38 (Q : Int32 → St → Prop) (S : St) : Prop :=
  bX7_is_39 Q (0 : Int32) S
def pX7_is (x1 : Int64) (S : St) (Q : Int32 → St → Prop) : Prop :=
  ((¬ (S.1 3 0) = 0 → pX7_placeOf x1 S (fun (r2 : Int32) (S1 : St) => (((S1.1 5 0) ≤ r2 → bX7_is_38 Q  S1) ∧ (¬ ((S1.1 5 0) ≤ r2) → (vp_in r2 40000 ∧ ((¬ (lg_cmp (S1.2.2 0 (Int32.toNatClampNeg r2)) x1) = 0 → bX7_is_38 Q  S1) ∧ ((lg_cmp (S1.2.2 0 (Int32.toNatClampNeg r2)) x1) = 0 → bX7_is_39 Q (1 : Int32) S1))))))) ∧ ((S.1 3 0) = 0 → Q (-1 : Int32) S))
set_option maxHeartbeats 40000000 in
set_option maxRecDepth 100000 in
theorem kX7_is {p : Program} {l : Launch} {e : Env} {R : Room} {s : State} {m : MethodId} {args : Array Value} {below : List Frame} {meth : Method} {c : Code} {QQ : State → Prop} {g : va_G} {ct : Nat → ClassId} {ad : Nat → Nat} {A : Nat → Prop} (C : CallFix p m c cX7_is 4 s args wsX7_is RX7) (hK : va_K g vwCl (mT ct) s) (hN : xN s) (hA : ∀ q, s.heap.size ≤ q → A q) (hRf : 1 ≤ R.frames) (hRl : 25 ≤ R.locals) (Q : Int32 → St → Prop) (hret : ∀ (pc : Nat) (r : Int32) (S : St) (H : Heap) (locs : List Loc) (ls : Array Slot), decode cX7_is pc = .ok (.ireturn, 1) → Q r S → va_P g vwCl (wM ct ad S) H → va_D A (wM ct ad S) → va_S A s.heap H locs → W p l e R s m args below meth c H locs 0 0 QQ (F0 m pc ls [.int r])) (x1 : Int64) (S : St) (h : pX7_is x1 S Q) (H : Heap) (locs : List Loc) (ls : Array Slot) (hP : va_P g vwCl (wM ct ad S) H) (hD : va_D A (wM ct ad S)) (hS : va_S A s.heap H locs) (hl : lv_has ls 4 [(0, .ref (ad 0)), (1, .long x1)]) : W p l e R s m args below meth c H locs 0 0 QQ (F0 m 0 ls []) := by
  have hinX7 : ∀ w ∈ wsX70, w ∈ wsX7_is := by decide +kernel
  have B39 : ∀ (t0 : Int32) (S : St) (H : Heap) (locs : List Loc) (ls : Array Slot), bX7_is_39 Q t0 S → va_P g vwCl (wM ct ad S) H → va_D A (wM ct ad S) → va_S A s.heap H locs → lv_has ls 4 [(0, .ref (ad 0))] → W p l e R s m args below meth c H locs 0 0 QQ (F0 m 39 ls [.int t0]) := by
    intro t0 S H locs ls h hP hD hS hl
    exact hret _ _ _ _ _ _ dX7_is_39 h hP hD hS
  have B38 : ∀ (S : St) (H : Heap) (locs : List Loc) (ls : Array Slot), bX7_is_38 Q S → va_P g vwCl (wM ct ad S) H → va_D A (wM ct ad S) → va_S A s.heap H locs → lv_has ls 4 [(0, .ref (ad 0))] → W p l e R s m args below meth c H locs 0 0 QQ (F0 m 38 ls []) := by
    intro S H locs ls h hP hD hS hl
    refine lv_iconst (v := 0) C.1 C.2.1 dX7_is_38 (by decide) ?_
    exact B39 (0 : Int32) S H locs ls h hP hD hS (lv_sub hl [0] rfl)
  refine lv_aload_n C.1 C.2.1 dX7_is_0 rfl (lv_at hl 0 rfl) ?_
  refine mg_isFound C hinX7 hK hP (by decide +kernel) dX7_is_1 ?_
  refine lv_if_ne (tgt := 9) C.1 C.2.1 dX7_is_4 (by decide) (fun c6 => ?_) (fun c6 => ?_)
  · have h := h.1 c6
    refine lv_aload_n C.1 C.2.1 dX7_is_9 rfl (lv_at hl 0 rfl) ?_
    refine lv_lload_n C.1 C.2.1 dX7_is_10 rfl (lv_at hl 1 rfl) ?_
    refine g_callVi (w := wM ct ad) C hK hN hA hP hD hS (mX7_placeOf l g ct ad H.size S x1  _ h) (cwV 1 C.2.2.2.2 gX7_is_X7_placeOf rfl rfl rfl (by decide +kernel) ⟨Nat.le_trans (by decide) hRf, Nat.le_trans (by decide) hRl⟩) (va_recv hK hP (ci := 7) (q0 := 0) rfl rfl) rfl hl.1 rfl (Nat.le_of_ble_eq_true rfl) dX7_is_11 ⟨Nat.zero_le _, Nat.zero_le _⟩ (fun r2 S1 H locs h hP hD hS => ?_)
    refine lv_istore_n (lv' := [(3, .int r2), (0, .ref (ad 0)), (1, .long x1)]) C.1 C.2.1 dX7_is_14 rfl hl (by decide) rfl (fun ls hl => ?_)
    refine lv_iload_n C.1 C.2.1 dX7_is_15 rfl (lv_at hl 0 rfl) ?_
    refine lv_aload_n C.1 C.2.1 dX7_is_16 rfl (lv_at hl 1 rfl) ?_
    refine mg_many C hinX7 hK hP (by decide +kernel) dX7_is_17 ?_
    refine lv_icmp_ge (tgt := 38) C.1 C.2.1 dX7_is_20 (by decide) (fun c5 => ?_) (fun c5 => ?_)
    · have h := h.1 c5
      exact B38  S1 H locs ls h hP hD hS (lv_sub hl [1] rfl)
    · have h := h.2 c5
      refine lv_aload_n C.1 C.2.1 dX7_is_23 rfl (lv_at hl 1 rfl) ?_
      refine mg_outcomes C hinX7 hK hP (by decide +kernel) dX7_is_24 ?_
      refine lv_iload_n C.1 C.2.1 dX7_is_27 rfl (lv_at hl 0 rfl) ?_
      obtain ⟨g3, h⟩ := h
      refine ma_outcomes C hK hP g3  rfl dX7_is_28 ?_
      refine lv_lload_n C.1 C.2.1 dX7_is_29 rfl (lv_at hl 2 rfl) ?_
      refine W.lcmp C.1 C.2.1 dX7_is_30 ?_
      refine lv_if_ne (tgt := 38) C.1 C.2.1 dX7_is_31 (by decide) (fun c4 => ?_) (fun c4 => ?_)
      · have h := h.1 c4
        exact B38  S1 H locs ls h hP hD hS (lv_sub hl [1] rfl)
      · have h := h.2 c4
        refine lv_iconst (v := 1) C.1 C.2.1 dX7_is_34 (by decide) ?_
        refine lv_goto (tgt := 39) C.1 C.2.1 dX7_is_35 (by decide) ?_
        exact B39 (1 : Int32) S1 H locs ls h hP hD hS (lv_sub hl [1] rfl)
  · have h := h.2 c6
    refine lv_iconst (v := -1) C.1 C.2.1 dX7_is_7 (by decide) ?_
    exact hret _ _ _ _ _ _ dX7_is_8 h hP hD hS
theorem mX7_is (l : Launch) (g : va_G) (ct : Nat → ClassId) (ad : Nat → Nat) (sz : Nat) (S : St) (x1 : Int64) (Q : Int32 → St → Prop) (h : pX7_is x1 S Q) : Met l yX7_is wsX7_is ({ frames := 1, cells := 0, slots := 0, locals := 25 }) (gPc g (mT ct) (wM ct ad S) sz [.ref (ad 0), .long x1]) (va_Qi Q (gB g (mT ct) (wM ct ad) (va_A (wM ct ad S) sz)) (va_A (wM ct ad S) sz)) 0 0 (va_A (wM ct ad S) sz) :=
  g_metI (w := wM ct ad) (cc := cX7_is) (maxL := 4) (by decide) rfl rfl (Nat.le_of_ble_eq_true rfl) rfl (fun p e s m args below meth c QQ A C hK hN hA hret H locs ls hP hD hS hl => kX7_is C hK hN hA (Nat.le_refl _) (Nat.le_refl _) Q hret x1 S h H locs ls hP hD hS hl)

def bX7_instruction_25 (Q : Int32 → St → Prop) (S : St) : Prop :=
  Q (-1 : Int32) S
def bX7_instruction_57 (Q : Int32 → St → Prop) (t0 : Int32) (S : St) : Prop :=
  Q t0 S
def pX7_instruction (x1 : Int32) (x2 : Int32) (x3 : Int32) (S : St) (Q : Int32 → St → Prop) : Prop :=
  pX7_in x1 (0 : Int32) (3 : Int32) (fun (r1 : Int32) => ((r1 = 0 → bX7_instruction_25 Q  S) ∧ (¬ (r1 = 0) → (vp_in x1 4 ∧ pX7_in x2 (0 : Int32) ((S.1 2 (Int32.toNatClampNeg x1)) - (1 : Int32)) (fun (r3 : Int32) => ((¬ r3 = 0 → pX7_in x3 (0 : Int32) (5 : Int32) (fun (r4 : Int32) => ((r4 = 0 → bX7_instruction_57 Q (-2 : Int32) S) ∧ (¬ (r4 = 0) → (vp_in ((((36 : Int32) * x1) + ((6 : Int32) * x2)) + x3) 144 ∧ bX7_instruction_57 Q (S.1 1 (Int32.toNatClampNeg ((((36 : Int32) * x1) + ((6 : Int32) * x2)) + x3))) S))))) ∧ (r3 = 0 → bX7_instruction_25 Q  S)))))))
set_option maxHeartbeats 40000000 in
set_option maxRecDepth 100000 in
theorem kX7_instruction {p : Program} {l : Launch} {e : Env} {R : Room} {s : State} {m : MethodId} {args : Array Value} {below : List Frame} {meth : Method} {c : Code} {QQ : State → Prop} {g : va_G} {ct : Nat → ClassId} {ad : Nat → Nat} {A : Nat → Prop} (C : CallFix p m c cX7_instruction 4 s args wsX7_instruction RX7) (hK : va_K g vwCl (mT ct) s) (hN : xN s) (hA : ∀ q, s.heap.size ≤ q → A q) (hRf : 1 ≤ R.frames) (hRl : 22 ≤ R.locals) (Q : Int32 → St → Prop) (hret : ∀ (pc : Nat) (r : Int32) (S : St) (H : Heap) (locs : List Loc) (ls : Array Slot), decode cX7_instruction pc = .ok (.ireturn, 1) → Q r S → va_P g vwCl (wM ct ad S) H → va_D A (wM ct ad S) → va_S A s.heap H locs → W p l e R s m args below meth c H locs 0 0 QQ (F0 m pc ls [.int r])) (x1 : Int32) (x2 : Int32) (x3 : Int32) (S : St) (h : pX7_instruction x1 x2 x3 S Q) (H : Heap) (locs : List Loc) (ls : Array Slot) (hP : va_P g vwCl (wM ct ad S) H) (hD : va_D A (wM ct ad S)) (hS : va_S A s.heap H locs) (hl : lv_has ls 4 [(0, .ref (ad 0)), (1, .int x1), (2, .int x2), (3, .int x3)]) : W p l e R s m args below meth c H locs 0 0 QQ (F0 m 0 ls []) := by
  have hinX7 : ∀ w ∈ wsX70, w ∈ wsX7_instruction := by decide +kernel
  have B25 : ∀ (S : St) (H : Heap) (locs : List Loc) (ls : Array Slot), bX7_instruction_25 Q S → va_P g vwCl (wM ct ad S) H → va_D A (wM ct ad S) → va_S A s.heap H locs → lv_has ls 4 [(0, .ref (ad 0))] → W p l e R s m args below meth c H locs 0 0 QQ (F0 m 25 ls []) := by
    intro S H locs ls h hP hD hS hl
    refine lv_iconst (v := -1) C.1 C.2.1 dX7_instruction_25 (by decide) ?_
    exact hret _ _ _ _ _ _ dX7_instruction_26 h hP hD hS
  have B57 : ∀ (t0 : Int32) (S : St) (H : Heap) (locs : List Loc) (ls : Array Slot), bX7_instruction_57 Q t0 S → va_P g vwCl (wM ct ad S) H → va_D A (wM ct ad S) → va_S A s.heap H locs → lv_has ls 4 [(0, .ref (ad 0))] → W p l e R s m args below meth c H locs 0 0 QQ (F0 m 57 ls [.int t0]) := by
    intro t0 S H locs ls h hP hD hS hl
    exact hret _ _ _ _ _ _ dX7_instruction_57 h hP hD hS
  refine lv_iload_n C.1 C.2.1 dX7_instruction_0 rfl (lv_at hl 1 rfl) ?_
  refine lv_iconst (v := 0) C.1 C.2.1 dX7_instruction_1 (by decide) ?_
  refine lv_iconst (v := 3) C.1 C.2.1 dX7_instruction_2 (by decide) ?_
  refine g_callS (w := wM ct ad) C hK hN hA hP hD hS (mX7_in l g (mT ct) S H.size x1 (0 : Int32) (3 : Int32) _ h) (va_cwS 3 C.2.2.2.2 gX7_instruction_X7_in rfl rfl rfl (by decide +kernel) ⟨Nat.le_trans (by decide) hRf, Nat.le_trans (by decide) hRl⟩) rfl hl.1 rfl (Nat.le_of_ble_eq_true rfl) dX7_instruction_3 ⟨Nat.zero_le _, Nat.zero_le _⟩ (fun r1 H locs h hP hD hS => ?_)
  refine lv_if_eq (tgt := 25) C.1 C.2.1 dX7_instruction_6 (by decide) (fun c8 => ?_) (fun c8 => ?_)
  · have h := h.1 c8
    exact B25  S H locs ls h hP hD hS (lv_sub hl [0] rfl)
  · have h := h.2 c8
    refine lv_iload_n C.1 C.2.1 dX7_instruction_9 rfl (lv_at hl 2 rfl) ?_
    refine lv_iconst (v := 0) C.1 C.2.1 dX7_instruction_10 (by decide) ?_
    refine lv_aload_n C.1 C.2.1 dX7_instruction_11 rfl (lv_at hl 0 rfl) ?_
    refine mg_lengths C hinX7 hK hP (by decide +kernel) dX7_instruction_12 ?_
    refine lv_iload_n C.1 C.2.1 dX7_instruction_15 rfl (lv_at hl 1 rfl) ?_
    obtain ⟨g2, h⟩ := h
    refine ma_lengths C hK hP g2  rfl dX7_instruction_16 ?_
    refine lv_iconst (v := 1) C.1 C.2.1 dX7_instruction_17 (by decide) ?_
    refine lv_isub C.1 C.2.1 dX7_instruction_18 ?_
    refine g_callS (w := wM ct ad) C hK hN hA hP hD hS (mX7_in l g (mT ct) S H.size x2 (0 : Int32) ((S.1 2 (Int32.toNatClampNeg x1)) - (1 : Int32)) _ h) (va_cwS 3 C.2.2.2.2 gX7_instruction_X7_in rfl rfl rfl (by decide +kernel) ⟨Nat.le_trans (by decide) hRf, Nat.le_trans (by decide) hRl⟩) rfl hl.1 rfl (Nat.le_of_ble_eq_true rfl) dX7_instruction_19 ⟨Nat.zero_le _, Nat.zero_le _⟩ (fun r3 H locs h hP hD hS => ?_)
    refine lv_if_ne (tgt := 27) C.1 C.2.1 dX7_instruction_22 (by decide) (fun c7 => ?_) (fun c7 => ?_)
    · have h := h.1 c7
      refine lv_iload_n C.1 C.2.1 dX7_instruction_27 rfl (lv_at hl 3 rfl) ?_
      refine lv_iconst (v := 0) C.1 C.2.1 dX7_instruction_28 (by decide) ?_
      refine lv_iconst (v := 5) C.1 C.2.1 dX7_instruction_29 (by decide) ?_
      refine g_callS (w := wM ct ad) C hK hN hA hP hD hS (mX7_in l g (mT ct) S H.size x3 (0 : Int32) (5 : Int32) _ h) (va_cwS 3 C.2.2.2.2 gX7_instruction_X7_in rfl rfl rfl (by decide +kernel) ⟨Nat.le_trans (by decide) hRf, Nat.le_trans (by decide) hRl⟩) rfl hl.1 rfl (Nat.le_of_ble_eq_true rfl) dX7_instruction_30 ⟨Nat.zero_le _, Nat.zero_le _⟩ (fun r4 H locs h hP hD hS => ?_)
      refine lv_if_eq (tgt := 55) C.1 C.2.1 dX7_instruction_33 (by decide) (fun c6 => ?_) (fun c6 => ?_)
      · have h := h.1 c6
        refine lv_bipush (v := -2) C.1 C.2.1 dX7_instruction_55 (by decide) ?_
        exact B57 (-2 : Int32) S H locs ls h hP hD hS (lv_sub hl [0] rfl)
      · have h := h.2 c6
        refine lv_aload_n C.1 C.2.1 dX7_instruction_36 rfl (lv_at hl 0 rfl) ?_
        refine mg_programs C hinX7 hK hP (by decide +kernel) dX7_instruction_37 ?_
        refine lv_bipush (v := 36) C.1 C.2.1 dX7_instruction_40 (by decide) ?_
        refine lv_iload_n C.1 C.2.1 dX7_instruction_42 rfl (lv_at hl 1 rfl) ?_
        refine lv_imul C.1 C.2.1 dX7_instruction_43 ?_
        refine lv_bipush (v := 6) C.1 C.2.1 dX7_instruction_44 (by decide) ?_
        refine lv_iload_n C.1 C.2.1 dX7_instruction_46 rfl (lv_at hl 2 rfl) ?_
        refine lv_imul C.1 C.2.1 dX7_instruction_47 ?_
        refine lv_iadd C.1 C.2.1 dX7_instruction_48 ?_
        refine lv_iload_n C.1 C.2.1 dX7_instruction_49 rfl (lv_at hl 3 rfl) ?_
        refine lv_iadd C.1 C.2.1 dX7_instruction_50 ?_
        obtain ⟨g5, h⟩ := h
        refine ma_programs C hK hP g5  rfl dX7_instruction_51 ?_
        refine lv_goto (tgt := 57) C.1 C.2.1 dX7_instruction_52 (by decide) ?_
        exact B57 (S.1 1 (Int32.toNatClampNeg ((((36 : Int32) * x1) + ((6 : Int32) * x2)) + x3))) S H locs ls h hP hD hS (lv_sub hl [0] rfl)
    · have h := h.2 c7
      exact B25  S H locs ls h hP hD hS (lv_sub hl [0] rfl)
theorem mX7_instruction (l : Launch) (g : va_G) (ct : Nat → ClassId) (ad : Nat → Nat) (sz : Nat) (S : St) (x1 : Int32) (x2 : Int32) (x3 : Int32) (Q : Int32 → St → Prop) (h : pX7_instruction x1 x2 x3 S Q) : Met l yX7_instruction wsX7_instruction ({ frames := 1, cells := 0, slots := 0, locals := 22 }) (gPc g (mT ct) (wM ct ad S) sz [.ref (ad 0), .int x1, .int x2, .int x3]) (va_Qi Q (gB g (mT ct) (wM ct ad) (va_A (wM ct ad S) sz)) (va_A (wM ct ad S) sz)) 0 0 (va_A (wM ct ad S) sz) :=
  g_metI (w := wM ct ad) (cc := cX7_instruction) (maxL := 4) (by decide) rfl rfl (Nat.le_of_ble_eq_true rfl) rfl (fun p e s m args below meth c QQ A C hK hN hA hret H locs ls hP hD hS hl => kX7_instruction C hK hN hA (Nat.le_refl _) (Nat.le_refl _) Q hret x1 x2 x3 S h H locs ls hP hD hS hl)

def bX7_count_40 (Q : Int32 → St → Prop) (x1 : Int32) (S : St) : Prop :=
  pX7_instructions x1 S (fun (r2 : Int32) (S1 : St) => Q r2 S1)
def bX7_count_61 (Q : Int32 → St → Prop) (t0 : Int32) (S : St) : Prop :=
  Q t0 S
def bX7_count_82 (Q : Int32 → St → Prop) (t0 : Int32) (S : St) : Prop :=
  Q t0 S
def pX7_count (x1 : Int32) (S : St) (Q : Int32 → St → Prop) : Prop :=
  (((Int32.toInt x1 < 0 ∨ 5 < Int32.toInt x1) → Q (-2 : Int32) S) ∧ (x1 = (0 : Int32) → bX7_count_40 Q x1 S) ∧ (x1 = (1 : Int32) → bX7_count_40 Q x1 S) ∧ (x1 = (2 : Int32) → bX7_count_40 Q x1 S) ∧ (x1 = (3 : Int32) → (((S.1 3 0) = 0 → bX7_count_61 Q (-1 : Int32) S) ∧ (¬ ((S.1 3 0) = 0) → bX7_count_61 Q (S.1 5 0) S))) ∧ (x1 = (4 : Int32) → Q (S.1 0 0) S) ∧ (x1 = (5 : Int32) → (((S.1 3 0) = 0 → bX7_count_82 Q (-1 : Int32) S) ∧ (¬ ((S.1 3 0) = 0) → bX7_count_82 Q (S.1 6 0) S))))
set_option maxHeartbeats 40000000 in
set_option maxRecDepth 100000 in
theorem kX7_count {p : Program} {l : Launch} {e : Env} {R : Room} {s : State} {m : MethodId} {args : Array Value} {below : List Frame} {meth : Method} {c : Code} {QQ : State → Prop} {g : va_G} {ct : Nat → ClassId} {ad : Nat → Nat} {A : Nat → Prop} (C : CallFix p m c cX7_count 2 s args wsX7_count RX7) (hK : va_K g vwCl (mT ct) s) (hN : xN s) (hA : ∀ q, s.heap.size ≤ q → A q) (hRf : 2 ≤ R.frames) (hRl : 45 ≤ R.locals) (Q : Int32 → St → Prop) (hret : ∀ (pc : Nat) (r : Int32) (S : St) (H : Heap) (locs : List Loc) (ls : Array Slot), decode cX7_count pc = .ok (.ireturn, 1) → Q r S → va_P g vwCl (wM ct ad S) H → va_D A (wM ct ad S) → va_S A s.heap H locs → W p l e R s m args below meth c H locs 0 0 QQ (F0 m pc ls [.int r])) (x1 : Int32) (S : St) (h : pX7_count x1 S Q) (H : Heap) (locs : List Loc) (ls : Array Slot) (hP : va_P g vwCl (wM ct ad S) H) (hD : va_D A (wM ct ad S)) (hS : va_S A s.heap H locs) (hl : lv_has ls 2 [(0, .ref (ad 0)), (1, .int x1)]) : W p l e R s m args below meth c H locs 0 0 QQ (F0 m 0 ls []) := by
  have hinX7 : ∀ w ∈ wsX70, w ∈ wsX7_count := by decide +kernel
  have B40 : ∀ (x1 : Int32) (S : St) (H : Heap) (locs : List Loc) (ls : Array Slot), bX7_count_40 Q x1 S → va_P g vwCl (wM ct ad S) H → va_D A (wM ct ad S) → va_S A s.heap H locs → lv_has ls 2 [(0, .ref (ad 0)), (1, .int x1)] → W p l e R s m args below meth c H locs 0 0 QQ (F0 m 40 ls []) := by
    intro x1 S H locs ls h hP hD hS hl
    refine lv_aload_n C.1 C.2.1 dX7_count_40 rfl (lv_at hl 0 rfl) ?_
    refine lv_iload_n C.1 C.2.1 dX7_count_41 rfl (lv_at hl 1 rfl) ?_
    refine g_callVi (w := wM ct ad) C hK hN hA hP hD hS (mX7_instructions l g ct ad H.size S x1  _ h) (cwV 1 C.2.2.2.2 gX7_count_X7_instructions rfl rfl rfl (by decide +kernel) ⟨Nat.le_trans (by decide) hRf, Nat.le_trans (by decide) hRl⟩) (va_recv hK hP (ci := 7) (q0 := 0) rfl rfl) rfl hl.1 rfl (Nat.le_of_ble_eq_true rfl) dX7_count_42 ⟨Nat.zero_le _, Nat.zero_le _⟩ (fun r2 S1 H locs h hP hD hS => ?_)
    exact hret _ _ _ _ _ _ dX7_count_45 h hP hD hS
  have B61 : ∀ (t0 : Int32) (S : St) (H : Heap) (locs : List Loc) (ls : Array Slot), bX7_count_61 Q t0 S → va_P g vwCl (wM ct ad S) H → va_D A (wM ct ad S) → va_S A s.heap H locs → lv_has ls 2 [(0, .ref (ad 0))] → W p l e R s m args below meth c H locs 0 0 QQ (F0 m 61 ls [.int t0]) := by
    intro t0 S H locs ls h hP hD hS hl
    exact hret _ _ _ _ _ _ dX7_count_61 h hP hD hS
  have B82 : ∀ (t0 : Int32) (S : St) (H : Heap) (locs : List Loc) (ls : Array Slot), bX7_count_82 Q t0 S → va_P g vwCl (wM ct ad S) H → va_D A (wM ct ad S) → va_S A s.heap H locs → lv_has ls 2 [(0, .ref (ad 0))] → W p l e R s m args below meth c H locs 0 0 QQ (F0 m 82 ls [.int t0]) := by
    intro t0 S H locs ls h hP hD hS hl
    exact hret _ _ _ _ _ _ dX7_count_82 h hP hD hS
  refine lv_iload_n C.1 C.2.1 dX7_count_0 rfl (lv_at hl 1 rfl) ?_
  by_cases c3 : (Int32.toInt x1 < 0 ∨ 5 < Int32.toInt x1)
  · have h := h.1 c3
    refine lv_tableOut (tgt := 83) C.1 C.2.1 dX7_count_1 c3 (by decide) ?_
    refine lv_bipush (v := -2) C.1 C.2.1 dX7_count_83 (by decide) ?_
    exact hret _ _ _ _ _ _ dX7_count_85 h hP hD hS
  · have h := h.2
    have hk : x1 = (0 : Int32) ∨ x1 = (1 : Int32) ∨ x1 = (2 : Int32) ∨ x1 = (3 : Int32) ∨ x1 = (4 : Int32) ∨ x1 = (5 : Int32) := by
      have hr : Int32.toInt x1 = 0 ∨ Int32.toInt x1 = 1 ∨ Int32.toInt x1 = 2 ∨ Int32.toInt x1 = 3 ∨ Int32.toInt x1 = 4 ∨ Int32.toInt x1 = 5 := by omega
      rcases hr with hr | hr | hr | hr | hr | hr <;> simp only [← Int32.toInt_inj] <;> simp [hr]
    rcases hk with hk | hk | hk | hk | hk | hk
    · have h := h.1 hk
      refine lv_tableIn (tgt := 40) C.1 C.2.1 dX7_count_1 (by rw [hk]; decide) (by rw [hk]; decide) (by rw [hk]; rfl) (by decide) ?_
      exact B40 x1 S H locs ls h hP hD hS (lv_sub hl [0, 1] rfl)
    · have h := h.2.1 hk
      refine lv_tableIn (tgt := 40) C.1 C.2.1 dX7_count_1 (by rw [hk]; decide) (by rw [hk]; decide) (by rw [hk]; rfl) (by decide) ?_
      exact B40 x1 S H locs ls h hP hD hS (lv_sub hl [0, 1] rfl)
    · have h := h.2.2.1 hk
      refine lv_tableIn (tgt := 40) C.1 C.2.1 dX7_count_1 (by rw [hk]; decide) (by rw [hk]; decide) (by rw [hk]; rfl) (by decide) ?_
      exact B40 x1 S H locs ls h hP hD hS (lv_sub hl [0, 1] rfl)
    · have h := h.2.2.2.1 hk
      refine lv_tableIn (tgt := 46) C.1 C.2.1 dX7_count_1 (by rw [hk]; decide) (by rw [hk]; decide) (by rw [hk]; rfl) (by decide) ?_
      refine lv_aload_n C.1 C.2.1 dX7_count_46 rfl (lv_at hl 0 rfl) ?_
      refine mg_isFound C hinX7 hK hP (by decide +kernel) dX7_count_47 ?_
      refine lv_if_eq (tgt := 60) C.1 C.2.1 dX7_count_50 (by decide) (fun c4 => ?_) (fun c4 => ?_)
      · have h := h.1 c4
        refine lv_iconst (v := -1) C.1 C.2.1 dX7_count_60 (by decide) ?_
        exact B61 (-1 : Int32) S H locs ls h hP hD hS (lv_sub hl [0] rfl)
      · have h := h.2 c4
        refine lv_aload_n C.1 C.2.1 dX7_count_53 rfl (lv_at hl 0 rfl) ?_
        refine mg_many C hinX7 hK hP (by decide +kernel) dX7_count_54 ?_
        refine lv_goto (tgt := 61) C.1 C.2.1 dX7_count_57 (by decide) ?_
        exact B61 (S.1 5 0) S H locs ls h hP hD hS (lv_sub hl [0] rfl)
    · have h := h.2.2.2.2.1 hk
      refine lv_tableIn (tgt := 62) C.1 C.2.1 dX7_count_1 (by rw [hk]; decide) (by rw [hk]; decide) (by rw [hk]; rfl) (by decide) ?_
      refine lv_aload_n C.1 C.2.1 dX7_count_62 rfl (lv_at hl 0 rfl) ?_
      refine mg_model C hinX7 hK hP (by decide +kernel) dX7_count_63 ?_
      exact hret _ _ _ _ _ _ dX7_count_66 h hP hD hS
    · have h := h.2.2.2.2.2 hk
      refine lv_tableIn (tgt := 67) C.1 C.2.1 dX7_count_1 (by rw [hk]; decide) (by rw [hk]; decide) (by rw [hk]; rfl) (by decide) ?_
      refine lv_aload_n C.1 C.2.1 dX7_count_67 rfl (lv_at hl 0 rfl) ?_
      refine mg_isFound C hinX7 hK hP (by decide +kernel) dX7_count_68 ?_
      refine lv_if_eq (tgt := 81) C.1 C.2.1 dX7_count_71 (by decide) (fun c5 => ?_) (fun c5 => ?_)
      · have h := h.1 c5
        refine lv_iconst (v := -1) C.1 C.2.1 dX7_count_81 (by decide) ?_
        exact B82 (-1 : Int32) S H locs ls h hP hD hS (lv_sub hl [0] rfl)
      · have h := h.2 c5
        refine lv_aload_n C.1 C.2.1 dX7_count_74 rfl (lv_at hl 0 rfl) ?_
        refine mg_ways C hinX7 hK hP (by decide +kernel) dX7_count_75 ?_
        refine lv_goto (tgt := 82) C.1 C.2.1 dX7_count_78 (by decide) ?_
        exact B82 (S.1 6 0) S H locs ls h hP hD hS (lv_sub hl [0] rfl)
theorem mX7_count (l : Launch) (g : va_G) (ct : Nat → ClassId) (ad : Nat → Nat) (sz : Nat) (S : St) (x1 : Int32) (Q : Int32 → St → Prop) (h : pX7_count x1 S Q) : Met l yX7_count wsX7_count ({ frames := 2, cells := 0, slots := 0, locals := 45 }) (gPc g (mT ct) (wM ct ad S) sz [.ref (ad 0), .int x1]) (va_Qi Q (gB g (mT ct) (wM ct ad) (va_A (wM ct ad S) sz)) (va_A (wM ct ad S) sz)) 0 0 (va_A (wM ct ad S) sz) :=
  g_metI (w := wM ct ad) (cc := cX7_count) (maxL := 2) (by decide) rfl rfl (Nat.le_of_ble_eq_true rfl) rfl (fun p e s m args below meth c QQ A C hK hN hA hret H locs ls hP hD hS hl => kX7_count C hK hN hA (Nat.le_refl _) (Nat.le_refl _) Q hret x1 S h H locs ls hP hD hS hl)
