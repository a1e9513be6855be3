def bX2_isIn_13 (Q : Int32 → Prop) (t0 : Int32) : Prop :=
  (zb t0 ∧ Q t0)
def pX2_isIn (x0 : Int32) (x1 : Int32) (Q : Int32 → Prop) : Prop :=
  ((((x0 >>> (x1 &&& 31)) &&& (1 : Int32)) = 0 → bX2_isIn_13 Q (0 : Int32)) ∧ (¬ (((x0 >>> (x1 &&& 31)) &&& (1 : Int32)) = 0) → bX2_isIn_13 Q (1 : Int32)))
set_option maxHeartbeats 40000000 in
set_option maxRecDepth 100000 in
theorem kX2_isIn {p : Program} {l : Launch} {e : Env} {R : Room} {s : State} {m : MethodId} {args : Array Value} {below : List Frame} {meth : Method} {c : Code} {QQ : State → Prop} {g : va_G} {tys : List (ClassId × FieldType)} {A : Nat → Prop} (C : CallFix p m c cX2_isIn 2 s args wsX2_isIn RX2) (hK : va_K g vwCl (tys) s) (hN : xN s) (hA : ∀ q, s.heap.size ≤ q → A q) (hRf : 0 ≤ R.frames) (hRl : 0 ≤ R.locals) (Q : Int32 → Prop) (hret : ∀ (pc : Nat) (r : Int32) (S : St) (H : Heap) (locs : List Loc) (ls : Array Slot), decode cX2_isIn pc = .ok (.ireturn, 1) → zb r → Q r → va_P g vwCl (w0 S) H → va_D A (w0 S) → va_S A s.heap H locs → W p l e R s m args below meth c H locs 0 0 QQ (F0 m pc ls [.int r])) (x0 : Int32) (x1 : Int32) (S : St) (h : pX2_isIn x0 x1 Q) (H : Heap) (locs : List Loc) (ls : Array Slot) (hP : va_P g vwCl (w0 S) H) (hD : va_D A (w0 S)) (hS : va_S A s.heap H locs) (hl : lv_has ls 2 [(0, .int x0), (1, .int x1)]) : W p l e R s m args below meth c H locs 0 0 QQ (F0 m 0 ls []) := by
  have B13 : ∀ (t0 : Int32) (S : St) (H : Heap) (locs : List Loc) (ls : Array Slot), bX2_isIn_13 Q t0 → va_P g vwCl (w0 S) H → va_D A (w0 S) → va_S A s.heap H locs → lv_has ls 2 [] → W p l e R s m args below meth c H locs 0 0 QQ (F0 m 13 ls [.int t0]) := by
    intro t0 S H locs ls h hP hD hS hl
    exact hret _ _ _ _ _ _ dX2_isIn_13 h.1 h.2 hP hD hS
  refine lv_iload_n C.1 C.2.1 dX2_isIn_0 rfl (lv_at hl 0 rfl) ?_
  refine lv_iload_n C.1 C.2.1 dX2_isIn_1 rfl (lv_at hl 1 rfl) ?_
  refine lv_ishr C.1 C.2.1 dX2_isIn_2 ?_
  refine lv_iconst (v := 1) C.1 C.2.1 dX2_isIn_3 (by decide) ?_
  refine lv_iand C.1 C.2.1 dX2_isIn_4 ?_
  refine lv_if_eq (tgt := 12) C.1 C.2.1 dX2_isIn_5 (by decide) (fun c1 => ?_) (fun c1 => ?_)
  · have h := h.1 c1
    refine lv_iconst (v := 0) C.1 C.2.1 dX2_isIn_12 (by decide) ?_
    exact B13 (0 : Int32) S H locs ls h hP hD hS (lv_sub hl [] rfl)
  · have h := h.2 c1
    refine lv_iconst (v := 1) C.1 C.2.1 dX2_isIn_8 (by decide) ?_
    refine lv_goto (tgt := 13) C.1 C.2.1 dX2_isIn_9 (by decide) ?_
    exact B13 (1 : Int32) S H locs ls h hP hD hS (lv_sub hl [] rfl)
theorem mX2_isIn (l : Launch) (g : va_G) (tys : List (ClassId × FieldType)) (S : St) (sz : Nat) (x0 : Int32) (x1 : Int32) (Q : Int32 → Prop) (h : pX2_isIn x0 x1 Q) : Met l yX2_isIn wsX2_isIn ({ frames := 0, cells := 0, slots := 0, locals := 0 }) (gPc g (tys) (w0 S) sz [.int x0, .int x1]) (va_Qi (fun r _ => Q r) (gB g (tys) (w0) (va_A (w0 S) sz)) (va_A (w0 S) sz)) 0 0 (va_A (w0 S) sz) :=
  g_metZ (w := w0) (Q := fun r _ => Q r) (cc := cX2_isIn) (maxL := 2) (by decide) rfl rfl (by decide) rfl (fun p e s m args below meth c QQ A C hK hN hA hret H locs ls hP hD hS hl => kX2_isIn C hK hN hA (Nat.le_refl _) (Nat.le_refl _) Q hret x0 x1 S h H locs ls hP hD hS hl)

def bX1_choose_42 (Q : Int32 → St → Prop) (S : St) : Prop :=
  (∀ y1 : Int32, y1 = (S.1 5 0) → (∀ S2 : St, S2 = wr S 5 0 (y1 + (1 : Int32)) → (vp_in y1 6 ∧ Q (S2.1 22 (Int32.toNatClampNeg y1)) S2)))
def pX1_choose (x1 : Int32) (S : St) (Q : Int32 → St → Prop) : Prop :=
  (((S.1 5 0) < (6 : Int32) → (((S.1 5 0) < (S.1 6 0) → bX1_choose_42 Q  S) ∧ (¬ ((S.1 5 0) < (S.1 6 0)) → (vp_in (S.1 5 0) 6 ∧ ∀ S4 : St, S4 = wr S 22 (Int32.toNatClampNeg (S.1 5 0)) (0 : Int32) → (vp_in (S4.1 5 0) 6 ∧ ∀ S6 : St, S6 = wr S4 23 (Int32.toNatClampNeg (S4.1 5 0)) x1 → bX1_choose_42 Q  S6))))) ∧ (¬ ((S.1 5 0) < (6 : Int32)) → Q (0 : Int32) S))
set_option maxHeartbeats 40000000 in
set_option maxRecDepth 100000 in
theorem kX1_choose {p : Program} {l : Launch} {e : Env} {R : Room} {s : State} {m : MethodId} {args : Array Value} {below : List Frame} {meth : Method} {c : Code} {QQ : State → Prop} {g : va_G} {ct : Nat → ClassId} {ad : Nat → Nat} {n ro : Nat} {A : Nat → Prop} (C : CallFix p m c cX1_choose 2 s args wsX1_choose RX1) (hK : va_K g vwCl (xT ct) s) (hN : xN s) (hA : ∀ q, s.heap.size ≤ q → A q) (hRf : 0 ≤ R.frames) (hRl : 0 ≤ R.locals) (Q : Int32 → St → Prop) (hret : ∀ (pc : Nat) (r : Int32) (S : St) (H : Heap) (locs : List Loc) (ls : Array Slot), decode cX1_choose pc = .ok (.ireturn, 1) → Q r S → va_P g vwCl (wX ct ad n ro S) H → va_D A (wX ct ad n ro S) → va_S A s.heap H locs → W p l e R s m args below meth c H locs 0 0 QQ (F0 m pc ls [.int r])) (x1 : Int32) (S : St) (h : pX1_choose x1 S Q) (H : Heap) (locs : List Loc) (ls : Array Slot) (hP : va_P g vwCl (wX ct ad n ro S) H) (hD : va_D A (wX ct ad n ro S)) (hS : va_S A s.heap H locs) (hl : lv_has ls 2 [(0, .ref (ad 5)), (1, .int x1)]) : W p l e R s m args below meth c H locs 0 0 QQ (F0 m 0 ls []) := by
  have hinX1 : ∀ w ∈ wsX10, w ∈ wsX1_choose := by decide +kernel
  have B42 : ∀ (S : St) (H : Heap) (locs : List Loc) (ls : Array Slot), bX1_choose_42 Q S → va_P g vwCl (wX ct ad n ro S) H → va_D A (wX ct ad n ro S) → va_S A s.heap H locs → lv_has ls 2 [(0, .ref (ad 5))] → W p l e R s m args below meth c H locs 0 0 QQ (F0 m 42 ls []) := by
    intro S H locs ls h hP hD hS hl
    refine lv_aload_n C.1 C.2.1 dX1_choose_42 rfl (lv_at hl 0 rfl) ?_
    refine xg1_chosen C hinX1 hK hP (by decide +kernel) dX1_choose_43 ?_
    refine lv_aload_n C.1 C.2.1 dX1_choose_46 rfl (lv_at hl 0 rfl) ?_
    refine lv_dup C.1 C.2.1 dX1_choose_47 rfl ?_
    refine xg1_made C hinX1 hK hP (by decide +kernel) dX1_choose_48 ?_
    refine lv_topi (fun y1 ey1 => ?_)
    have h := h y1 ey1
    refine lv_dup_x1 C.1 C.2.1 dX1_choose_51 rfl rfl ?_
    refine lv_iconst (v := 1) C.1 C.2.1 dX1_choose_52 (by decide) ?_
    refine lv_iadd C.1 C.2.1 dX1_choose_53 ?_
    obtain ⟨S2, eS2⟩ : ∃ z : St, z = wr S 5 0 (y1 + (1 : Int32)) := ⟨_, rfl⟩
    have h := h S2 eS2
    refine xp1_made C hinX1 hK hP hD hS (by decide +kernel) dX1_choose_54 (fun H locs hP hD hS => ?_)
    rw [← eS2] at hP hD
    obtain ⟨g3, h⟩ := h
    refine xa_1_chosen C hK hP g3  rfl dX1_choose_57 ?_
    exact hret _ _ _ _ _ _ dX1_choose_58 h hP hD hS
  refine lv_aload_n C.1 C.2.1 dX1_choose_0 rfl (lv_at hl 0 rfl) ?_
  refine xg1_made C hinX1 hK hP (by decide +kernel) dX1_choose_1 ?_
  refine lv_bipush (v := 6) C.1 C.2.1 dX1_choose_4 (by decide) ?_
  refine lv_icmp_lt (tgt := 11) C.1 C.2.1 dX1_choose_6 (by decide) (fun c9 => ?_) (fun c9 => ?_)
  · have h := h.1 c9
    refine lv_aload_n C.1 C.2.1 dX1_choose_11 rfl (lv_at hl 0 rfl) ?_
    refine xg1_made C hinX1 hK hP (by decide +kernel) dX1_choose_12 ?_
    refine lv_aload_n C.1 C.2.1 dX1_choose_15 rfl (lv_at hl 0 rfl) ?_
    refine xg1_kept C hinX1 hK hP (by decide +kernel) dX1_choose_16 ?_
    refine lv_icmp_lt (tgt := 42) C.1 C.2.1 dX1_choose_19 (by decide) (fun c8 => ?_) (fun c8 => ?_)
    · have h := h.1 c8
      exact B42  S H locs ls h hP hD hS (lv_sub hl [0] rfl)
    · have h := h.2 c8
      refine lv_aload_n C.1 C.2.1 dX1_choose_22 rfl (lv_at hl 0 rfl) ?_
      refine xg1_chosen C hinX1 hK hP (by decide +kernel) dX1_choose_23 ?_
      refine lv_aload_n C.1 C.2.1 dX1_choose_26 rfl (lv_at hl 0 rfl) ?_
      refine xg1_made C hinX1 hK hP (by decide +kernel) dX1_choose_27 ?_
      refine lv_iconst (v := 0) C.1 C.2.1 dX1_choose_30 (by decide) ?_
      obtain ⟨g5, h⟩ := h
      obtain ⟨S4, eS4⟩ : ∃ z : St, z = wr S 22 (Int32.toNatClampNeg (S.1 5 0)) (0 : Int32) := ⟨_, rfl⟩
      have h := h S4 eS4
      refine xs_1_chosen C hK hP hD hS  g5 rfl dX1_choose_31 (fun H locs hP hD hS => ?_)
      rw [← eS4] at hP hD
      refine lv_aload_n C.1 C.2.1 dX1_choose_32 rfl (lv_at hl 0 rfl) ?_
      refine xg1_limits C hinX1 hK hP (by decide +kernel) dX1_choose_33 ?_
      refine lv_aload_n C.1 C.2.1 dX1_choose_36 rfl (lv_at hl 0 rfl) ?_
      refine xg1_made C hinX1 hK hP (by decide +kernel) dX1_choose_37 ?_
      refine lv_iload_n C.1 C.2.1 dX1_choose_40 rfl (lv_at hl 1 rfl) ?_
      obtain ⟨g7, h⟩ := h
      obtain ⟨S6, eS6⟩ : ∃ z : St, z = wr S4 23 (Int32.toNatClampNeg (S4.1 5 0)) x1 := ⟨_, rfl⟩
      have h := h S6 eS6
      refine xs_1_limits C hK hP hD hS  g7 rfl dX1_choose_41 (fun H locs hP hD hS => ?_)
      rw [← eS6] at hP hD
      exact B42  S6 H locs ls h hP hD hS (lv_sub hl [0] rfl)
  · have h := h.2 c9
    refine lv_iconst (v := 0) C.1 C.2.1 dX1_choose_9 (by decide) ?_
    exact hret _ _ _ _ _ _ dX1_choose_10 h hP hD hS
theorem mX1_choose (l : Launch) (g : va_G) (ct : Nat → ClassId) (ad : Nat → Nat) (n ro sz : Nat) (S : St) (x1 : Int32) (Q : Int32 → St → Prop) (h : pX1_choose x1 S Q) : Met l yX1_choose wsX1_choose ({ frames := 0, cells := 0, slots := 0, locals := 0 }) (gPc g (xT ct) (wX ct ad n ro S) sz [.ref (ad 5), .int x1]) (va_Qi Q (gB g (xT ct) (wX ct ad n ro) (va_A (wX ct ad n ro S) sz)) (va_A (wX ct ad n ro S) sz)) 0 0 (va_A (wX ct ad n ro S) sz) :=
  g_metI (w := wX ct ad n ro) (cc := cX1_choose) (maxL := 2) (by decide) rfl rfl (by decide) rfl (fun p e s m args below meth c QQ A C hK hN hA hret H locs ls hP hD hS hl => kX1_choose C hK hN hA (Nat.le_refl _) (Nat.le_refl _) Q hret x1 S h H locs ls hP hD hS hl)

def bX1_advance_69 (Q : Int32 → St → Prop) (t0 : Int32) (S : St) : Prop :=
  (zb t0 ∧ Q t0 S)
def bX1_advance_48 (Q : Int32 → St → Prop) (x1 : Int32) (S : St) : Prop :=
  (∀ S1 : St, S1 = wr S 6 0 (x1 + (1 : Int32)) → (∀ S2 : St, S2 = wr S1 5 0 (0 : Int32) → ((x1 < 0 → bX1_advance_69 Q (0 : Int32) S2) ∧ (¬ (x1 < 0) → bX1_advance_69 Q (1 : Int32) S2))))
def bX1_advance_34 (Q : Int32 → St → Prop) (x1 : Int32) (S : St) : Prop :=
  ((x1 < 0 → bX1_advance_48 Q x1 S) ∧ (¬ (x1 < 0) → (vp_in x1 6 ∧ (vp_in x1 6 ∧ ∀ S5 : St, S5 = wr S 22 (Int32.toNatClampNeg x1) ((S.1 22 (Int32.toNatClampNeg x1)) + (1 : Int32)) → bX1_advance_48 Q x1 S5))))
def bX1_advance_7 (k7 : Int32 → St → Prop) (Q : Int32 → St → Prop) (x1 : Int32) (S : St) : Prop :=
  ((x1 < 0 → bX1_advance_34 Q x1 S) ∧ (¬ (x1 < 0) → (vp_in x1 6 ∧ (vp_in x1 6 ∧ ((((S.1 22 (Int32.toNatClampNeg x1)) + (1 : Int32)) < (S.1 23 (Int32.toNatClampNeg x1)) → bX1_advance_34 Q x1 S) ∧ (¬ (((S.1 22 (Int32.toNatClampNeg x1)) + (1 : Int32)) < (S.1 23 (Int32.toNatClampNeg x1))) → (∀ y10 : Int32, y10 = x1 + (-1 : Int32) → k7 y10 S)))))))
def pX1_advance (S : St) (Q : Int32 → St → Prop) : Prop :=
  (∀ y13 : Int32, y13 = ((S.1 5 0) - (1 : Int32)) → (∃ N : Nat, itr (F := Int32 → St → Prop) (fun _ _ => False) (fun k7 x1 S => bX1_advance_7 k7 Q x1 S) N y13 S))
set_option maxHeartbeats 40000000 in
set_option maxRecDepth 100000 in
theorem kX1_advance {p : Program} {l : Launch} {e : Env} {R : Room} {s : State} {m : MethodId} {args : Array Value} {below : List Frame} {meth : Method} {c : Code} {QQ : State → Prop} {g : va_G} {ct : Nat → ClassId} {ad : Nat → Nat} {n ro : Nat} {A : Nat → Prop} (C : CallFix p m c cX1_advance 2 s args wsX1_advance RX1) (hK : va_K g vwCl (xT ct) s) (hN : xN s) (hA : ∀ q, s.heap.size ≤ q → A q) (hRf : 0 ≤ R.frames) (hRl : 0 ≤ R.locals) (Q : Int32 → St → Prop) (hret : ∀ (pc : Nat) (r : Int32) (S : St) (H : Heap) (locs : List Loc) (ls : Array Slot), decode cX1_advance pc = .ok (.ireturn, 1) → zb r → Q r S → va_P g vwCl (wX ct ad n ro S) H → va_D A (wX ct ad n ro S) → va_S A s.heap H locs → W p l e R s m args below meth c H locs 0 0 QQ (F0 m pc ls [.int r])) (S : St) (h : pX1_advance S Q) (H : Heap) (locs : List Loc) (ls : Array Slot) (hP : va_P g vwCl (wX ct ad n ro S) H) (hD : va_D A (wX ct ad n ro S)) (hS : va_S A s.heap H locs) (hl : lv_has ls 2 [(0, .ref (ad 5))]) : W p l e R s m args below meth c H locs 0 0 QQ (F0 m 0 ls []) := by
  have hinX1 : ∀ w ∈ wsX10, w ∈ wsX1_advance := by decide +kernel
  have B69 : ∀ (t0 : Int32) (S : St) (H : Heap) (locs : List Loc) (ls : Array Slot), bX1_advance_69 Q t0 S → va_P g vwCl (wX ct ad n ro S) H → va_D A (wX ct ad n ro S) → va_S A s.heap H locs → lv_has ls 2 [(0, .ref (ad 5))] → W p l e R s m args below meth c H locs 0 0 QQ (F0 m 69 ls [.int t0]) := by
    intro t0 S H locs ls h hP hD hS hl
    exact hret _ _ _ _ _ _ dX1_advance_69 h.1 h.2 hP hD hS
  have B48 : ∀ (x1 : Int32) (S : St) (H : Heap) (locs : List Loc) (ls : Array Slot), bX1_advance_48 Q x1 S → va_P g vwCl (wX ct ad n ro S) H → va_D A (wX ct ad n ro S) → va_S A s.heap H locs → lv_has ls 2 [(0, .ref (ad 5)), (1, .int x1)] → W p l e R s m args below meth c H locs 0 0 QQ (F0 m 48 ls []) := by
    intro x1 S H locs ls h hP hD hS hl
    refine lv_aload_n C.1 C.2.1 dX1_advance_48 rfl (lv_at hl 0 rfl) ?_
    refine lv_iload_n C.1 C.2.1 dX1_advance_49 rfl (lv_at hl 1 rfl) ?_
    refine lv_iconst (v := 1) C.1 C.2.1 dX1_advance_50 (by decide) ?_
    refine lv_iadd C.1 C.2.1 dX1_advance_51 ?_
    obtain ⟨S1, eS1⟩ : ∃ z : St, z = wr S 6 0 (x1 + (1 : Int32)) := ⟨_, rfl⟩
    have h := h S1 eS1
    refine xp1_kept C hinX1 hK hP hD hS (by decide +kernel) dX1_advance_52 (fun H locs hP hD hS => ?_)
    rw [← eS1] at hP hD
    refine lv_aload_n C.1 C.2.1 dX1_advance_55 rfl (lv_at hl 0 rfl) ?_
    refine lv_iconst (v := 0) C.1 C.2.1 dX1_advance_56 (by decide) ?_
    obtain ⟨S2, eS2⟩ : ∃ z : St, z = wr S1 5 0 (0 : Int32) := ⟨_, rfl⟩
    have h := h S2 eS2
    refine xp1_made C hinX1 hK hP hD hS (by decide +kernel) dX1_advance_57 (fun H locs hP hD hS => ?_)
    rw [← eS2] at hP hD
    refine lv_iload_n C.1 C.2.1 dX1_advance_60 rfl (lv_at hl 1 rfl) ?_
    refine lv_if_lt (tgt := 68) C.1 C.2.1 dX1_advance_61 (by decide) (fun c3 => ?_) (fun c3 => ?_)
    · have h := h.1 c3
      refine lv_iconst (v := 0) C.1 C.2.1 dX1_advance_68 (by decide) ?_
      exact B69 (0 : Int32) S2 H locs ls h hP hD hS (lv_sub hl [0] rfl)
    · have h := h.2 c3
      refine lv_iconst (v := 1) C.1 C.2.1 dX1_advance_64 (by decide) ?_
      refine lv_goto (tgt := 69) C.1 C.2.1 dX1_advance_65 (by decide) ?_
      exact B69 (1 : Int32) S2 H locs ls h hP hD hS (lv_sub hl [0] rfl)
  have B34 : ∀ (x1 : Int32) (S : St) (H : Heap) (locs : List Loc) (ls : Array Slot), bX1_advance_34 Q x1 S → va_P g vwCl (wX ct ad n ro S) H → va_D A (wX ct ad n ro S) → va_S A s.heap H locs → lv_has ls 2 [(0, .ref (ad 5)), (1, .int x1)] → W p l e R s m args below meth c H locs 0 0 QQ (F0 m 34 ls []) := by
    intro x1 S H locs ls h hP hD hS hl
    refine lv_iload_n C.1 C.2.1 dX1_advance_34 rfl (lv_at hl 1 rfl) ?_
    refine lv_if_lt (tgt := 48) C.1 C.2.1 dX1_advance_35 (by decide) (fun c7 => ?_) (fun c7 => ?_)
    · have h := h.1 c7
      exact B48 x1 S H locs ls h hP hD hS (lv_sub hl [0, 1] rfl)
    · have h := h.2 c7
      refine lv_aload_n C.1 C.2.1 dX1_advance_38 rfl (lv_at hl 0 rfl) ?_
      refine xg1_chosen C hinX1 hK hP (by decide +kernel) dX1_advance_39 ?_
      refine lv_iload_n C.1 C.2.1 dX1_advance_42 rfl (lv_at hl 1 rfl) ?_
      refine lv_dup2_11 C.1 C.2.1 dX1_advance_43 rfl rfl ?_
      obtain ⟨g4, h⟩ := h
      refine xa_1_chosen C hK hP g4  rfl dX1_advance_44 ?_
      refine lv_iconst (v := 1) C.1 C.2.1 dX1_advance_45 (by decide) ?_
      refine lv_iadd C.1 C.2.1 dX1_advance_46 ?_
      obtain ⟨g6, h⟩ := h
      obtain ⟨S5, eS5⟩ : ∃ z : St, z = wr S 22 (Int32.toNatClampNeg x1) ((S.1 22 (Int32.toNatClampNeg x1)) + (1 : Int32)) := ⟨_, rfl⟩
      have h := h S5 eS5
      refine xs_1_chosen C hK hP hD hS  g6 rfl dX1_advance_47 (fun H locs hP hD hS => ?_)
      rw [← eS5] at hP hD
      exact B48 x1 S5 H locs ls h hP hD hS (lv_sub hl [0, 1] rfl)
  have B7 : ∀ (k7 : Int32 → St → Prop) (hk7 : ∀ (x1 : Int32) (S : St) (H : Heap) (locs : List Loc) (ls : Array Slot), k7 x1 S → va_P g vwCl (wX ct ad n ro S) H → va_D A (wX ct ad n ro S) → va_S A s.heap H locs → lv_has ls 2 [(0, .ref (ad 5)), (1, .int x1)] → W p l e R s m args below meth c H locs 0 0 QQ (F0 m 7 ls [])) (x1 : Int32) (S : St) (H : Heap) (locs : List Loc) (ls : Array Slot), bX1_advance_7 k7 Q x1 S → va_P g vwCl (wX ct ad n ro S) H → va_D A (wX ct ad n ro S) → va_S A s.heap H locs → lv_has ls 2 [(0, .ref (ad 5)), (1, .int x1)] → W p l e R s m args below meth c H locs 0 0 QQ (F0 m 7 ls []) := by
    intro k7 hk7 x1 S H locs ls h hP hD hS hl
    refine lv_iload_n C.1 C.2.1 dX1_advance_7 rfl (lv_at hl 1 rfl) ?_
    refine lv_if_lt (tgt := 34) C.1 C.2.1 dX1_advance_8 (by decide) (fun c12 => ?_) (fun c12 => ?_)
    · have h := h.1 c12
      exact B34 x1 S H locs ls h hP hD hS (lv_sub hl [0, 1] rfl)
    · have h := h.2 c12
      refine lv_aload_n C.1 C.2.1 dX1_advance_11 rfl (lv_at hl 0 rfl) ?_
      refine xg1_chosen C hinX1 hK hP (by decide +kernel) dX1_advance_12 ?_
      refine lv_iload_n C.1 C.2.1 dX1_advance_15 rfl (lv_at hl 1 rfl) ?_
      obtain ⟨g8, h⟩ := h
      refine xa_1_chosen C hK hP g8  rfl dX1_advance_16 ?_
      refine lv_iconst (v := 1) C.1 C.2.1 dX1_advance_17 (by decide) ?_
      refine lv_iadd C.1 C.2.1 dX1_advance_18 ?_
      refine lv_aload_n C.1 C.2.1 dX1_advance_19 rfl (lv_at hl 0 rfl) ?_
      refine xg1_limits C hinX1 hK hP (by decide +kernel) dX1_advance_20 ?_
      refine lv_iload_n C.1 C.2.1 dX1_advance_23 rfl (lv_at hl 1 rfl) ?_
      obtain ⟨g9, h⟩ := h
      refine xa_1_limits C hK hP g9  rfl dX1_advance_24 ?_
      refine lv_icmp_lt (tgt := 34) C.1 C.2.1 dX1_advance_25 (by decide) (fun c11 => ?_) (fun c11 => ?_)
      · have h := h.1 c11
        exact B34 x1 S H locs ls h hP hD hS (lv_sub hl [0, 1] rfl)
      · have h := h.2 c11
        obtain ⟨y10, ey10⟩ : ∃ z : Int32, z = x1 + (-1 : Int32) := ⟨_, rfl⟩
        have h := h y10 ey10
        refine lv_iinc (v := y10) (lv' := [(1, .int y10), (0, .ref (ad 5))]) C.1 C.2.1 dX1_advance_28 hl (k := 1) rfl (by rw [ey10]; rfl) (by decide) rfl (fun ls hl => ?_)
        refine lv_goto (tgt := 7) C.1 C.2.1 dX1_advance_31 (by decide) ?_
        exact hk7 y10 S H locs ls h hP hD hS (lv_sub hl [1, 0] rfl)
  have L7 : ∀ (N : Nat) (x1 : Int32) (S : St) (H : Heap) (locs : List Loc) (ls : Array Slot), itr (F := Int32 → St → Prop) (fun _ _ => False) (fun k7 x1 S => bX1_advance_7 k7 Q x1 S) N x1 S → va_P g vwCl (wX ct ad n ro S) H → va_D A (wX ct ad n ro S) → va_S A s.heap H locs → lv_has ls 2 [(0, .ref (ad 5)), (1, .int x1)] → W p l e R s m args below meth c H locs 0 0 QQ (F0 m 7 ls []) := by
    intro N
    induction N with
    | zero => intro x1 S H locs ls h hP hD hS hl; exact False.elim h
    | succ N ih => intro x1 S H locs ls h hP hD hS hl; exact B7  (itr (F := Int32 → St → Prop) (fun _ _ => False) (fun k7 x1 S => bX1_advance_7 k7 Q x1 S) N) ih x1 S H locs ls h hP hD hS hl
  refine lv_aload_n C.1 C.2.1 dX1_advance_0 rfl (lv_at hl 0 rfl) ?_
  refine xg1_made C hinX1 hK hP (by decide +kernel) dX1_advance_1 ?_
  refine lv_iconst (v := 1) C.1 C.2.1 dX1_advance_4 (by decide) ?_
  refine lv_isub C.1 C.2.1 dX1_advance_5 ?_
  refine lv_topi (fun y13 ey13 => ?_)
  have h := h y13 ey13
  refine lv_istore_n (lv' := [(1, .int y13), (0, .ref (ad 5))]) C.1 C.2.1 dX1_advance_6 rfl hl (by decide) rfl (fun ls hl => ?_)
  obtain ⟨N, h⟩ := h
  exact L7 N y13 S H locs ls h hP hD hS (lv_sub hl [1, 0] rfl)
theorem mX1_advance (l : Launch) (g : va_G) (ct : Nat → ClassId) (ad : Nat → Nat) (n ro sz : Nat) (S : St) (Q : Int32 → St → Prop) (h : pX1_advance S Q) : Met l yX1_advance wsX1_advance ({ frames := 0, cells := 0, slots := 0, locals := 0 }) (gPc g (xT ct) (wX ct ad n ro S) sz [.ref (ad 5)]) (va_Qi Q (gB g (xT ct) (wX ct ad n ro) (va_A (wX ct ad n ro S) sz)) (va_A (wX ct ad n ro S) sz)) 0 0 (va_A (wX ct ad n ro S) sz) :=
  g_metZ (w := wX ct ad n ro) (cc := cX1_advance) (maxL := 2) (by decide) rfl rfl (by decide) rfl (fun p e s m args below meth c QQ A C hK hN hA hret H locs ls hP hD hS hl => kX1_advance C hK hN hA (Nat.le_refl _) (Nat.le_refl _) Q hret  S h H locs ls hP hD hS hl)

def pX1_restart (S : St) (Q : St → Prop) : Prop :=
  (∀ S1 : St, S1 = wr S 5 0 (0 : Int32) → (∀ S2 : St, S2 = wr S1 6 0 (0 : Int32) → Q S2))
set_option maxHeartbeats 40000000 in
set_option maxRecDepth 100000 in
theorem kX1_restart {p : Program} {l : Launch} {e : Env} {R : Room} {s : State} {m : MethodId} {args : Array Value} {below : List Frame} {meth : Method} {c : Code} {QQ : State → Prop} {g : va_G} {ct : Nat → ClassId} {ad : Nat → Nat} {n ro : Nat} {A : Nat → Prop} (C : CallFix p m c cX1_restart 1 s args wsX1_restart RX1) (hK : va_K g vwCl (xT ct) s) (hN : xN s) (hA : ∀ q, s.heap.size ≤ q → A q) (hRf : 0 ≤ R.frames) (hRl : 0 ≤ R.locals) (Q : St → Prop) (hret : ∀ (pc : Nat) (S : St) (H : Heap) (locs : List Loc) (ls : Array Slot), decode cX1_restart pc = .ok (.return_, 1) → Q S → va_P g vwCl (wX ct ad n ro S) H → va_D A (wX ct ad n ro S) → va_S A s.heap H locs → W p l e R s m args below meth c H locs 0 0 QQ (F0 m pc ls [])) (S : St) (h : pX1_restart S Q) (H : Heap) (locs : List Loc) (ls : Array Slot) (hP : va_P g vwCl (wX ct ad n ro S) H) (hD : va_D A (wX ct ad n ro S)) (hS : va_S A s.heap H locs) (hl : lv_has ls 1 [(0, .ref (ad 5))]) : W p l e R s m args below meth c H locs 0 0 QQ (F0 m 0 ls []) := by
  have hinX1 : ∀ w ∈ wsX10, w ∈ wsX1_restart := by decide +kernel
  refine lv_aload_n C.1 C.2.1 dX1_restart_0 rfl (lv_at hl 0 rfl) ?_
  refine lv_iconst (v := 0) C.1 C.2.1 dX1_restart_1 (by decide) ?_
  obtain ⟨S1, eS1⟩ : ∃ z : St, z = wr S 5 0 (0 : Int32) := ⟨_, rfl⟩
  have h := h S1 eS1
  refine xp1_made C hinX1 hK hP hD hS (by decide +kernel) dX1_restart_2 (fun H locs hP hD hS => ?_)
  rw [← eS1] at hP hD
  refine lv_aload_n C.1 C.2.1 dX1_restart_5 rfl (lv_at hl 0 rfl) ?_
  refine lv_iconst (v := 0) C.1 C.2.1 dX1_restart_6 (by decide) ?_
  obtain ⟨S2, eS2⟩ : ∃ z : St, z = wr S1 6 0 (0 : Int32) := ⟨_, rfl⟩
  have h := h S2 eS2
  refine xp1_kept C hinX1 hK hP hD hS (by decide +kernel) dX1_restart_7 (fun H locs hP hD hS => ?_)
  rw [← eS2] at hP hD
  exact hret _ _ _ _ _ dX1_restart_10 h hP hD hS
theorem mX1_restart (l : Launch) (g : va_G) (ct : Nat → ClassId) (ad : Nat → Nat) (n ro sz : Nat) (S : St) (Q : St → Prop) (h : pX1_restart S Q) : Met l yX1_restart wsX1_restart ({ frames := 0, cells := 0, slots := 0, locals := 0 }) (gPc g (xT ct) (wX ct ad n ro S) sz [.ref (ad 5)]) (va_Qv Q (gB g (xT ct) (wX ct ad n ro) (va_A (wX ct ad n ro S) sz)) (va_A (wX ct ad n ro S) sz)) 0 0 (va_A (wX ct ad n ro S) sz) :=
  g_metV (w := wX ct ad n ro) (cc := cX1_restart) (maxL := 1) (by decide) rfl rfl (by decide) rfl (fun p e s m args below meth c QQ A C hK hN hA hret H locs ls hP hD hS hl => kX1_restart C hK hN hA (Nat.le_refl _) (Nat.le_refl _) Q hret  S h H locs ls hP hD hS hl)

