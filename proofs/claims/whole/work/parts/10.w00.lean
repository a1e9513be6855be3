def bfill_4_lengths_5 (k5 : Int32 → Int32 → Int32 → St → Prop) (Q : St → Prop) (x1 : Int32) (x2 : Int32) (x3 : Int32) (S : St) : Prop :=
  ((x3 ≤ x2 → Q S) ∧ (¬ (x3 ≤ x2) → (vp_in x2 4 ∧ ∀ S1 : St, S1 = wr S 20 (Int32.toNatClampNeg x2) x1 → (∀ y3 : Int32, y3 = x2 + (1 : Int32) → k5 x1 y3 x3 S1))))
def pfill_4_lengths (x1 : Int32) (S : St) (Q : St → Prop) : Prop :=
  (∃ N : Nat, itr (F := Int32 → Int32 → Int32 → St → Prop) (fun _ _ _ _ => False) (fun k5 x1 x2 x3 S => bfill_4_lengths_5 k5 Q x1 x2 x3 S) N x1 (0 : Int32) (4 : Int32) S)
set_option maxHeartbeats 40000000 in
set_option maxRecDepth 100000 in
theorem kfill_4_lengths {p : Program} {l : Launch} {e : Env} {R : Room} {s : State} {m : MethodId} {args : Array Value} {below : List Frame} {meth : Method} {c : Code} {QQ : State → Prop} {g : va_G} {ct : Nat → ClassId} {ad : Nat → Nat} {n ro : Nat} {A : Nat → Prop} (C : CallFix p m c cJ7_fill_53178 4 s args wsJ7_fill_53178 RJ7) (hK : va_K g vwCl (xT ct) s) (hN : xN s) (hA : ∀ q, s.heap.size ≤ q → A q) (hRf : 0 ≤ R.frames) (hRl : 0 ≤ R.locals) (Q : St → Prop) (hret : ∀ (pc : Nat) (S : St) (H : Heap) (locs : List Loc) (ls : Array Slot), decode cJ7_fill_53178 pc = .ok (.return_, 1) → Q S → va_P g vwCl (wX ct ad n ro S) H → va_D A (wX ct ad n ro S) → va_S A s.heap H locs → W p l e R s m args below meth c H locs 0 0 QQ (F0 m pc ls [])) (x1 : Int32) (S : St) (h : pfill_4_lengths x1 S Q) (H : Heap) (locs : List Loc) (ls : Array Slot) (hP : va_P g vwCl (wX ct ad n ro S) H) (hD : va_D A (wX ct ad n ro S)) (hS : va_S A s.heap H locs) (hl : lv_has ls 4 [(0, .ref (ad 3)), (1, .int x1)]) : W p l e R s m args below meth c H locs 0 0 QQ (F0 m 0 ls []) := by
  have B5 : ∀ (k5 : Int32 → Int32 → Int32 → St → Prop) (hk5 : ∀ (x1 : Int32) (x2 : Int32) (x3 : Int32) (S : St) (H : Heap) (locs : List Loc) (ls : Array Slot), k5 x1 x2 x3 S → va_P g vwCl (wX ct ad n ro S) H → va_D A (wX ct ad n ro S) → va_S A s.heap H locs → lv_has ls 4 [(0, .ref (ad 3)), (1, .int x1), (2, .int x2), (3, .int x3)] → W p l e R s m args below meth c H locs 0 0 QQ (F0 m 5 ls [])) (x1 : Int32) (x2 : Int32) (x3 : Int32) (S : St) (H : Heap) (locs : List Loc) (ls : Array Slot), bfill_4_lengths_5 k5 Q x1 x2 x3 S → va_P g vwCl (wX ct ad n ro S) H → va_D A (wX ct ad n ro S) → va_S A s.heap H locs → lv_has ls 4 [(0, .ref (ad 3)), (1, .int x1), (2, .int x2), (3, .int x3)] → W p l e R s m args below meth c H locs 0 0 QQ (F0 m 5 ls []) := by
    intro k5 hk5 x1 x2 x3 S H locs ls h hP hD hS hl
    refine lv_iload_n C.1 C.2.1 dJ7_fill_53178_5 rfl (lv_at hl 2 rfl) ?_
    refine lv_iload_n C.1 C.2.1 dJ7_fill_53178_6 rfl (lv_at hl 3 rfl) ?_
    refine lv_icmp_ge (tgt := 20) C.1 C.2.1 dJ7_fill_53178_7 (by decide) (fun c4 => ?_) (fun c4 => ?_)
    · have h := h.1 c4
      exact hret _ _ _ _ _ dJ7_fill_53178_20 h hP hD hS
    · have h := h.2 c4
      refine lv_aload_n C.1 C.2.1 dJ7_fill_53178_10 rfl (lv_at hl 0 rfl) ?_
      refine lv_iload_n C.1 C.2.1 dJ7_fill_53178_11 rfl (lv_at hl 2 rfl) ?_
      refine lv_iload_n C.1 C.2.1 dJ7_fill_53178_12 rfl (lv_at hl 1 rfl) ?_
      obtain ⟨g2, h⟩ := h
      obtain ⟨S1, eS1⟩ : ∃ z : St, z = wr S 20 (Int32.toNatClampNeg x2) x1 := ⟨_, rfl⟩
      have h := h S1 eS1
      refine xs_4_lengths C hK hP hD hS  g2 rfl dJ7_fill_53178_13 (fun H locs hP hD hS => ?_)
      rw [← eS1] at hP hD
      obtain ⟨y3, ey3⟩ : ∃ z : Int32, z = x2 + (1 : Int32) := ⟨_, rfl⟩
      have h := h y3 ey3
      refine lv_iinc (v := y3) (lv' := [(2, .int y3), (0, .ref (ad 3)), (1, .int x1), (3, .int x3)]) C.1 C.2.1 dJ7_fill_53178_14 hl (k := 2) rfl (by rw [ey3]; rfl) (by decide) rfl (fun ls hl => ?_)
      refine lv_goto (tgt := 5) C.1 C.2.1 dJ7_fill_53178_17 (by decide) ?_
      exact hk5 x1 y3 x3 S1 H locs ls h hP hD hS (lv_sub hl [1, 2, 0, 3] rfl)
  have L5 : ∀ (N : Nat) (x1 : Int32) (x2 : Int32) (x3 : Int32) (S : St) (H : Heap) (locs : List Loc) (ls : Array Slot), itr (F := Int32 → Int32 → Int32 → St → Prop) (fun _ _ _ _ => False) (fun k5 x1 x2 x3 S => bfill_4_lengths_5 k5 Q x1 x2 x3 S) N x1 x2 x3 S → va_P g vwCl (wX ct ad n ro S) H → va_D A (wX ct ad n ro S) → va_S A s.heap H locs → lv_has ls 4 [(0, .ref (ad 3)), (1, .int x1), (2, .int x2), (3, .int x3)] → W p l e R s m args below meth c H locs 0 0 QQ (F0 m 5 ls []) := by
    intro N
    induction N with
    | zero => intro x1 x2 x3 S H locs ls h hP hD hS hl; exact False.elim h
    | succ N ih => intro x1 x2 x3 S H locs ls h hP hD hS hl; exact B5  (itr (F := Int32 → Int32 → Int32 → St → Prop) (fun _ _ _ _ => False) (fun k5 x1 x2 x3 S => bfill_4_lengths_5 k5 Q x1 x2 x3 S) N) ih x1 x2 x3 S H locs ls h  hP hD hS hl
  refine lv_iconst (v := 0) C.1 C.2.1 dJ7_fill_53178_0 (by decide) ?_
  refine lv_istore_n (lv' := [(2, .int (0 : Int32)), (0, .ref (ad 3)), (1, .int x1)]) C.1 C.2.1 dJ7_fill_53178_1 rfl hl (by decide) rfl (fun ls hl => ?_)
  refine lv_aload_n C.1 C.2.1 dJ7_fill_53178_2 rfl (lv_at hl 1 rfl) ?_
  refine xl_3 C hK hP dJ7_fill_53178_3 ?_
  refine lv_istore_n (lv' := [(3, .int (4 : Int32)), (2, .int (0 : Int32)), (0, .ref (ad 3)), (1, .int x1)]) C.1 C.2.1 dJ7_fill_53178_4 rfl hl (by decide) rfl (fun ls hl => ?_)
  obtain ⟨N, h⟩ := h
  exact L5 N x1 (0 : Int32) (4 : Int32) S H locs ls h hP hD hS (lv_sub hl [2, 3, 1, 0] rfl)
theorem mfill_4_lengths (l : Launch) (g : va_G) (ct : Nat → ClassId) (ad : Nat → Nat) (n ro sz : Nat) (S : St) (x1 : Int32) (Q : St → Prop) (h : pfill_4_lengths x1 S Q) : Met l yJ7_fill_53178 wsJ7_fill_53178 ({ frames := 0, cells := 0, slots := 0, locals := 0 }) (gPc g (xT ct) (wX ct ad n ro S) sz [.ref (ad 3), .int x1]) (va_Qv Q (gB g (xT ct) (wX ct ad n ro) (va_A (wX ct ad n ro S) sz)) (va_A (wX ct ad n ro S) sz)) 0 0 (va_A (wX ct ad n ro S) sz) :=
  g_metV (w := wX ct ad n ro) (cc := cJ7_fill_53178) (maxL := 4) (by decide) rfl rfl (Nat.le_of_ble_eq_true rfl) rfl (fun p e s m args below meth c QQ A C hK hN hA hret H locs ls hP hD hS hl => kfill_4_lengths C hK hN hA (Nat.le_refl _) (Nat.le_refl _) Q hret x1 S h H locs ls hP hD hS hl)

def bfill_5_values_5 (k5 : Int32 → Int32 → Int32 → St → Prop) (Q : St → Prop) (x1 : Int32) (x2 : Int32) (x3 : Int32) (S : St) : Prop :=
  ((x3 ≤ x2 → Q S) ∧ (¬ (x3 ≤ x2) → (vp_in x2 16 ∧ ∀ S1 : St, S1 = wr S 24 (Int32.toNatClampNeg x2) x1 → (∀ y3 : Int32, y3 = x2 + (1 : Int32) → k5 x1 y3 x3 S1))))
def pfill_5_values (x1 : Int32) (S : St) (Q : St → Prop) : Prop :=
  (∃ N : Nat, itr (F := Int32 → Int32 → Int32 → St → Prop) (fun _ _ _ _ => False) (fun k5 x1 x2 x3 S => bfill_5_values_5 k5 Q x1 x2 x3 S) N x1 (0 : Int32) (16 : Int32) S)
set_option maxHeartbeats 40000000 in
set_option maxRecDepth 100000 in
theorem kfill_5_values {p : Program} {l : Launch} {e : Env} {R : Room} {s : State} {m : MethodId} {args : Array Value} {below : List Frame} {meth : Method} {c : Code} {QQ : State → Prop} {g : va_G} {ct : Nat → ClassId} {ad : Nat → Nat} {n ro : Nat} {A : Nat → Prop} (C : CallFix p m c cJ7_fill_53178 4 s args wsJ7_fill_53178 RJ7) (hK : va_K g vwCl (xT ct) s) (hN : xN s) (hA : ∀ q, s.heap.size ≤ q → A q) (hRf : 0 ≤ R.frames) (hRl : 0 ≤ R.locals) (Q : St → Prop) (hret : ∀ (pc : Nat) (S : St) (H : Heap) (locs : List Loc) (ls : Array Slot), decode cJ7_fill_53178 pc = .ok (.return_, 1) → Q S → va_P g vwCl (wX ct ad n ro S) H → va_D A (wX ct ad n ro S) → va_S A s.heap H locs → W p l e R s m args below meth c H locs 0 0 QQ (F0 m pc ls [])) (x1 : Int32) (S : St) (h : pfill_5_values x1 S Q) (H : Heap) (locs : List Loc) (ls : Array Slot) (hP : va_P g vwCl (wX ct ad n ro S) H) (hD : va_D A (wX ct ad n ro S)) (hS : va_S A s.heap H locs) (hl : lv_has ls 4 [(0, .ref (ad 10)), (1, .int x1)]) : W p l e R s m args below meth c H locs 0 0 QQ (F0 m 0 ls []) := by
  have B5 : ∀ (k5 : Int32 → Int32 → Int32 → St → Prop) (hk5 : ∀ (x1 : Int32) (x2 : Int32) (x3 : Int32) (S : St) (H : Heap) (locs : List Loc) (ls : Array Slot), k5 x1 x2 x3 S → va_P g vwCl (wX ct ad n ro S) H → va_D A (wX ct ad n ro S) → va_S A s.heap H locs → lv_has ls 4 [(0, .ref (ad 10)), (1, .int x1), (2, .int x2), (3, .int x3)] → W p l e R s m args below meth c H locs 0 0 QQ (F0 m 5 ls [])) (x1 : Int32) (x2 : Int32) (x3 : Int32) (S : St) (H : Heap) (locs : List Loc) (ls : Array Slot), bfill_5_values_5 k5 Q x1 x2 x3 S → va_P g vwCl (wX ct ad n ro S) H → va_D A (wX ct ad n ro S) → va_S A s.heap H locs → lv_has ls 4 [(0, .ref (ad 10)), (1, .int x1), (2, .int x2), (3, .int x3)] → W p l e R s m args below meth c H locs 0 0 QQ (F0 m 5 ls []) := by
    intro k5 hk5 x1 x2 x3 S H locs ls h hP hD hS hl
    refine lv_iload_n C.1 C.2.1 dJ7_fill_53178_5 rfl (lv_at hl 2 rfl) ?_
    refine lv_iload_n C.1 C.2.1 dJ7_fill_53178_6 rfl (lv_at hl 3 rfl) ?_
    refine lv_icmp_ge (tgt := 20) C.1 C.2.1 dJ7_fill_53178_7 (by decide) (fun c4 => ?_) (fun c4 => ?_)
    · have h := h.1 c4
      exact hret _ _ _ _ _ dJ7_fill_53178_20 h hP hD hS
    · have h := h.2 c4
      refine lv_aload_n C.1 C.2.1 dJ7_fill_53178_10 rfl (lv_at hl 0 rfl) ?_
      refine lv_iload_n C.1 C.2.1 dJ7_fill_53178_11 rfl (lv_at hl 2 rfl) ?_
      refine lv_iload_n C.1 C.2.1 dJ7_fill_53178_12 rfl (lv_at hl 1 rfl) ?_
      obtain ⟨g2, h⟩ := h
      obtain ⟨S1, eS1⟩ : ∃ z : St, z = wr S 24 (Int32.toNatClampNeg x2) x1 := ⟨_, rfl⟩
      have h := h S1 eS1
      refine xs_5_values C hK hP hD hS  g2 rfl dJ7_fill_53178_13 (fun H locs hP hD hS => ?_)
      rw [← eS1] at hP hD
      obtain ⟨y3, ey3⟩ : ∃ z : Int32, z = x2 + (1 : Int32) := ⟨_, rfl⟩
      have h := h y3 ey3
      refine lv_iinc (v := y3) (lv' := [(2, .int y3), (0, .ref (ad 10)), (1, .int x1), (3, .int x3)]) C.1 C.2.1 dJ7_fill_53178_14 hl (k := 2) rfl (by rw [ey3]; rfl) (by decide) rfl (fun ls hl => ?_)
      refine lv_goto (tgt := 5) C.1 C.2.1 dJ7_fill_53178_17 (by decide) ?_
      exact hk5 x1 y3 x3 S1 H locs ls h hP hD hS (lv_sub hl [1, 2, 0, 3] rfl)
  have L5 : ∀ (N : Nat) (x1 : Int32) (x2 : Int32) (x3 : Int32) (S : St) (H : Heap) (locs : List Loc) (ls : Array Slot), itr (F := Int32 → Int32 → Int32 → St → Prop) (fun _ _ _ _ => False) (fun k5 x1 x2 x3 S => bfill_5_values_5 k5 Q x1 x2 x3 S) N x1 x2 x3 S → va_P g vwCl (wX ct ad n ro S) H → va_D A (wX ct ad n ro S) → va_S A s.heap H locs → lv_has ls 4 [(0, .ref (ad 10)), (1, .int x1), (2, .int x2), (3, .int x3)] → W p l e R s m args below meth c H locs 0 0 QQ (F0 m 5 ls []) := by
    intro N
    induction N with
    | zero => intro x1 x2 x3 S H locs ls h hP hD hS hl; exact False.elim h
    | succ N ih => intro x1 x2 x3 S H locs ls h hP hD hS hl; exact B5  (itr (F := Int32 → Int32 → Int32 → St → Prop) (fun _ _ _ _ => False) (fun k5 x1 x2 x3 S => bfill_5_values_5 k5 Q x1 x2 x3 S) N) ih x1 x2 x3 S H locs ls h  hP hD hS hl
  refine lv_iconst (v := 0) C.1 C.2.1 dJ7_fill_53178_0 (by decide) ?_
  refine lv_istore_n (lv' := [(2, .int (0 : Int32)), (0, .ref (ad 10)), (1, .int x1)]) C.1 C.2.1 dJ7_fill_53178_1 rfl hl (by decide) rfl (fun ls hl => ?_)
  refine lv_aload_n C.1 C.2.1 dJ7_fill_53178_2 rfl (lv_at hl 1 rfl) ?_
  refine xl_10 C hK hP dJ7_fill_53178_3 ?_
  refine lv_istore_n (lv' := [(3, .int (16 : Int32)), (2, .int (0 : Int32)), (0, .ref (ad 10)), (1, .int x1)]) C.1 C.2.1 dJ7_fill_53178_4 rfl hl (by decide) rfl (fun ls hl => ?_)
  obtain ⟨N, h⟩ := h
  exact L5 N x1 (0 : Int32) (16 : Int32) S H locs ls h hP hD hS (lv_sub hl [2, 3, 1, 0] rfl)
theorem mfill_5_values (l : Launch) (g : va_G) (ct : Nat → ClassId) (ad : Nat → Nat) (n ro sz : Nat) (S : St) (x1 : Int32) (Q : St → Prop) (h : pfill_5_values x1 S Q) : Met l yJ7_fill_53178 wsJ7_fill_53178 ({ frames := 0, cells := 0, slots := 0, locals := 0 }) (gPc g (xT ct) (wX ct ad n ro S) sz [.ref (ad 10), .int x1]) (va_Qv Q (gB g (xT ct) (wX ct ad n ro) (va_A (wX ct ad n ro S) sz)) (va_A (wX ct ad n ro S) sz)) 0 0 (va_A (wX ct ad n ro S) sz) :=
  g_metV (w := wX ct ad n ro) (cc := cJ7_fill_53178) (maxL := 4) (by decide) rfl rfl (Nat.le_of_ble_eq_true rfl) rfl (fun p e s m args below meth c QQ A C hK hN hA hret H locs ls hP hD hS hl => kfill_5_values C hK hN hA (Nat.le_refl _) (Nat.le_refl _) Q hret x1 S h H locs ls hP hD hS hl)

def bfill_5_carried_5 (k5 : Int32 → Int32 → Int32 → St → Prop) (Q : St → Prop) (x1 : Int32) (x2 : Int32) (x3 : Int32) (S : St) : Prop :=
  ((x3 ≤ x2 → Q S) ∧ (¬ (x3 ≤ x2) → (vp_in x2 16 ∧ ∀ S1 : St, S1 = wr S 25 (Int32.toNatClampNeg x2) x1 → (∀ y3 : Int32, y3 = x2 + (1 : Int32) → k5 x1 y3 x3 S1))))
def pfill_5_carried (x1 : Int32) (S : St) (Q : St → Prop) : Prop :=
  (∃ N : Nat, itr (F := Int32 → Int32 → Int32 → St → Prop) (fun _ _ _ _ => False) (fun k5 x1 x2 x3 S => bfill_5_carried_5 k5 Q x1 x2 x3 S) N x1 (0 : Int32) (16 : Int32) S)
set_option maxHeartbeats 40000000 in
set_option maxRecDepth 100000 in
theorem kfill_5_carried {p : Program} {l : Launch} {e : Env} {R : Room} {s : State} {m : MethodId} {args : Array Value} {below : List Frame} {meth : Method} {c : Code} {QQ : State → Prop} {g : va_G} {ct : Nat → ClassId} {ad : Nat → Nat} {n ro : Nat} {A : Nat → Prop} (C : CallFix p m c cJ7_fill_53178 4 s args wsJ7_fill_53178 RJ7) (hK : va_K g vwCl (xT ct) s) (hN : xN s) (hA : ∀ q, s.heap.size ≤ q → A q) (hRf : 0 ≤ R.frames) (hRl : 0 ≤ R.locals) (Q : St → Prop) (hret : ∀ (pc : Nat) (S : St) (H : Heap) (locs : List Loc) (ls : Array Slot), decode cJ7_fill_53178 pc = .ok (.return_, 1) → Q S → va_P g vwCl (wX ct ad n ro S) H → va_D A (wX ct ad n ro S) → va_S A s.heap H locs → W p l e R s m args below meth c H locs 0 0 QQ (F0 m pc ls [])) (x1 : Int32) (S : St) (h : pfill_5_carried x1 S Q) (H : Heap) (locs : List Loc) (ls : Array Slot) (hP : va_P g vwCl (wX ct ad n ro S) H) (hD : va_D A (wX ct ad n ro S)) (hS : va_S A s.heap H locs) (hl : lv_has ls 4 [(0, .ref (ad 11)), (1, .int x1)]) : W p l e R s m args below meth c H locs 0 0 QQ (F0 m 0 ls []) := by
  have B5 : ∀ (k5 : Int32 → Int32 → Int32 → St → Prop) (hk5 : ∀ (x1 : Int32) (x2 : Int32) (x3 : Int32) (S : St) (H : Heap) (locs : List Loc) (ls : Array Slot), k5 x1 x2 x3 S → va_P g vwCl (wX ct ad n ro S) H → va_D A (wX ct ad n ro S) → va_S A s.heap H locs → lv_has ls 4 [(0, .ref (ad 11)), (1, .int x1), (2, .int x2), (3, .int x3)] → W p l e R s m args below meth c H locs 0 0 QQ (F0 m 5 ls [])) (x1 : Int32) (x2 : Int32) (x3 : Int32) (S : St) (H : Heap) (locs : List Loc) (ls : Array Slot), bfill_5_carried_5 k5 Q x1 x2 x3 S → va_P g vwCl (wX ct ad n ro S) H → va_D A (wX ct ad n ro S) → va_S A s.heap H locs → lv_has ls 4 [(0, .ref (ad 11)), (1, .int x1), (2, .int x2), (3, .int x3)] → W p l e R s m args below meth c H locs 0 0 QQ (F0 m 5 ls []) := by
    intro k5 hk5 x1 x2 x3 S H locs ls h hP hD hS hl
    refine lv_iload_n C.1 C.2.1 dJ7_fill_53178_5 rfl (lv_at hl 2 rfl) ?_
    refine lv_iload_n C.1 C.2.1 dJ7_fill_53178_6 rfl (lv_at hl 3 rfl) ?_
    refine lv_icmp_ge (tgt := 20) C.1 C.2.1 dJ7_fill_53178_7 (by decide) (fun c4 => ?_) (fun c4 => ?_)
    · have h := h.1 c4
      exact hret _ _ _ _ _ dJ7_fill_53178_20 h hP hD hS
    · have h := h.2 c4
      refine lv_aload_n C.1 C.2.1 dJ7_fill_53178_10 rfl (lv_at hl 0 rfl) ?_
      refine lv_iload_n C.1 C.2.1 dJ7_fill_53178_11 rfl (lv_at hl 2 rfl) ?_
      refine lv_iload_n C.1 C.2.1 dJ7_fill_53178_12 rfl (lv_at hl 1 rfl) ?_
      obtain ⟨g2, h⟩ := h
      obtain ⟨S1, eS1⟩ : ∃ z : St, z = wr S 25 (Int32.toNatClampNeg x2) x1 := ⟨_, rfl⟩
      have h := h S1 eS1
      refine xs_5_carried C hK hP hD hS  g2 rfl dJ7_fill_53178_13 (fun H locs hP hD hS => ?_)
      rw [← eS1] at hP hD
      obtain ⟨y3, ey3⟩ : ∃ z : Int32, z = x2 + (1 : Int32) := ⟨_, rfl⟩
      have h := h y3 ey3
      refine lv_iinc (v := y3) (lv' := [(2, .int y3), (0, .ref (ad 11)), (1, .int x1), (3, .int x3)]) C.1 C.2.1 dJ7_fill_53178_14 hl (k := 2) rfl (by rw [ey3]; rfl) (by decide) rfl (fun ls hl => ?_)
      refine lv_goto (tgt := 5) C.1 C.2.1 dJ7_fill_53178_17 (by decide) ?_
      exact hk5 x1 y3 x3 S1 H locs ls h hP hD hS (lv_sub hl [1, 2, 0, 3] rfl)
  have L5 : ∀ (N : Nat) (x1 : Int32) (x2 : Int32) (x3 : Int32) (S : St) (H : Heap) (locs : List Loc) (ls : Array Slot), itr (F := Int32 → Int32 → Int32 → St → Prop) (fun _ _ _ _ => False) (fun k5 x1 x2 x3 S => bfill_5_carried_5 k5 Q x1 x2 x3 S) N x1 x2 x3 S → va_P g vwCl (wX ct ad n ro S) H → va_D A (wX ct ad n ro S) → va_S A s.heap H locs → lv_has ls 4 [(0, .ref (ad 11)), (1, .int x1), (2, .int x2), (3, .int x3)] → W p l e R s m args below meth c H locs 0 0 QQ (F0 m 5 ls []) := by
    intro N
    induction N with
    | zero => intro x1 x2 x3 S H locs ls h hP hD hS hl; exact False.elim h
    | succ N ih => intro x1 x2 x3 S H locs ls h hP hD hS hl; exact B5  (itr (F := Int32 → Int32 → Int32 → St → Prop) (fun _ _ _ _ => False) (fun k5 x1 x2 x3 S => bfill_5_carried_5 k5 Q x1 x2 x3 S) N) ih x1 x2 x3 S H locs ls h  hP hD hS hl
  refine lv_iconst (v := 0) C.1 C.2.1 dJ7_fill_53178_0 (by decide) ?_
  refine lv_istore_n (lv' := [(2, .int (0 : Int32)), (0, .ref (ad 11)), (1, .int x1)]) C.1 C.2.1 dJ7_fill_53178_1 rfl hl (by decide) rfl (fun ls hl => ?_)
  refine lv_aload_n C.1 C.2.1 dJ7_fill_53178_2 rfl (lv_at hl 1 rfl) ?_
  refine xl_11 C hK hP dJ7_fill_53178_3 ?_
  refine lv_istore_n (lv' := [(3, .int (16 : Int32)), (2, .int (0 : Int32)), (0, .ref (ad 11)), (1, .int x1)]) C.1 C.2.1 dJ7_fill_53178_4 rfl hl (by decide) rfl (fun ls hl => ?_)
  obtain ⟨N, h⟩ := h
  exact L5 N x1 (0 : Int32) (16 : Int32) S H locs ls h hP hD hS (lv_sub hl [2, 3, 1, 0] rfl)
theorem mfill_5_carried (l : Launch) (g : va_G) (ct : Nat → ClassId) (ad : Nat → Nat) (n ro sz : Nat) (S : St) (x1 : Int32) (Q : St → Prop) (h : pfill_5_carried x1 S Q) : Met l yJ7_fill_53178 wsJ7_fill_53178 ({ frames := 0, cells := 0, slots := 0, locals := 0 }) (gPc g (xT ct) (wX ct ad n ro S) sz [.ref (ad 11), .int x1]) (va_Qv Q (gB g (xT ct) (wX ct ad n ro) (va_A (wX ct ad n ro S) sz)) (va_A (wX ct ad n ro S) sz)) 0 0 (va_A (wX ct ad n ro S) sz) :=
  g_metV (w := wX ct ad n ro) (cc := cJ7_fill_53178) (maxL := 4) (by decide) rfl rfl (Nat.le_of_ble_eq_true rfl) rfl (fun p e s m args below meth c QQ A C hK hN hA hret H locs ls hP hD hS hl => kfill_5_carried C hK hN hA (Nat.le_refl _) (Nat.le_refl _) Q hret x1 S h H locs ls hP hD hS hl)

def bfill_2_latest_5 (k5 : Int32 → Int32 → Int32 → St → Prop) (Q : St → Prop) (x1 : Int32) (x2 : Int32) (x3 : Int32) (S : St) : Prop :=
  ((x3 ≤ x2 → Q S) ∧ (¬ (x3 ≤ x2) → (vp_in x2 3 ∧ ∀ S1 : St, S1 = wr S 28 (Int32.toNatClampNeg x2) x1 → (∀ y3 : Int32, y3 = x2 + (1 : Int32) → k5 x1 y3 x3 S1))))
def pfill_2_latest (x1 : Int32) (S : St) (Q : St → Prop) : Prop :=
  (∃ N : Nat, itr (F := Int32 → Int32 → Int32 → St → Prop) (fun _ _ _ _ => False) (fun k5 x1 x2 x3 S => bfill_2_latest_5 k5 Q x1 x2 x3 S) N x1 (0 : Int32) (3 : Int32) S)
set_option maxHeartbeats 40000000 in
set_option maxRecDepth 100000 in
theorem kfill_2_latest {p : Program} {l : Launch} {e : Env} {R : Room} {s : State} {m : MethodId} {args : Array Value} {below : List Frame} {meth : Method} {c : Code} {QQ : State → Prop} {g : va_G} {ct : Nat → ClassId} {ad : Nat → Nat} {n ro : Nat} {A : Nat → Prop} (C : CallFix p m c cJ7_fill_53178 4 s args wsJ7_fill_53178 RJ7) (hK : va_K g vwCl (xT ct) s) (hN : xN s) (hA : ∀ q, s.heap.size ≤ q → A q) (hRf : 0 ≤ R.frames) (hRl : 0 ≤ R.locals) (Q : St → Prop) (hret : ∀ (pc : Nat) (S : St) (H : Heap) (locs : List Loc) (ls : Array Slot), decode cJ7_fill_53178 pc = .ok (.return_, 1) → Q S → va_P g vwCl (wX ct ad n ro S) H → va_D A (wX ct ad n ro S) → va_S A s.heap H locs → W p l e R s m args below meth c H locs 0 0 QQ (F0 m pc ls [])) (x1 : Int32) (S : St) (h : pfill_2_latest x1 S Q) (H : Heap) (locs : List Loc) (ls : Array Slot) (hP : va_P g vwCl (wX ct ad n ro S) H) (hD : va_D A (wX ct ad n ro S)) (hS : va_S A s.heap H locs) (hl : lv_has ls 4 [(0, .ref (ad 15)), (1, .int x1)]) : W p l e R s m args below meth c H locs 0 0 QQ (F0 m 0 ls []) := by
  have B5 : ∀ (k5 : Int32 → Int32 → Int32 → St → Prop) (hk5 : ∀ (x1 : Int32) (x2 : Int32) (x3 : Int32) (S : St) (H : Heap) (locs : List Loc) (ls : Array Slot), k5 x1 x2 x3 S → va_P g vwCl (wX ct ad n ro S) H → va_D A (wX ct ad n ro S) → va_S A s.heap H locs → lv_has ls 4 [(0, .ref (ad 15)), (1, .int x1), (2, .int x2), (3, .int x3)] → W p l e R s m args below meth c H locs 0 0 QQ (F0 m 5 ls [])) (x1 : Int32) (x2 : Int32) (x3 : Int32) (S : St) (H : Heap) (locs : List Loc) (ls : Array Slot), bfill_2_latest_5 k5 Q x1 x2 x3 S → va_P g vwCl (wX ct ad n ro S) H → va_D A (wX ct ad n ro S) → va_S A s.heap H locs → lv_has ls 4 [(0, .ref (ad 15)), (1, .int x1), (2, .int x2), (3, .int x3)] → W p l e R s m args below meth c H locs 0 0 QQ (F0 m 5 ls []) := by
    intro k5 hk5 x1 x2 x3 S H locs ls h hP hD hS hl
    refine lv_iload_n C.1 C.2.1 dJ7_fill_53178_5 rfl (lv_at hl 2 rfl) ?_
    refine lv_iload_n C.1 C.2.1 dJ7_fill_53178_6 rfl (lv_at hl 3 rfl) ?_
    refine lv_icmp_ge (tgt := 20) C.1 C.2.1 dJ7_fill_53178_7 (by decide) (fun c4 => ?_) (fun c4 => ?_)
    · have h := h.1 c4
      exact hret _ _ _ _ _ dJ7_fill_53178_20 h hP hD hS
    · have h := h.2 c4
      refine lv_aload_n C.1 C.2.1 dJ7_fill_53178_10 rfl (lv_at hl 0 rfl) ?_
      refine lv_iload_n C.1 C.2.1 dJ7_fill_53178_11 rfl (lv_at hl 2 rfl) ?_
      refine lv_iload_n C.1 C.2.1 dJ7_fill_53178_12 rfl (lv_at hl 1 rfl) ?_
      obtain ⟨g2, h⟩ := h
      obtain ⟨S1, eS1⟩ : ∃ z : St, z = wr S 28 (Int32.toNatClampNeg x2) x1 := ⟨_, rfl⟩
      have h := h S1 eS1
      refine xs_2_latest C hK hP hD hS  g2 rfl dJ7_fill_53178_13 (fun H locs hP hD hS => ?_)
      rw [← eS1] at hP hD
      obtain ⟨y3, ey3⟩ : ∃ z : Int32, z = x2 + (1 : Int32) := ⟨_, rfl⟩
      have h := h y3 ey3
      refine lv_iinc (v := y3) (lv' := [(2, .int y3), (0, .ref (ad 15)), (1, .int x1), (3, .int x3)]) C.1 C.2.1 dJ7_fill_53178_14 hl (k := 2) rfl (by rw [ey3]; rfl) (by decide) rfl (fun ls hl => ?_)
      refine lv_goto (tgt := 5) C.1 C.2.1 dJ7_fill_53178_17 (by decide) ?_
      exact hk5 x1 y3 x3 S1 H locs ls h hP hD hS (lv_sub hl [1, 2, 0, 3] rfl)
  have L5 : ∀ (N : Nat) (x1 : Int32) (x2 : Int32) (x3 : Int32) (S : St) (H : Heap) (locs : List Loc) (ls : Array Slot), itr (F := Int32 → Int32 → Int32 → St → Prop) (fun _ _ _ _ => False) (fun k5 x1 x2 x3 S => bfill_2_latest_5 k5 Q x1 x2 x3 S) N x1 x2 x3 S → va_P g vwCl (wX ct ad n ro S) H → va_D A (wX ct ad n ro S) → va_S A s.heap H locs → lv_has ls 4 [(0, .ref (ad 15)), (1, .int x1), (2, .int x2), (3, .int x3)] → W p l e R s m args below meth c H locs 0 0 QQ (F0 m 5 ls []) := by
    intro N
    induction N with
    | zero => intro x1 x2 x3 S H locs ls h hP hD hS hl; exact False.elim h
    | succ N ih => intro x1 x2 x3 S H locs ls h hP hD hS hl; exact B5  (itr (F := Int32 → Int32 → Int32 → St → Prop) (fun _ _ _ _ => False) (fun k5 x1 x2 x3 S => bfill_2_latest_5 k5 Q x1 x2 x3 S) N) ih x1 x2 x3 S H locs ls h  hP hD hS hl
  refine lv_iconst (v := 0) C.1 C.2.1 dJ7_fill_53178_0 (by decide) ?_
  refine lv_istore_n (lv' := [(2, .int (0 : Int32)), (0, .ref (ad 15)), (1, .int x1)]) C.1 C.2.1 dJ7_fill_53178_1 rfl hl (by decide) rfl (fun ls hl => ?_)
  refine lv_aload_n C.1 C.2.1 dJ7_fill_53178_2 rfl (lv_at hl 1 rfl) ?_
  refine xl_15 C hK hP dJ7_fill_53178_3 ?_
  refine lv_istore_n (lv' := [(3, .int (3 : Int32)), (2, .int (0 : Int32)), (0, .ref (ad 15)), (1, .int x1)]) C.1 C.2.1 dJ7_fill_53178_4 rfl hl (by decide) rfl (fun ls hl => ?_)
  obtain ⟨N, h⟩ := h
  exact L5 N x1 (0 : Int32) (3 : Int32) S H locs ls h hP hD hS (lv_sub hl [2, 3, 1, 0] rfl)
theorem mfill_2_latest (l : Launch) (g : va_G) (ct : Nat → ClassId) (ad : Nat → Nat) (n ro sz : Nat) (S : St) (x1 : Int32) (Q : St → Prop) (h : pfill_2_latest x1 S Q) : Met l yJ7_fill_53178 wsJ7_fill_53178 ({ frames := 0, cells := 0, slots := 0, locals := 0 }) (gPc g (xT ct) (wX ct ad n ro S) sz [.ref (ad 15), .int x1]) (va_Qv Q (gB g (xT ct) (wX ct ad n ro) (va_A (wX ct ad n ro S) sz)) (va_A (wX ct ad n ro S) sz)) 0 0 (va_A (wX ct ad n ro S) sz) :=
  g_metV (w := wX ct ad n ro) (cc := cJ7_fill_53178) (maxL := 4) (by decide) rfl rfl (Nat.le_of_ble_eq_true rfl) rfl (fun p e s m args below meth c QQ A C hK hN hA hret H locs ls hP hD hS hl => kfill_2_latest C hK hN hA (Nat.le_refl _) (Nat.le_refl _) Q hret x1 S h H locs ls hP hD hS hl)

def pX1_restart (S : St) (Q : St → Prop) : Prop :=
  (∀ S1 : St, S1 = wr S 5 0 (0 : Int32) → (∀ S2 : St, S2 = wr S1 6 0 (0 : Int32) → Q S2))
set_option maxHeartbeats 40000000 in
set_option maxRecDepth 100000 in
theorem kX1_restart {p : Program} {l : Launch} {e : Env} {R : Room} {s : State} {m : MethodId} {args : Array Value} {below : List Frame} {meth : Method} {c : Code} {QQ : State → Prop} {g : va_G} {ct : Nat → ClassId} {ad : Nat → Nat} {n ro : Nat} {A : Nat → Prop} (C : CallFix p m c cX1_restart 1 s args wsX1_restart RX1) (hK : va_K g vwCl (xT ct) s) (hN : xN s) (hA : ∀ q, s.heap.size ≤ q → A q) (hRf : 0 ≤ R.frames) (hRl : 0 ≤ R.locals) (Q : St → Prop) (hret : ∀ (pc : Nat) (S : St) (H : Heap) (locs : List Loc) (ls : Array Slot), decode cX1_restart pc = .ok (.return_, 1) → Q S → va_P g vwCl (wX ct ad n ro S) H → va_D A (wX ct ad n ro S) → va_S A s.heap H locs → W p l e R s m args below meth c H locs 0 0 QQ (F0 m pc ls [])) (S : St) (h : pX1_restart S Q) (H : Heap) (locs : List Loc) (ls : Array Slot) (hP : va_P g vwCl (wX ct ad n ro S) H) (hD : va_D A (wX ct ad n ro S)) (hS : va_S A s.heap H locs) (hl : lv_has ls 1 [(0, .ref (ad 5))]) : W p l e R s m args below meth c H locs 0 0 QQ (F0 m 0 ls []) := by
  have hinX1 : ∀ w ∈ wsX10, w ∈ wsX1_restart := by decide +kernel
  refine lv_aload_n C.1 C.2.1 dX1_restart_0 rfl (lv_at hl 0 rfl) ?_
  refine lv_iconst (v := 0) C.1 C.2.1 dX1_restart_1 (by decide) ?_
  obtain ⟨S1, eS1⟩ : ∃ z : St, z = wr S 5 0 (0 : Int32) := ⟨_, rfl⟩
  have h := h S1 eS1
  refine xp1_made C hinX1 hK hP hD hS (by decide +kernel) dX1_restart_2 (fun H locs hP hD hS => ?_)
  rw [← eS1] at hP hD
  refine lv_aload_n C.1 C.2.1 dX1_restart_5 rfl (lv_at hl 0 rfl) ?_
  refine lv_iconst (v := 0) C.1 C.2.1 dX1_restart_6 (by decide) ?_
  obtain ⟨S2, eS2⟩ : ∃ z : St, z = wr S1 6 0 (0 : Int32) := ⟨_, rfl⟩
  have h := h S2 eS2
  refine xp1_kept C hinX1 hK hP hD hS (by decide +kernel) dX1_restart_7 (fun H locs hP hD hS => ?_)
  rw [← eS2] at hP hD
  exact hret _ _ _ _ _ dX1_restart_10 h hP hD hS
theorem mX1_restart (l : Launch) (g : va_G) (ct : Nat → ClassId) (ad : Nat → Nat) (n ro sz : Nat) (S : St) (Q : St → Prop) (h : pX1_restart S Q) : Met l yX1_restart wsX1_restart ({ frames := 0, cells := 0, slots := 0, locals := 0 }) (gPc g (xT ct) (wX ct ad n ro S) sz [.ref (ad 5)]) (va_Qv Q (gB g (xT ct) (wX ct ad n ro) (va_A (wX ct ad n ro S) sz)) (va_A (wX ct ad n ro S) sz)) 0 0 (va_A (wX ct ad n ro S) sz) :=
  g_metV (w := wX ct ad n ro) (cc := cX1_restart) (maxL := 1) (by decide) rfl rfl (Nat.le_of_ble_eq_true rfl) rfl (fun p e s m args below meth c QQ A C hK hN hA hret H locs ls hP hD hS hl => kX1_restart C hK hN hA (Nat.le_refl _) (Nat.le_refl _) Q hret  S h H locs ls hP hD hS hl)

def bX1_choose_42 (Q : Int32 → St → Prop) (S : St) : Prop :=
  (∀ y1 : Int32, y1 = (S.1 5 0) → (∀ S2 : St, S2 = wr S 5 0 (y1 + (1 : Int32)) → (vp_in y1 6 ∧ Q (S2.1 22 (Int32.toNatClampNeg y1)) S2)))
def pX1_choose (x1 : Int32) (S : St) (Q : Int32 → St → Prop) : Prop :=
  (((S.1 5 0) < (6 : Int32) → (((S.1 5 0) < (S.1 6 0) → bX1_choose_42 Q  S) ∧ (¬ ((S.1 5 0) < (S.1 6 0)) → (vp_in (S.1 5 0) 6 ∧ ∀ S4 : St, S4 = wr S 22 (Int32.toNatClampNeg (S.1 5 0)) (0 : Int32) → (vp_in (S4.1 5 0) 6 ∧ ∀ S6 : St, S6 = wr S4 23 (Int32.toNatClampNeg (S4.1 5 0)) x1 → bX1_choose_42 Q  S6))))) ∧ (¬ ((S.1 5 0) < (6 : Int32)) → Q (0 : Int32) S))
set_option maxHeartbeats 40000000 in
set_option maxRecDepth 100000 in
theorem kX1_choose {p : Program} {l : Launch} {e : Env} {R : Room} {s : State} {m : MethodId} {args : Array Value} {below : List Frame} {meth : Method} {c : Code} {QQ : State → Prop} {g : va_G} {ct : Nat → ClassId} {ad : Nat → Nat} {n ro : Nat} {A : Nat → Prop} (C : CallFix p m c cX1_choose 2 s args wsX1_choose RX1) (hK : va_K g vwCl (xT ct) s) (hN : xN s) (hA : ∀ q, s.heap.size ≤ q → A q) (hRf : 0 ≤ R.frames) (hRl : 0 ≤ R.locals) (Q : Int32 → St → Prop) (hret : ∀ (pc : Nat) (r : Int32) (S : St) (H : Heap) (locs : List Loc) (ls : Array Slot), decode cX1_choose pc = .ok (.ireturn, 1) → Q r S → va_P g vwCl (wX ct ad n ro S) H → va_D A (wX ct ad n ro S) → va_S A s.heap H locs → W p l e R s m args below meth c H locs 0 0 QQ (F0 m pc ls [.int r])) (x1 : Int32) (S : St) (h : pX1_choose x1 S Q) (H : Heap) (locs : List Loc) (ls : Array Slot) (hP : va_P g vwCl (wX ct ad n ro S) H) (hD : va_D A (wX ct ad n ro S)) (hS : va_S A s.heap H locs) (hl : lv_has ls 2 [(0, .ref (ad 5)), (1, .int x1)]) : W p l e R s m args below meth c H locs 0 0 QQ (F0 m 0 ls []) := by
  have hinX1 : ∀ w ∈ wsX10, w ∈ wsX1_choose := by decide +kernel
  have B42 : ∀ (S : St) (H : Heap) (locs : List Loc) (ls : Array Slot), bX1_choose_42 Q S → va_P g vwCl (wX ct ad n ro S) H → va_D A (wX ct ad n ro S) → va_S A s.heap H locs → lv_has ls 2 [(0, .ref (ad 5))] → W p l e R s m args below meth c H locs 0 0 QQ (F0 m 42 ls []) := by
    intro S H locs ls h hP hD hS hl
    refine lv_aload_n C.1 C.2.1 dX1_choose_42 rfl (lv_at hl 0 rfl) ?_
    refine xg1_chosen C hinX1 hK hP (by decide +kernel) dX1_choose_43 ?_
    refine lv_aload_n C.1 C.2.1 dX1_choose_46 rfl (lv_at hl 0 rfl) ?_
    refine lv_dup C.1 C.2.1 dX1_choose_47 rfl ?_
    refine xg1_made C hinX1 hK hP (by decide +kernel) dX1_choose_48 ?_
    refine lv_topi (fun y1 ey1 => ?_)
    have h := h y1 ey1
    refine lv_dup_x1 C.1 C.2.1 dX1_choose_51 rfl rfl ?_
    refine lv_iconst (v := 1) C.1 C.2.1 dX1_choose_52 (by decide) ?_
    refine lv_iadd C.1 C.2.1 dX1_choose_53 ?_
    obtain ⟨S2, eS2⟩ : ∃ z : St, z = wr S 5 0 (y1 + (1 : Int32)) := ⟨_, rfl⟩
    have h := h S2 eS2
    refine xp1_made C hinX1 hK hP hD hS (by decide +kernel) dX1_choose_54 (fun H locs hP hD hS => ?_)
    rw [← eS2] at hP hD
    obtain ⟨g3, h⟩ := h
    refine xa_1_chosen C hK hP g3  rfl dX1_choose_57 ?_
    exact hret _ _ _ _ _ _ dX1_choose_58 h hP hD hS
  refine lv_aload_n C.1 C.2.1 dX1_choose_0 rfl (lv_at hl 0 rfl) ?_
  refine xg1_made C hinX1 hK hP (by decide +kernel) dX1_choose_1 ?_
  refine lv_bipush (v := 6) C.1 C.2.1 dX1_choose_4 (by decide) ?_
  refine lv_icmp_lt (tgt := 11) C.1 C.2.1 dX1_choose_6 (by decide) (fun c9 => ?_) (fun c9 => ?_)
  · have h := h.1 c9
    refine lv_aload_n C.1 C.2.1 dX1_choose_11 rfl (lv_at hl 0 rfl) ?_
    refine xg1_made C hinX1 hK hP (by decide +kernel) dX1_choose_12 ?_
    refine lv_aload_n C.1 C.2.1 dX1_choose_15 rfl (lv_at hl 0 rfl) ?_
    refine xg1_kept C hinX1 hK hP (by decide +kernel) dX1_choose_16 ?_
    refine lv_icmp_lt (tgt := 42) C.1 C.2.1 dX1_choose_19 (by decide) (fun c8 => ?_) (fun c8 => ?_)
    · have h := h.1 c8
      exact B42  S H locs ls h hP hD hS (lv_sub hl [0] rfl)
    · have h := h.2 c8
      refine lv_aload_n C.1 C.2.1 dX1_choose_22 rfl (lv_at hl 0 rfl) ?_
      refine xg1_chosen C hinX1 hK hP (by decide +kernel) dX1_choose_23 ?_
      refine lv_aload_n C.1 C.2.1 dX1_choose_26 rfl (lv_at hl 0 rfl) ?_
      refine xg1_made C hinX1 hK hP (by decide +kernel) dX1_choose_27 ?_
      refine lv_iconst (v := 0) C.1 C.2.1 dX1_choose_30 (by decide) ?_
      obtain ⟨g5, h⟩ := h
      obtain ⟨S4, eS4⟩ : ∃ z : St, z = wr S 22 (Int32.toNatClampNeg (S.1 5 0)) (0 : Int32) := ⟨_, rfl⟩
      have h := h S4 eS4
      refine xs_1_chosen C hK hP hD hS  g5 rfl dX1_choose_31 (fun H locs hP hD hS => ?_)
      rw [← eS4] at hP hD
      refine lv_aload_n C.1 C.2.1 dX1_choose_32 rfl (lv_at hl 0 rfl) ?_
      refine xg1_limits C hinX1 hK hP (by decide +kernel) dX1_choose_33 ?_
      refine lv_aload_n C.1 C.2.1 dX1_choose_36 rfl (lv_at hl 0 rfl) ?_
      refine xg1_made C hinX1 hK hP (by decide +kernel) dX1_choose_37 ?_
      refine lv_iload_n C.1 C.2.1 dX1_choose_40 rfl (lv_at hl 1 rfl) ?_
      obtain ⟨g7, h⟩ := h
      obtain ⟨S6, eS6⟩ : ∃ z : St, z = wr S4 23 (Int32.toNatClampNeg (S4.1 5 0)) x1 := ⟨_, rfl⟩
      have h := h S6 eS6
      refine xs_1_limits C hK hP hD hS  g7 rfl dX1_choose_41 (fun H locs hP hD hS => ?_)
      rw [← eS6] at hP hD
      exact B42  S6 H locs ls h hP hD hS (lv_sub hl [0] rfl)
  · have h := h.2 c9
    refine lv_iconst (v := 0) C.1 C.2.1 dX1_choose_9 (by decide) ?_
    exact hret _ _ _ _ _ _ dX1_choose_10 h hP hD hS
theorem mX1_choose (l : Launch) (g : va_G) (ct : Nat → ClassId) (ad : Nat → Nat) (n ro sz : Nat) (S : St) (x1 : Int32) (Q : Int32 → St → Prop) (h : pX1_choose x1 S Q) : Met l yX1_choose wsX1_choose ({ frames := 0, cells := 0, slots := 0, locals := 0 }) (gPc g (xT ct) (wX ct ad n ro S) sz [.ref (ad 5), .int x1]) (va_Qi Q (gB g (xT ct) (wX ct ad n ro) (va_A (wX ct ad n ro S) sz)) (va_A (wX ct ad n ro S) sz)) 0 0 (va_A (wX ct ad n ro S) sz) :=
  g_metI (w := wX ct ad n ro) (cc := cX1_choose) (maxL := 2) (by decide) rfl rfl (Nat.le_of_ble_eq_true rfl) rfl (fun p e s m args below meth c QQ A C hK hN hA hret H locs ls hP hD hS hl => kX1_choose C hK hN hA (Nat.le_refl _) (Nat.le_refl _) Q hret x1 S h H locs ls hP hD hS hl)

def bX1_advance_69 (Q : Int32 → St → Prop) (t0 : Int32) (S : St) : Prop :=
  (zb t0 ∧ Q t0 S)
def bX1_advance_48 (Q : Int32 → St → Prop) (x1 : Int32) (S : St) : Prop :=
  (∀ S1 : St, S1 = wr S 6 0 (x1 + (1 : Int32)) → (∀ S2 : St, S2 = wr S1 5 0 (0 : Int32) → ((x1 < 0 → bX1_advance_69 Q (0 : Int32) S2) ∧ (¬ (x1 < 0) → bX1_advance_69 Q (1 : Int32) S2))))
def bX1_advance_34 (Q : Int32 → St → Prop) (x1 : Int32) (S : St) : Prop :=
  ((x1 < 0 → bX1_advance_48 Q x1 S) ∧ (¬ (x1 < 0) → (vp_in x1 6 ∧ (vp_in x1 6 ∧ ∀ S5 : St, S5 = wr S 22 (Int32.toNatClampNeg x1) ((S.1 22 (Int32.toNatClampNeg x1)) + (1 : Int32)) → bX1_advance_48 Q x1 S5))))
def bX1_advance_7 (k7 : Int32 → St → Prop) (Q : Int32 → St → Prop) (x1 : Int32) (S : St) : Prop :=
  ((x1 < 0 → bX1_advance_34 Q x1 S) ∧ (¬ (x1 < 0) → (vp_in x1 6 ∧ (vp_in x1 6 ∧ ((((S.1 22 (Int32.toNatClampNeg x1)) + (1 : Int32)) < (S.1 23 (Int32.toNatClampNeg x1)) → bX1_advance_34 Q x1 S) ∧ (¬ (((S.1 22 (Int32.toNatClampNeg x1)) + (1 : Int32)) < (S.1 23 (Int32.toNatClampNeg x1))) → (∀ y10 : Int32, y10 = x1 + (-1 : Int32) → k7 y10 S)))))))
def pX1_advance (S : St) (Q : Int32 → St → Prop) : Prop :=
  (∀ y13 : Int32, y13 = ((S.1 5 0) - (1 : Int32)) → (∃ N : Nat, itr (F := Int32 → St → Prop) (fun _ _ => False) (fun k7 x1 S => bX1_advance_7 k7 Q x1 S) N y13 S))
set_option maxHeartbeats 40000000 in
set_option maxRecDepth 100000 in
theorem kX1_advance {p : Program} {l : Launch} {e : Env} {R : Room} {s : State} {m : MethodId} {args : Array Value} {below : List Frame} {meth : Method} {c : Code} {QQ : State → Prop} {g : va_G} {ct : Nat → ClassId} {ad : Nat → Nat} {n ro : Nat} {A : Nat → Prop} (C : CallFix p m c cX1_advance 2 s args wsX1_advance RX1) (hK : va_K g vwCl (xT ct) s) (hN : xN s) (hA : ∀ q, s.heap.size ≤ q → A q) (hRf : 0 ≤ R.frames) (hRl : 0 ≤ R.locals) (Q : Int32 → St → Prop) (hret : ∀ (pc : Nat) (r : Int32) (S : St) (H : Heap) (locs : List Loc) (ls : Array Slot), decode cX1_advance pc = .ok (.ireturn, 1) → zb r → Q r S → va_P g vwCl (wX ct ad n ro S) H → va_D A (wX ct ad n ro S) → va_S A s.heap H locs → W p l e R s m args below meth c H locs 0 0 QQ (F0 m pc ls [.int r])) (S : St) (h : pX1_advance S Q) (H : Heap) (locs : List Loc) (ls : Array Slot) (hP : va_P g vwCl (wX ct ad n ro S) H) (hD : va_D A (wX ct ad n ro S)) (hS : va_S A s.heap H locs) (hl : lv_has ls 2 [(0, .ref (ad 5))]) : W p l e R s m args below meth c H locs 0 0 QQ (F0 m 0 ls []) := by
  have hinX1 : ∀ w ∈ wsX10, w ∈ wsX1_advance := by decide +kernel
  have B69 : ∀ (t0 : Int32) (S : St) (H : Heap) (locs : List Loc) (ls : Array Slot), bX1_advance_69 Q t0 S → va_P g vwCl (wX ct ad n ro S) H → va_D A (wX ct ad n ro S) → va_S A s.heap H locs → lv_has ls 2 [(0, .ref (ad 5))] → W p l e R s m args below meth c H locs 0 0 QQ (F0 m 69 ls [.int t0]) := by
    intro t0 S H locs ls h hP hD hS hl
    exact hret _ _ _ _ _ _ dX1_advance_69 h.1 h.2 hP hD hS
  have B48 : ∀ (x1 : Int32) (S : St) (H : Heap) (locs : List Loc) (ls : Array Slot), bX1_advance_48 Q x1 S → va_P g vwCl (wX ct ad n ro S) H → va_D A (wX ct ad n ro S) → va_S A s.heap H locs → lv_has ls 2 [(0, .ref (ad 5)), (1, .int x1)] → W p l e R s m args below meth c H locs 0 0 QQ (F0 m 48 ls []) := by
    intro x1 S H locs ls h hP hD hS hl
    refine lv_aload_n C.1 C.2.1 dX1_advance_48 rfl (lv_at hl 0 rfl) ?_
    refine lv_iload_n C.1 C.2.1 dX1_advance_49 rfl (lv_at hl 1 rfl) ?_
    refine lv_iconst (v := 1) C.1 C.2.1 dX1_advance_50 (by decide) ?_
    refine lv_iadd C.1 C.2.1 dX1_advance_51 ?_
    obtain ⟨S1, eS1⟩ : ∃ z : St, z = wr S 6 0 (x1 + (1 : Int32)) := ⟨_, rfl⟩
    have h := h S1 eS1
    refine xp1_kept C hinX1 hK hP hD hS (by decide +kernel) dX1_advance_52 (fun H locs hP hD hS => ?_)
    rw [← eS1] at hP hD
    refine lv_aload_n C.1 C.2.1 dX1_advance_55 rfl (lv_at hl 0 rfl) ?_
    refine lv_iconst (v := 0) C.1 C.2.1 dX1_advance_56 (by decide) ?_
    obtain ⟨S2, eS2⟩ : ∃ z : St, z = wr S1 5 0 (0 : Int32) := ⟨_, rfl⟩
    have h := h S2 eS2
    refine xp1_made C hinX1 hK hP hD hS (by decide +kernel) dX1_advance_57 (fun H locs hP hD hS => ?_)
    rw [← eS2] at hP hD
    refine lv_iload_n C.1 C.2.1 dX1_advance_60 rfl (lv_at hl 1 rfl) ?_
    refine lv_if_lt (tgt := 68) C.1 C.2.1 dX1_advance_61 (by decide) (fun c3 => ?_) (fun c3 => ?_)
    · have h := h.1 c3
      refine lv_iconst (v := 0) C.1 C.2.1 dX1_advance_68 (by decide) ?_
      exact B69 (0 : Int32) S2 H locs ls h hP hD hS (lv_sub hl [0] rfl)
    · have h := h.2 c3
      refine lv_iconst (v := 1) C.1 C.2.1 dX1_advance_64 (by decide) ?_
      refine lv_goto (tgt := 69) C.1 C.2.1 dX1_advance_65 (by decide) ?_
      exact B69 (1 : Int32) S2 H locs ls h hP hD hS (lv_sub hl [0] rfl)
  have B34 : ∀ (x1 : Int32) (S : St) (H : Heap) (locs : List Loc) (ls : Array Slot), bX1_advance_34 Q x1 S → va_P g vwCl (wX ct ad n ro S) H → va_D A (wX ct ad n ro S) → va_S A s.heap H locs → lv_has ls 2 [(0, .ref (ad 5)), (1, .int x1)] → W p l e R s m args below meth c H locs 0 0 QQ (F0 m 34 ls []) := by
    intro x1 S H locs ls h hP hD hS hl
    refine lv_iload_n C.1 C.2.1 dX1_advance_34 rfl (lv_at hl 1 rfl) ?_
    refine lv_if_lt (tgt := 48) C.1 C.2.1 dX1_advance_35 (by decide) (fun c7 => ?_) (fun c7 => ?_)
    · have h := h.1 c7
      exact B48 x1 S H locs ls h hP hD hS (lv_sub hl [0, 1] rfl)
    · have h := h.2 c7
      refine lv_aload_n C.1 C.2.1 dX1_advance_38 rfl (lv_at hl 0 rfl) ?_
      refine xg1_chosen C hinX1 hK hP (by decide +kernel) dX1_advance_39 ?_
      refine lv_iload_n C.1 C.2.1 dX1_advance_42 rfl (lv_at hl 1 rfl) ?_
      refine lv_dup2_11 C.1 C.2.1 dX1_advance_43 rfl rfl ?_
      obtain ⟨g4, h⟩ := h
      refine xa_1_chosen C hK hP g4  rfl dX1_advance_44 ?_
      refine lv_iconst (v := 1) C.1 C.2.1 dX1_advance_45 (by decide) ?_
      refine lv_iadd C.1 C.2.1 dX1_advance_46 ?_
      obtain ⟨g6, h⟩ := h
      obtain ⟨S5, eS5⟩ : ∃ z : St, z = wr S 22 (Int32.toNatClampNeg x1) ((S.1 22 (Int32.toNatClampNeg x1)) + (1 : Int32)) := ⟨_, rfl⟩
      have h := h S5 eS5
      refine xs_1_chosen C hK hP hD hS  g6 rfl dX1_advance_47 (fun H locs hP hD hS => ?_)
      rw [← eS5] at hP hD
      exact B48 x1 S5 H locs ls h hP hD hS (lv_sub hl [0, 1] rfl)
  have B7 : ∀ (k7 : Int32 → St → Prop) (hk7 : ∀ (x1 : Int32) (S : St) (H : Heap) (locs : List Loc) (ls : Array Slot), k7 x1 S → va_P g vwCl (wX ct ad n ro S) H → va_D A (wX ct ad n ro S) → va_S A s.heap H locs → lv_has ls 2 [(0, .ref (ad 5)), (1, .int x1)] → W p l e R s m args below meth c H locs 0 0 QQ (F0 m 7 ls [])) (x1 : Int32) (S : St) (H : Heap) (locs : List Loc) (ls : Array Slot), bX1_advance_7 k7 Q x1 S → va_P g vwCl (wX ct ad n ro S) H → va_D A (wX ct ad n ro S) → va_S A s.heap H locs → lv_has ls 2 [(0, .ref (ad 5)), (1, .int x1)] → W p l e R s m args below meth c H locs 0 0 QQ (F0 m 7 ls []) := by
    intro k7 hk7 x1 S H locs ls h hP hD hS hl
    refine lv_iload_n C.1 C.2.1 dX1_advance_7 rfl (lv_at hl 1 rfl) ?_
    refine lv_if_lt (tgt := 34) C.1 C.2.1 dX1_advance_8 (by decide) (fun c12 => ?_) (fun c12 => ?_)
    · have h := h.1 c12
      exact B34 x1 S H locs ls h hP hD hS (lv_sub hl [0, 1] rfl)
    · have h := h.2 c12
      refine lv_aload_n C.1 C.2.1 dX1_advance_11 rfl (lv_at hl 0 rfl) ?_
      refine xg1_chosen C hinX1 hK hP (by decide +kernel) dX1_advance_12 ?_
      refine lv_iload_n C.1 C.2.1 dX1_advance_15 rfl (lv_at hl 1 rfl) ?_
      obtain ⟨g8, h⟩ := h
      refine xa_1_chosen C hK hP g8  rfl dX1_advance_16 ?_
      refine lv_iconst (v := 1) C.1 C.2.1 dX1_advance_17 (by decide) ?_
      refine lv_iadd C.1 C.2.1 dX1_advance_18 ?_
      refine lv_aload_n C.1 C.2.1 dX1_advance_19 rfl (lv_at hl 0 rfl) ?_
      refine xg1_limits C hinX1 hK hP (by decide +kernel) dX1_advance_20 ?_
      refine lv_iload_n C.1 C.2.1 dX1_advance_23 rfl (lv_at hl 1 rfl) ?_
      obtain ⟨g9, h⟩ := h
      refine xa_1_limits C hK hP g9  rfl dX1_advance_24 ?_
      refine lv_icmp_lt (tgt := 34) C.1 C.2.1 dX1_advance_25 (by decide) (fun c11 => ?_) (fun c11 => ?_)
      · have h := h.1 c11
        exact B34 x1 S H locs ls h hP hD hS (lv_sub hl [0, 1] rfl)
      · have h := h.2 c11
        obtain ⟨y10, ey10⟩ : ∃ z : Int32, z = x1 + (-1 : Int32) := ⟨_, rfl⟩
        have h := h y10 ey10
        refine lv_iinc (v := y10) (lv' := [(1, .int y10), (0, .ref (ad 5))]) C.1 C.2.1 dX1_advance_28 hl (k := 1) rfl (by rw [ey10]; rfl) (by decide) rfl (fun ls hl => ?_)
        refine lv_goto (tgt := 7) C.1 C.2.1 dX1_advance_31 (by decide) ?_
        exact hk7 y10 S H locs ls h hP hD hS (lv_sub hl [1, 0] rfl)
  have L7 : ∀ (N : Nat) (x1 : Int32) (S : St) (H : Heap) (locs : List Loc) (ls : Array Slot), itr (F := Int32 → St → Prop) (fun _ _ => False) (fun k7 x1 S => bX1_advance_7 k7 Q x1 S) N x1 S → va_P g vwCl (wX ct ad n ro S) H → va_D A (wX ct ad n ro S) → va_S A s.heap H locs → lv_has ls 2 [(0, .ref (ad 5)), (1, .int x1)] → W p l e R s m args below meth c H locs 0 0 QQ (F0 m 7 ls []) := by
    intro N
    induction N with
    | zero => intro x1 S H locs ls h hP hD hS hl; exact False.elim h
    | succ N ih => intro x1 S H locs ls h hP hD hS hl; exact B7  (itr (F := Int32 → St → Prop) (fun _ _ => False) (fun k7 x1 S => bX1_advance_7 k7 Q x1 S) N) ih x1 S H locs ls h  hP hD hS hl
  refine lv_aload_n C.1 C.2.1 dX1_advance_0 rfl (lv_at hl 0 rfl) ?_
  refine xg1_made C hinX1 hK hP (by decide +kernel) dX1_advance_1 ?_
  refine lv_iconst (v := 1) C.1 C.2.1 dX1_advance_4 (by decide) ?_
  refine lv_isub C.1 C.2.1 dX1_advance_5 ?_
  refine lv_topi (fun y13 ey13 => ?_)
  have h := h y13 ey13
  refine lv_istore_n (lv' := [(1, .int y13), (0, .ref (ad 5))]) C.1 C.2.1 dX1_advance_6 rfl hl (by decide) rfl (fun ls hl => ?_)
  obtain ⟨N, h⟩ := h
  exact L7 N y13 S H locs ls h hP hD hS (lv_sub hl [1, 0] rfl)
theorem mX1_advance (l : Launch) (g : va_G) (ct : Nat → ClassId) (ad : Nat → Nat) (n ro sz : Nat) (S : St) (Q : Int32 → St → Prop) (h : pX1_advance S Q) : Met l yX1_advance wsX1_advance ({ frames := 0, cells := 0, slots := 0, locals := 0 }) (gPc g (xT ct) (wX ct ad n ro S) sz [.ref (ad 5)]) (va_Qi Q (gB g (xT ct) (wX ct ad n ro) (va_A (wX ct ad n ro S) sz)) (va_A (wX ct ad n ro S) sz)) 0 0 (va_A (wX ct ad n ro S) sz) :=
  g_metZ (w := wX ct ad n ro) (cc := cX1_advance) (maxL := 2) (by decide) rfl rfl (Nat.le_of_ble_eq_true rfl) rfl (fun p e s m args below meth c QQ A C hK hN hA hret H locs ls hP hD hS hl => kX1_advance C hK hN hA (Nat.le_refl _) (Nat.le_refl _) Q hret  S h H locs ls hP hD hS hl)

def bX2_isIn_13 (Q : Int32 → Prop) (t0 : Int32) : Prop :=
  (zb t0 ∧ Q t0)
def pX2_isIn (x0 : Int32) (x1 : Int32) (Q : Int32 → Prop) : Prop :=
  ((((x0 >>> (x1 &&& 31)) &&& (1 : Int32)) = 0 → bX2_isIn_13 Q (0 : Int32)) ∧ (¬ (((x0 >>> (x1 &&& 31)) &&& (1 : Int32)) = 0) → bX2_isIn_13 Q (1 : Int32)))
set_option maxHeartbeats 40000000 in
set_option maxRecDepth 100000 in
theorem kX2_isIn {p : Program} {l : Launch} {e : Env} {R : Room} {s : State} {m : MethodId} {args : Array Value} {below : List Frame} {meth : Method} {c : Code} {QQ : State → Prop} {g : va_G} {tys : List (ClassId × FieldType)} {A : Nat → Prop} (C : CallFix p m c cX2_isIn 2 s args wsX2_isIn RX2) (hK : va_K g vwCl (tys) s) (hN : xN s) (hA : ∀ q, s.heap.size ≤ q → A q) (hRf : 0 ≤ R.frames) (hRl : 0 ≤ R.locals) (Q : Int32 → Prop) (hret : ∀ (pc : Nat) (r : Int32) (S : St) (H : Heap) (locs : List Loc) (ls : Array Slot), decode cX2_isIn pc = .ok (.ireturn, 1) → zb r → Q r → va_P g vwCl (w0 S) H → va_D A (w0 S) → va_S A s.heap H locs → W p l e R s m args below meth c H locs 0 0 QQ (F0 m pc ls [.int r])) (x0 : Int32) (x1 : Int32) (S : St) (h : pX2_isIn x0 x1 Q) (H : Heap) (locs : List Loc) (ls : Array Slot) (hP : va_P g vwCl (w0 S) H) (hD : va_D A (w0 S)) (hS : va_S A s.heap H locs) (hl : lv_has ls 2 [(0, .int x0), (1, .int x1)]) : W p l e R s m args below meth c H locs 0 0 QQ (F0 m 0 ls []) := by
  have B13 : ∀ (t0 : Int32) (S : St) (H : Heap) (locs : List Loc) (ls : Array Slot), bX2_isIn_13 Q t0 → va_P g vwCl (w0 S) H → va_D A (w0 S) → va_S A s.heap H locs → lv_has ls 2 [] → W p l e R s m args below meth c H locs 0 0 QQ (F0 m 13 ls [.int t0]) := by
    intro t0 S H locs ls h hP hD hS hl
    exact hret _ _ _ _ _ _ dX2_isIn_13 h.1 h.2 hP hD hS
  refine lv_iload_n C.1 C.2.1 dX2_isIn_0 rfl (lv_at hl 0 rfl) ?_
  refine lv_iload_n C.1 C.2.1 dX2_isIn_1 rfl (lv_at hl 1 rfl) ?_
  refine lv_ishr C.1 C.2.1 dX2_isIn_2 ?_
  refine lv_iconst (v := 1) C.1 C.2.1 dX2_isIn_3 (by decide) ?_
  refine lv_iand C.1 C.2.1 dX2_isIn_4 ?_
  refine lv_if_eq (tgt := 12) C.1 C.2.1 dX2_isIn_5 (by decide) (fun c1 => ?_) (fun c1 => ?_)
  · have h := h.1 c1
    refine lv_iconst (v := 0) C.1 C.2.1 dX2_isIn_12 (by decide) ?_
    exact B13 (0 : Int32) S H locs ls h hP hD hS (lv_sub hl [] rfl)
  · have h := h.2 c1
    refine lv_iconst (v := 1) C.1 C.2.1 dX2_isIn_8 (by decide) ?_
    refine lv_goto (tgt := 13) C.1 C.2.1 dX2_isIn_9 (by decide) ?_
    exact B13 (1 : Int32) S H locs ls h hP hD hS (lv_sub hl [] rfl)
theorem mX2_isIn (l : Launch) (g : va_G) (tys : List (ClassId × FieldType)) (S : St) (sz : Nat) (x0 : Int32) (x1 : Int32) (Q : Int32 → Prop) (h : pX2_isIn x0 x1 Q) : Met l yX2_isIn wsX2_isIn ({ frames := 0, cells := 0, slots := 0, locals := 0 }) (gPc g (tys) (w0 S) sz [.int x0, .int x1]) (va_Qi (fun r _ => Q r) (gB g (tys) (w0) (va_A (w0 S) sz)) (va_A (w0 S) sz)) 0 0 (va_A (w0 S) sz) :=
  g_metZ (w := w0) (Q := fun r _ => Q r) (cc := cX2_isIn) (maxL := 2) (by decide) rfl rfl (Nat.le_of_ble_eq_true rfl) rfl (fun p e s m args below meth c QQ A C hK hN hA hret H locs ls hP hD hS hl => kX2_isIn C hK hN hA (Nat.le_refl _) (Nat.le_refl _) Q hret x0 x1 S h H locs ls hP hD hS hl)

def bX2_sourceOf_45 (Q : Int32 → St → Prop) (t0 : Int32) (S : St) : Prop :=
  Q t0 S
def bX2_sourceOf_24 (Q : Int32 → St → Prop) (x1 : Nat) (t0 : Int32) (S : St) : Prop :=
  ((t0 = 0 → (vp_in (S.1 32 x1) 3 ∧ bX2_sourceOf_45 Q (S.1 28 (Int32.toNatClampNeg (S.1 32 x1))) S)) ∧ (¬ (t0 = 0) → bX2_sourceOf_45 Q (S.1 41 x1) S))
def bX2_sourceOf_23 (Q : Int32 → St → Prop) (x1 : Nat) (S : St) : Prop :=
  bX2_sourceOf_24 Q x1 (0 : Int32) S
def pX2_sourceOf (x1 : Nat) (x2 : Int32) (S : St) (Q : Int32 → St → Prop) : Prop :=
  (((S.1 41 x1) = (-1 : Int32) → bX2_sourceOf_23 Q x1 S) ∧ (¬ ((S.1 41 x1) = (-1 : Int32)) → pX2_isIn x2 (S.1 41 x1) (fun (r3 : Int32) => ((¬ r3 = 0 → bX2_sourceOf_23 Q x1 S) ∧ (r3 = 0 → bX2_sourceOf_24 Q x1 (1 : Int32) S)))))
set_option maxHeartbeats 40000000 in
set_option maxRecDepth 100000 in
theorem kX2_sourceOf {p : Program} {l : Launch} {e : Env} {R : Room} {s : State} {m : MethodId} {args : Array Value} {below : List Frame} {meth : Method} {c : Code} {QQ : State → Prop} {g : va_G} {ct : Nat → ClassId} {ad : Nat → Nat} {n ro : Nat} {A : Nat → Prop} (C : CallFix p m c cX2_sourceOf 4 s args wsX2_sourceOf RX2) (hK : va_K g vwCl (xT ct) s) (hN : xN s) (hA : ∀ q, s.heap.size ≤ q → A q) (hRf : 1 ≤ R.frames) (hRl : 21 ≤ R.locals) (Q : Int32 → St → Prop) (hret : ∀ (pc : Nat) (r : Int32) (S : St) (H : Heap) (locs : List Loc) (ls : Array Slot), decode cX2_sourceOf pc = .ok (.ireturn, 1) → Q r S → va_P g vwCl (wX ct ad n ro S) H → va_D A (wX ct ad n ro S) → va_S A s.heap H locs → W p l e R s m args below meth c H locs 0 0 QQ (F0 m pc ls [.int r])) (x1 : Nat) (x2 : Int32) (hx1 : x1 < 6) (S : St) (h : pX2_sourceOf x1 x2 S Q) (H : Heap) (locs : List Loc) (ls : Array Slot) (hP : va_P g vwCl (wX ct ad n ro S) H) (hD : va_D A (wX ct ad n ro S)) (hS : va_S A s.heap H locs) (hl : lv_has ls 4 [(0, .ref (ad 12)), (1, .ref (ad (20 + x1))), (2, .int x2)]) : W p l e R s m args below meth c H locs 0 0 QQ (F0 m 0 ls []) := by
  have hinX0 : ∀ w ∈ wsX00, w ∈ wsX2_sourceOf := by decide +kernel
  have hinX2 : ∀ w ∈ wsX20, w ∈ wsX2_sourceOf := by decide +kernel
  have B45 : ∀ (t0 : Int32) (S : St) (H : Heap) (locs : List Loc) (ls : Array Slot), bX2_sourceOf_45 Q t0 S → va_P g vwCl (wX ct ad n ro S) H → va_D A (wX ct ad n ro S) → va_S A s.heap H locs → lv_has ls 4 [(0, .ref (ad 12))] → W p l e R s m args below meth c H locs 0 0 QQ (F0 m 45 ls [.int t0]) := by
    intro t0 S H locs ls h hP hD hS hl
    exact hret _ _ _ _ _ _ dX2_sourceOf_45 h hP hD hS
  have B24 : ∀ (x1 : Nat) (t0 : Int32) (hx1 : x1 < 6) (S : St) (H : Heap) (locs : List Loc) (ls : Array Slot), bX2_sourceOf_24 Q x1 t0 S → va_P g vwCl (wX ct ad n ro S) H → va_D A (wX ct ad n ro S) → va_S A s.heap H locs → lv_has ls 4 [(0, .ref (ad 12)), (1, .ref (ad (20 + x1)))] → W p l e R s m args below meth c H locs 0 0 QQ (F0 m 24 ls [.int t0]) := by
    intro x1 t0 hx1 S H locs ls h hP hD hS hl
    refine lv_istore_n (lv' := [(3, .int t0), (0, .ref (ad 12)), (1, .ref (ad (20 + x1)))]) C.1 C.2.1 dX2_sourceOf_24 rfl hl (by decide) rfl (fun ls hl => ?_)
    refine lv_iload_n C.1 C.2.1 dX2_sourceOf_25 rfl (lv_at hl 0 rfl) ?_
    refine lv_if_eq (tgt := 36) C.1 C.2.1 dX2_sourceOf_26 (by decide) (fun c2 => ?_) (fun c2 => ?_)
    · have h := h.1 c2
      refine lv_aload_n C.1 C.2.1 dX2_sourceOf_36 rfl (lv_at hl 1 rfl) ?_
      refine xg2_latest C hinX2 hK hP (by decide +kernel) dX2_sourceOf_37 ?_
      refine lv_aload_n C.1 C.2.1 dX2_sourceOf_40 rfl (lv_at hl 2 rfl) ?_
      refine xg0_location hx1 C hinX0 hK hP (hN _ (by decide +kernel)) dX2_sourceOf_41 ?_
      obtain ⟨g1, h⟩ := h
      refine xa_2_latest C hK hP g1  rfl dX2_sourceOf_44 ?_
      exact B45 (S.1 28 (Int32.toNatClampNeg (S.1 32 x1))) S H locs ls h hP hD hS (lv_sub hl [1] rfl)
    · have h := h.2 c2
      refine lv_aload_n C.1 C.2.1 dX2_sourceOf_29 rfl (lv_at hl 2 rfl) ?_
      refine xg0_ownWrite hx1 C hinX0 hK hP (hN _ (by decide +kernel)) dX2_sourceOf_30 ?_
      refine lv_goto (tgt := 45) C.1 C.2.1 dX2_sourceOf_33 (by decide) ?_
      exact B45 (S.1 41 x1) S H locs ls h hP hD hS (lv_sub hl [1] rfl)
  have B23 : ∀ (x1 : Nat) (hx1 : x1 < 6) (S : St) (H : Heap) (locs : List Loc) (ls : Array Slot), bX2_sourceOf_23 Q x1 S → va_P g vwCl (wX ct ad n ro S) H → va_D A (wX ct ad n ro S) → va_S A s.heap H locs → lv_has ls 4 [(0, .ref (ad 12)), (1, .ref (ad (20 + x1)))] → W p l e R s m args below meth c H locs 0 0 QQ (F0 m 23 ls []) := by
    intro x1 hx1 S H locs ls h hP hD hS hl
    refine lv_iconst (v := 0) C.1 C.2.1 dX2_sourceOf_23 (by decide) ?_
    exact B24 x1 (0 : Int32) hx1 S H locs ls h hP hD hS (lv_sub hl [0, 1] rfl)
  refine lv_aload_n C.1 C.2.1 dX2_sourceOf_0 rfl (lv_at hl 1 rfl) ?_
  refine xg0_ownWrite hx1 C hinX0 hK hP (hN _ (by decide +kernel)) dX2_sourceOf_1 ?_
  refine lv_iconst (v := -1) C.1 C.2.1 dX2_sourceOf_4 (by decide) ?_
  refine lv_icmp_eq (tgt := 23) C.1 C.2.1 dX2_sourceOf_5 (by decide) (fun c5 => ?_) (fun c5 => ?_)
  · have h := h.1 c5
    exact B23 x1 hx1 S H locs ls h hP hD hS (lv_sub hl [0, 1] rfl)
  · have h := h.2 c5
    refine lv_iload_n C.1 C.2.1 dX2_sourceOf_8 rfl (lv_at hl 2 rfl) ?_
    refine lv_aload_n C.1 C.2.1 dX2_sourceOf_9 rfl (lv_at hl 1 rfl) ?_
    refine xg0_ownWrite hx1 C hinX0 hK hP (hN _ (by decide +kernel)) dX2_sourceOf_10 ?_
    refine g_callS (w := wX ct ad n ro) C hK hN hA hP hD hS (mX2_isIn l g (xT ct) S H.size x2 (S.1 41 x1) _ h) (va_cwS 2 C.2.2.2.2 gX2_sourceOf_X2_isIn rfl rfl rfl (by decide +kernel) ⟨Nat.le_trans (by decide) hRf, Nat.le_trans (by decide) hRl⟩) rfl hl.1 rfl (Nat.le_of_ble_eq_true rfl) dX2_sourceOf_13 ⟨Nat.zero_le _, Nat.zero_le _⟩ (fun r3 H locs h hP hD hS => ?_)
    refine lv_if_ne (tgt := 23) C.1 C.2.1 dX2_sourceOf_16 (by decide) (fun c4 => ?_) (fun c4 => ?_)
    · have h := h.1 c4
      exact B23 x1 hx1 S H locs ls h hP hD hS (lv_sub hl [0, 1] rfl)
    · have h := h.2 c4
      refine lv_iconst (v := 1) C.1 C.2.1 dX2_sourceOf_19 (by decide) ?_
      refine lv_goto (tgt := 24) C.1 C.2.1 dX2_sourceOf_20 (by decide) ?_
      exact B24 x1 (1 : Int32) hx1 S H locs ls h hP hD hS (lv_sub hl [0, 1] rfl)
theorem mX2_sourceOf (l : Launch) (g : va_G) (ct : Nat → ClassId) (ad : Nat → Nat) (n ro sz : Nat) (S : St) (x1 : Nat) (x2 : Int32) (hx1 : x1 < 6) (Q : Int32 → St → Prop) (h : pX2_sourceOf x1 x2 S Q) : Met l yX2_sourceOf wsX2_sourceOf ({ frames := 1, cells := 0, slots := 0, locals := 21 }) (gPc g (xT ct) (wX ct ad n ro S) sz [.ref (ad 12), .ref (ad (20 + x1)), .int x2]) (va_Qi Q (gB g (xT ct) (wX ct ad n ro) (va_A (wX ct ad n ro S) sz)) (va_A (wX ct ad n ro S) sz)) 0 0 (va_A (wX ct ad n ro S) sz) :=
  g_metI (w := wX ct ad n ro) (cc := cX2_sourceOf) (maxL := 4) (by decide) rfl rfl (Nat.le_of_ble_eq_true rfl) rfl (fun p e s m args below meth c QQ A C hK hN hA hret H locs ls hP hD hS hl => kX2_sourceOf C hK hN hA (Nat.le_refl _) (Nat.le_refl _) Q hret x1 x2 hx1 S h H locs ls hP hD hS hl)

def pX5_accessAt (x1 : Int32) (S : St) (Q : Nat → St → Prop) : Prop :=
  (vp_in x1 6 ∧ ∀ i1 : Nat, i1 = Int32.toNatClampNeg x1 → Q i1 S)
set_option maxHeartbeats 40000000 in
set_option maxRecDepth 100000 in
theorem kX5_accessAt {p : Program} {l : Launch} {e : Env} {R : Room} {s : State} {m : MethodId} {args : Array Value} {below : List Frame} {meth : Method} {c : Code} {QQ : State → Prop} {g : va_G} {ct : Nat → ClassId} {ad : Nat → Nat} {n ro : Nat} {A : Nat → Prop} (C : CallFix p m c cX5_accessAt 2 s args wsX5_accessAt RX5) (hK : va_K g vwCl (xT ct) s) (hN : xN s) (hA : ∀ q, s.heap.size ≤ q → A q) (hRf : 0 ≤ R.frames) (hRl : 0 ≤ R.locals) (Q : Nat → St → Prop) (hret : ∀ (pc : Nat) (r : Nat) (S : St) (H : Heap) (locs : List Loc) (ls : Array Slot), decode cX5_accessAt pc = .ok (.areturn, 1) → r < 6 → Q r S → va_P g vwCl (wX ct ad n ro S) H → va_D A (wX ct ad n ro S) → va_S A s.heap H locs → W p l e R s m args below meth c H locs 0 0 QQ (F0 m pc ls [.ref (ad (20 + r))])) (x1 : Int32) (S : St) (h : pX5_accessAt x1 S Q) (H : Heap) (locs : List Loc) (ls : Array Slot) (hP : va_P g vwCl (wX ct ad n ro S) H) (hD : va_D A (wX ct ad n ro S)) (hS : va_S A s.heap H locs) (hl : lv_has ls 2 [(0, .ref (ad 8)), (1, .int x1)]) : W p l e R s m args below meth c H locs 0 0 QQ (F0 m 0 ls []) := by
  have hinX5 : ∀ w ∈ wsX50, w ∈ wsX5_accessAt := by decide +kernel
  refine lv_aload_n C.1 C.2.1 dX5_accessAt_0 rfl (lv_at hl 0 rfl) ?_
  refine xg5_accesses C hinX5 hK hP (by decide +kernel) dX5_accessAt_1 ?_
  refine lv_iload_n C.1 C.2.1 dX5_accessAt_4 rfl (lv_at hl 1 rfl) ?_
  obtain ⟨g2, h⟩ := h
  obtain ⟨i1, ei1⟩ : ∃ z : Nat, z = Int32.toNatClampNeg x1 := ⟨_, rfl⟩
  have h := h i1 ei1
  have hi1 : i1 < 6 := by rw [ei1]; exact lt_in g2
  refine xq_acc C hK hP g2 ei1 dX5_accessAt_5 ?_
  exact hret _ _ _ _ _ _ dX5_accessAt_6 hi1 h hP hD hS
theorem mX5_accessAt (l : Launch) (g : va_G) (ct : Nat → ClassId) (ad : Nat → Nat) (n ro sz : Nat) (S : St) (x1 : Int32) (Q : Nat → St → Prop) (h : pX5_accessAt x1 S Q) : Met l yX5_accessAt wsX5_accessAt ({ frames := 0, cells := 0, slots := 0, locals := 0 }) (gPc g (xT ct) (wX ct ad n ro S) sz [.ref (ad 8), .int x1]) (va_Qr (fun u : Nat × St => u.1 < 6 ∧ Q u.1 u.2) (fun u a t => a = ad (20 + u.1) ∧ gB g (xT ct) (wX ct ad n ro) (va_A (wX ct ad n ro S) sz) u.2 t) (va_A (wX ct ad n ro S) sz)) 0 0 (va_A (wX ct ad n ro S) sz) :=
  g_metR (ad := ad) 20 6 (Or.inl ⟨_, rfl⟩) (w := wX ct ad n ro) (cc := cX5_accessAt) (maxL := 2) (by decide) rfl rfl (Nat.le_of_ble_eq_true rfl) rfl (fun p e s m args below meth c QQ A C hK hN hA hret H locs ls hP hD hS hl => kX5_accessAt C hK hN hA (Nat.le_refl _) (Nat.le_refl _) Q hret x1 S h H locs ls hP hD hS hl)

def bX2_mayForward_13 (Q : Int32 → St → Prop) (S : St) : Prop :=
  Q (1 : Int32) S
def bX2_mayForward_53 (Q : Int32 → St → Prop) (t0 : Int32) (S : St) : Prop :=
  (zb t0 ∧ Q t0 S)
def bX2_mayForward_52 (Q : Int32 → St → Prop) (S : St) : Prop :=
  bX2_mayForward_53 Q (0 : Int32) S
def pX2_mayForward (x1 : Int32) (x2 : Int32) (S : St) (Q : Int32 → St → Prop) : Prop :=
  ((x1 = (-1 : Int32) → bX2_mayForward_13 Q  S) ∧ (¬ (x1 = (-1 : Int32)) → pX2_isIn x2 x1 (fun (r1 : Int32) => ((r1 = 0 → pX5_accessAt x1 S (fun (i3 : Nat) (S2 : St) => ((¬ (S2.1 31 i3) = (1 : Int32) → bX2_mayForward_52 Q  S2) ∧ ((S2.1 31 i3) = (1 : Int32) → ((¬ (((S2.1 38 i3) ||| (S2.1 39 i3)) &&& (x2 ^^^ (-1 : Int32))) = 0 → bX2_mayForward_52 Q  S2) ∧ ((((S2.1 38 i3) ||| (S2.1 39 i3)) &&& (x2 ^^^ (-1 : Int32))) = 0 → bX2_mayForward_53 Q (1 : Int32) S2)))))) ∧ (¬ (r1 = 0) → bX2_mayForward_13 Q  S)))))
set_option maxHeartbeats 40000000 in
set_option maxRecDepth 100000 in
theorem kX2_mayForward {p : Program} {l : Launch} {e : Env} {R : Room} {s : State} {m : MethodId} {args : Array Value} {below : List Frame} {meth : Method} {c : Code} {QQ : State → Prop} {g : va_G} {ct : Nat → ClassId} {ad : Nat → Nat} {n ro : Nat} {A : Nat → Prop} (C : CallFix p m c cX2_mayForward 4 s args wsX2_mayForward RX2) (hK : va_K g vwCl (xT ct) s) (hN : xN s) (hA : ∀ q, s.heap.size ≤ q → A q) (hRf : 1 ≤ R.frames) (hRl : 21 ≤ R.locals) (Q : Int32 → St → Prop) (hret : ∀ (pc : Nat) (r : Int32) (S : St) (H : Heap) (locs : List Loc) (ls : Array Slot), decode cX2_mayForward pc = .ok (.ireturn, 1) → zb r → Q r S → va_P g vwCl (wX ct ad n ro S) H → va_D A (wX ct ad n ro S) → va_S A s.heap H locs → W p l e R s m args below meth c H locs 0 0 QQ (F0 m pc ls [.int r])) (x1 : Int32) (x2 : Int32) (S : St) (h : pX2_mayForward x1 x2 S Q) (H : Heap) (locs : List Loc) (ls : Array Slot) (hP : va_P g vwCl (wX ct ad n ro S) H) (hD : va_D A (wX ct ad n ro S)) (hS : va_S A s.heap H locs) (hl : lv_has ls 4 [(0, .ref (ad 12)), (1, .int x1), (2, .int x2)]) : W p l e R s m args below meth c H locs 0 0 QQ (F0 m 0 ls []) := by
  have hinX0 : ∀ w ∈ wsX00, w ∈ wsX2_mayForward := by decide +kernel
  have hinX2 : ∀ w ∈ wsX20, w ∈ wsX2_mayForward := by decide +kernel
  have B13 : ∀ (S : St) (H : Heap) (locs : List Loc) (ls : Array Slot), bX2_mayForward_13 Q S → va_P g vwCl (wX ct ad n ro S) H → va_D A (wX ct ad n ro S) → va_S A s.heap H locs → lv_has ls 4 [(0, .ref (ad 12))] → W p l e R s m args below meth c H locs 0 0 QQ (F0 m 13 ls []) := by
    intro S H locs ls h hP hD hS hl
    refine lv_iconst (v := 1) C.1 C.2.1 dX2_mayForward_13 (by decide) ?_
    exact hret _ _ _ _ _ _ dX2_mayForward_14 zb_1 h hP hD hS
  have B53 : ∀ (t0 : Int32) (S : St) (H : Heap) (locs : List Loc) (ls : Array Slot), bX2_mayForward_53 Q t0 S → va_P g vwCl (wX ct ad n ro S) H → va_D A (wX ct ad n ro S) → va_S A s.heap H locs → lv_has ls 4 [(0, .ref (ad 12))] → W p l e R s m args below meth c H locs 0 0 QQ (F0 m 53 ls [.int t0]) := by
    intro t0 S H locs ls h hP hD hS hl
    exact hret _ _ _ _ _ _ dX2_mayForward_53 h.1 h.2 hP hD hS
  have B52 : ∀ (S : St) (H : Heap) (locs : List Loc) (ls : Array Slot), bX2_mayForward_52 Q S → va_P g vwCl (wX ct ad n ro S) H → va_D A (wX ct ad n ro S) → va_S A s.heap H locs → lv_has ls 4 [(0, .ref (ad 12))] → W p l e R s m args below meth c H locs 0 0 QQ (F0 m 52 ls []) := by
    intro S H locs ls h hP hD hS hl
    refine lv_iconst (v := 0) C.1 C.2.1 dX2_mayForward_52 (by decide) ?_
    exact B53 (0 : Int32) S H locs ls h hP hD hS (lv_sub hl [0] rfl)
  refine lv_iload_n C.1 C.2.1 dX2_mayForward_0 rfl (lv_at hl 1 rfl) ?_
  refine lv_iconst (v := -1) C.1 C.2.1 dX2_mayForward_1 (by decide) ?_
  refine lv_icmp_eq (tgt := 13) C.1 C.2.1 dX2_mayForward_2 (by decide) (fun c7 => ?_) (fun c7 => ?_)
  · have h := h.1 c7
    exact B13  S H locs ls h hP hD hS (lv_sub hl [0] rfl)
  · have h := h.2 c7
    refine lv_iload_n C.1 C.2.1 dX2_mayForward_5 rfl (lv_at hl 2 rfl) ?_
    refine lv_iload_n C.1 C.2.1 dX2_mayForward_6 rfl (lv_at hl 1 rfl) ?_
    refine g_callS (w := wX ct ad n ro) C hK hN hA hP hD hS (mX2_isIn l g (xT ct) S H.size x2 x1 _ h) (va_cwS 2 C.2.2.2.2 gX2_mayForward_X2_isIn rfl rfl rfl (by decide +kernel) ⟨Nat.le_trans (by decide) hRf, Nat.le_trans (by decide) hRl⟩) rfl hl.1 rfl (Nat.le_of_ble_eq_true rfl) dX2_mayForward_7 ⟨Nat.zero_le _, Nat.zero_le _⟩ (fun r1 H locs h hP hD hS => ?_)
    refine lv_if_eq (tgt := 15) C.1 C.2.1 dX2_mayForward_10 (by decide) (fun c6 => ?_) (fun c6 => ?_)
    · have h := h.1 c6
      refine lv_aload_n C.1 C.2.1 dX2_mayForward_15 rfl (lv_at hl 0 rfl) ?_
      refine xg2_way C hinX2 hK hP (by decide +kernel) dX2_mayForward_16 ?_
      refine lv_iload_n C.1 C.2.1 dX2_mayForward_19 rfl (lv_at hl 1 rfl) ?_
      refine g_callVr (w := wX ct ad n ro) C hK hN hA hP hD hS (mX5_accessAt l g ct ad n ro H.size S x1  _ h) (cwV 1 C.2.2.2.2 gX2_mayForward_X5_accessAt rfl rfl rfl (by decide +kernel) ⟨Nat.le_trans (by decide) hRf, Nat.le_trans (by decide) hRl⟩) (va_recv hK hP (ci := 5) (q0 := 8) rfl rfl) rfl hl.1 rfl (Nat.le_of_ble_eq_true rfl) dX2_mayForward_20 ⟨Nat.zero_le _, Nat.zero_le _⟩ (fun i3 S2 H locs hi3 h hP hD hS => ?_)
      refine lv_astore_n (lv' := [(3, .ref (ad (20 + i3))), (0, .ref (ad 12)), (1, .int x1), (2, .int x2)]) C.1 C.2.1 dX2_mayForward_23 rfl hl (by decide) rfl (fun ls hl => ?_)
      refine lv_aload_n C.1 C.2.1 dX2_mayForward_24 rfl (lv_at hl 0 rfl) ?_
      refine xg0_kind hi3 C hinX0 hK hP (hN _ (by decide +kernel)) dX2_mayForward_25 ?_
      refine lv_iconst (v := 1) C.1 C.2.1 dX2_mayForward_28 (by decide) ?_
      refine lv_icmp_ne (tgt := 52) C.1 C.2.1 dX2_mayForward_29 (by decide) (fun c5 => ?_) (fun c5 => ?_)
      · have h := h.1 c5
        exact B52  S2 H locs ls h hP hD hS (lv_sub hl [1] rfl)
      · have h := h.2 c5
        refine lv_aload_n C.1 C.2.1 dX2_mayForward_32 rfl (lv_at hl 0 rfl) ?_
        refine xg0_byPlace hi3 C hinX0 hK hP (hN _ (by decide +kernel)) dX2_mayForward_33 ?_
        refine lv_aload_n C.1 C.2.1 dX2_mayForward_36 rfl (lv_at hl 0 rfl) ?_
        refine xg0_byValue hi3 C hinX0 hK hP (hN _ (by decide +kernel)) dX2_mayForward_37 ?_
        refine lv_ior C.1 C.2.1 dX2_mayForward_40 ?_
        refine lv_iload_n C.1 C.2.1 dX2_mayForward_41 rfl (lv_at hl 3 rfl) ?_
        refine lv_iconst (v := -1) C.1 C.2.1 dX2_mayForward_42 (by decide) ?_
        refine lv_ixor C.1 C.2.1 dX2_mayForward_43 ?_
        refine lv_iand C.1 C.2.1 dX2_mayForward_44 ?_
        refine lv_if_ne (tgt := 52) C.1 C.2.1 dX2_mayForward_45 (by decide) (fun c4 => ?_) (fun c4 => ?_)
        · have h := h.1 c4
          exact B52  S2 H locs ls h hP hD hS (lv_sub hl [1] rfl)
        · have h := h.2 c4
          refine lv_iconst (v := 1) C.1 C.2.1 dX2_mayForward_48 (by decide) ?_
          refine lv_goto (tgt := 53) C.1 C.2.1 dX2_mayForward_49 (by decide) ?_
          exact B53 (1 : Int32) S2 H locs ls h hP hD hS (lv_sub hl [1] rfl)
    · have h := h.2 c6
      exact B13  S H locs ls h hP hD hS (lv_sub hl [0] rfl)
theorem mX2_mayForward (l : Launch) (g : va_G) (ct : Nat → ClassId) (ad : Nat → Nat) (n ro sz : Nat) (S : St) (x1 : Int32) (x2 : Int32) (Q : Int32 → St → Prop) (h : pX2_mayForward x1 x2 S Q) : Met l yX2_mayForward wsX2_mayForward ({ frames := 1, cells := 0, slots := 0, locals := 21 }) (gPc g (xT ct) (wX ct ad n ro S) sz [.ref (ad 12), .int x1, .int x2]) (va_Qi Q (gB g (xT ct) (wX ct ad n ro) (va_A (wX ct ad n ro S) sz)) (va_A (wX ct ad n ro S) sz)) 0 0 (va_A (wX ct ad n ro S) sz) :=
  g_metZ (w := wX ct ad n ro) (cc := cX2_mayForward) (maxL := 4) (by decide) rfl rfl (Nat.le_of_ble_eq_true rfl) rfl (fun p e s m args below meth c QQ A C hK hN hA hret H locs ls hP hD hS hl => kX2_mayForward C hK hN hA (Nat.le_refl _) (Nat.le_refl _) Q hret x1 x2 S h H locs ls hP hD hS hl)

def pX5_size (S : St) (Q : Int32 → St → Prop) : Prop :=
  Q (S.1 7 0) S
set_option maxHeartbeats 40000000 in
set_option maxRecDepth 100000 in
theorem kX5_size {p : Program} {l : Launch} {e : Env} {R : Room} {s : State} {m : MethodId} {args : Array Value} {below : List Frame} {meth : Method} {c : Code} {QQ : State → Prop} {g : va_G} {ct : Nat → ClassId} {ad : Nat → Nat} {n ro : Nat} {A : Nat → Prop} (C : CallFix p m c cX5_size 1 s args wsX5_size RX5) (hK : va_K g vwCl (xT ct) s) (hN : xN s) (hA : ∀ q, s.heap.size ≤ q → A q) (hRf : 0 ≤ R.frames) (hRl : 0 ≤ R.locals) (Q : Int32 → St → Prop) (hret : ∀ (pc : Nat) (r : Int32) (S : St) (H : Heap) (locs : List Loc) (ls : Array Slot), decode cX5_size pc = .ok (.ireturn, 1) → Q r S → va_P g vwCl (wX ct ad n ro S) H → va_D A (wX ct ad n ro S) → va_S A s.heap H locs → W p l e R s m args below meth c H locs 0 0 QQ (F0 m pc ls [.int r])) (S : St) (h : pX5_size S Q) (H : Heap) (locs : List Loc) (ls : Array Slot) (hP : va_P g vwCl (wX ct ad n ro S) H) (hD : va_D A (wX ct ad n ro S)) (hS : va_S A s.heap H locs) (hl : lv_has ls 1 [(0, .ref (ad 8))]) : W p l e R s m args below meth c H locs 0 0 QQ (F0 m 0 ls []) := by
  have hinX5 : ∀ w ∈ wsX50, w ∈ wsX5_size := by decide +kernel
  refine lv_aload_n C.1 C.2.1 dX5_size_0 rfl (lv_at hl 0 rfl) ?_
  refine xg5_size C hinX5 hK hP (by decide +kernel) dX5_size_1 ?_
  exact hret _ _ _ _ _ _ dX5_size_4 h hP hD hS
theorem mX5_size (l : Launch) (g : va_G) (ct : Nat → ClassId) (ad : Nat → Nat) (n ro sz : Nat) (S : St) (Q : Int32 → St → Prop) (h : pX5_size S Q) : Met l yX5_size wsX5_size ({ frames := 0, cells := 0, slots := 0, locals := 0 }) (gPc g (xT ct) (wX ct ad n ro S) sz [.ref (ad 8)]) (va_Qi Q (gB g (xT ct) (wX ct ad n ro) (va_A (wX ct ad n ro S) sz)) (va_A (wX ct ad n ro S) sz)) 0 0 (va_A (wX ct ad n ro S) sz) :=
  g_metI (w := wX ct ad n ro) (cc := cX5_size) (maxL := 1) (by decide) rfl rfl (Nat.le_of_ble_eq_true rfl) rfl (fun p e s m args below meth c QQ A C hK hN hA hret H locs ls hP hD hS hl => kX5_size C hK hN hA (Nat.le_refl _) (Nat.le_refl _) Q hret  S h H locs ls hP hD hS hl)

def bX2_agreesWithTwins_58 (k4 : Int32 → Int32 → Int32 → St → Prop) (Q : Int32 → St → Prop) (x1 : Int32) (x2 : Int32) (x3 : Int32) (S : St) : Prop :=
  (∀ y1 : Int32, y1 = x3 + (1 : Int32) → k4 x1 x2 y1 S)
def bX2_agreesWithTwins_4 (k4 : Int32 → Int32 → Int32 → St → Prop) (Q : Int32 → St → Prop) (x1 : Int32) (x2 : Int32) (x3 : Int32) (S : St) : Prop :=
  pX5_size S (fun (r3 : Int32) (S2 : St) => ((r3 ≤ x3 → Q (1 : Int32) S2) ∧ (¬ (r3 ≤ x3) → pX2_isIn x2 x3 (fun (r4 : Int32) => ((r4 = 0 → bX2_agreesWithTwins_58 k4 Q x1 x2 x3 S2) ∧ (¬ (r4 = 0) → pX5_accessAt x3 S2 (fun (i6 : Nat) (S5 : St) => pX2_isIn (S5.1 42 i6) x1 (fun (r7 : Int32) => ((r7 = 0 → bX2_agreesWithTwins_58 k4 Q x1 x2 x3 S5) ∧ (¬ (r7 = 0) → (vp_in x3 6 ∧ (vp_in x1 6 ∧ (((S5.1 27 (Int32.toNatClampNeg x3)) = (S5.1 27 (Int32.toNatClampNeg x1)) → bX2_agreesWithTwins_58 k4 Q x1 x2 x3 S5) ∧ (¬ ((S5.1 27 (Int32.toNatClampNeg x3)) = (S5.1 27 (Int32.toNatClampNeg x1))) → Q (0 : Int32) S5))))))))))))))
def pX2_agreesWithTwins (x1 : Int32) (x2 : Int32) (S : St) (Q : Int32 → St → Prop) : Prop :=
  (∀ y14 : Int32, y14 = (x1 + (1 : Int32)) → (∃ N : Nat, itr (F := Int32 → Int32 → Int32 → St → Prop) (fun _ _ _ _ => False) (fun k4 x1 x2 x3 S => bX2_agreesWithTwins_4 k4 Q x1 x2 x3 S) N x1 x2 y14 S))
set_option maxHeartbeats 40000000 in
set_option maxRecDepth 100000 in
theorem kX2_agreesWithTwins {p : Program} {l : Launch} {e : Env} {R : Room} {s : State} {m : MethodId} {args : Array Value} {below : List Frame} {meth : Method} {c : Code} {QQ : State → Prop} {g : va_G} {ct : Nat → ClassId} {ad : Nat → Nat} {n ro : Nat} {A : Nat → Prop} (C : CallFix p m c cX2_agreesWithTwins 4 s args wsX2_agreesWithTwins RX2) (hK : va_K g vwCl (xT ct) s) (hN : xN s) (hA : ∀ q, s.heap.size ≤ q → A q) (hRf : 1 ≤ R.frames) (hRl : 21 ≤ R.locals) (Q : Int32 → St → Prop) (hret : ∀ (pc : Nat) (r : Int32) (S : St) (H : Heap) (locs : List Loc) (ls : Array Slot), decode cX2_agreesWithTwins pc = .ok (.ireturn, 1) → zb r → Q r S → va_P g vwCl (wX ct ad n ro S) H → va_D A (wX ct ad n ro S) → va_S A s.heap H locs → W p l e R s m args below meth c H locs 0 0 QQ (F0 m pc ls [.int r])) (x1 : Int32) (x2 : Int32) (S : St) (h : pX2_agreesWithTwins x1 x2 S Q) (H : Heap) (locs : List Loc) (ls : Array Slot) (hP : va_P g vwCl (wX ct ad n ro S) H) (hD : va_D A (wX ct ad n ro S)) (hS : va_S A s.heap H locs) (hl : lv_has ls 4 [(0, .ref (ad 12)), (1, .int x1), (2, .int x2)]) : W p l e R s m args below meth c H locs 0 0 QQ (F0 m 0 ls []) := by
  have hinX0 : ∀ w ∈ wsX00, w ∈ wsX2_agreesWithTwins := by decide +kernel
  have hinX2 : ∀ w ∈ wsX20, w ∈ wsX2_agreesWithTwins := by decide +kernel
  have B58 : ∀ (k4 : Int32 → Int32 → Int32 → St → Prop) (hk4 : ∀ (x1 : Int32) (x2 : Int32) (x3 : Int32) (S : St) (H : Heap) (locs : List Loc) (ls : Array Slot), k4 x1 x2 x3 S → va_P g vwCl (wX ct ad n ro S) H → va_D A (wX ct ad n ro S) → va_S A s.heap H locs → lv_has ls 4 [(0, .ref (ad 12)), (1, .int x1), (2, .int x2), (3, .int x3)] → W p l e R s m args below meth c H locs 0 0 QQ (F0 m 4 ls [])) (x1 : Int32) (x2 : Int32) (x3 : Int32) (S : St) (H : Heap) (locs : List Loc) (ls : Array Slot), bX2_agreesWithTwins_58 k4 Q x1 x2 x3 S → va_P g vwCl (wX ct ad n ro S) H → va_D A (wX ct ad n ro S) → va_S A s.heap H locs → lv_has ls 4 [(0, .ref (ad 12)), (1, .int x1), (2, .int x2), (3, .int x3)] → W p l e R s m args below meth c H locs 0 0 QQ (F0 m 58 ls []) := by
    intro k4 hk4 x1 x2 x3 S H locs ls h hP hD hS hl
    obtain ⟨y1, ey1⟩ : ∃ z : Int32, z = x3 + (1 : Int32) := ⟨_, rfl⟩
    have h := h y1 ey1
    refine lv_iinc (v := y1) (lv' := [(3, .int y1), (0, .ref (ad 12)), (1, .int x1), (2, .int x2)]) C.1 C.2.1 dX2_agreesWithTwins_58 hl (k := 3) rfl (by rw [ey1]; rfl) (by decide) rfl (fun ls hl => ?_)
    refine lv_goto (tgt := 4) C.1 C.2.1 dX2_agreesWithTwins_61 (by decide) ?_
    exact hk4 x1 x2 y1 S H locs ls h hP hD hS (lv_sub hl [1, 2, 3, 0] rfl)
  have B4 : ∀ (k4 : Int32 → Int32 → Int32 → St → Prop) (hk4 : ∀ (x1 : Int32) (x2 : Int32) (x3 : Int32) (S : St) (H : Heap) (locs : List Loc) (ls : Array Slot), k4 x1 x2 x3 S → va_P g vwCl (wX ct ad n ro S) H → va_D A (wX ct ad n ro S) → va_S A s.heap H locs → lv_has ls 4 [(0, .ref (ad 12)), (1, .int x1), (2, .int x2), (3, .int x3)] → W p l e R s m args below meth c H locs 0 0 QQ (F0 m 4 ls [])) (x1 : Int32) (x2 : Int32) (x3 : Int32) (S : St) (H : Heap) (locs : List Loc) (ls : Array Slot), bX2_agreesWithTwins_4 k4 Q x1 x2 x3 S → va_P g vwCl (wX ct ad n ro S) H → va_D A (wX ct ad n ro S) → va_S A s.heap H locs → lv_has ls 4 [(0, .ref (ad 12)), (1, .int x1), (2, .int x2), (3, .int x3)] → W p l e R s m args below meth c H locs 0 0 QQ (F0 m 4 ls []) := by
    intro k4 hk4 x1 x2 x3 S H locs ls h hP hD hS hl
    refine lv_iload_n C.1 C.2.1 dX2_agreesWithTwins_4 rfl (lv_at hl 3 rfl) ?_
    refine lv_aload_n C.1 C.2.1 dX2_agreesWithTwins_5 rfl (lv_at hl 0 rfl) ?_
    refine xg2_way C hinX2 hK hP (by decide +kernel) dX2_agreesWithTwins_6 ?_
    refine g_callVi (w := wX ct ad n ro) C hK hN hA hP hD hS (mX5_size l g ct ad n ro H.size S   _ h) (cwV 0 C.2.2.2.2 gX2_agreesWithTwins_X5_size rfl rfl rfl (by decide +kernel) ⟨Nat.le_trans (by decide) hRf, Nat.le_trans (by decide) hRl⟩) (va_recv hK hP (ci := 5) (q0 := 8) rfl rfl) rfl hl.1 rfl (Nat.le_of_ble_eq_true rfl) dX2_agreesWithTwins_9 ⟨Nat.zero_le _, Nat.zero_le _⟩ (fun r3 S2 H locs h hP hD hS => ?_)
    refine lv_icmp_ge (tgt := 64) C.1 C.2.1 dX2_agreesWithTwins_12 (by decide) (fun c13 => ?_) (fun c13 => ?_)
    · have h := h.1 c13
      refine lv_iconst (v := 1) C.1 C.2.1 dX2_agreesWithTwins_64 (by decide) ?_
      exact hret _ _ _ _ _ _ dX2_agreesWithTwins_65 zb_1 h hP hD hS
    · have h := h.2 c13
      refine lv_iload_n C.1 C.2.1 dX2_agreesWithTwins_15 rfl (lv_at hl 2 rfl) ?_
      refine lv_iload_n C.1 C.2.1 dX2_agreesWithTwins_16 rfl (lv_at hl 3 rfl) ?_
      refine g_callS (w := wX ct ad n ro) C hK hN hA hP hD hS (mX2_isIn l g (xT ct) S2 H.size x2 x3 _ h) (va_cwS 2 C.2.2.2.2 gX2_agreesWithTwins_X2_isIn rfl rfl rfl (by decide +kernel) ⟨Nat.le_trans (by decide) hRf, Nat.le_trans (by decide) hRl⟩) rfl hl.1 rfl (Nat.le_of_ble_eq_true rfl) dX2_agreesWithTwins_17 ⟨Nat.zero_le _, Nat.zero_le _⟩ (fun r4 H locs h hP hD hS => ?_)
      refine lv_if_eq (tgt := 58) C.1 C.2.1 dX2_agreesWithTwins_20 (by decide) (fun c12 => ?_) (fun c12 => ?_)
      · have h := h.1 c12
        exact B58 k4 hk4 x1 x2 x3 S2 H locs ls h hP hD hS (lv_sub hl [0, 1, 2, 3] rfl)
      · have h := h.2 c12
        refine lv_aload_n C.1 C.2.1 dX2_agreesWithTwins_23 rfl (lv_at hl 0 rfl) ?_
        refine xg2_way C hinX2 hK hP (by decide +kernel) dX2_agreesWithTwins_24 ?_
        refine lv_iload_n C.1 C.2.1 dX2_agreesWithTwins_27 rfl (lv_at hl 3 rfl) ?_
        refine g_callVr (w := wX ct ad n ro) C hK hN hA hP hD hS (mX5_accessAt l g ct ad n ro H.size S2 x3  _ h) (cwV 1 C.2.2.2.2 gX2_agreesWithTwins_X5_accessAt rfl rfl rfl (by decide +kernel) ⟨Nat.le_trans (by decide) hRf, Nat.le_trans (by decide) hRl⟩) (va_recv hK hP (ci := 5) (q0 := 8) rfl rfl) rfl hl.1 rfl (Nat.le_of_ble_eq_true rfl) dX2_agreesWithTwins_28 ⟨Nat.zero_le _, Nat.zero_le _⟩ (fun i6 S5 H locs hi6 h hP hD hS => ?_)
        refine xg0_twins hi6 C hinX0 hK hP (hN _ (by decide +kernel)) dX2_agreesWithTwins_31 ?_
        refine lv_iload_n C.1 C.2.1 dX2_agreesWithTwins_34 rfl (lv_at hl 1 rfl) ?_
        refine g_callS (w := wX ct ad n ro) C hK hN hA hP hD hS (mX2_isIn l g (xT ct) S5 H.size (S5.1 42 i6) x1 _ h) (va_cwS 2 C.2.2.2.2 gX2_agreesWithTwins_X2_isIn rfl rfl rfl (by decide +kernel) ⟨Nat.le_trans (by decide) hRf, Nat.le_trans (by decide) hRl⟩) rfl hl.1 rfl (Nat.le_of_ble_eq_true rfl) dX2_agreesWithTwins_35 ⟨Nat.zero_le _, Nat.zero_le _⟩ (fun r7 H locs h hP hD hS => ?_)
        refine lv_if_eq (tgt := 58) C.1 C.2.1 dX2_agreesWithTwins_38 (by decide) (fun c11 => ?_) (fun c11 => ?_)
        · have h := h.1 c11
          exact B58 k4 hk4 x1 x2 x3 S5 H locs ls h hP hD hS (lv_sub hl [0, 1, 2, 3] rfl)
        · have h := h.2 c11
          refine lv_aload_n C.1 C.2.1 dX2_agreesWithTwins_41 rfl (lv_at hl 0 rfl) ?_
          refine xg2_sources C hinX2 hK hP (by decide +kernel) dX2_agreesWithTwins_42 ?_
          refine lv_iload_n C.1 C.2.1 dX2_agreesWithTwins_45 rfl (lv_at hl 3 rfl) ?_
          obtain ⟨g8, h⟩ := h
          refine xa_2_sources C hK hP g8  rfl dX2_agreesWithTwins_46 ?_
          refine lv_aload_n C.1 C.2.1 dX2_agreesWithTwins_47 rfl (lv_at hl 0 rfl) ?_
          refine xg2_sources C hinX2 hK hP (by decide +kernel) dX2_agreesWithTwins_48 ?_
          refine lv_iload_n C.1 C.2.1 dX2_agreesWithTwins_51 rfl (lv_at hl 1 rfl) ?_
          obtain ⟨g9, h⟩ := h
          refine xa_2_sources C hK hP g9  rfl dX2_agreesWithTwins_52 ?_
          refine lv_icmp_eq (tgt := 58) C.1 C.2.1 dX2_agreesWithTwins_53 (by decide) (fun c10 => ?_) (fun c10 => ?_)
          · have h := h.1 c10
            exact B58 k4 hk4 x1 x2 x3 S5 H locs ls h hP hD hS (lv_sub hl [0, 1, 2, 3] rfl)
          · have h := h.2 c10
            refine lv_iconst (v := 0) C.1 C.2.1 dX2_agreesWithTwins_56 (by decide) ?_
            exact hret _ _ _ _ _ _ dX2_agreesWithTwins_57 zb_0 h hP hD hS
  have L4 : ∀ (N : Nat) (x1 : Int32) (x2 : Int32) (x3 : Int32) (S : St) (H : Heap) (locs : List Loc) (ls : Array Slot), itr (F := Int32 → Int32 → Int32 → St → Prop) (fun _ _ _ _ => False) (fun k4 x1 x2 x3 S => bX2_agreesWithTwins_4 k4 Q x1 x2 x3 S) N x1 x2 x3 S → va_P g vwCl (wX ct ad n ro S) H → va_D A (wX ct ad n ro S) → va_S A s.heap H locs → lv_has ls 4 [(0, .ref (ad 12)), (1, .int x1), (2, .int x2), (3, .int x3)] → W p l e R s m args below meth c H locs 0 0 QQ (F0 m 4 ls []) := by
    intro N
    induction N with
    | zero => intro x1 x2 x3 S H locs ls h hP hD hS hl; exact False.elim h
    | succ N ih => intro x1 x2 x3 S H locs ls h hP hD hS hl; exact B4  (itr (F := Int32 → Int32 → Int32 → St → Prop) (fun _ _ _ _ => False) (fun k4 x1 x2 x3 S => bX2_agreesWithTwins_4 k4 Q x1 x2 x3 S) N) ih x1 x2 x3 S H locs ls h  hP hD hS hl
  refine lv_iload_n C.1 C.2.1 dX2_agreesWithTwins_0 rfl (lv_at hl 1 rfl) ?_
  refine lv_iconst (v := 1) C.1 C.2.1 dX2_agreesWithTwins_1 (by decide) ?_
  refine lv_iadd C.1 C.2.1 dX2_agreesWithTwins_2 ?_
  refine lv_topi (fun y14 ey14 => ?_)
  have h := h y14 ey14
  refine lv_istore_n (lv' := [(3, .int y14), (0, .ref (ad 12)), (1, .int x1), (2, .int x2)]) C.1 C.2.1 dX2_agreesWithTwins_3 rfl hl (by decide) rfl (fun ls hl => ?_)
  obtain ⟨N, h⟩ := h
  exact L4 N x1 x2 y14 S H locs ls h hP hD hS (lv_sub hl [1, 2, 3, 0] rfl)
theorem mX2_agreesWithTwins (l : Launch) (g : va_G) (ct : Nat → ClassId) (ad : Nat → Nat) (n ro sz : Nat) (S : St) (x1 : Int32) (x2 : Int32) (Q : Int32 → St → Prop) (h : pX2_agreesWithTwins x1 x2 S Q) : Met l yX2_agreesWithTwins wsX2_agreesWithTwins ({ frames := 1, cells := 0, slots := 0, locals := 21 }) (gPc g (xT ct) (wX ct ad n ro S) sz [.ref (ad 12), .int x1, .int x2]) (va_Qi Q (gB g (xT ct) (wX ct ad n ro) (va_A (wX ct ad n ro S) sz)) (va_A (wX ct ad n ro S) sz)) 0 0 (va_A (wX ct ad n ro S) sz) :=
  g_metZ (w := wX ct ad n ro) (cc := cX2_agreesWithTwins) (maxL := 4) (by decide) rfl rfl (Nat.le_of_ble_eq_true rfl) rfl (fun p e s m args below meth c QQ A C hK hN hA hret H locs ls hP hD hS hl => kX2_agreesWithTwins C hK hN hA (Nat.le_refl _) (Nat.le_refl _) Q hret x1 x2 S h H locs ls hP hD hS hl)

def bX2_mayReadHere_84 (Q : Int32 → St → Prop) (t0 : Int32) (S : St) : Prop :=
  (zb t0 ∧ Q t0 S)
def bX2_mayReadHere_83 (Q : Int32 → St → Prop) (S : St) : Prop :=
  bX2_mayReadHere_84 Q (0 : Int32) S
def bX2_mayReadHere_43 (Q : Int32 → St → Prop) (x1 : Int32) (x2 : Int32) (x3 : Int32) (t0 : Int32) (S : St) : Prop :=
  pX5_accessAt x1 S (fun (i2 : Nat) (S1 : St) => ((¬ t0 = (S1.1 36 i2) → bX2_mayReadHere_83 Q  S1) ∧ (t0 = (S1.1 36 i2) → pX2_mayForward x3 x2 S1 (fun (r4 : Int32) (S3 : St) => ((r4 = 0 → bX2_mayReadHere_83 Q  S3) ∧ (¬ (r4 = 0) → pX2_agreesWithTwins x1 x2 S3 (fun (r6 : Int32) (S5 : St) => ((r6 = 0 → bX2_mayReadHere_83 Q  S5) ∧ (¬ (r6 = 0) → bX2_mayReadHere_84 Q (1 : Int32) S5)))))))))
def pX2_mayReadHere (x1 : Int32) (x2 : Int32) (S : St) (Q : Int32 → St → Prop) : Prop :=
  pX5_accessAt x1 S (fun (i11 : Nat) (S10 : St) => ((¬ (S10.1 34 i11) = 0 → (vp_in x1 6 ∧ (∀ y13 : Int32, y13 = (S10.1 27 (Int32.toNatClampNeg x1)) → ((¬ y13 = (-1 : Int32) → pX5_accessAt y13 S10 (fun (i15 : Nat) (S14 : St) => bX2_mayReadHere_43 Q x1 x2 y13 (S14.1 37 i15) S14)) ∧ (y13 = (-1 : Int32) → bX2_mayReadHere_43 Q x1 x2 y13 (0 : Int32) S10))))) ∧ ((S10.1 34 i11) = 0 → Q (1 : Int32) S10)))
set_option maxHeartbeats 40000000 in
set_option maxRecDepth 100000 in
theorem kX2_mayReadHere {p : Program} {l : Launch} {e : Env} {R : Room} {s : State} {m : MethodId} {args : Array Value} {below : List Frame} {meth : Method} {c : Code} {QQ : State → Prop} {g : va_G} {ct : Nat → ClassId} {ad : Nat → Nat} {n ro : Nat} {A : Nat → Prop} (C : CallFix p m c cX2_mayReadHere 5 s args wsX2_mayReadHere RX2) (hK : va_K g vwCl (xT ct) s) (hN : xN s) (hA : ∀ q, s.heap.size ≤ q → A q) (hRf : 2 ≤ R.frames) (hRl : 44 ≤ R.locals) (Q : Int32 → St → Prop) (hret : ∀ (pc : Nat) (r : Int32) (S : St) (H : Heap) (locs : List Loc) (ls : Array Slot), decode cX2_mayReadHere pc = .ok (.ireturn, 1) → zb r → Q r S → va_P g vwCl (wX ct ad n ro S) H → va_D A (wX ct ad n ro S) → va_S A s.heap H locs → W p l e R s m args below meth c H locs 0 0 QQ (F0 m pc ls [.int r])) (x1 : Int32) (x2 : Int32) (S : St) (h : pX2_mayReadHere x1 x2 S Q) (H : Heap) (locs : List Loc) (ls : Array Slot) (hP : va_P g vwCl (wX ct ad n ro S) H) (hD : va_D A (wX ct ad n ro S)) (hS : va_S A s.heap H locs) (hl : lv_has ls 5 [(0, .ref (ad 12)), (1, .int x1), (2, .int x2)]) : W p l e R s m args below meth c H locs 0 0 QQ (F0 m 0 ls []) := by
  have hinX0 : ∀ w ∈ wsX00, w ∈ wsX2_mayReadHere := by decide +kernel
  have hinX2 : ∀ w ∈ wsX20, w ∈ wsX2_mayReadHere := by decide +kernel
  have B84 : ∀ (t0 : Int32) (S : St) (H : Heap) (locs : List Loc) (ls : Array Slot), bX2_mayReadHere_84 Q t0 S → va_P g vwCl (wX ct ad n ro S) H → va_D A (wX ct ad n ro S) → va_S A s.heap H locs → lv_has ls 5 [(0, .ref (ad 12))] → W p l e R s m args below meth c H locs 0 0 QQ (F0 m 84 ls [.int t0]) := by
    intro t0 S H locs ls h hP hD hS hl
    exact hret _ _ _ _ _ _ dX2_mayReadHere_84 h.1 h.2 hP hD hS
  have B83 : ∀ (S : St) (H : Heap) (locs : List Loc) (ls : Array Slot), bX2_mayReadHere_83 Q S → va_P g vwCl (wX ct ad n ro S) H → va_D A (wX ct ad n ro S) → va_S A s.heap H locs → lv_has ls 5 [(0, .ref (ad 12))] → W p l e R s m args below meth c H locs 0 0 QQ (F0 m 83 ls []) := by
    intro S H locs ls h hP hD hS hl
    refine lv_iconst (v := 0) C.1 C.2.1 dX2_mayReadHere_83 (by decide) ?_
    exact B84 (0 : Int32) S H locs ls h hP hD hS (lv_sub hl [0] rfl)
  have B43 : ∀ (x1 : Int32) (x2 : Int32) (x3 : Int32) (t0 : Int32) (S : St) (H : Heap) (locs : List Loc) (ls : Array Slot), bX2_mayReadHere_43 Q x1 x2 x3 t0 S → va_P g vwCl (wX ct ad n ro S) H → va_D A (wX ct ad n ro S) → va_S A s.heap H locs → lv_has ls 5 [(0, .ref (ad 12)), (1, .int x1), (2, .int x2), (3, .int x3)] → W p l e R s m args below meth c H locs 0 0 QQ (F0 m 43 ls [.int t0]) := by
    intro x1 x2 x3 t0 S H locs ls h hP hD hS hl
    refine lv_istore (lv' := [(4, .int t0), (0, .ref (ad 12)), (1, .int x1), (2, .int x2), (3, .int x3)]) C.1 C.2.1 dX2_mayReadHere_43 hl (by decide) rfl (fun ls hl => ?_)
    refine lv_iload C.1 C.2.1 dX2_mayReadHere_45 (lv_at hl 0 rfl) ?_
    refine lv_aload_n C.1 C.2.1 dX2_mayReadHere_47 rfl (lv_at hl 1 rfl) ?_
    refine xg2_way C hinX2 hK hP (by decide +kernel) dX2_mayReadHere_48 ?_
    refine lv_iload_n C.1 C.2.1 dX2_mayReadHere_51 rfl (lv_at hl 2 rfl) ?_
    refine g_callVr (w := wX ct ad n ro) C hK hN hA hP hD hS (mX5_accessAt l g ct ad n ro H.size S x1  _ h) (cwV 1 C.2.2.2.2 gX2_mayReadHere_X5_accessAt rfl rfl rfl (by decide +kernel) ⟨Nat.le_trans (by decide) hRf, Nat.le_trans (by decide) hRl⟩) (va_recv hK hP (ci := 5) (q0 := 8) rfl rfl) rfl hl.1 rfl (Nat.le_of_ble_eq_true rfl) dX2_mayReadHere_52 ⟨Nat.zero_le _, Nat.zero_le _⟩ (fun i2 S1 H locs hi2 h hP hD hS => ?_)
    refine xg0_got hi2 C hinX0 hK hP (hN _ (by decide +kernel)) dX2_mayReadHere_55 ?_
    refine lv_icmp_ne (tgt := 83) C.1 C.2.1 dX2_mayReadHere_58 (by decide) (fun c9 => ?_) (fun c9 => ?_)
    · have h := h.1 c9
      exact B83  S1 H locs ls h hP hD hS (lv_sub hl [1] rfl)
    · have h := h.2 c9
      refine lv_aload_n C.1 C.2.1 dX2_mayReadHere_61 rfl (lv_at hl 1 rfl) ?_
      refine lv_iload_n C.1 C.2.1 dX2_mayReadHere_62 rfl (lv_at hl 4 rfl) ?_
      refine lv_iload_n C.1 C.2.1 dX2_mayReadHere_63 rfl (lv_at hl 3 rfl) ?_
      refine g_callVi (w := wX ct ad n ro) C hK hN hA hP hD hS (mX2_mayForward l g ct ad n ro H.size S1 x3 x2  _ h) (cwV 2 C.2.2.2.2 gX2_mayReadHere_X2_mayForward rfl rfl rfl (by decide +kernel) ⟨Nat.le_trans (by decide) hRf, Nat.le_trans (by decide) hRl⟩) (va_recv hK hP (ci := 2) (q0 := 12) rfl rfl) rfl hl.1 rfl (Nat.le_of_ble_eq_true rfl) dX2_mayReadHere_64 ⟨Nat.zero_le _, Nat.zero_le _⟩ (fun r4 S3 H locs h hP hD hS => ?_)
      refine lv_if_eq (tgt := 83) C.1 C.2.1 dX2_mayReadHere_67 (by decide) (fun c8 => ?_) (fun c8 => ?_)
      · have h := h.1 c8
        exact B83  S3 H locs ls h hP hD hS (lv_sub hl [1] rfl)
      · have h := h.2 c8
        refine lv_aload_n C.1 C.2.1 dX2_mayReadHere_70 rfl (lv_at hl 1 rfl) ?_
        refine lv_iload_n C.1 C.2.1 dX2_mayReadHere_71 rfl (lv_at hl 2 rfl) ?_
        refine lv_iload_n C.1 C.2.1 dX2_mayReadHere_72 rfl (lv_at hl 3 rfl) ?_
        refine g_callVi (w := wX ct ad n ro) C hK hN hA hP hD hS (mX2_agreesWithTwins l g ct ad n ro H.size S3 x1 x2  _ h) (cwV 2 C.2.2.2.2 gX2_mayReadHere_X2_agreesWithTwins rfl rfl rfl (by decide +kernel) ⟨Nat.le_trans (by decide) hRf, Nat.le_trans (by decide) hRl⟩) (va_recv hK hP (ci := 2) (q0 := 12) rfl rfl) rfl hl.1 rfl (Nat.le_of_ble_eq_true rfl) dX2_mayReadHere_73 ⟨Nat.zero_le _, Nat.zero_le _⟩ (fun r6 S5 H locs h hP hD hS => ?_)
        refine lv_if_eq (tgt := 83) C.1 C.2.1 dX2_mayReadHere_76 (by decide) (fun c7 => ?_) (fun c7 => ?_)
        · have h := h.1 c7
          exact B83  S5 H locs ls h hP hD hS (lv_sub hl [1] rfl)
        · have h := h.2 c7
          refine lv_iconst (v := 1) C.1 C.2.1 dX2_mayReadHere_79 (by decide) ?_
          refine lv_goto (tgt := 84) C.1 C.2.1 dX2_mayReadHere_80 (by decide) ?_
          exact B84 (1 : Int32) S5 H locs ls h hP hD hS (lv_sub hl [1] rfl)
  refine lv_aload_n C.1 C.2.1 dX2_mayReadHere_0 rfl (lv_at hl 0 rfl) ?_
  refine xg2_way C hinX2 hK hP (by decide +kernel) dX2_mayReadHere_1 ?_
  refine lv_iload_n C.1 C.2.1 dX2_mayReadHere_4 rfl (lv_at hl 1 rfl) ?_
  refine g_callVr (w := wX ct ad n ro) C hK hN hA hP hD hS (mX5_accessAt l g ct ad n ro H.size S x1  _ h) (cwV 1 C.2.2.2.2 gX2_mayReadHere_X5_accessAt rfl rfl rfl (by decide +kernel) ⟨Nat.le_trans (by decide) hRf, Nat.le_trans (by decide) hRl⟩) (va_recv hK hP (ci := 5) (q0 := 8) rfl rfl) rfl hl.1 rfl (Nat.le_of_ble_eq_true rfl) dX2_mayReadHere_5 ⟨Nat.zero_le _, Nat.zero_le _⟩ (fun i11 S10 H locs hi11 h hP hD hS => ?_)
  refine xg0_reads hi11 C hinX0 hK hP (hN _ (by decide +kernel)) dX2_mayReadHere_8 ?_
  refine lv_if_ne (tgt := 16) C.1 C.2.1 dX2_mayReadHere_11 (by decide) (fun c17 => ?_) (fun c17 => ?_)
  · have h := h.1 c17
    refine lv_aload_n C.1 C.2.1 dX2_mayReadHere_16 rfl (lv_at hl 0 rfl) ?_
    refine xg2_sources C hinX2 hK hP (by decide +kernel) dX2_mayReadHere_17 ?_
    refine lv_iload_n C.1 C.2.1 dX2_mayReadHere_20 rfl (lv_at hl 1 rfl) ?_
    obtain ⟨g12, h⟩ := h
    refine xa_2_sources C hK hP g12  rfl dX2_mayReadHere_21 ?_
    refine lv_topi (fun y13 ey13 => ?_)
    have h := h y13 ey13
    refine lv_istore_n (lv' := [(3, .int y13), (0, .ref (ad 12)), (1, .int x1), (2, .int x2)]) C.1 C.2.1 dX2_mayReadHere_22 rfl hl (by decide) rfl (fun ls hl => ?_)
    refine lv_iload_n C.1 C.2.1 dX2_mayReadHere_23 rfl (lv_at hl 0 rfl) ?_
    refine lv_iconst (v := -1) C.1 C.2.1 dX2_mayReadHere_24 (by decide) ?_
    refine lv_icmp_ne (tgt := 32) C.1 C.2.1 dX2_mayReadHere_25 (by decide) (fun c16 => ?_) (fun c16 => ?_)
    · have h := h.1 c16
      refine lv_aload_n C.1 C.2.1 dX2_mayReadHere_32 rfl (lv_at hl 1 rfl) ?_
      refine xg2_way C hinX2 hK hP (by decide +kernel) dX2_mayReadHere_33 ?_
      refine lv_iload_n C.1 C.2.1 dX2_mayReadHere_36 rfl (lv_at hl 0 rfl) ?_
      refine g_callVr (w := wX ct ad n ro) C hK hN hA hP hD hS (mX5_accessAt l g ct ad n ro H.size S10 y13  _ h) (cwV 1 C.2.2.2.2 gX2_mayReadHere_X5_accessAt rfl rfl rfl (by decide +kernel) ⟨Nat.le_trans (by decide) hRf, Nat.le_trans (by decide) hRl⟩) (va_recv hK hP (ci := 5) (q0 := 8) rfl rfl) rfl hl.1 rfl (Nat.le_of_ble_eq_true rfl) dX2_mayReadHere_37 ⟨Nat.zero_le _, Nat.zero_le _⟩ (fun i15 S14 H locs hi15 h hP hD hS => ?_)
      refine xg0_put hi15 C hinX0 hK hP (hN _ (by decide +kernel)) dX2_mayReadHere_40 ?_
      exact B43 x1 x2 y13 (S14.1 37 i15) S14 H locs ls h hP hD hS (lv_sub hl [1, 2, 3, 0] rfl)
    · have h := h.2 c16
      refine lv_iconst (v := 0) C.1 C.2.1 dX2_mayReadHere_28 (by decide) ?_
      refine lv_goto (tgt := 43) C.1 C.2.1 dX2_mayReadHere_29 (by decide) ?_
      exact B43 x1 x2 y13 (0 : Int32) S10 H locs ls h hP hD hS (lv_sub hl [1, 2, 3, 0] rfl)
  · have h := h.2 c17
    refine lv_iconst (v := 1) C.1 C.2.1 dX2_mayReadHere_14 (by decide) ?_
    exact hret _ _ _ _ _ _ dX2_mayReadHere_15 zb_1 h hP hD hS
theorem mX2_mayReadHere (l : Launch) (g : va_G) (ct : Nat → ClassId) (ad : Nat → Nat) (n ro sz : Nat) (S : St) (x1 : Int32) (x2 : Int32) (Q : Int32 → St → Prop) (h : pX2_mayReadHere x1 x2 S Q) : Met l yX2_mayReadHere wsX2_mayReadHere ({ frames := 2, cells := 0, slots := 0, locals := 44 }) (gPc g (xT ct) (wX ct ad n ro S) sz [.ref (ad 12), .int x1, .int x2]) (va_Qi Q (gB g (xT ct) (wX ct ad n ro) (va_A (wX ct ad n ro S) sz)) (va_A (wX ct ad n ro S) sz)) 0 0 (va_A (wX ct ad n ro S) sz) :=
  g_metZ (w := wX ct ad n ro) (cc := cX2_mayReadHere) (maxL := 5) (by decide) rfl rfl (Nat.le_of_ble_eq_true rfl) rfl (fun p e s m args below meth c QQ A C hK hN hA hret H locs ls hP hD hS hl => kX2_mayReadHere C hK hN hA (Nat.le_refl _) (Nat.le_refl _) Q hret x1 x2 S h H locs ls hP hD hS hl)

def bX2_isAtomic_130 (k40 : Nat → Int32 → Int32 → Int32 → St → Prop) (Q : Int32 → St → Prop) (x1 : Nat) (x2 : Int32) (x4 : Int32) (x5 : Int32) (S : St) : Prop :=
  (∀ y1 : Int32, y1 = x5 + (1 : Int32) → k40 x1 x2 x4 y1 S)
def bX2_isAtomic_100 (k40 : Nat → Int32 → Int32 → Int32 → St → Prop) (Q : Int32 → St → Prop) (x1 : Nat) (x2 : Int32) (x4 : Int32) (x5 : Int32) (t0 : Int32) (S : St) : Prop :=
  pX2_isIn x2 x5 (fun (r2 : Int32) => ((r2 = 0 → bX2_isAtomic_130 k40 Q x1 x2 x4 x5 S) ∧ (¬ (r2 = 0) → ((t0 = 0 → bX2_isAtomic_130 k40 Q x1 x2 x4 x5 S) ∧ (¬ (t0 = 0) → (vp_in x5 6 ∧ (((S.1 26 (Int32.toNatClampNeg x5)) ≤ x4 → bX2_isAtomic_130 k40 Q x1 x2 x4 x5 S) ∧ (¬ ((S.1 26 (Int32.toNatClampNeg x5)) ≤ x4) → Q (0 : Int32) S))))))))
def bX2_isAtomic_99 (k40 : Nat → Int32 → Int32 → Int32 → St → Prop) (Q : Int32 → St → Prop) (x1 : Nat) (x2 : Int32) (x4 : Int32) (x5 : Int32) (S : St) : Prop :=
  bX2_isAtomic_100 k40 Q x1 x2 x4 x5 (0 : Int32) S
def bX2_isAtomic_40 (k40 : Nat → Int32 → Int32 → Int32 → St → Prop) (Q : Int32 → St → Prop) (x1 : Nat) (x2 : Int32) (x4 : Int32) (x5 : Int32) (S : St) : Prop :=
  pX5_size S (fun (r8 : Int32) (S7 : St) => ((r8 ≤ x5 → Q (1 : Int32) S7) ∧ (¬ (r8 ≤ x5) → pX5_accessAt x5 S7 (fun (i10 : Nat) (S9 : St) => (((S9.1 35 i10) = 0 → bX2_isAtomic_99 k40 Q x1 x2 x4 x5 S9) ∧ (¬ ((S9.1 35 i10) = 0) → (((S9.1 30 i10) = (S9.1 30 x1) → bX2_isAtomic_99 k40 Q x1 x2 x4 x5 S9) ∧ (¬ ((S9.1 30 i10) = (S9.1 30 x1)) → ((¬ (S9.1 32 i10) = (S9.1 32 x1) → bX2_isAtomic_99 k40 Q x1 x2 x4 x5 S9) ∧ ((S9.1 32 i10) = (S9.1 32 x1) → bX2_isAtomic_100 k40 Q x1 x2 x4 x5 (1 : Int32) S9))))))))))
def bX2_isAtomic_35 (Q : Int32 → St → Prop) (x1 : Nat) (x2 : Int32) (t0 : Int32) (S : St) : Prop :=
  (∃ N : Nat, itr (F := Nat → Int32 → Int32 → Int32 → St → Prop) (fun _ _ _ _ _ => False) (fun k40 x1 x2 x4 x5 S => bX2_isAtomic_40 k40 Q x1 x2 x4 x5 S) N x1 x2 t0 (0 : Int32) S)
def pX2_isAtomic (x1 : Nat) (x2 : Int32) (S : St) (Q : Int32 → St → Prop) : Prop :=
  ((¬ (S.1 40 x1) = (-1 : Int32) → (vp_in (S.1 40 x1) 6 ∧ (∀ y16 : Int32, y16 = (S.1 27 (Int32.toNatClampNeg (S.1 40 x1))) → ((¬ y16 = (-1 : Int32) → (vp_in y16 6 ∧ bX2_isAtomic_35 Q x1 x2 (S.1 26 (Int32.toNatClampNeg y16)) S)) ∧ (y16 = (-1 : Int32) → bX2_isAtomic_35 Q x1 x2 (-1 : Int32) S))))) ∧ ((S.1 40 x1) = (-1 : Int32) → Q (1 : Int32) S))
set_option maxHeartbeats 40000000 in
set_option maxRecDepth 100000 in
theorem kX2_isAtomic {p : Program} {l : Launch} {e : Env} {R : Room} {s : State} {m : MethodId} {args : Array Value} {below : List Frame} {meth : Method} {c : Code} {QQ : State → Prop} {g : va_G} {ct : Nat → ClassId} {ad : Nat → Nat} {n ro : Nat} {A : Nat → Prop} (C : CallFix p m c cX2_isAtomic 8 s args wsX2_isAtomic RX2) (hK : va_K g vwCl (xT ct) s) (hN : xN s) (hA : ∀ q, s.heap.size ≤ q → A q) (hRf : 1 ≤ R.frames) (hRl : 21 ≤ R.locals) (Q : Int32 → St → Prop) (hret : ∀ (pc : Nat) (r : Int32) (S : St) (H : Heap) (locs : List Loc) (ls : Array Slot), decode cX2_isAtomic pc = .ok (.ireturn, 1) → zb r → Q r S → va_P g vwCl (wX ct ad n ro S) H → va_D A (wX ct ad n ro S) → va_S A s.heap H locs → W p l e R s m args below meth c H locs 0 0 QQ (F0 m pc ls [.int r])) (x1 : Nat) (x2 : Int32) (hx1 : x1 < 6) (S : St) (h : pX2_isAtomic x1 x2 S Q) (H : Heap) (locs : List Loc) (ls : Array Slot) (hP : va_P g vwCl (wX ct ad n ro S) H) (hD : va_D A (wX ct ad n ro S)) (hS : va_S A s.heap H locs) (hl : lv_has ls 8 [(0, .ref (ad 12)), (1, .ref (ad (20 + x1))), (2, .int x2)]) : W p l e R s m args below meth c H locs 0 0 QQ (F0 m 0 ls []) := by
  have hinX0 : ∀ w ∈ wsX00, w ∈ wsX2_isAtomic := by decide +kernel
  have hinX2 : ∀ w ∈ wsX20, w ∈ wsX2_isAtomic := by decide +kernel
  have B130 : ∀ (k40 : Nat → Int32 → Int32 → Int32 → St → Prop) (hk40 : ∀ (x1 : Nat) (x2 : Int32) (x4 : Int32) (x5 : Int32) (hx1 : x1 < 6) (S : St) (H : Heap) (locs : List Loc) (ls : Array Slot), k40 x1 x2 x4 x5 S → va_P g vwCl (wX ct ad n ro S) H → va_D A (wX ct ad n ro S) → va_S A s.heap H locs → lv_has ls 8 [(0, .ref (ad 12)), (1, .ref (ad (20 + x1))), (2, .int x2), (4, .int x4), (5, .int x5)] → W p l e R s m args below meth c H locs 0 0 QQ (F0 m 40 ls [])) (x1 : Nat) (x2 : Int32) (x4 : Int32) (x5 : Int32) (hx1 : x1 < 6) (S : St) (H : Heap) (locs : List Loc) (ls : Array Slot), bX2_isAtomic_130 k40 Q x1 x2 x4 x5 S → va_P g vwCl (wX ct ad n ro S) H → va_D A (wX ct ad n ro S) → va_S A s.heap H locs → lv_has ls 8 [(0, .ref (ad 12)), (1, .ref (ad (20 + x1))), (2, .int x2), (4, .int x4), (5, .int x5)] → W p l e R s m args below meth c H locs 0 0 QQ (F0 m 130 ls []) := by
    intro k40 hk40 x1 x2 x4 x5 hx1 S H locs ls h hP hD hS hl
    obtain ⟨y1, ey1⟩ : ∃ z : Int32, z = x5 + (1 : Int32) := ⟨_, rfl⟩
    have h := h y1 ey1
    refine lv_iinc (v := y1) (lv' := [(5, .int y1), (0, .ref (ad 12)), (1, .ref (ad (20 + x1))), (2, .int x2), (4, .int x4)]) C.1 C.2.1 dX2_isAtomic_130 hl (k := 4) rfl (by rw [ey1]; rfl) (by decide) rfl (fun ls hl => ?_)
    refine lv_goto (tgt := 40) C.1 C.2.1 dX2_isAtomic_133 (by decide) ?_
    exact hk40 x1 x2 x4 y1 hx1 S H locs ls h hP hD hS (lv_sub hl [1, 2, 3, 4, 0] rfl)
  have B100 : ∀ (k40 : Nat → Int32 → Int32 → Int32 → St → Prop) (hk40 : ∀ (x1 : Nat) (x2 : Int32) (x4 : Int32) (x5 : Int32) (hx1 : x1 < 6) (S : St) (H : Heap) (locs : List Loc) (ls : Array Slot), k40 x1 x2 x4 x5 S → va_P g vwCl (wX ct ad n ro S) H → va_D A (wX ct ad n ro S) → va_S A s.heap H locs → lv_has ls 8 [(0, .ref (ad 12)), (1, .ref (ad (20 + x1))), (2, .int x2), (4, .int x4), (5, .int x5)] → W p l e R s m args below meth c H locs 0 0 QQ (F0 m 40 ls [])) (x1 : Nat) (x2 : Int32) (x4 : Int32) (x5 : Int32) (t0 : Int32) (hx1 : x1 < 6) (S : St) (H : Heap) (locs : List Loc) (ls : Array Slot), bX2_isAtomic_100 k40 Q x1 x2 x4 x5 t0 S → va_P g vwCl (wX ct ad n ro S) H → va_D A (wX ct ad n ro S) → va_S A s.heap H locs → lv_has ls 8 [(0, .ref (ad 12)), (1, .ref (ad (20 + x1))), (2, .int x2), (4, .int x4), (5, .int x5)] → W p l e R s m args below meth c H locs 0 0 QQ (F0 m 100 ls [.int t0]) := by
    intro k40 hk40 x1 x2 x4 x5 t0 hx1 S H locs ls h hP hD hS hl
    refine lv_istore (lv' := [(7, .int t0), (0, .ref (ad 12)), (1, .ref (ad (20 + x1))), (2, .int x2), (4, .int x4), (5, .int x5)]) C.1 C.2.1 dX2_isAtomic_100 hl (by decide) rfl (fun ls hl => ?_)
    refine lv_iload_n C.1 C.2.1 dX2_isAtomic_102 rfl (lv_at hl 3 rfl) ?_
    refine lv_iload C.1 C.2.1 dX2_isAtomic_103 (lv_at hl 5 rfl) ?_
    refine g_callS (w := wX ct ad n ro) C hK hN hA hP hD hS (mX2_isIn l g (xT ct) S H.size x2 x5 _ h) (va_cwS 2 C.2.2.2.2 gX2_isAtomic_X2_isIn rfl rfl rfl (by decide +kernel) ⟨Nat.le_trans (by decide) hRf, Nat.le_trans (by decide) hRl⟩) rfl hl.1 rfl (Nat.le_of_ble_eq_true rfl) dX2_isAtomic_105 ⟨Nat.zero_le _, Nat.zero_le _⟩ (fun r2 H locs h hP hD hS => ?_)
    refine lv_if_eq (tgt := 130) C.1 C.2.1 dX2_isAtomic_108 (by decide) (fun c6 => ?_) (fun c6 => ?_)
    · have h := h.1 c6
      exact B130 k40 hk40 x1 x2 x4 x5 hx1 S H locs ls h hP hD hS (lv_sub hl [1, 2, 3, 4, 5] rfl)
    · have h := h.2 c6
      refine lv_iload C.1 C.2.1 dX2_isAtomic_111 (lv_at hl 0 rfl) ?_
      refine lv_if_eq (tgt := 130) C.1 C.2.1 dX2_isAtomic_113 (by decide) (fun c5 => ?_) (fun c5 => ?_)
      · have h := h.1 c5
        exact B130 k40 hk40 x1 x2 x4 x5 hx1 S H locs ls h hP hD hS (lv_sub hl [1, 2, 3, 4, 5] rfl)
      · have h := h.2 c5
        refine lv_aload_n C.1 C.2.1 dX2_isAtomic_116 rfl (lv_at hl 1 rfl) ?_
        refine xg2_spots C hinX2 hK hP (by decide +kernel) dX2_isAtomic_117 ?_
        refine lv_iload C.1 C.2.1 dX2_isAtomic_120 (lv_at hl 5 rfl) ?_
        obtain ⟨g3, h⟩ := h
        refine xa_2_spots C hK hP g3  rfl dX2_isAtomic_122 ?_
        refine lv_iload C.1 C.2.1 dX2_isAtomic_123 (lv_at hl 4 rfl) ?_
        refine lv_icmp_le (tgt := 130) C.1 C.2.1 dX2_isAtomic_125 (by decide) (fun c4 => ?_) (fun c4 => ?_)
        · have h := h.1 c4
          exact B130 k40 hk40 x1 x2 x4 x5 hx1 S H locs ls h hP hD hS (lv_sub hl [1, 2, 3, 4, 5] rfl)
        · have h := h.2 c4
          refine lv_iconst (v := 0) C.1 C.2.1 dX2_isAtomic_128 (by decide) ?_
          exact hret _ _ _ _ _ _ dX2_isAtomic_129 zb_0 h hP hD hS
  have B99 : ∀ (k40 : Nat → Int32 → Int32 → Int32 → St → Prop) (hk40 : ∀ (x1 : Nat) (x2 : Int32) (x4 : Int32) (x5 : Int32) (hx1 : x1 < 6) (S : St) (H : Heap) (locs : List Loc) (ls : Array Slot), k40 x1 x2 x4 x5 S → va_P g vwCl (wX ct ad n ro S) H → va_D A (wX ct ad n ro S) → va_S A s.heap H locs → lv_has ls 8 [(0, .ref (ad 12)), (1, .ref (ad (20 + x1))), (2, .int x2), (4, .int x4), (5, .int x5)] → W p l e R s m args below meth c H locs 0 0 QQ (F0 m 40 ls [])) (x1 : Nat) (x2 : Int32) (x4 : Int32) (x5 : Int32) (hx1 : x1 < 6) (S : St) (H : Heap) (locs : List Loc) (ls : Array Slot), bX2_isAtomic_99 k40 Q x1 x2 x4 x5 S → va_P g vwCl (wX ct ad n ro S) H → va_D A (wX ct ad n ro S) → va_S A s.heap H locs → lv_has ls 8 [(0, .ref (ad 12)), (1, .ref (ad (20 + x1))), (2, .int x2), (4, .int x4), (5, .int x5)] → W p l e R s m args below meth c H locs 0 0 QQ (F0 m 99 ls []) := by
    intro k40 hk40 x1 x2 x4 x5 hx1 S H locs ls h hP hD hS hl
    refine lv_iconst (v := 0) C.1 C.2.1 dX2_isAtomic_99 (by decide) ?_
    exact B100 k40 hk40 x1 x2 x4 x5 (0 : Int32) hx1 S H locs ls h hP hD hS (lv_sub hl [0, 1, 2, 3, 4] rfl)
  have B40 : ∀ (k40 : Nat → Int32 → Int32 → Int32 → St → Prop) (hk40 : ∀ (x1 : Nat) (x2 : Int32) (x4 : Int32) (x5 : Int32) (hx1 : x1 < 6) (S : St) (H : Heap) (locs : List Loc) (ls : Array Slot), k40 x1 x2 x4 x5 S → va_P g vwCl (wX ct ad n ro S) H → va_D A (wX ct ad n ro S) → va_S A s.heap H locs → lv_has ls 8 [(0, .ref (ad 12)), (1, .ref (ad (20 + x1))), (2, .int x2), (4, .int x4), (5, .int x5)] → W p l e R s m args below meth c H locs 0 0 QQ (F0 m 40 ls [])) (x1 : Nat) (x2 : Int32) (x4 : Int32) (x5 : Int32) (hx1 : x1 < 6) (S : St) (H : Heap) (locs : List Loc) (ls : Array Slot), bX2_isAtomic_40 k40 Q x1 x2 x4 x5 S → va_P g vwCl (wX ct ad n ro S) H → va_D A (wX ct ad n ro S) → va_S A s.heap H locs → lv_has ls 8 [(0, .ref (ad 12)), (1, .ref (ad (20 + x1))), (2, .int x2), (4, .int x4), (5, .int x5)] → W p l e R s m args below meth c H locs 0 0 QQ (F0 m 40 ls []) := by
    intro k40 hk40 x1 x2 x4 x5 hx1 S H locs ls h hP hD hS hl
    refine lv_iload C.1 C.2.1 dX2_isAtomic_40 (lv_at hl 4 rfl) ?_
    refine lv_aload_n C.1 C.2.1 dX2_isAtomic_42 rfl (lv_at hl 0 rfl) ?_
    refine xg2_way C hinX2 hK hP (by decide +kernel) dX2_isAtomic_43 ?_
    refine g_callVi (w := wX ct ad n ro) C hK hN hA hP hD hS (mX5_size l g ct ad n ro H.size S   _ h) (cwV 0 C.2.2.2.2 gX2_isAtomic_X5_size rfl rfl rfl (by decide +kernel) ⟨Nat.le_trans (by decide) hRf, Nat.le_trans (by decide) hRl⟩) (va_recv hK hP (ci := 5) (q0 := 8) rfl rfl) rfl hl.1 rfl (Nat.le_of_ble_eq_true rfl) dX2_isAtomic_46 ⟨Nat.zero_le _, Nat.zero_le _⟩ (fun r8 S7 H locs h hP hD hS => ?_)
    refine lv_icmp_ge (tgt := 136) C.1 C.2.1 dX2_isAtomic_49 (by decide) (fun c14 => ?_) (fun c14 => ?_)
    · have h := h.1 c14
      refine lv_iconst (v := 1) C.1 C.2.1 dX2_isAtomic_136 (by decide) ?_
      exact hret _ _ _ _ _ _ dX2_isAtomic_137 zb_1 h hP hD hS
    · have h := h.2 c14
      refine lv_aload_n C.1 C.2.1 dX2_isAtomic_52 rfl (lv_at hl 0 rfl) ?_
      refine xg2_way C hinX2 hK hP (by decide +kernel) dX2_isAtomic_53 ?_
      refine lv_iload C.1 C.2.1 dX2_isAtomic_56 (lv_at hl 4 rfl) ?_
      refine g_callVr (w := wX ct ad n ro) C hK hN hA hP hD hS (mX5_accessAt l g ct ad n ro H.size S7 x5  _ h) (cwV 1 C.2.2.2.2 gX2_isAtomic_X5_accessAt rfl rfl rfl (by decide +kernel) ⟨Nat.le_trans (by decide) hRf, Nat.le_trans (by decide) hRl⟩) (va_recv hK hP (ci := 5) (q0 := 8) rfl rfl) rfl hl.1 rfl (Nat.le_of_ble_eq_true rfl) dX2_isAtomic_58 ⟨Nat.zero_le _, Nat.zero_le _⟩ (fun i10 S9 H locs hi10 h hP hD hS => ?_)
      refine lv_astore (lv' := [(6, .ref (ad (20 + i10))), (0, .ref (ad 12)), (1, .ref (ad (20 + x1))), (2, .int x2), (4, .int x4), (5, .int x5)]) C.1 C.2.1 dX2_isAtomic_61 hl (by decide) rfl (fun ls hl => ?_)
      refine lv_aload C.1 C.2.1 dX2_isAtomic_63 (lv_at hl 0 rfl) ?_
      refine xg0_writes hi10 C hinX0 hK hP (hN _ (by decide +kernel)) dX2_isAtomic_65 ?_
      refine lv_if_eq (tgt := 99) C.1 C.2.1 dX2_isAtomic_68 (by decide) (fun c13 => ?_) (fun c13 => ?_)
      · have h := h.1 c13
        exact B99 k40 hk40 x1 x2 x4 x5 hx1 S9 H locs ls h hP hD hS (lv_sub hl [1, 2, 3, 4, 5] rfl)
      · have h := h.2 c13
        refine lv_aload C.1 C.2.1 dX2_isAtomic_71 (lv_at hl 0 rfl) ?_
        refine xg0_hart hi10 C hinX0 hK hP (hN _ (by decide +kernel)) dX2_isAtomic_73 ?_
        refine lv_aload_n C.1 C.2.1 dX2_isAtomic_76 rfl (lv_at hl 2 rfl) ?_
        refine xg0_hart hx1 C hinX0 hK hP (hN _ (by decide +kernel)) dX2_isAtomic_77 ?_
        refine lv_icmp_eq (tgt := 99) C.1 C.2.1 dX2_isAtomic_80 (by decide) (fun c12 => ?_) (fun c12 => ?_)
        · have h := h.1 c12
          exact B99 k40 hk40 x1 x2 x4 x5 hx1 S9 H locs ls h hP hD hS (lv_sub hl [1, 2, 3, 4, 5] rfl)
        · have h := h.2 c12
          refine lv_aload C.1 C.2.1 dX2_isAtomic_83 (lv_at hl 0 rfl) ?_
          refine xg0_location hi10 C hinX0 hK hP (hN _ (by decide +kernel)) dX2_isAtomic_85 ?_
          refine lv_aload_n C.1 C.2.1 dX2_isAtomic_88 rfl (lv_at hl 2 rfl) ?_
          refine xg0_location hx1 C hinX0 hK hP (hN _ (by decide +kernel)) dX2_isAtomic_89 ?_
          refine lv_icmp_ne (tgt := 99) C.1 C.2.1 dX2_isAtomic_92 (by decide) (fun c11 => ?_) (fun c11 => ?_)
          · have h := h.1 c11
            exact B99 k40 hk40 x1 x2 x4 x5 hx1 S9 H locs ls h hP hD hS (lv_sub hl [1, 2, 3, 4, 5] rfl)
          · have h := h.2 c11
            refine lv_iconst (v := 1) C.1 C.2.1 dX2_isAtomic_95 (by decide) ?_
            refine lv_goto (tgt := 100) C.1 C.2.1 dX2_isAtomic_96 (by decide) ?_
            exact B100 k40 hk40 x1 x2 x4 x5 (1 : Int32) hx1 S9 H locs ls h hP hD hS (lv_sub hl [1, 2, 3, 4, 5] rfl)
  have L40 : ∀ (N : Nat) (x1 : Nat) (x2 : Int32) (x4 : Int32) (x5 : Int32) (hx1 : x1 < 6) (S : St) (H : Heap) (locs : List Loc) (ls : Array Slot), itr (F := Nat → Int32 → Int32 → Int32 → St → Prop) (fun _ _ _ _ _ => False) (fun k40 x1 x2 x4 x5 S => bX2_isAtomic_40 k40 Q x1 x2 x4 x5 S) N x1 x2 x4 x5 S → va_P g vwCl (wX ct ad n ro S) H → va_D A (wX ct ad n ro S) → va_S A s.heap H locs → lv_has ls 8 [(0, .ref (ad 12)), (1, .ref (ad (20 + x1))), (2, .int x2), (4, .int x4), (5, .int x5)] → W p l e R s m args below meth c H locs 0 0 QQ (F0 m 40 ls []) := by
    intro N
    induction N with
    | zero => intro x1 x2 x4 x5 hx1 S H locs ls h hP hD hS hl; exact False.elim h
    | succ N ih => intro x1 x2 x4 x5 hx1 S H locs ls h hP hD hS hl; exact B40  (itr (F := Nat → Int32 → Int32 → Int32 → St → Prop) (fun _ _ _ _ _ => False) (fun k40 x1 x2 x4 x5 S => bX2_isAtomic_40 k40 Q x1 x2 x4 x5 S) N) ih x1 x2 x4 x5 hx1 S H locs ls h  hP hD hS hl
  have B35 : ∀ (x1 : Nat) (x2 : Int32) (t0 : Int32) (hx1 : x1 < 6) (S : St) (H : Heap) (locs : List Loc) (ls : Array Slot), bX2_isAtomic_35 Q x1 x2 t0 S → va_P g vwCl (wX ct ad n ro S) H → va_D A (wX ct ad n ro S) → va_S A s.heap H locs → lv_has ls 8 [(0, .ref (ad 12)), (1, .ref (ad (20 + x1))), (2, .int x2)] → W p l e R s m args below meth c H locs 0 0 QQ (F0 m 35 ls [.int t0]) := by
    intro x1 x2 t0 hx1 S H locs ls h hP hD hS hl
    refine lv_istore (lv' := [(4, .int t0), (0, .ref (ad 12)), (1, .ref (ad (20 + x1))), (2, .int x2)]) C.1 C.2.1 dX2_isAtomic_35 hl (by decide) rfl (fun ls hl => ?_)
    refine lv_iconst (v := 0) C.1 C.2.1 dX2_isAtomic_37 (by decide) ?_
    refine lv_istore (lv' := [(5, .int (0 : Int32)), (4, .int t0), (0, .ref (ad 12)), (1, .ref (ad (20 + x1))), (2, .int x2)]) C.1 C.2.1 dX2_isAtomic_38 hl (by decide) rfl (fun ls hl => ?_)
    obtain ⟨N, h⟩ := h
    exact L40 N x1 x2 t0 (0 : Int32) hx1 S H locs ls h hP hD hS (lv_sub hl [2, 3, 4, 1, 0] rfl)
  refine lv_aload_n C.1 C.2.1 dX2_isAtomic_0 rfl (lv_at hl 1 rfl) ?_
  refine xg0_reserve hx1 C hinX0 hK hP (hN _ (by decide +kernel)) dX2_isAtomic_1 ?_
  refine lv_iconst (v := -1) C.1 C.2.1 dX2_isAtomic_4 (by decide) ?_
  refine lv_icmp_ne (tgt := 10) C.1 C.2.1 dX2_isAtomic_5 (by decide) (fun c19 => ?_) (fun c19 => ?_)
  · have h := h.1 c19
    refine lv_aload_n C.1 C.2.1 dX2_isAtomic_10 rfl (lv_at hl 0 rfl) ?_
    refine xg2_sources C hinX2 hK hP (by decide +kernel) dX2_isAtomic_11 ?_
    refine lv_aload_n C.1 C.2.1 dX2_isAtomic_14 rfl (lv_at hl 1 rfl) ?_
    refine xg0_reserve hx1 C hinX0 hK hP (hN _ (by decide +kernel)) dX2_isAtomic_15 ?_
    obtain ⟨g15, h⟩ := h
    refine xa_2_sources C hK hP g15  rfl dX2_isAtomic_18 ?_
    refine lv_topi (fun y16 ey16 => ?_)
    have h := h y16 ey16
    refine lv_istore_n (lv' := [(3, .int y16), (0, .ref (ad 12)), (1, .ref (ad (20 + x1))), (2, .int x2)]) C.1 C.2.1 dX2_isAtomic_19 rfl hl (by decide) rfl (fun ls hl => ?_)
    refine lv_iload_n C.1 C.2.1 dX2_isAtomic_20 rfl (lv_at hl 0 rfl) ?_
    refine lv_iconst (v := -1) C.1 C.2.1 dX2_isAtomic_21 (by decide) ?_
    refine lv_icmp_ne (tgt := 29) C.1 C.2.1 dX2_isAtomic_22 (by decide) (fun c18 => ?_) (fun c18 => ?_)
    · have h := h.1 c18
      refine lv_aload_n C.1 C.2.1 dX2_isAtomic_29 rfl (lv_at hl 1 rfl) ?_
      refine xg2_spots C hinX2 hK hP (by decide +kernel) dX2_isAtomic_30 ?_
      refine lv_iload_n C.1 C.2.1 dX2_isAtomic_33 rfl (lv_at hl 0 rfl) ?_
      obtain ⟨g17, h⟩ := h
      refine xa_2_spots C hK hP g17  rfl dX2_isAtomic_34 ?_
      exact B35 x1 x2 (S.1 26 (Int32.toNatClampNeg y16)) hx1 S H locs ls h hP hD hS (lv_sub hl [1, 2, 3] rfl)
    · have h := h.2 c18
      refine lv_iconst (v := -1) C.1 C.2.1 dX2_isAtomic_25 (by decide) ?_
      refine lv_goto (tgt := 35) C.1 C.2.1 dX2_isAtomic_26 (by decide) ?_
      exact B35 x1 x2 (-1 : Int32) hx1 S H locs ls h hP hD hS (lv_sub hl [1, 2, 3] rfl)
  · have h := h.2 c19
    refine lv_iconst (v := 1) C.1 C.2.1 dX2_isAtomic_8 (by decide) ?_
    exact hret _ _ _ _ _ _ dX2_isAtomic_9 zb_1 h hP hD hS
theorem mX2_isAtomic (l : Launch) (g : va_G) (ct : Nat → ClassId) (ad : Nat → Nat) (n ro sz : Nat) (S : St) (x1 : Nat) (x2 : Int32) (hx1 : x1 < 6) (Q : Int32 → St → Prop) (h : pX2_isAtomic x1 x2 S Q) : Met l yX2_isAtomic wsX2_isAtomic ({ frames := 1, cells := 0, slots := 0, locals := 21 }) (gPc g (xT ct) (wX ct ad n ro S) sz [.ref (ad 12), .ref (ad (20 + x1)), .int x2]) (va_Qi Q (gB g (xT ct) (wX ct ad n ro) (va_A (wX ct ad n ro S) sz)) (va_A (wX ct ad n ro S) sz)) 0 0 (va_A (wX ct ad n ro S) sz) :=
  g_metZ (w := wX ct ad n ro) (cc := cX2_isAtomic) (maxL := 8) (by decide) rfl rfl (Nat.le_of_ble_eq_true rfl) rfl (fun p e s m args below meth c QQ A C hK hN hA hret H locs ls hP hD hS hl => kX2_isAtomic C hK hN hA (Nat.le_refl _) (Nat.le_refl _) Q hret x1 x2 hx1 S h H locs ls hP hD hS hl)

def pX3_removeAll (S : St) (Q : St → Prop) : Prop :=
  (∀ S1 : St, S1 = wr S 17 0 (0 : Int32) → Q S1)
set_option maxHeartbeats 40000000 in
set_option maxRecDepth 100000 in
theorem kX3_removeAll {p : Program} {l : Launch} {e : Env} {R : Room} {s : State} {m : MethodId} {args : Array Value} {below : List Frame} {meth : Method} {c : Code} {QQ : State → Prop} {g : va_G} {ct : Nat → ClassId} {ad : Nat → Nat} {n ro : Nat} {A : Nat → Prop} (C : CallFix p m c cX3_removeAll 1 s args wsX3_removeAll RX3) (hK : va_K g vwCl (xT ct) s) (hN : xN s) (hA : ∀ q, s.heap.size ≤ q → A q) (hRf : 0 ≤ R.frames) (hRl : 0 ≤ R.locals) (Q : St → Prop) (hret : ∀ (pc : Nat) (S : St) (H : Heap) (locs : List Loc) (ls : Array Slot), decode cX3_removeAll pc = .ok (.return_, 1) → Q S → va_P g vwCl (wX ct ad n ro S) H → va_D A (wX ct ad n ro S) → va_S A s.heap H locs → W p l e R s m args below meth c H locs 0 0 QQ (F0 m pc ls [])) (S : St) (h : pX3_removeAll S Q) (H : Heap) (locs : List Loc) (ls : Array Slot) (hP : va_P g vwCl (wX ct ad n ro S) H) (hD : va_D A (wX ct ad n ro S)) (hS : va_S A s.heap H locs) (hl : lv_has ls 1 [(0, .ref (ad 16))]) : W p l e R s m args below meth c H locs 0 0 QQ (F0 m 0 ls []) := by
  have hinX3 : ∀ w ∈ wsX30, w ∈ wsX3_removeAll := by decide +kernel
  refine lv_aload_n C.1 C.2.1 dX3_removeAll_0 rfl (lv_at hl 0 rfl) ?_
  refine lv_iconst (v := 0) C.1 C.2.1 dX3_removeAll_1 (by decide) ?_
  obtain ⟨S1, eS1⟩ : ∃ z : St, z = wr S 17 0 (0 : Int32) := ⟨_, rfl⟩
  have h := h S1 eS1
  refine xp3_size C hinX3 hK hP hD hS (by decide +kernel) dX3_removeAll_2 (fun H locs hP hD hS => ?_)
  rw [← eS1] at hP hD
  exact hret _ _ _ _ _ dX3_removeAll_5 h hP hD hS
theorem mX3_removeAll (l : Launch) (g : va_G) (ct : Nat → ClassId) (ad : Nat → Nat) (n ro sz : Nat) (S : St) (Q : St → Prop) (h : pX3_removeAll S Q) : Met l yX3_removeAll wsX3_removeAll ({ frames := 0, cells := 0, slots := 0, locals := 0 }) (gPc g (xT ct) (wX ct ad n ro S) sz [.ref (ad 16)]) (va_Qv Q (gB g (xT ct) (wX ct ad n ro) (va_A (wX ct ad n ro S) sz)) (va_A (wX ct ad n ro S) sz)) 0 0 (va_A (wX ct ad n ro S) sz) :=
  g_metV (w := wX ct ad n ro) (cc := cX3_removeAll) (maxL := 1) (by decide) rfl rfl (Nat.le_of_ble_eq_true rfl) rfl (fun p e s m args below meth c QQ A C hK hN hA hret H locs ls hP hD hS hl => kX3_removeAll C hK hN hA (Nat.le_refl _) (Nat.le_refl _) Q hret  S h H locs ls hP hD hS hl)
