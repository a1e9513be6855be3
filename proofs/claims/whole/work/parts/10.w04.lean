def bX5_isPlausible_44 (k2 : Int32 → St → Prop) (Q : Int32 → St → Prop) (x1 : Int32) (S : St) : Prop :=
  (∀ y1 : Int32, y1 = x1 + (1 : Int32) → k2 y1 S)
def bX5_isPlausible_2 (k2 : Int32 → St → Prop) (Q : Int32 → St → Prop) (x1 : Int32) (S : St) : Prop :=
  (((S.1 7 0) ≤ x1 → Q (1 : Int32) S) ∧ (¬ ((S.1 7 0) ≤ x1) → (vp_in x1 6 ∧ ∀ i2 : Nat, i2 = Int32.toNatClampNeg x1 → (((S.1 34 i2) = 0 → bX5_isPlausible_44 k2 Q x1 S) ∧ (¬ ((S.1 34 i2) = 0) → (vp_in x1 6 ∧ ∀ i4 : Nat, i4 = Int32.toNatClampNeg x1 → (((S.1 36 i4) = 0 → bX5_isPlausible_44 k2 Q x1 S) ∧ (¬ ((S.1 36 i4) = 0) → pX5_isWrittenFor x1 S (fun (r7 : Int32) (S6 : St) => ((¬ r7 = 0 → bX5_isPlausible_44 k2 Q x1 S6) ∧ (r7 = 0 → Q (0 : Int32) S6)))))))))))
def pX5_isPlausible (S : St) (Q : Int32 → St → Prop) : Prop :=
  (∃ N : Nat, itr (F := Int32 → St → Prop) (fun _ _ => False) (fun k2 x1 S => bX5_isPlausible_2 k2 Q x1 S) N (0 : Int32) S)
set_option maxHeartbeats 40000000 in
set_option maxRecDepth 100000 in
theorem kX5_isPlausible {p : Program} {l : Launch} {e : Env} {R : Room} {s : State} {m : MethodId} {args : Array Value} {below : List Frame} {meth : Method} {c : Code} {QQ : State → Prop} {g : va_G} {ct : Nat → ClassId} {ad : Nat → Nat} {n ro : Nat} {A : Nat → Prop} (C : CallFix p m c cX5_isPlausible 2 s args wsX5_isPlausible RX5) (hK : va_K g vwCl (xT ct) s) (hN : xN s) (hA : ∀ q, s.heap.size ≤ q → A q) (hRf : 1 ≤ R.frames) (hRl : 24 ≤ R.locals) (Q : Int32 → St → Prop) (hret : ∀ (pc : Nat) (r : Int32) (S : St) (H : Heap) (locs : List Loc) (ls : Array Slot), decode cX5_isPlausible pc = .ok (.ireturn, 1) → zb r → Q r S → va_P g vwCl (wX ct ad n ro S) H → va_D A (wX ct ad n ro S) → va_S A s.heap H locs → W p l e R s m args below meth c H locs 0 0 QQ (F0 m pc ls [.int r])) (S : St) (h : pX5_isPlausible S Q) (H : Heap) (locs : List Loc) (ls : Array Slot) (hP : va_P g vwCl (wX ct ad n ro S) H) (hD : va_D A (wX ct ad n ro S)) (hS : va_S A s.heap H locs) (hl : lv_has ls 2 [(0, .ref (ad 8))]) : W p l e R s m args below meth c H locs 0 0 QQ (F0 m 0 ls []) := by
  have hinX0 : ∀ w ∈ wsX00, w ∈ wsX5_isPlausible := by decide +kernel
  have hinX5 : ∀ w ∈ wsX50, w ∈ wsX5_isPlausible := by decide +kernel
  have B44 : ∀ (k2 : Int32 → St → Prop) (hk2 : ∀ (x1 : Int32) (S : St) (H : Heap) (locs : List Loc) (ls : Array Slot), k2 x1 S → va_P g vwCl (wX ct ad n ro S) H → va_D A (wX ct ad n ro S) → va_S A s.heap H locs → lv_has ls 2 [(0, .ref (ad 8)), (1, .int x1)] → W p l e R s m args below meth c H locs 0 0 QQ (F0 m 2 ls [])) (x1 : Int32) (S : St) (H : Heap) (locs : List Loc) (ls : Array Slot), bX5_isPlausible_44 k2 Q x1 S → va_P g vwCl (wX ct ad n ro S) H → va_D A (wX ct ad n ro S) → va_S A s.heap H locs → lv_has ls 2 [(0, .ref (ad 8)), (1, .int x1)] → W p l e R s m args below meth c H locs 0 0 QQ (F0 m 44 ls []) := by
    intro k2 hk2 x1 S H locs ls h hP hD hS hl
    obtain ⟨y1, ey1⟩ : ∃ z : Int32, z = x1 + (1 : Int32) := ⟨_, rfl⟩
    have h := h y1 ey1
    refine lv_iinc (v := y1) (lv' := [(1, .int y1), (0, .ref (ad 8))]) C.1 C.2.1 dX5_isPlausible_44 hl (k := 1) rfl (by rw [ey1]; rfl) (by decide) rfl (fun ls hl => ?_)
    refine lv_goto (tgt := 2) C.1 C.2.1 dX5_isPlausible_47 (by decide) ?_
    exact hk2 y1 S H locs ls h hP hD hS (lv_sub hl [1, 0] rfl)
  have B2 : ∀ (k2 : Int32 → St → Prop) (hk2 : ∀ (x1 : Int32) (S : St) (H : Heap) (locs : List Loc) (ls : Array Slot), k2 x1 S → va_P g vwCl (wX ct ad n ro S) H → va_D A (wX ct ad n ro S) → va_S A s.heap H locs → lv_has ls 2 [(0, .ref (ad 8)), (1, .int x1)] → W p l e R s m args below meth c H locs 0 0 QQ (F0 m 2 ls [])) (x1 : Int32) (S : St) (H : Heap) (locs : List Loc) (ls : Array Slot), bX5_isPlausible_2 k2 Q x1 S → va_P g vwCl (wX ct ad n ro S) H → va_D A (wX ct ad n ro S) → va_S A s.heap H locs → lv_has ls 2 [(0, .ref (ad 8)), (1, .int x1)] → W p l e R s m args below meth c H locs 0 0 QQ (F0 m 2 ls []) := by
    intro k2 hk2 x1 S H locs ls h hP hD hS hl
    refine lv_iload_n C.1 C.2.1 dX5_isPlausible_2 rfl (lv_at hl 1 rfl) ?_
    refine lv_aload_n C.1 C.2.1 dX5_isPlausible_3 rfl (lv_at hl 0 rfl) ?_
    refine xg5_size C hinX5 hK hP (by decide +kernel) dX5_isPlausible_4 ?_
    refine lv_icmp_ge (tgt := 50) C.1 C.2.1 dX5_isPlausible_7 (by decide) (fun c11 => ?_) (fun c11 => ?_)
    · have h := h.1 c11
      refine lv_iconst (v := 1) C.1 C.2.1 dX5_isPlausible_50 (by decide) ?_
      exact hret _ _ _ _ _ _ dX5_isPlausible_51 zb_1 h hP hD hS
    · have h := h.2 c11
      refine lv_aload_n C.1 C.2.1 dX5_isPlausible_10 rfl (lv_at hl 0 rfl) ?_
      refine xg5_accesses C hinX5 hK hP (by decide +kernel) dX5_isPlausible_11 ?_
      refine lv_iload_n C.1 C.2.1 dX5_isPlausible_14 rfl (lv_at hl 1 rfl) ?_
      obtain ⟨g3, h⟩ := h
      obtain ⟨i2, ei2⟩ : ∃ z : Nat, z = Int32.toNatClampNeg x1 := ⟨_, rfl⟩
      have h := h i2 ei2
      have hi2 : i2 < 6 := by rw [ei2]; exact lt_in g3
      refine xq_acc C hK hP g3 ei2 dX5_isPlausible_15 ?_
      refine xg0_reads hi2 C hinX0 hK hP (hN _ (by decide +kernel)) dX5_isPlausible_16 ?_
      refine lv_if_eq (tgt := 44) C.1 C.2.1 dX5_isPlausible_19 (by decide) (fun c10 => ?_) (fun c10 => ?_)
      · have h := h.1 c10
        exact B44 k2 hk2 x1 S H locs ls h hP hD hS (lv_sub hl [0, 1] rfl)
      · have h := h.2 c10
        refine lv_aload_n C.1 C.2.1 dX5_isPlausible_22 rfl (lv_at hl 0 rfl) ?_
        refine xg5_accesses C hinX5 hK hP (by decide +kernel) dX5_isPlausible_23 ?_
        refine lv_iload_n C.1 C.2.1 dX5_isPlausible_26 rfl (lv_at hl 1 rfl) ?_
        obtain ⟨g5, h⟩ := h
        obtain ⟨i4, ei4⟩ : ∃ z : Nat, z = Int32.toNatClampNeg x1 := ⟨_, rfl⟩
        have h := h i4 ei4
        have hi4 : i4 < 6 := by rw [ei4]; exact lt_in g5
        refine xq_acc C hK hP g5 ei4 dX5_isPlausible_27 ?_
        refine xg0_got hi4 C hinX0 hK hP (hN _ (by decide +kernel)) dX5_isPlausible_28 ?_
        refine lv_if_eq (tgt := 44) C.1 C.2.1 dX5_isPlausible_31 (by decide) (fun c9 => ?_) (fun c9 => ?_)
        · have h := h.1 c9
          exact B44 k2 hk2 x1 S H locs ls h hP hD hS (lv_sub hl [0, 1] rfl)
        · have h := h.2 c9
          refine lv_aload_n C.1 C.2.1 dX5_isPlausible_34 rfl (lv_at hl 0 rfl) ?_
          refine lv_iload_n C.1 C.2.1 dX5_isPlausible_35 rfl (lv_at hl 1 rfl) ?_
          refine g_callVi (w := wX ct ad n ro) C hK hN hA hP hD hS (mX5_isWrittenFor l g ct ad n ro H.size S x1  _ h) (cwV 1 C.2.2.2.2 gX5_isPlausible_X5_isWrittenFor rfl rfl rfl (by decide +kernel) ⟨Nat.le_trans (by decide) hRf, Nat.le_trans (by decide) hRl⟩) (va_recv hK hP (ci := 5) (q0 := 8) rfl rfl) rfl hl.1 rfl (Nat.le_of_ble_eq_true rfl) dX5_isPlausible_36 ⟨Nat.zero_le _, Nat.zero_le _⟩ (fun r7 S6 H locs h hP hD hS => ?_)
          refine lv_if_ne (tgt := 44) C.1 C.2.1 dX5_isPlausible_39 (by decide) (fun c8 => ?_) (fun c8 => ?_)
          · have h := h.1 c8
            exact B44 k2 hk2 x1 S6 H locs ls h hP hD hS (lv_sub hl [0, 1] rfl)
          · have h := h.2 c8
            refine lv_iconst (v := 0) C.1 C.2.1 dX5_isPlausible_42 (by decide) ?_
            exact hret _ _ _ _ _ _ dX5_isPlausible_43 zb_0 h hP hD hS
  have L2 : ∀ (N : Nat) (x1 : Int32) (S : St) (H : Heap) (locs : List Loc) (ls : Array Slot), itr (F := Int32 → St → Prop) (fun _ _ => False) (fun k2 x1 S => bX5_isPlausible_2 k2 Q x1 S) N x1 S → va_P g vwCl (wX ct ad n ro S) H → va_D A (wX ct ad n ro S) → va_S A s.heap H locs → lv_has ls 2 [(0, .ref (ad 8)), (1, .int x1)] → W p l e R s m args below meth c H locs 0 0 QQ (F0 m 2 ls []) := by
    intro N
    induction N with
    | zero => intro x1 S H locs ls h hP hD hS hl; exact False.elim h
    | succ N ih => intro x1 S H locs ls h hP hD hS hl; exact B2  (itr (F := Int32 → St → Prop) (fun _ _ => False) (fun k2 x1 S => bX5_isPlausible_2 k2 Q x1 S) N) ih x1 S H locs ls h  hP hD hS hl
  refine lv_iconst (v := 0) C.1 C.2.1 dX5_isPlausible_0 (by decide) ?_
  refine lv_istore_n (lv' := [(1, .int (0 : Int32)), (0, .ref (ad 8))]) C.1 C.2.1 dX5_isPlausible_1 rfl hl (by decide) rfl (fun ls hl => ?_)
  obtain ⟨N, h⟩ := h
  exact L2 N (0 : Int32) S H locs ls h hP hD hS (lv_sub hl [1, 0] rfl)
theorem mX5_isPlausible (l : Launch) (g : va_G) (ct : Nat → ClassId) (ad : Nat → Nat) (n ro sz : Nat) (S : St) (Q : Int32 → St → Prop) (h : pX5_isPlausible S Q) : Met l yX5_isPlausible wsX5_isPlausible ({ frames := 1, cells := 0, slots := 0, locals := 24 }) (gPc g (xT ct) (wX ct ad n ro S) sz [.ref (ad 8)]) (va_Qi Q (gB g (xT ct) (wX ct ad n ro) (va_A (wX ct ad n ro S) sz)) (va_A (wX ct ad n ro S) sz)) 0 0 (va_A (wX ct ad n ro S) sz) :=
  g_metZ (w := wX ct ad n ro) (cc := cX5_isPlausible) (maxL := 2) (by decide) rfl rfl (Nat.le_of_ble_eq_true rfl) rfl (fun p e s m args below meth c QQ A C hK hN hA hret H locs ls hP hD hS hl => kX5_isPlausible C hK hN hA (Nat.le_refl _) (Nat.le_refl _) Q hret  S h H locs ls hP hD hS hl)

def pX6_clear (S : St) (Q : Int32 → St → Prop) : Prop :=
  (∀ S1 : St, S1 = wr S 2 0 (0 : Int32) → pX4_removeAll S1 (fun (r3 : Int32) (S2 : St) => Q r3 S2))
set_option maxHeartbeats 40000000 in
set_option maxRecDepth 100000 in
theorem kX6_clear {p : Program} {l : Launch} {e : Env} {R : Room} {s : State} {m : MethodId} {args : Array Value} {below : List Frame} {meth : Method} {c : Code} {QQ : State → Prop} {g : va_G} {ct : Nat → ClassId} {ad : Nat → Nat} {n ro : Nat} {A : Nat → Prop} (C : CallFix p m c cX6_clear 1 s args wsX6_clear RX6) (hK : va_K g vwCl (xT ct) s) (hN : xN s) (hA : ∀ q, s.heap.size ≤ q → A q) (hRf : 2 ≤ R.frames) (hRl : 46 ≤ R.locals) (Q : Int32 → St → Prop) (hret : ∀ (pc : Nat) (r : Int32) (S : St) (H : Heap) (locs : List Loc) (ls : Array Slot), decode cX6_clear pc = .ok (.ireturn, 1) → Q r S → va_P g vwCl (wX ct ad n ro S) H → va_D A (wX ct ad n ro S) → va_S A s.heap H locs → W p l e R s m args below meth c H locs 0 0 QQ (F0 m pc ls [.int r])) (S : St) (h : pX6_clear S Q) (H : Heap) (locs : List Loc) (ls : Array Slot) (hP : va_P g vwCl (wX ct ad n ro S) H) (hD : va_D A (wX ct ad n ro S)) (hS : va_S A s.heap H locs) (hl : lv_has ls 1 [(0, .ref (ad 0))]) : W p l e R s m args below meth c H locs 0 0 QQ (F0 m 0 ls []) := by
  have hinX6 : ∀ w ∈ wsX60, w ∈ wsX6_clear := by decide +kernel
  refine lv_aload_n C.1 C.2.1 dX6_clear_0 rfl (lv_at hl 0 rfl) ?_
  refine lv_iconst (v := 0) C.1 C.2.1 dX6_clear_1 (by decide) ?_
  obtain ⟨S1, eS1⟩ : ∃ z : St, z = wr S 2 0 (0 : Int32) := ⟨_, rfl⟩
  have h := h S1 eS1
  refine xp6_found C hinX6 hK hP hD hS (by decide +kernel) zb_0 dX6_clear_2 (fun H locs hP hD hS => ?_)
  rw [← eS1] at hP hD
  refine lv_aload_n C.1 C.2.1 dX6_clear_5 rfl (lv_at hl 0 rfl) ?_
  refine xg6_programs C hinX6 hK hP (by decide +kernel) dX6_clear_6 ?_
  refine g_callVi (w := wX ct ad n ro) C hK hN hA hP hD hS (mX4_removeAll l g ct ad n ro H.size S1   _ h) (cwV 0 C.2.2.2.2 gX6_clear_X4_removeAll rfl rfl rfl (by decide +kernel) ⟨Nat.le_trans (by decide) hRf, Nat.le_trans (by decide) hRl⟩) (va_recv hK hP (ci := 4) (q0 := 1) rfl rfl) rfl hl.1 rfl (Nat.le_of_ble_eq_true rfl) dX6_clear_9 ⟨Nat.zero_le _, Nat.zero_le _⟩ (fun r3 S2 H locs h hP hD hS => ?_)
  exact hret _ _ _ _ _ _ dX6_clear_12 h hP hD hS
theorem mX6_clear (l : Launch) (g : va_G) (ct : Nat → ClassId) (ad : Nat → Nat) (n ro sz : Nat) (S : St) (Q : Int32 → St → Prop) (h : pX6_clear S Q) : Met l yX6_clear wsX6_clear ({ frames := 2, cells := 0, slots := 0, locals := 46 }) (gPc g (xT ct) (wX ct ad n ro S) sz [.ref (ad 0)]) (va_Qi Q (gB g (xT ct) (wX ct ad n ro) (va_A (wX ct ad n ro S) sz)) (va_A (wX ct ad n ro S) sz)) 0 0 (va_A (wX ct ad n ro S) sz) :=
  g_metI (w := wX ct ad n ro) (cc := cX6_clear) (maxL := 1) (by decide) rfl rfl (Nat.le_of_ble_eq_true rfl) rfl (fun p e s m args below meth c QQ A C hK hN hA hret H locs ls hP hD hS hl => kX6_clear C hK hN hA (Nat.le_refl _) (Nat.le_refl _) Q hret  S h H locs ls hP hD hS hl)

def bX6_model_9 (Q : Int32 → St → Prop) (S : St) : Prop :=
  Q (-2 : Int32) S
def pX6_model (x1 : Int32) (S : St) (Q : Int32 → St → Prop) : Prop :=
  ((x1 < 0 → bX6_model_9 Q  S) ∧ (¬ (x1 < 0) → ((x1 < (3 : Int32) → (∀ y1 : Int32, y1 = (S.1 0 0) → (∀ S2 : St, S2 = wr S 0 0 x1 → (∀ S3 : St, S3 = wr S2 2 0 (0 : Int32) → Q y1 S3)))) ∧ (¬ (x1 < (3 : Int32)) → bX6_model_9 Q  S))))
set_option maxHeartbeats 40000000 in
set_option maxRecDepth 100000 in
theorem kX6_model {p : Program} {l : Launch} {e : Env} {R : Room} {s : State} {m : MethodId} {args : Array Value} {below : List Frame} {meth : Method} {c : Code} {QQ : State → Prop} {g : va_G} {ct : Nat → ClassId} {ad : Nat → Nat} {n ro : Nat} {A : Nat → Prop} (C : CallFix p m c cX6_model 3 s args wsX6_model RX6) (hK : va_K g vwCl (xT ct) s) (hN : xN s) (hA : ∀ q, s.heap.size ≤ q → A q) (hRf : 0 ≤ R.frames) (hRl : 0 ≤ R.locals) (Q : Int32 → St → Prop) (hret : ∀ (pc : Nat) (r : Int32) (S : St) (H : Heap) (locs : List Loc) (ls : Array Slot), decode cX6_model pc = .ok (.ireturn, 1) → Q r S → va_P g vwCl (wX ct ad n ro S) H → va_D A (wX ct ad n ro S) → va_S A s.heap H locs → W p l e R s m args below meth c H locs 0 0 QQ (F0 m pc ls [.int r])) (x1 : Int32) (S : St) (h : pX6_model x1 S Q) (H : Heap) (locs : List Loc) (ls : Array Slot) (hP : va_P g vwCl (wX ct ad n ro S) H) (hD : va_D A (wX ct ad n ro S)) (hS : va_S A s.heap H locs) (hl : lv_has ls 3 [(0, .ref (ad 0)), (1, .int x1)]) : W p l e R s m args below meth c H locs 0 0 QQ (F0 m 0 ls []) := by
  have hinX6 : ∀ w ∈ wsX60, w ∈ wsX6_model := by decide +kernel
  have B9 : ∀ (S : St) (H : Heap) (locs : List Loc) (ls : Array Slot), bX6_model_9 Q S → va_P g vwCl (wX ct ad n ro S) H → va_D A (wX ct ad n ro S) → va_S A s.heap H locs → lv_has ls 3 [(0, .ref (ad 0))] → W p l e R s m args below meth c H locs 0 0 QQ (F0 m 9 ls []) := by
    intro S H locs ls h hP hD hS hl
    refine lv_bipush (v := -2) C.1 C.2.1 dX6_model_9 (by decide) ?_
    exact hret _ _ _ _ _ _ dX6_model_11 h hP hD hS
  refine lv_iload_n C.1 C.2.1 dX6_model_0 rfl (lv_at hl 1 rfl) ?_
  refine lv_if_lt (tgt := 9) C.1 C.2.1 dX6_model_1 (by decide) (fun c5 => ?_) (fun c5 => ?_)
  · have h := h.1 c5
    exact B9  S H locs ls h hP hD hS (lv_sub hl [0] rfl)
  · have h := h.2 c5
    refine lv_iload_n C.1 C.2.1 dX6_model_4 rfl (lv_at hl 1 rfl) ?_
    refine lv_iconst (v := 3) C.1 C.2.1 dX6_model_5 (by decide) ?_
    refine lv_icmp_lt (tgt := 12) C.1 C.2.1 dX6_model_6 (by decide) (fun c4 => ?_) (fun c4 => ?_)
    · have h := h.1 c4
      refine lv_aload_n C.1 C.2.1 dX6_model_12 rfl (lv_at hl 0 rfl) ?_
      refine xg6_model C hinX6 hK hP (by decide +kernel) dX6_model_13 ?_
      refine lv_topi (fun y1 ey1 => ?_)
      have h := h y1 ey1
      refine lv_istore_n (lv' := [(2, .int y1), (0, .ref (ad 0)), (1, .int x1)]) C.1 C.2.1 dX6_model_16 rfl hl (by decide) rfl (fun ls hl => ?_)
      refine lv_aload_n C.1 C.2.1 dX6_model_17 rfl (lv_at hl 1 rfl) ?_
      refine lv_iload_n C.1 C.2.1 dX6_model_18 rfl (lv_at hl 2 rfl) ?_
      obtain ⟨S2, eS2⟩ : ∃ z : St, z = wr S 0 0 x1 := ⟨_, rfl⟩
      have h := h S2 eS2
      refine xp6_model C hinX6 hK hP hD hS (by decide +kernel) dX6_model_19 (fun H locs hP hD hS => ?_)
      rw [← eS2] at hP hD
      refine lv_aload_n C.1 C.2.1 dX6_model_22 rfl (lv_at hl 1 rfl) ?_
      refine lv_iconst (v := 0) C.1 C.2.1 dX6_model_23 (by decide) ?_
      obtain ⟨S3, eS3⟩ : ∃ z : St, z = wr S2 2 0 (0 : Int32) := ⟨_, rfl⟩
      have h := h S3 eS3
      refine xp6_found C hinX6 hK hP hD hS (by decide +kernel) zb_0 dX6_model_24 (fun H locs hP hD hS => ?_)
      rw [← eS3] at hP hD
      refine lv_iload_n C.1 C.2.1 dX6_model_27 rfl (lv_at hl 0 rfl) ?_
      exact hret _ _ _ _ _ _ dX6_model_28 h hP hD hS
    · have h := h.2 c4
      exact B9  S H locs ls h hP hD hS (lv_sub hl [0] rfl)
theorem mX6_model (l : Launch) (g : va_G) (ct : Nat → ClassId) (ad : Nat → Nat) (n ro sz : Nat) (S : St) (x1 : Int32) (Q : Int32 → St → Prop) (h : pX6_model x1 S Q) : Met l yX6_model wsX6_model ({ frames := 0, cells := 0, slots := 0, locals := 0 }) (gPc g (xT ct) (wX ct ad n ro S) sz [.ref (ad 0), .int x1]) (va_Qi Q (gB g (xT ct) (wX ct ad n ro) (va_A (wX ct ad n ro S) sz)) (va_A (wX ct ad n ro S) sz)) 0 0 (va_A (wX ct ad n ro S) sz) :=
  g_metI (w := wX ct ad n ro) (cc := cX6_model) (maxL := 3) (by decide) rfl rfl (Nat.le_of_ble_eq_true rfl) rfl (fun p e s m args below meth c QQ A C hK hN hA hret H locs ls hP hD hS hl => kX6_model C hK hN hA (Nat.le_refl _) (Nat.le_refl _) Q hret x1 S h H locs ls hP hD hS hl)

def bX6_outcome_21 (n : Nat) (Q : Int64 → St → Prop) (t0 : Int64) (S : St) : Prop :=
  Q t0 S
def pX6_outcome (n : Nat) (x1 : Int32) (S : St) (Q : Int64 → St → Prop) : Prop :=
  (((S.1 2 0) = 0 → bX6_outcome_21 n Q (-1 : Int64) S) ∧ (¬ ((S.1 2 0) = 0) → pX3_at n x1 S (fun (r2 : Int64) (S1 : St) => bX6_outcome_21 n Q r2 S1)))
set_option maxHeartbeats 40000000 in
set_option maxRecDepth 100000 in
theorem kX6_outcome {p : Program} {l : Launch} {e : Env} {R : Room} {s : State} {m : MethodId} {args : Array Value} {below : List Frame} {meth : Method} {c : Code} {QQ : State → Prop} {g : va_G} {ct : Nat → ClassId} {ad : Nat → Nat} {n ro : Nat} {A : Nat → Prop} (C : CallFix p m c cX6_outcome 2 s args wsX6_outcome RX6) (hK : va_K g vwCl (xT ct) s) (hN : xN s) (hA : ∀ q, s.heap.size ≤ q → A q) (hRf : 1 ≤ R.frames) (hRl : 21 ≤ R.locals) (Q : Int64 → St → Prop) (hret : ∀ (pc : Nat) (r : Int64) (S : St) (H : Heap) (locs : List Loc) (ls : Array Slot), decode cX6_outcome pc = .ok (.lreturn, 1) → Q r S → va_P g vwCl (wX ct ad n ro S) H → va_D A (wX ct ad n ro S) → va_S A s.heap H locs → W p l e R s m args below meth c H locs 0 0 QQ (F0 m pc ls [.long r])) (x1 : Int32) (S : St) (h : pX6_outcome n x1 S Q) (H : Heap) (locs : List Loc) (ls : Array Slot) (hP : va_P g vwCl (wX ct ad n ro S) H) (hD : va_D A (wX ct ad n ro S)) (hS : va_S A s.heap H locs) (hl : lv_has ls 2 [(0, .ref (ad 0)), (1, .int x1)]) : W p l e R s m args below meth c H locs 0 0 QQ (F0 m 0 ls []) := by
  have hinX6 : ∀ w ∈ wsX60, w ∈ wsX6_outcome := by decide +kernel
  have B21 : ∀ (t0 : Int64) (S : St) (H : Heap) (locs : List Loc) (ls : Array Slot), bX6_outcome_21 n Q t0 S → va_P g vwCl (wX ct ad n ro S) H → va_D A (wX ct ad n ro S) → va_S A s.heap H locs → lv_has ls 2 [(0, .ref (ad 0))] → W p l e R s m args below meth c H locs 0 0 QQ (F0 m 21 ls [.long t0]) := by
    intro t0 S H locs ls h hP hD hS hl
    exact hret _ _ _ _ _ _ dX6_outcome_21 h hP hD hS
  refine lv_aload_n C.1 C.2.1 dX6_outcome_0 rfl (lv_at hl 0 rfl) ?_
  refine xg6_found C hinX6 hK hP (by decide +kernel) dX6_outcome_1 ?_
  refine lv_if_eq (tgt := 18) C.1 C.2.1 dX6_outcome_4 (by decide) (fun c3 => ?_) (fun c3 => ?_)
  · have h := h.1 c3
    refine lv_ldc2 (v := -1) C.1 C.2.1 C.2.2.2.1 (C.2.2.2.2 (.constantLong RX6 97 (-1)) (by decide +kernel)) dX6_outcome_18 ?_
    exact B21 (-1 : Int64) S H locs ls h hP hD hS (lv_sub hl [0] rfl)
  · have h := h.2 c3
    refine lv_aload_n C.1 C.2.1 dX6_outcome_7 rfl (lv_at hl 0 rfl) ?_
    refine xg6_outcomes C hinX6 hK hP (by decide +kernel) dX6_outcome_8 ?_
    refine lv_iload_n C.1 C.2.1 dX6_outcome_11 rfl (lv_at hl 1 rfl) ?_
    refine g_callVj (w := wX ct ad n ro) C hK hN hA hP hD hS (mX3_at l g ct ad n ro H.size S x1  _ h) (cwV 1 C.2.2.2.2 gX6_outcome_X3_at rfl rfl rfl (by decide +kernel) ⟨Nat.le_trans (by decide) hRf, Nat.le_trans (by decide) hRl⟩) (va_recv hK hP (ci := 3) (q0 := 16) rfl rfl) rfl hl.1 rfl (Nat.le_of_ble_eq_true rfl) dX6_outcome_12 ⟨Nat.zero_le _, Nat.zero_le _⟩ (fun r2 S1 H locs h hP hD hS => ?_)
    refine lv_goto (tgt := 21) C.1 C.2.1 dX6_outcome_15 (by decide) ?_
    exact B21 r2 S1 H locs ls h hP hD hS (lv_sub hl [0] rfl)
theorem mX6_outcome (l : Launch) (g : va_G) (ct : Nat → ClassId) (ad : Nat → Nat) (n ro sz : Nat) (S : St) (x1 : Int32) (Q : Int64 → St → Prop) (h : pX6_outcome n x1 S Q) : Met l yX6_outcome wsX6_outcome ({ frames := 1, cells := 0, slots := 0, locals := 21 }) (gPc g (xT ct) (wX ct ad n ro S) sz [.ref (ad 0), .int x1]) (va_Ql Q (gB g (xT ct) (wX ct ad n ro) (va_A (wX ct ad n ro S) sz)) (va_A (wX ct ad n ro S) sz)) 0 0 (va_A (wX ct ad n ro S) sz) :=
  g_metJ (w := wX ct ad n ro) (cc := cX6_outcome) (maxL := 2) (by decide) rfl rfl (Nat.le_of_ble_eq_true rfl) rfl (fun p e s m args below meth c QQ A C hK hN hA hret H locs ls hP hD hS hl => kX6_outcome C hK hN hA (Nat.le_refl _) (Nat.le_refl _) Q hret x1 S h H locs ls hP hD hS hl)

def bX6_isPart_15 (Q : Int32 → Prop) (t0 : Int32) : Prop :=
  (zb t0 ∧ Q t0)
def bX6_isPart_14 (Q : Int32 → Prop) : Prop :=
  bX6_isPart_15 Q (0 : Int32)
def pX6_isPart (x0 : Int32) (Q : Int32 → Prop) : Prop :=
  ((x0 < 0 → bX6_isPart_14 Q ) ∧ (¬ (x0 < 0) → (((19 : Int32) ≤ x0 → bX6_isPart_14 Q ) ∧ (¬ ((19 : Int32) ≤ x0) → bX6_isPart_15 Q (1 : Int32)))))
set_option maxHeartbeats 40000000 in
set_option maxRecDepth 100000 in
theorem kX6_isPart {p : Program} {l : Launch} {e : Env} {R : Room} {s : State} {m : MethodId} {args : Array Value} {below : List Frame} {meth : Method} {c : Code} {QQ : State → Prop} {g : va_G} {tys : List (ClassId × FieldType)} {A : Nat → Prop} (C : CallFix p m c cX6_isPart 1 s args wsX6_isPart RX6) (hK : va_K g vwCl (tys) s) (hN : xN s) (hA : ∀ q, s.heap.size ≤ q → A q) (hRf : 0 ≤ R.frames) (hRl : 0 ≤ R.locals) (Q : Int32 → Prop) (hret : ∀ (pc : Nat) (r : Int32) (S : St) (H : Heap) (locs : List Loc) (ls : Array Slot), decode cX6_isPart pc = .ok (.ireturn, 1) → zb r → Q r → va_P g vwCl (w0 S) H → va_D A (w0 S) → va_S A s.heap H locs → W p l e R s m args below meth c H locs 0 0 QQ (F0 m pc ls [.int r])) (x0 : Int32) (S : St) (h : pX6_isPart x0 Q) (H : Heap) (locs : List Loc) (ls : Array Slot) (hP : va_P g vwCl (w0 S) H) (hD : va_D A (w0 S)) (hS : va_S A s.heap H locs) (hl : lv_has ls 1 [(0, .int x0)]) : W p l e R s m args below meth c H locs 0 0 QQ (F0 m 0 ls []) := by
  have B15 : ∀ (t0 : Int32) (S : St) (H : Heap) (locs : List Loc) (ls : Array Slot), bX6_isPart_15 Q t0 → va_P g vwCl (w0 S) H → va_D A (w0 S) → va_S A s.heap H locs → lv_has ls 1 [] → W p l e R s m args below meth c H locs 0 0 QQ (F0 m 15 ls [.int t0]) := by
    intro t0 S H locs ls h hP hD hS hl
    exact hret _ _ _ _ _ _ dX6_isPart_15 h.1 h.2 hP hD hS
  have B14 : ∀ (S : St) (H : Heap) (locs : List Loc) (ls : Array Slot), bX6_isPart_14 Q → va_P g vwCl (w0 S) H → va_D A (w0 S) → va_S A s.heap H locs → lv_has ls 1 [] → W p l e R s m args below meth c H locs 0 0 QQ (F0 m 14 ls []) := by
    intro S H locs ls h hP hD hS hl
    refine lv_iconst (v := 0) C.1 C.2.1 dX6_isPart_14 (by decide) ?_
    exact B15 (0 : Int32) S H locs ls h hP hD hS (lv_sub hl [] rfl)
  refine lv_iload_n C.1 C.2.1 dX6_isPart_0 rfl (lv_at hl 0 rfl) ?_
  refine lv_if_lt (tgt := 14) C.1 C.2.1 dX6_isPart_1 (by decide) (fun c2 => ?_) (fun c2 => ?_)
  · have h := h.1 c2
    exact B14  S H locs ls h hP hD hS (lv_sub hl [] rfl)
  · have h := h.2 c2
    refine lv_iload_n C.1 C.2.1 dX6_isPart_4 rfl (lv_at hl 0 rfl) ?_
    refine lv_bipush (v := 19) C.1 C.2.1 dX6_isPart_5 (by decide) ?_
    refine lv_icmp_ge (tgt := 14) C.1 C.2.1 dX6_isPart_7 (by decide) (fun c1 => ?_) (fun c1 => ?_)
    · have h := h.1 c1
      exact B14  S H locs ls h hP hD hS (lv_sub hl [] rfl)
    · have h := h.2 c1
      refine lv_iconst (v := 1) C.1 C.2.1 dX6_isPart_10 (by decide) ?_
      refine lv_goto (tgt := 15) C.1 C.2.1 dX6_isPart_11 (by decide) ?_
      exact B15 (1 : Int32) S H locs ls h hP hD hS (lv_sub hl [] rfl)
theorem mX6_isPart (l : Launch) (g : va_G) (tys : List (ClassId × FieldType)) (S : St) (sz : Nat) (x0 : Int32) (Q : Int32 → Prop) (h : pX6_isPart x0 Q) : Met l yX6_isPart wsX6_isPart ({ frames := 0, cells := 0, slots := 0, locals := 0 }) (gPc g (tys) (w0 S) sz [.int x0]) (va_Qi (fun r _ => Q r) (gB g (tys) (w0) (va_A (w0 S) sz)) (va_A (w0 S) sz)) 0 0 (va_A (w0 S) sz) :=
  g_metZ (w := w0) (Q := fun r _ => Q r) (cc := cX6_isPart) (maxL := 1) (by decide) rfl rfl (Nat.le_of_ble_eq_true rfl) rfl (fun p e s m args below meth c QQ A C hK hN hA hret H locs ls hP hD hS hl => kX6_isPart C hK hN hA (Nat.le_refl _) (Nat.le_refl _) Q hret x0 S h H locs ls hP hD hS hl)

def bX6_isValue_14 (Q : Int32 → Prop) (t0 : Int32) : Prop :=
  (zb t0 ∧ Q t0)
def bX6_isValue_13 (Q : Int32 → Prop) : Prop :=
  bX6_isValue_14 Q (0 : Int32)
def pX6_isValue (x0 : Int32) (Q : Int32 → Prop) : Prop :=
  ((x0 < 0 → bX6_isValue_13 Q ) ∧ (¬ (x0 < 0) → (((4 : Int32) ≤ x0 → bX6_isValue_13 Q ) ∧ (¬ ((4 : Int32) ≤ x0) → bX6_isValue_14 Q (1 : Int32)))))
set_option maxHeartbeats 40000000 in
set_option maxRecDepth 100000 in
theorem kX6_isValue {p : Program} {l : Launch} {e : Env} {R : Room} {s : State} {m : MethodId} {args : Array Value} {below : List Frame} {meth : Method} {c : Code} {QQ : State → Prop} {g : va_G} {tys : List (ClassId × FieldType)} {A : Nat → Prop} (C : CallFix p m c cX6_isValue 1 s args wsX6_isValue RX6) (hK : va_K g vwCl (tys) s) (hN : xN s) (hA : ∀ q, s.heap.size ≤ q → A q) (hRf : 0 ≤ R.frames) (hRl : 0 ≤ R.locals) (Q : Int32 → Prop) (hret : ∀ (pc : Nat) (r : Int32) (S : St) (H : Heap) (locs : List Loc) (ls : Array Slot), decode cX6_isValue pc = .ok (.ireturn, 1) → zb r → Q r → va_P g vwCl (w0 S) H → va_D A (w0 S) → va_S A s.heap H locs → W p l e R s m args below meth c H locs 0 0 QQ (F0 m pc ls [.int r])) (x0 : Int32) (S : St) (h : pX6_isValue x0 Q) (H : Heap) (locs : List Loc) (ls : Array Slot) (hP : va_P g vwCl (w0 S) H) (hD : va_D A (w0 S)) (hS : va_S A s.heap H locs) (hl : lv_has ls 1 [(0, .int x0)]) : W p l e R s m args below meth c H locs 0 0 QQ (F0 m 0 ls []) := by
  have B14 : ∀ (t0 : Int32) (S : St) (H : Heap) (locs : List Loc) (ls : Array Slot), bX6_isValue_14 Q t0 → va_P g vwCl (w0 S) H → va_D A (w0 S) → va_S A s.heap H locs → lv_has ls 1 [] → W p l e R s m args below meth c H locs 0 0 QQ (F0 m 14 ls [.int t0]) := by
    intro t0 S H locs ls h hP hD hS hl
    exact hret _ _ _ _ _ _ dX6_isValue_14 h.1 h.2 hP hD hS
  have B13 : ∀ (S : St) (H : Heap) (locs : List Loc) (ls : Array Slot), bX6_isValue_13 Q → va_P g vwCl (w0 S) H → va_D A (w0 S) → va_S A s.heap H locs → lv_has ls 1 [] → W p l e R s m args below meth c H locs 0 0 QQ (F0 m 13 ls []) := by
    intro S H locs ls h hP hD hS hl
    refine lv_iconst (v := 0) C.1 C.2.1 dX6_isValue_13 (by decide) ?_
    exact B14 (0 : Int32) S H locs ls h hP hD hS (lv_sub hl [] rfl)
  refine lv_iload_n C.1 C.2.1 dX6_isValue_0 rfl (lv_at hl 0 rfl) ?_
  refine lv_if_lt (tgt := 13) C.1 C.2.1 dX6_isValue_1 (by decide) (fun c2 => ?_) (fun c2 => ?_)
  · have h := h.1 c2
    exact B13  S H locs ls h hP hD hS (lv_sub hl [] rfl)
  · have h := h.2 c2
    refine lv_iload_n C.1 C.2.1 dX6_isValue_4 rfl (lv_at hl 0 rfl) ?_
    refine lv_iconst (v := 4) C.1 C.2.1 dX6_isValue_5 (by decide) ?_
    refine lv_icmp_ge (tgt := 13) C.1 C.2.1 dX6_isValue_6 (by decide) (fun c1 => ?_) (fun c1 => ?_)
    · have h := h.1 c1
      exact B13  S H locs ls h hP hD hS (lv_sub hl [] rfl)
    · have h := h.2 c1
      refine lv_iconst (v := 1) C.1 C.2.1 dX6_isValue_9 (by decide) ?_
      refine lv_goto (tgt := 14) C.1 C.2.1 dX6_isValue_10 (by decide) ?_
      exact B14 (1 : Int32) S H locs ls h hP hD hS (lv_sub hl [] rfl)
theorem mX6_isValue (l : Launch) (g : va_G) (tys : List (ClassId × FieldType)) (S : St) (sz : Nat) (x0 : Int32) (Q : Int32 → Prop) (h : pX6_isValue x0 Q) : Met l yX6_isValue wsX6_isValue ({ frames := 0, cells := 0, slots := 0, locals := 0 }) (gPc g (tys) (w0 S) sz [.int x0]) (va_Qi (fun r _ => Q r) (gB g (tys) (w0) (va_A (w0 S) sz)) (va_A (w0 S) sz)) 0 0 (va_A (w0 S) sz) :=
  g_metZ (w := w0) (Q := fun r _ => Q r) (cc := cX6_isValue) (maxL := 1) (by decide) rfl rfl (Nat.le_of_ble_eq_true rfl) rfl (fun p e s m args below meth c QQ A C hK hN hA hret H locs ls hP hD hS hl => kX6_isValue C hK hN hA (Nat.le_refl _) (Nat.le_refl _) Q hret x0 S h H locs ls hP hD hS hl)

def bX6_both_29 (n : Nat) (Q : Int32 → St → Prop) (S : St) : Prop :=
  Q (-2 : Int32) S
def bX6_both_55 (n : Nat) (Q : Int32 → St → Prop) (t0 : Int32) (S : St) : Prop :=
  Q t0 S
def pX6_both (n : Nat) (x1 : Int32) (x2 : Int32) (x3 : Int32) (x4 : Int32) (S : St) (Q : Int32 → St → Prop) : Prop :=
  pX6_isPart x1 (fun (r1 : Int32) => ((r1 = 0 → bX6_both_29 n Q  S) ∧ (¬ (r1 = 0) → pX6_isValue x2 (fun (r2 : Int32) => ((r2 = 0 → bX6_both_29 n Q  S) ∧ (¬ (r2 = 0) → pX6_isPart x3 (fun (r3 : Int32) => ((r3 = 0 → bX6_both_29 n Q  S) ∧ (¬ (r3 = 0) → pX6_isValue x4 (fun (r4 : Int32) => ((¬ r4 = 0 → (((S.1 2 0) = 0 → bX6_both_55 n Q (-1 : Int32) S) ∧ (¬ ((S.1 2 0) = 0) → pX3_howMany n x1 x2 x3 x4 S (fun (r6 : Int32) (S5 : St) => bX6_both_55 n Q r6 S5)))) ∧ (r4 = 0 → bX6_both_29 n Q  S))))))))))))
set_option maxHeartbeats 40000000 in
set_option maxRecDepth 100000 in
theorem kX6_both {p : Program} {l : Launch} {e : Env} {R : Room} {s : State} {m : MethodId} {args : Array Value} {below : List Frame} {meth : Method} {c : Code} {QQ : State → Prop} {g : va_G} {ct : Nat → ClassId} {ad : Nat → Nat} {n ro : Nat} {A : Nat → Prop} (C : CallFix p m c cX6_both 5 s args wsX6_both RX6) (hK : va_K g vwCl (xT ct) s) (hN : xN s) (hA : ∀ q, s.heap.size ≤ q → A q) (hRf : 2 ≤ R.frames) (hRl : 48 ≤ R.locals) (Q : Int32 → St → Prop) (hret : ∀ (pc : Nat) (r : Int32) (S : St) (H : Heap) (locs : List Loc) (ls : Array Slot), decode cX6_both pc = .ok (.ireturn, 1) → Q r S → va_P g vwCl (wX ct ad n ro S) H → va_D A (wX ct ad n ro S) → va_S A s.heap H locs → W p l e R s m args below meth c H locs 0 0 QQ (F0 m pc ls [.int r])) (x1 : Int32) (x2 : Int32) (x3 : Int32) (x4 : Int32) (S : St) (h : pX6_both n x1 x2 x3 x4 S Q) (H : Heap) (locs : List Loc) (ls : Array Slot) (hP : va_P g vwCl (wX ct ad n ro S) H) (hD : va_D A (wX ct ad n ro S)) (hS : va_S A s.heap H locs) (hl : lv_has ls 5 [(0, .ref (ad 0)), (1, .int x1), (2, .int x2), (3, .int x3), (4, .int x4)]) : W p l e R s m args below meth c H locs 0 0 QQ (F0 m 0 ls []) := by
  have hinX6 : ∀ w ∈ wsX60, w ∈ wsX6_both := by decide +kernel
  have B29 : ∀ (S : St) (H : Heap) (locs : List Loc) (ls : Array Slot), bX6_both_29 n Q S → va_P g vwCl (wX ct ad n ro S) H → va_D A (wX ct ad n ro S) → va_S A s.heap H locs → lv_has ls 5 [(0, .ref (ad 0))] → W p l e R s m args below meth c H locs 0 0 QQ (F0 m 29 ls []) := by
    intro S H locs ls h hP hD hS hl
    refine lv_bipush (v := -2) C.1 C.2.1 dX6_both_29 (by decide) ?_
    exact hret _ _ _ _ _ _ dX6_both_31 h hP hD hS
  have B55 : ∀ (t0 : Int32) (S : St) (H : Heap) (locs : List Loc) (ls : Array Slot), bX6_both_55 n Q t0 S → va_P g vwCl (wX ct ad n ro S) H → va_D A (wX ct ad n ro S) → va_S A s.heap H locs → lv_has ls 5 [(0, .ref (ad 0))] → W p l e R s m args below meth c H locs 0 0 QQ (F0 m 55 ls [.int t0]) := by
    intro t0 S H locs ls h hP hD hS hl
    exact hret _ _ _ _ _ _ dX6_both_55 h hP hD hS
  refine lv_iload_n C.1 C.2.1 dX6_both_0 rfl (lv_at hl 1 rfl) ?_
  refine g_callS (w := wX ct ad n ro) C hK hN hA hP hD hS (mX6_isPart l g (xT ct) S H.size x1 _ h) (va_cwS 1 C.2.2.2.2 gX6_both_X6_isPart rfl rfl rfl (by decide +kernel) ⟨Nat.le_trans (by decide) hRf, Nat.le_trans (by decide) hRl⟩) rfl hl.1 rfl (Nat.le_of_ble_eq_true rfl) dX6_both_1 ⟨Nat.zero_le _, Nat.zero_le _⟩ (fun r1 H locs h hP hD hS => ?_)
  refine lv_if_eq (tgt := 29) C.1 C.2.1 dX6_both_4 (by decide) (fun c11 => ?_) (fun c11 => ?_)
  · have h := h.1 c11
    exact B29  S H locs ls h hP hD hS (lv_sub hl [0] rfl)
  · have h := h.2 c11
    refine lv_iload_n C.1 C.2.1 dX6_both_7 rfl (lv_at hl 2 rfl) ?_
    refine g_callS (w := wX ct ad n ro) C hK hN hA hP hD hS (mX6_isValue l g (xT ct) S H.size x2 _ h) (va_cwS 1 C.2.2.2.2 gX6_both_X6_isValue rfl rfl rfl (by decide +kernel) ⟨Nat.le_trans (by decide) hRf, Nat.le_trans (by decide) hRl⟩) rfl hl.1 rfl (Nat.le_of_ble_eq_true rfl) dX6_both_8 ⟨Nat.zero_le _, Nat.zero_le _⟩ (fun r2 H locs h hP hD hS => ?_)
    refine lv_if_eq (tgt := 29) C.1 C.2.1 dX6_both_11 (by decide) (fun c10 => ?_) (fun c10 => ?_)
    · have h := h.1 c10
      exact B29  S H locs ls h hP hD hS (lv_sub hl [0] rfl)
    · have h := h.2 c10
      refine lv_iload_n C.1 C.2.1 dX6_both_14 rfl (lv_at hl 3 rfl) ?_
      refine g_callS (w := wX ct ad n ro) C hK hN hA hP hD hS (mX6_isPart l g (xT ct) S H.size x3 _ h) (va_cwS 1 C.2.2.2.2 gX6_both_X6_isPart rfl rfl rfl (by decide +kernel) ⟨Nat.le_trans (by decide) hRf, Nat.le_trans (by decide) hRl⟩) rfl hl.1 rfl (Nat.le_of_ble_eq_true rfl) dX6_both_15 ⟨Nat.zero_le _, Nat.zero_le _⟩ (fun r3 H locs h hP hD hS => ?_)
      refine lv_if_eq (tgt := 29) C.1 C.2.1 dX6_both_18 (by decide) (fun c9 => ?_) (fun c9 => ?_)
      · have h := h.1 c9
        exact B29  S H locs ls h hP hD hS (lv_sub hl [0] rfl)
      · have h := h.2 c9
        refine lv_iload C.1 C.2.1 dX6_both_21 (lv_at hl 4 rfl) ?_
        refine g_callS (w := wX ct ad n ro) C hK hN hA hP hD hS (mX6_isValue l g (xT ct) S H.size x4 _ h) (va_cwS 1 C.2.2.2.2 gX6_both_X6_isValue rfl rfl rfl (by decide +kernel) ⟨Nat.le_trans (by decide) hRf, Nat.le_trans (by decide) hRl⟩) rfl hl.1 rfl (Nat.le_of_ble_eq_true rfl) dX6_both_23 ⟨Nat.zero_le _, Nat.zero_le _⟩ (fun r4 H locs h hP hD hS => ?_)
        refine lv_if_ne (tgt := 32) C.1 C.2.1 dX6_both_26 (by decide) (fun c8 => ?_) (fun c8 => ?_)
        · have h := h.1 c8
          refine lv_aload_n C.1 C.2.1 dX6_both_32 rfl (lv_at hl 0 rfl) ?_
          refine xg6_found C hinX6 hK hP (by decide +kernel) dX6_both_33 ?_
          refine lv_if_eq (tgt := 54) C.1 C.2.1 dX6_both_36 (by decide) (fun c7 => ?_) (fun c7 => ?_)
          · have h := h.1 c7
            refine lv_iconst (v := -1) C.1 C.2.1 dX6_both_54 (by decide) ?_
            exact B55 (-1 : Int32) S H locs ls h hP hD hS (lv_sub hl [0] rfl)
          · have h := h.2 c7
            refine lv_aload_n C.1 C.2.1 dX6_both_39 rfl (lv_at hl 0 rfl) ?_
            refine xg6_outcomes C hinX6 hK hP (by decide +kernel) dX6_both_40 ?_
            refine lv_iload_n C.1 C.2.1 dX6_both_43 rfl (lv_at hl 1 rfl) ?_
            refine lv_iload_n C.1 C.2.1 dX6_both_44 rfl (lv_at hl 2 rfl) ?_
            refine lv_iload_n C.1 C.2.1 dX6_both_45 rfl (lv_at hl 3 rfl) ?_
            refine lv_iload C.1 C.2.1 dX6_both_46 (lv_at hl 4 rfl) ?_
            refine g_callVi (w := wX ct ad n ro) C hK hN hA hP hD hS (mX3_howMany l g ct ad n ro H.size S x1 x2 x3 x4  _ h) (cwV 4 C.2.2.2.2 gX6_both_X3_howMany rfl rfl rfl (by decide +kernel) ⟨Nat.le_trans (by decide) hRf, Nat.le_trans (by decide) hRl⟩) (va_recv hK hP (ci := 3) (q0 := 16) rfl rfl) rfl hl.1 rfl (Nat.le_of_ble_eq_true rfl) dX6_both_48 ⟨Nat.zero_le _, Nat.zero_le _⟩ (fun r6 S5 H locs h hP hD hS => ?_)
            refine lv_goto (tgt := 55) C.1 C.2.1 dX6_both_51 (by decide) ?_
            exact B55 r6 S5 H locs ls h hP hD hS (lv_sub hl [0] rfl)
        · have h := h.2 c8
          exact B29  S H locs ls h hP hD hS (lv_sub hl [0] rfl)
theorem mX6_both (l : Launch) (g : va_G) (ct : Nat → ClassId) (ad : Nat → Nat) (n ro sz : Nat) (S : St) (x1 : Int32) (x2 : Int32) (x3 : Int32) (x4 : Int32) (Q : Int32 → St → Prop) (h : pX6_both n x1 x2 x3 x4 S Q) : Met l yX6_both wsX6_both ({ frames := 2, cells := 0, slots := 0, locals := 48 }) (gPc g (xT ct) (wX ct ad n ro S) sz [.ref (ad 0), .int x1, .int x2, .int x3, .int x4]) (va_Qi Q (gB g (xT ct) (wX ct ad n ro) (va_A (wX ct ad n ro S) sz)) (va_A (wX ct ad n ro S) sz)) 0 0 (va_A (wX ct ad n ro S) sz) :=
  g_metI (w := wX ct ad n ro) (cc := cX6_both) (maxL := 5) (by decide) rfl rfl (Nat.le_of_ble_eq_true rfl) rfl (fun p e s m args below meth c QQ A C hK hN hA hret H locs ls hP hD hS hl => kX6_both C hK hN hA (Nat.le_refl _) (Nat.le_refl _) Q hret x1 x2 x3 x4 S h H locs ls hP hD hS hl)

def pX6_with (n : Nat) (x1 : Int32) (x2 : Int32) (S : St) (Q : Int32 → St → Prop) : Prop :=
  pX6_both n x1 x2 x1 x2 S (fun (r2 : Int32) (S1 : St) => Q r2 S1)
set_option maxHeartbeats 40000000 in
set_option maxRecDepth 100000 in
theorem kX6_with {p : Program} {l : Launch} {e : Env} {R : Room} {s : State} {m : MethodId} {args : Array Value} {below : List Frame} {meth : Method} {c : Code} {QQ : State → Prop} {g : va_G} {ct : Nat → ClassId} {ad : Nat → Nat} {n ro : Nat} {A : Nat → Prop} (C : CallFix p m c cX6_with 3 s args wsX6_with RX6) (hK : va_K g vwCl (xT ct) s) (hN : xN s) (hA : ∀ q, s.heap.size ≤ q → A q) (hRf : 3 ≤ R.frames) (hRl : 72 ≤ R.locals) (Q : Int32 → St → Prop) (hret : ∀ (pc : Nat) (r : Int32) (S : St) (H : Heap) (locs : List Loc) (ls : Array Slot), decode cX6_with pc = .ok (.ireturn, 1) → Q r S → va_P g vwCl (wX ct ad n ro S) H → va_D A (wX ct ad n ro S) → va_S A s.heap H locs → W p l e R s m args below meth c H locs 0 0 QQ (F0 m pc ls [.int r])) (x1 : Int32) (x2 : Int32) (S : St) (h : pX6_with n x1 x2 S Q) (H : Heap) (locs : List Loc) (ls : Array Slot) (hP : va_P g vwCl (wX ct ad n ro S) H) (hD : va_D A (wX ct ad n ro S)) (hS : va_S A s.heap H locs) (hl : lv_has ls 3 [(0, .ref (ad 0)), (1, .int x1), (2, .int x2)]) : W p l e R s m args below meth c H locs 0 0 QQ (F0 m 0 ls []) := by
  refine lv_aload_n C.1 C.2.1 dX6_with_0 rfl (lv_at hl 0 rfl) ?_
  refine lv_iload_n C.1 C.2.1 dX6_with_1 rfl (lv_at hl 1 rfl) ?_
  refine lv_iload_n C.1 C.2.1 dX6_with_2 rfl (lv_at hl 2 rfl) ?_
  refine lv_iload_n C.1 C.2.1 dX6_with_3 rfl (lv_at hl 1 rfl) ?_
  refine lv_iload_n C.1 C.2.1 dX6_with_4 rfl (lv_at hl 2 rfl) ?_
  refine g_callVi (w := wX ct ad n ro) C hK hN hA hP hD hS (mX6_both l g ct ad n ro H.size S x1 x2 x1 x2  _ h) (cwV 4 C.2.2.2.2 gX6_with_X6_both rfl rfl rfl (by decide +kernel) ⟨Nat.le_trans (by decide) hRf, Nat.le_trans (by decide) hRl⟩) (va_recv hK hP (ci := 6) (q0 := 0) rfl rfl) rfl hl.1 rfl (Nat.le_of_ble_eq_true rfl) dX6_with_5 ⟨Nat.zero_le _, Nat.zero_le _⟩ (fun r2 S1 H locs h hP hD hS => ?_)
  exact hret _ _ _ _ _ _ dX6_with_8 h hP hD hS
theorem mX6_with (l : Launch) (g : va_G) (ct : Nat → ClassId) (ad : Nat → Nat) (n ro sz : Nat) (S : St) (x1 : Int32) (x2 : Int32) (Q : Int32 → St → Prop) (h : pX6_with n x1 x2 S Q) : Met l yX6_with wsX6_with ({ frames := 3, cells := 0, slots := 0, locals := 72 }) (gPc g (xT ct) (wX ct ad n ro S) sz [.ref (ad 0), .int x1, .int x2]) (va_Qi Q (gB g (xT ct) (wX ct ad n ro) (va_A (wX ct ad n ro S) sz)) (va_A (wX ct ad n ro S) sz)) 0 0 (va_A (wX ct ad n ro S) sz) :=
  g_metI (w := wX ct ad n ro) (cc := cX6_with) (maxL := 3) (by decide) rfl rfl (Nat.le_of_ble_eq_true rfl) rfl (fun p e s m args below meth c QQ A C hK hN hA hret H locs ls hP hD hS hl => kX6_with C hK hN hA (Nat.le_refl _) (Nat.le_refl _) Q hret x1 x2 S h H locs ls hP hD hS hl)

def bX6_is_25 (n : Nat) (Q : Int32 → St → Prop) (t0 : Int32) (S : St) : Prop :=
  Q t0 S
def pX6_is (n : Nat) (x1 : Int64) (S : St) (Q : Int32 → St → Prop) : Prop :=
  ((¬ (S.1 2 0) = 0 → pX3_holds n x1 S (fun (r2 : Int32) (S1 : St) => ((r2 = 0 → bX6_is_25 n Q (0 : Int32) S1) ∧ (¬ (r2 = 0) → bX6_is_25 n Q (1 : Int32) S1)))) ∧ ((S.1 2 0) = 0 → Q (-1 : Int32) S))
set_option maxHeartbeats 40000000 in
set_option maxRecDepth 100000 in
theorem kX6_is {p : Program} {l : Launch} {e : Env} {R : Room} {s : State} {m : MethodId} {args : Array Value} {below : List Frame} {meth : Method} {c : Code} {QQ : State → Prop} {g : va_G} {ct : Nat → ClassId} {ad : Nat → Nat} {n ro : Nat} {A : Nat → Prop} (C : CallFix p m c cX6_is 3 s args wsX6_is RX6) (hK : va_K g vwCl (xT ct) s) (hN : xN s) (hA : ∀ q, s.heap.size ≤ q → A q) (hRf : 2 ≤ R.frames) (hRl : 49 ≤ R.locals) (Q : Int32 → St → Prop) (hret : ∀ (pc : Nat) (r : Int32) (S : St) (H : Heap) (locs : List Loc) (ls : Array Slot), decode cX6_is pc = .ok (.ireturn, 1) → Q r S → va_P g vwCl (wX ct ad n ro S) H → va_D A (wX ct ad n ro S) → va_S A s.heap H locs → W p l e R s m args below meth c H locs 0 0 QQ (F0 m pc ls [.int r])) (x1 : Int64) (S : St) (h : pX6_is n x1 S Q) (H : Heap) (locs : List Loc) (ls : Array Slot) (hP : va_P g vwCl (wX ct ad n ro S) H) (hD : va_D A (wX ct ad n ro S)) (hS : va_S A s.heap H locs) (hl : lv_has ls 3 [(0, .ref (ad 0)), (1, .long x1)]) : W p l e R s m args below meth c H locs 0 0 QQ (F0 m 0 ls []) := by
  have hinX6 : ∀ w ∈ wsX60, w ∈ wsX6_is := by decide +kernel
  have B25 : ∀ (t0 : Int32) (S : St) (H : Heap) (locs : List Loc) (ls : Array Slot), bX6_is_25 n Q t0 S → va_P g vwCl (wX ct ad n ro S) H → va_D A (wX ct ad n ro S) → va_S A s.heap H locs → lv_has ls 3 [(0, .ref (ad 0))] → W p l e R s m args below meth c H locs 0 0 QQ (F0 m 25 ls [.int t0]) := by
    intro t0 S H locs ls h hP hD hS hl
    exact hret _ _ _ _ _ _ dX6_is_25 h hP hD hS
  refine lv_aload_n C.1 C.2.1 dX6_is_0 rfl (lv_at hl 0 rfl) ?_
  refine xg6_found C hinX6 hK hP (by decide +kernel) dX6_is_1 ?_
  refine lv_if_ne (tgt := 9) C.1 C.2.1 dX6_is_4 (by decide) (fun c4 => ?_) (fun c4 => ?_)
  · have h := h.1 c4
    refine lv_aload_n C.1 C.2.1 dX6_is_9 rfl (lv_at hl 0 rfl) ?_
    refine xg6_outcomes C hinX6 hK hP (by decide +kernel) dX6_is_10 ?_
    refine lv_lload_n C.1 C.2.1 dX6_is_13 rfl (lv_at hl 1 rfl) ?_
    refine g_callVi (w := wX ct ad n ro) C hK hN hA hP hD hS (mX3_holds l g ct ad n ro H.size S x1  _ h) (cwV 1 C.2.2.2.2 gX6_is_X3_holds rfl rfl rfl (by decide +kernel) ⟨Nat.le_trans (by decide) hRf, Nat.le_trans (by decide) hRl⟩) (va_recv hK hP (ci := 3) (q0 := 16) rfl rfl) rfl hl.1 rfl (Nat.le_of_ble_eq_true rfl) dX6_is_14 ⟨Nat.zero_le _, Nat.zero_le _⟩ (fun r2 S1 H locs h hP hD hS => ?_)
    refine lv_if_eq (tgt := 24) C.1 C.2.1 dX6_is_17 (by decide) (fun c3 => ?_) (fun c3 => ?_)
    · have h := h.1 c3
      refine lv_iconst (v := 0) C.1 C.2.1 dX6_is_24 (by decide) ?_
      exact B25 (0 : Int32) S1 H locs ls h hP hD hS (lv_sub hl [0] rfl)
    · have h := h.2 c3
      refine lv_iconst (v := 1) C.1 C.2.1 dX6_is_20 (by decide) ?_
      refine lv_goto (tgt := 25) C.1 C.2.1 dX6_is_21 (by decide) ?_
      exact B25 (1 : Int32) S1 H locs ls h hP hD hS (lv_sub hl [0] rfl)
  · have h := h.2 c4
    refine lv_iconst (v := -1) C.1 C.2.1 dX6_is_7 (by decide) ?_
    exact hret _ _ _ _ _ _ dX6_is_8 h hP hD hS
theorem mX6_is (l : Launch) (g : va_G) (ct : Nat → ClassId) (ad : Nat → Nat) (n ro sz : Nat) (S : St) (x1 : Int64) (Q : Int32 → St → Prop) (h : pX6_is n x1 S Q) : Met l yX6_is wsX6_is ({ frames := 2, cells := 0, slots := 0, locals := 49 }) (gPc g (xT ct) (wX ct ad n ro S) sz [.ref (ad 0), .long x1]) (va_Qi Q (gB g (xT ct) (wX ct ad n ro) (va_A (wX ct ad n ro S) sz)) (va_A (wX ct ad n ro S) sz)) 0 0 (va_A (wX ct ad n ro S) sz) :=
  g_metI (w := wX ct ad n ro) (cc := cX6_is) (maxL := 3) (by decide) rfl rfl (Nat.le_of_ble_eq_true rfl) rfl (fun p e s m args below meth c QQ A C hK hN hA hret H locs ls hP hD hS hl => kX6_is C hK hN hA (Nat.le_refl _) (Nat.le_refl _) Q hret x1 S h H locs ls hP hD hS hl)

def bX6_instruction_40 (Q : Int32 → St → Prop) (t0 : Int32) (S : St) : Prop :=
  Q t0 S
def bX6_instruction_38 (Q : Int32 → St → Prop) (S : St) : Prop :=
  bX6_instruction_40 Q (-2 : Int32) S
def pX6_instruction (x1 : Int32) (x2 : Int32) (x3 : Int32) (S : St) (Q : Int32 → St → Prop) : Prop :=
  pX4_has x1 x2 S (fun (r2 : Int32) (S1 : St) => ((¬ r2 = 0 → ((x3 < 0 → bX6_instruction_38 Q  S1) ∧ (¬ (x3 < 0) → (((6 : Int32) ≤ x3 → bX6_instruction_38 Q  S1) ∧ (¬ ((6 : Int32) ≤ x3) → pX4_row x1 x2 S1 (fun (i4 : Nat) (S3 : St) => (vp_in x3 6 ∧ bX6_instruction_40 Q (S3.2.1 i4 (Int32.toNatClampNeg x3)) S3))))))) ∧ (r2 = 0 → Q (-1 : Int32) S1)))
set_option maxHeartbeats 40000000 in
set_option maxRecDepth 100000 in
theorem kX6_instruction {p : Program} {l : Launch} {e : Env} {R : Room} {s : State} {m : MethodId} {args : Array Value} {below : List Frame} {meth : Method} {c : Code} {QQ : State → Prop} {g : va_G} {ct : Nat → ClassId} {ad : Nat → Nat} {n ro : Nat} {A : Nat → Prop} (C : CallFix p m c cX6_instruction 4 s args wsX6_instruction RX6) (hK : va_K g vwCl (xT ct) s) (hN : xN s) (hA : ∀ q, s.heap.size ≤ q → A q) (hRf : 1 ≤ R.frames) (hRl : 22 ≤ R.locals) (Q : Int32 → St → Prop) (hret : ∀ (pc : Nat) (r : Int32) (S : St) (H : Heap) (locs : List Loc) (ls : Array Slot), decode cX6_instruction pc = .ok (.ireturn, 1) → Q r S → va_P g vwCl (wX ct ad n ro S) H → va_D A (wX ct ad n ro S) → va_S A s.heap H locs → W p l e R s m args below meth c H locs 0 0 QQ (F0 m pc ls [.int r])) (x1 : Int32) (x2 : Int32) (x3 : Int32) (S : St) (h : pX6_instruction x1 x2 x3 S Q) (H : Heap) (locs : List Loc) (ls : Array Slot) (hP : va_P g vwCl (wX ct ad n ro S) H) (hD : va_D A (wX ct ad n ro S)) (hS : va_S A s.heap H locs) (hl : lv_has ls 4 [(0, .ref (ad 0)), (1, .int x1), (2, .int x2), (3, .int x3)]) : W p l e R s m args below meth c H locs 0 0 QQ (F0 m 0 ls []) := by
  have hinX6 : ∀ w ∈ wsX60, w ∈ wsX6_instruction := by decide +kernel
  have B40 : ∀ (t0 : Int32) (S : St) (H : Heap) (locs : List Loc) (ls : Array Slot), bX6_instruction_40 Q t0 S → va_P g vwCl (wX ct ad n ro S) H → va_D A (wX ct ad n ro S) → va_S A s.heap H locs → lv_has ls 4 [(0, .ref (ad 0))] → W p l e R s m args below meth c H locs 0 0 QQ (F0 m 40 ls [.int t0]) := by
    intro t0 S H locs ls h hP hD hS hl
    exact hret _ _ _ _ _ _ dX6_instruction_40 h hP hD hS
  have B38 : ∀ (S : St) (H : Heap) (locs : List Loc) (ls : Array Slot), bX6_instruction_38 Q S → va_P g vwCl (wX ct ad n ro S) H → va_D A (wX ct ad n ro S) → va_S A s.heap H locs → lv_has ls 4 [(0, .ref (ad 0))] → W p l e R s m args below meth c H locs 0 0 QQ (F0 m 38 ls []) := by
    intro S H locs ls h hP hD hS hl
    refine lv_bipush (v := -2) C.1 C.2.1 dX6_instruction_38 (by decide) ?_
    exact B40 (-2 : Int32) S H locs ls h hP hD hS (lv_sub hl [0] rfl)
  refine lv_aload_n C.1 C.2.1 dX6_instruction_0 rfl (lv_at hl 0 rfl) ?_
  refine xg6_programs C hinX6 hK hP (by decide +kernel) dX6_instruction_1 ?_
  refine lv_iload_n C.1 C.2.1 dX6_instruction_4 rfl (lv_at hl 1 rfl) ?_
  refine lv_iload_n C.1 C.2.1 dX6_instruction_5 rfl (lv_at hl 2 rfl) ?_
  refine g_callVi (w := wX ct ad n ro) C hK hN hA hP hD hS (mX4_has l g ct ad n ro H.size S x1 x2  _ h) (cwV 2 C.2.2.2.2 gX6_instruction_X4_has rfl rfl rfl (by decide +kernel) ⟨Nat.le_trans (by decide) hRf, Nat.le_trans (by decide) hRl⟩) (va_recv hK hP (ci := 4) (q0 := 1) rfl rfl) rfl hl.1 rfl (Nat.le_of_ble_eq_true rfl) dX6_instruction_6 ⟨Nat.zero_le _, Nat.zero_le _⟩ (fun r2 S1 H locs h hP hD hS => ?_)
  refine lv_if_ne (tgt := 14) C.1 C.2.1 dX6_instruction_9 (by decide) (fun c8 => ?_) (fun c8 => ?_)
  · have h := h.1 c8
    refine lv_iload_n C.1 C.2.1 dX6_instruction_14 rfl (lv_at hl 3 rfl) ?_
    refine lv_if_lt (tgt := 38) C.1 C.2.1 dX6_instruction_15 (by decide) (fun c7 => ?_) (fun c7 => ?_)
    · have h := h.1 c7
      exact B38  S1 H locs ls h hP hD hS (lv_sub hl [0] rfl)
    · have h := h.2 c7
      refine lv_iload_n C.1 C.2.1 dX6_instruction_18 rfl (lv_at hl 3 rfl) ?_
      refine lv_bipush (v := 6) C.1 C.2.1 dX6_instruction_19 (by decide) ?_
      refine lv_icmp_ge (tgt := 38) C.1 C.2.1 dX6_instruction_21 (by decide) (fun c6 => ?_) (fun c6 => ?_)
      · have h := h.1 c6
        exact B38  S1 H locs ls h hP hD hS (lv_sub hl [0] rfl)
      · have h := h.2 c6
        refine lv_aload_n C.1 C.2.1 dX6_instruction_24 rfl (lv_at hl 0 rfl) ?_
        refine xg6_programs C hinX6 hK hP (by decide +kernel) dX6_instruction_25 ?_
        refine lv_iload_n C.1 C.2.1 dX6_instruction_28 rfl (lv_at hl 1 rfl) ?_
        refine lv_iload_n C.1 C.2.1 dX6_instruction_29 rfl (lv_at hl 2 rfl) ?_
        refine g_callVr (w := wX ct ad n ro) C hK hN hA hP hD hS (mX4_row l g ct ad n ro H.size S1 x1 x2  _ h) (cwV 2 C.2.2.2.2 gX6_instruction_X4_row rfl rfl rfl (by decide +kernel) ⟨Nat.le_trans (by decide) hRf, Nat.le_trans (by decide) hRl⟩) (va_recv hK hP (ci := 4) (q0 := 1) rfl rfl) rfl hl.1 rfl (Nat.le_of_ble_eq_true rfl) dX6_instruction_30 ⟨Nat.zero_le _, Nat.zero_le _⟩ (fun i4 S3 H locs hi4 h hP hD hS => ?_)
        refine lv_iload_n C.1 C.2.1 dX6_instruction_33 rfl (lv_at hl 3 rfl) ?_
        obtain ⟨g5, h⟩ := h
        refine xa_row hi4 C hK hP g5  rfl dX6_instruction_34 ?_
        refine lv_goto (tgt := 40) C.1 C.2.1 dX6_instruction_35 (by decide) ?_
        exact B40 (S3.2.1 i4 (Int32.toNatClampNeg x3)) S3 H locs ls h hP hD hS (lv_sub hl [0] rfl)
  · have h := h.2 c8
    refine lv_iconst (v := -1) C.1 C.2.1 dX6_instruction_12 (by decide) ?_
    exact hret _ _ _ _ _ _ dX6_instruction_13 h hP hD hS
theorem mX6_instruction (l : Launch) (g : va_G) (ct : Nat → ClassId) (ad : Nat → Nat) (n ro sz : Nat) (S : St) (x1 : Int32) (x2 : Int32) (x3 : Int32) (Q : Int32 → St → Prop) (h : pX6_instruction x1 x2 x3 S Q) : Met l yX6_instruction wsX6_instruction ({ frames := 1, cells := 0, slots := 0, locals := 22 }) (gPc g (xT ct) (wX ct ad n ro S) sz [.ref (ad 0), .int x1, .int x2, .int x3]) (va_Qi Q (gB g (xT ct) (wX ct ad n ro) (va_A (wX ct ad n ro S) sz)) (va_A (wX ct ad n ro S) sz)) 0 0 (va_A (wX ct ad n ro S) sz) :=
  g_metI (w := wX ct ad n ro) (cc := cX6_instruction) (maxL := 4) (by decide) rfl rfl (Nat.le_of_ble_eq_true rfl) rfl (fun p e s m args below meth c QQ A C hK hN hA hret H locs ls hP hD hS hl => kX6_instruction C hK hN hA (Nat.le_refl _) (Nat.le_refl _) Q hret x1 x2 x3 S h H locs ls hP hD hS hl)

def bX6_count_82 (Q : Int32 → St → Prop) (t0 : Int32) (S : St) : Prop :=
  Q t0 S
def bX6_count_103 (Q : Int32 → St → Prop) (t0 : Int32) (S : St) : Prop :=
  Q t0 S
def pX6_count (x1 : Int32) (S : St) (Q : Int32 → St → Prop) : Prop :=
  (((Int32.toInt x1 < 0 ∨ 5 < Int32.toInt x1) → Q (-2 : Int32) S) ∧ (x1 = (0 : Int32) → pX4_size S (fun (r3 : Int32) (S2 : St) => Q r3 S2)) ∧ (x1 = (1 : Int32) → pX4_accesses S (fun (r5 : Int32) (S4 : St) => Q r5 S4)) ∧ (x1 = (2 : Int32) → pX4_readers S (fun (r7 : Int32) (S6 : St) => Q r7 S6)) ∧ (x1 = (3 : Int32) → (((S.1 2 0) = 0 → bX6_count_82 Q (-1 : Int32) S) ∧ (¬ ((S.1 2 0) = 0) → pX3_size S (fun (r9 : Int32) (S8 : St) => bX6_count_82 Q r9 S8)))) ∧ (x1 = (4 : Int32) → Q (S.1 0 0) S) ∧ (x1 = (5 : Int32) → (((S.1 2 0) = 0 → bX6_count_103 Q (-1 : Int32) S) ∧ (¬ ((S.1 2 0) = 0) → bX6_count_103 Q (S.1 1 0) S))))
set_option maxHeartbeats 40000000 in
set_option maxRecDepth 100000 in
theorem kX6_count {p : Program} {l : Launch} {e : Env} {R : Room} {s : State} {m : MethodId} {args : Array Value} {below : List Frame} {meth : Method} {c : Code} {QQ : State → Prop} {g : va_G} {ct : Nat → ClassId} {ad : Nat → Nat} {n ro : Nat} {A : Nat → Prop} (C : CallFix p m c cX6_count 2 s args wsX6_count RX6) (hK : va_K g vwCl (xT ct) s) (hN : xN s) (hA : ∀ q, s.heap.size ≤ q → A q) (hRf : 1 ≤ R.frames) (hRl : 25 ≤ R.locals) (Q : Int32 → St → Prop) (hret : ∀ (pc : Nat) (r : Int32) (S : St) (H : Heap) (locs : List Loc) (ls : Array Slot), decode cX6_count pc = .ok (.ireturn, 1) → Q r S → va_P g vwCl (wX ct ad n ro S) H → va_D A (wX ct ad n ro S) → va_S A s.heap H locs → W p l e R s m args below meth c H locs 0 0 QQ (F0 m pc ls [.int r])) (x1 : Int32) (S : St) (h : pX6_count x1 S Q) (H : Heap) (locs : List Loc) (ls : Array Slot) (hP : va_P g vwCl (wX ct ad n ro S) H) (hD : va_D A (wX ct ad n ro S)) (hS : va_S A s.heap H locs) (hl : lv_has ls 2 [(0, .ref (ad 0)), (1, .int x1)]) : W p l e R s m args below meth c H locs 0 0 QQ (F0 m 0 ls []) := by
  have hinX6 : ∀ w ∈ wsX60, w ∈ wsX6_count := by decide +kernel
  have B82 : ∀ (t0 : Int32) (S : St) (H : Heap) (locs : List Loc) (ls : Array Slot), bX6_count_82 Q t0 S → va_P g vwCl (wX ct ad n ro S) H → va_D A (wX ct ad n ro S) → va_S A s.heap H locs → lv_has ls 2 [(0, .ref (ad 0))] → W p l e R s m args below meth c H locs 0 0 QQ (F0 m 82 ls [.int t0]) := by
    intro t0 S H locs ls h hP hD hS hl
    exact hret _ _ _ _ _ _ dX6_count_82 h hP hD hS
  have B103 : ∀ (t0 : Int32) (S : St) (H : Heap) (locs : List Loc) (ls : Array Slot), bX6_count_103 Q t0 S → va_P g vwCl (wX ct ad n ro S) H → va_D A (wX ct ad n ro S) → va_S A s.heap H locs → lv_has ls 2 [(0, .ref (ad 0))] → W p l e R s m args below meth c H locs 0 0 QQ (F0 m 103 ls [.int t0]) := by
    intro t0 S H locs ls h hP hD hS hl
    exact hret _ _ _ _ _ _ dX6_count_103 h hP hD hS
  refine lv_iload_n C.1 C.2.1 dX6_count_0 rfl (lv_at hl 1 rfl) ?_
  by_cases c1 : (Int32.toInt x1 < 0 ∨ 5 < Int32.toInt x1)
  · have h := h.1 c1
    refine lv_tableOut (tgt := 104) C.1 C.2.1 dX6_count_1 c1 (by decide) ?_
    refine lv_bipush (v := -2) C.1 C.2.1 dX6_count_104 (by decide) ?_
    exact hret _ _ _ _ _ _ dX6_count_106 h hP hD hS
  · have h := h.2
    have hk : x1 = (0 : Int32) ∨ x1 = (1 : Int32) ∨ x1 = (2 : Int32) ∨ x1 = (3 : Int32) ∨ x1 = (4 : Int32) ∨ x1 = (5 : Int32) := by
      have hr : Int32.toInt x1 = 0 ∨ Int32.toInt x1 = 1 ∨ Int32.toInt x1 = 2 ∨ Int32.toInt x1 = 3 ∨ Int32.toInt x1 = 4 ∨ Int32.toInt x1 = 5 := by omega
      rcases hr with hr | hr | hr | hr | hr | hr <;> simp only [← Int32.toInt_inj] <;> simp [hr]
    rcases hk with hk | hk | hk | hk | hk | hk
    · have h := h.1 hk
      refine lv_tableIn (tgt := 40) C.1 C.2.1 dX6_count_1 (by rw [hk]; decide) (by rw [hk]; decide) (by rw [hk]; rfl) (by decide) ?_
      refine lv_aload_n C.1 C.2.1 dX6_count_40 rfl (lv_at hl 0 rfl) ?_
      refine xg6_programs C hinX6 hK hP (by decide +kernel) dX6_count_41 ?_
      refine g_callVi (w := wX ct ad n ro) C hK hN hA hP hD hS (mX4_size l g ct ad n ro H.size S   _ h) (cwV 0 C.2.2.2.2 gX6_count_X4_size rfl rfl rfl (by decide +kernel) ⟨Nat.le_trans (by decide) hRf, Nat.le_trans (by decide) hRl⟩) (va_recv hK hP (ci := 4) (q0 := 1) rfl rfl) rfl hl.1 rfl (Nat.le_of_ble_eq_true rfl) dX6_count_44 ⟨Nat.zero_le _, Nat.zero_le _⟩ (fun r3 S2 H locs h hP hD hS => ?_)
      exact hret _ _ _ _ _ _ dX6_count_47 h hP hD hS
    · have h := h.2.1 hk
      refine lv_tableIn (tgt := 48) C.1 C.2.1 dX6_count_1 (by rw [hk]; decide) (by rw [hk]; decide) (by rw [hk]; rfl) (by decide) ?_
      refine lv_aload_n C.1 C.2.1 dX6_count_48 rfl (lv_at hl 0 rfl) ?_
      refine xg6_programs C hinX6 hK hP (by decide +kernel) dX6_count_49 ?_
      refine g_callVi (w := wX ct ad n ro) C hK hN hA hP hD hS (mX4_accesses l g ct ad n ro H.size S   _ h) (cwV 0 C.2.2.2.2 gX6_count_X4_accesses rfl rfl rfl (by decide +kernel) ⟨Nat.le_trans (by decide) hRf, Nat.le_trans (by decide) hRl⟩) (va_recv hK hP (ci := 4) (q0 := 1) rfl rfl) rfl hl.1 rfl (Nat.le_of_ble_eq_true rfl) dX6_count_52 ⟨Nat.zero_le _, Nat.zero_le _⟩ (fun r5 S4 H locs h hP hD hS => ?_)
      exact hret _ _ _ _ _ _ dX6_count_55 h hP hD hS
    · have h := h.2.2.1 hk
      refine lv_tableIn (tgt := 56) C.1 C.2.1 dX6_count_1 (by rw [hk]; decide) (by rw [hk]; decide) (by rw [hk]; rfl) (by decide) ?_
      refine lv_aload_n C.1 C.2.1 dX6_count_56 rfl (lv_at hl 0 rfl) ?_
      refine xg6_programs C hinX6 hK hP (by decide +kernel) dX6_count_57 ?_
      refine g_callVi (w := wX ct ad n ro) C hK hN hA hP hD hS (mX4_readers l g ct ad n ro H.size S   _ h) (cwV 0 C.2.2.2.2 gX6_count_X4_readers rfl rfl rfl (by decide +kernel) ⟨Nat.le_trans (by decide) hRf, Nat.le_trans (by decide) hRl⟩) (va_recv hK hP (ci := 4) (q0 := 1) rfl rfl) rfl hl.1 rfl (Nat.le_of_ble_eq_true rfl) dX6_count_60 ⟨Nat.zero_le _, Nat.zero_le _⟩ (fun r7 S6 H locs h hP hD hS => ?_)
      exact hret _ _ _ _ _ _ dX6_count_63 h hP hD hS
    · have h := h.2.2.2.1 hk
      refine lv_tableIn (tgt := 64) C.1 C.2.1 dX6_count_1 (by rw [hk]; decide) (by rw [hk]; decide) (by rw [hk]; rfl) (by decide) ?_
      refine lv_aload_n C.1 C.2.1 dX6_count_64 rfl (lv_at hl 0 rfl) ?_
      refine xg6_found C hinX6 hK hP (by decide +kernel) dX6_count_65 ?_
      refine lv_if_eq (tgt := 81) C.1 C.2.1 dX6_count_68 (by decide) (fun c10 => ?_) (fun c10 => ?_)
      · have h := h.1 c10
        refine lv_iconst (v := -1) C.1 C.2.1 dX6_count_81 (by decide) ?_
        exact B82 (-1 : Int32) S H locs ls h hP hD hS (lv_sub hl [0] rfl)
      · have h := h.2 c10
        refine lv_aload_n C.1 C.2.1 dX6_count_71 rfl (lv_at hl 0 rfl) ?_
        refine xg6_outcomes C hinX6 hK hP (by decide +kernel) dX6_count_72 ?_
        refine g_callVi (w := wX ct ad n ro) C hK hN hA hP hD hS (mX3_size l g ct ad n ro H.size S   _ h) (cwV 0 C.2.2.2.2 gX6_count_X3_size rfl rfl rfl (by decide +kernel) ⟨Nat.le_trans (by decide) hRf, Nat.le_trans (by decide) hRl⟩) (va_recv hK hP (ci := 3) (q0 := 16) rfl rfl) rfl hl.1 rfl (Nat.le_of_ble_eq_true rfl) dX6_count_75 ⟨Nat.zero_le _, Nat.zero_le _⟩ (fun r9 S8 H locs h hP hD hS => ?_)
        refine lv_goto (tgt := 82) C.1 C.2.1 dX6_count_78 (by decide) ?_
        exact B82 r9 S8 H locs ls h hP hD hS (lv_sub hl [0] rfl)
    · have h := h.2.2.2.2.1 hk
      refine lv_tableIn (tgt := 83) C.1 C.2.1 dX6_count_1 (by rw [hk]; decide) (by rw [hk]; decide) (by rw [hk]; rfl) (by decide) ?_
      refine lv_aload_n C.1 C.2.1 dX6_count_83 rfl (lv_at hl 0 rfl) ?_
      refine xg6_model C hinX6 hK hP (by decide +kernel) dX6_count_84 ?_
      exact hret _ _ _ _ _ _ dX6_count_87 h hP hD hS
    · have h := h.2.2.2.2.2 hk
      refine lv_tableIn (tgt := 88) C.1 C.2.1 dX6_count_1 (by rw [hk]; decide) (by rw [hk]; decide) (by rw [hk]; rfl) (by decide) ?_
      refine lv_aload_n C.1 C.2.1 dX6_count_88 rfl (lv_at hl 0 rfl) ?_
      refine xg6_found C hinX6 hK hP (by decide +kernel) dX6_count_89 ?_
      refine lv_if_eq (tgt := 102) C.1 C.2.1 dX6_count_92 (by decide) (fun c11 => ?_) (fun c11 => ?_)
      · have h := h.1 c11
        refine lv_iconst (v := -1) C.1 C.2.1 dX6_count_102 (by decide) ?_
        exact B103 (-1 : Int32) S H locs ls h hP hD hS (lv_sub hl [0] rfl)
      · have h := h.2 c11
        refine lv_aload_n C.1 C.2.1 dX6_count_95 rfl (lv_at hl 0 rfl) ?_
        refine xg6_ways C hinX6 hK hP (by decide +kernel) dX6_count_96 ?_
        refine lv_goto (tgt := 103) C.1 C.2.1 dX6_count_99 (by decide) ?_
        exact B103 (S.1 1 0) S H locs ls h hP hD hS (lv_sub hl [0] rfl)
theorem mX6_count (l : Launch) (g : va_G) (ct : Nat → ClassId) (ad : Nat → Nat) (n ro sz : Nat) (S : St) (x1 : Int32) (Q : Int32 → St → Prop) (h : pX6_count x1 S Q) : Met l yX6_count wsX6_count ({ frames := 1, cells := 0, slots := 0, locals := 25 }) (gPc g (xT ct) (wX ct ad n ro S) sz [.ref (ad 0), .int x1]) (va_Qi Q (gB g (xT ct) (wX ct ad n ro) (va_A (wX ct ad n ro S) sz)) (va_A (wX ct ad n ro S) sz)) 0 0 (va_A (wX ct ad n ro S) sz) :=
  g_metI (w := wX ct ad n ro) (cc := cX6_count) (maxL := 2) (by decide) rfl rfl (Nat.le_of_ble_eq_true rfl) rfl (fun p e s m args below meth c QQ A C hK hN hA hret H locs ls hP hD hS hl => kX6_count C hK hN hA (Nat.le_refl _) (Nat.le_refl _) Q hret x1 S h H locs ls hP hD hS hl)

def bX6_isAccess_19 (Q : Int32 → Prop) (t0 : Int32) : Prop :=
  (zb t0 ∧ Q t0)
def bX6_isAccess_14 (Q : Int32 → Prop) : Prop :=
  bX6_isAccess_19 Q (1 : Int32)
def pX6_isAccess (x0 : Int32) (Q : Int32 → Prop) : Prop :=
  pX6_isReader x0 (fun (r1 : Int32) => ((¬ r1 = 0 → bX6_isAccess_14 Q ) ∧ (r1 = 0 → pX6_isWriter x0 (fun (r2 : Int32) => ((r2 = 0 → bX6_isAccess_19 Q (0 : Int32)) ∧ (¬ (r2 = 0) → bX6_isAccess_14 Q ))))))
set_option maxHeartbeats 40000000 in
set_option maxRecDepth 100000 in
theorem kX6_isAccess {p : Program} {l : Launch} {e : Env} {R : Room} {s : State} {m : MethodId} {args : Array Value} {below : List Frame} {meth : Method} {c : Code} {QQ : State → Prop} {g : va_G} {tys : List (ClassId × FieldType)} {A : Nat → Prop} (C : CallFix p m c cX6_isAccess 1 s args wsX6_isAccess RX6) (hK : va_K g vwCl (tys) s) (hN : xN s) (hA : ∀ q, s.heap.size ≤ q → A q) (hRf : 1 ≤ R.frames) (hRl : 20 ≤ R.locals) (Q : Int32 → Prop) (hret : ∀ (pc : Nat) (r : Int32) (S : St) (H : Heap) (locs : List Loc) (ls : Array Slot), decode cX6_isAccess pc = .ok (.ireturn, 1) → zb r → Q r → va_P g vwCl (w0 S) H → va_D A (w0 S) → va_S A s.heap H locs → W p l e R s m args below meth c H locs 0 0 QQ (F0 m pc ls [.int r])) (x0 : Int32) (S : St) (h : pX6_isAccess x0 Q) (H : Heap) (locs : List Loc) (ls : Array Slot) (hP : va_P g vwCl (w0 S) H) (hD : va_D A (w0 S)) (hS : va_S A s.heap H locs) (hl : lv_has ls 1 [(0, .int x0)]) : W p l e R s m args below meth c H locs 0 0 QQ (F0 m 0 ls []) := by
  have B19 : ∀ (t0 : Int32) (S : St) (H : Heap) (locs : List Loc) (ls : Array Slot), bX6_isAccess_19 Q t0 → va_P g vwCl (w0 S) H → va_D A (w0 S) → va_S A s.heap H locs → lv_has ls 1 [] → W p l e R s m args below meth c H locs 0 0 QQ (F0 m 19 ls [.int t0]) := by
    intro t0 S H locs ls h hP hD hS hl
    exact hret _ _ _ _ _ _ dX6_isAccess_19 h.1 h.2 hP hD hS
  have B14 : ∀ (S : St) (H : Heap) (locs : List Loc) (ls : Array Slot), bX6_isAccess_14 Q → va_P g vwCl (w0 S) H → va_D A (w0 S) → va_S A s.heap H locs → lv_has ls 1 [] → W p l e R s m args below meth c H locs 0 0 QQ (F0 m 14 ls []) := by
    intro S H locs ls h hP hD hS hl
    refine lv_iconst (v := 1) C.1 C.2.1 dX6_isAccess_14 (by decide) ?_
    refine lv_goto (tgt := 19) C.1 C.2.1 dX6_isAccess_15 (by decide) ?_
    exact B19 (1 : Int32) S H locs ls h hP hD hS (lv_sub hl [] rfl)
  refine lv_iload_n C.1 C.2.1 dX6_isAccess_0 rfl (lv_at hl 0 rfl) ?_
  refine g_callS (w := w0) C hK hN hA hP hD hS (mX6_isReader l g (tys) S H.size x0 _ h) (va_cwS 1 C.2.2.2.2 gX6_isAccess_X6_isReader rfl rfl rfl (by decide +kernel) ⟨Nat.le_trans (by decide) hRf, Nat.le_trans (by decide) hRl⟩) rfl hl.1 rfl (Nat.le_of_ble_eq_true rfl) dX6_isAccess_1 ⟨Nat.zero_le _, Nat.zero_le _⟩ (fun r1 H locs h hP hD hS => ?_)
  refine lv_if_ne (tgt := 14) C.1 C.2.1 dX6_isAccess_4 (by decide) (fun c4 => ?_) (fun c4 => ?_)
  · have h := h.1 c4
    exact B14  S H locs ls h hP hD hS (lv_sub hl [] rfl)
  · have h := h.2 c4
    refine lv_iload_n C.1 C.2.1 dX6_isAccess_7 rfl (lv_at hl 0 rfl) ?_
    refine g_callS (w := w0) C hK hN hA hP hD hS (mX6_isWriter l g (tys) S H.size x0 _ h) (va_cwS 1 C.2.2.2.2 gX6_isAccess_X6_isWriter rfl rfl rfl (by decide +kernel) ⟨Nat.le_trans (by decide) hRf, Nat.le_trans (by decide) hRl⟩) rfl hl.1 rfl (Nat.le_of_ble_eq_true rfl) dX6_isAccess_8 ⟨Nat.zero_le _, Nat.zero_le _⟩ (fun r2 H locs h hP hD hS => ?_)
    refine lv_if_eq (tgt := 18) C.1 C.2.1 dX6_isAccess_11 (by decide) (fun c3 => ?_) (fun c3 => ?_)
    · have h := h.1 c3
      refine lv_iconst (v := 0) C.1 C.2.1 dX6_isAccess_18 (by decide) ?_
      exact B19 (0 : Int32) S H locs ls h hP hD hS (lv_sub hl [] rfl)
    · have h := h.2 c3
      exact B14  S H locs ls h hP hD hS (lv_sub hl [] rfl)
theorem mX6_isAccess (l : Launch) (g : va_G) (tys : List (ClassId × FieldType)) (S : St) (sz : Nat) (x0 : Int32) (Q : Int32 → Prop) (h : pX6_isAccess x0 Q) : Met l yX6_isAccess wsX6_isAccess ({ frames := 1, cells := 0, slots := 0, locals := 20 }) (gPc g (tys) (w0 S) sz [.int x0]) (va_Qi (fun r _ => Q r) (gB g (tys) (w0) (va_A (w0 S) sz)) (va_A (w0 S) sz)) 0 0 (va_A (w0 S) sz) :=
  g_metZ (w := w0) (Q := fun r _ => Q r) (cc := cX6_isAccess) (maxL := 1) (by decide) rfl rfl (Nat.le_of_ble_eq_true rfl) rfl (fun p e s m args below meth c QQ A C hK hN hA hret H locs ls hP hD hS hl => kX6_isAccess C hK hN hA (Nat.le_refl _) (Nat.le_refl _) Q hret x0 S h H locs ls hP hD hS hl)

def bX7_in_15 (Q : Int32 → Prop) (t0 : Int32) : Prop :=
  (zb t0 ∧ Q t0)
def bX7_in_14 (Q : Int32 → Prop) : Prop :=
  bX7_in_15 Q (0 : Int32)
def pX7_in (x0 : Int32) (x1 : Int32) (x2 : Int32) (Q : Int32 → Prop) : Prop :=
  ((x0 < x1 → bX7_in_14 Q ) ∧ (¬ (x0 < x1) → ((x2 < x0 → bX7_in_14 Q ) ∧ (¬ (x2 < x0) → bX7_in_15 Q (1 : Int32)))))
set_option maxHeartbeats 40000000 in
set_option maxRecDepth 100000 in
theorem kX7_in {p : Program} {l : Launch} {e : Env} {R : Room} {s : State} {m : MethodId} {args : Array Value} {below : List Frame} {meth : Method} {c : Code} {QQ : State → Prop} {g : va_G} {tys : List (ClassId × FieldType)} {A : Nat → Prop} (C : CallFix p m c cX7_in 3 s args wsX7_in RX7) (hK : va_K g vwCl (tys) s) (hN : xN s) (hA : ∀ q, s.heap.size ≤ q → A q) (hRf : 0 ≤ R.frames) (hRl : 0 ≤ R.locals) (Q : Int32 → Prop) (hret : ∀ (pc : Nat) (r : Int32) (S : St) (H : Heap) (locs : List Loc) (ls : Array Slot), decode cX7_in pc = .ok (.ireturn, 1) → zb r → Q r → va_P g vwCl (w0 S) H → va_D A (w0 S) → va_S A s.heap H locs → W p l e R s m args below meth c H locs 0 0 QQ (F0 m pc ls [.int r])) (x0 : Int32) (x1 : Int32) (x2 : Int32) (S : St) (h : pX7_in x0 x1 x2 Q) (H : Heap) (locs : List Loc) (ls : Array Slot) (hP : va_P g vwCl (w0 S) H) (hD : va_D A (w0 S)) (hS : va_S A s.heap H locs) (hl : lv_has ls 3 [(0, .int x0), (1, .int x1), (2, .int x2)]) : W p l e R s m args below meth c H locs 0 0 QQ (F0 m 0 ls []) := by
  have B15 : ∀ (t0 : Int32) (S : St) (H : Heap) (locs : List Loc) (ls : Array Slot), bX7_in_15 Q t0 → va_P g vwCl (w0 S) H → va_D A (w0 S) → va_S A s.heap H locs → lv_has ls 3 [] → W p l e R s m args below meth c H locs 0 0 QQ (F0 m 15 ls [.int t0]) := by
    intro t0 S H locs ls h hP hD hS hl
    exact hret _ _ _ _ _ _ dX7_in_15 h.1 h.2 hP hD hS
  have B14 : ∀ (S : St) (H : Heap) (locs : List Loc) (ls : Array Slot), bX7_in_14 Q → va_P g vwCl (w0 S) H → va_D A (w0 S) → va_S A s.heap H locs → lv_has ls 3 [] → W p l e R s m args below meth c H locs 0 0 QQ (F0 m 14 ls []) := by
    intro S H locs ls h hP hD hS hl
    refine lv_iconst (v := 0) C.1 C.2.1 dX7_in_14 (by decide) ?_
    exact B15 (0 : Int32) S H locs ls h hP hD hS (lv_sub hl [] rfl)
  refine lv_iload_n C.1 C.2.1 dX7_in_0 rfl (lv_at hl 0 rfl) ?_
  refine lv_iload_n C.1 C.2.1 dX7_in_1 rfl (lv_at hl 1 rfl) ?_
  refine lv_icmp_lt (tgt := 14) C.1 C.2.1 dX7_in_2 (by decide) (fun c2 => ?_) (fun c2 => ?_)
  · have h := h.1 c2
    exact B14  S H locs ls h hP hD hS (lv_sub hl [] rfl)
  · have h := h.2 c2
    refine lv_iload_n C.1 C.2.1 dX7_in_5 rfl (lv_at hl 0 rfl) ?_
    refine lv_iload_n C.1 C.2.1 dX7_in_6 rfl (lv_at hl 2 rfl) ?_
    refine lv_icmp_gt (tgt := 14) C.1 C.2.1 dX7_in_7 (by decide) (fun c1 => ?_) (fun c1 => ?_)
    · have h := h.1 c1
      exact B14  S H locs ls h hP hD hS (lv_sub hl [] rfl)
    · have h := h.2 c1
      refine lv_iconst (v := 1) C.1 C.2.1 dX7_in_10 (by decide) ?_
      refine lv_goto (tgt := 15) C.1 C.2.1 dX7_in_11 (by decide) ?_
      exact B15 (1 : Int32) S H locs ls h hP hD hS (lv_sub hl [] rfl)
theorem mX7_in (l : Launch) (g : va_G) (tys : List (ClassId × FieldType)) (S : St) (sz : Nat) (x0 : Int32) (x1 : Int32) (x2 : Int32) (Q : Int32 → Prop) (h : pX7_in x0 x1 x2 Q) : Met l yX7_in wsX7_in ({ frames := 0, cells := 0, slots := 0, locals := 0 }) (gPc g (tys) (w0 S) sz [.int x0, .int x1, .int x2]) (va_Qi (fun r _ => Q r) (gB g (tys) (w0) (va_A (w0 S) sz)) (va_A (w0 S) sz)) 0 0 (va_A (w0 S) sz) :=
  g_metZ (w := w0) (Q := fun r _ => Q r) (cc := cX7_in) (maxL := 3) (by decide) rfl rfl (Nat.le_of_ble_eq_true rfl) rfl (fun p e s m args below meth c QQ A C hK hN hA hret H locs ls hP hD hS hl => kX7_in C hK hN hA (Nat.le_refl _) (Nat.le_refl _) Q hret x0 x1 x2 S h H locs ls hP hD hS hl)

def bX7_clear_4 (k4 : Int32 → Int32 → St → Prop) (Q : Int32 → St → Prop) (x1 : Int32) (x2 : Int32) (S : St) : Prop :=
  (((4 : Int32) ≤ x2 → (∀ S1 : St, S1 = wr S 3 0 (0 : Int32) → Q x1 S1)) ∧ (¬ ((4 : Int32) ≤ x2) → (vp_in x2 4 ∧ (∀ y3 : Int32, y3 = (x1 + (S.1 2 (Int32.toNatClampNeg x2))) → (vp_in x2 4 ∧ ∀ S4 : St, S4 = wr S 2 (Int32.toNatClampNeg x2) (0 : Int32) → (∀ y6 : Int32, y6 = x2 + (1 : Int32) → k4 y3 y6 S4))))))
def pX7_clear (S : St) (Q : Int32 → St → Prop) : Prop :=
  (∃ N : Nat, itr (F := Int32 → Int32 → St → Prop) (fun _ _ _ => False) (fun k4 x1 x2 S => bX7_clear_4 k4 Q x1 x2 S) N (0 : Int32) (0 : Int32) S)
set_option maxHeartbeats 40000000 in
set_option maxRecDepth 100000 in
theorem kX7_clear {p : Program} {l : Launch} {e : Env} {R : Room} {s : State} {m : MethodId} {args : Array Value} {below : List Frame} {meth : Method} {c : Code} {QQ : State → Prop} {g : va_G} {ct : Nat → ClassId} {ad : Nat → Nat} {A : Nat → Prop} (C : CallFix p m c cX7_clear 3 s args wsX7_clear RX7) (hK : va_K g vwCl (mT ct) s) (hN : xN s) (hA : ∀ q, s.heap.size ≤ q → A q) (hRf : 0 ≤ R.frames) (hRl : 0 ≤ R.locals) (Q : Int32 → St → Prop) (hret : ∀ (pc : Nat) (r : Int32) (S : St) (H : Heap) (locs : List Loc) (ls : Array Slot), decode cX7_clear pc = .ok (.ireturn, 1) → Q r S → va_P g vwCl (wM ct ad S) H → va_D A (wM ct ad S) → va_S A s.heap H locs → W p l e R s m args below meth c H locs 0 0 QQ (F0 m pc ls [.int r])) (S : St) (h : pX7_clear S Q) (H : Heap) (locs : List Loc) (ls : Array Slot) (hP : va_P g vwCl (wM ct ad S) H) (hD : va_D A (wM ct ad S)) (hS : va_S A s.heap H locs) (hl : lv_has ls 3 [(0, .ref (ad 0))]) : W p l e R s m args below meth c H locs 0 0 QQ (F0 m 0 ls []) := by
  have hinX7 : ∀ w ∈ wsX70, w ∈ wsX7_clear := by decide +kernel
  have B4 : ∀ (k4 : Int32 → Int32 → St → Prop) (hk4 : ∀ (x1 : Int32) (x2 : Int32) (S : St) (H : Heap) (locs : List Loc) (ls : Array Slot), k4 x1 x2 S → va_P g vwCl (wM ct ad S) H → va_D A (wM ct ad S) → va_S A s.heap H locs → lv_has ls 3 [(0, .ref (ad 0)), (1, .int x1), (2, .int x2)] → W p l e R s m args below meth c H locs 0 0 QQ (F0 m 4 ls [])) (x1 : Int32) (x2 : Int32) (S : St) (H : Heap) (locs : List Loc) (ls : Array Slot), bX7_clear_4 k4 Q x1 x2 S → va_P g vwCl (wM ct ad S) H → va_D A (wM ct ad S) → va_S A s.heap H locs → lv_has ls 3 [(0, .ref (ad 0)), (1, .int x1), (2, .int x2)] → W p l e R s m args below meth c H locs 0 0 QQ (F0 m 4 ls []) := by
    intro k4 hk4 x1 x2 S H locs ls h hP hD hS hl
    refine lv_iload_n C.1 C.2.1 dX7_clear_4 rfl (lv_at hl 2 rfl) ?_
    refine lv_iconst (v := 4) C.1 C.2.1 dX7_clear_5 (by decide) ?_
    refine lv_icmp_ge (tgt := 31) C.1 C.2.1 dX7_clear_6 (by decide) (fun c7 => ?_) (fun c7 => ?_)
    · have h := h.1 c7
      refine lv_aload_n C.1 C.2.1 dX7_clear_31 rfl (lv_at hl 0 rfl) ?_
      refine lv_iconst (v := 0) C.1 C.2.1 dX7_clear_32 (by decide) ?_
      obtain ⟨S1, eS1⟩ : ∃ z : St, z = wr S 3 0 (0 : Int32) := ⟨_, rfl⟩
      have h := h S1 eS1
      refine mp_isFound C hinX7 hK hP hD hS (by decide +kernel) zb_0 dX7_clear_33 (fun H locs hP hD hS => ?_)
      rw [← eS1] at hP hD
      refine lv_iload_n C.1 C.2.1 dX7_clear_36 rfl (lv_at hl 1 rfl) ?_
      exact hret _ _ _ _ _ _ dX7_clear_37 h hP hD hS
    · have h := h.2 c7
      refine lv_iload_n C.1 C.2.1 dX7_clear_9 rfl (lv_at hl 1 rfl) ?_
      refine lv_aload_n C.1 C.2.1 dX7_clear_10 rfl (lv_at hl 0 rfl) ?_
      refine mg_lengths C hinX7 hK hP (by decide +kernel) dX7_clear_11 ?_
      refine lv_iload_n C.1 C.2.1 dX7_clear_14 rfl (lv_at hl 2 rfl) ?_
      obtain ⟨g2, h⟩ := h
      refine ma_lengths C hK hP g2  rfl dX7_clear_15 ?_
      refine lv_iadd C.1 C.2.1 dX7_clear_16 ?_
      refine lv_topi (fun y3 ey3 => ?_)
      have h := h y3 ey3
      refine lv_istore_n (lv' := [(1, .int y3), (0, .ref (ad 0)), (2, .int x2)]) C.1 C.2.1 dX7_clear_17 rfl hl (by decide) rfl (fun ls hl => ?_)
      refine lv_aload_n C.1 C.2.1 dX7_clear_18 rfl (lv_at hl 1 rfl) ?_
      refine mg_lengths C hinX7 hK hP (by decide +kernel) dX7_clear_19 ?_
      refine lv_iload_n C.1 C.2.1 dX7_clear_22 rfl (lv_at hl 2 rfl) ?_
      refine lv_iconst (v := 0) C.1 C.2.1 dX7_clear_23 (by decide) ?_
      obtain ⟨g5, h⟩ := h
      obtain ⟨S4, eS4⟩ : ∃ z : St, z = wr S 2 (Int32.toNatClampNeg x2) (0 : Int32) := ⟨_, rfl⟩
      have h := h S4 eS4
      refine ms_lengths C hK hP hD hS  g5 rfl dX7_clear_24 (fun H locs hP hD hS => ?_)
      rw [← eS4] at hP hD
      obtain ⟨y6, ey6⟩ : ∃ z : Int32, z = x2 + (1 : Int32) := ⟨_, rfl⟩
      have h := h y6 ey6
      refine lv_iinc (v := y6) (lv' := [(2, .int y6), (1, .int y3), (0, .ref (ad 0))]) C.1 C.2.1 dX7_clear_25 hl (k := 2) rfl (by rw [ey6]; rfl) (by decide) rfl (fun ls hl => ?_)
      refine lv_goto (tgt := 4) C.1 C.2.1 dX7_clear_28 (by decide) ?_
      exact hk4 y3 y6 S4 H locs ls h hP hD hS (lv_sub hl [2, 1, 0] rfl)
  have L4 : ∀ (N : Nat) (x1 : Int32) (x2 : Int32) (S : St) (H : Heap) (locs : List Loc) (ls : Array Slot), itr (F := Int32 → Int32 → St → Prop) (fun _ _ _ => False) (fun k4 x1 x2 S => bX7_clear_4 k4 Q x1 x2 S) N x1 x2 S → va_P g vwCl (wM ct ad S) H → va_D A (wM ct ad S) → va_S A s.heap H locs → lv_has ls 3 [(0, .ref (ad 0)), (1, .int x1), (2, .int x2)] → W p l e R s m args below meth c H locs 0 0 QQ (F0 m 4 ls []) := by
    intro N
    induction N with
    | zero => intro x1 x2 S H locs ls h hP hD hS hl; exact False.elim h
    | succ N ih => intro x1 x2 S H locs ls h hP hD hS hl; exact B4  (itr (F := Int32 → Int32 → St → Prop) (fun _ _ _ => False) (fun k4 x1 x2 S => bX7_clear_4 k4 Q x1 x2 S) N) ih x1 x2 S H locs ls h  hP hD hS hl
  refine lv_iconst (v := 0) C.1 C.2.1 dX7_clear_0 (by decide) ?_
  refine lv_istore_n (lv' := [(1, .int (0 : Int32)), (0, .ref (ad 0))]) C.1 C.2.1 dX7_clear_1 rfl hl (by decide) rfl (fun ls hl => ?_)
  refine lv_iconst (v := 0) C.1 C.2.1 dX7_clear_2 (by decide) ?_
  refine lv_istore_n (lv' := [(2, .int (0 : Int32)), (1, .int (0 : Int32)), (0, .ref (ad 0))]) C.1 C.2.1 dX7_clear_3 rfl hl (by decide) rfl (fun ls hl => ?_)
  obtain ⟨N, h⟩ := h
  exact L4 N (0 : Int32) (0 : Int32) S H locs ls h hP hD hS (lv_sub hl [2, 1, 0] rfl)
theorem mX7_clear (l : Launch) (g : va_G) (ct : Nat → ClassId) (ad : Nat → Nat) (sz : Nat) (S : St) (Q : Int32 → St → Prop) (h : pX7_clear S Q) : Met l yX7_clear wsX7_clear ({ frames := 0, cells := 0, slots := 0, locals := 0 }) (gPc g (mT ct) (wM ct ad S) sz [.ref (ad 0)]) (va_Qi Q (gB g (mT ct) (wM ct ad) (va_A (wM ct ad S) sz)) (va_A (wM ct ad S) sz)) 0 0 (va_A (wM ct ad S) sz) :=
  g_metI (w := wM ct ad) (cc := cX7_clear) (maxL := 3) (by decide) rfl rfl (Nat.le_of_ble_eq_true rfl) rfl (fun p e s m args below meth c QQ A C hK hN hA hret H locs ls hP hD hS hl => kX7_clear C hK hN hA (Nat.le_refl _) (Nat.le_refl _) Q hret  S h H locs ls hP hD hS hl)

def pX7_model (x1 : Int32) (S : St) (Q : Int32 → St → Prop) : Prop :=
  pX7_in x1 (0 : Int32) (2 : Int32) (fun (r1 : Int32) => ((¬ r1 = 0 → (∀ y2 : Int32, y2 = (S.1 0 0) → (∀ S3 : St, S3 = wr S 0 0 x1 → (∀ S4 : St, S4 = wr S3 3 0 (0 : Int32) → Q y2 S4)))) ∧ (r1 = 0 → Q (-2 : Int32) S)))
set_option maxHeartbeats 40000000 in
set_option maxRecDepth 100000 in
theorem kX7_model {p : Program} {l : Launch} {e : Env} {R : Room} {s : State} {m : MethodId} {args : Array Value} {below : List Frame} {meth : Method} {c : Code} {QQ : State → Prop} {g : va_G} {ct : Nat → ClassId} {ad : Nat → Nat} {A : Nat → Prop} (C : CallFix p m c cX7_model 3 s args wsX7_model RX7) (hK : va_K g vwCl (mT ct) s) (hN : xN s) (hA : ∀ q, s.heap.size ≤ q → A q) (hRf : 1 ≤ R.frames) (hRl : 22 ≤ R.locals) (Q : Int32 → St → Prop) (hret : ∀ (pc : Nat) (r : Int32) (S : St) (H : Heap) (locs : List Loc) (ls : Array Slot), decode cX7_model pc = .ok (.ireturn, 1) → Q r S → va_P g vwCl (wM ct ad S) H → va_D A (wM ct ad S) → va_S A s.heap H locs → W p l e R s m args below meth c H locs 0 0 QQ (F0 m pc ls [.int r])) (x1 : Int32) (S : St) (h : pX7_model x1 S Q) (H : Heap) (locs : List Loc) (ls : Array Slot) (hP : va_P g vwCl (wM ct ad S) H) (hD : va_D A (wM ct ad S)) (hS : va_S A s.heap H locs) (hl : lv_has ls 3 [(0, .ref (ad 0)), (1, .int x1)]) : W p l e R s m args below meth c H locs 0 0 QQ (F0 m 0 ls []) := by
  have hinX7 : ∀ w ∈ wsX70, w ∈ wsX7_model := by decide +kernel
  refine lv_iload_n C.1 C.2.1 dX7_model_0 rfl (lv_at hl 1 rfl) ?_
  refine lv_iconst (v := 0) C.1 C.2.1 dX7_model_1 (by decide) ?_
  refine lv_iconst (v := 2) C.1 C.2.1 dX7_model_2 (by decide) ?_
  refine g_callS (w := wM ct ad) C hK hN hA hP hD hS (mX7_in l g (mT ct) S H.size x1 (0 : Int32) (2 : Int32) _ h) (va_cwS 3 C.2.2.2.2 gX7_model_X7_in rfl rfl rfl (by decide +kernel) ⟨Nat.le_trans (by decide) hRf, Nat.le_trans (by decide) hRl⟩) rfl hl.1 rfl (Nat.le_of_ble_eq_true rfl) dX7_model_3 ⟨Nat.zero_le _, Nat.zero_le _⟩ (fun r1 H locs h hP hD hS => ?_)
  refine lv_if_ne (tgt := 12) C.1 C.2.1 dX7_model_6 (by decide) (fun c5 => ?_) (fun c5 => ?_)
  · have h := h.1 c5
    refine lv_aload_n C.1 C.2.1 dX7_model_12 rfl (lv_at hl 0 rfl) ?_
    refine mg_model C hinX7 hK hP (by decide +kernel) dX7_model_13 ?_
    refine lv_topi (fun y2 ey2 => ?_)
    have h := h y2 ey2
    refine lv_istore_n (lv' := [(2, .int y2), (0, .ref (ad 0)), (1, .int x1)]) C.1 C.2.1 dX7_model_16 rfl hl (by decide) rfl (fun ls hl => ?_)
    refine lv_aload_n C.1 C.2.1 dX7_model_17 rfl (lv_at hl 1 rfl) ?_
    refine lv_iload_n C.1 C.2.1 dX7_model_18 rfl (lv_at hl 2 rfl) ?_
    obtain ⟨S3, eS3⟩ : ∃ z : St, z = wr S 0 0 x1 := ⟨_, rfl⟩
    have h := h S3 eS3
    refine mp_model C hinX7 hK hP hD hS (by decide +kernel) dX7_model_19 (fun H locs hP hD hS => ?_)
    rw [← eS3] at hP hD
    refine lv_aload_n C.1 C.2.1 dX7_model_22 rfl (lv_at hl 1 rfl) ?_
    refine lv_iconst (v := 0) C.1 C.2.1 dX7_model_23 (by decide) ?_
    obtain ⟨S4, eS4⟩ : ∃ z : St, z = wr S3 3 0 (0 : Int32) := ⟨_, rfl⟩
    have h := h S4 eS4
    refine mp_isFound C hinX7 hK hP hD hS (by decide +kernel) zb_0 dX7_model_24 (fun H locs hP hD hS => ?_)
    rw [← eS4] at hP hD
    refine lv_iload_n C.1 C.2.1 dX7_model_27 rfl (lv_at hl 0 rfl) ?_
    exact hret _ _ _ _ _ _ dX7_model_28 h hP hD hS
  · have h := h.2 c5
    refine lv_bipush (v := -2) C.1 C.2.1 dX7_model_9 (by decide) ?_
    exact hret _ _ _ _ _ _ dX7_model_11 h hP hD hS
theorem mX7_model (l : Launch) (g : va_G) (ct : Nat → ClassId) (ad : Nat → Nat) (sz : Nat) (S : St) (x1 : Int32) (Q : Int32 → St → Prop) (h : pX7_model x1 S Q) : Met l yX7_model wsX7_model ({ frames := 1, cells := 0, slots := 0, locals := 22 }) (gPc g (mT ct) (wM ct ad S) sz [.ref (ad 0), .int x1]) (va_Qi Q (gB g (mT ct) (wM ct ad) (va_A (wM ct ad S) sz)) (va_A (wM ct ad S) sz)) 0 0 (va_A (wM ct ad S) sz) :=
  g_metI (w := wM ct ad) (cc := cX7_model) (maxL := 3) (by decide) rfl rfl (Nat.le_of_ble_eq_true rfl) rfl (fun p e s m args below meth c QQ A C hK hN hA hret H locs ls hP hD hS hl => kX7_model C hK hN hA (Nat.le_refl _) (Nat.le_refl _) Q hret x1 S h H locs ls hP hD hS hl)

def pX7_isRegister (x0 : Int32) (Q : Int32 → Prop) : Prop :=
  pX7_in x0 (0 : Int32) (3 : Int32) (fun (r1 : Int32) => (zb r1 ∧ Q r1))
set_option maxHeartbeats 40000000 in
set_option maxRecDepth 100000 in
theorem kX7_isRegister {p : Program} {l : Launch} {e : Env} {R : Room} {s : State} {m : MethodId} {args : Array Value} {below : List Frame} {meth : Method} {c : Code} {QQ : State → Prop} {g : va_G} {tys : List (ClassId × FieldType)} {A : Nat → Prop} (C : CallFix p m c cX7_isRegister 1 s args wsX7_isRegister RX7) (hK : va_K g vwCl (tys) s) (hN : xN s) (hA : ∀ q, s.heap.size ≤ q → A q) (hRf : 1 ≤ R.frames) (hRl : 22 ≤ R.locals) (Q : Int32 → Prop) (hret : ∀ (pc : Nat) (r : Int32) (S : St) (H : Heap) (locs : List Loc) (ls : Array Slot), decode cX7_isRegister pc = .ok (.ireturn, 1) → zb r → Q r → va_P g vwCl (w0 S) H → va_D A (w0 S) → va_S A s.heap H locs → W p l e R s m args below meth c H locs 0 0 QQ (F0 m pc ls [.int r])) (x0 : Int32) (S : St) (h : pX7_isRegister x0 Q) (H : Heap) (locs : List Loc) (ls : Array Slot) (hP : va_P g vwCl (w0 S) H) (hD : va_D A (w0 S)) (hS : va_S A s.heap H locs) (hl : lv_has ls 1 [(0, .int x0)]) : W p l e R s m args below meth c H locs 0 0 QQ (F0 m 0 ls []) := by
  refine lv_iload_n C.1 C.2.1 dX7_isRegister_0 rfl (lv_at hl 0 rfl) ?_
  refine lv_iconst (v := 0) C.1 C.2.1 dX7_isRegister_1 (by decide) ?_
  refine lv_iconst (v := 3) C.1 C.2.1 dX7_isRegister_2 (by decide) ?_
  refine g_callS (w := w0) C hK hN hA hP hD hS (mX7_in l g (tys) S H.size x0 (0 : Int32) (3 : Int32) _ h) (va_cwS 3 C.2.2.2.2 gX7_isRegister_X7_in rfl rfl rfl (by decide +kernel) ⟨Nat.le_trans (by decide) hRf, Nat.le_trans (by decide) hRl⟩) rfl hl.1 rfl (Nat.le_of_ble_eq_true rfl) dX7_isRegister_3 ⟨Nat.zero_le _, Nat.zero_le _⟩ (fun r1 H locs h hP hD hS => ?_)
  exact hret _ _ _ _ _ _ dX7_isRegister_6 h.1 h.2 hP hD hS
theorem mX7_isRegister (l : Launch) (g : va_G) (tys : List (ClassId × FieldType)) (S : St) (sz : Nat) (x0 : Int32) (Q : Int32 → Prop) (h : pX7_isRegister x0 Q) : Met l yX7_isRegister wsX7_isRegister ({ frames := 1, cells := 0, slots := 0, locals := 22 }) (gPc g (tys) (w0 S) sz [.int x0]) (va_Qi (fun r _ => Q r) (gB g (tys) (w0) (va_A (w0 S) sz)) (va_A (w0 S) sz)) 0 0 (va_A (w0 S) sz) :=
  g_metZ (w := w0) (Q := fun r _ => Q r) (cc := cX7_isRegister) (maxL := 1) (by decide) rfl rfl (Nat.le_of_ble_eq_true rfl) rfl (fun p e s m args below meth c QQ A C hK hN hA hret H locs ls hP hD hS hl => kX7_isRegister C hK hN hA (Nat.le_refl _) (Nat.le_refl _) Q hret x0 S h H locs ls hP hD hS hl)

def bX7_isPlace_23 (Q : Int32 → Prop) (t0 : Int32) : Prop :=
  (zb t0 ∧ Q t0)
def bX7_isPlace_22 (Q : Int32 → Prop) : Prop :=
  bX7_isPlace_23 Q (0 : Int32)
def pX7_isPlace (x0 : Int32) (x1 : Int32) (Q : Int32 → Prop) : Prop :=
  pX7_in x0 (0 : Int32) (2 : Int32) (fun (r1 : Int32) => ((r1 = 0 → bX7_isPlace_22 Q ) ∧ (¬ (r1 = 0) → pX7_in x1 (-1 : Int32) (3 : Int32) (fun (r2 : Int32) => ((r2 = 0 → bX7_isPlace_22 Q ) ∧ (¬ (r2 = 0) → bX7_isPlace_23 Q (1 : Int32)))))))
set_option maxHeartbeats 40000000 in
set_option maxRecDepth 100000 in
theorem kX7_isPlace {p : Program} {l : Launch} {e : Env} {R : Room} {s : State} {m : MethodId} {args : Array Value} {below : List Frame} {meth : Method} {c : Code} {QQ : State → Prop} {g : va_G} {tys : List (ClassId × FieldType)} {A : Nat → Prop} (C : CallFix p m c cX7_isPlace 2 s args wsX7_isPlace RX7) (hK : va_K g vwCl (tys) s) (hN : xN s) (hA : ∀ q, s.heap.size ≤ q → A q) (hRf : 1 ≤ R.frames) (hRl : 22 ≤ R.locals) (Q : Int32 → Prop) (hret : ∀ (pc : Nat) (r : Int32) (S : St) (H : Heap) (locs : List Loc) (ls : Array Slot), decode cX7_isPlace pc = .ok (.ireturn, 1) → zb r → Q r → va_P g vwCl (w0 S) H → va_D A (w0 S) → va_S A s.heap H locs → W p l e R s m args below meth c H locs 0 0 QQ (F0 m pc ls [.int r])) (x0 : Int32) (x1 : Int32) (S : St) (h : pX7_isPlace x0 x1 Q) (H : Heap) (locs : List Loc) (ls : Array Slot) (hP : va_P g vwCl (w0 S) H) (hD : va_D A (w0 S)) (hS : va_S A s.heap H locs) (hl : lv_has ls 2 [(0, .int x0), (1, .int x1)]) : W p l e R s m args below meth c H locs 0 0 QQ (F0 m 0 ls []) := by
  have B23 : ∀ (t0 : Int32) (S : St) (H : Heap) (locs : List Loc) (ls : Array Slot), bX7_isPlace_23 Q t0 → va_P g vwCl (w0 S) H → va_D A (w0 S) → va_S A s.heap H locs → lv_has ls 2 [] → W p l e R s m args below meth c H locs 0 0 QQ (F0 m 23 ls [.int t0]) := by
    intro t0 S H locs ls h hP hD hS hl
    exact hret _ _ _ _ _ _ dX7_isPlace_23 h.1 h.2 hP hD hS
  have B22 : ∀ (S : St) (H : Heap) (locs : List Loc) (ls : Array Slot), bX7_isPlace_22 Q → va_P g vwCl (w0 S) H → va_D A (w0 S) → va_S A s.heap H locs → lv_has ls 2 [] → W p l e R s m args below meth c H locs 0 0 QQ (F0 m 22 ls []) := by
    intro S H locs ls h hP hD hS hl
    refine lv_iconst (v := 0) C.1 C.2.1 dX7_isPlace_22 (by decide) ?_
    exact B23 (0 : Int32) S H locs ls h hP hD hS (lv_sub hl [] rfl)
  refine lv_iload_n C.1 C.2.1 dX7_isPlace_0 rfl (lv_at hl 0 rfl) ?_
  refine lv_iconst (v := 0) C.1 C.2.1 dX7_isPlace_1 (by decide) ?_
  refine lv_iconst (v := 2) C.1 C.2.1 dX7_isPlace_2 (by decide) ?_
  refine g_callS (w := w0) C hK hN hA hP hD hS (mX7_in l g (tys) S H.size x0 (0 : Int32) (2 : Int32) _ h) (va_cwS 3 C.2.2.2.2 gX7_isPlace_X7_in rfl rfl rfl (by decide +kernel) ⟨Nat.le_trans (by decide) hRf, Nat.le_trans (by decide) hRl⟩) rfl hl.1 rfl (Nat.le_of_ble_eq_true rfl) dX7_isPlace_3 ⟨Nat.zero_le _, Nat.zero_le _⟩ (fun r1 H locs h hP hD hS => ?_)
  refine lv_if_eq (tgt := 22) C.1 C.2.1 dX7_isPlace_6 (by decide) (fun c4 => ?_) (fun c4 => ?_)
  · have h := h.1 c4
    exact B22  S H locs ls h hP hD hS (lv_sub hl [] rfl)
  · have h := h.2 c4
    refine lv_iload_n C.1 C.2.1 dX7_isPlace_9 rfl (lv_at hl 1 rfl) ?_
    refine lv_iconst (v := -1) C.1 C.2.1 dX7_isPlace_10 (by decide) ?_
    refine lv_iconst (v := 3) C.1 C.2.1 dX7_isPlace_11 (by decide) ?_
    refine g_callS (w := w0) C hK hN hA hP hD hS (mX7_in l g (tys) S H.size x1 (-1 : Int32) (3 : Int32) _ h) (va_cwS 3 C.2.2.2.2 gX7_isPlace_X7_in rfl rfl rfl (by decide +kernel) ⟨Nat.le_trans (by decide) hRf, Nat.le_trans (by decide) hRl⟩) rfl hl.1 rfl (Nat.le_of_ble_eq_true rfl) dX7_isPlace_12 ⟨Nat.zero_le _, Nat.zero_le _⟩ (fun r2 H locs h hP hD hS => ?_)
    refine lv_if_eq (tgt := 22) C.1 C.2.1 dX7_isPlace_15 (by decide) (fun c3 => ?_) (fun c3 => ?_)
    · have h := h.1 c3
      exact B22  S H locs ls h hP hD hS (lv_sub hl [] rfl)
    · have h := h.2 c3
      refine lv_iconst (v := 1) C.1 C.2.1 dX7_isPlace_18 (by decide) ?_
      refine lv_goto (tgt := 23) C.1 C.2.1 dX7_isPlace_19 (by decide) ?_
      exact B23 (1 : Int32) S H locs ls h hP hD hS (lv_sub hl [] rfl)
theorem mX7_isPlace (l : Launch) (g : va_G) (tys : List (ClassId × FieldType)) (S : St) (sz : Nat) (x0 : Int32) (x1 : Int32) (Q : Int32 → Prop) (h : pX7_isPlace x0 x1 Q) : Met l yX7_isPlace wsX7_isPlace ({ frames := 1, cells := 0, slots := 0, locals := 22 }) (gPc g (tys) (w0 S) sz [.int x0, .int x1]) (va_Qi (fun r _ => Q r) (gB g (tys) (w0) (va_A (w0 S) sz)) (va_A (w0 S) sz)) 0 0 (va_A (w0 S) sz) :=
  g_metZ (w := w0) (Q := fun r _ => Q r) (cc := cX7_isPlace) (maxL := 2) (by decide) rfl rfl (Nat.le_of_ble_eq_true rfl) rfl (fun p e s m args below meth c QQ A C hK hN hA hret H locs ls hP hD hS hl => kX7_isPlace C hK hN hA (Nat.le_refl _) (Nat.le_refl _) Q hret x0 x1 S h H locs ls hP hD hS hl)
