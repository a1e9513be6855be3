def bX7_isGood_97 (Q : Int32 → Prop) (t0 : Int32) : Prop :=
  (zb t0 ∧ Q t0)
def bX7_isGood_96 (Q : Int32 → Prop) : Prop :=
  bX7_isGood_97 Q (0 : Int32)
def bX7_isGood_92 (Q : Int32 → Prop) : Prop :=
  bX7_isGood_97 Q (1 : Int32)
def bX7_isGood_60 (Q : Int32 → Prop) (x1 : Int32) (x2 : Int32) (x3 : Int32) (x4 : Int32) : Prop :=
  pX7_isRegister x1 (fun (r1 : Int32) => ((r1 = 0 → bX7_isGood_96 Q ) ∧ (¬ (r1 = 0) → pX7_isPlace x2 x3 (fun (r2 : Int32) => ((r2 = 0 → bX7_isGood_96 Q ) ∧ (¬ (r2 = 0) → ((x4 = 0 → bX7_isGood_92 Q ) ∧ (¬ (x4 = 0) → ((x4 = (1 : Int32) → bX7_isGood_92 Q ) ∧ (¬ (x4 = (1 : Int32)) → ((¬ x4 = (3 : Int32) → bX7_isGood_96 Q ) ∧ (x4 = (3 : Int32) → bX7_isGood_92 Q ))))))))))))
def bX7_isGood_129 (Q : Int32 → Prop) (t0 : Int32) : Prop :=
  (zb t0 ∧ Q t0)
def bX7_isGood_128 (Q : Int32 → Prop) : Prop :=
  bX7_isGood_129 Q (0 : Int32)
def bX7_isGood_124 (Q : Int32 → Prop) : Prop :=
  bX7_isGood_129 Q (1 : Int32)
def bX7_isGood_168 (Q : Int32 → Prop) (t0 : Int32) : Prop :=
  (zb t0 ∧ Q t0)
def bX7_isGood_167 (Q : Int32 → Prop) : Prop :=
  bX7_isGood_168 Q (0 : Int32)
def bX7_isGood_130 (Q : Int32 → Prop) (x1 : Int32) (x2 : Int32) (x3 : Int32) (x4 : Int32) (x5 : Int32) : Prop :=
  pX7_isRegister x1 (fun (r8 : Int32) => ((r8 = 0 → bX7_isGood_167 Q ) ∧ (¬ (r8 = 0) → pX7_isRegister x2 (fun (r9 : Int32) => ((r9 = 0 → bX7_isGood_167 Q ) ∧ (¬ (r9 = 0) → pX7_isPlace x3 x4 (fun (r10 : Int32) => ((r10 = 0 → bX7_isGood_167 Q ) ∧ (¬ (r10 = 0) → pX7_in x5 (0 : Int32) (3 : Int32) (fun (r11 : Int32) => ((r11 = 0 → bX7_isGood_167 Q ) ∧ (¬ (r11 = 0) → bX7_isGood_168 Q (1 : Int32)))))))))))))
def bX7_isGood_192 (Q : Int32 → Prop) (t0 : Int32) : Prop :=
  (zb t0 ∧ Q t0)
def bX7_isGood_191 (Q : Int32 → Prop) : Prop :=
  bX7_isGood_192 Q (0 : Int32)
def bX7_isGood_169 (Q : Int32 → Prop) (x1 : Int32) (x2 : Int32) : Prop :=
  pX7_in x1 (0 : Int32) (3 : Int32) (fun (r16 : Int32) => ((r16 = 0 → bX7_isGood_191 Q ) ∧ (¬ (r16 = 0) → pX7_in x2 (0 : Int32) (3 : Int32) (fun (r17 : Int32) => ((r17 = 0 → bX7_isGood_191 Q ) ∧ (¬ (r17 = 0) → bX7_isGood_192 Q (1 : Int32)))))))
def bX7_isGood_219 (Q : Int32 → Prop) (t0 : Int32) : Prop :=
  (zb t0 ∧ Q t0)
def bX7_isGood_218 (Q : Int32 → Prop) : Prop :=
  bX7_isGood_219 Q (0 : Int32)
def bX7_isGood_193 (Q : Int32 → Prop) (x1 : Int32) (x2 : Int32) (x3 : Int32) : Prop :=
  pX7_isRegister x1 (fun (r20 : Int32) => ((r20 = 0 → bX7_isGood_218 Q ) ∧ (¬ (r20 = 0) → pX7_isRegister x2 (fun (r21 : Int32) => ((r21 = 0 → bX7_isGood_218 Q ) ∧ (¬ (r21 = 0) → pX7_isRegister x3 (fun (r22 : Int32) => ((r22 = 0 → bX7_isGood_218 Q ) ∧ (¬ (r22 = 0) → bX7_isGood_219 Q (1 : Int32))))))))))
def bX7_isGood_241 (Q : Int32 → Prop) (t0 : Int32) : Prop :=
  (zb t0 ∧ Q t0)
def bX7_isGood_240 (Q : Int32 → Prop) : Prop :=
  bX7_isGood_241 Q (0 : Int32)
def pX7_isGood (x0 : Int32) (x1 : Int32) (x2 : Int32) (x3 : Int32) (x4 : Int32) (x5 : Int32) (Q : Int32 → Prop) : Prop :=
  (((Int32.toInt x0 < 0 ∨ 10 < Int32.toInt x0) → Q (0 : Int32)) ∧ (x0 = (0 : Int32) → bX7_isGood_60 Q x1 x2 x3 x4) ∧ (x0 = (1 : Int32) → pX7_isRegister x1 (fun (r27 : Int32) => ((r27 = 0 → bX7_isGood_128 Q ) ∧ (¬ (r27 = 0) → pX7_isPlace x2 x3 (fun (r28 : Int32) => ((r28 = 0 → bX7_isGood_128 Q ) ∧ (¬ (r28 = 0) → ((x4 = 0 → bX7_isGood_124 Q ) ∧ (¬ (x4 = 0) → ((¬ x4 = (2 : Int32) → bX7_isGood_128 Q ) ∧ (x4 = (2 : Int32) → bX7_isGood_124 Q ))))))))))) ∧ (x0 = (2 : Int32) → bX7_isGood_130 Q x1 x2 x3 x4 x5) ∧ (x0 = (3 : Int32) → bX7_isGood_130 Q x1 x2 x3 x4 x5) ∧ (x0 = (4 : Int32) → bX7_isGood_60 Q x1 x2 x3 x4) ∧ (x0 = (5 : Int32) → bX7_isGood_130 Q x1 x2 x3 x4 x5) ∧ (x0 = (6 : Int32) → bX7_isGood_169 Q x1 x2) ∧ (x0 = (7 : Int32) → bX7_isGood_169 Q x1 x2) ∧ (x0 = (8 : Int32) → bX7_isGood_193 Q x1 x2 x3) ∧ (x0 = (9 : Int32) → bX7_isGood_193 Q x1 x2 x3) ∧ (x0 = (10 : Int32) → pX7_isRegister x1 (fun (r33 : Int32) => ((r33 = 0 → bX7_isGood_240 Q ) ∧ (¬ (r33 = 0) → pX7_in x2 (1 : Int32) (5 : Int32) (fun (r34 : Int32) => ((r34 = 0 → bX7_isGood_240 Q ) ∧ (¬ (r34 = 0) → bX7_isGood_241 Q (1 : Int32)))))))))
set_option maxHeartbeats 40000000 in
set_option maxRecDepth 100000 in
theorem kX7_isGood {p : Program} {l : Launch} {e : Env} {R : Room} {s : State} {m : MethodId} {args : Array Value} {below : List Frame} {meth : Method} {c : Code} {QQ : State → Prop} {g : va_G} {tys : List (ClassId × FieldType)} {A : Nat → Prop} (C : CallFix p m c cX7_isGood 6 s args wsX7_isGood RX7) (hK : va_K g vwCl (tys) s) (hN : xN s) (hA : ∀ q, s.heap.size ≤ q → A q) (hRf : 2 ≤ R.frames) (hRl : 43 ≤ R.locals) (Q : Int32 → Prop) (hret : ∀ (pc : Nat) (r : Int32) (S : St) (H : Heap) (locs : List Loc) (ls : Array Slot), decode cX7_isGood pc = .ok (.ireturn, 1) → zb r → Q r → va_P g vwCl (w0 S) H → va_D A (w0 S) → va_S A s.heap H locs → W p l e R s m args below meth c H locs 0 0 QQ (F0 m pc ls [.int r])) (x0 : Int32) (x1 : Int32) (x2 : Int32) (x3 : Int32) (x4 : Int32) (x5 : Int32) (S : St) (h : pX7_isGood x0 x1 x2 x3 x4 x5 Q) (H : Heap) (locs : List Loc) (ls : Array Slot) (hP : va_P g vwCl (w0 S) H) (hD : va_D A (w0 S)) (hS : va_S A s.heap H locs) (hl : lv_has ls 6 [(0, .int x0), (1, .int x1), (2, .int x2), (3, .int x3), (4, .int x4), (5, .int x5)]) : W p l e R s m args below meth c H locs 0 0 QQ (F0 m 0 ls []) := by
  have B97 : ∀ (t0 : Int32) (S : St) (H : Heap) (locs : List Loc) (ls : Array Slot), bX7_isGood_97 Q t0 → va_P g vwCl (w0 S) H → va_D A (w0 S) → va_S A s.heap H locs → lv_has ls 6 [] → W p l e R s m args below meth c H locs 0 0 QQ (F0 m 97 ls [.int t0]) := by
    intro t0 S H locs ls h hP hD hS hl
    exact hret _ _ _ _ _ _ dX7_isGood_97 h.1 h.2 hP hD hS
  have B96 : ∀ (S : St) (H : Heap) (locs : List Loc) (ls : Array Slot), bX7_isGood_96 Q → va_P g vwCl (w0 S) H → va_D A (w0 S) → va_S A s.heap H locs → lv_has ls 6 [] → W p l e R s m args below meth c H locs 0 0 QQ (F0 m 96 ls []) := by
    intro S H locs ls h hP hD hS hl
    refine lv_iconst (v := 0) C.1 C.2.1 dX7_isGood_96 (by decide) ?_
    exact B97 (0 : Int32) S H locs ls h hP hD hS (lv_sub hl [] rfl)
  have B92 : ∀ (S : St) (H : Heap) (locs : List Loc) (ls : Array Slot), bX7_isGood_92 Q → va_P g vwCl (w0 S) H → va_D A (w0 S) → va_S A s.heap H locs → lv_has ls 6 [] → W p l e R s m args below meth c H locs 0 0 QQ (F0 m 92 ls []) := by
    intro S H locs ls h hP hD hS hl
    refine lv_iconst (v := 1) C.1 C.2.1 dX7_isGood_92 (by decide) ?_
    refine lv_goto (tgt := 97) C.1 C.2.1 dX7_isGood_93 (by decide) ?_
    exact B97 (1 : Int32) S H locs ls h hP hD hS (lv_sub hl [] rfl)
  have B60 : ∀ (x1 : Int32) (x2 : Int32) (x3 : Int32) (x4 : Int32) (S : St) (H : Heap) (locs : List Loc) (ls : Array Slot), bX7_isGood_60 Q x1 x2 x3 x4 → va_P g vwCl (w0 S) H → va_D A (w0 S) → va_S A s.heap H locs → lv_has ls 6 [(1, .int x1), (2, .int x2), (3, .int x3), (4, .int x4)] → W p l e R s m args below meth c H locs 0 0 QQ (F0 m 60 ls []) := by
    intro x1 x2 x3 x4 S H locs ls h hP hD hS hl
    refine lv_iload_n C.1 C.2.1 dX7_isGood_60 rfl (lv_at hl 0 rfl) ?_
    refine g_callS (w := w0) C hK hN hA hP hD hS (mX7_isRegister l g (tys) S H.size x1 _ h) (va_cwS 1 C.2.2.2.2 gX7_isGood_X7_isRegister rfl rfl rfl (by decide +kernel) ⟨Nat.le_trans (by decide) hRf, Nat.le_trans (by decide) hRl⟩) rfl hl.1 rfl (Nat.le_of_ble_eq_true rfl) dX7_isGood_61 ⟨Nat.zero_le _, Nat.zero_le _⟩ (fun r1 H locs h hP hD hS => ?_)
    refine lv_if_eq (tgt := 96) C.1 C.2.1 dX7_isGood_64 (by decide) (fun c7 => ?_) (fun c7 => ?_)
    · have h := h.1 c7
      exact B96  S H locs ls h hP hD hS (lv_sub hl [] rfl)
    · have h := h.2 c7
      refine lv_iload_n C.1 C.2.1 dX7_isGood_67 rfl (lv_at hl 1 rfl) ?_
      refine lv_iload_n C.1 C.2.1 dX7_isGood_68 rfl (lv_at hl 2 rfl) ?_
      refine g_callS (w := w0) C hK hN hA hP hD hS (mX7_isPlace l g (tys) S H.size x2 x3 _ h) (va_cwS 2 C.2.2.2.2 gX7_isGood_X7_isPlace rfl rfl rfl (by decide +kernel) ⟨Nat.le_trans (by decide) hRf, Nat.le_trans (by decide) hRl⟩) rfl hl.1 rfl (Nat.le_of_ble_eq_true rfl) dX7_isGood_69 ⟨Nat.zero_le _, Nat.zero_le _⟩ (fun r2 H locs h hP hD hS => ?_)
      refine lv_if_eq (tgt := 96) C.1 C.2.1 dX7_isGood_72 (by decide) (fun c6 => ?_) (fun c6 => ?_)
      · have h := h.1 c6
        exact B96  S H locs ls h hP hD hS (lv_sub hl [] rfl)
      · have h := h.2 c6
        refine lv_iload C.1 C.2.1 dX7_isGood_75 (lv_at hl 3 rfl) ?_
        refine lv_if_eq (tgt := 92) C.1 C.2.1 dX7_isGood_77 (by decide) (fun c5 => ?_) (fun c5 => ?_)
        · have h := h.1 c5
          exact B92  S H locs ls h hP hD hS (lv_sub hl [] rfl)
        · have h := h.2 c5
          refine lv_iload C.1 C.2.1 dX7_isGood_80 (lv_at hl 3 rfl) ?_
          refine lv_iconst (v := 1) C.1 C.2.1 dX7_isGood_82 (by decide) ?_
          refine lv_icmp_eq (tgt := 92) C.1 C.2.1 dX7_isGood_83 (by decide) (fun c4 => ?_) (fun c4 => ?_)
          · have h := h.1 c4
            exact B92  S H locs ls h hP hD hS (lv_sub hl [] rfl)
          · have h := h.2 c4
            refine lv_iload C.1 C.2.1 dX7_isGood_86 (lv_at hl 3 rfl) ?_
            refine lv_iconst (v := 3) C.1 C.2.1 dX7_isGood_88 (by decide) ?_
            refine lv_icmp_ne (tgt := 96) C.1 C.2.1 dX7_isGood_89 (by decide) (fun c3 => ?_) (fun c3 => ?_)
            · have h := h.1 c3
              exact B96  S H locs ls h hP hD hS (lv_sub hl [] rfl)
            · have h := h.2 c3
              exact B92  S H locs ls h hP hD hS (lv_sub hl [] rfl)
  have B129 : ∀ (t0 : Int32) (S : St) (H : Heap) (locs : List Loc) (ls : Array Slot), bX7_isGood_129 Q t0 → va_P g vwCl (w0 S) H → va_D A (w0 S) → va_S A s.heap H locs → lv_has ls 6 [] → W p l e R s m args below meth c H locs 0 0 QQ (F0 m 129 ls [.int t0]) := by
    intro t0 S H locs ls h hP hD hS hl
    exact hret _ _ _ _ _ _ dX7_isGood_129 h.1 h.2 hP hD hS
  have B128 : ∀ (S : St) (H : Heap) (locs : List Loc) (ls : Array Slot), bX7_isGood_128 Q → va_P g vwCl (w0 S) H → va_D A (w0 S) → va_S A s.heap H locs → lv_has ls 6 [] → W p l e R s m args below meth c H locs 0 0 QQ (F0 m 128 ls []) := by
    intro S H locs ls h hP hD hS hl
    refine lv_iconst (v := 0) C.1 C.2.1 dX7_isGood_128 (by decide) ?_
    exact B129 (0 : Int32) S H locs ls h hP hD hS (lv_sub hl [] rfl)
  have B124 : ∀ (S : St) (H : Heap) (locs : List Loc) (ls : Array Slot), bX7_isGood_124 Q → va_P g vwCl (w0 S) H → va_D A (w0 S) → va_S A s.heap H locs → lv_has ls 6 [] → W p l e R s m args below meth c H locs 0 0 QQ (F0 m 124 ls []) := by
    intro S H locs ls h hP hD hS hl
    refine lv_iconst (v := 1) C.1 C.2.1 dX7_isGood_124 (by decide) ?_
    refine lv_goto (tgt := 129) C.1 C.2.1 dX7_isGood_125 (by decide) ?_
    exact B129 (1 : Int32) S H locs ls h hP hD hS (lv_sub hl [] rfl)
  have B168 : ∀ (t0 : Int32) (S : St) (H : Heap) (locs : List Loc) (ls : Array Slot), bX7_isGood_168 Q t0 → va_P g vwCl (w0 S) H → va_D A (w0 S) → va_S A s.heap H locs → lv_has ls 6 [] → W p l e R s m args below meth c H locs 0 0 QQ (F0 m 168 ls [.int t0]) := by
    intro t0 S H locs ls h hP hD hS hl
    exact hret _ _ _ _ _ _ dX7_isGood_168 h.1 h.2 hP hD hS
  have B167 : ∀ (S : St) (H : Heap) (locs : List Loc) (ls : Array Slot), bX7_isGood_167 Q → va_P g vwCl (w0 S) H → va_D A (w0 S) → va_S A s.heap H locs → lv_has ls 6 [] → W p l e R s m args below meth c H locs 0 0 QQ (F0 m 167 ls []) := by
    intro S H locs ls h hP hD hS hl
    refine lv_iconst (v := 0) C.1 C.2.1 dX7_isGood_167 (by decide) ?_
    exact B168 (0 : Int32) S H locs ls h hP hD hS (lv_sub hl [] rfl)
  have B130 : ∀ (x1 : Int32) (x2 : Int32) (x3 : Int32) (x4 : Int32) (x5 : Int32) (S : St) (H : Heap) (locs : List Loc) (ls : Array Slot), bX7_isGood_130 Q x1 x2 x3 x4 x5 → va_P g vwCl (w0 S) H → va_D A (w0 S) → va_S A s.heap H locs → lv_has ls 6 [(1, .int x1), (2, .int x2), (3, .int x3), (4, .int x4), (5, .int x5)] → W p l e R s m args below meth c H locs 0 0 QQ (F0 m 130 ls []) := by
    intro x1 x2 x3 x4 x5 S H locs ls h hP hD hS hl
    refine lv_iload_n C.1 C.2.1 dX7_isGood_130 rfl (lv_at hl 0 rfl) ?_
    refine g_callS (w := w0) C hK hN hA hP hD hS (mX7_isRegister l g (tys) S H.size x1 _ h) (va_cwS 1 C.2.2.2.2 gX7_isGood_X7_isRegister rfl rfl rfl (by decide +kernel) ⟨Nat.le_trans (by decide) hRf, Nat.le_trans (by decide) hRl⟩) rfl hl.1 rfl (Nat.le_of_ble_eq_true rfl) dX7_isGood_131 ⟨Nat.zero_le _, Nat.zero_le _⟩ (fun r8 H locs h hP hD hS => ?_)
    refine lv_if_eq (tgt := 167) C.1 C.2.1 dX7_isGood_134 (by decide) (fun c15 => ?_) (fun c15 => ?_)
    · have h := h.1 c15
      exact B167  S H locs ls h hP hD hS (lv_sub hl [] rfl)
    · have h := h.2 c15
      refine lv_iload_n C.1 C.2.1 dX7_isGood_137 rfl (lv_at hl 1 rfl) ?_
      refine g_callS (w := w0) C hK hN hA hP hD hS (mX7_isRegister l g (tys) S H.size x2 _ h) (va_cwS 1 C.2.2.2.2 gX7_isGood_X7_isRegister rfl rfl rfl (by decide +kernel) ⟨Nat.le_trans (by decide) hRf, Nat.le_trans (by decide) hRl⟩) rfl hl.1 rfl (Nat.le_of_ble_eq_true rfl) dX7_isGood_138 ⟨Nat.zero_le _, Nat.zero_le _⟩ (fun r9 H locs h hP hD hS => ?_)
      refine lv_if_eq (tgt := 167) C.1 C.2.1 dX7_isGood_141 (by decide) (fun c14 => ?_) (fun c14 => ?_)
      · have h := h.1 c14
        exact B167  S H locs ls h hP hD hS (lv_sub hl [] rfl)
      · have h := h.2 c14
        refine lv_iload_n C.1 C.2.1 dX7_isGood_144 rfl (lv_at hl 2 rfl) ?_
        refine lv_iload C.1 C.2.1 dX7_isGood_145 (lv_at hl 3 rfl) ?_
        refine g_callS (w := w0) C hK hN hA hP hD hS (mX7_isPlace l g (tys) S H.size x3 x4 _ h) (va_cwS 2 C.2.2.2.2 gX7_isGood_X7_isPlace rfl rfl rfl (by decide +kernel) ⟨Nat.le_trans (by decide) hRf, Nat.le_trans (by decide) hRl⟩) rfl hl.1 rfl (Nat.le_of_ble_eq_true rfl) dX7_isGood_147 ⟨Nat.zero_le _, Nat.zero_le _⟩ (fun r10 H locs h hP hD hS => ?_)
        refine lv_if_eq (tgt := 167) C.1 C.2.1 dX7_isGood_150 (by decide) (fun c13 => ?_) (fun c13 => ?_)
        · have h := h.1 c13
          exact B167  S H locs ls h hP hD hS (lv_sub hl [] rfl)
        · have h := h.2 c13
          refine lv_iload C.1 C.2.1 dX7_isGood_153 (lv_at hl 4 rfl) ?_
          refine lv_iconst (v := 0) C.1 C.2.1 dX7_isGood_155 (by decide) ?_
          refine lv_iconst (v := 3) C.1 C.2.1 dX7_isGood_156 (by decide) ?_
          refine g_callS (w := w0) C hK hN hA hP hD hS (mX7_in l g (tys) S H.size x5 (0 : Int32) (3 : Int32) _ h) (va_cwS 3 C.2.2.2.2 gX7_isGood_X7_in rfl rfl rfl (by decide +kernel) ⟨Nat.le_trans (by decide) hRf, Nat.le_trans (by decide) hRl⟩) rfl hl.1 rfl (Nat.le_of_ble_eq_true rfl) dX7_isGood_157 ⟨Nat.zero_le _, Nat.zero_le _⟩ (fun r11 H locs h hP hD hS => ?_)
          refine lv_if_eq (tgt := 167) C.1 C.2.1 dX7_isGood_160 (by decide) (fun c12 => ?_) (fun c12 => ?_)
          · have h := h.1 c12
            exact B167  S H locs ls h hP hD hS (lv_sub hl [] rfl)
          · have h := h.2 c12
            refine lv_iconst (v := 1) C.1 C.2.1 dX7_isGood_163 (by decide) ?_
            refine lv_goto (tgt := 168) C.1 C.2.1 dX7_isGood_164 (by decide) ?_
            exact B168 (1 : Int32) S H locs ls h hP hD hS (lv_sub hl [] rfl)
  have B192 : ∀ (t0 : Int32) (S : St) (H : Heap) (locs : List Loc) (ls : Array Slot), bX7_isGood_192 Q t0 → va_P g vwCl (w0 S) H → va_D A (w0 S) → va_S A s.heap H locs → lv_has ls 6 [] → W p l e R s m args below meth c H locs 0 0 QQ (F0 m 192 ls [.int t0]) := by
    intro t0 S H locs ls h hP hD hS hl
    exact hret _ _ _ _ _ _ dX7_isGood_192 h.1 h.2 hP hD hS
  have B191 : ∀ (S : St) (H : Heap) (locs : List Loc) (ls : Array Slot), bX7_isGood_191 Q → va_P g vwCl (w0 S) H → va_D A (w0 S) → va_S A s.heap H locs → lv_has ls 6 [] → W p l e R s m args below meth c H locs 0 0 QQ (F0 m 191 ls []) := by
    intro S H locs ls h hP hD hS hl
    refine lv_iconst (v := 0) C.1 C.2.1 dX7_isGood_191 (by decide) ?_
    exact B192 (0 : Int32) S H locs ls h hP hD hS (lv_sub hl [] rfl)
  have B169 : ∀ (x1 : Int32) (x2 : Int32) (S : St) (H : Heap) (locs : List Loc) (ls : Array Slot), bX7_isGood_169 Q x1 x2 → va_P g vwCl (w0 S) H → va_D A (w0 S) → va_S A s.heap H locs → lv_has ls 6 [(1, .int x1), (2, .int x2)] → W p l e R s m args below meth c H locs 0 0 QQ (F0 m 169 ls []) := by
    intro x1 x2 S H locs ls h hP hD hS hl
    refine lv_iload_n C.1 C.2.1 dX7_isGood_169 rfl (lv_at hl 0 rfl) ?_
    refine lv_iconst (v := 0) C.1 C.2.1 dX7_isGood_170 (by decide) ?_
    refine lv_iconst (v := 3) C.1 C.2.1 dX7_isGood_171 (by decide) ?_
    refine g_callS (w := w0) C hK hN hA hP hD hS (mX7_in l g (tys) S H.size x1 (0 : Int32) (3 : Int32) _ h) (va_cwS 3 C.2.2.2.2 gX7_isGood_X7_in rfl rfl rfl (by decide +kernel) ⟨Nat.le_trans (by decide) hRf, Nat.le_trans (by decide) hRl⟩) rfl hl.1 rfl (Nat.le_of_ble_eq_true rfl) dX7_isGood_172 ⟨Nat.zero_le _, Nat.zero_le _⟩ (fun r16 H locs h hP hD hS => ?_)
    refine lv_if_eq (tgt := 191) C.1 C.2.1 dX7_isGood_175 (by decide) (fun c19 => ?_) (fun c19 => ?_)
    · have h := h.1 c19
      exact B191  S H locs ls h hP hD hS (lv_sub hl [] rfl)
    · have h := h.2 c19
      refine lv_iload_n C.1 C.2.1 dX7_isGood_178 rfl (lv_at hl 1 rfl) ?_
      refine lv_iconst (v := 0) C.1 C.2.1 dX7_isGood_179 (by decide) ?_
      refine lv_iconst (v := 3) C.1 C.2.1 dX7_isGood_180 (by decide) ?_
      refine g_callS (w := w0) C hK hN hA hP hD hS (mX7_in l g (tys) S H.size x2 (0 : Int32) (3 : Int32) _ h) (va_cwS 3 C.2.2.2.2 gX7_isGood_X7_in rfl rfl rfl (by decide +kernel) ⟨Nat.le_trans (by decide) hRf, Nat.le_trans (by decide) hRl⟩) rfl hl.1 rfl (Nat.le_of_ble_eq_true rfl) dX7_isGood_181 ⟨Nat.zero_le _, Nat.zero_le _⟩ (fun r17 H locs h hP hD hS => ?_)
      refine lv_if_eq (tgt := 191) C.1 C.2.1 dX7_isGood_184 (by decide) (fun c18 => ?_) (fun c18 => ?_)
      · have h := h.1 c18
        exact B191  S H locs ls h hP hD hS (lv_sub hl [] rfl)
      · have h := h.2 c18
        refine lv_iconst (v := 1) C.1 C.2.1 dX7_isGood_187 (by decide) ?_
        refine lv_goto (tgt := 192) C.1 C.2.1 dX7_isGood_188 (by decide) ?_
        exact B192 (1 : Int32) S H locs ls h hP hD hS (lv_sub hl [] rfl)
  have B219 : ∀ (t0 : Int32) (S : St) (H : Heap) (locs : List Loc) (ls : Array Slot), bX7_isGood_219 Q t0 → va_P g vwCl (w0 S) H → va_D A (w0 S) → va_S A s.heap H locs → lv_has ls 6 [] → W p l e R s m args below meth c H locs 0 0 QQ (F0 m 219 ls [.int t0]) := by
    intro t0 S H locs ls h hP hD hS hl
    exact hret _ _ _ _ _ _ dX7_isGood_219 h.1 h.2 hP hD hS
  have B218 : ∀ (S : St) (H : Heap) (locs : List Loc) (ls : Array Slot), bX7_isGood_218 Q → va_P g vwCl (w0 S) H → va_D A (w0 S) → va_S A s.heap H locs → lv_has ls 6 [] → W p l e R s m args below meth c H locs 0 0 QQ (F0 m 218 ls []) := by
    intro S H locs ls h hP hD hS hl
    refine lv_iconst (v := 0) C.1 C.2.1 dX7_isGood_218 (by decide) ?_
    exact B219 (0 : Int32) S H locs ls h hP hD hS (lv_sub hl [] rfl)
  have B193 : ∀ (x1 : Int32) (x2 : Int32) (x3 : Int32) (S : St) (H : Heap) (locs : List Loc) (ls : Array Slot), bX7_isGood_193 Q x1 x2 x3 → va_P g vwCl (w0 S) H → va_D A (w0 S) → va_S A s.heap H locs → lv_has ls 6 [(1, .int x1), (2, .int x2), (3, .int x3)] → W p l e R s m args below meth c H locs 0 0 QQ (F0 m 193 ls []) := by
    intro x1 x2 x3 S H locs ls h hP hD hS hl
    refine lv_iload_n C.1 C.2.1 dX7_isGood_193 rfl (lv_at hl 0 rfl) ?_
    refine g_callS (w := w0) C hK hN hA hP hD hS (mX7_isRegister l g (tys) S H.size x1 _ h) (va_cwS 1 C.2.2.2.2 gX7_isGood_X7_isRegister rfl rfl rfl (by decide +kernel) ⟨Nat.le_trans (by decide) hRf, Nat.le_trans (by decide) hRl⟩) rfl hl.1 rfl (Nat.le_of_ble_eq_true rfl) dX7_isGood_194 ⟨Nat.zero_le _, Nat.zero_le _⟩ (fun r20 H locs h hP hD hS => ?_)
    refine lv_if_eq (tgt := 218) C.1 C.2.1 dX7_isGood_197 (by decide) (fun c25 => ?_) (fun c25 => ?_)
    · have h := h.1 c25
      exact B218  S H locs ls h hP hD hS (lv_sub hl [] rfl)
    · have h := h.2 c25
      refine lv_iload_n C.1 C.2.1 dX7_isGood_200 rfl (lv_at hl 1 rfl) ?_
      refine g_callS (w := w0) C hK hN hA hP hD hS (mX7_isRegister l g (tys) S H.size x2 _ h) (va_cwS 1 C.2.2.2.2 gX7_isGood_X7_isRegister rfl rfl rfl (by decide +kernel) ⟨Nat.le_trans (by decide) hRf, Nat.le_trans (by decide) hRl⟩) rfl hl.1 rfl (Nat.le_of_ble_eq_true rfl) dX7_isGood_201 ⟨Nat.zero_le _, Nat.zero_le _⟩ (fun r21 H locs h hP hD hS => ?_)
      refine lv_if_eq (tgt := 218) C.1 C.2.1 dX7_isGood_204 (by decide) (fun c24 => ?_) (fun c24 => ?_)
      · have h := h.1 c24
        exact B218  S H locs ls h hP hD hS (lv_sub hl [] rfl)
      · have h := h.2 c24
        refine lv_iload_n C.1 C.2.1 dX7_isGood_207 rfl (lv_at hl 2 rfl) ?_
        refine g_callS (w := w0) C hK hN hA hP hD hS (mX7_isRegister l g (tys) S H.size x3 _ h) (va_cwS 1 C.2.2.2.2 gX7_isGood_X7_isRegister rfl rfl rfl (by decide +kernel) ⟨Nat.le_trans (by decide) hRf, Nat.le_trans (by decide) hRl⟩) rfl hl.1 rfl (Nat.le_of_ble_eq_true rfl) dX7_isGood_208 ⟨Nat.zero_le _, Nat.zero_le _⟩ (fun r22 H locs h hP hD hS => ?_)
        refine lv_if_eq (tgt := 218) C.1 C.2.1 dX7_isGood_211 (by decide) (fun c23 => ?_) (fun c23 => ?_)
        · have h := h.1 c23
          exact B218  S H locs ls h hP hD hS (lv_sub hl [] rfl)
        · have h := h.2 c23
          refine lv_iconst (v := 1) C.1 C.2.1 dX7_isGood_214 (by decide) ?_
          refine lv_goto (tgt := 219) C.1 C.2.1 dX7_isGood_215 (by decide) ?_
          exact B219 (1 : Int32) S H locs ls h hP hD hS (lv_sub hl [] rfl)
  have B241 : ∀ (t0 : Int32) (S : St) (H : Heap) (locs : List Loc) (ls : Array Slot), bX7_isGood_241 Q t0 → va_P g vwCl (w0 S) H → va_D A (w0 S) → va_S A s.heap H locs → lv_has ls 6 [] → W p l e R s m args below meth c H locs 0 0 QQ (F0 m 241 ls [.int t0]) := by
    intro t0 S H locs ls h hP hD hS hl
    exact hret _ _ _ _ _ _ dX7_isGood_241 h.1 h.2 hP hD hS
  have B240 : ∀ (S : St) (H : Heap) (locs : List Loc) (ls : Array Slot), bX7_isGood_240 Q → va_P g vwCl (w0 S) H → va_D A (w0 S) → va_S A s.heap H locs → lv_has ls 6 [] → W p l e R s m args below meth c H locs 0 0 QQ (F0 m 240 ls []) := by
    intro S H locs ls h hP hD hS hl
    refine lv_iconst (v := 0) C.1 C.2.1 dX7_isGood_240 (by decide) ?_
    exact B241 (0 : Int32) S H locs ls h hP hD hS (lv_sub hl [] rfl)
  refine lv_iload_n C.1 C.2.1 dX7_isGood_0 rfl (lv_at hl 0 rfl) ?_
  by_cases c26 : (Int32.toInt x0 < 0 ∨ 10 < Int32.toInt x0)
  · have h := h.1 c26
    refine lv_tableOut (tgt := 242) C.1 C.2.1 dX7_isGood_1 c26 (by decide) ?_
    refine lv_iconst (v := 0) C.1 C.2.1 dX7_isGood_242 (by decide) ?_
    exact hret _ _ _ _ _ _ dX7_isGood_243 zb_0 h hP hD hS
  · have h := h.2
    have hk : x0 = (0 : Int32) ∨ x0 = (1 : Int32) ∨ x0 = (2 : Int32) ∨ x0 = (3 : Int32) ∨ x0 = (4 : Int32) ∨ x0 = (5 : Int32) ∨ x0 = (6 : Int32) ∨ x0 = (7 : Int32) ∨ x0 = (8 : Int32) ∨ x0 = (9 : Int32) ∨ x0 = (10 : Int32) := by
      have hr : Int32.toInt x0 = 0 ∨ Int32.toInt x0 = 1 ∨ Int32.toInt x0 = 2 ∨ Int32.toInt x0 = 3 ∨ Int32.toInt x0 = 4 ∨ Int32.toInt x0 = 5 ∨ Int32.toInt x0 = 6 ∨ Int32.toInt x0 = 7 ∨ Int32.toInt x0 = 8 ∨ Int32.toInt x0 = 9 ∨ Int32.toInt x0 = 10 := by omega
      rcases hr with hr | hr | hr | hr | hr | hr | hr | hr | hr | hr | hr <;> simp only [← Int32.toInt_inj] <;> simp [hr]
    rcases hk with hk | hk | hk | hk | hk | hk | hk | hk | hk | hk | hk
    · have h := h.1 hk
      refine lv_tableIn (tgt := 60) C.1 C.2.1 dX7_isGood_1 (by rw [hk]; decide) (by rw [hk]; decide) (by rw [hk]; rfl) (by decide) ?_
      exact B60 x1 x2 x3 x4 S H locs ls h hP hD hS (lv_sub hl [1, 2, 3, 4] rfl)
    · have h := h.2.1 hk
      refine lv_tableIn (tgt := 98) C.1 C.2.1 dX7_isGood_1 (by rw [hk]; decide) (by rw [hk]; decide) (by rw [hk]; rfl) (by decide) ?_
      refine lv_iload_n C.1 C.2.1 dX7_isGood_98 rfl (lv_at hl 1 rfl) ?_
      refine g_callS (w := w0) C hK hN hA hP hD hS (mX7_isRegister l g (tys) S H.size x1 _ h) (va_cwS 1 C.2.2.2.2 gX7_isGood_X7_isRegister rfl rfl rfl (by decide +kernel) ⟨Nat.le_trans (by decide) hRf, Nat.le_trans (by decide) hRl⟩) rfl hl.1 rfl (Nat.le_of_ble_eq_true rfl) dX7_isGood_99 ⟨Nat.zero_le _, Nat.zero_le _⟩ (fun r27 H locs h hP hD hS => ?_)
      refine lv_if_eq (tgt := 128) C.1 C.2.1 dX7_isGood_102 (by decide) (fun c32 => ?_) (fun c32 => ?_)
      · have h := h.1 c32
        exact B128  S H locs ls h hP hD hS (lv_sub hl [] rfl)
      · have h := h.2 c32
        refine lv_iload_n C.1 C.2.1 dX7_isGood_105 rfl (lv_at hl 2 rfl) ?_
        refine lv_iload_n C.1 C.2.1 dX7_isGood_106 rfl (lv_at hl 3 rfl) ?_
        refine g_callS (w := w0) C hK hN hA hP hD hS (mX7_isPlace l g (tys) S H.size x2 x3 _ h) (va_cwS 2 C.2.2.2.2 gX7_isGood_X7_isPlace rfl rfl rfl (by decide +kernel) ⟨Nat.le_trans (by decide) hRf, Nat.le_trans (by decide) hRl⟩) rfl hl.1 rfl (Nat.le_of_ble_eq_true rfl) dX7_isGood_107 ⟨Nat.zero_le _, Nat.zero_le _⟩ (fun r28 H locs h hP hD hS => ?_)
        refine lv_if_eq (tgt := 128) C.1 C.2.1 dX7_isGood_110 (by decide) (fun c31 => ?_) (fun c31 => ?_)
        · have h := h.1 c31
          exact B128  S H locs ls h hP hD hS (lv_sub hl [] rfl)
        · have h := h.2 c31
          refine lv_iload C.1 C.2.1 dX7_isGood_113 (lv_at hl 4 rfl) ?_
          refine lv_if_eq (tgt := 124) C.1 C.2.1 dX7_isGood_115 (by decide) (fun c30 => ?_) (fun c30 => ?_)
          · have h := h.1 c30
            exact B124  S H locs ls h hP hD hS (lv_sub hl [] rfl)
          · have h := h.2 c30
            refine lv_iload C.1 C.2.1 dX7_isGood_118 (lv_at hl 4 rfl) ?_
            refine lv_iconst (v := 2) C.1 C.2.1 dX7_isGood_120 (by decide) ?_
            refine lv_icmp_ne (tgt := 128) C.1 C.2.1 dX7_isGood_121 (by decide) (fun c29 => ?_) (fun c29 => ?_)
            · have h := h.1 c29
              exact B128  S H locs ls h hP hD hS (lv_sub hl [] rfl)
            · have h := h.2 c29
              exact B124  S H locs ls h hP hD hS (lv_sub hl [] rfl)
    · have h := h.2.2.1 hk
      refine lv_tableIn (tgt := 130) C.1 C.2.1 dX7_isGood_1 (by rw [hk]; decide) (by rw [hk]; decide) (by rw [hk]; rfl) (by decide) ?_
      exact B130 x1 x2 x3 x4 x5 S H locs ls h hP hD hS (lv_sub hl [1, 2, 3, 4, 5] rfl)
    · have h := h.2.2.2.1 hk
      refine lv_tableIn (tgt := 130) C.1 C.2.1 dX7_isGood_1 (by rw [hk]; decide) (by rw [hk]; decide) (by rw [hk]; rfl) (by decide) ?_
      exact B130 x1 x2 x3 x4 x5 S H locs ls h hP hD hS (lv_sub hl [1, 2, 3, 4, 5] rfl)
    · have h := h.2.2.2.2.1 hk
      refine lv_tableIn (tgt := 60) C.1 C.2.1 dX7_isGood_1 (by rw [hk]; decide) (by rw [hk]; decide) (by rw [hk]; rfl) (by decide) ?_
      exact B60 x1 x2 x3 x4 S H locs ls h hP hD hS (lv_sub hl [1, 2, 3, 4] rfl)
    · have h := h.2.2.2.2.2.1 hk
      refine lv_tableIn (tgt := 130) C.1 C.2.1 dX7_isGood_1 (by rw [hk]; decide) (by rw [hk]; decide) (by rw [hk]; rfl) (by decide) ?_
      exact B130 x1 x2 x3 x4 x5 S H locs ls h hP hD hS (lv_sub hl [1, 2, 3, 4, 5] rfl)
    · have h := h.2.2.2.2.2.2.1 hk
      refine lv_tableIn (tgt := 169) C.1 C.2.1 dX7_isGood_1 (by rw [hk]; decide) (by rw [hk]; decide) (by rw [hk]; rfl) (by decide) ?_
      exact B169 x1 x2 S H locs ls h hP hD hS (lv_sub hl [1, 2] rfl)
    · have h := h.2.2.2.2.2.2.2.1 hk
      refine lv_tableIn (tgt := 169) C.1 C.2.1 dX7_isGood_1 (by rw [hk]; decide) (by rw [hk]; decide) (by rw [hk]; rfl) (by decide) ?_
      exact B169 x1 x2 S H locs ls h hP hD hS (lv_sub hl [1, 2] rfl)
    · have h := h.2.2.2.2.2.2.2.2.1 hk
      refine lv_tableIn (tgt := 193) C.1 C.2.1 dX7_isGood_1 (by rw [hk]; decide) (by rw [hk]; decide) (by rw [hk]; rfl) (by decide) ?_
      exact B193 x1 x2 x3 S H locs ls h hP hD hS (lv_sub hl [1, 2, 3] rfl)
    · have h := h.2.2.2.2.2.2.2.2.2.1 hk
      refine lv_tableIn (tgt := 193) C.1 C.2.1 dX7_isGood_1 (by rw [hk]; decide) (by rw [hk]; decide) (by rw [hk]; rfl) (by decide) ?_
      exact B193 x1 x2 x3 S H locs ls h hP hD hS (lv_sub hl [1, 2, 3] rfl)
    · have h := h.2.2.2.2.2.2.2.2.2.2 hk
      refine lv_tableIn (tgt := 220) C.1 C.2.1 dX7_isGood_1 (by rw [hk]; decide) (by rw [hk]; decide) (by rw [hk]; rfl) (by decide) ?_
      refine lv_iload_n C.1 C.2.1 dX7_isGood_220 rfl (lv_at hl 1 rfl) ?_
      refine g_callS (w := w0) C hK hN hA hP hD hS (mX7_isRegister l g (tys) S H.size x1 _ h) (va_cwS 1 C.2.2.2.2 gX7_isGood_X7_isRegister rfl rfl rfl (by decide +kernel) ⟨Nat.le_trans (by decide) hRf, Nat.le_trans (by decide) hRl⟩) rfl hl.1 rfl (Nat.le_of_ble_eq_true rfl) dX7_isGood_221 ⟨Nat.zero_le _, Nat.zero_le _⟩ (fun r33 H locs h hP hD hS => ?_)
      refine lv_if_eq (tgt := 240) C.1 C.2.1 dX7_isGood_224 (by decide) (fun c36 => ?_) (fun c36 => ?_)
      · have h := h.1 c36
        exact B240  S H locs ls h hP hD hS (lv_sub hl [] rfl)
      · have h := h.2 c36
        refine lv_iload_n C.1 C.2.1 dX7_isGood_227 rfl (lv_at hl 2 rfl) ?_
        refine lv_iconst (v := 1) C.1 C.2.1 dX7_isGood_228 (by decide) ?_
        refine lv_iconst (v := 5) C.1 C.2.1 dX7_isGood_229 (by decide) ?_
        refine g_callS (w := w0) C hK hN hA hP hD hS (mX7_in l g (tys) S H.size x2 (1 : Int32) (5 : Int32) _ h) (va_cwS 3 C.2.2.2.2 gX7_isGood_X7_in rfl rfl rfl (by decide +kernel) ⟨Nat.le_trans (by decide) hRf, Nat.le_trans (by decide) hRl⟩) rfl hl.1 rfl (Nat.le_of_ble_eq_true rfl) dX7_isGood_230 ⟨Nat.zero_le _, Nat.zero_le _⟩ (fun r34 H locs h hP hD hS => ?_)
        refine lv_if_eq (tgt := 240) C.1 C.2.1 dX7_isGood_233 (by decide) (fun c35 => ?_) (fun c35 => ?_)
        · have h := h.1 c35
          exact B240  S H locs ls h hP hD hS (lv_sub hl [] rfl)
        · have h := h.2 c35
          refine lv_iconst (v := 1) C.1 C.2.1 dX7_isGood_236 (by decide) ?_
          refine lv_goto (tgt := 241) C.1 C.2.1 dX7_isGood_237 (by decide) ?_
          exact B241 (1 : Int32) S H locs ls h hP hD hS (lv_sub hl [] rfl)
theorem mX7_isGood (l : Launch) (g : va_G) (tys : List (ClassId × FieldType)) (S : St) (sz : Nat) (x0 : Int32) (x1 : Int32) (x2 : Int32) (x3 : Int32) (x4 : Int32) (x5 : Int32) (Q : Int32 → Prop) (h : pX7_isGood x0 x1 x2 x3 x4 x5 Q) : Met l yX7_isGood wsX7_isGood ({ frames := 2, cells := 0, slots := 0, locals := 43 }) (gPc g (tys) (w0 S) sz [.int x0, .int x1, .int x2, .int x3, .int x4, .int x5]) (va_Qi (fun r _ => Q r) (gB g (tys) (w0) (va_A (w0 S) sz)) (va_A (w0 S) sz)) 0 0 (va_A (w0 S) sz) :=
  g_metZ (w := w0) (Q := fun r _ => Q r) (cc := cX7_isGood) (maxL := 6) (by decide) rfl rfl (Nat.le_of_ble_eq_true rfl) rfl (fun p e s m args below meth c QQ A C hK hN hA hret H locs ls hP hD hS hl => kX7_isGood C hK hN hA (Nat.le_refl _) (Nat.le_refl _) Q hret x0 x1 x2 x3 x4 x5 S h H locs ls hP hD hS hl)

def bX7_numbersOf_46 (Q : Int32 → Prop) (t0 : Int32) : Prop :=
  Q t0
def bX7_numbersOf_15 (Q : Int32 → Prop) : Prop :=
  bX7_numbersOf_46 Q (5 : Int32)
def bX7_numbersOf_41 (Q : Int32 → Prop) : Prop :=
  bX7_numbersOf_46 Q (3 : Int32)
def pX7_numbersOf (x0 : Int32) (Q : Int32 → Prop) : Prop :=
  ((x0 = (2 : Int32) → bX7_numbersOf_15 Q ) ∧ (¬ (x0 = (2 : Int32)) → ((x0 = (3 : Int32) → bX7_numbersOf_15 Q ) ∧ (¬ (x0 = (3 : Int32)) → ((¬ x0 = (5 : Int32) → (((6 : Int32) ≤ x0 → ((x0 = (8 : Int32) → bX7_numbersOf_41 Q ) ∧ (¬ (x0 = (8 : Int32)) → ((¬ x0 = (9 : Int32) → bX7_numbersOf_46 Q (2 : Int32)) ∧ (x0 = (9 : Int32) → bX7_numbersOf_41 Q ))))) ∧ (¬ ((6 : Int32) ≤ x0) → bX7_numbersOf_46 Q (4 : Int32)))) ∧ (x0 = (5 : Int32) → bX7_numbersOf_15 Q ))))))
set_option maxHeartbeats 40000000 in
set_option maxRecDepth 100000 in
theorem kX7_numbersOf {p : Program} {l : Launch} {e : Env} {R : Room} {s : State} {m : MethodId} {args : Array Value} {below : List Frame} {meth : Method} {c : Code} {QQ : State → Prop} {g : va_G} {tys : List (ClassId × FieldType)} {A : Nat → Prop} (C : CallFix p m c cX7_numbersOf 1 s args wsX7_numbersOf RX7) (hK : va_K g vwCl (tys) s) (hN : xN s) (hA : ∀ q, s.heap.size ≤ q → A q) (hRf : 0 ≤ R.frames) (hRl : 0 ≤ R.locals) (Q : Int32 → Prop) (hret : ∀ (pc : Nat) (r : Int32) (S : St) (H : Heap) (locs : List Loc) (ls : Array Slot), decode cX7_numbersOf pc = .ok (.ireturn, 1) → Q r → va_P g vwCl (w0 S) H → va_D A (w0 S) → va_S A s.heap H locs → W p l e R s m args below meth c H locs 0 0 QQ (F0 m pc ls [.int r])) (x0 : Int32) (S : St) (h : pX7_numbersOf x0 Q) (H : Heap) (locs : List Loc) (ls : Array Slot) (hP : va_P g vwCl (w0 S) H) (hD : va_D A (w0 S)) (hS : va_S A s.heap H locs) (hl : lv_has ls 1 [(0, .int x0)]) : W p l e R s m args below meth c H locs 0 0 QQ (F0 m 0 ls []) := by
  have B46 : ∀ (t0 : Int32) (S : St) (H : Heap) (locs : List Loc) (ls : Array Slot), bX7_numbersOf_46 Q t0 → va_P g vwCl (w0 S) H → va_D A (w0 S) → va_S A s.heap H locs → lv_has ls 1 [] → W p l e R s m args below meth c H locs 0 0 QQ (F0 m 46 ls [.int t0]) := by
    intro t0 S H locs ls h hP hD hS hl
    exact hret _ _ _ _ _ _ dX7_numbersOf_46 h hP hD hS
  have B15 : ∀ (S : St) (H : Heap) (locs : List Loc) (ls : Array Slot), bX7_numbersOf_15 Q → va_P g vwCl (w0 S) H → va_D A (w0 S) → va_S A s.heap H locs → lv_has ls 1 [] → W p l e R s m args below meth c H locs 0 0 QQ (F0 m 15 ls []) := by
    intro S H locs ls h hP hD hS hl
    refine lv_iconst (v := 5) C.1 C.2.1 dX7_numbersOf_15 (by decide) ?_
    refine lv_goto (tgt := 46) C.1 C.2.1 dX7_numbersOf_16 (by decide) ?_
    exact B46 (5 : Int32) S H locs ls h hP hD hS (lv_sub hl [] rfl)
  have B41 : ∀ (S : St) (H : Heap) (locs : List Loc) (ls : Array Slot), bX7_numbersOf_41 Q → va_P g vwCl (w0 S) H → va_D A (w0 S) → va_S A s.heap H locs → lv_has ls 1 [] → W p l e R s m args below meth c H locs 0 0 QQ (F0 m 41 ls []) := by
    intro S H locs ls h hP hD hS hl
    refine lv_iconst (v := 3) C.1 C.2.1 dX7_numbersOf_41 (by decide) ?_
    refine lv_goto (tgt := 46) C.1 C.2.1 dX7_numbersOf_42 (by decide) ?_
    exact B46 (3 : Int32) S H locs ls h hP hD hS (lv_sub hl [] rfl)
  refine lv_iload_n C.1 C.2.1 dX7_numbersOf_0 rfl (lv_at hl 0 rfl) ?_
  refine lv_iconst (v := 2) C.1 C.2.1 dX7_numbersOf_1 (by decide) ?_
  refine lv_icmp_eq (tgt := 15) C.1 C.2.1 dX7_numbersOf_2 (by decide) (fun c6 => ?_) (fun c6 => ?_)
  · have h := h.1 c6
    exact B15  S H locs ls h hP hD hS (lv_sub hl [] rfl)
  · have h := h.2 c6
    refine lv_iload_n C.1 C.2.1 dX7_numbersOf_5 rfl (lv_at hl 0 rfl) ?_
    refine lv_iconst (v := 3) C.1 C.2.1 dX7_numbersOf_6 (by decide) ?_
    refine lv_icmp_eq (tgt := 15) C.1 C.2.1 dX7_numbersOf_7 (by decide) (fun c5 => ?_) (fun c5 => ?_)
    · have h := h.1 c5
      exact B15  S H locs ls h hP hD hS (lv_sub hl [] rfl)
    · have h := h.2 c5
      refine lv_iload_n C.1 C.2.1 dX7_numbersOf_10 rfl (lv_at hl 0 rfl) ?_
      refine lv_iconst (v := 5) C.1 C.2.1 dX7_numbersOf_11 (by decide) ?_
      refine lv_icmp_ne (tgt := 19) C.1 C.2.1 dX7_numbersOf_12 (by decide) (fun c4 => ?_) (fun c4 => ?_)
      · have h := h.1 c4
        refine lv_iload_n C.1 C.2.1 dX7_numbersOf_19 rfl (lv_at hl 0 rfl) ?_
        refine lv_bipush (v := 6) C.1 C.2.1 dX7_numbersOf_20 (by decide) ?_
        refine lv_icmp_ge (tgt := 29) C.1 C.2.1 dX7_numbersOf_22 (by decide) (fun c3 => ?_) (fun c3 => ?_)
        · have h := h.1 c3
          refine lv_iload_n C.1 C.2.1 dX7_numbersOf_29 rfl (lv_at hl 0 rfl) ?_
          refine lv_bipush (v := 8) C.1 C.2.1 dX7_numbersOf_30 (by decide) ?_
          refine lv_icmp_eq (tgt := 41) C.1 C.2.1 dX7_numbersOf_32 (by decide) (fun c2 => ?_) (fun c2 => ?_)
          · have h := h.1 c2
            exact B41  S H locs ls h hP hD hS (lv_sub hl [] rfl)
          · have h := h.2 c2
            refine lv_iload_n C.1 C.2.1 dX7_numbersOf_35 rfl (lv_at hl 0 rfl) ?_
            refine lv_bipush (v := 9) C.1 C.2.1 dX7_numbersOf_36 (by decide) ?_
            refine lv_icmp_ne (tgt := 45) C.1 C.2.1 dX7_numbersOf_38 (by decide) (fun c1 => ?_) (fun c1 => ?_)
            · have h := h.1 c1
              refine lv_iconst (v := 2) C.1 C.2.1 dX7_numbersOf_45 (by decide) ?_
              exact B46 (2 : Int32) S H locs ls h hP hD hS (lv_sub hl [] rfl)
            · have h := h.2 c1
              exact B41  S H locs ls h hP hD hS (lv_sub hl [] rfl)
        · have h := h.2 c3
          refine lv_iconst (v := 4) C.1 C.2.1 dX7_numbersOf_25 (by decide) ?_
          refine lv_goto (tgt := 46) C.1 C.2.1 dX7_numbersOf_26 (by decide) ?_
          exact B46 (4 : Int32) S H locs ls h hP hD hS (lv_sub hl [] rfl)
      · have h := h.2 c4
        exact B15  S H locs ls h hP hD hS (lv_sub hl [] rfl)
theorem mX7_numbersOf (l : Launch) (g : va_G) (tys : List (ClassId × FieldType)) (S : St) (sz : Nat) (x0 : Int32) (Q : Int32 → Prop) (h : pX7_numbersOf x0 Q) : Met l yX7_numbersOf wsX7_numbersOf ({ frames := 0, cells := 0, slots := 0, locals := 0 }) (gPc g (tys) (w0 S) sz [.int x0]) (va_Qi (fun r _ => Q r) (gB g (tys) (w0) (va_A (w0 S) sz)) (va_A (w0 S) sz)) 0 0 (va_A (w0 S) sz) :=
  g_metI (w := w0) (Q := fun r _ => Q r) (cc := cX7_numbersOf) (maxL := 1) (by decide) rfl rfl (Nat.le_of_ble_eq_true rfl) rfl (fun p e s m args below meth c QQ A C hK hN hA hret H locs ls hP hD hS hl => kX7_numbersOf C hK hN hA (Nat.le_refl _) (Nat.le_refl _) Q hret x0 S h H locs ls hP hD hS hl)

def bX7_isReading_24 (Q : Int32 → Prop) (t0 : Int32) : Prop :=
  (zb t0 ∧ Q t0)
def bX7_isReading_19 (Q : Int32 → Prop) : Prop :=
  bX7_isReading_24 Q (1 : Int32)
def pX7_isReading (x0 : Int32) (Q : Int32 → Prop) : Prop :=
  ((x0 = 0 → bX7_isReading_19 Q ) ∧ (¬ (x0 = 0) → ((x0 = (2 : Int32) → bX7_isReading_19 Q ) ∧ (¬ (x0 = (2 : Int32)) → ((x0 = (3 : Int32) → bX7_isReading_19 Q ) ∧ (¬ (x0 = (3 : Int32)) → ((¬ x0 = (4 : Int32) → bX7_isReading_24 Q (0 : Int32)) ∧ (x0 = (4 : Int32) → bX7_isReading_19 Q ))))))))
set_option maxHeartbeats 40000000 in
set_option maxRecDepth 100000 in
theorem kX7_isReading {p : Program} {l : Launch} {e : Env} {R : Room} {s : State} {m : MethodId} {args : Array Value} {below : List Frame} {meth : Method} {c : Code} {QQ : State → Prop} {g : va_G} {tys : List (ClassId × FieldType)} {A : Nat → Prop} (C : CallFix p m c cX7_isReading 1 s args wsX7_isReading RX7) (hK : va_K g vwCl (tys) s) (hN : xN s) (hA : ∀ q, s.heap.size ≤ q → A q) (hRf : 0 ≤ R.frames) (hRl : 0 ≤ R.locals) (Q : Int32 → Prop) (hret : ∀ (pc : Nat) (r : Int32) (S : St) (H : Heap) (locs : List Loc) (ls : Array Slot), decode cX7_isReading pc = .ok (.ireturn, 1) → zb r → Q r → va_P g vwCl (w0 S) H → va_D A (w0 S) → va_S A s.heap H locs → W p l e R s m args below meth c H locs 0 0 QQ (F0 m pc ls [.int r])) (x0 : Int32) (S : St) (h : pX7_isReading x0 Q) (H : Heap) (locs : List Loc) (ls : Array Slot) (hP : va_P g vwCl (w0 S) H) (hD : va_D A (w0 S)) (hS : va_S A s.heap H locs) (hl : lv_has ls 1 [(0, .int x0)]) : W p l e R s m args below meth c H locs 0 0 QQ (F0 m 0 ls []) := by
  have B24 : ∀ (t0 : Int32) (S : St) (H : Heap) (locs : List Loc) (ls : Array Slot), bX7_isReading_24 Q t0 → va_P g vwCl (w0 S) H → va_D A (w0 S) → va_S A s.heap H locs → lv_has ls 1 [] → W p l e R s m args below meth c H locs 0 0 QQ (F0 m 24 ls [.int t0]) := by
    intro t0 S H locs ls h hP hD hS hl
    exact hret _ _ _ _ _ _ dX7_isReading_24 h.1 h.2 hP hD hS
  have B19 : ∀ (S : St) (H : Heap) (locs : List Loc) (ls : Array Slot), bX7_isReading_19 Q → va_P g vwCl (w0 S) H → va_D A (w0 S) → va_S A s.heap H locs → lv_has ls 1 [] → W p l e R s m args below meth c H locs 0 0 QQ (F0 m 19 ls []) := by
    intro S H locs ls h hP hD hS hl
    refine lv_iconst (v := 1) C.1 C.2.1 dX7_isReading_19 (by decide) ?_
    refine lv_goto (tgt := 24) C.1 C.2.1 dX7_isReading_20 (by decide) ?_
    exact B24 (1 : Int32) S H locs ls h hP hD hS (lv_sub hl [] rfl)
  refine lv_iload_n C.1 C.2.1 dX7_isReading_0 rfl (lv_at hl 0 rfl) ?_
  refine lv_if_eq (tgt := 19) C.1 C.2.1 dX7_isReading_1 (by decide) (fun c4 => ?_) (fun c4 => ?_)
  · have h := h.1 c4
    exact B19  S H locs ls h hP hD hS (lv_sub hl [] rfl)
  · have h := h.2 c4
    refine lv_iload_n C.1 C.2.1 dX7_isReading_4 rfl (lv_at hl 0 rfl) ?_
    refine lv_iconst (v := 2) C.1 C.2.1 dX7_isReading_5 (by decide) ?_
    refine lv_icmp_eq (tgt := 19) C.1 C.2.1 dX7_isReading_6 (by decide) (fun c3 => ?_) (fun c3 => ?_)
    · have h := h.1 c3
      exact B19  S H locs ls h hP hD hS (lv_sub hl [] rfl)
    · have h := h.2 c3
      refine lv_iload_n C.1 C.2.1 dX7_isReading_9 rfl (lv_at hl 0 rfl) ?_
      refine lv_iconst (v := 3) C.1 C.2.1 dX7_isReading_10 (by decide) ?_
      refine lv_icmp_eq (tgt := 19) C.1 C.2.1 dX7_isReading_11 (by decide) (fun c2 => ?_) (fun c2 => ?_)
      · have h := h.1 c2
        exact B19  S H locs ls h hP hD hS (lv_sub hl [] rfl)
      · have h := h.2 c2
        refine lv_iload_n C.1 C.2.1 dX7_isReading_14 rfl (lv_at hl 0 rfl) ?_
        refine lv_iconst (v := 4) C.1 C.2.1 dX7_isReading_15 (by decide) ?_
        refine lv_icmp_ne (tgt := 23) C.1 C.2.1 dX7_isReading_16 (by decide) (fun c1 => ?_) (fun c1 => ?_)
        · have h := h.1 c1
          refine lv_iconst (v := 0) C.1 C.2.1 dX7_isReading_23 (by decide) ?_
          exact B24 (0 : Int32) S H locs ls h hP hD hS (lv_sub hl [] rfl)
        · have h := h.2 c1
          exact B19  S H locs ls h hP hD hS (lv_sub hl [] rfl)
theorem mX7_isReading (l : Launch) (g : va_G) (tys : List (ClassId × FieldType)) (S : St) (sz : Nat) (x0 : Int32) (Q : Int32 → Prop) (h : pX7_isReading x0 Q) : Met l yX7_isReading wsX7_isReading ({ frames := 0, cells := 0, slots := 0, locals := 0 }) (gPc g (tys) (w0 S) sz [.int x0]) (va_Qi (fun r _ => Q r) (gB g (tys) (w0) (va_A (w0 S) sz)) (va_A (w0 S) sz)) 0 0 (va_A (w0 S) sz) :=
  g_metZ (w := w0) (Q := fun r _ => Q r) (cc := cX7_isReading) (maxL := 1) (by decide) rfl rfl (Nat.le_of_ble_eq_true rfl) rfl (fun p e s m args below meth c QQ A C hK hN hA hret H locs ls hP hD hS hl => kX7_isReading C hK hN hA (Nat.le_refl _) (Nat.le_refl _) Q hret x0 S h H locs ls hP hD hS hl)

def bX7_isWriting_25 (Q : Int32 → Prop) (t0 : Int32) : Prop :=
  (zb t0 ∧ Q t0)
def bX7_isWriting_20 (Q : Int32 → Prop) : Prop :=
  bX7_isWriting_25 Q (1 : Int32)
def pX7_isWriting (x0 : Int32) (Q : Int32 → Prop) : Prop :=
  ((x0 = (1 : Int32) → bX7_isWriting_20 Q ) ∧ (¬ (x0 = (1 : Int32)) → ((x0 = (2 : Int32) → bX7_isWriting_20 Q ) ∧ (¬ (x0 = (2 : Int32)) → ((x0 = (3 : Int32) → bX7_isWriting_20 Q ) ∧ (¬ (x0 = (3 : Int32)) → ((¬ x0 = (5 : Int32) → bX7_isWriting_25 Q (0 : Int32)) ∧ (x0 = (5 : Int32) → bX7_isWriting_20 Q ))))))))
set_option maxHeartbeats 40000000 in
set_option maxRecDepth 100000 in
theorem kX7_isWriting {p : Program} {l : Launch} {e : Env} {R : Room} {s : State} {m : MethodId} {args : Array Value} {below : List Frame} {meth : Method} {c : Code} {QQ : State → Prop} {g : va_G} {tys : List (ClassId × FieldType)} {A : Nat → Prop} (C : CallFix p m c cX7_isWriting 1 s args wsX7_isWriting RX7) (hK : va_K g vwCl (tys) s) (hN : xN s) (hA : ∀ q, s.heap.size ≤ q → A q) (hRf : 0 ≤ R.frames) (hRl : 0 ≤ R.locals) (Q : Int32 → Prop) (hret : ∀ (pc : Nat) (r : Int32) (S : St) (H : Heap) (locs : List Loc) (ls : Array Slot), decode cX7_isWriting pc = .ok (.ireturn, 1) → zb r → Q r → va_P g vwCl (w0 S) H → va_D A (w0 S) → va_S A s.heap H locs → W p l e R s m args below meth c H locs 0 0 QQ (F0 m pc ls [.int r])) (x0 : Int32) (S : St) (h : pX7_isWriting x0 Q) (H : Heap) (locs : List Loc) (ls : Array Slot) (hP : va_P g vwCl (w0 S) H) (hD : va_D A (w0 S)) (hS : va_S A s.heap H locs) (hl : lv_has ls 1 [(0, .int x0)]) : W p l e R s m args below meth c H locs 0 0 QQ (F0 m 0 ls []) := by
  have B25 : ∀ (t0 : Int32) (S : St) (H : Heap) (locs : List Loc) (ls : Array Slot), bX7_isWriting_25 Q t0 → va_P g vwCl (w0 S) H → va_D A (w0 S) → va_S A s.heap H locs → lv_has ls 1 [] → W p l e R s m args below meth c H locs 0 0 QQ (F0 m 25 ls [.int t0]) := by
    intro t0 S H locs ls h hP hD hS hl
    exact hret _ _ _ _ _ _ dX7_isWriting_25 h.1 h.2 hP hD hS
  have B20 : ∀ (S : St) (H : Heap) (locs : List Loc) (ls : Array Slot), bX7_isWriting_20 Q → va_P g vwCl (w0 S) H → va_D A (w0 S) → va_S A s.heap H locs → lv_has ls 1 [] → W p l e R s m args below meth c H locs 0 0 QQ (F0 m 20 ls []) := by
    intro S H locs ls h hP hD hS hl
    refine lv_iconst (v := 1) C.1 C.2.1 dX7_isWriting_20 (by decide) ?_
    refine lv_goto (tgt := 25) C.1 C.2.1 dX7_isWriting_21 (by decide) ?_
    exact B25 (1 : Int32) S H locs ls h hP hD hS (lv_sub hl [] rfl)
  refine lv_iload_n C.1 C.2.1 dX7_isWriting_0 rfl (lv_at hl 0 rfl) ?_
  refine lv_iconst (v := 1) C.1 C.2.1 dX7_isWriting_1 (by decide) ?_
  refine lv_icmp_eq (tgt := 20) C.1 C.2.1 dX7_isWriting_2 (by decide) (fun c4 => ?_) (fun c4 => ?_)
  · have h := h.1 c4
    exact B20  S H locs ls h hP hD hS (lv_sub hl [] rfl)
  · have h := h.2 c4
    refine lv_iload_n C.1 C.2.1 dX7_isWriting_5 rfl (lv_at hl 0 rfl) ?_
    refine lv_iconst (v := 2) C.1 C.2.1 dX7_isWriting_6 (by decide) ?_
    refine lv_icmp_eq (tgt := 20) C.1 C.2.1 dX7_isWriting_7 (by decide) (fun c3 => ?_) (fun c3 => ?_)
    · have h := h.1 c3
      exact B20  S H locs ls h hP hD hS (lv_sub hl [] rfl)
    · have h := h.2 c3
      refine lv_iload_n C.1 C.2.1 dX7_isWriting_10 rfl (lv_at hl 0 rfl) ?_
      refine lv_iconst (v := 3) C.1 C.2.1 dX7_isWriting_11 (by decide) ?_
      refine lv_icmp_eq (tgt := 20) C.1 C.2.1 dX7_isWriting_12 (by decide) (fun c2 => ?_) (fun c2 => ?_)
      · have h := h.1 c2
        exact B20  S H locs ls h hP hD hS (lv_sub hl [] rfl)
      · have h := h.2 c2
        refine lv_iload_n C.1 C.2.1 dX7_isWriting_15 rfl (lv_at hl 0 rfl) ?_
        refine lv_iconst (v := 5) C.1 C.2.1 dX7_isWriting_16 (by decide) ?_
        refine lv_icmp_ne (tgt := 24) C.1 C.2.1 dX7_isWriting_17 (by decide) (fun c1 => ?_) (fun c1 => ?_)
        · have h := h.1 c1
          refine lv_iconst (v := 0) C.1 C.2.1 dX7_isWriting_24 (by decide) ?_
          exact B25 (0 : Int32) S H locs ls h hP hD hS (lv_sub hl [] rfl)
        · have h := h.2 c1
          exact B20  S H locs ls h hP hD hS (lv_sub hl [] rfl)
theorem mX7_isWriting (l : Launch) (g : va_G) (tys : List (ClassId × FieldType)) (S : St) (sz : Nat) (x0 : Int32) (Q : Int32 → Prop) (h : pX7_isWriting x0 Q) : Met l yX7_isWriting wsX7_isWriting ({ frames := 0, cells := 0, slots := 0, locals := 0 }) (gPc g (tys) (w0 S) sz [.int x0]) (va_Qi (fun r _ => Q r) (gB g (tys) (w0) (va_A (w0 S) sz)) (va_A (w0 S) sz)) 0 0 (va_A (w0 S) sz) :=
  g_metZ (w := w0) (Q := fun r _ => Q r) (cc := cX7_isWriting) (maxL := 1) (by decide) rfl rfl (Nat.le_of_ble_eq_true rfl) rfl (fun p e s m args below meth c QQ A C hK hN hA hret H locs ls hP hD hS hl => kX7_isWriting C hK hN hA (Nat.le_refl _) (Nat.le_refl _) Q hret x0 S h H locs ls hP hD hS hl)

def bX7_instructions_76 (k4 : Int32 → Int32 → Int32 → St → Prop) (k12 : Int32 → Int32 → Int32 → Int32 → St → Prop) (Q : Int32 → St → Prop) (x1 : Int32) (x3 : Int32) (x4 : Int32) (t0 : Int32) (S : St) : Prop :=
  (∀ y1 : Int32, y1 = x4 + (1 : Int32) → k12 x1 t0 x3 y1 S)
def bX7_instructions_69 (k4 : Int32 → Int32 → Int32 → St → Prop) (k12 : Int32 → Int32 → Int32 → Int32 → St → Prop) (Q : Int32 → St → Prop) (x1 : Int32) (x2 : Int32) (x3 : Int32) (x4 : Int32) (S : St) : Prop :=
  bX7_instructions_76 k4 k12 Q x1 x3 x4 (x2 + (1 : Int32)) S
def bX7_instructions_75 (k4 : Int32 → Int32 → Int32 → St → Prop) (k12 : Int32 → Int32 → Int32 → Int32 → St → Prop) (Q : Int32 → St → Prop) (x1 : Int32) (x2 : Int32) (x3 : Int32) (x4 : Int32) (S : St) : Prop :=
  bX7_instructions_76 k4 k12 Q x1 x3 x4 x2 S
def bX7_instructions_56 (k4 : Int32 → Int32 → Int32 → St → Prop) (k12 : Int32 → Int32 → Int32 → Int32 → St → Prop) (Q : Int32 → St → Prop) (x1 : Int32) (x2 : Int32) (x3 : Int32) (x4 : Int32) (x5 : Int32) (S : St) : Prop :=
  ((¬ x1 = (2 : Int32) → bX7_instructions_75 k4 k12 Q x1 x2 x3 x4 S) ∧ (x1 = (2 : Int32) → pX7_isReading x5 (fun (r2 : Int32) => ((r2 = 0 → bX7_instructions_75 k4 k12 Q x1 x2 x3 x4 S) ∧ (¬ (r2 = 0) → bX7_instructions_69 k4 k12 Q x1 x2 x3 x4 S)))))
def bX7_instructions_12 (k4 : Int32 → Int32 → Int32 → St → Prop) (k12 : Int32 → Int32 → Int32 → Int32 → St → Prop) (Q : Int32 → St → Prop) (x1 : Int32) (x2 : Int32) (x3 : Int32) (x4 : Int32) (S : St) : Prop :=
  (vp_in x3 4 ∧ (((S.1 2 (Int32.toNatClampNeg x3)) ≤ x4 → (∀ y6 : Int32, y6 = x3 + (1 : Int32) → k4 x1 x2 y6 S)) ∧ (¬ ((S.1 2 (Int32.toNatClampNeg x3)) ≤ x4) → (vp_in (((36 : Int32) * x3) + ((6 : Int32) * x4)) 144 ∧ (∀ y8 : Int32, y8 = (S.1 1 (Int32.toNatClampNeg (((36 : Int32) * x3) + ((6 : Int32) * x4)))) → ((x1 = 0 → bX7_instructions_69 k4 k12 Q x1 x2 x3 x4 S) ∧ (¬ (x1 = 0) → ((¬ x1 = (1 : Int32) → bX7_instructions_56 k4 k12 Q x1 x2 x3 x4 y8 S) ∧ (x1 = (1 : Int32) → ((y8 < (6 : Int32) → bX7_instructions_69 k4 k12 Q x1 x2 x3 x4 S) ∧ (¬ (y8 < (6 : Int32)) → bX7_instructions_56 k4 k12 Q x1 x2 x3 x4 y8 S)))))))))))
def bX7_instructions_4 (k4 : Int32 → Int32 → Int32 → St → Prop) (Q : Int32 → St → Prop) (x1 : Int32) (x2 : Int32) (x3 : Int32) (S : St) : Prop :=
  (((4 : Int32) ≤ x3 → Q x2 S) ∧ (¬ ((4 : Int32) ≤ x3) → (∃ N : Nat, itr (F := Int32 → Int32 → Int32 → Int32 → St → Prop) (fun _ _ _ _ _ => False) (fun k12 x1 x2 x3 x4 S => bX7_instructions_12 k4 k12 Q x1 x2 x3 x4 S) N x1 x2 x3 (0 : Int32) S)))
def pX7_instructions (x1 : Int32) (S : St) (Q : Int32 → St → Prop) : Prop :=
  (∃ N : Nat, itr (F := Int32 → Int32 → Int32 → St → Prop) (fun _ _ _ _ => False) (fun k4 x1 x2 x3 S => bX7_instructions_4 k4 Q x1 x2 x3 S) N x1 (0 : Int32) (0 : Int32) S)
set_option maxHeartbeats 40000000 in
set_option maxRecDepth 100000 in
theorem kX7_instructions {p : Program} {l : Launch} {e : Env} {R : Room} {s : State} {m : MethodId} {args : Array Value} {below : List Frame} {meth : Method} {c : Code} {QQ : State → Prop} {g : va_G} {ct : Nat → ClassId} {ad : Nat → Nat} {A : Nat → Prop} (C : CallFix p m c cX7_instructions 6 s args wsX7_instructions RX7) (hK : va_K g vwCl (mT ct) s) (hN : xN s) (hA : ∀ q, s.heap.size ≤ q → A q) (hRf : 1 ≤ R.frames) (hRl : 20 ≤ R.locals) (Q : Int32 → St → Prop) (hret : ∀ (pc : Nat) (r : Int32) (S : St) (H : Heap) (locs : List Loc) (ls : Array Slot), decode cX7_instructions pc = .ok (.ireturn, 1) → Q r S → va_P g vwCl (wM ct ad S) H → va_D A (wM ct ad S) → va_S A s.heap H locs → W p l e R s m args below meth c H locs 0 0 QQ (F0 m pc ls [.int r])) (x1 : Int32) (S : St) (h : pX7_instructions x1 S Q) (H : Heap) (locs : List Loc) (ls : Array Slot) (hP : va_P g vwCl (wM ct ad S) H) (hD : va_D A (wM ct ad S)) (hS : va_S A s.heap H locs) (hl : lv_has ls 6 [(0, .ref (ad 0)), (1, .int x1)]) : W p l e R s m args below meth c H locs 0 0 QQ (F0 m 0 ls []) := by
  have hinX7 : ∀ w ∈ wsX70, w ∈ wsX7_instructions := by decide +kernel
  have B76 : ∀ (k4 : Int32 → Int32 → Int32 → St → Prop) (hk4 : ∀ (x1 : Int32) (x2 : Int32) (x3 : Int32) (S : St) (H : Heap) (locs : List Loc) (ls : Array Slot), k4 x1 x2 x3 S → va_P g vwCl (wM ct ad S) H → va_D A (wM ct ad S) → va_S A s.heap H locs → lv_has ls 6 [(0, .ref (ad 0)), (1, .int x1), (2, .int x2), (3, .int x3)] → W p l e R s m args below meth c H locs 0 0 QQ (F0 m 4 ls [])) (k12 : Int32 → Int32 → Int32 → Int32 → St → Prop) (hk12 : ∀ (x1 : Int32) (x2 : Int32) (x3 : Int32) (x4 : Int32) (S : St) (H : Heap) (locs : List Loc) (ls : Array Slot), k12 x1 x2 x3 x4 S → va_P g vwCl (wM ct ad S) H → va_D A (wM ct ad S) → va_S A s.heap H locs → lv_has ls 6 [(0, .ref (ad 0)), (1, .int x1), (2, .int x2), (3, .int x3), (4, .int x4)] → W p l e R s m args below meth c H locs 0 0 QQ (F0 m 12 ls [])) (x1 : Int32) (x3 : Int32) (x4 : Int32) (t0 : Int32) (S : St) (H : Heap) (locs : List Loc) (ls : Array Slot), bX7_instructions_76 k4 k12 Q x1 x3 x4 t0 S → va_P g vwCl (wM ct ad S) H → va_D A (wM ct ad S) → va_S A s.heap H locs → lv_has ls 6 [(0, .ref (ad 0)), (1, .int x1), (3, .int x3), (4, .int x4)] → W p l e R s m args below meth c H locs 0 0 QQ (F0 m 76 ls [.int t0]) := by
    intro k4 hk4 k12 hk12 x1 x3 x4 t0 S H locs ls h hP hD hS hl
    refine lv_istore_n (lv' := [(2, .int t0), (0, .ref (ad 0)), (1, .int x1), (3, .int x3), (4, .int x4)]) C.1 C.2.1 dX7_instructions_76 rfl hl (by decide) rfl (fun ls hl => ?_)
    obtain ⟨y1, ey1⟩ : ∃ z : Int32, z = x4 + (1 : Int32) := ⟨_, rfl⟩
    have h := h y1 ey1
    refine lv_iinc (v := y1) (lv' := [(4, .int y1), (2, .int t0), (0, .ref (ad 0)), (1, .int x1), (3, .int x3)]) C.1 C.2.1 dX7_instructions_77 hl (k := 4) rfl (by rw [ey1]; rfl) (by decide) rfl (fun ls hl => ?_)
    refine lv_goto (tgt := 12) C.1 C.2.1 dX7_instructions_80 (by decide) ?_
    exact hk12 x1 t0 x3 y1 S H locs ls h hP hD hS (lv_sub hl [2, 3, 1, 4, 0] rfl)
  have B69 : ∀ (k4 : Int32 → Int32 → Int32 → St → Prop) (hk4 : ∀ (x1 : Int32) (x2 : Int32) (x3 : Int32) (S : St) (H : Heap) (locs : List Loc) (ls : Array Slot), k4 x1 x2 x3 S → va_P g vwCl (wM ct ad S) H → va_D A (wM ct ad S) → va_S A s.heap H locs → lv_has ls 6 [(0, .ref (ad 0)), (1, .int x1), (2, .int x2), (3, .int x3)] → W p l e R s m args below meth c H locs 0 0 QQ (F0 m 4 ls [])) (k12 : Int32 → Int32 → Int32 → Int32 → St → Prop) (hk12 : ∀ (x1 : Int32) (x2 : Int32) (x3 : Int32) (x4 : Int32) (S : St) (H : Heap) (locs : List Loc) (ls : Array Slot), k12 x1 x2 x3 x4 S → va_P g vwCl (wM ct ad S) H → va_D A (wM ct ad S) → va_S A s.heap H locs → lv_has ls 6 [(0, .ref (ad 0)), (1, .int x1), (2, .int x2), (3, .int x3), (4, .int x4)] → W p l e R s m args below meth c H locs 0 0 QQ (F0 m 12 ls [])) (x1 : Int32) (x2 : Int32) (x3 : Int32) (x4 : Int32) (S : St) (H : Heap) (locs : List Loc) (ls : Array Slot), bX7_instructions_69 k4 k12 Q x1 x2 x3 x4 S → va_P g vwCl (wM ct ad S) H → va_D A (wM ct ad S) → va_S A s.heap H locs → lv_has ls 6 [(0, .ref (ad 0)), (1, .int x1), (2, .int x2), (3, .int x3), (4, .int x4)] → W p l e R s m args below meth c H locs 0 0 QQ (F0 m 69 ls []) := by
    intro k4 hk4 k12 hk12 x1 x2 x3 x4 S H locs ls h hP hD hS hl
    refine lv_iload_n C.1 C.2.1 dX7_instructions_69 rfl (lv_at hl 2 rfl) ?_
    refine lv_iconst (v := 1) C.1 C.2.1 dX7_instructions_70 (by decide) ?_
    refine lv_iadd C.1 C.2.1 dX7_instructions_71 ?_
    refine lv_goto (tgt := 76) C.1 C.2.1 dX7_instructions_72 (by decide) ?_
    exact B76 k4 hk4 k12 hk12 x1 x3 x4 (x2 + (1 : Int32)) S H locs ls h hP hD hS (lv_sub hl [0, 1, 3, 4] rfl)
  have B75 : ∀ (k4 : Int32 → Int32 → Int32 → St → Prop) (hk4 : ∀ (x1 : Int32) (x2 : Int32) (x3 : Int32) (S : St) (H : Heap) (locs : List Loc) (ls : Array Slot), k4 x1 x2 x3 S → va_P g vwCl (wM ct ad S) H → va_D A (wM ct ad S) → va_S A s.heap H locs → lv_has ls 6 [(0, .ref (ad 0)), (1, .int x1), (2, .int x2), (3, .int x3)] → W p l e R s m args below meth c H locs 0 0 QQ (F0 m 4 ls [])) (k12 : Int32 → Int32 → Int32 → Int32 → St → Prop) (hk12 : ∀ (x1 : Int32) (x2 : Int32) (x3 : Int32) (x4 : Int32) (S : St) (H : Heap) (locs : List Loc) (ls : Array Slot), k12 x1 x2 x3 x4 S → va_P g vwCl (wM ct ad S) H → va_D A (wM ct ad S) → va_S A s.heap H locs → lv_has ls 6 [(0, .ref (ad 0)), (1, .int x1), (2, .int x2), (3, .int x3), (4, .int x4)] → W p l e R s m args below meth c H locs 0 0 QQ (F0 m 12 ls [])) (x1 : Int32) (x2 : Int32) (x3 : Int32) (x4 : Int32) (S : St) (H : Heap) (locs : List Loc) (ls : Array Slot), bX7_instructions_75 k4 k12 Q x1 x2 x3 x4 S → va_P g vwCl (wM ct ad S) H → va_D A (wM ct ad S) → va_S A s.heap H locs → lv_has ls 6 [(0, .ref (ad 0)), (1, .int x1), (2, .int x2), (3, .int x3), (4, .int x4)] → W p l e R s m args below meth c H locs 0 0 QQ (F0 m 75 ls []) := by
    intro k4 hk4 k12 hk12 x1 x2 x3 x4 S H locs ls h hP hD hS hl
    refine lv_iload_n C.1 C.2.1 dX7_instructions_75 rfl (lv_at hl 2 rfl) ?_
    exact B76 k4 hk4 k12 hk12 x1 x3 x4 x2 S H locs ls h hP hD hS (lv_sub hl [0, 1, 3, 4] rfl)
  have B56 : ∀ (k4 : Int32 → Int32 → Int32 → St → Prop) (hk4 : ∀ (x1 : Int32) (x2 : Int32) (x3 : Int32) (S : St) (H : Heap) (locs : List Loc) (ls : Array Slot), k4 x1 x2 x3 S → va_P g vwCl (wM ct ad S) H → va_D A (wM ct ad S) → va_S A s.heap H locs → lv_has ls 6 [(0, .ref (ad 0)), (1, .int x1), (2, .int x2), (3, .int x3)] → W p l e R s m args below meth c H locs 0 0 QQ (F0 m 4 ls [])) (k12 : Int32 → Int32 → Int32 → Int32 → St → Prop) (hk12 : ∀ (x1 : Int32) (x2 : Int32) (x3 : Int32) (x4 : Int32) (S : St) (H : Heap) (locs : List Loc) (ls : Array Slot), k12 x1 x2 x3 x4 S → va_P g vwCl (wM ct ad S) H → va_D A (wM ct ad S) → va_S A s.heap H locs → lv_has ls 6 [(0, .ref (ad 0)), (1, .int x1), (2, .int x2), (3, .int x3), (4, .int x4)] → W p l e R s m args below meth c H locs 0 0 QQ (F0 m 12 ls [])) (x1 : Int32) (x2 : Int32) (x3 : Int32) (x4 : Int32) (x5 : Int32) (S : St) (H : Heap) (locs : List Loc) (ls : Array Slot), bX7_instructions_56 k4 k12 Q x1 x2 x3 x4 x5 S → va_P g vwCl (wM ct ad S) H → va_D A (wM ct ad S) → va_S A s.heap H locs → lv_has ls 6 [(0, .ref (ad 0)), (1, .int x1), (2, .int x2), (3, .int x3), (4, .int x4), (5, .int x5)] → W p l e R s m args below meth c H locs 0 0 QQ (F0 m 56 ls []) := by
    intro k4 hk4 k12 hk12 x1 x2 x3 x4 x5 S H locs ls h hP hD hS hl
    refine lv_iload_n C.1 C.2.1 dX7_instructions_56 rfl (lv_at hl 1 rfl) ?_
    refine lv_iconst (v := 2) C.1 C.2.1 dX7_instructions_57 (by decide) ?_
    refine lv_icmp_ne (tgt := 75) C.1 C.2.1 dX7_instructions_58 (by decide) (fun c4 => ?_) (fun c4 => ?_)
    · have h := h.1 c4
      exact B75 k4 hk4 k12 hk12 x1 x2 x3 x4 S H locs ls h hP hD hS (lv_sub hl [0, 1, 2, 3, 4] rfl)
    · have h := h.2 c4
      refine lv_iload C.1 C.2.1 dX7_instructions_61 (lv_at hl 5 rfl) ?_
      refine g_callS (w := wM ct ad) C hK hN hA hP hD hS (mX7_isReading l g (mT ct) S H.size x5 _ h) (va_cwS 1 C.2.2.2.2 gX7_instructions_X7_isReading rfl rfl rfl (by decide +kernel) ⟨Nat.le_trans (by decide) hRf, Nat.le_trans (by decide) hRl⟩) rfl hl.1 rfl (Nat.le_of_ble_eq_true rfl) dX7_instructions_63 ⟨Nat.zero_le _, Nat.zero_le _⟩ (fun r2 H locs h hP hD hS => ?_)
      refine lv_if_eq (tgt := 75) C.1 C.2.1 dX7_instructions_66 (by decide) (fun c3 => ?_) (fun c3 => ?_)
      · have h := h.1 c3
        exact B75 k4 hk4 k12 hk12 x1 x2 x3 x4 S H locs ls h hP hD hS (lv_sub hl [0, 1, 2, 3, 4] rfl)
      · have h := h.2 c3
        exact B69 k4 hk4 k12 hk12 x1 x2 x3 x4 S H locs ls h hP hD hS (lv_sub hl [0, 1, 2, 3, 4] rfl)
  have B12 : ∀ (k4 : Int32 → Int32 → Int32 → St → Prop) (hk4 : ∀ (x1 : Int32) (x2 : Int32) (x3 : Int32) (S : St) (H : Heap) (locs : List Loc) (ls : Array Slot), k4 x1 x2 x3 S → va_P g vwCl (wM ct ad S) H → va_D A (wM ct ad S) → va_S A s.heap H locs → lv_has ls 6 [(0, .ref (ad 0)), (1, .int x1), (2, .int x2), (3, .int x3)] → W p l e R s m args below meth c H locs 0 0 QQ (F0 m 4 ls [])) (k12 : Int32 → Int32 → Int32 → Int32 → St → Prop) (hk12 : ∀ (x1 : Int32) (x2 : Int32) (x3 : Int32) (x4 : Int32) (S : St) (H : Heap) (locs : List Loc) (ls : Array Slot), k12 x1 x2 x3 x4 S → va_P g vwCl (wM ct ad S) H → va_D A (wM ct ad S) → va_S A s.heap H locs → lv_has ls 6 [(0, .ref (ad 0)), (1, .int x1), (2, .int x2), (3, .int x3), (4, .int x4)] → W p l e R s m args below meth c H locs 0 0 QQ (F0 m 12 ls [])) (x1 : Int32) (x2 : Int32) (x3 : Int32) (x4 : Int32) (S : St) (H : Heap) (locs : List Loc) (ls : Array Slot), bX7_instructions_12 k4 k12 Q x1 x2 x3 x4 S → va_P g vwCl (wM ct ad S) H → va_D A (wM ct ad S) → va_S A s.heap H locs → lv_has ls 6 [(0, .ref (ad 0)), (1, .int x1), (2, .int x2), (3, .int x3), (4, .int x4)] → W p l e R s m args below meth c H locs 0 0 QQ (F0 m 12 ls []) := by
    intro k4 hk4 k12 hk12 x1 x2 x3 x4 S H locs ls h hP hD hS hl
    refine lv_iload C.1 C.2.1 dX7_instructions_12 (lv_at hl 4 rfl) ?_
    refine lv_aload_n C.1 C.2.1 dX7_instructions_14 rfl (lv_at hl 0 rfl) ?_
    refine mg_lengths C hinX7 hK hP (by decide +kernel) dX7_instructions_15 ?_
    refine lv_iload_n C.1 C.2.1 dX7_instructions_18 rfl (lv_at hl 3 rfl) ?_
    obtain ⟨g5, h⟩ := h
    refine ma_lengths C hK hP g5  rfl dX7_instructions_19 ?_
    refine lv_icmp_ge (tgt := 83) C.1 C.2.1 dX7_instructions_20 (by decide) (fun c12 => ?_) (fun c12 => ?_)
    · have h := h.1 c12
      obtain ⟨y6, ey6⟩ : ∃ z : Int32, z = x3 + (1 : Int32) := ⟨_, rfl⟩
      have h := h y6 ey6
      refine lv_iinc (v := y6) (lv' := [(3, .int y6), (0, .ref (ad 0)), (1, .int x1), (2, .int x2), (4, .int x4)]) C.1 C.2.1 dX7_instructions_83 hl (k := 3) rfl (by rw [ey6]; rfl) (by decide) rfl (fun ls hl => ?_)
      refine lv_goto (tgt := 4) C.1 C.2.1 dX7_instructions_86 (by decide) ?_
      exact hk4 x1 x2 y6 S H locs ls h hP hD hS (lv_sub hl [1, 2, 3, 0] rfl)
    · have h := h.2 c12
      refine lv_aload_n C.1 C.2.1 dX7_instructions_23 rfl (lv_at hl 0 rfl) ?_
      refine mg_programs C hinX7 hK hP (by decide +kernel) dX7_instructions_24 ?_
      refine lv_bipush (v := 36) C.1 C.2.1 dX7_instructions_27 (by decide) ?_
      refine lv_iload_n C.1 C.2.1 dX7_instructions_29 rfl (lv_at hl 3 rfl) ?_
      refine lv_imul C.1 C.2.1 dX7_instructions_30 ?_
      refine lv_bipush (v := 6) C.1 C.2.1 dX7_instructions_31 (by decide) ?_
      refine lv_iload C.1 C.2.1 dX7_instructions_33 (lv_at hl 4 rfl) ?_
      refine lv_imul C.1 C.2.1 dX7_instructions_35 ?_
      refine lv_iadd C.1 C.2.1 dX7_instructions_36 ?_
      obtain ⟨g7, h⟩ := h
      refine ma_programs C hK hP g7  rfl dX7_instructions_37 ?_
      refine lv_topi (fun y8 ey8 => ?_)
      have h := h y8 ey8
      refine lv_istore (lv' := [(5, .int y8), (0, .ref (ad 0)), (1, .int x1), (2, .int x2), (3, .int x3), (4, .int x4)]) C.1 C.2.1 dX7_instructions_38 hl (by decide) rfl (fun ls hl => ?_)
      refine lv_iload_n C.1 C.2.1 dX7_instructions_40 rfl (lv_at hl 2 rfl) ?_
      refine lv_if_eq (tgt := 69) C.1 C.2.1 dX7_instructions_41 (by decide) (fun c11 => ?_) (fun c11 => ?_)
      · have h := h.1 c11
        exact B69 k4 hk4 k12 hk12 x1 x2 x3 x4 S H locs ls h hP hD hS (lv_sub hl [1, 2, 3, 4, 5] rfl)
      · have h := h.2 c11
        refine lv_iload_n C.1 C.2.1 dX7_instructions_44 rfl (lv_at hl 2 rfl) ?_
        refine lv_iconst (v := 1) C.1 C.2.1 dX7_instructions_45 (by decide) ?_
        refine lv_icmp_ne (tgt := 56) C.1 C.2.1 dX7_instructions_46 (by decide) (fun c10 => ?_) (fun c10 => ?_)
        · have h := h.1 c10
          exact B56 k4 hk4 k12 hk12 x1 x2 x3 x4 y8 S H locs ls h hP hD hS (lv_sub hl [1, 2, 3, 4, 5, 0] rfl)
        · have h := h.2 c10
          refine lv_iload C.1 C.2.1 dX7_instructions_49 (lv_at hl 0 rfl) ?_
          refine lv_bipush (v := 6) C.1 C.2.1 dX7_instructions_51 (by decide) ?_
          refine lv_icmp_lt (tgt := 69) C.1 C.2.1 dX7_instructions_53 (by decide) (fun c9 => ?_) (fun c9 => ?_)
          · have h := h.1 c9
            exact B69 k4 hk4 k12 hk12 x1 x2 x3 x4 S H locs ls h hP hD hS (lv_sub hl [1, 2, 3, 4, 5] rfl)
          · have h := h.2 c9
            exact B56 k4 hk4 k12 hk12 x1 x2 x3 x4 y8 S H locs ls h hP hD hS (lv_sub hl [1, 2, 3, 4, 5, 0] rfl)
  have L12 : ∀ (k4 : Int32 → Int32 → Int32 → St → Prop) (hk4 : ∀ (x1 : Int32) (x2 : Int32) (x3 : Int32) (S : St) (H : Heap) (locs : List Loc) (ls : Array Slot), k4 x1 x2 x3 S → va_P g vwCl (wM ct ad S) H → va_D A (wM ct ad S) → va_S A s.heap H locs → lv_has ls 6 [(0, .ref (ad 0)), (1, .int x1), (2, .int x2), (3, .int x3)] → W p l e R s m args below meth c H locs 0 0 QQ (F0 m 4 ls [])) (N : Nat) (x1 : Int32) (x2 : Int32) (x3 : Int32) (x4 : Int32) (S : St) (H : Heap) (locs : List Loc) (ls : Array Slot), itr (F := Int32 → Int32 → Int32 → Int32 → St → Prop) (fun _ _ _ _ _ => False) (fun k12 x1 x2 x3 x4 S => bX7_instructions_12 k4 k12 Q x1 x2 x3 x4 S) N x1 x2 x3 x4 S → va_P g vwCl (wM ct ad S) H → va_D A (wM ct ad S) → va_S A s.heap H locs → lv_has ls 6 [(0, .ref (ad 0)), (1, .int x1), (2, .int x2), (3, .int x3), (4, .int x4)] → W p l e R s m args below meth c H locs 0 0 QQ (F0 m 12 ls []) := by
    intro k4 hk4 N
    induction N with
    | zero => intro x1 x2 x3 x4 S H locs ls h hP hD hS hl; exact False.elim h
    | succ N ih => intro x1 x2 x3 x4 S H locs ls h hP hD hS hl; exact B12 k4 hk4 (itr (F := Int32 → Int32 → Int32 → Int32 → St → Prop) (fun _ _ _ _ _ => False) (fun k12 x1 x2 x3 x4 S => bX7_instructions_12 k4 k12 Q x1 x2 x3 x4 S) N) ih x1 x2 x3 x4 S H locs ls h  hP hD hS hl
  have B4 : ∀ (k4 : Int32 → Int32 → Int32 → St → Prop) (hk4 : ∀ (x1 : Int32) (x2 : Int32) (x3 : Int32) (S : St) (H : Heap) (locs : List Loc) (ls : Array Slot), k4 x1 x2 x3 S → va_P g vwCl (wM ct ad S) H → va_D A (wM ct ad S) → va_S A s.heap H locs → lv_has ls 6 [(0, .ref (ad 0)), (1, .int x1), (2, .int x2), (3, .int x3)] → W p l e R s m args below meth c H locs 0 0 QQ (F0 m 4 ls [])) (x1 : Int32) (x2 : Int32) (x3 : Int32) (S : St) (H : Heap) (locs : List Loc) (ls : Array Slot), bX7_instructions_4 k4 Q x1 x2 x3 S → va_P g vwCl (wM ct ad S) H → va_D A (wM ct ad S) → va_S A s.heap H locs → lv_has ls 6 [(0, .ref (ad 0)), (1, .int x1), (2, .int x2), (3, .int x3)] → W p l e R s m args below meth c H locs 0 0 QQ (F0 m 4 ls []) := by
    intro k4 hk4 x1 x2 x3 S H locs ls h hP hD hS hl
    refine lv_iload_n C.1 C.2.1 dX7_instructions_4 rfl (lv_at hl 3 rfl) ?_
    refine lv_iconst (v := 4) C.1 C.2.1 dX7_instructions_5 (by decide) ?_
    refine lv_icmp_ge (tgt := 89) C.1 C.2.1 dX7_instructions_6 (by decide) (fun c13 => ?_) (fun c13 => ?_)
    · have h := h.1 c13
      refine lv_iload_n C.1 C.2.1 dX7_instructions_89 rfl (lv_at hl 2 rfl) ?_
      exact hret _ _ _ _ _ _ dX7_instructions_90 h hP hD hS
    · have h := h.2 c13
      refine lv_iconst (v := 0) C.1 C.2.1 dX7_instructions_9 (by decide) ?_
      refine lv_istore (lv' := [(4, .int (0 : Int32)), (0, .ref (ad 0)), (1, .int x1), (2, .int x2), (3, .int x3)]) C.1 C.2.1 dX7_instructions_10 hl (by decide) rfl (fun ls hl => ?_)
      obtain ⟨N, h⟩ := h
      exact L12 k4 hk4 N x1 x2 x3 (0 : Int32) S H locs ls h hP hD hS (lv_sub hl [1, 2, 3, 4, 0] rfl)
  have L4 : ∀ (N : Nat) (x1 : Int32) (x2 : Int32) (x3 : Int32) (S : St) (H : Heap) (locs : List Loc) (ls : Array Slot), itr (F := Int32 → Int32 → Int32 → St → Prop) (fun _ _ _ _ => False) (fun k4 x1 x2 x3 S => bX7_instructions_4 k4 Q x1 x2 x3 S) N x1 x2 x3 S → va_P g vwCl (wM ct ad S) H → va_D A (wM ct ad S) → va_S A s.heap H locs → lv_has ls 6 [(0, .ref (ad 0)), (1, .int x1), (2, .int x2), (3, .int x3)] → W p l e R s m args below meth c H locs 0 0 QQ (F0 m 4 ls []) := by
    intro N
    induction N with
    | zero => intro x1 x2 x3 S H locs ls h hP hD hS hl; exact False.elim h
    | succ N ih => intro x1 x2 x3 S H locs ls h hP hD hS hl; exact B4  (itr (F := Int32 → Int32 → Int32 → St → Prop) (fun _ _ _ _ => False) (fun k4 x1 x2 x3 S => bX7_instructions_4 k4 Q x1 x2 x3 S) N) ih x1 x2 x3 S H locs ls h  hP hD hS hl
  refine lv_iconst (v := 0) C.1 C.2.1 dX7_instructions_0 (by decide) ?_
  refine lv_istore_n (lv' := [(2, .int (0 : Int32)), (0, .ref (ad 0)), (1, .int x1)]) C.1 C.2.1 dX7_instructions_1 rfl hl (by decide) rfl (fun ls hl => ?_)
  refine lv_iconst (v := 0) C.1 C.2.1 dX7_instructions_2 (by decide) ?_
  refine lv_istore_n (lv' := [(3, .int (0 : Int32)), (2, .int (0 : Int32)), (0, .ref (ad 0)), (1, .int x1)]) C.1 C.2.1 dX7_instructions_3 rfl hl (by decide) rfl (fun ls hl => ?_)
  obtain ⟨N, h⟩ := h
  exact L4 N x1 (0 : Int32) (0 : Int32) S H locs ls h hP hD hS (lv_sub hl [2, 3, 1, 0] rfl)
theorem mX7_instructions (l : Launch) (g : va_G) (ct : Nat → ClassId) (ad : Nat → Nat) (sz : Nat) (S : St) (x1 : Int32) (Q : Int32 → St → Prop) (h : pX7_instructions x1 S Q) : Met l yX7_instructions wsX7_instructions ({ frames := 1, cells := 0, slots := 0, locals := 20 }) (gPc g (mT ct) (wM ct ad S) sz [.ref (ad 0), .int x1]) (va_Qi Q (gB g (mT ct) (wM ct ad) (va_A (wM ct ad S) sz)) (va_A (wM ct ad S) sz)) 0 0 (va_A (wM ct ad S) sz) :=
  g_metI (w := wM ct ad) (cc := cX7_instructions) (maxL := 6) (by decide) rfl rfl (Nat.le_of_ble_eq_true rfl) rfl (fun p e s m args below meth c QQ A C hK hN hA hret H locs ls hP hD hS hl => kX7_instructions C hK hN hA (Nat.le_refl _) (Nat.le_refl _) Q hret x1 S h H locs ls hP hD hS hl)

def bX7_add_25 (Q : Int32 → St → Prop) (S : St) : Prop :=
  Q (-2 : Int32) S
def bX7_add_75 (Q : Int32 → St → Prop) (S : St) : Prop :=
  Q (-3 : Int32) S
def bX7_add_187 (Q : Int32 → St → Prop) (x1 : Int32) (x8 : Int32) (t1 : Int32) (t2 : Int32) (S : St) : Prop :=
  (vp_in t1 144 ∧ ∀ S1 : St, S1 = wr S 1 (Int32.toNatClampNeg t1) t2 → (vp_in x1 4 ∧ (vp_in x1 4 ∧ ∀ S4 : St, S4 = wr S1 2 (Int32.toNatClampNeg x1) ((S1.1 2 (Int32.toNatClampNeg x1)) + (1 : Int32)) → (∀ S6 : St, S6 = wr S4 3 0 (0 : Int32) → Q x8 S6))))
def bX7_add_166 (Q : Int32 → St → Prop) (x1 : Int32) (x7 : Int32) (x8 : Int32) (x9 : Int32) (x10 : Int32) (t1 : Int32) (t2 : Int32) (S : St) : Prop :=
  (vp_in t1 144 ∧ ∀ S7 : St, S7 = wr S 1 (Int32.toNatClampNeg t1) t2 → ((x10 ≤ (4 : Int32) → bX7_add_187 Q x1 x8 (x9 + (5 : Int32)) (0 : Int32) S7) ∧ (¬ (x10 ≤ (4 : Int32)) → bX7_add_187 Q x1 x8 (x9 + (5 : Int32)) x7 S7)))
def bX7_add_145 (Q : Int32 → St → Prop) (x1 : Int32) (x6 : Int32) (x7 : Int32) (x8 : Int32) (x9 : Int32) (x10 : Int32) (t1 : Int32) (t2 : Int32) (S : St) : Prop :=
  (vp_in t1 144 ∧ ∀ S10 : St, S10 = wr S 1 (Int32.toNatClampNeg t1) t2 → ((x10 ≤ (3 : Int32) → bX7_add_166 Q x1 x7 x8 x9 x10 (x9 + (4 : Int32)) (0 : Int32) S10) ∧ (¬ (x10 ≤ (3 : Int32)) → bX7_add_166 Q x1 x7 x8 x9 x10 (x9 + (4 : Int32)) x6 S10)))
def bX7_add_78 (Q : Int32 → St → Prop) (x1 : Int32) (x2 : Int32) (x3 : Int32) (x4 : Int32) (x5 : Int32) (x6 : Int32) (x7 : Int32) (x8 : Int32) (S : St) : Prop :=
  (∀ y13 : Int32, y13 = (((36 : Int32) * x1) + ((6 : Int32) * x8)) → pX7_numbersOf x2 (fun (r14 : Int32) => (vp_in y13 144 ∧ ∀ S15 : St, S15 = wr S 1 (Int32.toNatClampNeg y13) x2 → (vp_in (y13 + (1 : Int32)) 144 ∧ ∀ S17 : St, S17 = wr S15 1 (Int32.toNatClampNeg (y13 + (1 : Int32))) x3 → (vp_in (y13 + (2 : Int32)) 144 ∧ ∀ S19 : St, S19 = wr S17 1 (Int32.toNatClampNeg (y13 + (2 : Int32))) x4 → ((r14 ≤ (2 : Int32) → bX7_add_145 Q x1 x6 x7 x8 y13 r14 (y13 + (3 : Int32)) (0 : Int32) S19) ∧ (¬ (r14 ≤ (2 : Int32)) → bX7_add_145 Q x1 x6 x7 x8 y13 r14 (y13 + (3 : Int32)) x5 S19)))))))
def bX7_add_59 (Q : Int32 → St → Prop) (x1 : Int32) (x2 : Int32) (x3 : Int32) (x4 : Int32) (x5 : Int32) (x6 : Int32) (x7 : Int32) (x8 : Int32) (S : St) : Prop :=
  pX7_isReading x2 (fun (r22 : Int32) => ((r22 = 0 → bX7_add_78 Q x1 x2 x3 x4 x5 x6 x7 x8 S) ∧ (¬ (r22 = 0) → pX7_instructions (2 : Int32) S (fun (r24 : Int32) (S23 : St) => ((¬ r24 = (4 : Int32) → bX7_add_78 Q x1 x2 x3 x4 x5 x6 x7 x8 S23) ∧ (r24 = (4 : Int32) → bX7_add_75 Q  S23))))))
def pX7_add (x1 : Int32) (x2 : Int32) (x3 : Int32) (x4 : Int32) (x5 : Int32) (x6 : Int32) (x7 : Int32) (S : St) (Q : Int32 → St → Prop) : Prop :=
  pX7_in x1 (0 : Int32) (3 : Int32) (fun (r27 : Int32) => ((r27 = 0 → bX7_add_25 Q  S) ∧ (¬ (r27 = 0) → pX7_isGood x2 x3 x4 x5 x6 x7 (fun (r28 : Int32) => ((¬ r28 = 0 → (vp_in x1 4 ∧ (∀ y30 : Int32, y30 = (S.1 2 (Int32.toNatClampNeg x1)) → ((y30 = (6 : Int32) → bX7_add_75 Q  S) ∧ (¬ (y30 = (6 : Int32)) → (((6 : Int32) ≤ x2 → bX7_add_59 Q x1 x2 x3 x4 x5 x6 x7 y30 S) ∧ (¬ ((6 : Int32) ≤ x2) → pX7_instructions (1 : Int32) S (fun (r32 : Int32) (S31 : St) => ((r32 = (6 : Int32) → bX7_add_75 Q  S31) ∧ (¬ (r32 = (6 : Int32)) → bX7_add_59 Q x1 x2 x3 x4 x5 x6 x7 y30 S31)))))))))) ∧ (r28 = 0 → bX7_add_25 Q  S))))))
set_option maxHeartbeats 40000000 in
set_option maxRecDepth 100000 in
theorem kX7_add {p : Program} {l : Launch} {e : Env} {R : Room} {s : State} {m : MethodId} {args : Array Value} {below : List Frame} {meth : Method} {c : Code} {QQ : State → Prop} {g : va_G} {ct : Nat → ClassId} {ad : Nat → Nat} {A : Nat → Prop} (C : CallFix p m c cX7_add 11 s args wsX7_add RX7) (hK : va_K g vwCl (mT ct) s) (hN : xN s) (hA : ∀ q, s.heap.size ≤ q → A q) (hRf : 3 ≤ R.frames) (hRl : 68 ≤ R.locals) (Q : Int32 → St → Prop) (hret : ∀ (pc : Nat) (r : Int32) (S : St) (H : Heap) (locs : List Loc) (ls : Array Slot), decode cX7_add pc = .ok (.ireturn, 1) → Q r S → va_P g vwCl (wM ct ad S) H → va_D A (wM ct ad S) → va_S A s.heap H locs → W p l e R s m args below meth c H locs 0 0 QQ (F0 m pc ls [.int r])) (x1 : Int32) (x2 : Int32) (x3 : Int32) (x4 : Int32) (x5 : Int32) (x6 : Int32) (x7 : Int32) (S : St) (h : pX7_add x1 x2 x3 x4 x5 x6 x7 S Q) (H : Heap) (locs : List Loc) (ls : Array Slot) (hP : va_P g vwCl (wM ct ad S) H) (hD : va_D A (wM ct ad S)) (hS : va_S A s.heap H locs) (hl : lv_has ls 11 [(0, .ref (ad 0)), (1, .int x1), (2, .int x2), (3, .int x3), (4, .int x4), (5, .int x5), (6, .int x6), (7, .int x7)]) : W p l e R s m args below meth c H locs 0 0 QQ (F0 m 0 ls []) := by
  have hinX7 : ∀ w ∈ wsX70, w ∈ wsX7_add := by decide +kernel
  have B25 : ∀ (S : St) (H : Heap) (locs : List Loc) (ls : Array Slot), bX7_add_25 Q S → va_P g vwCl (wM ct ad S) H → va_D A (wM ct ad S) → va_S A s.heap H locs → lv_has ls 11 [(0, .ref (ad 0))] → W p l e R s m args below meth c H locs 0 0 QQ (F0 m 25 ls []) := by
    intro S H locs ls h hP hD hS hl
    refine lv_bipush (v := -2) C.1 C.2.1 dX7_add_25 (by decide) ?_
    exact hret _ _ _ _ _ _ dX7_add_27 h hP hD hS
  have B75 : ∀ (S : St) (H : Heap) (locs : List Loc) (ls : Array Slot), bX7_add_75 Q S → va_P g vwCl (wM ct ad S) H → va_D A (wM ct ad S) → va_S A s.heap H locs → lv_has ls 11 [(0, .ref (ad 0))] → W p l e R s m args below meth c H locs 0 0 QQ (F0 m 75 ls []) := by
    intro S H locs ls h hP hD hS hl
    refine lv_bipush (v := -3) C.1 C.2.1 dX7_add_75 (by decide) ?_
    exact hret _ _ _ _ _ _ dX7_add_77 h hP hD hS
  have B187 : ∀ (x1 : Int32) (x8 : Int32) (t1 : Int32) (t2 : Int32) (S : St) (H : Heap) (locs : List Loc) (ls : Array Slot), bX7_add_187 Q x1 x8 t1 t2 S → va_P g vwCl (wM ct ad S) H → va_D A (wM ct ad S) → va_S A s.heap H locs → lv_has ls 11 [(0, .ref (ad 0)), (1, .int x1), (8, .int x8)] → W p l e R s m args below meth c H locs 0 0 QQ (F0 m 187 ls [.int t2, .int t1, .ref (ad 1)]) := by
    intro x1 x8 t1 t2 S H locs ls h hP hD hS hl
    obtain ⟨g2, h⟩ := h
    obtain ⟨S1, eS1⟩ : ∃ z : St, z = wr S 1 (Int32.toNatClampNeg t1) t2 := ⟨_, rfl⟩
    have h := h S1 eS1
    refine ms_programs C hK hP hD hS  g2 rfl dX7_add_187 (fun H locs hP hD hS => ?_)
    rw [← eS1] at hP hD
    refine lv_aload_n C.1 C.2.1 dX7_add_188 rfl (lv_at hl 0 rfl) ?_
    refine mg_lengths C hinX7 hK hP (by decide +kernel) dX7_add_189 ?_
    refine lv_iload_n C.1 C.2.1 dX7_add_192 rfl (lv_at hl 1 rfl) ?_
    refine lv_dup2_11 C.1 C.2.1 dX7_add_193 rfl rfl ?_
    obtain ⟨g3, h⟩ := h
    refine ma_lengths C hK hP g3  rfl dX7_add_194 ?_
    refine lv_iconst (v := 1) C.1 C.2.1 dX7_add_195 (by decide) ?_
    refine lv_iadd C.1 C.2.1 dX7_add_196 ?_
    obtain ⟨g5, h⟩ := h
    obtain ⟨S4, eS4⟩ : ∃ z : St, z = wr S1 2 (Int32.toNatClampNeg x1) ((S1.1 2 (Int32.toNatClampNeg x1)) + (1 : Int32)) := ⟨_, rfl⟩
    have h := h S4 eS4
    refine ms_lengths C hK hP hD hS  g5 rfl dX7_add_197 (fun H locs hP hD hS => ?_)
    rw [← eS4] at hP hD
    refine lv_aload_n C.1 C.2.1 dX7_add_198 rfl (lv_at hl 0 rfl) ?_
    refine lv_iconst (v := 0) C.1 C.2.1 dX7_add_199 (by decide) ?_
    obtain ⟨S6, eS6⟩ : ∃ z : St, z = wr S4 3 0 (0 : Int32) := ⟨_, rfl⟩
    have h := h S6 eS6
    refine mp_isFound C hinX7 hK hP hD hS (by decide +kernel) zb_0 dX7_add_200 (fun H locs hP hD hS => ?_)
    rw [← eS6] at hP hD
    refine lv_iload C.1 C.2.1 dX7_add_203 (lv_at hl 2 rfl) ?_
    exact hret _ _ _ _ _ _ dX7_add_205 h hP hD hS
  have B166 : ∀ (x1 : Int32) (x7 : Int32) (x8 : Int32) (x9 : Int32) (x10 : Int32) (t1 : Int32) (t2 : Int32) (S : St) (H : Heap) (locs : List Loc) (ls : Array Slot), bX7_add_166 Q x1 x7 x8 x9 x10 t1 t2 S → va_P g vwCl (wM ct ad S) H → va_D A (wM ct ad S) → va_S A s.heap H locs → lv_has ls 11 [(0, .ref (ad 0)), (1, .int x1), (7, .int x7), (8, .int x8), (9, .int x9), (10, .int x10)] → W p l e R s m args below meth c H locs 0 0 QQ (F0 m 166 ls [.int t2, .int t1, .ref (ad 1)]) := by
    intro x1 x7 x8 x9 x10 t1 t2 S H locs ls h hP hD hS hl
    obtain ⟨g8, h⟩ := h
    obtain ⟨S7, eS7⟩ : ∃ z : St, z = wr S 1 (Int32.toNatClampNeg t1) t2 := ⟨_, rfl⟩
    have h := h S7 eS7
    refine ms_programs C hK hP hD hS  g8 rfl dX7_add_166 (fun H locs hP hD hS => ?_)
    rw [← eS7] at hP hD
    refine lv_aload_n C.1 C.2.1 dX7_add_167 rfl (lv_at hl 0 rfl) ?_
    refine mg_programs C hinX7 hK hP (by decide +kernel) dX7_add_168 ?_
    refine lv_iload C.1 C.2.1 dX7_add_171 (lv_at hl 4 rfl) ?_
    refine lv_iconst (v := 5) C.1 C.2.1 dX7_add_173 (by decide) ?_
    refine lv_iadd C.1 C.2.1 dX7_add_174 ?_
    refine lv_iload C.1 C.2.1 dX7_add_175 (lv_at hl 5 rfl) ?_
    refine lv_iconst (v := 4) C.1 C.2.1 dX7_add_177 (by decide) ?_
    refine lv_icmp_le (tgt := 186) C.1 C.2.1 dX7_add_178 (by decide) (fun c9 => ?_) (fun c9 => ?_)
    · have h := h.1 c9
      refine lv_iconst (v := 0) C.1 C.2.1 dX7_add_186 (by decide) ?_
      exact B187 x1 x8 (x9 + (5 : Int32)) (0 : Int32) S7 H locs ls h hP hD hS (lv_sub hl [0, 1, 3] rfl)
    · have h := h.2 c9
      refine lv_iload C.1 C.2.1 dX7_add_181 (lv_at hl 2 rfl) ?_
      refine lv_goto (tgt := 187) C.1 C.2.1 dX7_add_183 (by decide) ?_
      exact B187 x1 x8 (x9 + (5 : Int32)) x7 S7 H locs ls h hP hD hS (lv_sub hl [0, 1, 3] rfl)
  have B145 : ∀ (x1 : Int32) (x6 : Int32) (x7 : Int32) (x8 : Int32) (x9 : Int32) (x10 : Int32) (t1 : Int32) (t2 : Int32) (S : St) (H : Heap) (locs : List Loc) (ls : Array Slot), bX7_add_145 Q x1 x6 x7 x8 x9 x10 t1 t2 S → va_P g vwCl (wM ct ad S) H → va_D A (wM ct ad S) → va_S A s.heap H locs → lv_has ls 11 [(0, .ref (ad 0)), (1, .int x1), (6, .int x6), (7, .int x7), (8, .int x8), (9, .int x9), (10, .int x10)] → W p l e R s m args below meth c H locs 0 0 QQ (F0 m 145 ls [.int t2, .int t1, .ref (ad 1)]) := by
    intro x1 x6 x7 x8 x9 x10 t1 t2 S H locs ls h hP hD hS hl
    obtain ⟨g11, h⟩ := h
    obtain ⟨S10, eS10⟩ : ∃ z : St, z = wr S 1 (Int32.toNatClampNeg t1) t2 := ⟨_, rfl⟩
    have h := h S10 eS10
    refine ms_programs C hK hP hD hS  g11 rfl dX7_add_145 (fun H locs hP hD hS => ?_)
    rw [← eS10] at hP hD
    refine lv_aload_n C.1 C.2.1 dX7_add_146 rfl (lv_at hl 0 rfl) ?_
    refine mg_programs C hinX7 hK hP (by decide +kernel) dX7_add_147 ?_
    refine lv_iload C.1 C.2.1 dX7_add_150 (lv_at hl 5 rfl) ?_
    refine lv_iconst (v := 4) C.1 C.2.1 dX7_add_152 (by decide) ?_
    refine lv_iadd C.1 C.2.1 dX7_add_153 ?_
    refine lv_iload C.1 C.2.1 dX7_add_154 (lv_at hl 6 rfl) ?_
    refine lv_iconst (v := 3) C.1 C.2.1 dX7_add_156 (by decide) ?_
    refine lv_icmp_le (tgt := 165) C.1 C.2.1 dX7_add_157 (by decide) (fun c12 => ?_) (fun c12 => ?_)
    · have h := h.1 c12
      refine lv_iconst (v := 0) C.1 C.2.1 dX7_add_165 (by decide) ?_
      exact B166 x1 x7 x8 x9 x10 (x9 + (4 : Int32)) (0 : Int32) S10 H locs ls h hP hD hS (lv_sub hl [0, 1, 3, 4, 5, 6] rfl)
    · have h := h.2 c12
      refine lv_iload C.1 C.2.1 dX7_add_160 (lv_at hl 2 rfl) ?_
      refine lv_goto (tgt := 166) C.1 C.2.1 dX7_add_162 (by decide) ?_
      exact B166 x1 x7 x8 x9 x10 (x9 + (4 : Int32)) x6 S10 H locs ls h hP hD hS (lv_sub hl [0, 1, 3, 4, 5, 6] rfl)
  have B78 : ∀ (x1 : Int32) (x2 : Int32) (x3 : Int32) (x4 : Int32) (x5 : Int32) (x6 : Int32) (x7 : Int32) (x8 : Int32) (S : St) (H : Heap) (locs : List Loc) (ls : Array Slot), bX7_add_78 Q x1 x2 x3 x4 x5 x6 x7 x8 S → va_P g vwCl (wM ct ad S) H → va_D A (wM ct ad S) → va_S A s.heap H locs → lv_has ls 11 [(0, .ref (ad 0)), (1, .int x1), (2, .int x2), (3, .int x3), (4, .int x4), (5, .int x5), (6, .int x6), (7, .int x7), (8, .int x8)] → W p l e R s m args below meth c H locs 0 0 QQ (F0 m 78 ls []) := by
    intro x1 x2 x3 x4 x5 x6 x7 x8 S H locs ls h hP hD hS hl
    refine lv_bipush (v := 36) C.1 C.2.1 dX7_add_78 (by decide) ?_
    refine lv_iload_n C.1 C.2.1 dX7_add_80 rfl (lv_at hl 1 rfl) ?_
    refine lv_imul C.1 C.2.1 dX7_add_81 ?_
    refine lv_bipush (v := 6) C.1 C.2.1 dX7_add_82 (by decide) ?_
    refine lv_iload C.1 C.2.1 dX7_add_84 (lv_at hl 8 rfl) ?_
    refine lv_imul C.1 C.2.1 dX7_add_86 ?_
    refine lv_iadd C.1 C.2.1 dX7_add_87 ?_
    refine lv_topi (fun y13 ey13 => ?_)
    have h := h y13 ey13
    refine lv_istore (lv' := [(9, .int y13), (0, .ref (ad 0)), (1, .int x1), (2, .int x2), (3, .int x3), (4, .int x4), (5, .int x5), (6, .int x6), (7, .int x7), (8, .int x8)]) C.1 C.2.1 dX7_add_88 hl (by decide) rfl (fun ls hl => ?_)
    refine lv_iload_n C.1 C.2.1 dX7_add_90 rfl (lv_at hl 3 rfl) ?_
    refine g_callS (w := wM ct ad) C hK hN hA hP hD hS (mX7_numbersOf l g (mT ct) S H.size x2 _ h) (va_cwS 1 C.2.2.2.2 gX7_add_X7_numbersOf rfl rfl rfl (by decide +kernel) ⟨Nat.le_trans (by decide) hRf, Nat.le_trans (by decide) hRl⟩) rfl hl.1 rfl (Nat.le_of_ble_eq_true rfl) dX7_add_91 ⟨Nat.zero_le _, Nat.zero_le _⟩ (fun r14 H locs h hP hD hS => ?_)
    refine lv_istore (lv' := [(10, .int r14), (9, .int y13), (0, .ref (ad 0)), (1, .int x1), (2, .int x2), (3, .int x3), (4, .int x4), (5, .int x5), (6, .int x6), (7, .int x7), (8, .int x8)]) C.1 C.2.1 dX7_add_94 hl (by decide) rfl (fun ls hl => ?_)
    refine lv_aload_n C.1 C.2.1 dX7_add_96 rfl (lv_at hl 2 rfl) ?_
    refine mg_programs C hinX7 hK hP (by decide +kernel) dX7_add_97 ?_
    refine lv_iload C.1 C.2.1 dX7_add_100 (lv_at hl 1 rfl) ?_
    refine lv_iload_n C.1 C.2.1 dX7_add_102 rfl (lv_at hl 4 rfl) ?_
    obtain ⟨g16, h⟩ := h
    obtain ⟨S15, eS15⟩ : ∃ z : St, z = wr S 1 (Int32.toNatClampNeg y13) x2 := ⟨_, rfl⟩
    have h := h S15 eS15
    refine ms_programs C hK hP hD hS  g16 rfl dX7_add_103 (fun H locs hP hD hS => ?_)
    rw [← eS15] at hP hD
    refine lv_aload_n C.1 C.2.1 dX7_add_104 rfl (lv_at hl 2 rfl) ?_
    refine mg_programs C hinX7 hK hP (by decide +kernel) dX7_add_105 ?_
    refine lv_iload C.1 C.2.1 dX7_add_108 (lv_at hl 1 rfl) ?_
    refine lv_iconst (v := 1) C.1 C.2.1 dX7_add_110 (by decide) ?_
    refine lv_iadd C.1 C.2.1 dX7_add_111 ?_
    refine lv_iload_n C.1 C.2.1 dX7_add_112 rfl (lv_at hl 5 rfl) ?_
    obtain ⟨g18, h⟩ := h
    obtain ⟨S17, eS17⟩ : ∃ z : St, z = wr S15 1 (Int32.toNatClampNeg (y13 + (1 : Int32))) x3 := ⟨_, rfl⟩
    have h := h S17 eS17
    refine ms_programs C hK hP hD hS  g18 rfl dX7_add_113 (fun H locs hP hD hS => ?_)
    rw [← eS17] at hP hD
    refine lv_aload_n C.1 C.2.1 dX7_add_114 rfl (lv_at hl 2 rfl) ?_
    refine mg_programs C hinX7 hK hP (by decide +kernel) dX7_add_115 ?_
    refine lv_iload C.1 C.2.1 dX7_add_118 (lv_at hl 1 rfl) ?_
    refine lv_iconst (v := 2) C.1 C.2.1 dX7_add_120 (by decide) ?_
    refine lv_iadd C.1 C.2.1 dX7_add_121 ?_
    refine lv_iload C.1 C.2.1 dX7_add_122 (lv_at hl 6 rfl) ?_
    obtain ⟨g20, h⟩ := h
    obtain ⟨S19, eS19⟩ : ∃ z : St, z = wr S17 1 (Int32.toNatClampNeg (y13 + (2 : Int32))) x4 := ⟨_, rfl⟩
    have h := h S19 eS19
    refine ms_programs C hK hP hD hS  g20 rfl dX7_add_124 (fun H locs hP hD hS => ?_)
    rw [← eS19] at hP hD
    refine lv_aload_n C.1 C.2.1 dX7_add_125 rfl (lv_at hl 2 rfl) ?_
    refine mg_programs C hinX7 hK hP (by decide +kernel) dX7_add_126 ?_
    refine lv_iload C.1 C.2.1 dX7_add_129 (lv_at hl 1 rfl) ?_
    refine lv_iconst (v := 3) C.1 C.2.1 dX7_add_131 (by decide) ?_
    refine lv_iadd C.1 C.2.1 dX7_add_132 ?_
    refine lv_iload C.1 C.2.1 dX7_add_133 (lv_at hl 0 rfl) ?_
    refine lv_iconst (v := 2) C.1 C.2.1 dX7_add_135 (by decide) ?_
    refine lv_icmp_le (tgt := 144) C.1 C.2.1 dX7_add_136 (by decide) (fun c21 => ?_) (fun c21 => ?_)
    · have h := h.1 c21
      refine lv_iconst (v := 0) C.1 C.2.1 dX7_add_144 (by decide) ?_
      exact B145 x1 x6 x7 x8 y13 r14 (y13 + (3 : Int32)) (0 : Int32) S19 H locs ls h hP hD hS (lv_sub hl [2, 3, 8, 9, 10, 1, 0] rfl)
    · have h := h.2 c21
      refine lv_iload C.1 C.2.1 dX7_add_139 (lv_at hl 7 rfl) ?_
      refine lv_goto (tgt := 145) C.1 C.2.1 dX7_add_141 (by decide) ?_
      exact B145 x1 x6 x7 x8 y13 r14 (y13 + (3 : Int32)) x5 S19 H locs ls h hP hD hS (lv_sub hl [2, 3, 8, 9, 10, 1, 0] rfl)
  have B59 : ∀ (x1 : Int32) (x2 : Int32) (x3 : Int32) (x4 : Int32) (x5 : Int32) (x6 : Int32) (x7 : Int32) (x8 : Int32) (S : St) (H : Heap) (locs : List Loc) (ls : Array Slot), bX7_add_59 Q x1 x2 x3 x4 x5 x6 x7 x8 S → va_P g vwCl (wM ct ad S) H → va_D A (wM ct ad S) → va_S A s.heap H locs → lv_has ls 11 [(0, .ref (ad 0)), (1, .int x1), (2, .int x2), (3, .int x3), (4, .int x4), (5, .int x5), (6, .int x6), (7, .int x7), (8, .int x8)] → W p l e R s m args below meth c H locs 0 0 QQ (F0 m 59 ls []) := by
    intro x1 x2 x3 x4 x5 x6 x7 x8 S H locs ls h hP hD hS hl
    refine lv_iload_n C.1 C.2.1 dX7_add_59 rfl (lv_at hl 2 rfl) ?_
    refine g_callS (w := wM ct ad) C hK hN hA hP hD hS (mX7_isReading l g (mT ct) S H.size x2 _ h) (va_cwS 1 C.2.2.2.2 gX7_add_X7_isReading rfl rfl rfl (by decide +kernel) ⟨Nat.le_trans (by decide) hRf, Nat.le_trans (by decide) hRl⟩) rfl hl.1 rfl (Nat.le_of_ble_eq_true rfl) dX7_add_60 ⟨Nat.zero_le _, Nat.zero_le _⟩ (fun r22 H locs h hP hD hS => ?_)
    refine lv_if_eq (tgt := 78) C.1 C.2.1 dX7_add_63 (by decide) (fun c26 => ?_) (fun c26 => ?_)
    · have h := h.1 c26
      exact B78 x1 x2 x3 x4 x5 x6 x7 x8 S H locs ls h hP hD hS (lv_sub hl [0, 1, 2, 3, 4, 5, 6, 7, 8] rfl)
    · have h := h.2 c26
      refine lv_aload_n C.1 C.2.1 dX7_add_66 rfl (lv_at hl 0 rfl) ?_
      refine lv_iconst (v := 2) C.1 C.2.1 dX7_add_67 (by decide) ?_
      refine g_callVi (w := wM ct ad) C hK hN hA hP hD hS (mX7_instructions l g ct ad H.size S (2 : Int32)  _ h) (cwV 1 C.2.2.2.2 gX7_add_X7_instructions rfl rfl rfl (by decide +kernel) ⟨Nat.le_trans (by decide) hRf, Nat.le_trans (by decide) hRl⟩) (va_recv hK hP (ci := 7) (q0 := 0) rfl rfl) rfl hl.1 rfl (Nat.le_of_ble_eq_true rfl) dX7_add_68 ⟨Nat.zero_le _, Nat.zero_le _⟩ (fun r24 S23 H locs h hP hD hS => ?_)
      refine lv_iconst (v := 4) C.1 C.2.1 dX7_add_71 (by decide) ?_
      refine lv_icmp_ne (tgt := 78) C.1 C.2.1 dX7_add_72 (by decide) (fun c25 => ?_) (fun c25 => ?_)
      · have h := h.1 c25
        exact B78 x1 x2 x3 x4 x5 x6 x7 x8 S23 H locs ls h hP hD hS (lv_sub hl [0, 1, 2, 3, 4, 5, 6, 7, 8] rfl)
      · have h := h.2 c25
        exact B75  S23 H locs ls h hP hD hS (lv_sub hl [0] rfl)
  refine lv_iload_n C.1 C.2.1 dX7_add_0 rfl (lv_at hl 1 rfl) ?_
  refine lv_iconst (v := 0) C.1 C.2.1 dX7_add_1 (by decide) ?_
  refine lv_iconst (v := 3) C.1 C.2.1 dX7_add_2 (by decide) ?_
  refine g_callS (w := wM ct ad) C hK hN hA hP hD hS (mX7_in l g (mT ct) S H.size x1 (0 : Int32) (3 : Int32) _ h) (va_cwS 3 C.2.2.2.2 gX7_add_X7_in rfl rfl rfl (by decide +kernel) ⟨Nat.le_trans (by decide) hRf, Nat.le_trans (by decide) hRl⟩) rfl hl.1 rfl (Nat.le_of_ble_eq_true rfl) dX7_add_3 ⟨Nat.zero_le _, Nat.zero_le _⟩ (fun r27 H locs h hP hD hS => ?_)
  refine lv_if_eq (tgt := 25) C.1 C.2.1 dX7_add_6 (by decide) (fun c37 => ?_) (fun c37 => ?_)
  · have h := h.1 c37
    exact B25  S H locs ls h hP hD hS (lv_sub hl [0] rfl)
  · have h := h.2 c37
    refine lv_iload_n C.1 C.2.1 dX7_add_9 rfl (lv_at hl 2 rfl) ?_
    refine lv_iload_n C.1 C.2.1 dX7_add_10 rfl (lv_at hl 3 rfl) ?_
    refine lv_iload C.1 C.2.1 dX7_add_11 (lv_at hl 4 rfl) ?_
    refine lv_iload C.1 C.2.1 dX7_add_13 (lv_at hl 5 rfl) ?_
    refine lv_iload C.1 C.2.1 dX7_add_15 (lv_at hl 6 rfl) ?_
    refine lv_iload C.1 C.2.1 dX7_add_17 (lv_at hl 7 rfl) ?_
    refine g_callS (w := wM ct ad) C hK hN hA hP hD hS (mX7_isGood l g (mT ct) S H.size x2 x3 x4 x5 x6 x7 _ h) (va_cwS 6 C.2.2.2.2 gX7_add_X7_isGood rfl rfl rfl (by decide +kernel) ⟨Nat.le_trans (by decide) hRf, Nat.le_trans (by decide) hRl⟩) rfl hl.1 rfl (Nat.le_of_ble_eq_true rfl) dX7_add_19 ⟨Nat.zero_le _, Nat.zero_le _⟩ (fun r28 H locs h hP hD hS => ?_)
    refine lv_if_ne (tgt := 28) C.1 C.2.1 dX7_add_22 (by decide) (fun c36 => ?_) (fun c36 => ?_)
    · have h := h.1 c36
      refine lv_aload_n C.1 C.2.1 dX7_add_28 rfl (lv_at hl 0 rfl) ?_
      refine mg_lengths C hinX7 hK hP (by decide +kernel) dX7_add_29 ?_
      refine lv_iload_n C.1 C.2.1 dX7_add_32 rfl (lv_at hl 1 rfl) ?_
      obtain ⟨g29, h⟩ := h
      refine ma_lengths C hK hP g29  rfl dX7_add_33 ?_
      refine lv_topi (fun y30 ey30 => ?_)
      have h := h y30 ey30
      refine lv_istore (lv' := [(8, .int y30), (0, .ref (ad 0)), (1, .int x1), (2, .int x2), (3, .int x3), (4, .int x4), (5, .int x5), (6, .int x6), (7, .int x7)]) C.1 C.2.1 dX7_add_34 hl (by decide) rfl (fun ls hl => ?_)
      refine lv_iload C.1 C.2.1 dX7_add_36 (lv_at hl 0 rfl) ?_
      refine lv_bipush (v := 6) C.1 C.2.1 dX7_add_38 (by decide) ?_
      refine lv_icmp_eq (tgt := 75) C.1 C.2.1 dX7_add_40 (by decide) (fun c35 => ?_) (fun c35 => ?_)
      · have h := h.1 c35
        exact B75  S H locs ls h hP hD hS (lv_sub hl [1] rfl)
      · have h := h.2 c35
        refine lv_iload_n C.1 C.2.1 dX7_add_43 rfl (lv_at hl 3 rfl) ?_
        refine lv_bipush (v := 6) C.1 C.2.1 dX7_add_44 (by decide) ?_
        refine lv_icmp_ge (tgt := 59) C.1 C.2.1 dX7_add_46 (by decide) (fun c34 => ?_) (fun c34 => ?_)
        · have h := h.1 c34
          exact B59 x1 x2 x3 x4 x5 x6 x7 y30 S H locs ls h hP hD hS (lv_sub hl [1, 2, 3, 4, 5, 6, 7, 8, 0] rfl)
        · have h := h.2 c34
          refine lv_aload_n C.1 C.2.1 dX7_add_49 rfl (lv_at hl 1 rfl) ?_
          refine lv_iconst (v := 1) C.1 C.2.1 dX7_add_50 (by decide) ?_
          refine g_callVi (w := wM ct ad) C hK hN hA hP hD hS (mX7_instructions l g ct ad H.size S (1 : Int32)  _ h) (cwV 1 C.2.2.2.2 gX7_add_X7_instructions rfl rfl rfl (by decide +kernel) ⟨Nat.le_trans (by decide) hRf, Nat.le_trans (by decide) hRl⟩) (va_recv hK hP (ci := 7) (q0 := 0) rfl rfl) rfl hl.1 rfl (Nat.le_of_ble_eq_true rfl) dX7_add_51 ⟨Nat.zero_le _, Nat.zero_le _⟩ (fun r32 S31 H locs h hP hD hS => ?_)
          refine lv_bipush (v := 6) C.1 C.2.1 dX7_add_54 (by decide) ?_
          refine lv_icmp_eq (tgt := 75) C.1 C.2.1 dX7_add_56 (by decide) (fun c33 => ?_) (fun c33 => ?_)
          · have h := h.1 c33
            exact B75  S31 H locs ls h hP hD hS (lv_sub hl [1] rfl)
          · have h := h.2 c33
            exact B59 x1 x2 x3 x4 x5 x6 x7 y30 S31 H locs ls h hP hD hS (lv_sub hl [1, 2, 3, 4, 5, 6, 7, 8, 0] rfl)
    · have h := h.2 c36
      exact B25  S H locs ls h hP hD hS (lv_sub hl [0] rfl)
theorem mX7_add (l : Launch) (g : va_G) (ct : Nat → ClassId) (ad : Nat → Nat) (sz : Nat) (S : St) (x1 : Int32) (x2 : Int32) (x3 : Int32) (x4 : Int32) (x5 : Int32) (x6 : Int32) (x7 : Int32) (Q : Int32 → St → Prop) (h : pX7_add x1 x2 x3 x4 x5 x6 x7 S Q) : Met l yX7_add wsX7_add ({ frames := 3, cells := 0, slots := 0, locals := 68 }) (gPc g (mT ct) (wM ct ad S) sz [.ref (ad 0), .int x1, .int x2, .int x3, .int x4, .int x5, .int x6, .int x7]) (va_Qi Q (gB g (mT ct) (wM ct ad) (va_A (wM ct ad S) sz)) (va_A (wM ct ad S) sz)) 0 0 (va_A (wM ct ad S) sz) :=
  g_metI (w := wM ct ad) (cc := cX7_add) (maxL := 11) (by decide) rfl rfl (Nat.le_of_ble_eq_true rfl) rfl (fun p e s m args below meth c QQ A C hK hN hA hret H locs ls hP hD hS hl => kX7_add C hK hN hA (Nat.le_refl _) (Nat.le_refl _) Q hret x1 x2 x3 x4 x5 x6 x7 S h H locs ls hP hD hS hl)

def bX7_choose_41 (Q : Int32 → St → Prop) (S : St) : Prop :=
  (∀ S1 : St, S1 = wr S 10 0 ((S.1 10 0) + (1 : Int32)) → (vp_in ((S1.1 10 0) - (1 : Int32)) 64 ∧ Q (S1.1 7 (Int32.toNatClampNeg ((S1.1 10 0) - (1 : Int32)))) S1))
def pX7_choose (x1 : Int32) (S : St) (Q : Int32 → St → Prop) : Prop :=
  ((¬ (S.1 10 0) = (S.1 9 0) → bX7_choose_41 Q  S) ∧ ((S.1 10 0) = (S.1 9 0) → (vp_in (S.1 9 0) 64 ∧ ∀ S3 : St, S3 = wr S 7 (Int32.toNatClampNeg (S.1 9 0)) (0 : Int32) → (vp_in (S3.1 9 0) 64 ∧ ∀ S5 : St, S5 = wr S3 8 (Int32.toNatClampNeg (S3.1 9 0)) x1 → (∀ S7 : St, S7 = wr S5 9 0 ((S5.1 9 0) + (1 : Int32)) → bX7_choose_41 Q  S7)))))
set_option maxHeartbeats 40000000 in
set_option maxRecDepth 100000 in
theorem kX7_choose {p : Program} {l : Launch} {e : Env} {R : Room} {s : State} {m : MethodId} {args : Array Value} {below : List Frame} {meth : Method} {c : Code} {QQ : State → Prop} {g : va_G} {ct : Nat → ClassId} {ad : Nat → Nat} {A : Nat → Prop} (C : CallFix p m c cX7_choose 2 s args wsX7_choose RX7) (hK : va_K g vwCl (mT ct) s) (hN : xN s) (hA : ∀ q, s.heap.size ≤ q → A q) (hRf : 0 ≤ R.frames) (hRl : 0 ≤ R.locals) (Q : Int32 → St → Prop) (hret : ∀ (pc : Nat) (r : Int32) (S : St) (H : Heap) (locs : List Loc) (ls : Array Slot), decode cX7_choose pc = .ok (.ireturn, 1) → Q r S → va_P g vwCl (wM ct ad S) H → va_D A (wM ct ad S) → va_S A s.heap H locs → W p l e R s m args below meth c H locs 0 0 QQ (F0 m pc ls [.int r])) (x1 : Int32) (S : St) (h : pX7_choose x1 S Q) (H : Heap) (locs : List Loc) (ls : Array Slot) (hP : va_P g vwCl (wM ct ad S) H) (hD : va_D A (wM ct ad S)) (hS : va_S A s.heap H locs) (hl : lv_has ls 2 [(0, .ref (ad 0)), (1, .int x1)]) : W p l e R s m args below meth c H locs 0 0 QQ (F0 m 0 ls []) := by
  have hinX7 : ∀ w ∈ wsX70, w ∈ wsX7_choose := by decide +kernel
  have B41 : ∀ (S : St) (H : Heap) (locs : List Loc) (ls : Array Slot), bX7_choose_41 Q S → va_P g vwCl (wM ct ad S) H → va_D A (wM ct ad S) → va_S A s.heap H locs → lv_has ls 2 [(0, .ref (ad 0))] → W p l e R s m args below meth c H locs 0 0 QQ (F0 m 41 ls []) := by
    intro S H locs ls h hP hD hS hl
    refine lv_aload_n C.1 C.2.1 dX7_choose_41 rfl (lv_at hl 0 rfl) ?_
    refine lv_dup C.1 C.2.1 dX7_choose_42 rfl ?_
    refine mg_told C hinX7 hK hP (by decide +kernel) dX7_choose_43 ?_
    refine lv_iconst (v := 1) C.1 C.2.1 dX7_choose_46 (by decide) ?_
    refine lv_iadd C.1 C.2.1 dX7_choose_47 ?_
    obtain ⟨S1, eS1⟩ : ∃ z : St, z = wr S 10 0 ((S.1 10 0) + (1 : Int32)) := ⟨_, rfl⟩
    have h := h S1 eS1
    refine mp_told C hinX7 hK hP hD hS (by decide +kernel) dX7_choose_48 (fun H locs hP hD hS => ?_)
    rw [← eS1] at hP hD
    refine lv_aload_n C.1 C.2.1 dX7_choose_51 rfl (lv_at hl 0 rfl) ?_
    refine mg_choice C hinX7 hK hP (by decide +kernel) dX7_choose_52 ?_
    refine lv_aload_n C.1 C.2.1 dX7_choose_55 rfl (lv_at hl 0 rfl) ?_
    refine mg_told C hinX7 hK hP (by decide +kernel) dX7_choose_56 ?_
    refine lv_iconst (v := 1) C.1 C.2.1 dX7_choose_59 (by decide) ?_
    refine lv_isub C.1 C.2.1 dX7_choose_60 ?_
    obtain ⟨g2, h⟩ := h
    refine ma_choice C hK hP g2  rfl dX7_choose_61 ?_
    exact hret _ _ _ _ _ _ dX7_choose_62 h hP hD hS
  refine lv_aload_n C.1 C.2.1 dX7_choose_0 rfl (lv_at hl 0 rfl) ?_
  refine mg_told C hinX7 hK hP (by decide +kernel) dX7_choose_1 ?_
  refine lv_aload_n C.1 C.2.1 dX7_choose_4 rfl (lv_at hl 0 rfl) ?_
  refine mg_choices C hinX7 hK hP (by decide +kernel) dX7_choose_5 ?_
  refine lv_icmp_ne (tgt := 41) C.1 C.2.1 dX7_choose_8 (by decide) (fun c8 => ?_) (fun c8 => ?_)
  · have h := h.1 c8
    exact B41  S H locs ls h hP hD hS (lv_sub hl [0] rfl)
  · have h := h.2 c8
    refine lv_aload_n C.1 C.2.1 dX7_choose_11 rfl (lv_at hl 0 rfl) ?_
    refine mg_choice C hinX7 hK hP (by decide +kernel) dX7_choose_12 ?_
    refine lv_aload_n C.1 C.2.1 dX7_choose_15 rfl (lv_at hl 0 rfl) ?_
    refine mg_choices C hinX7 hK hP (by decide +kernel) dX7_choose_16 ?_
    refine lv_iconst (v := 0) C.1 C.2.1 dX7_choose_19 (by decide) ?_
    obtain ⟨g4, h⟩ := h
    obtain ⟨S3, eS3⟩ : ∃ z : St, z = wr S 7 (Int32.toNatClampNeg (S.1 9 0)) (0 : Int32) := ⟨_, rfl⟩
    have h := h S3 eS3
    refine ms_choice C hK hP hD hS  g4 rfl dX7_choose_20 (fun H locs hP hD hS => ?_)
    rw [← eS3] at hP hD
    refine lv_aload_n C.1 C.2.1 dX7_choose_21 rfl (lv_at hl 0 rfl) ?_
    refine mg_options C hinX7 hK hP (by decide +kernel) dX7_choose_22 ?_
    refine lv_aload_n C.1 C.2.1 dX7_choose_25 rfl (lv_at hl 0 rfl) ?_
    refine mg_choices C hinX7 hK hP (by decide +kernel) dX7_choose_26 ?_
    refine lv_iload_n C.1 C.2.1 dX7_choose_29 rfl (lv_at hl 1 rfl) ?_
    obtain ⟨g6, h⟩ := h
    obtain ⟨S5, eS5⟩ : ∃ z : St, z = wr S3 8 (Int32.toNatClampNeg (S3.1 9 0)) x1 := ⟨_, rfl⟩
    have h := h S5 eS5
    refine ms_options C hK hP hD hS  g6 rfl dX7_choose_30 (fun H locs hP hD hS => ?_)
    rw [← eS5] at hP hD
    refine lv_aload_n C.1 C.2.1 dX7_choose_31 rfl (lv_at hl 0 rfl) ?_
    refine lv_dup C.1 C.2.1 dX7_choose_32 rfl ?_
    refine mg_choices C hinX7 hK hP (by decide +kernel) dX7_choose_33 ?_
    refine lv_iconst (v := 1) C.1 C.2.1 dX7_choose_36 (by decide) ?_
    refine lv_iadd C.1 C.2.1 dX7_choose_37 ?_
    obtain ⟨S7, eS7⟩ : ∃ z : St, z = wr S5 9 0 ((S5.1 9 0) + (1 : Int32)) := ⟨_, rfl⟩
    have h := h S7 eS7
    refine mp_choices C hinX7 hK hP hD hS (by decide +kernel) dX7_choose_38 (fun H locs hP hD hS => ?_)
    rw [← eS7] at hP hD
    exact B41  S7 H locs ls h hP hD hS (lv_sub hl [0] rfl)
theorem mX7_choose (l : Launch) (g : va_G) (ct : Nat → ClassId) (ad : Nat → Nat) (sz : Nat) (S : St) (x1 : Int32) (Q : Int32 → St → Prop) (h : pX7_choose x1 S Q) : Met l yX7_choose wsX7_choose ({ frames := 0, cells := 0, slots := 0, locals := 0 }) (gPc g (mT ct) (wM ct ad S) sz [.ref (ad 0), .int x1]) (va_Qi Q (gB g (mT ct) (wM ct ad) (va_A (wM ct ad S) sz)) (va_A (wM ct ad S) sz)) 0 0 (va_A (wM ct ad S) sz) :=
  g_metI (w := wM ct ad) (cc := cX7_choose) (maxL := 2) (by decide) rfl rfl (Nat.le_of_ble_eq_true rfl) rfl (fun p e s m args below meth c QQ A C hK hN hA hret H locs ls hP hD hS hl => kX7_choose C hK hN hA (Nat.le_refl _) (Nat.le_refl _) Q hret x1 S h H locs ls hP hD hS hl)

def bX7_nextWay_47 (Q : Int32 → St → Prop) (S : St) : Prop :=
  ((¬ (S.1 9 0) = 0 → (vp_in ((S.1 9 0) - (1 : Int32)) 64 ∧ (vp_in ((S.1 9 0) - (1 : Int32)) 64 ∧ ∀ S2 : St, S2 = wr S 7 (Int32.toNatClampNeg ((S.1 9 0) - (1 : Int32))) ((S.1 7 (Int32.toNatClampNeg ((S.1 9 0) - (1 : Int32)))) + (1 : Int32)) → Q (1 : Int32) S2))) ∧ ((S.1 9 0) = 0 → Q (0 : Int32) S))
def bX7_nextWay_0 (k0 : St → Prop) (Q : Int32 → St → Prop) (S : St) : Prop :=
  (((S.1 9 0) ≤ 0 → bX7_nextWay_47 Q  S) ∧ (¬ ((S.1 9 0) ≤ 0) → (vp_in ((S.1 9 0) - (1 : Int32)) 64 ∧ (vp_in ((S.1 9 0) - (1 : Int32)) 64 ∧ ((¬ (S.1 7 (Int32.toNatClampNeg ((S.1 9 0) - (1 : Int32)))) = ((S.1 8 (Int32.toNatClampNeg ((S.1 9 0) - (1 : Int32)))) - (1 : Int32)) → bX7_nextWay_47 Q  S) ∧ ((S.1 7 (Int32.toNatClampNeg ((S.1 9 0) - (1 : Int32)))) = ((S.1 8 (Int32.toNatClampNeg ((S.1 9 0) - (1 : Int32)))) - (1 : Int32)) → (∀ S7 : St, S7 = wr S 9 0 ((S.1 9 0) - (1 : Int32)) → k0  S7)))))))
def pX7_nextWay (S : St) (Q : Int32 → St → Prop) : Prop :=
  (∃ N : Nat, itr (F := St → Prop) (fun _ => False) (fun k0 S => bX7_nextWay_0 k0 Q S) N  S)
set_option maxHeartbeats 40000000 in
set_option maxRecDepth 100000 in
theorem kX7_nextWay {p : Program} {l : Launch} {e : Env} {R : Room} {s : State} {m : MethodId} {args : Array Value} {below : List Frame} {meth : Method} {c : Code} {QQ : State → Prop} {g : va_G} {ct : Nat → ClassId} {ad : Nat → Nat} {A : Nat → Prop} (C : CallFix p m c cX7_nextWay 1 s args wsX7_nextWay RX7) (hK : va_K g vwCl (mT ct) s) (hN : xN s) (hA : ∀ q, s.heap.size ≤ q → A q) (hRf : 0 ≤ R.frames) (hRl : 0 ≤ R.locals) (Q : Int32 → St → Prop) (hret : ∀ (pc : Nat) (r : Int32) (S : St) (H : Heap) (locs : List Loc) (ls : Array Slot), decode cX7_nextWay pc = .ok (.ireturn, 1) → zb r → Q r S → va_P g vwCl (wM ct ad S) H → va_D A (wM ct ad S) → va_S A s.heap H locs → W p l e R s m args below meth c H locs 0 0 QQ (F0 m pc ls [.int r])) (S : St) (h : pX7_nextWay S Q) (H : Heap) (locs : List Loc) (ls : Array Slot) (hP : va_P g vwCl (wM ct ad S) H) (hD : va_D A (wM ct ad S)) (hS : va_S A s.heap H locs) (hl : lv_has ls 1 [(0, .ref (ad 0))]) : W p l e R s m args below meth c H locs 0 0 QQ (F0 m 0 ls []) := by
  have hinX7 : ∀ w ∈ wsX70, w ∈ wsX7_nextWay := by decide +kernel
  have B47 : ∀ (S : St) (H : Heap) (locs : List Loc) (ls : Array Slot), bX7_nextWay_47 Q S → va_P g vwCl (wM ct ad S) H → va_D A (wM ct ad S) → va_S A s.heap H locs → lv_has ls 1 [(0, .ref (ad 0))] → W p l e R s m args below meth c H locs 0 0 QQ (F0 m 47 ls []) := by
    intro S H locs ls h hP hD hS hl
    refine lv_aload_n C.1 C.2.1 dX7_nextWay_47 rfl (lv_at hl 0 rfl) ?_
    refine mg_choices C hinX7 hK hP (by decide +kernel) dX7_nextWay_48 ?_
    refine lv_if_ne (tgt := 56) C.1 C.2.1 dX7_nextWay_51 (by decide) (fun c4 => ?_) (fun c4 => ?_)
    · have h := h.1 c4
      refine lv_aload_n C.1 C.2.1 dX7_nextWay_56 rfl (lv_at hl 0 rfl) ?_
      refine mg_choice C hinX7 hK hP (by decide +kernel) dX7_nextWay_57 ?_
      refine lv_aload_n C.1 C.2.1 dX7_nextWay_60 rfl (lv_at hl 0 rfl) ?_
      refine mg_choices C hinX7 hK hP (by decide +kernel) dX7_nextWay_61 ?_
      refine lv_iconst (v := 1) C.1 C.2.1 dX7_nextWay_64 (by decide) ?_
      refine lv_isub C.1 C.2.1 dX7_nextWay_65 ?_
      refine lv_dup2_11 C.1 C.2.1 dX7_nextWay_66 rfl rfl ?_
      obtain ⟨g1, h⟩ := h
      refine ma_choice C hK hP g1  rfl dX7_nextWay_67 ?_
      refine lv_iconst (v := 1) C.1 C.2.1 dX7_nextWay_68 (by decide) ?_
      refine lv_iadd C.1 C.2.1 dX7_nextWay_69 ?_
      obtain ⟨g3, h⟩ := h
      obtain ⟨S2, eS2⟩ : ∃ z : St, z = wr S 7 (Int32.toNatClampNeg ((S.1 9 0) - (1 : Int32))) ((S.1 7 (Int32.toNatClampNeg ((S.1 9 0) - (1 : Int32)))) + (1 : Int32)) := ⟨_, rfl⟩
      have h := h S2 eS2
      refine ms_choice C hK hP hD hS  g3 rfl dX7_nextWay_70 (fun H locs hP hD hS => ?_)
      rw [← eS2] at hP hD
      refine lv_iconst (v := 1) C.1 C.2.1 dX7_nextWay_71 (by decide) ?_
      exact hret _ _ _ _ _ _ dX7_nextWay_72 zb_1 h hP hD hS
    · have h := h.2 c4
      refine lv_iconst (v := 0) C.1 C.2.1 dX7_nextWay_54 (by decide) ?_
      exact hret _ _ _ _ _ _ dX7_nextWay_55 zb_0 h hP hD hS
  have B0 : ∀ (k0 : St → Prop) (hk0 : ∀ (S : St) (H : Heap) (locs : List Loc) (ls : Array Slot), k0 S → va_P g vwCl (wM ct ad S) H → va_D A (wM ct ad S) → va_S A s.heap H locs → lv_has ls 1 [(0, .ref (ad 0))] → W p l e R s m args below meth c H locs 0 0 QQ (F0 m 0 ls [])) (S : St) (H : Heap) (locs : List Loc) (ls : Array Slot), bX7_nextWay_0 k0 Q S → va_P g vwCl (wM ct ad S) H → va_D A (wM ct ad S) → va_S A s.heap H locs → lv_has ls 1 [(0, .ref (ad 0))] → W p l e R s m args below meth c H locs 0 0 QQ (F0 m 0 ls []) := by
    intro k0 hk0 S H locs ls h hP hD hS hl
    refine lv_aload_n C.1 C.2.1 dX7_nextWay_0 rfl (lv_at hl 0 rfl) ?_
    refine mg_choices C hinX7 hK hP (by decide +kernel) dX7_nextWay_1 ?_
    refine lv_if_le (tgt := 47) C.1 C.2.1 dX7_nextWay_4 (by decide) (fun c9 => ?_) (fun c9 => ?_)
    · have h := h.1 c9
      exact B47  S H locs ls h hP hD hS (lv_sub hl [0] rfl)
    · have h := h.2 c9
      refine lv_aload_n C.1 C.2.1 dX7_nextWay_7 rfl (lv_at hl 0 rfl) ?_
      refine mg_choice C hinX7 hK hP (by decide +kernel) dX7_nextWay_8 ?_
      refine lv_aload_n C.1 C.2.1 dX7_nextWay_11 rfl (lv_at hl 0 rfl) ?_
      refine mg_choices C hinX7 hK hP (by decide +kernel) dX7_nextWay_12 ?_
      refine lv_iconst (v := 1) C.1 C.2.1 dX7_nextWay_15 (by decide) ?_
      refine lv_isub C.1 C.2.1 dX7_nextWay_16 ?_
      obtain ⟨g5, h⟩ := h
      refine ma_choice C hK hP g5  rfl dX7_nextWay_17 ?_
      refine lv_aload_n C.1 C.2.1 dX7_nextWay_18 rfl (lv_at hl 0 rfl) ?_
      refine mg_options C hinX7 hK hP (by decide +kernel) dX7_nextWay_19 ?_
      refine lv_aload_n C.1 C.2.1 dX7_nextWay_22 rfl (lv_at hl 0 rfl) ?_
      refine mg_choices C hinX7 hK hP (by decide +kernel) dX7_nextWay_23 ?_
      refine lv_iconst (v := 1) C.1 C.2.1 dX7_nextWay_26 (by decide) ?_
      refine lv_isub C.1 C.2.1 dX7_nextWay_27 ?_
      obtain ⟨g6, h⟩ := h
      refine ma_options C hK hP g6  rfl dX7_nextWay_28 ?_
      refine lv_iconst (v := 1) C.1 C.2.1 dX7_nextWay_29 (by decide) ?_
      refine lv_isub C.1 C.2.1 dX7_nextWay_30 ?_
      refine lv_icmp_ne (tgt := 47) C.1 C.2.1 dX7_nextWay_31 (by decide) (fun c8 => ?_) (fun c8 => ?_)
      · have h := h.1 c8
        exact B47  S H locs ls h hP hD hS (lv_sub hl [0] rfl)
      · have h := h.2 c8
        refine lv_aload_n C.1 C.2.1 dX7_nextWay_34 rfl (lv_at hl 0 rfl) ?_
        refine lv_dup C.1 C.2.1 dX7_nextWay_35 rfl ?_
        refine mg_choices C hinX7 hK hP (by decide +kernel) dX7_nextWay_36 ?_
        refine lv_iconst (v := 1) C.1 C.2.1 dX7_nextWay_39 (by decide) ?_
        refine lv_isub C.1 C.2.1 dX7_nextWay_40 ?_
        obtain ⟨S7, eS7⟩ : ∃ z : St, z = wr S 9 0 ((S.1 9 0) - (1 : Int32)) := ⟨_, rfl⟩
        have h := h S7 eS7
        refine mp_choices C hinX7 hK hP hD hS (by decide +kernel) dX7_nextWay_41 (fun H locs hP hD hS => ?_)
        rw [← eS7] at hP hD
        refine lv_goto (tgt := 0) C.1 C.2.1 dX7_nextWay_44 (by decide) ?_
        exact hk0  S7 H locs ls h hP hD hS (lv_sub hl [0] rfl)
  have L0 : ∀ (N : Nat) (S : St) (H : Heap) (locs : List Loc) (ls : Array Slot), itr (F := St → Prop) (fun _ => False) (fun k0 S => bX7_nextWay_0 k0 Q S) N S → va_P g vwCl (wM ct ad S) H → va_D A (wM ct ad S) → va_S A s.heap H locs → lv_has ls 1 [(0, .ref (ad 0))] → W p l e R s m args below meth c H locs 0 0 QQ (F0 m 0 ls []) := by
    intro N
    induction N with
    | zero => intro S H locs ls h hP hD hS hl; exact False.elim h
    | succ N ih => intro S H locs ls h hP hD hS hl; exact B0  (itr (F := St → Prop) (fun _ => False) (fun k0 S => bX7_nextWay_0 k0 Q S) N) ih  S H locs ls h  hP hD hS hl
  obtain ⟨N, h⟩ := h
  exact L0 N  S H locs ls h hP hD hS (lv_sub hl [0] rfl)
theorem mX7_nextWay (l : Launch) (g : va_G) (ct : Nat → ClassId) (ad : Nat → Nat) (sz : Nat) (S : St) (Q : Int32 → St → Prop) (h : pX7_nextWay S Q) : Met l yX7_nextWay wsX7_nextWay ({ frames := 0, cells := 0, slots := 0, locals := 0 }) (gPc g (mT ct) (wM ct ad S) sz [.ref (ad 0)]) (va_Qi Q (gB g (mT ct) (wM ct ad) (va_A (wM ct ad S) sz)) (va_A (wM ct ad S) sz)) 0 0 (va_A (wM ct ad S) sz) :=
  g_metZ (w := wM ct ad) (cc := cX7_nextWay) (maxL := 1) (by decide) rfl rfl (Nat.le_of_ble_eq_true rfl) rfl (fun p e s m args below meth c QQ A C hK hN hA hret H locs ls hP hD hS hl => kX7_nextWay C hK hN hA (Nat.le_refl _) (Nat.le_refl _) Q hret  S h H locs ls hP hD hS hl)
