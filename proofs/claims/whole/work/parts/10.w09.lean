def bX7_nextOrder_107 (k107 : Int32 → Int32 → St → Prop) (Q : Int32 → St → Prop) (x4 : Int32) (x5 : Int32) (S : St) : Prop :=
  ((x5 ≤ x4 → Q (1 : Int32) S) ∧ (¬ (x5 ≤ x4) → (vp_in x4 6 ∧ (∀ y2 : Int32, y2 = (S.1 30 (Int32.toNatClampNeg x4)) → (vp_in x5 6 ∧ (vp_in x4 6 ∧ ∀ S4 : St, S4 = wr S 30 (Int32.toNatClampNeg x4) (S.1 30 (Int32.toNatClampNeg x5)) → (vp_in x5 6 ∧ ∀ S6 : St, S6 = wr S4 30 (Int32.toNatClampNeg x5) y2 → (∀ y8 : Int32, y8 = x4 + (1 : Int32) → (∀ y9 : Int32, y9 = x5 + (-1 : Int32) → k107 y8 y9 S6)))))))))
def bX7_nextOrder_47 (k47 : Int32 → Int32 → St → Prop) (Q : Int32 → St → Prop) (x1 : Int32) (x2 : Int32) (S : St) : Prop :=
  (vp_in x2 6 ∧ (vp_in x1 6 ∧ (((S.1 30 (Int32.toNatClampNeg x1)) ≤ (S.1 30 (Int32.toNatClampNeg x2)) → (vp_in x1 6 ∧ (∀ y14 : Int32, y14 = (S.1 30 (Int32.toNatClampNeg x1)) → (vp_in x2 6 ∧ (vp_in x1 6 ∧ ∀ S16 : St, S16 = wr S 30 (Int32.toNatClampNeg x1) (S.1 30 (Int32.toNatClampNeg x2)) → (vp_in x2 6 ∧ ∀ S18 : St, S18 = wr S16 30 (Int32.toNatClampNeg x2) y14 → (∀ y20 : Int32, y20 = (x1 + (1 : Int32)) → (∀ y21 : Int32, y21 = ((S18.1 13 0) - (1 : Int32)) → (∃ N : Nat, itr (F := Int32 → Int32 → St → Prop) (fun _ _ _ => False) (fun k107 x4 x5 S => bX7_nextOrder_107 k107 Q x4 x5 S) N y20 y21 S18))))))))) ∧ (¬ ((S.1 30 (Int32.toNatClampNeg x1)) ≤ (S.1 30 (Int32.toNatClampNeg x2))) → (∀ y22 : Int32, y22 = x2 + (-1 : Int32) → k47 x1 y22 S)))))
def bX7_nextOrder_34 (Q : Int32 → St → Prop) (x1 : Int32) (S : St) : Prop :=
  ((0 ≤ x1 → (∀ y24 : Int32, y24 = ((S.1 13 0) - (1 : Int32)) → (∃ N : Nat, itr (F := Int32 → Int32 → St → Prop) (fun _ _ _ => False) (fun k47 x1 x2 S => bX7_nextOrder_47 k47 Q x1 x2 S) N x1 y24 S))) ∧ (¬ (0 ≤ x1) → Q (0 : Int32) S))
def bX7_nextOrder_7 (k7 : Int32 → St → Prop) (Q : Int32 → St → Prop) (x1 : Int32) (S : St) : Prop :=
  ((x1 < 0 → bX7_nextOrder_34 Q x1 S) ∧ (¬ (x1 < 0) → (vp_in x1 6 ∧ (vp_in (x1 + (1 : Int32)) 6 ∧ (((S.1 30 (Int32.toNatClampNeg x1)) ≤ (S.1 30 (Int32.toNatClampNeg (x1 + (1 : Int32)))) → bX7_nextOrder_34 Q x1 S) ∧ (¬ ((S.1 30 (Int32.toNatClampNeg x1)) ≤ (S.1 30 (Int32.toNatClampNeg (x1 + (1 : Int32))))) → (∀ y28 : Int32, y28 = x1 + (-1 : Int32) → k7 y28 S)))))))
def pX7_nextOrder (S : St) (Q : Int32 → St → Prop) : Prop :=
  (∀ y31 : Int32, y31 = ((S.1 13 0) - (2 : Int32)) → (∃ N : Nat, itr (F := Int32 → St → Prop) (fun _ _ => False) (fun k7 x1 S => bX7_nextOrder_7 k7 Q x1 S) N y31 S))
set_option maxHeartbeats 40000000 in
set_option maxRecDepth 100000 in
theorem kX7_nextOrder {p : Program} {l : Launch} {e : Env} {R : Room} {s : State} {m : MethodId} {args : Array Value} {below : List Frame} {meth : Method} {c : Code} {QQ : State → Prop} {g : va_G} {ct : Nat → ClassId} {ad : Nat → Nat} {A : Nat → Prop} (C : CallFix p m c cX7_nextOrder 7 s args wsX7_nextOrder RX7) (hK : va_K g vwCl (mT ct) s) (hN : xN s) (hA : ∀ q, s.heap.size ≤ q → A q) (hRf : 0 ≤ R.frames) (hRl : 0 ≤ R.locals) (Q : Int32 → St → Prop) (hret : ∀ (pc : Nat) (r : Int32) (S : St) (H : Heap) (locs : List Loc) (ls : Array Slot), decode cX7_nextOrder pc = .ok (.ireturn, 1) → zb r → Q r S → va_P g vwCl (wM ct ad S) H → va_D A (wM ct ad S) → va_S A s.heap H locs → W p l e R s m args below meth c H locs 0 0 QQ (F0 m pc ls [.int r])) (S : St) (h : pX7_nextOrder S Q) (H : Heap) (locs : List Loc) (ls : Array Slot) (hP : va_P g vwCl (wM ct ad S) H) (hD : va_D A (wM ct ad S)) (hS : va_S A s.heap H locs) (hl : lv_has ls 7 [(0, .ref (ad 0))]) : W p l e R s m args below meth c H locs 0 0 QQ (F0 m 0 ls []) := by
  have hinX7 : ∀ w ∈ wsX70, w ∈ wsX7_nextOrder := by decide +kernel
  have B107 : ∀ (k107 : Int32 → Int32 → St → Prop) (hk107 : ∀ (x4 : Int32) (x5 : Int32) (S : St) (H : Heap) (locs : List Loc) (ls : Array Slot), k107 x4 x5 S → va_P g vwCl (wM ct ad S) H → va_D A (wM ct ad S) → va_S A s.heap H locs → lv_has ls 7 [(0, .ref (ad 0)), (4, .int x4), (5, .int x5)] → W p l e R s m args below meth c H locs 0 0 QQ (F0 m 107 ls [])) (x4 : Int32) (x5 : Int32) (S : St) (H : Heap) (locs : List Loc) (ls : Array Slot), bX7_nextOrder_107 k107 Q x4 x5 S → va_P g vwCl (wM ct ad S) H → va_D A (wM ct ad S) → va_S A s.heap H locs → lv_has ls 7 [(0, .ref (ad 0)), (4, .int x4), (5, .int x5)] → W p l e R s m args below meth c H locs 0 0 QQ (F0 m 107 ls []) := by
    intro k107 hk107 x4 x5 S H locs ls h hP hD hS hl
    refine lv_iload C.1 C.2.1 dX7_nextOrder_107 (lv_at hl 1 rfl) ?_
    refine lv_iload C.1 C.2.1 dX7_nextOrder_109 (lv_at hl 2 rfl) ?_
    refine lv_icmp_ge (tgt := 155) C.1 C.2.1 dX7_nextOrder_111 (by decide) (fun c10 => ?_) (fun c10 => ?_)
    · have h := h.1 c10
      refine lv_iconst (v := 1) C.1 C.2.1 dX7_nextOrder_155 (by decide) ?_
      exact hret _ _ _ _ _ _ dX7_nextOrder_156 zb_1 h hP hD hS
    · have h := h.2 c10
      refine lv_aload_n C.1 C.2.1 dX7_nextOrder_114 rfl (lv_at hl 0 rfl) ?_
      refine mg_order C hinX7 hK hP (by decide +kernel) dX7_nextOrder_115 ?_
      refine lv_iload C.1 C.2.1 dX7_nextOrder_118 (lv_at hl 1 rfl) ?_
      obtain ⟨g1, h⟩ := h
      refine ma_order C hK hP g1  rfl dX7_nextOrder_120 ?_
      refine lv_topi (fun y2 ey2 => ?_)
      have h := h y2 ey2
      refine lv_istore (lv' := [(6, .int y2), (0, .ref (ad 0)), (4, .int x4), (5, .int x5)]) C.1 C.2.1 dX7_nextOrder_121 hl (by decide) rfl (fun ls hl => ?_)
      refine lv_aload_n C.1 C.2.1 dX7_nextOrder_123 rfl (lv_at hl 1 rfl) ?_
      refine mg_order C hinX7 hK hP (by decide +kernel) dX7_nextOrder_124 ?_
      refine lv_iload C.1 C.2.1 dX7_nextOrder_127 (lv_at hl 2 rfl) ?_
      refine lv_aload_n C.1 C.2.1 dX7_nextOrder_129 rfl (lv_at hl 1 rfl) ?_
      refine mg_order C hinX7 hK hP (by decide +kernel) dX7_nextOrder_130 ?_
      refine lv_iload C.1 C.2.1 dX7_nextOrder_133 (lv_at hl 3 rfl) ?_
      obtain ⟨g3, h⟩ := h
      refine ma_order C hK hP g3  rfl dX7_nextOrder_135 ?_
      obtain ⟨g5, h⟩ := h
      obtain ⟨S4, eS4⟩ : ∃ z : St, z = wr S 30 (Int32.toNatClampNeg x4) (S.1 30 (Int32.toNatClampNeg x5)) := ⟨_, rfl⟩
      have h := h S4 eS4
      refine ms_order C hK hP hD hS  g5 rfl dX7_nextOrder_136 (fun H locs hP hD hS => ?_)
      rw [← eS4] at hP hD
      refine lv_aload_n C.1 C.2.1 dX7_nextOrder_137 rfl (lv_at hl 1 rfl) ?_
      refine mg_order C hinX7 hK hP (by decide +kernel) dX7_nextOrder_138 ?_
      refine lv_iload C.1 C.2.1 dX7_nextOrder_141 (lv_at hl 3 rfl) ?_
      refine lv_iload C.1 C.2.1 dX7_nextOrder_143 (lv_at hl 0 rfl) ?_
      obtain ⟨g7, h⟩ := h
      obtain ⟨S6, eS6⟩ : ∃ z : St, z = wr S4 30 (Int32.toNatClampNeg x5) y2 := ⟨_, rfl⟩
      have h := h S6 eS6
      refine ms_order C hK hP hD hS  g7 rfl dX7_nextOrder_145 (fun H locs hP hD hS => ?_)
      rw [← eS6] at hP hD
      obtain ⟨y8, ey8⟩ : ∃ z : Int32, z = x4 + (1 : Int32) := ⟨_, rfl⟩
      have h := h y8 ey8
      refine lv_iinc (v := y8) (lv' := [(4, .int y8), (6, .int y2), (0, .ref (ad 0)), (5, .int x5)]) C.1 C.2.1 dX7_nextOrder_146 hl (k := 2) rfl (by rw [ey8]; rfl) (by decide) rfl (fun ls hl => ?_)
      obtain ⟨y9, ey9⟩ : ∃ z : Int32, z = x5 + (-1 : Int32) := ⟨_, rfl⟩
      have h := h y9 ey9
      refine lv_iinc (v := y9) (lv' := [(5, .int y9), (4, .int y8), (6, .int y2), (0, .ref (ad 0))]) C.1 C.2.1 dX7_nextOrder_149 hl (k := 3) rfl (by rw [ey9]; rfl) (by decide) rfl (fun ls hl => ?_)
      refine lv_goto (tgt := 107) C.1 C.2.1 dX7_nextOrder_152 (by decide) ?_
      exact hk107 y8 y9 S6 H locs ls h hP hD hS (lv_sub hl [3, 1, 0] rfl)
  have L107 : ∀ (N : Nat) (x4 : Int32) (x5 : Int32) (S : St) (H : Heap) (locs : List Loc) (ls : Array Slot), itr (F := Int32 → Int32 → St → Prop) (fun _ _ _ => False) (fun k107 x4 x5 S => bX7_nextOrder_107 k107 Q x4 x5 S) N x4 x5 S → va_P g vwCl (wM ct ad S) H → va_D A (wM ct ad S) → va_S A s.heap H locs → lv_has ls 7 [(0, .ref (ad 0)), (4, .int x4), (5, .int x5)] → W p l e R s m args below meth c H locs 0 0 QQ (F0 m 107 ls []) := by
    intro N
    induction N with
    | zero => intro x4 x5 S H locs ls h hP hD hS hl; exact False.elim h
    | succ N ih => intro x4 x5 S H locs ls h hP hD hS hl; exact B107  (itr (F := Int32 → Int32 → St → Prop) (fun _ _ _ => False) (fun k107 x4 x5 S => bX7_nextOrder_107 k107 Q x4 x5 S) N) ih x4 x5 S H locs ls h  hP hD hS hl
  have B47 : ∀ (k47 : Int32 → Int32 → St → Prop) (hk47 : ∀ (x1 : Int32) (x2 : Int32) (S : St) (H : Heap) (locs : List Loc) (ls : Array Slot), k47 x1 x2 S → va_P g vwCl (wM ct ad S) H → va_D A (wM ct ad S) → va_S A s.heap H locs → lv_has ls 7 [(0, .ref (ad 0)), (1, .int x1), (2, .int x2)] → W p l e R s m args below meth c H locs 0 0 QQ (F0 m 47 ls [])) (x1 : Int32) (x2 : Int32) (S : St) (H : Heap) (locs : List Loc) (ls : Array Slot), bX7_nextOrder_47 k47 Q x1 x2 S → va_P g vwCl (wM ct ad S) H → va_D A (wM ct ad S) → va_S A s.heap H locs → lv_has ls 7 [(0, .ref (ad 0)), (1, .int x1), (2, .int x2)] → W p l e R s m args below meth c H locs 0 0 QQ (F0 m 47 ls []) := by
    intro k47 hk47 x1 x2 S H locs ls h hP hD hS hl
    refine lv_aload_n C.1 C.2.1 dX7_nextOrder_47 rfl (lv_at hl 0 rfl) ?_
    refine mg_order C hinX7 hK hP (by decide +kernel) dX7_nextOrder_48 ?_
    refine lv_iload_n C.1 C.2.1 dX7_nextOrder_51 rfl (lv_at hl 2 rfl) ?_
    obtain ⟨g11, h⟩ := h
    refine ma_order C hK hP g11  rfl dX7_nextOrder_52 ?_
    refine lv_aload_n C.1 C.2.1 dX7_nextOrder_53 rfl (lv_at hl 0 rfl) ?_
    refine mg_order C hinX7 hK hP (by decide +kernel) dX7_nextOrder_54 ?_
    refine lv_iload_n C.1 C.2.1 dX7_nextOrder_57 rfl (lv_at hl 1 rfl) ?_
    obtain ⟨g12, h⟩ := h
    refine ma_order C hK hP g12  rfl dX7_nextOrder_58 ?_
    refine lv_icmp_ge (tgt := 68) C.1 C.2.1 dX7_nextOrder_59 (by decide) (fun c23 => ?_) (fun c23 => ?_)
    · have h := h.1 c23
      refine lv_aload_n C.1 C.2.1 dX7_nextOrder_68 rfl (lv_at hl 0 rfl) ?_
      refine mg_order C hinX7 hK hP (by decide +kernel) dX7_nextOrder_69 ?_
      refine lv_iload_n C.1 C.2.1 dX7_nextOrder_72 rfl (lv_at hl 1 rfl) ?_
      obtain ⟨g13, h⟩ := h
      refine ma_order C hK hP g13  rfl dX7_nextOrder_73 ?_
      refine lv_topi (fun y14 ey14 => ?_)
      have h := h y14 ey14
      refine lv_istore_n (lv' := [(3, .int y14), (0, .ref (ad 0)), (1, .int x1), (2, .int x2)]) C.1 C.2.1 dX7_nextOrder_74 rfl hl (by decide) rfl (fun ls hl => ?_)
      refine lv_aload_n C.1 C.2.1 dX7_nextOrder_75 rfl (lv_at hl 1 rfl) ?_
      refine mg_order C hinX7 hK hP (by decide +kernel) dX7_nextOrder_76 ?_
      refine lv_iload_n C.1 C.2.1 dX7_nextOrder_79 rfl (lv_at hl 2 rfl) ?_
      refine lv_aload_n C.1 C.2.1 dX7_nextOrder_80 rfl (lv_at hl 1 rfl) ?_
      refine mg_order C hinX7 hK hP (by decide +kernel) dX7_nextOrder_81 ?_
      refine lv_iload_n C.1 C.2.1 dX7_nextOrder_84 rfl (lv_at hl 3 rfl) ?_
      obtain ⟨g15, h⟩ := h
      refine ma_order C hK hP g15  rfl dX7_nextOrder_85 ?_
      obtain ⟨g17, h⟩ := h
      obtain ⟨S16, eS16⟩ : ∃ z : St, z = wr S 30 (Int32.toNatClampNeg x1) (S.1 30 (Int32.toNatClampNeg x2)) := ⟨_, rfl⟩
      have h := h S16 eS16
      refine ms_order C hK hP hD hS  g17 rfl dX7_nextOrder_86 (fun H locs hP hD hS => ?_)
      rw [← eS16] at hP hD
      refine lv_aload_n C.1 C.2.1 dX7_nextOrder_87 rfl (lv_at hl 1 rfl) ?_
      refine mg_order C hinX7 hK hP (by decide +kernel) dX7_nextOrder_88 ?_
      refine lv_iload_n C.1 C.2.1 dX7_nextOrder_91 rfl (lv_at hl 3 rfl) ?_
      refine lv_iload_n C.1 C.2.1 dX7_nextOrder_92 rfl (lv_at hl 0 rfl) ?_
      obtain ⟨g19, h⟩ := h
      obtain ⟨S18, eS18⟩ : ∃ z : St, z = wr S16 30 (Int32.toNatClampNeg x2) y14 := ⟨_, rfl⟩
      have h := h S18 eS18
      refine ms_order C hK hP hD hS  g19 rfl dX7_nextOrder_93 (fun H locs hP hD hS => ?_)
      rw [← eS18] at hP hD
      refine lv_iload_n C.1 C.2.1 dX7_nextOrder_94 rfl (lv_at hl 2 rfl) ?_
      refine lv_iconst (v := 1) C.1 C.2.1 dX7_nextOrder_95 (by decide) ?_
      refine lv_iadd C.1 C.2.1 dX7_nextOrder_96 ?_
      refine lv_topi (fun y20 ey20 => ?_)
      have h := h y20 ey20
      refine lv_istore (lv' := [(4, .int y20), (3, .int y14), (0, .ref (ad 0)), (1, .int x1), (2, .int x2)]) C.1 C.2.1 dX7_nextOrder_97 hl (by decide) rfl (fun ls hl => ?_)
      refine lv_aload_n C.1 C.2.1 dX7_nextOrder_99 rfl (lv_at hl 2 rfl) ?_
      refine mg_accesses C hinX7 hK hP (by decide +kernel) dX7_nextOrder_100 ?_
      refine lv_iconst (v := 1) C.1 C.2.1 dX7_nextOrder_103 (by decide) ?_
      refine lv_isub C.1 C.2.1 dX7_nextOrder_104 ?_
      refine lv_topi (fun y21 ey21 => ?_)
      have h := h y21 ey21
      refine lv_istore (lv' := [(5, .int y21), (4, .int y20), (3, .int y14), (0, .ref (ad 0)), (1, .int x1), (2, .int x2)]) C.1 C.2.1 dX7_nextOrder_105 hl (by decide) rfl (fun ls hl => ?_)
      obtain ⟨N, h⟩ := h
      exact L107 N y20 y21 S18 H locs ls h hP hD hS (lv_sub hl [3, 1, 0] rfl)
    · have h := h.2 c23
      obtain ⟨y22, ey22⟩ : ∃ z : Int32, z = x2 + (-1 : Int32) := ⟨_, rfl⟩
      have h := h y22 ey22
      refine lv_iinc (v := y22) (lv' := [(2, .int y22), (0, .ref (ad 0)), (1, .int x1)]) C.1 C.2.1 dX7_nextOrder_62 hl (k := 2) rfl (by rw [ey22]; rfl) (by decide) rfl (fun ls hl => ?_)
      refine lv_goto (tgt := 47) C.1 C.2.1 dX7_nextOrder_65 (by decide) ?_
      exact hk47 x1 y22 S H locs ls h hP hD hS (lv_sub hl [1, 2, 0] rfl)
  have L47 : ∀ (N : Nat) (x1 : Int32) (x2 : Int32) (S : St) (H : Heap) (locs : List Loc) (ls : Array Slot), itr (F := Int32 → Int32 → St → Prop) (fun _ _ _ => False) (fun k47 x1 x2 S => bX7_nextOrder_47 k47 Q x1 x2 S) N x1 x2 S → va_P g vwCl (wM ct ad S) H → va_D A (wM ct ad S) → va_S A s.heap H locs → lv_has ls 7 [(0, .ref (ad 0)), (1, .int x1), (2, .int x2)] → W p l e R s m args below meth c H locs 0 0 QQ (F0 m 47 ls []) := by
    intro N
    induction N with
    | zero => intro x1 x2 S H locs ls h hP hD hS hl; exact False.elim h
    | succ N ih => intro x1 x2 S H locs ls h hP hD hS hl; exact B47  (itr (F := Int32 → Int32 → St → Prop) (fun _ _ _ => False) (fun k47 x1 x2 S => bX7_nextOrder_47 k47 Q x1 x2 S) N) ih x1 x2 S H locs ls h  hP hD hS hl
  have B34 : ∀ (x1 : Int32) (S : St) (H : Heap) (locs : List Loc) (ls : Array Slot), bX7_nextOrder_34 Q x1 S → va_P g vwCl (wM ct ad S) H → va_D A (wM ct ad S) → va_S A s.heap H locs → lv_has ls 7 [(0, .ref (ad 0)), (1, .int x1)] → W p l e R s m args below meth c H locs 0 0 QQ (F0 m 34 ls []) := by
    intro x1 S H locs ls h hP hD hS hl
    refine lv_iload_n C.1 C.2.1 dX7_nextOrder_34 rfl (lv_at hl 1 rfl) ?_
    refine lv_if_ge (tgt := 40) C.1 C.2.1 dX7_nextOrder_35 (by decide) (fun c25 => ?_) (fun c25 => ?_)
    · have h := h.1 c25
      refine lv_aload_n C.1 C.2.1 dX7_nextOrder_40 rfl (lv_at hl 0 rfl) ?_
      refine mg_accesses C hinX7 hK hP (by decide +kernel) dX7_nextOrder_41 ?_
      refine lv_iconst (v := 1) C.1 C.2.1 dX7_nextOrder_44 (by decide) ?_
      refine lv_isub C.1 C.2.1 dX7_nextOrder_45 ?_
      refine lv_topi (fun y24 ey24 => ?_)
      have h := h y24 ey24
      refine lv_istore_n (lv' := [(2, .int y24), (0, .ref (ad 0)), (1, .int x1)]) C.1 C.2.1 dX7_nextOrder_46 rfl hl (by decide) rfl (fun ls hl => ?_)
      obtain ⟨N, h⟩ := h
      exact L47 N x1 y24 S H locs ls h hP hD hS (lv_sub hl [1, 2, 0] rfl)
    · have h := h.2 c25
      refine lv_iconst (v := 0) C.1 C.2.1 dX7_nextOrder_38 (by decide) ?_
      exact hret _ _ _ _ _ _ dX7_nextOrder_39 zb_0 h hP hD hS
  have B7 : ∀ (k7 : Int32 → St → Prop) (hk7 : ∀ (x1 : Int32) (S : St) (H : Heap) (locs : List Loc) (ls : Array Slot), k7 x1 S → va_P g vwCl (wM ct ad S) H → va_D A (wM ct ad S) → va_S A s.heap H locs → lv_has ls 7 [(0, .ref (ad 0)), (1, .int x1)] → W p l e R s m args below meth c H locs 0 0 QQ (F0 m 7 ls [])) (x1 : Int32) (S : St) (H : Heap) (locs : List Loc) (ls : Array Slot), bX7_nextOrder_7 k7 Q x1 S → va_P g vwCl (wM ct ad S) H → va_D A (wM ct ad S) → va_S A s.heap H locs → lv_has ls 7 [(0, .ref (ad 0)), (1, .int x1)] → W p l e R s m args below meth c H locs 0 0 QQ (F0 m 7 ls []) := by
    intro k7 hk7 x1 S H locs ls h hP hD hS hl
    refine lv_iload_n C.1 C.2.1 dX7_nextOrder_7 rfl (lv_at hl 1 rfl) ?_
    refine lv_if_lt (tgt := 34) C.1 C.2.1 dX7_nextOrder_8 (by decide) (fun c30 => ?_) (fun c30 => ?_)
    · have h := h.1 c30
      exact B34 x1 S H locs ls h hP hD hS (lv_sub hl [0, 1] rfl)
    · have h := h.2 c30
      refine lv_aload_n C.1 C.2.1 dX7_nextOrder_11 rfl (lv_at hl 0 rfl) ?_
      refine mg_order C hinX7 hK hP (by decide +kernel) dX7_nextOrder_12 ?_
      refine lv_iload_n C.1 C.2.1 dX7_nextOrder_15 rfl (lv_at hl 1 rfl) ?_
      obtain ⟨g26, h⟩ := h
      refine ma_order C hK hP g26  rfl dX7_nextOrder_16 ?_
      refine lv_aload_n C.1 C.2.1 dX7_nextOrder_17 rfl (lv_at hl 0 rfl) ?_
      refine mg_order C hinX7 hK hP (by decide +kernel) dX7_nextOrder_18 ?_
      refine lv_iload_n C.1 C.2.1 dX7_nextOrder_21 rfl (lv_at hl 1 rfl) ?_
      refine lv_iconst (v := 1) C.1 C.2.1 dX7_nextOrder_22 (by decide) ?_
      refine lv_iadd C.1 C.2.1 dX7_nextOrder_23 ?_
      obtain ⟨g27, h⟩ := h
      refine ma_order C hK hP g27  rfl dX7_nextOrder_24 ?_
      refine lv_icmp_le (tgt := 34) C.1 C.2.1 dX7_nextOrder_25 (by decide) (fun c29 => ?_) (fun c29 => ?_)
      · have h := h.1 c29
        exact B34 x1 S H locs ls h hP hD hS (lv_sub hl [0, 1] rfl)
      · have h := h.2 c29
        obtain ⟨y28, ey28⟩ : ∃ z : Int32, z = x1 + (-1 : Int32) := ⟨_, rfl⟩
        have h := h y28 ey28
        refine lv_iinc (v := y28) (lv' := [(1, .int y28), (0, .ref (ad 0))]) C.1 C.2.1 dX7_nextOrder_28 hl (k := 1) rfl (by rw [ey28]; rfl) (by decide) rfl (fun ls hl => ?_)
        refine lv_goto (tgt := 7) C.1 C.2.1 dX7_nextOrder_31 (by decide) ?_
        exact hk7 y28 S H locs ls h hP hD hS (lv_sub hl [1, 0] rfl)
  have L7 : ∀ (N : Nat) (x1 : Int32) (S : St) (H : Heap) (locs : List Loc) (ls : Array Slot), itr (F := Int32 → St → Prop) (fun _ _ => False) (fun k7 x1 S => bX7_nextOrder_7 k7 Q x1 S) N x1 S → va_P g vwCl (wM ct ad S) H → va_D A (wM ct ad S) → va_S A s.heap H locs → lv_has ls 7 [(0, .ref (ad 0)), (1, .int x1)] → W p l e R s m args below meth c H locs 0 0 QQ (F0 m 7 ls []) := by
    intro N
    induction N with
    | zero => intro x1 S H locs ls h hP hD hS hl; exact False.elim h
    | succ N ih => intro x1 S H locs ls h hP hD hS hl; exact B7  (itr (F := Int32 → St → Prop) (fun _ _ => False) (fun k7 x1 S => bX7_nextOrder_7 k7 Q x1 S) N) ih x1 S H locs ls h  hP hD hS hl
  refine lv_aload_n C.1 C.2.1 dX7_nextOrder_0 rfl (lv_at hl 0 rfl) ?_
  refine mg_accesses C hinX7 hK hP (by decide +kernel) dX7_nextOrder_1 ?_
  refine lv_iconst (v := 2) C.1 C.2.1 dX7_nextOrder_4 (by decide) ?_
  refine lv_isub C.1 C.2.1 dX7_nextOrder_5 ?_
  refine lv_topi (fun y31 ey31 => ?_)
  have h := h y31 ey31
  refine lv_istore_n (lv' := [(1, .int y31), (0, .ref (ad 0))]) C.1 C.2.1 dX7_nextOrder_6 rfl hl (by decide) rfl (fun ls hl => ?_)
  obtain ⟨N, h⟩ := h
  exact L7 N y31 S H locs ls h hP hD hS (lv_sub hl [1, 0] rfl)
theorem mX7_nextOrder (l : Launch) (g : va_G) (ct : Nat → ClassId) (ad : Nat → Nat) (sz : Nat) (S : St) (Q : Int32 → St → Prop) (h : pX7_nextOrder S Q) : Met l yX7_nextOrder wsX7_nextOrder ({ frames := 0, cells := 0, slots := 0, locals := 0 }) (gPc g (mT ct) (wM ct ad S) sz [.ref (ad 0)]) (va_Qi Q (gB g (mT ct) (wM ct ad) (va_A (wM ct ad S) sz)) (va_A (wM ct ad S) sz)) 0 0 (va_A (wM ct ad S) sz) :=
  g_metZ (w := wM ct ad) (cc := cX7_nextOrder) (maxL := 7) (by decide) rfl rfl (Nat.le_of_ble_eq_true rfl) rfl (fun p e s m args below meth c QQ A C hK hN hA hret H locs ls hP hD hS hl => kX7_nextOrder C hK hN hA (Nat.le_refl _) (Nat.le_refl _) Q hret  S h H locs ls hP hD hS hl)

def bX7_reckon_126 (k32 : Int64 → Int32 → St → Prop) (Q : Int64 → St → Prop) (x3 : Int32) (t0 : Int64) (t1 : Int32) (S : St) : Prop :=
  (∀ y1 : Int64, y1 = (t0 ||| ((Int32.toInt64 t1) <<< (Int32.toInt64 ((32 : Int32) + ((2 : Int32) * x3)) &&& 63))) → (∀ y2 : Int32, y2 = x3 + (1 : Int32) → k32 y1 y2 S))
def bX7_reckon_101 (k32 : Int64 → Int32 → St → Prop) (k43 : Int64 → Int32 → Int32 → Int32 → St → Prop) (Q : Int64 → St → Prop) (x1 : Int64) (x3 : Int32) (x5 : Int32) (t0 : Int32) (S : St) : Prop :=
  (∀ y3 : Int32, y3 = x5 + (1 : Int32) → k43 x1 x3 t0 y3 S)
def bX7_reckon_99 (k32 : Int64 → Int32 → St → Prop) (k43 : Int64 → Int32 → Int32 → Int32 → St → Prop) (Q : Int64 → St → Prop) (x1 : Int64) (x3 : Int32) (x4 : Int32) (x5 : Int32) (S : St) : Prop :=
  bX7_reckon_101 k32 k43 Q x1 x3 x5 x4 S
def bX7_reckon_94 (k32 : Int64 → Int32 → St → Prop) (k43 : Int64 → Int32 → Int32 → Int32 → St → Prop) (Q : Int64 → St → Prop) (x1 : Int64) (x3 : Int32) (x5 : Int32) (S : St) : Prop :=
  bX7_reckon_101 k32 k43 Q x1 x3 x5 x5 S
def bX7_reckon_43 (k32 : Int64 → Int32 → St → Prop) (k43 : Int64 → Int32 → Int32 → Int32 → St → Prop) (Q : Int64 → St → Prop) (x1 : Int64) (x3 : Int32) (x4 : Int32) (x5 : Int32) (S : St) : Prop :=
  (((S.1 13 0) ≤ x5 → ((0 ≤ x4 → (vp_in x4 6 ∧ bX7_reckon_126 k32 Q x3 x1 (S.1 18 (Int32.toNatClampNeg x4)) S)) ∧ (¬ (0 ≤ x4) → bX7_reckon_126 k32 Q x3 x1 (0 : Int32) S))) ∧ (¬ ((S.1 13 0) ≤ x5) → pX7_writes x5 S (fun (r7 : Int32) (S6 : St) => ((r7 = 0 → bX7_reckon_99 k32 k43 Q x1 x3 x4 x5 S6) ∧ (¬ (r7 = 0) → (vp_in x5 6 ∧ ((¬ (S6.1 16 (Int32.toNatClampNeg x5)) = x3 → bX7_reckon_99 k32 k43 Q x1 x3 x4 x5 S6) ∧ ((S6.1 16 (Int32.toNatClampNeg x5)) = x3 → ((x4 < 0 → bX7_reckon_94 k32 k43 Q x1 x3 x5 S6) ∧ (¬ (x4 < 0) → (vp_in x5 6 ∧ (vp_in x4 6 ∧ (((S6.1 31 (Int32.toNatClampNeg x5)) ≤ (S6.1 31 (Int32.toNatClampNeg x4)) → bX7_reckon_99 k32 k43 Q x1 x3 x4 x5 S6) ∧ (¬ ((S6.1 31 (Int32.toNatClampNeg x5)) ≤ (S6.1 31 (Int32.toNatClampNeg x4))) → bX7_reckon_94 k32 k43 Q x1 x3 x5 S6))))))))))))))
def bX7_reckon_32 (k32 : Int64 → Int32 → St → Prop) (Q : Int64 → St → Prop) (x1 : Int64) (x3 : Int32) (S : St) : Prop :=
  (((3 : Int32) ≤ x3 → Q x1 S) ∧ (¬ ((3 : Int32) ≤ x3) → (∃ N : Nat, itr (F := Int64 → Int32 → Int32 → Int32 → St → Prop) (fun _ _ _ _ _ => False) (fun k43 x1 x3 x4 x5 S => bX7_reckon_43 k32 k43 Q x1 x3 x4 x5 S) N x1 x3 (-1 : Int32) (0 : Int32) S)))
def bX7_reckon_4 (k4 : Int64 → Int32 → St → Prop) (Q : Int64 → St → Prop) (x1 : Int64) (x3 : Int32) (S : St) : Prop :=
  (((16 : Int32) ≤ x3 → (∃ N : Nat, itr (F := Int64 → Int32 → St → Prop) (fun _ _ _ => False) (fun k32 x1 x3 S => bX7_reckon_32 k32 Q x1 x3 S) N x1 (0 : Int32) S)) ∧ (¬ ((16 : Int32) ≤ x3) → (vp_in x3 16 ∧ (∀ y18 : Int64, y18 = (x1 ||| ((Int32.toInt64 (S.1 11 (Int32.toNatClampNeg x3))) <<< (Int32.toInt64 ((2 : Int32) * x3) &&& 63))) → (∀ y19 : Int32, y19 = x3 + (1 : Int32) → k4 y18 y19 S)))))
def pX7_reckon (S : St) (Q : Int64 → St → Prop) : Prop :=
  (∃ N : Nat, itr (F := Int64 → Int32 → St → Prop) (fun _ _ _ => False) (fun k4 x1 x3 S => bX7_reckon_4 k4 Q x1 x3 S) N (0 : Int64) (0 : Int32) S)
set_option maxHeartbeats 40000000 in
set_option maxRecDepth 100000 in
theorem kX7_reckon {p : Program} {l : Launch} {e : Env} {R : Room} {s : State} {m : MethodId} {args : Array Value} {below : List Frame} {meth : Method} {c : Code} {QQ : State → Prop} {g : va_G} {ct : Nat → ClassId} {ad : Nat → Nat} {A : Nat → Prop} (C : CallFix p m c cX7_reckon 6 s args wsX7_reckon RX7) (hK : va_K g vwCl (mT ct) s) (hN : xN s) (hA : ∀ q, s.heap.size ≤ q → A q) (hRf : 2 ≤ R.frames) (hRl : 41 ≤ R.locals) (Q : Int64 → St → Prop) (hret : ∀ (pc : Nat) (r : Int64) (S : St) (H : Heap) (locs : List Loc) (ls : Array Slot), decode cX7_reckon pc = .ok (.lreturn, 1) → Q r S → va_P g vwCl (wM ct ad S) H → va_D A (wM ct ad S) → va_S A s.heap H locs → W p l e R s m args below meth c H locs 0 0 QQ (F0 m pc ls [.long r])) (S : St) (h : pX7_reckon S Q) (H : Heap) (locs : List Loc) (ls : Array Slot) (hP : va_P g vwCl (wM ct ad S) H) (hD : va_D A (wM ct ad S)) (hS : va_S A s.heap H locs) (hl : lv_has ls 6 [(0, .ref (ad 0))]) : W p l e R s m args below meth c H locs 0 0 QQ (F0 m 0 ls []) := by
  have hinX7 : ∀ w ∈ wsX70, w ∈ wsX7_reckon := by decide +kernel
  have B126 : ∀ (k32 : Int64 → Int32 → St → Prop) (hk32 : ∀ (x1 : Int64) (x3 : Int32) (S : St) (H : Heap) (locs : List Loc) (ls : Array Slot), k32 x1 x3 S → va_P g vwCl (wM ct ad S) H → va_D A (wM ct ad S) → va_S A s.heap H locs → lv_has ls 6 [(0, .ref (ad 0)), (1, .long x1), (3, .int x3)] → W p l e R s m args below meth c H locs 0 0 QQ (F0 m 32 ls [])) (x3 : Int32) (t0 : Int64) (t1 : Int32) (S : St) (H : Heap) (locs : List Loc) (ls : Array Slot), bX7_reckon_126 k32 Q x3 t0 t1 S → va_P g vwCl (wM ct ad S) H → va_D A (wM ct ad S) → va_S A s.heap H locs → lv_has ls 6 [(0, .ref (ad 0)), (3, .int x3)] → W p l e R s m args below meth c H locs 0 0 QQ (F0 m 126 ls [.int t1, .long t0]) := by
    intro k32 hk32 x3 t0 t1 S H locs ls h hP hD hS hl
    refine lv_i2l C.1 C.2.1 dX7_reckon_126 rfl ?_
    refine lv_bipush (v := 32) C.1 C.2.1 dX7_reckon_127 (by decide) ?_
    refine lv_iconst (v := 2) C.1 C.2.1 dX7_reckon_129 (by decide) ?_
    refine lv_iload_n C.1 C.2.1 dX7_reckon_130 rfl (lv_at hl 1 rfl) ?_
    refine lv_imul C.1 C.2.1 dX7_reckon_131 ?_
    refine lv_iadd C.1 C.2.1 dX7_reckon_132 ?_
    refine lv_lshl C.1 C.2.1 dX7_reckon_133 rfl ?_
    refine lv_lor C.1 C.2.1 dX7_reckon_134 ?_
    refine lv_topl (fun y1 ey1 => ?_)
    have h := h y1 ey1
    refine lv_lstore_n (lv' := [(1, .long y1), (0, .ref (ad 0)), (3, .int x3)]) C.1 C.2.1 dX7_reckon_135 rfl hl (by decide) rfl (fun ls hl => ?_)
    obtain ⟨y2, ey2⟩ : ∃ z : Int32, z = x3 + (1 : Int32) := ⟨_, rfl⟩
    have h := h y2 ey2
    refine lv_iinc (v := y2) (lv' := [(3, .int y2), (1, .long y1), (0, .ref (ad 0))]) C.1 C.2.1 dX7_reckon_136 hl (k := 2) rfl (by rw [ey2]; rfl) (by decide) rfl (fun ls hl => ?_)
    refine lv_goto (tgt := 32) C.1 C.2.1 dX7_reckon_139 (by decide) ?_
    exact hk32 y1 y2 S H locs ls h hP hD hS (lv_sub hl [2, 1, 0] rfl)
  have B101 : ∀ (k32 : Int64 → Int32 → St → Prop) (hk32 : ∀ (x1 : Int64) (x3 : Int32) (S : St) (H : Heap) (locs : List Loc) (ls : Array Slot), k32 x1 x3 S → va_P g vwCl (wM ct ad S) H → va_D A (wM ct ad S) → va_S A s.heap H locs → lv_has ls 6 [(0, .ref (ad 0)), (1, .long x1), (3, .int x3)] → W p l e R s m args below meth c H locs 0 0 QQ (F0 m 32 ls [])) (k43 : Int64 → Int32 → Int32 → Int32 → St → Prop) (hk43 : ∀ (x1 : Int64) (x3 : Int32) (x4 : Int32) (x5 : Int32) (S : St) (H : Heap) (locs : List Loc) (ls : Array Slot), k43 x1 x3 x4 x5 S → va_P g vwCl (wM ct ad S) H → va_D A (wM ct ad S) → va_S A s.heap H locs → lv_has ls 6 [(0, .ref (ad 0)), (1, .long x1), (3, .int x3), (4, .int x4), (5, .int x5)] → W p l e R s m args below meth c H locs 0 0 QQ (F0 m 43 ls [])) (x1 : Int64) (x3 : Int32) (x5 : Int32) (t0 : Int32) (S : St) (H : Heap) (locs : List Loc) (ls : Array Slot), bX7_reckon_101 k32 k43 Q x1 x3 x5 t0 S → va_P g vwCl (wM ct ad S) H → va_D A (wM ct ad S) → va_S A s.heap H locs → lv_has ls 6 [(0, .ref (ad 0)), (1, .long x1), (3, .int x3), (5, .int x5)] → W p l e R s m args below meth c H locs 0 0 QQ (F0 m 101 ls [.int t0]) := by
    intro k32 hk32 k43 hk43 x1 x3 x5 t0 S H locs ls h hP hD hS hl
    refine lv_istore (lv' := [(4, .int t0), (0, .ref (ad 0)), (1, .long x1), (3, .int x3), (5, .int x5)]) C.1 C.2.1 dX7_reckon_101 hl (by decide) rfl (fun ls hl => ?_)
    obtain ⟨y3, ey3⟩ : ∃ z : Int32, z = x5 + (1 : Int32) := ⟨_, rfl⟩
    have h := h y3 ey3
    refine lv_iinc (v := y3) (lv' := [(5, .int y3), (4, .int t0), (0, .ref (ad 0)), (1, .long x1), (3, .int x3)]) C.1 C.2.1 dX7_reckon_103 hl (k := 4) rfl (by rw [ey3]; rfl) (by decide) rfl (fun ls hl => ?_)
    refine lv_goto (tgt := 43) C.1 C.2.1 dX7_reckon_106 (by decide) ?_
    exact hk43 x1 x3 t0 y3 S H locs ls h hP hD hS (lv_sub hl [2, 3, 4, 1, 0] rfl)
  have B99 : ∀ (k32 : Int64 → Int32 → St → Prop) (hk32 : ∀ (x1 : Int64) (x3 : Int32) (S : St) (H : Heap) (locs : List Loc) (ls : Array Slot), k32 x1 x3 S → va_P g vwCl (wM ct ad S) H → va_D A (wM ct ad S) → va_S A s.heap H locs → lv_has ls 6 [(0, .ref (ad 0)), (1, .long x1), (3, .int x3)] → W p l e R s m args below meth c H locs 0 0 QQ (F0 m 32 ls [])) (k43 : Int64 → Int32 → Int32 → Int32 → St → Prop) (hk43 : ∀ (x1 : Int64) (x3 : Int32) (x4 : Int32) (x5 : Int32) (S : St) (H : Heap) (locs : List Loc) (ls : Array Slot), k43 x1 x3 x4 x5 S → va_P g vwCl (wM ct ad S) H → va_D A (wM ct ad S) → va_S A s.heap H locs → lv_has ls 6 [(0, .ref (ad 0)), (1, .long x1), (3, .int x3), (4, .int x4), (5, .int x5)] → W p l e R s m args below meth c H locs 0 0 QQ (F0 m 43 ls [])) (x1 : Int64) (x3 : Int32) (x4 : Int32) (x5 : Int32) (S : St) (H : Heap) (locs : List Loc) (ls : Array Slot), bX7_reckon_99 k32 k43 Q x1 x3 x4 x5 S → va_P g vwCl (wM ct ad S) H → va_D A (wM ct ad S) → va_S A s.heap H locs → lv_has ls 6 [(0, .ref (ad 0)), (1, .long x1), (3, .int x3), (4, .int x4), (5, .int x5)] → W p l e R s m args below meth c H locs 0 0 QQ (F0 m 99 ls []) := by
    intro k32 hk32 k43 hk43 x1 x3 x4 x5 S H locs ls h hP hD hS hl
    refine lv_iload C.1 C.2.1 dX7_reckon_99 (lv_at hl 3 rfl) ?_
    exact B101 k32 hk32 k43 hk43 x1 x3 x5 x4 S H locs ls h hP hD hS (lv_sub hl [0, 1, 2, 4] rfl)
  have B94 : ∀ (k32 : Int64 → Int32 → St → Prop) (hk32 : ∀ (x1 : Int64) (x3 : Int32) (S : St) (H : Heap) (locs : List Loc) (ls : Array Slot), k32 x1 x3 S → va_P g vwCl (wM ct ad S) H → va_D A (wM ct ad S) → va_S A s.heap H locs → lv_has ls 6 [(0, .ref (ad 0)), (1, .long x1), (3, .int x3)] → W p l e R s m args below meth c H locs 0 0 QQ (F0 m 32 ls [])) (k43 : Int64 → Int32 → Int32 → Int32 → St → Prop) (hk43 : ∀ (x1 : Int64) (x3 : Int32) (x4 : Int32) (x5 : Int32) (S : St) (H : Heap) (locs : List Loc) (ls : Array Slot), k43 x1 x3 x4 x5 S → va_P g vwCl (wM ct ad S) H → va_D A (wM ct ad S) → va_S A s.heap H locs → lv_has ls 6 [(0, .ref (ad 0)), (1, .long x1), (3, .int x3), (4, .int x4), (5, .int x5)] → W p l e R s m args below meth c H locs 0 0 QQ (F0 m 43 ls [])) (x1 : Int64) (x3 : Int32) (x5 : Int32) (S : St) (H : Heap) (locs : List Loc) (ls : Array Slot), bX7_reckon_94 k32 k43 Q x1 x3 x5 S → va_P g vwCl (wM ct ad S) H → va_D A (wM ct ad S) → va_S A s.heap H locs → lv_has ls 6 [(0, .ref (ad 0)), (1, .long x1), (3, .int x3), (5, .int x5)] → W p l e R s m args below meth c H locs 0 0 QQ (F0 m 94 ls []) := by
    intro k32 hk32 k43 hk43 x1 x3 x5 S H locs ls h hP hD hS hl
    refine lv_iload C.1 C.2.1 dX7_reckon_94 (lv_at hl 3 rfl) ?_
    refine lv_goto (tgt := 101) C.1 C.2.1 dX7_reckon_96 (by decide) ?_
    exact B101 k32 hk32 k43 hk43 x1 x3 x5 x5 S H locs ls h hP hD hS (lv_sub hl [0, 1, 2, 3] rfl)
  have B43 : ∀ (k32 : Int64 → Int32 → St → Prop) (hk32 : ∀ (x1 : Int64) (x3 : Int32) (S : St) (H : Heap) (locs : List Loc) (ls : Array Slot), k32 x1 x3 S → va_P g vwCl (wM ct ad S) H → va_D A (wM ct ad S) → va_S A s.heap H locs → lv_has ls 6 [(0, .ref (ad 0)), (1, .long x1), (3, .int x3)] → W p l e R s m args below meth c H locs 0 0 QQ (F0 m 32 ls [])) (k43 : Int64 → Int32 → Int32 → Int32 → St → Prop) (hk43 : ∀ (x1 : Int64) (x3 : Int32) (x4 : Int32) (x5 : Int32) (S : St) (H : Heap) (locs : List Loc) (ls : Array Slot), k43 x1 x3 x4 x5 S → va_P g vwCl (wM ct ad S) H → va_D A (wM ct ad S) → va_S A s.heap H locs → lv_has ls 6 [(0, .ref (ad 0)), (1, .long x1), (3, .int x3), (4, .int x4), (5, .int x5)] → W p l e R s m args below meth c H locs 0 0 QQ (F0 m 43 ls [])) (x1 : Int64) (x3 : Int32) (x4 : Int32) (x5 : Int32) (S : St) (H : Heap) (locs : List Loc) (ls : Array Slot), bX7_reckon_43 k32 k43 Q x1 x3 x4 x5 S → va_P g vwCl (wM ct ad S) H → va_D A (wM ct ad S) → va_S A s.heap H locs → lv_has ls 6 [(0, .ref (ad 0)), (1, .long x1), (3, .int x3), (4, .int x4), (5, .int x5)] → W p l e R s m args below meth c H locs 0 0 QQ (F0 m 43 ls []) := by
    intro k32 hk32 k43 hk43 x1 x3 x4 x5 S H locs ls h hP hD hS hl
    refine lv_iload C.1 C.2.1 dX7_reckon_43 (lv_at hl 4 rfl) ?_
    refine lv_aload_n C.1 C.2.1 dX7_reckon_45 rfl (lv_at hl 0 rfl) ?_
    refine mg_accesses C hinX7 hK hP (by decide +kernel) dX7_reckon_46 ?_
    refine lv_icmp_ge (tgt := 109) C.1 C.2.1 dX7_reckon_49 (by decide) (fun c15 => ?_) (fun c15 => ?_)
    · have h := h.1 c15
      refine lv_lload_n C.1 C.2.1 dX7_reckon_109 rfl (lv_at hl 1 rfl) ?_
      refine lv_iload C.1 C.2.1 dX7_reckon_110 (lv_at hl 3 rfl) ?_
      refine lv_if_ge (tgt := 119) C.1 C.2.1 dX7_reckon_112 (by decide) (fun c5 => ?_) (fun c5 => ?_)
      · have h := h.1 c5
        refine lv_aload_n C.1 C.2.1 dX7_reckon_119 rfl (lv_at hl 0 rfl) ?_
        refine mg_written C hinX7 hK hP (by decide +kernel) dX7_reckon_120 ?_
        refine lv_iload C.1 C.2.1 dX7_reckon_123 (lv_at hl 3 rfl) ?_
        obtain ⟨g4, h⟩ := h
        refine ma_written C hK hP g4  rfl dX7_reckon_125 ?_
        exact B126 k32 hk32 x3 x1 (S.1 18 (Int32.toNatClampNeg x4)) S H locs ls h hP hD hS (lv_sub hl [0, 2] rfl)
      · have h := h.2 c5
        refine lv_iconst (v := 0) C.1 C.2.1 dX7_reckon_115 (by decide) ?_
        refine lv_goto (tgt := 126) C.1 C.2.1 dX7_reckon_116 (by decide) ?_
        exact B126 k32 hk32 x3 x1 (0 : Int32) S H locs ls h hP hD hS (lv_sub hl [0, 2] rfl)
    · have h := h.2 c15
      refine lv_aload_n C.1 C.2.1 dX7_reckon_52 rfl (lv_at hl 0 rfl) ?_
      refine lv_iload C.1 C.2.1 dX7_reckon_53 (lv_at hl 4 rfl) ?_
      refine g_callVi (w := wM ct ad) C hK hN hA hP hD hS (mX7_writes l g ct ad H.size S x5  _ h) (cwV 1 C.2.2.2.2 gX7_reckon_X7_writes rfl rfl rfl (by decide +kernel) ⟨Nat.le_trans (by decide) hRf, Nat.le_trans (by decide) hRl⟩) (va_recv hK hP (ci := 7) (q0 := 0) rfl rfl) rfl hl.1 rfl (Nat.le_of_ble_eq_true rfl) dX7_reckon_55 ⟨Nat.zero_le _, Nat.zero_le _⟩ (fun r7 S6 H locs h hP hD hS => ?_)
      refine lv_if_eq (tgt := 99) C.1 C.2.1 dX7_reckon_58 (by decide) (fun c14 => ?_) (fun c14 => ?_)
      · have h := h.1 c14
        exact B99 k32 hk32 k43 hk43 x1 x3 x4 x5 S6 H locs ls h hP hD hS (lv_sub hl [0, 1, 2, 3, 4] rfl)
      · have h := h.2 c14
        refine lv_aload_n C.1 C.2.1 dX7_reckon_61 rfl (lv_at hl 0 rfl) ?_
        refine mg_locationOf C hinX7 hK hP (by decide +kernel) dX7_reckon_62 ?_
        refine lv_iload C.1 C.2.1 dX7_reckon_65 (lv_at hl 4 rfl) ?_
        obtain ⟨g8, h⟩ := h
        refine ma_locationOf C hK hP g8  rfl dX7_reckon_67 ?_
        refine lv_iload_n C.1 C.2.1 dX7_reckon_68 rfl (lv_at hl 2 rfl) ?_
        refine lv_icmp_ne (tgt := 99) C.1 C.2.1 dX7_reckon_69 (by decide) (fun c13 => ?_) (fun c13 => ?_)
        · have h := h.1 c13
          exact B99 k32 hk32 k43 hk43 x1 x3 x4 x5 S6 H locs ls h hP hD hS (lv_sub hl [0, 1, 2, 3, 4] rfl)
        · have h := h.2 c13
          refine lv_iload C.1 C.2.1 dX7_reckon_72 (lv_at hl 3 rfl) ?_
          refine lv_if_lt (tgt := 94) C.1 C.2.1 dX7_reckon_74 (by decide) (fun c12 => ?_) (fun c12 => ?_)
          · have h := h.1 c12
            exact B94 k32 hk32 k43 hk43 x1 x3 x5 S6 H locs ls h hP hD hS (lv_sub hl [0, 1, 2, 4] rfl)
          · have h := h.2 c12
            refine lv_aload_n C.1 C.2.1 dX7_reckon_77 rfl (lv_at hl 0 rfl) ?_
            refine mg_place C hinX7 hK hP (by decide +kernel) dX7_reckon_78 ?_
            refine lv_iload C.1 C.2.1 dX7_reckon_81 (lv_at hl 4 rfl) ?_
            obtain ⟨g9, h⟩ := h
            refine ma_place C hK hP g9  rfl dX7_reckon_83 ?_
            refine lv_aload_n C.1 C.2.1 dX7_reckon_84 rfl (lv_at hl 0 rfl) ?_
            refine mg_place C hinX7 hK hP (by decide +kernel) dX7_reckon_85 ?_
            refine lv_iload C.1 C.2.1 dX7_reckon_88 (lv_at hl 3 rfl) ?_
            obtain ⟨g10, h⟩ := h
            refine ma_place C hK hP g10  rfl dX7_reckon_90 ?_
            refine lv_icmp_le (tgt := 99) C.1 C.2.1 dX7_reckon_91 (by decide) (fun c11 => ?_) (fun c11 => ?_)
            · have h := h.1 c11
              exact B99 k32 hk32 k43 hk43 x1 x3 x4 x5 S6 H locs ls h hP hD hS (lv_sub hl [0, 1, 2, 3, 4] rfl)
            · have h := h.2 c11
              exact B94 k32 hk32 k43 hk43 x1 x3 x5 S6 H locs ls h hP hD hS (lv_sub hl [0, 1, 2, 4] rfl)
  have L43 : ∀ (k32 : Int64 → Int32 → St → Prop) (hk32 : ∀ (x1 : Int64) (x3 : Int32) (S : St) (H : Heap) (locs : List Loc) (ls : Array Slot), k32 x1 x3 S → va_P g vwCl (wM ct ad S) H → va_D A (wM ct ad S) → va_S A s.heap H locs → lv_has ls 6 [(0, .ref (ad 0)), (1, .long x1), (3, .int x3)] → W p l e R s m args below meth c H locs 0 0 QQ (F0 m 32 ls [])) (N : Nat) (x1 : Int64) (x3 : Int32) (x4 : Int32) (x5 : Int32) (S : St) (H : Heap) (locs : List Loc) (ls : Array Slot), itr (F := Int64 → Int32 → Int32 → Int32 → St → Prop) (fun _ _ _ _ _ => False) (fun k43 x1 x3 x4 x5 S => bX7_reckon_43 k32 k43 Q x1 x3 x4 x5 S) N x1 x3 x4 x5 S → va_P g vwCl (wM ct ad S) H → va_D A (wM ct ad S) → va_S A s.heap H locs → lv_has ls 6 [(0, .ref (ad 0)), (1, .long x1), (3, .int x3), (4, .int x4), (5, .int x5)] → W p l e R s m args below meth c H locs 0 0 QQ (F0 m 43 ls []) := by
    intro k32 hk32 N
    induction N with
    | zero => intro x1 x3 x4 x5 S H locs ls h hP hD hS hl; exact False.elim h
    | succ N ih => intro x1 x3 x4 x5 S H locs ls h hP hD hS hl; exact B43 k32 hk32 (itr (F := Int64 → Int32 → Int32 → Int32 → St → Prop) (fun _ _ _ _ _ => False) (fun k43 x1 x3 x4 x5 S => bX7_reckon_43 k32 k43 Q x1 x3 x4 x5 S) N) ih x1 x3 x4 x5 S H locs ls h  hP hD hS hl
  have B32 : ∀ (k32 : Int64 → Int32 → St → Prop) (hk32 : ∀ (x1 : Int64) (x3 : Int32) (S : St) (H : Heap) (locs : List Loc) (ls : Array Slot), k32 x1 x3 S → va_P g vwCl (wM ct ad S) H → va_D A (wM ct ad S) → va_S A s.heap H locs → lv_has ls 6 [(0, .ref (ad 0)), (1, .long x1), (3, .int x3)] → W p l e R s m args below meth c H locs 0 0 QQ (F0 m 32 ls [])) (x1 : Int64) (x3 : Int32) (S : St) (H : Heap) (locs : List Loc) (ls : Array Slot), bX7_reckon_32 k32 Q x1 x3 S → va_P g vwCl (wM ct ad S) H → va_D A (wM ct ad S) → va_S A s.heap H locs → lv_has ls 6 [(0, .ref (ad 0)), (1, .long x1), (3, .int x3)] → W p l e R s m args below meth c H locs 0 0 QQ (F0 m 32 ls []) := by
    intro k32 hk32 x1 x3 S H locs ls h hP hD hS hl
    refine lv_iload_n C.1 C.2.1 dX7_reckon_32 rfl (lv_at hl 2 rfl) ?_
    refine lv_iconst (v := 3) C.1 C.2.1 dX7_reckon_33 (by decide) ?_
    refine lv_icmp_ge (tgt := 142) C.1 C.2.1 dX7_reckon_34 (by decide) (fun c16 => ?_) (fun c16 => ?_)
    · have h := h.1 c16
      refine lv_lload_n C.1 C.2.1 dX7_reckon_142 rfl (lv_at hl 1 rfl) ?_
      exact hret _ _ _ _ _ _ dX7_reckon_143 h hP hD hS
    · have h := h.2 c16
      refine lv_iconst (v := -1) C.1 C.2.1 dX7_reckon_37 (by decide) ?_
      refine lv_istore (lv' := [(4, .int (-1 : Int32)), (0, .ref (ad 0)), (1, .long x1), (3, .int x3)]) C.1 C.2.1 dX7_reckon_38 hl (by decide) rfl (fun ls hl => ?_)
      refine lv_iconst (v := 0) C.1 C.2.1 dX7_reckon_40 (by decide) ?_
      refine lv_istore (lv' := [(5, .int (0 : Int32)), (4, .int (-1 : Int32)), (0, .ref (ad 0)), (1, .long x1), (3, .int x3)]) C.1 C.2.1 dX7_reckon_41 hl (by decide) rfl (fun ls hl => ?_)
      obtain ⟨N, h⟩ := h
      exact L43 k32 hk32 N x1 x3 (-1 : Int32) (0 : Int32) S H locs ls h hP hD hS (lv_sub hl [2, 3, 4, 1, 0] rfl)
  have L32 : ∀ (N : Nat) (x1 : Int64) (x3 : Int32) (S : St) (H : Heap) (locs : List Loc) (ls : Array Slot), itr (F := Int64 → Int32 → St → Prop) (fun _ _ _ => False) (fun k32 x1 x3 S => bX7_reckon_32 k32 Q x1 x3 S) N x1 x3 S → va_P g vwCl (wM ct ad S) H → va_D A (wM ct ad S) → va_S A s.heap H locs → lv_has ls 6 [(0, .ref (ad 0)), (1, .long x1), (3, .int x3)] → W p l e R s m args below meth c H locs 0 0 QQ (F0 m 32 ls []) := by
    intro N
    induction N with
    | zero => intro x1 x3 S H locs ls h hP hD hS hl; exact False.elim h
    | succ N ih => intro x1 x3 S H locs ls h hP hD hS hl; exact B32  (itr (F := Int64 → Int32 → St → Prop) (fun _ _ _ => False) (fun k32 x1 x3 S => bX7_reckon_32 k32 Q x1 x3 S) N) ih x1 x3 S H locs ls h  hP hD hS hl
  have B4 : ∀ (k4 : Int64 → Int32 → St → Prop) (hk4 : ∀ (x1 : Int64) (x3 : Int32) (S : St) (H : Heap) (locs : List Loc) (ls : Array Slot), k4 x1 x3 S → va_P g vwCl (wM ct ad S) H → va_D A (wM ct ad S) → va_S A s.heap H locs → lv_has ls 6 [(0, .ref (ad 0)), (1, .long x1), (3, .int x3)] → W p l e R s m args below meth c H locs 0 0 QQ (F0 m 4 ls [])) (x1 : Int64) (x3 : Int32) (S : St) (H : Heap) (locs : List Loc) (ls : Array Slot), bX7_reckon_4 k4 Q x1 x3 S → va_P g vwCl (wM ct ad S) H → va_D A (wM ct ad S) → va_S A s.heap H locs → lv_has ls 6 [(0, .ref (ad 0)), (1, .long x1), (3, .int x3)] → W p l e R s m args below meth c H locs 0 0 QQ (F0 m 4 ls []) := by
    intro k4 hk4 x1 x3 S H locs ls h hP hD hS hl
    refine lv_iload_n C.1 C.2.1 dX7_reckon_4 rfl (lv_at hl 2 rfl) ?_
    refine lv_bipush (v := 16) C.1 C.2.1 dX7_reckon_5 (by decide) ?_
    refine lv_icmp_ge (tgt := 30) C.1 C.2.1 dX7_reckon_7 (by decide) (fun c20 => ?_) (fun c20 => ?_)
    · have h := h.1 c20
      refine lv_iconst (v := 0) C.1 C.2.1 dX7_reckon_30 (by decide) ?_
      refine lv_istore_n (lv' := [(3, .int (0 : Int32)), (0, .ref (ad 0)), (1, .long x1)]) C.1 C.2.1 dX7_reckon_31 rfl hl (by decide) rfl (fun ls hl => ?_)
      obtain ⟨N, h⟩ := h
      exact L32 N x1 (0 : Int32) S H locs ls h hP hD hS (lv_sub hl [1, 2, 0] rfl)
    · have h := h.2 c20
      refine lv_lload_n C.1 C.2.1 dX7_reckon_10 rfl (lv_at hl 1 rfl) ?_
      refine lv_aload_n C.1 C.2.1 dX7_reckon_11 rfl (lv_at hl 0 rfl) ?_
      refine mg_values C hinX7 hK hP (by decide +kernel) dX7_reckon_12 ?_
      refine lv_iload_n C.1 C.2.1 dX7_reckon_15 rfl (lv_at hl 2 rfl) ?_
      obtain ⟨g17, h⟩ := h
      refine ma_values C hK hP g17  rfl dX7_reckon_16 ?_
      refine lv_i2l C.1 C.2.1 dX7_reckon_17 rfl ?_
      refine lv_iconst (v := 2) C.1 C.2.1 dX7_reckon_18 (by decide) ?_
      refine lv_iload_n C.1 C.2.1 dX7_reckon_19 rfl (lv_at hl 2 rfl) ?_
      refine lv_imul C.1 C.2.1 dX7_reckon_20 ?_
      refine lv_lshl C.1 C.2.1 dX7_reckon_21 rfl ?_
      refine lv_lor C.1 C.2.1 dX7_reckon_22 ?_
      refine lv_topl (fun y18 ey18 => ?_)
      have h := h y18 ey18
      refine lv_lstore_n (lv' := [(1, .long y18), (0, .ref (ad 0)), (3, .int x3)]) C.1 C.2.1 dX7_reckon_23 rfl hl (by decide) rfl (fun ls hl => ?_)
      obtain ⟨y19, ey19⟩ : ∃ z : Int32, z = x3 + (1 : Int32) := ⟨_, rfl⟩
      have h := h y19 ey19
      refine lv_iinc (v := y19) (lv' := [(3, .int y19), (1, .long y18), (0, .ref (ad 0))]) C.1 C.2.1 dX7_reckon_24 hl (k := 2) rfl (by rw [ey19]; rfl) (by decide) rfl (fun ls hl => ?_)
      refine lv_goto (tgt := 4) C.1 C.2.1 dX7_reckon_27 (by decide) ?_
      exact hk4 y18 y19 S H locs ls h hP hD hS (lv_sub hl [2, 1, 0] rfl)
  have L4 : ∀ (N : Nat) (x1 : Int64) (x3 : Int32) (S : St) (H : Heap) (locs : List Loc) (ls : Array Slot), itr (F := Int64 → Int32 → St → Prop) (fun _ _ _ => False) (fun k4 x1 x3 S => bX7_reckon_4 k4 Q x1 x3 S) N x1 x3 S → va_P g vwCl (wM ct ad S) H → va_D A (wM ct ad S) → va_S A s.heap H locs → lv_has ls 6 [(0, .ref (ad 0)), (1, .long x1), (3, .int x3)] → W p l e R s m args below meth c H locs 0 0 QQ (F0 m 4 ls []) := by
    intro N
    induction N with
    | zero => intro x1 x3 S H locs ls h hP hD hS hl; exact False.elim h
    | succ N ih => intro x1 x3 S H locs ls h hP hD hS hl; exact B4  (itr (F := Int64 → Int32 → St → Prop) (fun _ _ _ => False) (fun k4 x1 x3 S => bX7_reckon_4 k4 Q x1 x3 S) N) ih x1 x3 S H locs ls h  hP hD hS hl
  refine lv_lconst (v := 0) C.1 C.2.1 dX7_reckon_0 (by decide) ?_
  refine lv_lstore_n (lv' := [(1, .long (0 : Int64)), (0, .ref (ad 0))]) C.1 C.2.1 dX7_reckon_1 rfl hl (by decide) rfl (fun ls hl => ?_)
  refine lv_iconst (v := 0) C.1 C.2.1 dX7_reckon_2 (by decide) ?_
  refine lv_istore_n (lv' := [(3, .int (0 : Int32)), (1, .long (0 : Int64)), (0, .ref (ad 0))]) C.1 C.2.1 dX7_reckon_3 rfl hl (by decide) rfl (fun ls hl => ?_)
  obtain ⟨N, h⟩ := h
  exact L4 N (0 : Int64) (0 : Int32) S H locs ls h hP hD hS (lv_sub hl [2, 1, 0] rfl)
theorem mX7_reckon (l : Launch) (g : va_G) (ct : Nat → ClassId) (ad : Nat → Nat) (sz : Nat) (S : St) (Q : Int64 → St → Prop) (h : pX7_reckon S Q) : Met l yX7_reckon wsX7_reckon ({ frames := 2, cells := 0, slots := 0, locals := 41 }) (gPc g (mT ct) (wM ct ad S) sz [.ref (ad 0)]) (va_Ql Q (gB g (mT ct) (wM ct ad) (va_A (wM ct ad S) sz)) (va_A (wM ct ad S) sz)) 0 0 (va_A (wM ct ad S) sz) :=
  g_metJ (w := wM ct ad) (cc := cX7_reckon) (maxL := 6) (by decide) rfl rfl (Nat.le_of_ble_eq_true rfl) rfl (fun p e s m args below meth c QQ A C hK hN hA hret H locs ls hP hD hS hl => kX7_reckon C hK hN hA (Nat.le_refl _) (Nat.le_refl _) Q hret  S h H locs ls hP hD hS hl)

def bX7_placeOf_46 (k8 : Int64 → Int32 → Int32 → St → Prop) (Q : Int32 → St → Prop) (x1 : Int64) (x3 : Int32) (x4 : Int32) (S : St) : Prop :=
  k8 x1 x3 x4 S
def bX7_placeOf_8 (k8 : Int64 → Int32 → Int32 → St → Prop) (Q : Int32 → St → Prop) (x1 : Int64) (x3 : Int32) (x4 : Int32) (S : St) : Prop :=
  ((x4 ≤ x3 → Q x3 S) ∧ (¬ (x4 ≤ x3) → (∀ y1 : Int32, y1 = ((x3 + x4) / (2 : Int32)) → (vp_in y1 40000 ∧ ((0 ≤ (lg_cmp (S.2.2 0 (Int32.toNatClampNeg y1)) x1) → bX7_placeOf_46 k8 Q x1 x3 y1 S) ∧ (¬ (0 ≤ (lg_cmp (S.2.2 0 (Int32.toNatClampNeg y1)) x1)) → (∀ y3 : Int32, y3 = (y1 + (1 : Int32)) → bX7_placeOf_46 k8 Q x1 y3 x4 S)))))))
def pX7_placeOf (x1 : Int64) (S : St) (Q : Int32 → St → Prop) : Prop :=
  (∀ y6 : Int32, y6 = (S.1 5 0) → (∃ N : Nat, itr (F := Int64 → Int32 → Int32 → St → Prop) (fun _ _ _ _ => False) (fun k8 x1 x3 x4 S => bX7_placeOf_8 k8 Q x1 x3 x4 S) N x1 (0 : Int32) y6 S))
set_option maxHeartbeats 40000000 in
set_option maxRecDepth 100000 in
theorem kX7_placeOf {p : Program} {l : Launch} {e : Env} {R : Room} {s : State} {m : MethodId} {args : Array Value} {below : List Frame} {meth : Method} {c : Code} {QQ : State → Prop} {g : va_G} {ct : Nat → ClassId} {ad : Nat → Nat} {A : Nat → Prop} (C : CallFix p m c cX7_placeOf 6 s args wsX7_placeOf RX7) (hK : va_K g vwCl (mT ct) s) (hN : xN s) (hA : ∀ q, s.heap.size ≤ q → A q) (hRf : 0 ≤ R.frames) (hRl : 0 ≤ R.locals) (Q : Int32 → St → Prop) (hret : ∀ (pc : Nat) (r : Int32) (S : St) (H : Heap) (locs : List Loc) (ls : Array Slot), decode cX7_placeOf pc = .ok (.ireturn, 1) → Q r S → va_P g vwCl (wM ct ad S) H → va_D A (wM ct ad S) → va_S A s.heap H locs → W p l e R s m args below meth c H locs 0 0 QQ (F0 m pc ls [.int r])) (x1 : Int64) (S : St) (h : pX7_placeOf x1 S Q) (H : Heap) (locs : List Loc) (ls : Array Slot) (hP : va_P g vwCl (wM ct ad S) H) (hD : va_D A (wM ct ad S)) (hS : va_S A s.heap H locs) (hl : lv_has ls 6 [(0, .ref (ad 0)), (1, .long x1)]) : W p l e R s m args below meth c H locs 0 0 QQ (F0 m 0 ls []) := by
  have hinX7 : ∀ w ∈ wsX70, w ∈ wsX7_placeOf := by decide +kernel
  have B46 : ∀ (k8 : Int64 → Int32 → Int32 → St → Prop) (hk8 : ∀ (x1 : Int64) (x3 : Int32) (x4 : Int32) (S : St) (H : Heap) (locs : List Loc) (ls : Array Slot), k8 x1 x3 x4 S → va_P g vwCl (wM ct ad S) H → va_D A (wM ct ad S) → va_S A s.heap H locs → lv_has ls 6 [(0, .ref (ad 0)), (1, .long x1), (3, .int x3), (4, .int x4)] → W p l e R s m args below meth c H locs 0 0 QQ (F0 m 8 ls [])) (x1 : Int64) (x3 : Int32) (x4 : Int32) (S : St) (H : Heap) (locs : List Loc) (ls : Array Slot), bX7_placeOf_46 k8 Q x1 x3 x4 S → va_P g vwCl (wM ct ad S) H → va_D A (wM ct ad S) → va_S A s.heap H locs → lv_has ls 6 [(0, .ref (ad 0)), (1, .long x1), (3, .int x3), (4, .int x4)] → W p l e R s m args below meth c H locs 0 0 QQ (F0 m 46 ls []) := by
    intro k8 hk8 x1 x3 x4 S H locs ls h hP hD hS hl
    refine lv_goto (tgt := 8) C.1 C.2.1 dX7_placeOf_46 (by decide) ?_
    exact hk8 x1 x3 x4 S H locs ls h hP hD hS (lv_sub hl [0, 1, 2, 3] rfl)
  have B8 : ∀ (k8 : Int64 → Int32 → Int32 → St → Prop) (hk8 : ∀ (x1 : Int64) (x3 : Int32) (x4 : Int32) (S : St) (H : Heap) (locs : List Loc) (ls : Array Slot), k8 x1 x3 x4 S → va_P g vwCl (wM ct ad S) H → va_D A (wM ct ad S) → va_S A s.heap H locs → lv_has ls 6 [(0, .ref (ad 0)), (1, .long x1), (3, .int x3), (4, .int x4)] → W p l e R s m args below meth c H locs 0 0 QQ (F0 m 8 ls [])) (x1 : Int64) (x3 : Int32) (x4 : Int32) (S : St) (H : Heap) (locs : List Loc) (ls : Array Slot), bX7_placeOf_8 k8 Q x1 x3 x4 S → va_P g vwCl (wM ct ad S) H → va_D A (wM ct ad S) → va_S A s.heap H locs → lv_has ls 6 [(0, .ref (ad 0)), (1, .long x1), (3, .int x3), (4, .int x4)] → W p l e R s m args below meth c H locs 0 0 QQ (F0 m 8 ls []) := by
    intro k8 hk8 x1 x3 x4 S H locs ls h hP hD hS hl
    refine lv_iload_n C.1 C.2.1 dX7_placeOf_8 rfl (lv_at hl 2 rfl) ?_
    refine lv_iload C.1 C.2.1 dX7_placeOf_9 (lv_at hl 3 rfl) ?_
    refine lv_icmp_ge (tgt := 49) C.1 C.2.1 dX7_placeOf_11 (by decide) (fun c5 => ?_) (fun c5 => ?_)
    · have h := h.1 c5
      refine lv_iload_n C.1 C.2.1 dX7_placeOf_49 rfl (lv_at hl 2 rfl) ?_
      exact hret _ _ _ _ _ _ dX7_placeOf_50 h hP hD hS
    · have h := h.2 c5
      refine lv_iload_n C.1 C.2.1 dX7_placeOf_14 rfl (lv_at hl 2 rfl) ?_
      refine lv_iload C.1 C.2.1 dX7_placeOf_15 (lv_at hl 3 rfl) ?_
      refine lv_iadd C.1 C.2.1 dX7_placeOf_17 ?_
      refine lv_iconst (v := 2) C.1 C.2.1 dX7_placeOf_18 (by decide) ?_
      refine lv_idiv C.1 C.2.1 dX7_placeOf_19 (by decide) ?_
      refine lv_topi (fun y1 ey1 => ?_)
      have h := h y1 ey1
      refine lv_istore (lv' := [(5, .int y1), (0, .ref (ad 0)), (1, .long x1), (3, .int x3), (4, .int x4)]) C.1 C.2.1 dX7_placeOf_20 hl (by decide) rfl (fun ls hl => ?_)
      refine lv_aload_n C.1 C.2.1 dX7_placeOf_22 rfl (lv_at hl 1 rfl) ?_
      refine mg_outcomes C hinX7 hK hP (by decide +kernel) dX7_placeOf_23 ?_
      refine lv_iload C.1 C.2.1 dX7_placeOf_26 (lv_at hl 0 rfl) ?_
      obtain ⟨g2, h⟩ := h
      refine ma_outcomes C hK hP g2  rfl dX7_placeOf_28 ?_
      refine lv_lload_n C.1 C.2.1 dX7_placeOf_29 rfl (lv_at hl 2 rfl) ?_
      refine W.lcmp C.1 C.2.1 dX7_placeOf_30 ?_
      refine lv_if_ge (tgt := 42) C.1 C.2.1 dX7_placeOf_31 (by decide) (fun c4 => ?_) (fun c4 => ?_)
      · have h := h.1 c4
        refine lv_iload C.1 C.2.1 dX7_placeOf_42 (lv_at hl 0 rfl) ?_
        refine lv_istore (lv' := [(4, .int y1), (5, .int y1), (0, .ref (ad 0)), (1, .long x1), (3, .int x3)]) C.1 C.2.1 dX7_placeOf_44 hl (by decide) rfl (fun ls hl => ?_)
        exact B46 k8 hk8 x1 x3 y1 S H locs ls h hP hD hS (lv_sub hl [2, 3, 4, 0] rfl)
      · have h := h.2 c4
        refine lv_iload C.1 C.2.1 dX7_placeOf_34 (lv_at hl 0 rfl) ?_
        refine lv_iconst (v := 1) C.1 C.2.1 dX7_placeOf_36 (by decide) ?_
        refine lv_iadd C.1 C.2.1 dX7_placeOf_37 ?_
        refine lv_topi (fun y3 ey3 => ?_)
        have h := h y3 ey3
        refine lv_istore_n (lv' := [(3, .int y3), (5, .int y1), (0, .ref (ad 0)), (1, .long x1), (4, .int x4)]) C.1 C.2.1 dX7_placeOf_38 rfl hl (by decide) rfl (fun ls hl => ?_)
        refine lv_goto (tgt := 46) C.1 C.2.1 dX7_placeOf_39 (by decide) ?_
        exact B46 k8 hk8 x1 y3 x4 S H locs ls h hP hD hS (lv_sub hl [2, 3, 0, 4] rfl)
  have L8 : ∀ (N : Nat) (x1 : Int64) (x3 : Int32) (x4 : Int32) (S : St) (H : Heap) (locs : List Loc) (ls : Array Slot), itr (F := Int64 → Int32 → Int32 → St → Prop) (fun _ _ _ _ => False) (fun k8 x1 x3 x4 S => bX7_placeOf_8 k8 Q x1 x3 x4 S) N x1 x3 x4 S → va_P g vwCl (wM ct ad S) H → va_D A (wM ct ad S) → va_S A s.heap H locs → lv_has ls 6 [(0, .ref (ad 0)), (1, .long x1), (3, .int x3), (4, .int x4)] → W p l e R s m args below meth c H locs 0 0 QQ (F0 m 8 ls []) := by
    intro N
    induction N with
    | zero => intro x1 x3 x4 S H locs ls h hP hD hS hl; exact False.elim h
    | succ N ih => intro x1 x3 x4 S H locs ls h hP hD hS hl; exact B8  (itr (F := Int64 → Int32 → Int32 → St → Prop) (fun _ _ _ _ => False) (fun k8 x1 x3 x4 S => bX7_placeOf_8 k8 Q x1 x3 x4 S) N) ih x1 x3 x4 S H locs ls h  hP hD hS hl
  refine lv_iconst (v := 0) C.1 C.2.1 dX7_placeOf_0 (by decide) ?_
  refine lv_istore_n (lv' := [(3, .int (0 : Int32)), (0, .ref (ad 0)), (1, .long x1)]) C.1 C.2.1 dX7_placeOf_1 rfl hl (by decide) rfl (fun ls hl => ?_)
  refine lv_aload_n C.1 C.2.1 dX7_placeOf_2 rfl (lv_at hl 1 rfl) ?_
  refine mg_many C hinX7 hK hP (by decide +kernel) dX7_placeOf_3 ?_
  refine lv_topi (fun y6 ey6 => ?_)
  have h := h y6 ey6
  refine lv_istore (lv' := [(4, .int y6), (3, .int (0 : Int32)), (0, .ref (ad 0)), (1, .long x1)]) C.1 C.2.1 dX7_placeOf_6 hl (by decide) rfl (fun ls hl => ?_)
  obtain ⟨N, h⟩ := h
  exact L8 N x1 (0 : Int32) y6 S H locs ls h hP hD hS (lv_sub hl [2, 3, 1, 0] rfl)
theorem mX7_placeOf (l : Launch) (g : va_G) (ct : Nat → ClassId) (ad : Nat → Nat) (sz : Nat) (S : St) (x1 : Int64) (Q : Int32 → St → Prop) (h : pX7_placeOf x1 S Q) : Met l yX7_placeOf wsX7_placeOf ({ frames := 0, cells := 0, slots := 0, locals := 0 }) (gPc g (mT ct) (wM ct ad S) sz [.ref (ad 0), .long x1]) (va_Qi Q (gB g (mT ct) (wM ct ad) (va_A (wM ct ad S) sz)) (va_A (wM ct ad S) sz)) 0 0 (va_A (wM ct ad S) sz) :=
  g_metI (w := wM ct ad) (cc := cX7_placeOf) (maxL := 6) (by decide) rfl rfl (Nat.le_of_ble_eq_true rfl) rfl (fun p e s m args below meth c QQ A C hK hN hA hret H locs ls hP hD hS hl => kX7_placeOf C hK hN hA (Nat.le_refl _) (Nat.le_refl _) Q hret x1 S h H locs ls hP hD hS hl)

def bX7_keep_32 (k32 : Int64 → Int32 → Int32 → St → Prop) (Q : St → Prop) (x1 : Int64) (x3 : Int32) (x4 : Int32) (S : St) : Prop :=
  ((x4 ≤ x3 → (vp_in x3 40000 ∧ ∀ S1 : St, S1 = wrL S 0 (Int32.toNatClampNeg x3) x1 → (∀ S3 : St, S3 = wr S1 5 0 ((S1.1 5 0) + (1 : Int32)) → Q S3))) ∧ (¬ (x4 ≤ x3) → (vp_in (x4 - (1 : Int32)) 40000 ∧ (vp_in x4 40000 ∧ ∀ S5 : St, S5 = wrL S 0 (Int32.toNatClampNeg x4) (S.2.2 0 (Int32.toNatClampNeg (x4 - (1 : Int32)))) → (∀ y7 : Int32, y7 = x4 + (-1 : Int32) → k32 x1 x3 y7 S5)))))
def bX7_keep_26 (Q : St → Prop) (x1 : Int64) (x3 : Int32) (S : St) : Prop :=
  (∀ y9 : Int32, y9 = (S.1 5 0) → (∃ N : Nat, itr (F := Int64 → Int32 → Int32 → St → Prop) (fun _ _ _ _ => False) (fun k32 x1 x3 x4 S => bX7_keep_32 k32 Q x1 x3 x4 S) N x1 x3 y9 S))
def pX7_keep (x1 : Int64) (S : St) (Q : St → Prop) : Prop :=
  pX7_placeOf x1 S (fun (r11 : Int32) (S10 : St) => (((S10.1 5 0) ≤ r11 → bX7_keep_26 Q x1 r11 S10) ∧ (¬ ((S10.1 5 0) ≤ r11) → (vp_in r11 40000 ∧ ((¬ (lg_cmp (S10.2.2 0 (Int32.toNatClampNeg r11)) x1) = 0 → bX7_keep_26 Q x1 r11 S10) ∧ ((lg_cmp (S10.2.2 0 (Int32.toNatClampNeg r11)) x1) = 0 → Q S10))))))
set_option maxHeartbeats 40000000 in
set_option maxRecDepth 100000 in
theorem kX7_keep {p : Program} {l : Launch} {e : Env} {R : Room} {s : State} {m : MethodId} {args : Array Value} {below : List Frame} {meth : Method} {c : Code} {QQ : State → Prop} {g : va_G} {ct : Nat → ClassId} {ad : Nat → Nat} {A : Nat → Prop} (C : CallFix p m c cX7_keep 5 s args wsX7_keep RX7) (hK : va_K g vwCl (mT ct) s) (hN : xN s) (hA : ∀ q, s.heap.size ≤ q → A q) (hRf : 1 ≤ R.frames) (hRl : 25 ≤ R.locals) (Q : St → Prop) (hret : ∀ (pc : Nat) (S : St) (H : Heap) (locs : List Loc) (ls : Array Slot), decode cX7_keep pc = .ok (.return_, 1) → Q S → va_P g vwCl (wM ct ad S) H → va_D A (wM ct ad S) → va_S A s.heap H locs → W p l e R s m args below meth c H locs 0 0 QQ (F0 m pc ls [])) (x1 : Int64) (S : St) (h : pX7_keep x1 S Q) (H : Heap) (locs : List Loc) (ls : Array Slot) (hP : va_P g vwCl (wM ct ad S) H) (hD : va_D A (wM ct ad S)) (hS : va_S A s.heap H locs) (hl : lv_has ls 5 [(0, .ref (ad 0)), (1, .long x1)]) : W p l e R s m args below meth c H locs 0 0 QQ (F0 m 0 ls []) := by
  have hinX7 : ∀ w ∈ wsX70, w ∈ wsX7_keep := by decide +kernel
  have B32 : ∀ (k32 : Int64 → Int32 → Int32 → St → Prop) (hk32 : ∀ (x1 : Int64) (x3 : Int32) (x4 : Int32) (S : St) (H : Heap) (locs : List Loc) (ls : Array Slot), k32 x1 x3 x4 S → va_P g vwCl (wM ct ad S) H → va_D A (wM ct ad S) → va_S A s.heap H locs → lv_has ls 5 [(0, .ref (ad 0)), (1, .long x1), (3, .int x3), (4, .int x4)] → W p l e R s m args below meth c H locs 0 0 QQ (F0 m 32 ls [])) (x1 : Int64) (x3 : Int32) (x4 : Int32) (S : St) (H : Heap) (locs : List Loc) (ls : Array Slot), bX7_keep_32 k32 Q x1 x3 x4 S → va_P g vwCl (wM ct ad S) H → va_D A (wM ct ad S) → va_S A s.heap H locs → lv_has ls 5 [(0, .ref (ad 0)), (1, .long x1), (3, .int x3), (4, .int x4)] → W p l e R s m args below meth c H locs 0 0 QQ (F0 m 32 ls []) := by
    intro k32 hk32 x1 x3 x4 S H locs ls h hP hD hS hl
    refine lv_iload C.1 C.2.1 dX7_keep_32 (lv_at hl 3 rfl) ?_
    refine lv_iload_n C.1 C.2.1 dX7_keep_34 rfl (lv_at hl 2 rfl) ?_
    refine lv_icmp_le (tgt := 60) C.1 C.2.1 dX7_keep_35 (by decide) (fun c8 => ?_) (fun c8 => ?_)
    · have h := h.1 c8
      refine lv_aload_n C.1 C.2.1 dX7_keep_60 rfl (lv_at hl 0 rfl) ?_
      refine mg_outcomes C hinX7 hK hP (by decide +kernel) dX7_keep_61 ?_
      refine lv_iload_n C.1 C.2.1 dX7_keep_64 rfl (lv_at hl 2 rfl) ?_
      refine lv_lload_n C.1 C.2.1 dX7_keep_65 rfl (lv_at hl 1 rfl) ?_
      obtain ⟨g2, h⟩ := h
      obtain ⟨S1, eS1⟩ : ∃ z : St, z = wrL S 0 (Int32.toNatClampNeg x3) x1 := ⟨_, rfl⟩
      have h := h S1 eS1
      refine ms_outcomes C hK hP hD hS  g2 rfl dX7_keep_66 (fun H locs hP hD hS => ?_)
      rw [← eS1] at hP hD
      refine lv_aload_n C.1 C.2.1 dX7_keep_67 rfl (lv_at hl 0 rfl) ?_
      refine lv_dup C.1 C.2.1 dX7_keep_68 rfl ?_
      refine mg_many C hinX7 hK hP (by decide +kernel) dX7_keep_69 ?_
      refine lv_iconst (v := 1) C.1 C.2.1 dX7_keep_72 (by decide) ?_
      refine lv_iadd C.1 C.2.1 dX7_keep_73 ?_
      obtain ⟨S3, eS3⟩ : ∃ z : St, z = wr S1 5 0 ((S1.1 5 0) + (1 : Int32)) := ⟨_, rfl⟩
      have h := h S3 eS3
      refine mp_many C hinX7 hK hP hD hS (by decide +kernel) dX7_keep_74 (fun H locs hP hD hS => ?_)
      rw [← eS3] at hP hD
      exact hret _ _ _ _ _ dX7_keep_77 h hP hD hS
    · have h := h.2 c8
      refine lv_aload_n C.1 C.2.1 dX7_keep_38 rfl (lv_at hl 0 rfl) ?_
      refine mg_outcomes C hinX7 hK hP (by decide +kernel) dX7_keep_39 ?_
      refine lv_iload C.1 C.2.1 dX7_keep_42 (lv_at hl 3 rfl) ?_
      refine lv_aload_n C.1 C.2.1 dX7_keep_44 rfl (lv_at hl 0 rfl) ?_
      refine mg_outcomes C hinX7 hK hP (by decide +kernel) dX7_keep_45 ?_
      refine lv_iload C.1 C.2.1 dX7_keep_48 (lv_at hl 3 rfl) ?_
      refine lv_iconst (v := 1) C.1 C.2.1 dX7_keep_50 (by decide) ?_
      refine lv_isub C.1 C.2.1 dX7_keep_51 ?_
      obtain ⟨g4, h⟩ := h
      refine ma_outcomes C hK hP g4  rfl dX7_keep_52 ?_
      obtain ⟨g6, h⟩ := h
      obtain ⟨S5, eS5⟩ : ∃ z : St, z = wrL S 0 (Int32.toNatClampNeg x4) (S.2.2 0 (Int32.toNatClampNeg (x4 - (1 : Int32)))) := ⟨_, rfl⟩
      have h := h S5 eS5
      refine ms_outcomes C hK hP hD hS  g6 rfl dX7_keep_53 (fun H locs hP hD hS => ?_)
      rw [← eS5] at hP hD
      obtain ⟨y7, ey7⟩ : ∃ z : Int32, z = x4 + (-1 : Int32) := ⟨_, rfl⟩
      have h := h y7 ey7
      refine lv_iinc (v := y7) (lv' := [(4, .int y7), (0, .ref (ad 0)), (1, .long x1), (3, .int x3)]) C.1 C.2.1 dX7_keep_54 hl (k := 3) rfl (by rw [ey7]; rfl) (by decide) rfl (fun ls hl => ?_)
      refine lv_goto (tgt := 32) C.1 C.2.1 dX7_keep_57 (by decide) ?_
      exact hk32 x1 x3 y7 S5 H locs ls h hP hD hS (lv_sub hl [1, 2, 3, 0] rfl)
  have L32 : ∀ (N : Nat) (x1 : Int64) (x3 : Int32) (x4 : Int32) (S : St) (H : Heap) (locs : List Loc) (ls : Array Slot), itr (F := Int64 → Int32 → Int32 → St → Prop) (fun _ _ _ _ => False) (fun k32 x1 x3 x4 S => bX7_keep_32 k32 Q x1 x3 x4 S) N x1 x3 x4 S → va_P g vwCl (wM ct ad S) H → va_D A (wM ct ad S) → va_S A s.heap H locs → lv_has ls 5 [(0, .ref (ad 0)), (1, .long x1), (3, .int x3), (4, .int x4)] → W p l e R s m args below meth c H locs 0 0 QQ (F0 m 32 ls []) := by
    intro N
    induction N with
    | zero => intro x1 x3 x4 S H locs ls h hP hD hS hl; exact False.elim h
    | succ N ih => intro x1 x3 x4 S H locs ls h hP hD hS hl; exact B32  (itr (F := Int64 → Int32 → Int32 → St → Prop) (fun _ _ _ _ => False) (fun k32 x1 x3 x4 S => bX7_keep_32 k32 Q x1 x3 x4 S) N) ih x1 x3 x4 S H locs ls h  hP hD hS hl
  have B26 : ∀ (x1 : Int64) (x3 : Int32) (S : St) (H : Heap) (locs : List Loc) (ls : Array Slot), bX7_keep_26 Q x1 x3 S → va_P g vwCl (wM ct ad S) H → va_D A (wM ct ad S) → va_S A s.heap H locs → lv_has ls 5 [(0, .ref (ad 0)), (1, .long x1), (3, .int x3)] → W p l e R s m args below meth c H locs 0 0 QQ (F0 m 26 ls []) := by
    intro x1 x3 S H locs ls h hP hD hS hl
    refine lv_aload_n C.1 C.2.1 dX7_keep_26 rfl (lv_at hl 0 rfl) ?_
    refine mg_many C hinX7 hK hP (by decide +kernel) dX7_keep_27 ?_
    refine lv_topi (fun y9 ey9 => ?_)
    have h := h y9 ey9
    refine lv_istore (lv' := [(4, .int y9), (0, .ref (ad 0)), (1, .long x1), (3, .int x3)]) C.1 C.2.1 dX7_keep_30 hl (by decide) rfl (fun ls hl => ?_)
    obtain ⟨N, h⟩ := h
    exact L32 N x1 x3 y9 S H locs ls h hP hD hS (lv_sub hl [1, 2, 3, 0] rfl)
  refine lv_aload_n C.1 C.2.1 dX7_keep_0 rfl (lv_at hl 0 rfl) ?_
  refine lv_lload_n C.1 C.2.1 dX7_keep_1 rfl (lv_at hl 1 rfl) ?_
  refine g_callVi (w := wM ct ad) C hK hN hA hP hD hS (mX7_placeOf l g ct ad H.size S x1  _ h) (cwV 1 C.2.2.2.2 gX7_keep_X7_placeOf rfl rfl rfl (by decide +kernel) ⟨Nat.le_trans (by decide) hRf, Nat.le_trans (by decide) hRl⟩) (va_recv hK hP (ci := 7) (q0 := 0) rfl rfl) rfl hl.1 rfl (Nat.le_of_ble_eq_true rfl) dX7_keep_2 ⟨Nat.zero_le _, Nat.zero_le _⟩ (fun r11 S10 H locs h hP hD hS => ?_)
  refine lv_istore_n (lv' := [(3, .int r11), (0, .ref (ad 0)), (1, .long x1)]) C.1 C.2.1 dX7_keep_5 rfl hl (by decide) rfl (fun ls hl => ?_)
  refine lv_iload_n C.1 C.2.1 dX7_keep_6 rfl (lv_at hl 0 rfl) ?_
  refine lv_aload_n C.1 C.2.1 dX7_keep_7 rfl (lv_at hl 1 rfl) ?_
  refine mg_many C hinX7 hK hP (by decide +kernel) dX7_keep_8 ?_
  refine lv_icmp_ge (tgt := 26) C.1 C.2.1 dX7_keep_11 (by decide) (fun c14 => ?_) (fun c14 => ?_)
  · have h := h.1 c14
    exact B26 x1 r11 S10 H locs ls h hP hD hS (lv_sub hl [1, 2, 0] rfl)
  · have h := h.2 c14
    refine lv_aload_n C.1 C.2.1 dX7_keep_14 rfl (lv_at hl 1 rfl) ?_
    refine mg_outcomes C hinX7 hK hP (by decide +kernel) dX7_keep_15 ?_
    refine lv_iload_n C.1 C.2.1 dX7_keep_18 rfl (lv_at hl 0 rfl) ?_
    obtain ⟨g12, h⟩ := h
    refine ma_outcomes C hK hP g12  rfl dX7_keep_19 ?_
    refine lv_lload_n C.1 C.2.1 dX7_keep_20 rfl (lv_at hl 2 rfl) ?_
    refine W.lcmp C.1 C.2.1 dX7_keep_21 ?_
    refine lv_if_ne (tgt := 26) C.1 C.2.1 dX7_keep_22 (by decide) (fun c13 => ?_) (fun c13 => ?_)
    · have h := h.1 c13
      exact B26 x1 r11 S10 H locs ls h hP hD hS (lv_sub hl [1, 2, 0] rfl)
    · have h := h.2 c13
      exact hret _ _ _ _ _ dX7_keep_25 h hP hD hS
theorem mX7_keep (l : Launch) (g : va_G) (ct : Nat → ClassId) (ad : Nat → Nat) (sz : Nat) (S : St) (x1 : Int64) (Q : St → Prop) (h : pX7_keep x1 S Q) : Met l yX7_keep wsX7_keep ({ frames := 1, cells := 0, slots := 0, locals := 25 }) (gPc g (mT ct) (wM ct ad S) sz [.ref (ad 0), .long x1]) (va_Qv Q (gB g (mT ct) (wM ct ad) (va_A (wM ct ad S) sz)) (va_A (wM ct ad S) sz)) 0 0 (va_A (wM ct ad S) sz) :=
  g_metV (w := wM ct ad) (cc := cX7_keep) (maxL := 5) (by decide) rfl rfl (Nat.le_of_ble_eq_true rfl) rfl (fun p e s m args below meth c QQ A C hK hN hA hret H locs ls hP hD hS hl => kX7_keep C hK hN hA (Nat.le_refl _) (Nat.le_refl _) Q hret x1 S h H locs ls hP hD hS hl)

def bX7_goThrough_80 (k31 : Int32 → Int32 → St → Prop) (Q : Int32 → St → Prop) (x1 : Int32) (S : St) : Prop :=
  pX7_nextOrder S (fun (r2 : Int32) (S1 : St) => k31 x1 r2 S1)
def bX7_goThrough_37 (k31 : Int32 → Int32 → St → Prop) (k37 : Int32 → Int32 → St → Prop) (Q : Int32 → St → Prop) (x1 : Int32) (x3 : Int32) (S : St) : Prop :=
  (((S.1 13 0) ≤ x3 → pX7_isOrder S (fun (r4 : Int32) (S3 : St) => ((r4 = 0 → bX7_goThrough_80 k31 Q x1 S3) ∧ (¬ (r4 = 0) → pX7_reckon S3 (fun (r6 : Int64) (S5 : St) => pX7_keep r6 S5 (fun (S7 : St) => bX7_goThrough_80 k31 Q (1 : Int32) S7)))))) ∧ (¬ ((S.1 13 0) ≤ x3) → (vp_in x3 6 ∧ (vp_in (S.1 30 (Int32.toNatClampNeg x3)) 6 ∧ ∀ S10 : St, S10 = wr S 31 (Int32.toNatClampNeg (S.1 30 (Int32.toNatClampNeg x3))) x3 → (∀ y12 : Int32, y12 = x3 + (1 : Int32) → k37 x1 y12 S10)))))
def bX7_goThrough_31 (k31 : Int32 → Int32 → St → Prop) (Q : Int32 → St → Prop) (x1 : Int32) (x2 : Int32) (S : St) : Prop :=
  ((x2 = 0 → (zb x1 ∧ Q x1 S)) ∧ (¬ (x2 = 0) → (∃ N : Nat, itr (F := Int32 → Int32 → St → Prop) (fun _ _ _ => False) (fun k37 x1 x3 S => bX7_goThrough_37 k31 k37 Q x1 x3 S) N x1 (0 : Int32) S)))
def bX7_goThrough_6 (k6 : Int32 → St → Prop) (Q : Int32 → St → Prop) (x1 : Int32) (S : St) : Prop :=
  (((S.1 13 0) ≤ x1 → (∃ N : Nat, itr (F := Int32 → Int32 → St → Prop) (fun _ _ _ => False) (fun k31 x1 x2 S => bX7_goThrough_31 k31 Q x1 x2 S) N (0 : Int32) (1 : Int32) S)) ∧ (¬ ((S.1 13 0) ≤ x1) → (vp_in x1 6 ∧ ∀ S15 : St, S15 = wr S 30 (Int32.toNatClampNeg x1) x1 → (∀ y17 : Int32, y17 = x1 + (1 : Int32) → k6 y17 S15))))
def pX7_goThrough (S : St) (Q : Int32 → St → Prop) : Prop :=
  pX7_findMust S (fun (S19 : St) => (∃ N : Nat, itr (F := Int32 → St → Prop) (fun _ _ => False) (fun k6 x1 S => bX7_goThrough_6 k6 Q x1 S) N (0 : Int32) S19))
set_option maxHeartbeats 40000000 in
set_option maxRecDepth 100000 in
theorem kX7_goThrough {p : Program} {l : Launch} {e : Env} {R : Room} {s : State} {m : MethodId} {args : Array Value} {below : List Frame} {meth : Method} {c : Code} {QQ : State → Prop} {g : va_G} {ct : Nat → ClassId} {ad : Nat → Nat} {A : Nat → Prop} (C : CallFix p m c cX7_goThrough 4 s args wsX7_goThrough RX7) (hK : va_K g vwCl (mT ct) s) (hN : xN s) (hA : ∀ q, s.heap.size ≤ q → A q) (hRf : 5 ≤ R.frames) (hRl : 114 ≤ R.locals) (Q : Int32 → St → Prop) (hret : ∀ (pc : Nat) (r : Int32) (S : St) (H : Heap) (locs : List Loc) (ls : Array Slot), decode cX7_goThrough pc = .ok (.ireturn, 1) → zb r → Q r S → va_P g vwCl (wM ct ad S) H → va_D A (wM ct ad S) → va_S A s.heap H locs → W p l e R s m args below meth c H locs 0 0 QQ (F0 m pc ls [.int r])) (S : St) (h : pX7_goThrough S Q) (H : Heap) (locs : List Loc) (ls : Array Slot) (hP : va_P g vwCl (wM ct ad S) H) (hD : va_D A (wM ct ad S)) (hS : va_S A s.heap H locs) (hl : lv_has ls 4 [(0, .ref (ad 0))]) : W p l e R s m args below meth c H locs 0 0 QQ (F0 m 0 ls []) := by
  have hinX7 : ∀ w ∈ wsX70, w ∈ wsX7_goThrough := by decide +kernel
  have B80 : ∀ (k31 : Int32 → Int32 → St → Prop) (hk31 : ∀ (x1 : Int32) (x2 : Int32) (S : St) (H : Heap) (locs : List Loc) (ls : Array Slot), k31 x1 x2 S → va_P g vwCl (wM ct ad S) H → va_D A (wM ct ad S) → va_S A s.heap H locs → lv_has ls 4 [(0, .ref (ad 0)), (1, .int x1), (2, .int x2)] → W p l e R s m args below meth c H locs 0 0 QQ (F0 m 31 ls [])) (x1 : Int32) (S : St) (H : Heap) (locs : List Loc) (ls : Array Slot), bX7_goThrough_80 k31 Q x1 S → va_P g vwCl (wM ct ad S) H → va_D A (wM ct ad S) → va_S A s.heap H locs → lv_has ls 4 [(0, .ref (ad 0)), (1, .int x1)] → W p l e R s m args below meth c H locs 0 0 QQ (F0 m 80 ls []) := by
    intro k31 hk31 x1 S H locs ls h hP hD hS hl
    refine lv_aload_n C.1 C.2.1 dX7_goThrough_80 rfl (lv_at hl 0 rfl) ?_
    refine g_callVi (w := wM ct ad) C hK hN hA hP hD hS (mX7_nextOrder l g ct ad H.size S   _ h) (cwV 0 C.2.2.2.2 gX7_goThrough_X7_nextOrder rfl rfl rfl (by decide +kernel) ⟨Nat.le_trans (by decide) hRf, Nat.le_trans (by decide) hRl⟩) (va_recv hK hP (ci := 7) (q0 := 0) rfl rfl) rfl hl.1 rfl (Nat.le_of_ble_eq_true rfl) dX7_goThrough_81 ⟨Nat.zero_le _, Nat.zero_le _⟩ (fun r2 S1 H locs h hP hD hS => ?_)
    refine lv_istore_n (lv' := [(2, .int r2), (0, .ref (ad 0)), (1, .int x1)]) C.1 C.2.1 dX7_goThrough_84 rfl hl (by decide) rfl (fun ls hl => ?_)
    refine lv_goto (tgt := 31) C.1 C.2.1 dX7_goThrough_85 (by decide) ?_
    exact hk31 x1 r2 S1 H locs ls h hP hD hS (lv_sub hl [1, 2, 0] rfl)
  have B37 : ∀ (k31 : Int32 → Int32 → St → Prop) (hk31 : ∀ (x1 : Int32) (x2 : Int32) (S : St) (H : Heap) (locs : List Loc) (ls : Array Slot), k31 x1 x2 S → va_P g vwCl (wM ct ad S) H → va_D A (wM ct ad S) → va_S A s.heap H locs → lv_has ls 4 [(0, .ref (ad 0)), (1, .int x1), (2, .int x2)] → W p l e R s m args below meth c H locs 0 0 QQ (F0 m 31 ls [])) (k37 : Int32 → Int32 → St → Prop) (hk37 : ∀ (x1 : Int32) (x3 : Int32) (S : St) (H : Heap) (locs : List Loc) (ls : Array Slot), k37 x1 x3 S → va_P g vwCl (wM ct ad S) H → va_D A (wM ct ad S) → va_S A s.heap H locs → lv_has ls 4 [(0, .ref (ad 0)), (1, .int x1), (3, .int x3)] → W p l e R s m args below meth c H locs 0 0 QQ (F0 m 37 ls [])) (x1 : Int32) (x3 : Int32) (S : St) (H : Heap) (locs : List Loc) (ls : Array Slot), bX7_goThrough_37 k31 k37 Q x1 x3 S → va_P g vwCl (wM ct ad S) H → va_D A (wM ct ad S) → va_S A s.heap H locs → lv_has ls 4 [(0, .ref (ad 0)), (1, .int x1), (3, .int x3)] → W p l e R s m args below meth c H locs 0 0 QQ (F0 m 37 ls []) := by
    intro k31 hk31 k37 hk37 x1 x3 S H locs ls h hP hD hS hl
    refine lv_iload_n C.1 C.2.1 dX7_goThrough_37 rfl (lv_at hl 2 rfl) ?_
    refine lv_aload_n C.1 C.2.1 dX7_goThrough_38 rfl (lv_at hl 0 rfl) ?_
    refine mg_accesses C hinX7 hK hP (by decide +kernel) dX7_goThrough_39 ?_
    refine lv_icmp_ge (tgt := 63) C.1 C.2.1 dX7_goThrough_42 (by decide) (fun c13 => ?_) (fun c13 => ?_)
    · have h := h.1 c13
      refine lv_aload_n C.1 C.2.1 dX7_goThrough_63 rfl (lv_at hl 0 rfl) ?_
      refine g_callVi (w := wM ct ad) C hK hN hA hP hD hS (mX7_isOrder l g ct ad H.size S   _ h) (cwV 0 C.2.2.2.2 gX7_goThrough_X7_isOrder rfl rfl rfl (by decide +kernel) ⟨Nat.le_trans (by decide) hRf, Nat.le_trans (by decide) hRl⟩) (va_recv hK hP (ci := 7) (q0 := 0) rfl rfl) rfl hl.1 rfl (Nat.le_of_ble_eq_true rfl) dX7_goThrough_64 ⟨Nat.zero_le _, Nat.zero_le _⟩ (fun r4 S3 H locs h hP hD hS => ?_)
      refine lv_if_eq (tgt := 80) C.1 C.2.1 dX7_goThrough_67 (by decide) (fun c8 => ?_) (fun c8 => ?_)
      · have h := h.1 c8
        exact B80 k31 hk31 x1 S3 H locs ls h hP hD hS (lv_sub hl [0, 1] rfl)
      · have h := h.2 c8
        refine lv_iconst (v := 1) C.1 C.2.1 dX7_goThrough_70 (by decide) ?_
        refine lv_istore_n (lv' := [(1, .int (1 : Int32)), (0, .ref (ad 0)), (3, .int x3)]) C.1 C.2.1 dX7_goThrough_71 rfl hl (by decide) rfl (fun ls hl => ?_)
        refine lv_aload_n C.1 C.2.1 dX7_goThrough_72 rfl (lv_at hl 1 rfl) ?_
        refine lv_aload_n C.1 C.2.1 dX7_goThrough_73 rfl (lv_at hl 1 rfl) ?_
        refine g_callVj (w := wM ct ad) C hK hN hA hP hD hS (mX7_reckon l g ct ad H.size S3   _ h) (cwV 0 C.2.2.2.2 gX7_goThrough_X7_reckon rfl rfl rfl (by decide +kernel) ⟨Nat.le_trans (by decide) hRf, Nat.le_trans (by decide) hRl⟩) (va_recv hK hP (ci := 7) (q0 := 0) rfl rfl) rfl hl.1 rfl (Nat.le_of_ble_eq_true rfl) dX7_goThrough_74 ⟨Nat.zero_le _, Nat.zero_le _⟩ (fun r6 S5 H locs h hP hD hS => ?_)
        refine g_callVv (w := wM ct ad) C hK hN hA hP hD hS (mX7_keep l g ct ad H.size S5 r6  _ h) (cwV 1 C.2.2.2.2 gX7_goThrough_X7_keep rfl rfl rfl (by decide +kernel) ⟨Nat.le_trans (by decide) hRf, Nat.le_trans (by decide) hRl⟩) (va_recv hK hP (ci := 7) (q0 := 0) rfl rfl) rfl hl.1 rfl (Nat.le_of_ble_eq_true rfl) dX7_goThrough_77 ⟨Nat.zero_le _, Nat.zero_le _⟩ (fun S7 H locs h hP hD hS => ?_)
        exact B80 k31 hk31 (1 : Int32) S7 H locs ls h hP hD hS (lv_sub hl [1, 0] rfl)
    · have h := h.2 c13
      refine lv_aload_n C.1 C.2.1 dX7_goThrough_45 rfl (lv_at hl 0 rfl) ?_
      refine mg_place C hinX7 hK hP (by decide +kernel) dX7_goThrough_46 ?_
      refine lv_aload_n C.1 C.2.1 dX7_goThrough_49 rfl (lv_at hl 0 rfl) ?_
      refine mg_order C hinX7 hK hP (by decide +kernel) dX7_goThrough_50 ?_
      refine lv_iload_n C.1 C.2.1 dX7_goThrough_53 rfl (lv_at hl 2 rfl) ?_
      obtain ⟨g9, h⟩ := h
      refine ma_order C hK hP g9  rfl dX7_goThrough_54 ?_
      refine lv_iload_n C.1 C.2.1 dX7_goThrough_55 rfl (lv_at hl 2 rfl) ?_
      obtain ⟨g11, h⟩ := h
      obtain ⟨S10, eS10⟩ : ∃ z : St, z = wr S 31 (Int32.toNatClampNeg (S.1 30 (Int32.toNatClampNeg x3))) x3 := ⟨_, rfl⟩
      have h := h S10 eS10
      refine ms_place C hK hP hD hS  g11 rfl dX7_goThrough_56 (fun H locs hP hD hS => ?_)
      rw [← eS10] at hP hD
      obtain ⟨y12, ey12⟩ : ∃ z : Int32, z = x3 + (1 : Int32) := ⟨_, rfl⟩
      have h := h y12 ey12
      refine lv_iinc (v := y12) (lv' := [(3, .int y12), (0, .ref (ad 0)), (1, .int x1)]) C.1 C.2.1 dX7_goThrough_57 hl (k := 2) rfl (by rw [ey12]; rfl) (by decide) rfl (fun ls hl => ?_)
      refine lv_goto (tgt := 37) C.1 C.2.1 dX7_goThrough_60 (by decide) ?_
      exact hk37 x1 y12 S10 H locs ls h hP hD hS (lv_sub hl [1, 2, 0] rfl)
  have L37 : ∀ (k31 : Int32 → Int32 → St → Prop) (hk31 : ∀ (x1 : Int32) (x2 : Int32) (S : St) (H : Heap) (locs : List Loc) (ls : Array Slot), k31 x1 x2 S → va_P g vwCl (wM ct ad S) H → va_D A (wM ct ad S) → va_S A s.heap H locs → lv_has ls 4 [(0, .ref (ad 0)), (1, .int x1), (2, .int x2)] → W p l e R s m args below meth c H locs 0 0 QQ (F0 m 31 ls [])) (N : Nat) (x1 : Int32) (x3 : Int32) (S : St) (H : Heap) (locs : List Loc) (ls : Array Slot), itr (F := Int32 → Int32 → St → Prop) (fun _ _ _ => False) (fun k37 x1 x3 S => bX7_goThrough_37 k31 k37 Q x1 x3 S) N x1 x3 S → va_P g vwCl (wM ct ad S) H → va_D A (wM ct ad S) → va_S A s.heap H locs → lv_has ls 4 [(0, .ref (ad 0)), (1, .int x1), (3, .int x3)] → W p l e R s m args below meth c H locs 0 0 QQ (F0 m 37 ls []) := by
    intro k31 hk31 N
    induction N with
    | zero => intro x1 x3 S H locs ls h hP hD hS hl; exact False.elim h
    | succ N ih => intro x1 x3 S H locs ls h hP hD hS hl; exact B37 k31 hk31 (itr (F := Int32 → Int32 → St → Prop) (fun _ _ _ => False) (fun k37 x1 x3 S => bX7_goThrough_37 k31 k37 Q x1 x3 S) N) ih x1 x3 S H locs ls h  hP hD hS hl
  have B31 : ∀ (k31 : Int32 → Int32 → St → Prop) (hk31 : ∀ (x1 : Int32) (x2 : Int32) (S : St) (H : Heap) (locs : List Loc) (ls : Array Slot), k31 x1 x2 S → va_P g vwCl (wM ct ad S) H → va_D A (wM ct ad S) → va_S A s.heap H locs → lv_has ls 4 [(0, .ref (ad 0)), (1, .int x1), (2, .int x2)] → W p l e R s m args below meth c H locs 0 0 QQ (F0 m 31 ls [])) (x1 : Int32) (x2 : Int32) (S : St) (H : Heap) (locs : List Loc) (ls : Array Slot), bX7_goThrough_31 k31 Q x1 x2 S → va_P g vwCl (wM ct ad S) H → va_D A (wM ct ad S) → va_S A s.heap H locs → lv_has ls 4 [(0, .ref (ad 0)), (1, .int x1), (2, .int x2)] → W p l e R s m args below meth c H locs 0 0 QQ (F0 m 31 ls []) := by
    intro k31 hk31 x1 x2 S H locs ls h hP hD hS hl
    refine lv_iload_n C.1 C.2.1 dX7_goThrough_31 rfl (lv_at hl 2 rfl) ?_
    refine lv_if_eq (tgt := 88) C.1 C.2.1 dX7_goThrough_32 (by decide) (fun c14 => ?_) (fun c14 => ?_)
    · have h := h.1 c14
      refine lv_iload_n C.1 C.2.1 dX7_goThrough_88 rfl (lv_at hl 1 rfl) ?_
      exact hret _ _ _ _ _ _ dX7_goThrough_89 h.1 h.2 hP hD hS
    · have h := h.2 c14
      refine lv_iconst (v := 0) C.1 C.2.1 dX7_goThrough_35 (by decide) ?_
      refine lv_istore_n (lv' := [(3, .int (0 : Int32)), (0, .ref (ad 0)), (1, .int x1), (2, .int x2)]) C.1 C.2.1 dX7_goThrough_36 rfl hl (by decide) rfl (fun ls hl => ?_)
      obtain ⟨N, h⟩ := h
      exact L37 k31 hk31 N x1 (0 : Int32) S H locs ls h hP hD hS (lv_sub hl [1, 2, 0] rfl)
  have L31 : ∀ (N : Nat) (x1 : Int32) (x2 : Int32) (S : St) (H : Heap) (locs : List Loc) (ls : Array Slot), itr (F := Int32 → Int32 → St → Prop) (fun _ _ _ => False) (fun k31 x1 x2 S => bX7_goThrough_31 k31 Q x1 x2 S) N x1 x2 S → va_P g vwCl (wM ct ad S) H → va_D A (wM ct ad S) → va_S A s.heap H locs → lv_has ls 4 [(0, .ref (ad 0)), (1, .int x1), (2, .int x2)] → W p l e R s m args below meth c H locs 0 0 QQ (F0 m 31 ls []) := by
    intro N
    induction N with
    | zero => intro x1 x2 S H locs ls h hP hD hS hl; exact False.elim h
    | succ N ih => intro x1 x2 S H locs ls h hP hD hS hl; exact B31  (itr (F := Int32 → Int32 → St → Prop) (fun _ _ _ => False) (fun k31 x1 x2 S => bX7_goThrough_31 k31 Q x1 x2 S) N) ih x1 x2 S H locs ls h  hP hD hS hl
  have B6 : ∀ (k6 : Int32 → St → Prop) (hk6 : ∀ (x1 : Int32) (S : St) (H : Heap) (locs : List Loc) (ls : Array Slot), k6 x1 S → va_P g vwCl (wM ct ad S) H → va_D A (wM ct ad S) → va_S A s.heap H locs → lv_has ls 4 [(0, .ref (ad 0)), (1, .int x1)] → W p l e R s m args below meth c H locs 0 0 QQ (F0 m 6 ls [])) (x1 : Int32) (S : St) (H : Heap) (locs : List Loc) (ls : Array Slot), bX7_goThrough_6 k6 Q x1 S → va_P g vwCl (wM ct ad S) H → va_D A (wM ct ad S) → va_S A s.heap H locs → lv_has ls 4 [(0, .ref (ad 0)), (1, .int x1)] → W p l e R s m args below meth c H locs 0 0 QQ (F0 m 6 ls []) := by
    intro k6 hk6 x1 S H locs ls h hP hD hS hl
    refine lv_iload_n C.1 C.2.1 dX7_goThrough_6 rfl (lv_at hl 1 rfl) ?_
    refine lv_aload_n C.1 C.2.1 dX7_goThrough_7 rfl (lv_at hl 0 rfl) ?_
    refine mg_accesses C hinX7 hK hP (by decide +kernel) dX7_goThrough_8 ?_
    refine lv_icmp_ge (tgt := 27) C.1 C.2.1 dX7_goThrough_11 (by decide) (fun c18 => ?_) (fun c18 => ?_)
    · have h := h.1 c18
      refine lv_iconst (v := 0) C.1 C.2.1 dX7_goThrough_27 (by decide) ?_
      refine lv_istore_n (lv' := [(1, .int (0 : Int32)), (0, .ref (ad 0))]) C.1 C.2.1 dX7_goThrough_28 rfl hl (by decide) rfl (fun ls hl => ?_)
      refine lv_iconst (v := 1) C.1 C.2.1 dX7_goThrough_29 (by decide) ?_
      refine lv_istore_n (lv' := [(2, .int (1 : Int32)), (1, .int (0 : Int32)), (0, .ref (ad 0))]) C.1 C.2.1 dX7_goThrough_30 rfl hl (by decide) rfl (fun ls hl => ?_)
      obtain ⟨N, h⟩ := h
      exact L31 N (0 : Int32) (1 : Int32) S H locs ls h hP hD hS (lv_sub hl [2, 1, 0] rfl)
    · have h := h.2 c18
      refine lv_aload_n C.1 C.2.1 dX7_goThrough_14 rfl (lv_at hl 0 rfl) ?_
      refine mg_order C hinX7 hK hP (by decide +kernel) dX7_goThrough_15 ?_
      refine lv_iload_n C.1 C.2.1 dX7_goThrough_18 rfl (lv_at hl 1 rfl) ?_
      refine lv_iload_n C.1 C.2.1 dX7_goThrough_19 rfl (lv_at hl 1 rfl) ?_
      obtain ⟨g16, h⟩ := h
      obtain ⟨S15, eS15⟩ : ∃ z : St, z = wr S 30 (Int32.toNatClampNeg x1) x1 := ⟨_, rfl⟩
      have h := h S15 eS15
      refine ms_order C hK hP hD hS  g16 rfl dX7_goThrough_20 (fun H locs hP hD hS => ?_)
      rw [← eS15] at hP hD
      obtain ⟨y17, ey17⟩ : ∃ z : Int32, z = x1 + (1 : Int32) := ⟨_, rfl⟩
      have h := h y17 ey17
      refine lv_iinc (v := y17) (lv' := [(1, .int y17), (0, .ref (ad 0))]) C.1 C.2.1 dX7_goThrough_21 hl (k := 1) rfl (by rw [ey17]; rfl) (by decide) rfl (fun ls hl => ?_)
      refine lv_goto (tgt := 6) C.1 C.2.1 dX7_goThrough_24 (by decide) ?_
      exact hk6 y17 S15 H locs ls h hP hD hS (lv_sub hl [1, 0] rfl)
  have L6 : ∀ (N : Nat) (x1 : Int32) (S : St) (H : Heap) (locs : List Loc) (ls : Array Slot), itr (F := Int32 → St → Prop) (fun _ _ => False) (fun k6 x1 S => bX7_goThrough_6 k6 Q x1 S) N x1 S → va_P g vwCl (wM ct ad S) H → va_D A (wM ct ad S) → va_S A s.heap H locs → lv_has ls 4 [(0, .ref (ad 0)), (1, .int x1)] → W p l e R s m args below meth c H locs 0 0 QQ (F0 m 6 ls []) := by
    intro N
    induction N with
    | zero => intro x1 S H locs ls h hP hD hS hl; exact False.elim h
    | succ N ih => intro x1 S H locs ls h hP hD hS hl; exact B6  (itr (F := Int32 → St → Prop) (fun _ _ => False) (fun k6 x1 S => bX7_goThrough_6 k6 Q x1 S) N) ih x1 S H locs ls h  hP hD hS hl
  refine lv_aload_n C.1 C.2.1 dX7_goThrough_0 rfl (lv_at hl 0 rfl) ?_
  refine g_callVv (w := wM ct ad) C hK hN hA hP hD hS (mX7_findMust l g ct ad H.size S   _ h) (cwV 0 C.2.2.2.2 gX7_goThrough_X7_findMust rfl rfl rfl (by decide +kernel) ⟨Nat.le_trans (by decide) hRf, Nat.le_trans (by decide) hRl⟩) (va_recv hK hP (ci := 7) (q0 := 0) rfl rfl) rfl hl.1 rfl (Nat.le_of_ble_eq_true rfl) dX7_goThrough_1 ⟨Nat.zero_le _, Nat.zero_le _⟩ (fun S19 H locs h hP hD hS => ?_)
  refine lv_iconst (v := 0) C.1 C.2.1 dX7_goThrough_4 (by decide) ?_
  refine lv_istore_n (lv' := [(1, .int (0 : Int32)), (0, .ref (ad 0))]) C.1 C.2.1 dX7_goThrough_5 rfl hl (by decide) rfl (fun ls hl => ?_)
  obtain ⟨N, h⟩ := h
  exact L6 N (0 : Int32) S19 H locs ls h hP hD hS (lv_sub hl [1, 0] rfl)
theorem mX7_goThrough (l : Launch) (g : va_G) (ct : Nat → ClassId) (ad : Nat → Nat) (sz : Nat) (S : St) (Q : Int32 → St → Prop) (h : pX7_goThrough S Q) : Met l yX7_goThrough wsX7_goThrough ({ frames := 5, cells := 0, slots := 0, locals := 114 }) (gPc g (mT ct) (wM ct ad S) sz [.ref (ad 0)]) (va_Qi Q (gB g (mT ct) (wM ct ad) (va_A (wM ct ad S) sz)) (va_A (wM ct ad S) sz)) 0 0 (va_A (wM ct ad S) sz) :=
  g_metZ (w := wM ct ad) (cc := cX7_goThrough) (maxL := 4) (by decide) rfl rfl (Nat.le_of_ble_eq_true rfl) rfl (fun p e s m args below meth c QQ A C hK hN hA hret H locs ls hP hD hS hl => kX7_goThrough C hK hN hA (Nat.le_refl _) (Nat.le_refl _) Q hret  S h H locs ls hP hD hS hl)

def bX7_find_54 (k29 : Int32 → St → Prop) (Q : Int32 → St → Prop) (S : St) : Prop :=
  pX7_nextWay S (fun (r2 : Int32) (S1 : St) => k29 r2 S1)
def bX7_find_29 (k29 : Int32 → St → Prop) (Q : Int32 → St → Prop) (x1 : Int32) (S : St) : Prop :=
  ((x1 = 0 → (∀ S3 : St, S3 = wr S 3 0 (1 : Int32) → Q (S3.1 5 0) S3)) ∧ (¬ (x1 = 0) → pX7_doWay S (fun (S4 : St) => pX7_goThrough S4 (fun (r6 : Int32) (S5 : St) => ((r6 = 0 → bX7_find_54 k29 Q  S5) ∧ (¬ (r6 = 0) → (∀ S7 : St, S7 = wr S5 6 0 ((S5.1 6 0) + (1 : Int32)) → bX7_find_54 k29 Q  S7)))))))
def pX7_find (S : St) (Q : Int32 → St → Prop) : Prop :=
  (((S.1 3 0) = 0 → (∀ S10 : St, S10 = wr S 5 0 (0 : Int32) → (∀ S11 : St, S11 = wr S10 6 0 (0 : Int32) → (∀ S12 : St, S12 = wr S11 9 0 (0 : Int32) → (∃ N : Nat, itr (F := Int32 → St → Prop) (fun _ _ => False) (fun k29 x1 S => bX7_find_29 k29 Q x1 S) N (1 : Int32) S12))))) ∧ (¬ ((S.1 3 0) = 0) → Q (S.1 5 0) S))
set_option maxHeartbeats 40000000 in
set_option maxRecDepth 100000 in
theorem kX7_find {p : Program} {l : Launch} {e : Env} {R : Room} {s : State} {m : MethodId} {args : Array Value} {below : List Frame} {meth : Method} {c : Code} {QQ : State → Prop} {g : va_G} {ct : Nat → ClassId} {ad : Nat → Nat} {A : Nat → Prop} (C : CallFix p m c cX7_find 2 s args wsX7_find RX7) (hK : va_K g vwCl (mT ct) s) (hN : xN s) (hA : ∀ q, s.heap.size ≤ q → A q) (hRf : 6 ≤ R.frames) (hRl : 137 ≤ R.locals) (Q : Int32 → St → Prop) (hret : ∀ (pc : Nat) (r : Int32) (S : St) (H : Heap) (locs : List Loc) (ls : Array Slot), decode cX7_find pc = .ok (.ireturn, 1) → Q r S → va_P g vwCl (wM ct ad S) H → va_D A (wM ct ad S) → va_S A s.heap H locs → W p l e R s m args below meth c H locs 0 0 QQ (F0 m pc ls [.int r])) (S : St) (h : pX7_find S Q) (H : Heap) (locs : List Loc) (ls : Array Slot) (hP : va_P g vwCl (wM ct ad S) H) (hD : va_D A (wM ct ad S)) (hS : va_S A s.heap H locs) (hl : lv_has ls 2 [(0, .ref (ad 0))]) : W p l e R s m args below meth c H locs 0 0 QQ (F0 m 0 ls []) := by
  have hinX7 : ∀ w ∈ wsX70, w ∈ wsX7_find := by decide +kernel
  have B54 : ∀ (k29 : Int32 → St → Prop) (hk29 : ∀ (x1 : Int32) (S : St) (H : Heap) (locs : List Loc) (ls : Array Slot), k29 x1 S → va_P g vwCl (wM ct ad S) H → va_D A (wM ct ad S) → va_S A s.heap H locs → lv_has ls 2 [(0, .ref (ad 0)), (1, .int x1)] → W p l e R s m args below meth c H locs 0 0 QQ (F0 m 29 ls [])) (S : St) (H : Heap) (locs : List Loc) (ls : Array Slot), bX7_find_54 k29 Q S → va_P g vwCl (wM ct ad S) H → va_D A (wM ct ad S) → va_S A s.heap H locs → lv_has ls 2 [(0, .ref (ad 0))] → W p l e R s m args below meth c H locs 0 0 QQ (F0 m 54 ls []) := by
    intro k29 hk29 S H locs ls h hP hD hS hl
    refine lv_aload_n C.1 C.2.1 dX7_find_54 rfl (lv_at hl 0 rfl) ?_
    refine g_callVi (w := wM ct ad) C hK hN hA hP hD hS (mX7_nextWay l g ct ad H.size S   _ h) (cwV 0 C.2.2.2.2 gX7_find_X7_nextWay rfl rfl rfl (by decide +kernel) ⟨Nat.le_trans (by decide) hRf, Nat.le_trans (by decide) hRl⟩) (va_recv hK hP (ci := 7) (q0 := 0) rfl rfl) rfl hl.1 rfl (Nat.le_of_ble_eq_true rfl) dX7_find_55 ⟨Nat.zero_le _, Nat.zero_le _⟩ (fun r2 S1 H locs h hP hD hS => ?_)
    refine lv_istore_n (lv' := [(1, .int r2), (0, .ref (ad 0))]) C.1 C.2.1 dX7_find_58 rfl hl (by decide) rfl (fun ls hl => ?_)
    refine lv_goto (tgt := 29) C.1 C.2.1 dX7_find_59 (by decide) ?_
    exact hk29 r2 S1 H locs ls h hP hD hS (lv_sub hl [1, 0] rfl)
  have B29 : ∀ (k29 : Int32 → St → Prop) (hk29 : ∀ (x1 : Int32) (S : St) (H : Heap) (locs : List Loc) (ls : Array Slot), k29 x1 S → va_P g vwCl (wM ct ad S) H → va_D A (wM ct ad S) → va_S A s.heap H locs → lv_has ls 2 [(0, .ref (ad 0)), (1, .int x1)] → W p l e R s m args below meth c H locs 0 0 QQ (F0 m 29 ls [])) (x1 : Int32) (S : St) (H : Heap) (locs : List Loc) (ls : Array Slot), bX7_find_29 k29 Q x1 S → va_P g vwCl (wM ct ad S) H → va_D A (wM ct ad S) → va_S A s.heap H locs → lv_has ls 2 [(0, .ref (ad 0)), (1, .int x1)] → W p l e R s m args below meth c H locs 0 0 QQ (F0 m 29 ls []) := by
    intro k29 hk29 x1 S H locs ls h hP hD hS hl
    refine lv_iload_n C.1 C.2.1 dX7_find_29 rfl (lv_at hl 1 rfl) ?_
    refine lv_if_eq (tgt := 62) C.1 C.2.1 dX7_find_30 (by decide) (fun c9 => ?_) (fun c9 => ?_)
    · have h := h.1 c9
      refine lv_aload_n C.1 C.2.1 dX7_find_62 rfl (lv_at hl 0 rfl) ?_
      refine lv_iconst (v := 1) C.1 C.2.1 dX7_find_63 (by decide) ?_
      obtain ⟨S3, eS3⟩ : ∃ z : St, z = wr S 3 0 (1 : Int32) := ⟨_, rfl⟩
      have h := h S3 eS3
      refine mp_isFound C hinX7 hK hP hD hS (by decide +kernel) zb_1 dX7_find_64 (fun H locs hP hD hS => ?_)
      rw [← eS3] at hP hD
      refine lv_aload_n C.1 C.2.1 dX7_find_67 rfl (lv_at hl 0 rfl) ?_
      refine mg_many C hinX7 hK hP (by decide +kernel) dX7_find_68 ?_
      exact hret _ _ _ _ _ _ dX7_find_71 h hP hD hS
    · have h := h.2 c9
      refine lv_aload_n C.1 C.2.1 dX7_find_33 rfl (lv_at hl 0 rfl) ?_
      refine g_callVv (w := wM ct ad) C hK hN hA hP hD hS (mX7_doWay l g ct ad H.size S   _ h) (cwV 0 C.2.2.2.2 gX7_find_X7_doWay rfl rfl rfl (by decide +kernel) ⟨Nat.le_trans (by decide) hRf, Nat.le_trans (by decide) hRl⟩) (va_recv hK hP (ci := 7) (q0 := 0) rfl rfl) rfl hl.1 rfl (Nat.le_of_ble_eq_true rfl) dX7_find_34 ⟨Nat.zero_le _, Nat.zero_le _⟩ (fun S4 H locs h hP hD hS => ?_)
      refine lv_aload_n C.1 C.2.1 dX7_find_37 rfl (lv_at hl 0 rfl) ?_
      refine g_callVi (w := wM ct ad) C hK hN hA hP hD hS (mX7_goThrough l g ct ad H.size S4   _ h) (cwV 0 C.2.2.2.2 gX7_find_X7_goThrough rfl rfl rfl (by decide +kernel) ⟨Nat.le_trans (by decide) hRf, Nat.le_trans (by decide) hRl⟩) (va_recv hK hP (ci := 7) (q0 := 0) rfl rfl) rfl hl.1 rfl (Nat.le_of_ble_eq_true rfl) dX7_find_38 ⟨Nat.zero_le _, Nat.zero_le _⟩ (fun r6 S5 H locs h hP hD hS => ?_)
      refine lv_if_eq (tgt := 54) C.1 C.2.1 dX7_find_41 (by decide) (fun c8 => ?_) (fun c8 => ?_)
      · have h := h.1 c8
        exact B54 k29 hk29  S5 H locs ls h hP hD hS (lv_sub hl [0] rfl)
      · have h := h.2 c8
        refine lv_aload_n C.1 C.2.1 dX7_find_44 rfl (lv_at hl 0 rfl) ?_
        refine lv_dup C.1 C.2.1 dX7_find_45 rfl ?_
        refine mg_ways C hinX7 hK hP (by decide +kernel) dX7_find_46 ?_
        refine lv_iconst (v := 1) C.1 C.2.1 dX7_find_49 (by decide) ?_
        refine lv_iadd C.1 C.2.1 dX7_find_50 ?_
        obtain ⟨S7, eS7⟩ : ∃ z : St, z = wr S5 6 0 ((S5.1 6 0) + (1 : Int32)) := ⟨_, rfl⟩
        have h := h S7 eS7
        refine mp_ways C hinX7 hK hP hD hS (by decide +kernel) dX7_find_51 (fun H locs hP hD hS => ?_)
        rw [← eS7] at hP hD
        exact B54 k29 hk29  S7 H locs ls h hP hD hS (lv_sub hl [0] rfl)
  have L29 : ∀ (N : Nat) (x1 : Int32) (S : St) (H : Heap) (locs : List Loc) (ls : Array Slot), itr (F := Int32 → St → Prop) (fun _ _ => False) (fun k29 x1 S => bX7_find_29 k29 Q x1 S) N x1 S → va_P g vwCl (wM ct ad S) H → va_D A (wM ct ad S) → va_S A s.heap H locs → lv_has ls 2 [(0, .ref (ad 0)), (1, .int x1)] → W p l e R s m args below meth c H locs 0 0 QQ (F0 m 29 ls []) := by
    intro N
    induction N with
    | zero => intro x1 S H locs ls h hP hD hS hl; exact False.elim h
    | succ N ih => intro x1 S H locs ls h hP hD hS hl; exact B29  (itr (F := Int32 → St → Prop) (fun _ _ => False) (fun k29 x1 S => bX7_find_29 k29 Q x1 S) N) ih x1 S H locs ls h  hP hD hS hl
  refine lv_aload_n C.1 C.2.1 dX7_find_0 rfl (lv_at hl 0 rfl) ?_
  refine mg_isFound C hinX7 hK hP (by decide +kernel) dX7_find_1 ?_
  refine lv_if_eq (tgt := 12) C.1 C.2.1 dX7_find_4 (by decide) (fun c13 => ?_) (fun c13 => ?_)
  · have h := h.1 c13
    refine lv_aload_n C.1 C.2.1 dX7_find_12 rfl (lv_at hl 0 rfl) ?_
    refine lv_iconst (v := 0) C.1 C.2.1 dX7_find_13 (by decide) ?_
    obtain ⟨S10, eS10⟩ : ∃ z : St, z = wr S 5 0 (0 : Int32) := ⟨_, rfl⟩
    have h := h S10 eS10
    refine mp_many C hinX7 hK hP hD hS (by decide +kernel) dX7_find_14 (fun H locs hP hD hS => ?_)
    rw [← eS10] at hP hD
    refine lv_aload_n C.1 C.2.1 dX7_find_17 rfl (lv_at hl 0 rfl) ?_
    refine lv_iconst (v := 0) C.1 C.2.1 dX7_find_18 (by decide) ?_
    obtain ⟨S11, eS11⟩ : ∃ z : St, z = wr S10 6 0 (0 : Int32) := ⟨_, rfl⟩
    have h := h S11 eS11
    refine mp_ways C hinX7 hK hP hD hS (by decide +kernel) dX7_find_19 (fun H locs hP hD hS => ?_)
    rw [← eS11] at hP hD
    refine lv_aload_n C.1 C.2.1 dX7_find_22 rfl (lv_at hl 0 rfl) ?_
    refine lv_iconst (v := 0) C.1 C.2.1 dX7_find_23 (by decide) ?_
    obtain ⟨S12, eS12⟩ : ∃ z : St, z = wr S11 9 0 (0 : Int32) := ⟨_, rfl⟩
    have h := h S12 eS12
    refine mp_choices C hinX7 hK hP hD hS (by decide +kernel) dX7_find_24 (fun H locs hP hD hS => ?_)
    rw [← eS12] at hP hD
    refine lv_iconst (v := 1) C.1 C.2.1 dX7_find_27 (by decide) ?_
    refine lv_istore_n (lv' := [(1, .int (1 : Int32)), (0, .ref (ad 0))]) C.1 C.2.1 dX7_find_28 rfl hl (by decide) rfl (fun ls hl => ?_)
    obtain ⟨N, h⟩ := h
    exact L29 N (1 : Int32) S12 H locs ls h hP hD hS (lv_sub hl [1, 0] rfl)
  · have h := h.2 c13
    refine lv_aload_n C.1 C.2.1 dX7_find_7 rfl (lv_at hl 0 rfl) ?_
    refine mg_many C hinX7 hK hP (by decide +kernel) dX7_find_8 ?_
    exact hret _ _ _ _ _ _ dX7_find_11 h hP hD hS
theorem mX7_find (l : Launch) (g : va_G) (ct : Nat → ClassId) (ad : Nat → Nat) (sz : Nat) (S : St) (Q : Int32 → St → Prop) (h : pX7_find S Q) : Met l yX7_find wsX7_find ({ frames := 6, cells := 0, slots := 0, locals := 137 }) (gPc g (mT ct) (wM ct ad S) sz [.ref (ad 0)]) (va_Qi Q (gB g (mT ct) (wM ct ad) (va_A (wM ct ad S) sz)) (va_A (wM ct ad S) sz)) 0 0 (va_A (wM ct ad S) sz) :=
  g_metI (w := wM ct ad) (cc := cX7_find) (maxL := 2) (by decide) rfl rfl (Nat.le_of_ble_eq_true rfl) rfl (fun p e s m args below meth c QQ A C hK hN hA hret H locs ls hP hD hS hl => kX7_find C hK hN hA (Nat.le_refl _) (Nat.le_refl _) Q hret  S h H locs ls hP hD hS hl)

def bX7_outcome_33 (Q : Int64 → St → Prop) (t0 : Int64) (S : St) : Prop :=
  Q t0 S
def bX7_outcome_30 (Q : Int64 → St → Prop) (S : St) : Prop :=
  bX7_outcome_33 Q (-1 : Int64) S
def pX7_outcome (x1 : Int32) (S : St) (Q : Int64 → St → Prop) : Prop :=
  (((S.1 3 0) = 0 → bX7_outcome_30 Q  S) ∧ (¬ ((S.1 3 0) = 0) → pX7_in x1 (0 : Int32) ((S.1 5 0) - (1 : Int32)) (fun (r1 : Int32) => ((r1 = 0 → bX7_outcome_30 Q  S) ∧ (¬ (r1 = 0) → (vp_in x1 40000 ∧ bX7_outcome_33 Q (S.2.2 0 (Int32.toNatClampNeg x1)) S))))))
set_option maxHeartbeats 40000000 in
set_option maxRecDepth 100000 in
theorem kX7_outcome {p : Program} {l : Launch} {e : Env} {R : Room} {s : State} {m : MethodId} {args : Array Value} {below : List Frame} {meth : Method} {c : Code} {QQ : State → Prop} {g : va_G} {ct : Nat → ClassId} {ad : Nat → Nat} {A : Nat → Prop} (C : CallFix p m c cX7_outcome 2 s args wsX7_outcome RX7) (hK : va_K g vwCl (mT ct) s) (hN : xN s) (hA : ∀ q, s.heap.size ≤ q → A q) (hRf : 1 ≤ R.frames) (hRl : 22 ≤ R.locals) (Q : Int64 → St → Prop) (hret : ∀ (pc : Nat) (r : Int64) (S : St) (H : Heap) (locs : List Loc) (ls : Array Slot), decode cX7_outcome pc = .ok (.lreturn, 1) → Q r S → va_P g vwCl (wM ct ad S) H → va_D A (wM ct ad S) → va_S A s.heap H locs → W p l e R s m args below meth c H locs 0 0 QQ (F0 m pc ls [.long r])) (x1 : Int32) (S : St) (h : pX7_outcome x1 S Q) (H : Heap) (locs : List Loc) (ls : Array Slot) (hP : va_P g vwCl (wM ct ad S) H) (hD : va_D A (wM ct ad S)) (hS : va_S A s.heap H locs) (hl : lv_has ls 2 [(0, .ref (ad 0)), (1, .int x1)]) : W p l e R s m args below meth c H locs 0 0 QQ (F0 m 0 ls []) := by
  have hinX7 : ∀ w ∈ wsX70, w ∈ wsX7_outcome := by decide +kernel
  have B33 : ∀ (t0 : Int64) (S : St) (H : Heap) (locs : List Loc) (ls : Array Slot), bX7_outcome_33 Q t0 S → va_P g vwCl (wM ct ad S) H → va_D A (wM ct ad S) → va_S A s.heap H locs → lv_has ls 2 [(0, .ref (ad 0))] → W p l e R s m args below meth c H locs 0 0 QQ (F0 m 33 ls [.long t0]) := by
    intro t0 S H locs ls h hP hD hS hl
    exact hret _ _ _ _ _ _ dX7_outcome_33 h hP hD hS
  have B30 : ∀ (S : St) (H : Heap) (locs : List Loc) (ls : Array Slot), bX7_outcome_30 Q S → va_P g vwCl (wM ct ad S) H → va_D A (wM ct ad S) → va_S A s.heap H locs → lv_has ls 2 [(0, .ref (ad 0))] → W p l e R s m args below meth c H locs 0 0 QQ (F0 m 30 ls []) := by
    intro S H locs ls h hP hD hS hl
    refine lv_ldc2 (v := -1) C.1 C.2.1 C.2.2.2.1 (C.2.2.2.2 (.constantLong RX7 218 (-1)) (by decide +kernel)) dX7_outcome_30 ?_
    exact B33 (-1 : Int64) S H locs ls h hP hD hS (lv_sub hl [0] rfl)
  refine lv_aload_n C.1 C.2.1 dX7_outcome_0 rfl (lv_at hl 0 rfl) ?_
  refine mg_isFound C hinX7 hK hP (by decide +kernel) dX7_outcome_1 ?_
  refine lv_if_eq (tgt := 30) C.1 C.2.1 dX7_outcome_4 (by decide) (fun c4 => ?_) (fun c4 => ?_)
  · have h := h.1 c4
    exact B30  S H locs ls h hP hD hS (lv_sub hl [0] rfl)
  · have h := h.2 c4
    refine lv_iload_n C.1 C.2.1 dX7_outcome_7 rfl (lv_at hl 1 rfl) ?_
    refine lv_iconst (v := 0) C.1 C.2.1 dX7_outcome_8 (by decide) ?_
    refine lv_aload_n C.1 C.2.1 dX7_outcome_9 rfl (lv_at hl 0 rfl) ?_
    refine mg_many C hinX7 hK hP (by decide +kernel) dX7_outcome_10 ?_
    refine lv_iconst (v := 1) C.1 C.2.1 dX7_outcome_13 (by decide) ?_
    refine lv_isub C.1 C.2.1 dX7_outcome_14 ?_
    refine g_callS (w := wM ct ad) C hK hN hA hP hD hS (mX7_in l g (mT ct) S H.size x1 (0 : Int32) ((S.1 5 0) - (1 : Int32)) _ h) (va_cwS 3 C.2.2.2.2 gX7_outcome_X7_in rfl rfl rfl (by decide +kernel) ⟨Nat.le_trans (by decide) hRf, Nat.le_trans (by decide) hRl⟩) rfl hl.1 rfl (Nat.le_of_ble_eq_true rfl) dX7_outcome_15 ⟨Nat.zero_le _, Nat.zero_le _⟩ (fun r1 H locs h hP hD hS => ?_)
    refine lv_if_eq (tgt := 30) C.1 C.2.1 dX7_outcome_18 (by decide) (fun c3 => ?_) (fun c3 => ?_)
    · have h := h.1 c3
      exact B30  S H locs ls h hP hD hS (lv_sub hl [0] rfl)
    · have h := h.2 c3
      refine lv_aload_n C.1 C.2.1 dX7_outcome_21 rfl (lv_at hl 0 rfl) ?_
      refine mg_outcomes C hinX7 hK hP (by decide +kernel) dX7_outcome_22 ?_
      refine lv_iload_n C.1 C.2.1 dX7_outcome_25 rfl (lv_at hl 1 rfl) ?_
      obtain ⟨g2, h⟩ := h
      refine ma_outcomes C hK hP g2  rfl dX7_outcome_26 ?_
      refine lv_goto (tgt := 33) C.1 C.2.1 dX7_outcome_27 (by decide) ?_
      exact B33 (S.2.2 0 (Int32.toNatClampNeg x1)) S H locs ls h hP hD hS (lv_sub hl [0] rfl)
theorem mX7_outcome (l : Launch) (g : va_G) (ct : Nat → ClassId) (ad : Nat → Nat) (sz : Nat) (S : St) (x1 : Int32) (Q : Int64 → St → Prop) (h : pX7_outcome x1 S Q) : Met l yX7_outcome wsX7_outcome ({ frames := 1, cells := 0, slots := 0, locals := 22 }) (gPc g (mT ct) (wM ct ad S) sz [.ref (ad 0), .int x1]) (va_Ql Q (gB g (mT ct) (wM ct ad) (va_A (wM ct ad S) sz)) (va_A (wM ct ad S) sz)) 0 0 (va_A (wM ct ad S) sz) :=
  g_metJ (w := wM ct ad) (cc := cX7_outcome) (maxL := 2) (by decide) rfl rfl (Nat.le_of_ble_eq_true rfl) rfl (fun p e s m args below meth c QQ A C hK hN hA hret H locs ls hP hD hS hl => kX7_outcome C hK hN hA (Nat.le_refl _) (Nat.le_refl _) Q hret x1 S h H locs ls hP hD hS hl)

def bX7_isAsking_24 (Q : Int32 → Prop) (t0 : Int32) : Prop :=
  (zb t0 ∧ Q t0)
def bX7_isAsking_23 (Q : Int32 → Prop) : Prop :=
  bX7_isAsking_24 Q (0 : Int32)
def pX7_isAsking (x0 : Int32) (x1 : Int32) (Q : Int32 → Prop) : Prop :=
  pX7_in x0 (0 : Int32) (18 : Int32) (fun (r1 : Int32) => ((r1 = 0 → bX7_isAsking_23 Q ) ∧ (¬ (r1 = 0) → pX7_in x1 (0 : Int32) (3 : Int32) (fun (r2 : Int32) => ((r2 = 0 → bX7_isAsking_23 Q ) ∧ (¬ (r2 = 0) → bX7_isAsking_24 Q (1 : Int32)))))))
set_option maxHeartbeats 40000000 in
set_option maxRecDepth 100000 in
theorem kX7_isAsking {p : Program} {l : Launch} {e : Env} {R : Room} {s : State} {m : MethodId} {args : Array Value} {below : List Frame} {meth : Method} {c : Code} {QQ : State → Prop} {g : va_G} {tys : List (ClassId × FieldType)} {A : Nat → Prop} (C : CallFix p m c cX7_isAsking 2 s args wsX7_isAsking RX7) (hK : va_K g vwCl (tys) s) (hN : xN s) (hA : ∀ q, s.heap.size ≤ q → A q) (hRf : 1 ≤ R.frames) (hRl : 22 ≤ R.locals) (Q : Int32 → Prop) (hret : ∀ (pc : Nat) (r : Int32) (S : St) (H : Heap) (locs : List Loc) (ls : Array Slot), decode cX7_isAsking pc = .ok (.ireturn, 1) → zb r → Q r → va_P g vwCl (w0 S) H → va_D A (w0 S) → va_S A s.heap H locs → W p l e R s m args below meth c H locs 0 0 QQ (F0 m pc ls [.int r])) (x0 : Int32) (x1 : Int32) (S : St) (h : pX7_isAsking x0 x1 Q) (H : Heap) (locs : List Loc) (ls : Array Slot) (hP : va_P g vwCl (w0 S) H) (hD : va_D A (w0 S)) (hS : va_S A s.heap H locs) (hl : lv_has ls 2 [(0, .int x0), (1, .int x1)]) : W p l e R s m args below meth c H locs 0 0 QQ (F0 m 0 ls []) := by
  have B24 : ∀ (t0 : Int32) (S : St) (H : Heap) (locs : List Loc) (ls : Array Slot), bX7_isAsking_24 Q t0 → va_P g vwCl (w0 S) H → va_D A (w0 S) → va_S A s.heap H locs → lv_has ls 2 [] → W p l e R s m args below meth c H locs 0 0 QQ (F0 m 24 ls [.int t0]) := by
    intro t0 S H locs ls h hP hD hS hl
    exact hret _ _ _ _ _ _ dX7_isAsking_24 h.1 h.2 hP hD hS
  have B23 : ∀ (S : St) (H : Heap) (locs : List Loc) (ls : Array Slot), bX7_isAsking_23 Q → va_P g vwCl (w0 S) H → va_D A (w0 S) → va_S A s.heap H locs → lv_has ls 2 [] → W p l e R s m args below meth c H locs 0 0 QQ (F0 m 23 ls []) := by
    intro S H locs ls h hP hD hS hl
    refine lv_iconst (v := 0) C.1 C.2.1 dX7_isAsking_23 (by decide) ?_
    exact B24 (0 : Int32) S H locs ls h hP hD hS (lv_sub hl [] rfl)
  refine lv_iload_n C.1 C.2.1 dX7_isAsking_0 rfl (lv_at hl 0 rfl) ?_
  refine lv_iconst (v := 0) C.1 C.2.1 dX7_isAsking_1 (by decide) ?_
  refine lv_bipush (v := 18) C.1 C.2.1 dX7_isAsking_2 (by decide) ?_
  refine g_callS (w := w0) C hK hN hA hP hD hS (mX7_in l g (tys) S H.size x0 (0 : Int32) (18 : Int32) _ h) (va_cwS 3 C.2.2.2.2 gX7_isAsking_X7_in rfl rfl rfl (by decide +kernel) ⟨Nat.le_trans (by decide) hRf, Nat.le_trans (by decide) hRl⟩) rfl hl.1 rfl (Nat.le_of_ble_eq_true rfl) dX7_isAsking_4 ⟨Nat.zero_le _, Nat.zero_le _⟩ (fun r1 H locs h hP hD hS => ?_)
  refine lv_if_eq (tgt := 23) C.1 C.2.1 dX7_isAsking_7 (by decide) (fun c4 => ?_) (fun c4 => ?_)
  · have h := h.1 c4
    exact B23  S H locs ls h hP hD hS (lv_sub hl [] rfl)
  · have h := h.2 c4
    refine lv_iload_n C.1 C.2.1 dX7_isAsking_10 rfl (lv_at hl 1 rfl) ?_
    refine lv_iconst (v := 0) C.1 C.2.1 dX7_isAsking_11 (by decide) ?_
    refine lv_iconst (v := 3) C.1 C.2.1 dX7_isAsking_12 (by decide) ?_
    refine g_callS (w := w0) C hK hN hA hP hD hS (mX7_in l g (tys) S H.size x1 (0 : Int32) (3 : Int32) _ h) (va_cwS 3 C.2.2.2.2 gX7_isAsking_X7_in rfl rfl rfl (by decide +kernel) ⟨Nat.le_trans (by decide) hRf, Nat.le_trans (by decide) hRl⟩) rfl hl.1 rfl (Nat.le_of_ble_eq_true rfl) dX7_isAsking_13 ⟨Nat.zero_le _, Nat.zero_le _⟩ (fun r2 H locs h hP hD hS => ?_)
    refine lv_if_eq (tgt := 23) C.1 C.2.1 dX7_isAsking_16 (by decide) (fun c3 => ?_) (fun c3 => ?_)
    · have h := h.1 c3
      exact B23  S H locs ls h hP hD hS (lv_sub hl [] rfl)
    · have h := h.2 c3
      refine lv_iconst (v := 1) C.1 C.2.1 dX7_isAsking_19 (by decide) ?_
      refine lv_goto (tgt := 24) C.1 C.2.1 dX7_isAsking_20 (by decide) ?_
      exact B24 (1 : Int32) S H locs ls h hP hD hS (lv_sub hl [] rfl)
theorem mX7_isAsking (l : Launch) (g : va_G) (tys : List (ClassId × FieldType)) (S : St) (sz : Nat) (x0 : Int32) (x1 : Int32) (Q : Int32 → Prop) (h : pX7_isAsking x0 x1 Q) : Met l yX7_isAsking wsX7_isAsking ({ frames := 1, cells := 0, slots := 0, locals := 22 }) (gPc g (tys) (w0 S) sz [.int x0, .int x1]) (va_Qi (fun r _ => Q r) (gB g (tys) (w0) (va_A (w0 S) sz)) (va_A (w0 S) sz)) 0 0 (va_A (w0 S) sz) :=
  g_metZ (w := w0) (Q := fun r _ => Q r) (cc := cX7_isAsking) (maxL := 2) (by decide) rfl rfl (Nat.le_of_ble_eq_true rfl) rfl (fun p e s m args below meth c QQ A C hK hN hA hret H locs ls hP hD hS hl => kX7_isAsking C hK hN hA (Nat.le_refl _) (Nat.le_refl _) Q hret x0 x1 S h H locs ls hP hD hS hl)

def bX7_has_20 (Q : Int32 → Prop) (t0 : Int32) : Prop :=
  (zb t0 ∧ Q t0)
def pX7_has (x0 : Int64) (x2 : Int32) (x3 : Int32) (Q : Int32 → Prop) : Prop :=
  ((¬ (lg_cmp ((x0 >>> (Int32.toInt64 ((2 : Int32) * x2) &&& 63)) &&& (3 : Int64)) (Int32.toInt64 x3)) = 0 → bX7_has_20 Q (0 : Int32)) ∧ ((lg_cmp ((x0 >>> (Int32.toInt64 ((2 : Int32) * x2) &&& 63)) &&& (3 : Int64)) (Int32.toInt64 x3)) = 0 → bX7_has_20 Q (1 : Int32)))
set_option maxHeartbeats 40000000 in
set_option maxRecDepth 100000 in
theorem kX7_has {p : Program} {l : Launch} {e : Env} {R : Room} {s : State} {m : MethodId} {args : Array Value} {below : List Frame} {meth : Method} {c : Code} {QQ : State → Prop} {g : va_G} {tys : List (ClassId × FieldType)} {A : Nat → Prop} (C : CallFix p m c cX7_has 4 s args wsX7_has RX7) (hK : va_K g vwCl (tys) s) (hN : xN s) (hA : ∀ q, s.heap.size ≤ q → A q) (hRf : 0 ≤ R.frames) (hRl : 0 ≤ R.locals) (Q : Int32 → Prop) (hret : ∀ (pc : Nat) (r : Int32) (S : St) (H : Heap) (locs : List Loc) (ls : Array Slot), decode cX7_has pc = .ok (.ireturn, 1) → zb r → Q r → va_P g vwCl (w0 S) H → va_D A (w0 S) → va_S A s.heap H locs → W p l e R s m args below meth c H locs 0 0 QQ (F0 m pc ls [.int r])) (x0 : Int64) (x2 : Int32) (x3 : Int32) (S : St) (h : pX7_has x0 x2 x3 Q) (H : Heap) (locs : List Loc) (ls : Array Slot) (hP : va_P g vwCl (w0 S) H) (hD : va_D A (w0 S)) (hS : va_S A s.heap H locs) (hl : lv_has ls 4 [(0, .long x0), (2, .int x2), (3, .int x3)]) : W p l e R s m args below meth c H locs 0 0 QQ (F0 m 0 ls []) := by
  have B20 : ∀ (t0 : Int32) (S : St) (H : Heap) (locs : List Loc) (ls : Array Slot), bX7_has_20 Q t0 → va_P g vwCl (w0 S) H → va_D A (w0 S) → va_S A s.heap H locs → lv_has ls 4 [] → W p l e R s m args below meth c H locs 0 0 QQ (F0 m 20 ls [.int t0]) := by
    intro t0 S H locs ls h hP hD hS hl
    exact hret _ _ _ _ _ _ dX7_has_20 h.1 h.2 hP hD hS
  refine lv_lload_n C.1 C.2.1 dX7_has_0 rfl (lv_at hl 0 rfl) ?_
  refine lv_iconst (v := 2) C.1 C.2.1 dX7_has_1 (by decide) ?_
  refine lv_iload_n C.1 C.2.1 dX7_has_2 rfl (lv_at hl 1 rfl) ?_
  refine lv_imul C.1 C.2.1 dX7_has_3 ?_
  refine lv_lshr C.1 C.2.1 dX7_has_4 rfl ?_
  refine lv_ldc2 (v := 3) C.1 C.2.1 C.2.2.2.1 (C.2.2.2.2 (.constantLong RX7 220 (3)) (by decide +kernel)) dX7_has_5 ?_
  refine lv_land C.1 C.2.1 dX7_has_8 ?_
  refine lv_iload_n C.1 C.2.1 dX7_has_9 rfl (lv_at hl 2 rfl) ?_
  refine lv_i2l C.1 C.2.1 dX7_has_10 rfl ?_
  refine W.lcmp C.1 C.2.1 dX7_has_11 ?_
  refine lv_if_ne (tgt := 19) C.1 C.2.1 dX7_has_12 (by decide) (fun c1 => ?_) (fun c1 => ?_)
  · have h := h.1 c1
    refine lv_iconst (v := 0) C.1 C.2.1 dX7_has_19 (by decide) ?_
    exact B20 (0 : Int32) S H locs ls h hP hD hS (lv_sub hl [] rfl)
  · have h := h.2 c1
    refine lv_iconst (v := 1) C.1 C.2.1 dX7_has_15 (by decide) ?_
    refine lv_goto (tgt := 20) C.1 C.2.1 dX7_has_16 (by decide) ?_
    exact B20 (1 : Int32) S H locs ls h hP hD hS (lv_sub hl [] rfl)
theorem mX7_has (l : Launch) (g : va_G) (tys : List (ClassId × FieldType)) (S : St) (sz : Nat) (x0 : Int64) (x2 : Int32) (x3 : Int32) (Q : Int32 → Prop) (h : pX7_has x0 x2 x3 Q) : Met l yX7_has wsX7_has ({ frames := 0, cells := 0, slots := 0, locals := 0 }) (gPc g (tys) (w0 S) sz [.long x0, .int x2, .int x3]) (va_Qi (fun r _ => Q r) (gB g (tys) (w0) (va_A (w0 S) sz)) (va_A (w0 S) sz)) 0 0 (va_A (w0 S) sz) :=
  g_metZ (w := w0) (Q := fun r _ => Q r) (cc := cX7_has) (maxL := 4) (by decide) rfl rfl (Nat.le_of_ble_eq_true rfl) rfl (fun p e s m args below meth c QQ A C hK hN hA hret H locs ls hP hD hS hl => kX7_has C hK hN hA (Nat.le_refl _) (Nat.le_refl _) Q hret x0 x2 x3 S h H locs ls hP hD hS hl)
