def bX7_access_472 (Q : St → Prop) (S : St) : Prop :=
  Q S
def bX7_access_461 (Q : St → Prop) (x3 : Int32) (x10 : Int32) (S : St) : Prop :=
  ((¬ x3 = (4 : Int32) → bX7_access_472 Q  S) ∧ (x3 = (4 : Int32) → (∀ S1 : St, S1 = wr S 34 0 x10 → bX7_access_472 Q  S1)))
def bX7_access_449 (Q : St → Prop) (x3 : Int32) (x5 : Int32) (x10 : Int32) (t1 : Int32) (t2 : Int32) (S : St) : Prop :=
  (vp_in t1 16 ∧ ∀ S3 : St, S3 = wr S 11 (Int32.toNatClampNeg t1) t2 → (vp_in x5 16 ∧ ∀ S5 : St, S5 = wr S3 12 (Int32.toNatClampNeg x5) ((1 : Int32) <<< (x10 &&& 31)) → bX7_access_461 Q x3 x10 S5))
def bX7_access_426 (Q : St → Prop) (x3 : Int32) (x5 : Int32) (x10 : Int32) (x13 : Int32) (t1 : Int32) (t2 : Int32) (S : St) : Prop :=
  (vp_in t1 6 ∧ ∀ S7 : St, S7 = wr S 18 (Int32.toNatClampNeg t1) t2 → ((x3 = (1 : Int32) → bX7_access_461 Q x3 x10 S7) ∧ (¬ (x3 = (1 : Int32)) → ((¬ x3 = (5 : Int32) → bX7_access_449 Q x3 x5 x10 x5 x13 S7) ∧ (x3 = (5 : Int32) → bX7_access_449 Q x3 x5 x10 x5 (0 : Int32) S7)))))
def bX7_access_392 (Q : St → Prop) (x3 : Int32) (x5 : Int32) (x10 : Int32) (x12 : Int32) (t0 : Int32) (S : St) : Prop :=
  (vp_in x10 6 ∧ ∀ S11 : St, S11 = wr S 17 (Int32.toNatClampNeg x10) t0 → ((¬ x3 = (3 : Int32) → bX7_access_426 Q x3 x5 x10 t0 x10 x12 S11) ∧ (x3 = (3 : Int32) → bX7_access_426 Q x3 x5 x10 t0 x10 ((x12 + t0) &&& (3 : Int32)) S11)))
def bX7_access_374 (Q : St → Prop) (x3 : Int32) (x5 : Int32) (x10 : Int32) (t0 : Int32) (S : St) : Prop :=
  pX7_isReading x3 (fun (r14 : Int32) => ((r14 = 0 → bX7_access_392 Q x3 x5 x10 t0 (0 : Int32) S) ∧ (¬ (r14 = 0) → pX7_choose (4 : Int32) S (fun (r16 : Int32) (S15 : St) => bX7_access_392 Q x3 x5 x10 t0 r16 S15))))
def bX7_access_355 (Q : St → Prop) (x3 : Int32) (x5 : Int32) (x10 : Int32) (x11 : Int32) (t1 : Int32) (t2 : Int32) (S : St) : Prop :=
  (vp_in t1 6 ∧ ∀ S18 : St, S18 = wr S 21 (Int32.toNatClampNeg t1) t2 → pX7_isWriting x3 (fun (r20 : Int32) => ((r20 = 0 → bX7_access_374 Q x3 x5 x10 (0 : Int32) S18) ∧ (¬ (r20 = 0) → (vp_in x11 16 ∧ bX7_access_374 Q x3 x5 x10 (S18.1 11 (Int32.toNatClampNeg x11)) S18)))))
def bX7_access_329 (Q : St → Prop) (x3 : Int32) (x5 : Int32) (x10 : Int32) (t0 : Int32) (S : St) : Prop :=
  pX7_isWriting x3 (fun (r23 : Int32) => ((r23 = 0 → bX7_access_355 Q x3 x5 x10 t0 x10 (0 : Int32) S) ∧ (¬ (r23 = 0) → (vp_in t0 16 ∧ bX7_access_355 Q x3 x5 x10 t0 x10 (S.1 12 (Int32.toNatClampNeg t0)) S))))
def bX7_access_305 (Q : St → Prop) (x3 : Int32) (x5 : Int32) (x6 : Int32) (x10 : Int32) (t1 : Int32) (t2 : Int32) (S : St) : Prop :=
  (vp_in t1 6 ∧ ∀ S26 : St, S26 = wr S 20 (Int32.toNatClampNeg t1) t2 → (vp_in x10 6 ∧ ∀ S28 : St, S28 = wr S26 22 (Int32.toNatClampNeg x10) (S26.1 33 0) → ((¬ x3 = (1 : Int32) → bX7_access_329 Q x3 x5 x10 x6 S28) ∧ (x3 = (1 : Int32) → bX7_access_329 Q x3 x5 x10 x5 S28))))
def bX7_access_276 (Q : St → Prop) (x1 : Int32) (x3 : Int32) (x5 : Int32) (x6 : Int32) (x8 : Int32) (x10 : Int32) (t1 : Int32) (t3 : Int32) (t4 : Int32) (S : St) : Prop :=
  (vp_in (t3 + t4) 144 ∧ (vp_in t1 6 ∧ ∀ S32 : St, S32 = wr S 19 (Int32.toNatClampNeg t1) (S.1 1 (Int32.toNatClampNeg (t3 + t4))) → ((0 ≤ x8 → (vp_in (((4 : Int32) * x1) + x8) 16 ∧ bX7_access_305 Q x3 x5 x6 x10 x10 (S32.1 12 (Int32.toNatClampNeg (((4 : Int32) * x1) + x8))) S32)) ∧ (¬ (0 ≤ x8) → bX7_access_305 Q x3 x5 x6 x10 x10 (0 : Int32) S32))))
def bX7_access_214 (Q : St → Prop) (x1 : Int32) (x2 : Int32) (x3 : Int32) (x4 : Int32) (x5 : Int32) (x6 : Int32) (x8 : Int32) (x9 : Int32) (S : St) : Prop :=
  (∀ y36 : Int32, y36 = (S.1 13 0) → (∀ S37 : St, S37 = wr S 13 0 ((S.1 13 0) + (1 : Int32)) → (vp_in y36 6 ∧ ∀ S38 : St, S38 = wr S37 14 (Int32.toNatClampNeg y36) x1 → (vp_in y36 6 ∧ ∀ S40 : St, S40 = wr S38 15 (Int32.toNatClampNeg y36) x3 → (vp_in y36 6 ∧ ∀ S42 : St, S42 = wr S40 16 (Int32.toNatClampNeg y36) x9 → ((x4 = 0 → bX7_access_276 Q x1 x3 x5 x6 x8 y36 y36 x2 (4 : Int32) S42) ∧ (¬ (x4 = 0) → bX7_access_276 Q x1 x3 x5 x6 x8 y36 y36 x2 (5 : Int32) S42)))))))
def bX7_access_168 (Q : St → Prop) (x1 : Int32) (x2 : Int32) (x3 : Int32) (x4 : Int32) (x5 : Int32) (x6 : Int32) (x8 : Int32) (x9 : Int32) (t0 : Int32) (S : St) : Prop :=
  (∀ y45 : Int32, y45 = (S.1 34 0) → (∀ S46 : St, S46 = wr S 34 0 (-1 : Int32) → ((t0 = 0 → (vp_in (S46.1 13 0) 6 ∧ ∀ S47 : St, S47 = wr S46 23 (Int32.toNatClampNeg (S46.1 13 0)) y45 → bX7_access_214 Q x1 x2 x3 x4 x5 x6 x8 x9 S47)) ∧ (¬ (t0 = 0) → (vp_in x5 16 ∧ ∀ S49 : St, S49 = wr S46 11 (Int32.toNatClampNeg x5) (1 : Int32) → (vp_in x5 16 ∧ ∀ S51 : St, S51 = wr S49 12 (Int32.toNatClampNeg x5) (0 : Int32) → Q S51))))))
def bX7_access_163 (Q : St → Prop) (x1 : Int32) (x2 : Int32) (x3 : Int32) (x4 : Int32) (x5 : Int32) (x6 : Int32) (x8 : Int32) (x9 : Int32) (S : St) : Prop :=
  bX7_access_168 Q x1 x2 x3 x4 x5 x6 x8 x9 (1 : Int32) S
def bX7_access_147 (Q : St → Prop) (x1 : Int32) (x2 : Int32) (x3 : Int32) (x4 : Int32) (x5 : Int32) (x6 : Int32) (x8 : Int32) (x9 : Int32) (t0 : Int32) (S : St) : Prop :=
  ((t0 = 0 → bX7_access_163 Q x1 x2 x3 x4 x5 x6 x8 x9 S) ∧ (¬ (t0 = 0) → pX7_choose (2 : Int32) S (fun (r55 : Int32) (S54 : St) => ((¬ r55 = (1 : Int32) → bX7_access_168 Q x1 x2 x3 x4 x5 x6 x8 x9 (0 : Int32) S54) ∧ (r55 = (1 : Int32) → bX7_access_163 Q x1 x2 x3 x4 x5 x6 x8 x9 S54)))))
def bX7_access_146 (Q : St → Prop) (x1 : Int32) (x2 : Int32) (x3 : Int32) (x4 : Int32) (x5 : Int32) (x6 : Int32) (x8 : Int32) (x9 : Int32) (S : St) : Prop :=
  bX7_access_147 Q x1 x2 x3 x4 x5 x6 x8 x9 (0 : Int32) S
def bX7_access_114 (Q : St → Prop) (x1 : Int32) (x2 : Int32) (x3 : Int32) (x4 : Int32) (x5 : Int32) (x6 : Int32) (x8 : Int32) (t0 : Int32) (S : St) : Prop :=
  ((¬ x3 = (5 : Int32) → bX7_access_214 Q x1 x2 x3 x4 x5 x6 x8 t0 S) ∧ (x3 = (5 : Int32) → (((S.1 34 0) < 0 → bX7_access_146 Q x1 x2 x3 x4 x5 x6 x8 t0 S) ∧ (¬ ((S.1 34 0) < 0) → (vp_in (S.1 34 0) 6 ∧ ((¬ (S.1 16 (Int32.toNatClampNeg (S.1 34 0))) = t0 → bX7_access_146 Q x1 x2 x3 x4 x5 x6 x8 t0 S) ∧ ((S.1 16 (Int32.toNatClampNeg (S.1 34 0))) = t0 → bX7_access_147 Q x1 x2 x3 x4 x5 x6 x8 t0 (1 : Int32) S)))))))
def bX7_access_84 (Q : St → Prop) (x1 : Int32) (x2 : Int32) (x3 : Int32) (x4 : Int32) (x5 : Int32) (x6 : Int32) (x7 : Int32) (t1 : Int32) (t2 : Int32) (S : St) : Prop :=
  (vp_in (t1 + t2) 144 ∧ (∀ y63 : Int32, y63 = (S.1 1 (Int32.toNatClampNeg (t1 + t2))) → ((0 ≤ y63 → (vp_in (((4 : Int32) * x1) + y63) 16 ∧ bX7_access_114 Q x1 x2 x3 x4 x5 x6 y63 ((x7 + (S.1 11 (Int32.toNatClampNeg (((4 : Int32) * x1) + y63)))) - (x7 + (S.1 11 (Int32.toNatClampNeg (((4 : Int32) * x1) + y63)))) / (3 : Int32) * (3 : Int32)) S)) ∧ (¬ (0 ≤ y63) → bX7_access_114 Q x1 x2 x3 x4 x5 x6 y63 x7 S))))
def bX7_access_65 (Q : St → Prop) (x1 : Int32) (x2 : Int32) (x3 : Int32) (x4 : Int32) (x5 : Int32) (x6 : Int32) (t1 : Int32) (t2 : Int32) (S : St) : Prop :=
  (vp_in (t1 + t2) 144 ∧ (∀ y67 : Int32, y67 = (S.1 1 (Int32.toNatClampNeg (t1 + t2))) → ((x4 = 0 → bX7_access_84 Q x1 x2 x3 x4 x5 x6 y67 x2 (3 : Int32) S) ∧ (¬ (x4 = 0) → bX7_access_84 Q x1 x2 x3 x4 x5 x6 y67 x2 (4 : Int32) S))))
def bX7_access_20 (Q : St → Prop) (x1 : Int32) (x2 : Int32) (x3 : Int32) (t0 : Int32) (S : St) : Prop :=
  (vp_in (x2 + (1 : Int32)) 144 ∧ (∀ y70 : Int32, y70 = (((4 : Int32) * x1) + (S.1 1 (Int32.toNatClampNeg (x2 + (1 : Int32))))) → (vp_in (x2 + (2 : Int32)) 144 ∧ (∀ y72 : Int32, y72 = (((4 : Int32) * x1) + (S.1 1 (Int32.toNatClampNeg (x2 + (2 : Int32))))) → ((t0 = 0 → bX7_access_65 Q x1 x2 x3 t0 y70 y72 x2 (2 : Int32) S) ∧ (¬ (t0 = 0) → bX7_access_65 Q x1 x2 x3 t0 y70 y72 x2 (3 : Int32) S))))))
def bX7_access_15 (Q : St → Prop) (x1 : Int32) (x2 : Int32) (x3 : Int32) (S : St) : Prop :=
  bX7_access_20 Q x1 x2 x3 (1 : Int32) S
def pX7_access (x1 : Int32) (x2 : Int32) (x3 : Int32) (S : St) (Q : St → Prop) : Prop :=
  ((x3 = (2 : Int32) → bX7_access_15 Q x1 x2 x3 S) ∧ (¬ (x3 = (2 : Int32)) → ((x3 = (3 : Int32) → bX7_access_15 Q x1 x2 x3 S) ∧ (¬ (x3 = (3 : Int32)) → ((¬ x3 = (5 : Int32) → bX7_access_20 Q x1 x2 x3 (0 : Int32) S) ∧ (x3 = (5 : Int32) → bX7_access_15 Q x1 x2 x3 S))))))
set_option maxHeartbeats 40000000 in
set_option maxRecDepth 100000 in
theorem kX7_access {p : Program} {l : Launch} {e : Env} {R : Room} {s : State} {m : MethodId} {args : Array Value} {below : List Frame} {meth : Method} {c : Code} {QQ : State → Prop} {g : va_G} {ct : Nat → ClassId} {ad : Nat → Nat} {A : Nat → Prop} (C : CallFix p m c cX7_access 14 s args wsX7_access RX7) (hK : va_K g vwCl (mT ct) s) (hN : xN s) (hA : ∀ q, s.heap.size ≤ q → A q) (hRf : 1 ≤ R.frames) (hRl : 21 ≤ R.locals) (Q : St → Prop) (hret : ∀ (pc : Nat) (S : St) (H : Heap) (locs : List Loc) (ls : Array Slot), decode cX7_access pc = .ok (.return_, 1) → Q S → va_P g vwCl (wM ct ad S) H → va_D A (wM ct ad S) → va_S A s.heap H locs → W p l e R s m args below meth c H locs 0 0 QQ (F0 m pc ls [])) (x1 : Int32) (x2 : Int32) (x3 : Int32) (S : St) (h : pX7_access x1 x2 x3 S Q) (H : Heap) (locs : List Loc) (ls : Array Slot) (hP : va_P g vwCl (wM ct ad S) H) (hD : va_D A (wM ct ad S)) (hS : va_S A s.heap H locs) (hl : lv_has ls 14 [(0, .ref (ad 0)), (1, .int x1), (2, .int x2), (3, .int x3)]) : W p l e R s m args below meth c H locs 0 0 QQ (F0 m 0 ls []) := by
  have hinX7 : ∀ w ∈ wsX70, w ∈ wsX7_access := by decide +kernel
  have B472 : ∀ (S : St) (H : Heap) (locs : List Loc) (ls : Array Slot), bX7_access_472 Q S → va_P g vwCl (wM ct ad S) H → va_D A (wM ct ad S) → va_S A s.heap H locs → lv_has ls 14 [(0, .ref (ad 0))] → W p l e R s m args below meth c H locs 0 0 QQ (F0 m 472 ls []) := by
    intro S H locs ls h hP hD hS hl
    exact hret _ _ _ _ _ dX7_access_472 h hP hD hS
  have B461 : ∀ (x3 : Int32) (x10 : Int32) (S : St) (H : Heap) (locs : List Loc) (ls : Array Slot), bX7_access_461 Q x3 x10 S → va_P g vwCl (wM ct ad S) H → va_D A (wM ct ad S) → va_S A s.heap H locs → lv_has ls 14 [(0, .ref (ad 0)), (3, .int x3), (10, .int x10)] → W p l e R s m args below meth c H locs 0 0 QQ (F0 m 461 ls []) := by
    intro x3 x10 S H locs ls h hP hD hS hl
    refine lv_iload_n C.1 C.2.1 dX7_access_461 rfl (lv_at hl 1 rfl) ?_
    refine lv_iconst (v := 4) C.1 C.2.1 dX7_access_462 (by decide) ?_
    refine lv_icmp_ne (tgt := 472) C.1 C.2.1 dX7_access_463 (by decide) (fun c2 => ?_) (fun c2 => ?_)
    · have h := h.1 c2
      exact B472  S H locs ls h hP hD hS (lv_sub hl [0] rfl)
    · have h := h.2 c2
      refine lv_aload_n C.1 C.2.1 dX7_access_466 rfl (lv_at hl 0 rfl) ?_
      refine lv_iload C.1 C.2.1 dX7_access_467 (lv_at hl 2 rfl) ?_
      obtain ⟨S1, eS1⟩ : ∃ z : St, z = wr S 34 0 x10 := ⟨_, rfl⟩
      have h := h S1 eS1
      refine mp_reserved C hinX7 hK hP hD hS (by decide +kernel) dX7_access_469 (fun H locs hP hD hS => ?_)
      rw [← eS1] at hP hD
      exact B472  S1 H locs ls h hP hD hS (lv_sub hl [0] rfl)
  have B449 : ∀ (x3 : Int32) (x5 : Int32) (x10 : Int32) (t1 : Int32) (t2 : Int32) (S : St) (H : Heap) (locs : List Loc) (ls : Array Slot), bX7_access_449 Q x3 x5 x10 t1 t2 S → va_P g vwCl (wM ct ad S) H → va_D A (wM ct ad S) → va_S A s.heap H locs → lv_has ls 14 [(0, .ref (ad 0)), (3, .int x3), (5, .int x5), (10, .int x10)] → W p l e R s m args below meth c H locs 0 0 QQ (F0 m 449 ls [.int t2, .int t1, .ref (ad 6)]) := by
    intro x3 x5 x10 t1 t2 S H locs ls h hP hD hS hl
    obtain ⟨g4, h⟩ := h
    obtain ⟨S3, eS3⟩ : ∃ z : St, z = wr S 11 (Int32.toNatClampNeg t1) t2 := ⟨_, rfl⟩
    have h := h S3 eS3
    refine ms_values C hK hP hD hS  g4 rfl dX7_access_449 (fun H locs hP hD hS => ?_)
    rw [← eS3] at hP hD
    refine lv_aload_n C.1 C.2.1 dX7_access_450 rfl (lv_at hl 0 rfl) ?_
    refine mg_carry C hinX7 hK hP (by decide +kernel) dX7_access_451 ?_
    refine lv_iload C.1 C.2.1 dX7_access_454 (lv_at hl 2 rfl) ?_
    refine lv_iconst (v := 1) C.1 C.2.1 dX7_access_456 (by decide) ?_
    refine lv_iload C.1 C.2.1 dX7_access_457 (lv_at hl 3 rfl) ?_
    refine lv_ishl C.1 C.2.1 dX7_access_459 ?_
    obtain ⟨g6, h⟩ := h
    obtain ⟨S5, eS5⟩ : ∃ z : St, z = wr S3 12 (Int32.toNatClampNeg x5) ((1 : Int32) <<< (x10 &&& 31)) := ⟨_, rfl⟩
    have h := h S5 eS5
    refine ms_carry C hK hP hD hS  g6 rfl dX7_access_460 (fun H locs hP hD hS => ?_)
    rw [← eS5] at hP hD
    exact B461 x3 x10 S5 H locs ls h hP hD hS (lv_sub hl [0, 1, 3] rfl)
  have B426 : ∀ (x3 : Int32) (x5 : Int32) (x10 : Int32) (x13 : Int32) (t1 : Int32) (t2 : Int32) (S : St) (H : Heap) (locs : List Loc) (ls : Array Slot), bX7_access_426 Q x3 x5 x10 x13 t1 t2 S → va_P g vwCl (wM ct ad S) H → va_D A (wM ct ad S) → va_S A s.heap H locs → lv_has ls 14 [(0, .ref (ad 0)), (3, .int x3), (5, .int x5), (10, .int x10), (13, .int x13)] → W p l e R s m args below meth c H locs 0 0 QQ (F0 m 426 ls [.int t2, .int t1, .ref (ad 12)]) := by
    intro x3 x5 x10 x13 t1 t2 S H locs ls h hP hD hS hl
    obtain ⟨g8, h⟩ := h
    obtain ⟨S7, eS7⟩ : ∃ z : St, z = wr S 18 (Int32.toNatClampNeg t1) t2 := ⟨_, rfl⟩
    have h := h S7 eS7
    refine ms_written C hK hP hD hS  g8 rfl dX7_access_426 (fun H locs hP hD hS => ?_)
    rw [← eS7] at hP hD
    refine lv_iload_n C.1 C.2.1 dX7_access_427 rfl (lv_at hl 1 rfl) ?_
    refine lv_iconst (v := 1) C.1 C.2.1 dX7_access_428 (by decide) ?_
    refine lv_icmp_eq (tgt := 461) C.1 C.2.1 dX7_access_429 (by decide) (fun c10 => ?_) (fun c10 => ?_)
    · have h := h.1 c10
      exact B461 x3 x10 S7 H locs ls h hP hD hS (lv_sub hl [0, 1, 3] rfl)
    · have h := h.2 c10
      refine lv_aload_n C.1 C.2.1 dX7_access_432 rfl (lv_at hl 0 rfl) ?_
      refine mg_values C hinX7 hK hP (by decide +kernel) dX7_access_433 ?_
      refine lv_iload C.1 C.2.1 dX7_access_436 (lv_at hl 2 rfl) ?_
      refine lv_iload_n C.1 C.2.1 dX7_access_438 rfl (lv_at hl 1 rfl) ?_
      refine lv_iconst (v := 5) C.1 C.2.1 dX7_access_439 (by decide) ?_
      refine lv_icmp_ne (tgt := 447) C.1 C.2.1 dX7_access_440 (by decide) (fun c9 => ?_) (fun c9 => ?_)
      · have h := h.1 c9
        refine lv_iload C.1 C.2.1 dX7_access_447 (lv_at hl 4 rfl) ?_
        exact B449 x3 x5 x10 x5 x13 S7 H locs ls h hP hD hS (lv_sub hl [0, 1, 2, 3] rfl)
      · have h := h.2 c9
        refine lv_iconst (v := 0) C.1 C.2.1 dX7_access_443 (by decide) ?_
        refine lv_goto (tgt := 449) C.1 C.2.1 dX7_access_444 (by decide) ?_
        exact B449 x3 x5 x10 x5 (0 : Int32) S7 H locs ls h hP hD hS (lv_sub hl [0, 1, 2, 3] rfl)
  have B392 : ∀ (x3 : Int32) (x5 : Int32) (x10 : Int32) (x12 : Int32) (t0 : Int32) (S : St) (H : Heap) (locs : List Loc) (ls : Array Slot), bX7_access_392 Q x3 x5 x10 x12 t0 S → va_P g vwCl (wM ct ad S) H → va_D A (wM ct ad S) → va_S A s.heap H locs → lv_has ls 14 [(0, .ref (ad 0)), (3, .int x3), (5, .int x5), (10, .int x10), (12, .int x12)] → W p l e R s m args below meth c H locs 0 0 QQ (F0 m 392 ls [.int t0]) := by
    intro x3 x5 x10 x12 t0 S H locs ls h hP hD hS hl
    refine lv_istore (lv' := [(13, .int t0), (0, .ref (ad 0)), (3, .int x3), (5, .int x5), (10, .int x10), (12, .int x12)]) C.1 C.2.1 dX7_access_392 hl (by decide) rfl (fun ls hl => ?_)
    refine lv_aload_n C.1 C.2.1 dX7_access_394 rfl (lv_at hl 1 rfl) ?_
    refine mg_read C hinX7 hK hP (by decide +kernel) dX7_access_395 ?_
    refine lv_iload C.1 C.2.1 dX7_access_398 (lv_at hl 4 rfl) ?_
    refine lv_iload C.1 C.2.1 dX7_access_400 (lv_at hl 0 rfl) ?_
    obtain ⟨g12, h⟩ := h
    obtain ⟨S11, eS11⟩ : ∃ z : St, z = wr S 17 (Int32.toNatClampNeg x10) t0 := ⟨_, rfl⟩
    have h := h S11 eS11
    refine ms_read C hK hP hD hS  g12 rfl dX7_access_402 (fun H locs hP hD hS => ?_)
    rw [← eS11] at hP hD
    refine lv_aload_n C.1 C.2.1 dX7_access_403 rfl (lv_at hl 1 rfl) ?_
    refine mg_written C hinX7 hK hP (by decide +kernel) dX7_access_404 ?_
    refine lv_iload C.1 C.2.1 dX7_access_407 (lv_at hl 4 rfl) ?_
    refine lv_iload_n C.1 C.2.1 dX7_access_409 rfl (lv_at hl 2 rfl) ?_
    refine lv_iconst (v := 3) C.1 C.2.1 dX7_access_410 (by decide) ?_
    refine lv_icmp_ne (tgt := 424) C.1 C.2.1 dX7_access_411 (by decide) (fun c13 => ?_) (fun c13 => ?_)
    · have h := h.1 c13
      refine lv_iload C.1 C.2.1 dX7_access_424 (lv_at hl 5 rfl) ?_
      exact B426 x3 x5 x10 t0 x10 x12 S11 H locs ls h hP hD hS (lv_sub hl [1, 2, 3, 4, 0] rfl)
    · have h := h.2 c13
      refine lv_iload C.1 C.2.1 dX7_access_414 (lv_at hl 5 rfl) ?_
      refine lv_iload C.1 C.2.1 dX7_access_416 (lv_at hl 0 rfl) ?_
      refine lv_iadd C.1 C.2.1 dX7_access_418 ?_
      refine lv_iconst (v := 3) C.1 C.2.1 dX7_access_419 (by decide) ?_
      refine lv_iand C.1 C.2.1 dX7_access_420 ?_
      refine lv_goto (tgt := 426) C.1 C.2.1 dX7_access_421 (by decide) ?_
      exact B426 x3 x5 x10 t0 x10 ((x12 + t0) &&& (3 : Int32)) S11 H locs ls h hP hD hS (lv_sub hl [1, 2, 3, 4, 0] rfl)
  have B374 : ∀ (x3 : Int32) (x5 : Int32) (x10 : Int32) (t0 : Int32) (S : St) (H : Heap) (locs : List Loc) (ls : Array Slot), bX7_access_374 Q x3 x5 x10 t0 S → va_P g vwCl (wM ct ad S) H → va_D A (wM ct ad S) → va_S A s.heap H locs → lv_has ls 14 [(0, .ref (ad 0)), (3, .int x3), (5, .int x5), (10, .int x10)] → W p l e R s m args below meth c H locs 0 0 QQ (F0 m 374 ls [.int t0]) := by
    intro x3 x5 x10 t0 S H locs ls h hP hD hS hl
    refine lv_istore (lv' := [(12, .int t0), (0, .ref (ad 0)), (3, .int x3), (5, .int x5), (10, .int x10)]) C.1 C.2.1 dX7_access_374 hl (by decide) rfl (fun ls hl => ?_)
    refine lv_iload_n C.1 C.2.1 dX7_access_376 rfl (lv_at hl 2 rfl) ?_
    refine g_callS (w := wM ct ad) C hK hN hA hP hD hS (mX7_isReading l g (mT ct) S H.size x3 _ h) (va_cwS 1 C.2.2.2.2 gX7_access_X7_isReading rfl rfl rfl (by decide +kernel) ⟨Nat.le_trans (by decide) hRf, Nat.le_trans (by decide) hRl⟩) rfl hl.1 rfl (Nat.le_of_ble_eq_true rfl) dX7_access_377 ⟨Nat.zero_le _, Nat.zero_le _⟩ (fun r14 H locs h hP hD hS => ?_)
    refine lv_if_eq (tgt := 391) C.1 C.2.1 dX7_access_380 (by decide) (fun c17 => ?_) (fun c17 => ?_)
    · have h := h.1 c17
      refine lv_iconst (v := 0) C.1 C.2.1 dX7_access_391 (by decide) ?_
      exact B392 x3 x5 x10 t0 (0 : Int32) S H locs ls h hP hD hS (lv_sub hl [1, 2, 3, 4, 0] rfl)
    · have h := h.2 c17
      refine lv_aload_n C.1 C.2.1 dX7_access_383 rfl (lv_at hl 1 rfl) ?_
      refine lv_iconst (v := 4) C.1 C.2.1 dX7_access_384 (by decide) ?_
      refine g_callVi (w := wM ct ad) C hK hN hA hP hD hS (mX7_choose l g ct ad H.size S (4 : Int32)  _ h) (cwV 1 C.2.2.2.2 gX7_access_X7_choose rfl rfl rfl (by decide +kernel) ⟨Nat.le_trans (by decide) hRf, Nat.le_trans (by decide) hRl⟩) (va_recv hK hP (ci := 7) (q0 := 0) rfl rfl) rfl hl.1 rfl (Nat.le_of_ble_eq_true rfl) dX7_access_385 ⟨Nat.zero_le _, Nat.zero_le _⟩ (fun r16 S15 H locs h hP hD hS => ?_)
      refine lv_goto (tgt := 392) C.1 C.2.1 dX7_access_388 (by decide) ?_
      exact B392 x3 x5 x10 t0 r16 S15 H locs ls h hP hD hS (lv_sub hl [1, 2, 3, 4, 0] rfl)
  have B355 : ∀ (x3 : Int32) (x5 : Int32) (x10 : Int32) (x11 : Int32) (t1 : Int32) (t2 : Int32) (S : St) (H : Heap) (locs : List Loc) (ls : Array Slot), bX7_access_355 Q x3 x5 x10 x11 t1 t2 S → va_P g vwCl (wM ct ad S) H → va_D A (wM ct ad S) → va_S A s.heap H locs → lv_has ls 14 [(0, .ref (ad 0)), (3, .int x3), (5, .int x5), (10, .int x10), (11, .int x11)] → W p l e R s m args below meth c H locs 0 0 QQ (F0 m 355 ls [.int t2, .int t1, .ref (ad 15)]) := by
    intro x3 x5 x10 x11 t1 t2 S H locs ls h hP hD hS hl
    obtain ⟨g19, h⟩ := h
    obtain ⟨S18, eS18⟩ : ∃ z : St, z = wr S 21 (Int32.toNatClampNeg t1) t2 := ⟨_, rfl⟩
    have h := h S18 eS18
    refine ms_byValue C hK hP hD hS  g19 rfl dX7_access_355 (fun H locs hP hD hS => ?_)
    rw [← eS18] at hP hD
    refine lv_iload_n C.1 C.2.1 dX7_access_356 rfl (lv_at hl 1 rfl) ?_
    refine g_callS (w := wM ct ad) C hK hN hA hP hD hS (mX7_isWriting l g (mT ct) S18 H.size x3 _ h) (va_cwS 1 C.2.2.2.2 gX7_access_X7_isWriting rfl rfl rfl (by decide +kernel) ⟨Nat.le_trans (by decide) hRf, Nat.le_trans (by decide) hRl⟩) rfl hl.1 rfl (Nat.le_of_ble_eq_true rfl) dX7_access_357 ⟨Nat.zero_le _, Nat.zero_le _⟩ (fun r20 H locs h hP hD hS => ?_)
    refine lv_if_eq (tgt := 373) C.1 C.2.1 dX7_access_360 (by decide) (fun c22 => ?_) (fun c22 => ?_)
    · have h := h.1 c22
      refine lv_iconst (v := 0) C.1 C.2.1 dX7_access_373 (by decide) ?_
      exact B374 x3 x5 x10 (0 : Int32) S18 H locs ls h hP hD hS (lv_sub hl [0, 1, 2, 3] rfl)
    · have h := h.2 c22
      refine lv_aload_n C.1 C.2.1 dX7_access_363 rfl (lv_at hl 0 rfl) ?_
      refine mg_values C hinX7 hK hP (by decide +kernel) dX7_access_364 ?_
      refine lv_iload C.1 C.2.1 dX7_access_367 (lv_at hl 4 rfl) ?_
      obtain ⟨g21, h⟩ := h
      refine ma_values C hK hP g21  rfl dX7_access_369 ?_
      refine lv_goto (tgt := 374) C.1 C.2.1 dX7_access_370 (by decide) ?_
      exact B374 x3 x5 x10 (S18.1 11 (Int32.toNatClampNeg x11)) S18 H locs ls h hP hD hS (lv_sub hl [0, 1, 2, 3] rfl)
  have B329 : ∀ (x3 : Int32) (x5 : Int32) (x10 : Int32) (t0 : Int32) (S : St) (H : Heap) (locs : List Loc) (ls : Array Slot), bX7_access_329 Q x3 x5 x10 t0 S → va_P g vwCl (wM ct ad S) H → va_D A (wM ct ad S) → va_S A s.heap H locs → lv_has ls 14 [(0, .ref (ad 0)), (3, .int x3), (5, .int x5), (10, .int x10)] → W p l e R s m args below meth c H locs 0 0 QQ (F0 m 329 ls [.int t0]) := by
    intro x3 x5 x10 t0 S H locs ls h hP hD hS hl
    refine lv_istore (lv' := [(11, .int t0), (0, .ref (ad 0)), (3, .int x3), (5, .int x5), (10, .int x10)]) C.1 C.2.1 dX7_access_329 hl (by decide) rfl (fun ls hl => ?_)
    refine lv_aload_n C.1 C.2.1 dX7_access_331 rfl (lv_at hl 1 rfl) ?_
    refine mg_byValue C hinX7 hK hP (by decide +kernel) dX7_access_332 ?_
    refine lv_iload C.1 C.2.1 dX7_access_335 (lv_at hl 4 rfl) ?_
    refine lv_iload_n C.1 C.2.1 dX7_access_337 rfl (lv_at hl 2 rfl) ?_
    refine g_callS (w := wM ct ad) C hK hN hA hP hD hS (mX7_isWriting l g (mT ct) S H.size x3 _ h) (va_cwS 1 C.2.2.2.2 gX7_access_X7_isWriting rfl rfl rfl (by decide +kernel) ⟨Nat.le_trans (by decide) hRf, Nat.le_trans (by decide) hRl⟩) rfl hl.1 rfl (Nat.le_of_ble_eq_true rfl) dX7_access_338 ⟨Nat.zero_le _, Nat.zero_le _⟩ (fun r23 H locs h hP hD hS => ?_)
    refine lv_if_eq (tgt := 354) C.1 C.2.1 dX7_access_341 (by decide) (fun c25 => ?_) (fun c25 => ?_)
    · have h := h.1 c25
      refine lv_iconst (v := 0) C.1 C.2.1 dX7_access_354 (by decide) ?_
      exact B355 x3 x5 x10 t0 x10 (0 : Int32) S H locs ls h hP hD hS (lv_sub hl [1, 2, 3, 4, 0] rfl)
    · have h := h.2 c25
      refine lv_aload_n C.1 C.2.1 dX7_access_344 rfl (lv_at hl 1 rfl) ?_
      refine mg_carry C hinX7 hK hP (by decide +kernel) dX7_access_345 ?_
      refine lv_iload C.1 C.2.1 dX7_access_348 (lv_at hl 0 rfl) ?_
      obtain ⟨g24, h⟩ := h
      refine ma_carry C hK hP g24  rfl dX7_access_350 ?_
      refine lv_goto (tgt := 355) C.1 C.2.1 dX7_access_351 (by decide) ?_
      exact B355 x3 x5 x10 t0 x10 (S.1 12 (Int32.toNatClampNeg t0)) S H locs ls h hP hD hS (lv_sub hl [1, 2, 3, 4, 0] rfl)
  have B305 : ∀ (x3 : Int32) (x5 : Int32) (x6 : Int32) (x10 : Int32) (t1 : Int32) (t2 : Int32) (S : St) (H : Heap) (locs : List Loc) (ls : Array Slot), bX7_access_305 Q x3 x5 x6 x10 t1 t2 S → va_P g vwCl (wM ct ad S) H → va_D A (wM ct ad S) → va_S A s.heap H locs → lv_has ls 14 [(0, .ref (ad 0)), (3, .int x3), (5, .int x5), (6, .int x6), (10, .int x10)] → W p l e R s m args below meth c H locs 0 0 QQ (F0 m 305 ls [.int t2, .int t1, .ref (ad 14)]) := by
    intro x3 x5 x6 x10 t1 t2 S H locs ls h hP hD hS hl
    obtain ⟨g27, h⟩ := h
    obtain ⟨S26, eS26⟩ : ∃ z : St, z = wr S 20 (Int32.toNatClampNeg t1) t2 := ⟨_, rfl⟩
    have h := h S26 eS26
    refine ms_byPlace C hK hP hD hS  g27 rfl dX7_access_305 (fun H locs hP hD hS => ?_)
    rw [← eS26] at hP hD
    refine lv_aload_n C.1 C.2.1 dX7_access_306 rfl (lv_at hl 0 rfl) ?_
    refine mg_byWay C hinX7 hK hP (by decide +kernel) dX7_access_307 ?_
    refine lv_iload C.1 C.2.1 dX7_access_310 (lv_at hl 4 rfl) ?_
    refine lv_aload_n C.1 C.2.1 dX7_access_312 rfl (lv_at hl 0 rfl) ?_
    refine mg_way C hinX7 hK hP (by decide +kernel) dX7_access_313 ?_
    obtain ⟨g29, h⟩ := h
    obtain ⟨S28, eS28⟩ : ∃ z : St, z = wr S26 22 (Int32.toNatClampNeg x10) (S26.1 33 0) := ⟨_, rfl⟩
    have h := h S28 eS28
    refine ms_byWay C hK hP hD hS  g29 rfl dX7_access_316 (fun H locs hP hD hS => ?_)
    rw [← eS28] at hP hD
    refine lv_iload_n C.1 C.2.1 dX7_access_317 rfl (lv_at hl 1 rfl) ?_
    refine lv_iconst (v := 1) C.1 C.2.1 dX7_access_318 (by decide) ?_
    refine lv_icmp_ne (tgt := 327) C.1 C.2.1 dX7_access_319 (by decide) (fun c30 => ?_) (fun c30 => ?_)
    · have h := h.1 c30
      refine lv_iload C.1 C.2.1 dX7_access_327 (lv_at hl 3 rfl) ?_
      exact B329 x3 x5 x10 x6 S28 H locs ls h hP hD hS (lv_sub hl [0, 1, 2, 4] rfl)
    · have h := h.2 c30
      refine lv_iload C.1 C.2.1 dX7_access_322 (lv_at hl 2 rfl) ?_
      refine lv_goto (tgt := 329) C.1 C.2.1 dX7_access_324 (by decide) ?_
      exact B329 x3 x5 x10 x5 S28 H locs ls h hP hD hS (lv_sub hl [0, 1, 2, 4] rfl)
  have B276 : ∀ (x1 : Int32) (x3 : Int32) (x5 : Int32) (x6 : Int32) (x8 : Int32) (x10 : Int32) (t1 : Int32) (t3 : Int32) (t4 : Int32) (S : St) (H : Heap) (locs : List Loc) (ls : Array Slot), bX7_access_276 Q x1 x3 x5 x6 x8 x10 t1 t3 t4 S → va_P g vwCl (wM ct ad S) H → va_D A (wM ct ad S) → va_S A s.heap H locs → lv_has ls 14 [(0, .ref (ad 0)), (1, .int x1), (3, .int x3), (5, .int x5), (6, .int x6), (8, .int x8), (10, .int x10)] → W p l e R s m args below meth c H locs 0 0 QQ (F0 m 276 ls [.int t4, .int t3, .ref (ad 1), .int t1, .ref (ad 13)]) := by
    intro x1 x3 x5 x6 x8 x10 t1 t3 t4 S H locs ls h hP hD hS hl
    refine lv_iadd C.1 C.2.1 dX7_access_276 ?_
    obtain ⟨g31, h⟩ := h
    refine ma_programs C hK hP g31  rfl dX7_access_277 ?_
    obtain ⟨g33, h⟩ := h
    obtain ⟨S32, eS32⟩ : ∃ z : St, z = wr S 19 (Int32.toNatClampNeg t1) (S.1 1 (Int32.toNatClampNeg (t3 + t4))) := ⟨_, rfl⟩
    have h := h S32 eS32
    refine ms_marks C hK hP hD hS  g33 rfl dX7_access_278 (fun H locs hP hD hS => ?_)
    rw [← eS32] at hP hD
    refine lv_aload_n C.1 C.2.1 dX7_access_279 rfl (lv_at hl 0 rfl) ?_
    refine mg_byPlace C hinX7 hK hP (by decide +kernel) dX7_access_280 ?_
    refine lv_iload C.1 C.2.1 dX7_access_283 (lv_at hl 6 rfl) ?_
    refine lv_iload C.1 C.2.1 dX7_access_285 (lv_at hl 5 rfl) ?_
    refine lv_if_ge (tgt := 294) C.1 C.2.1 dX7_access_287 (by decide) (fun c35 => ?_) (fun c35 => ?_)
    · have h := h.1 c35
      refine lv_aload_n C.1 C.2.1 dX7_access_294 rfl (lv_at hl 0 rfl) ?_
      refine mg_carry C hinX7 hK hP (by decide +kernel) dX7_access_295 ?_
      refine lv_iconst (v := 4) C.1 C.2.1 dX7_access_298 (by decide) ?_
      refine lv_iload_n C.1 C.2.1 dX7_access_299 rfl (lv_at hl 1 rfl) ?_
      refine lv_imul C.1 C.2.1 dX7_access_300 ?_
      refine lv_iload C.1 C.2.1 dX7_access_301 (lv_at hl 5 rfl) ?_
      refine lv_iadd C.1 C.2.1 dX7_access_303 ?_
      obtain ⟨g34, h⟩ := h
      refine ma_carry C hK hP g34  rfl dX7_access_304 ?_
      exact B305 x3 x5 x6 x10 x10 (S32.1 12 (Int32.toNatClampNeg (((4 : Int32) * x1) + x8))) S32 H locs ls h hP hD hS (lv_sub hl [0, 2, 3, 4, 6] rfl)
    · have h := h.2 c35
      refine lv_iconst (v := 0) C.1 C.2.1 dX7_access_290 (by decide) ?_
      refine lv_goto (tgt := 305) C.1 C.2.1 dX7_access_291 (by decide) ?_
      exact B305 x3 x5 x6 x10 x10 (0 : Int32) S32 H locs ls h hP hD hS (lv_sub hl [0, 2, 3, 4, 6] rfl)
  have B214 : ∀ (x1 : Int32) (x2 : Int32) (x3 : Int32) (x4 : Int32) (x5 : Int32) (x6 : Int32) (x8 : Int32) (x9 : Int32) (S : St) (H : Heap) (locs : List Loc) (ls : Array Slot), bX7_access_214 Q x1 x2 x3 x4 x5 x6 x8 x9 S → va_P g vwCl (wM ct ad S) H → va_D A (wM ct ad S) → va_S A s.heap H locs → lv_has ls 14 [(0, .ref (ad 0)), (1, .int x1), (2, .int x2), (3, .int x3), (4, .int x4), (5, .int x5), (6, .int x6), (8, .int x8), (9, .int x9)] → W p l e R s m args below meth c H locs 0 0 QQ (F0 m 214 ls []) := by
    intro x1 x2 x3 x4 x5 x6 x8 x9 S H locs ls h hP hD hS hl
    refine lv_aload_n C.1 C.2.1 dX7_access_214 rfl (lv_at hl 0 rfl) ?_
    refine mg_accesses C hinX7 hK hP (by decide +kernel) dX7_access_215 ?_
    refine lv_topi (fun y36 ey36 => ?_)
    have h := h y36 ey36
    refine lv_istore (lv' := [(10, .int y36), (0, .ref (ad 0)), (1, .int x1), (2, .int x2), (3, .int x3), (4, .int x4), (5, .int x5), (6, .int x6), (8, .int x8), (9, .int x9)]) C.1 C.2.1 dX7_access_218 hl (by decide) rfl (fun ls hl => ?_)
    refine lv_aload_n C.1 C.2.1 dX7_access_220 rfl (lv_at hl 1 rfl) ?_
    refine lv_dup C.1 C.2.1 dX7_access_221 rfl ?_
    refine mg_accesses C hinX7 hK hP (by decide +kernel) dX7_access_222 ?_
    refine lv_iconst (v := 1) C.1 C.2.1 dX7_access_225 (by decide) ?_
    refine lv_iadd C.1 C.2.1 dX7_access_226 ?_
    obtain ⟨S37, eS37⟩ : ∃ z : St, z = wr S 13 0 ((S.1 13 0) + (1 : Int32)) := ⟨_, rfl⟩
    have h := h S37 eS37
    refine mp_accesses C hinX7 hK hP hD hS (by decide +kernel) dX7_access_227 (fun H locs hP hD hS => ?_)
    rw [← eS37] at hP hD
    refine lv_aload_n C.1 C.2.1 dX7_access_230 rfl (lv_at hl 1 rfl) ?_
    refine mg_hartOf C hinX7 hK hP (by decide +kernel) dX7_access_231 ?_
    refine lv_iload C.1 C.2.1 dX7_access_234 (lv_at hl 0 rfl) ?_
    refine lv_iload_n C.1 C.2.1 dX7_access_236 rfl (lv_at hl 2 rfl) ?_
    obtain ⟨g39, h⟩ := h
    obtain ⟨S38, eS38⟩ : ∃ z : St, z = wr S37 14 (Int32.toNatClampNeg y36) x1 := ⟨_, rfl⟩
    have h := h S38 eS38
    refine ms_hartOf C hK hP hD hS  g39 rfl dX7_access_237 (fun H locs hP hD hS => ?_)
    rw [← eS38] at hP hD
    refine lv_aload_n C.1 C.2.1 dX7_access_238 rfl (lv_at hl 1 rfl) ?_
    refine mg_kindOf C hinX7 hK hP (by decide +kernel) dX7_access_239 ?_
    refine lv_iload C.1 C.2.1 dX7_access_242 (lv_at hl 0 rfl) ?_
    refine lv_iload_n C.1 C.2.1 dX7_access_244 rfl (lv_at hl 4 rfl) ?_
    obtain ⟨g41, h⟩ := h
    obtain ⟨S40, eS40⟩ : ∃ z : St, z = wr S38 15 (Int32.toNatClampNeg y36) x3 := ⟨_, rfl⟩
    have h := h S40 eS40
    refine ms_kindOf C hK hP hD hS  g41 rfl dX7_access_245 (fun H locs hP hD hS => ?_)
    rw [← eS40] at hP hD
    refine lv_aload_n C.1 C.2.1 dX7_access_246 rfl (lv_at hl 1 rfl) ?_
    refine mg_locationOf C hinX7 hK hP (by decide +kernel) dX7_access_247 ?_
    refine lv_iload C.1 C.2.1 dX7_access_250 (lv_at hl 0 rfl) ?_
    refine lv_iload C.1 C.2.1 dX7_access_252 (lv_at hl 9 rfl) ?_
    obtain ⟨g43, h⟩ := h
    obtain ⟨S42, eS42⟩ : ∃ z : St, z = wr S40 16 (Int32.toNatClampNeg y36) x9 := ⟨_, rfl⟩
    have h := h S42 eS42
    refine ms_locationOf C hK hP hD hS  g43 rfl dX7_access_254 (fun H locs hP hD hS => ?_)
    rw [← eS42] at hP hD
    refine lv_aload_n C.1 C.2.1 dX7_access_255 rfl (lv_at hl 1 rfl) ?_
    refine mg_marks C hinX7 hK hP (by decide +kernel) dX7_access_256 ?_
    refine lv_iload C.1 C.2.1 dX7_access_259 (lv_at hl 0 rfl) ?_
    refine lv_aload_n C.1 C.2.1 dX7_access_261 rfl (lv_at hl 1 rfl) ?_
    refine mg_programs C hinX7 hK hP (by decide +kernel) dX7_access_262 ?_
    refine lv_iload_n C.1 C.2.1 dX7_access_265 rfl (lv_at hl 3 rfl) ?_
    refine lv_iload C.1 C.2.1 dX7_access_266 (lv_at hl 5 rfl) ?_
    refine lv_if_eq (tgt := 275) C.1 C.2.1 dX7_access_268 (by decide) (fun c44 => ?_) (fun c44 => ?_)
    · have h := h.1 c44
      refine lv_iconst (v := 4) C.1 C.2.1 dX7_access_275 (by decide) ?_
      exact B276 x1 x3 x5 x6 x8 y36 y36 x2 (4 : Int32) S42 H locs ls h hP hD hS (lv_sub hl [1, 2, 4, 6, 7, 8, 0] rfl)
    · have h := h.2 c44
      refine lv_iconst (v := 5) C.1 C.2.1 dX7_access_271 (by decide) ?_
      refine lv_goto (tgt := 276) C.1 C.2.1 dX7_access_272 (by decide) ?_
      exact B276 x1 x3 x5 x6 x8 y36 y36 x2 (5 : Int32) S42 H locs ls h hP hD hS (lv_sub hl [1, 2, 4, 6, 7, 8, 0] rfl)
  have B168 : ∀ (x1 : Int32) (x2 : Int32) (x3 : Int32) (x4 : Int32) (x5 : Int32) (x6 : Int32) (x8 : Int32) (x9 : Int32) (t0 : Int32) (S : St) (H : Heap) (locs : List Loc) (ls : Array Slot), bX7_access_168 Q x1 x2 x3 x4 x5 x6 x8 x9 t0 S → va_P g vwCl (wM ct ad S) H → va_D A (wM ct ad S) → va_S A s.heap H locs → lv_has ls 14 [(0, .ref (ad 0)), (1, .int x1), (2, .int x2), (3, .int x3), (4, .int x4), (5, .int x5), (6, .int x6), (8, .int x8), (9, .int x9)] → W p l e R s m args below meth c H locs 0 0 QQ (F0 m 168 ls [.int t0]) := by
    intro x1 x2 x3 x4 x5 x6 x8 x9 t0 S H locs ls h hP hD hS hl
    refine lv_istore (lv' := [(11, .int t0), (0, .ref (ad 0)), (1, .int x1), (2, .int x2), (3, .int x3), (4, .int x4), (5, .int x5), (6, .int x6), (8, .int x8), (9, .int x9)]) C.1 C.2.1 dX7_access_168 hl (by decide) rfl (fun ls hl => ?_)
    refine lv_aload_n C.1 C.2.1 dX7_access_170 rfl (lv_at hl 1 rfl) ?_
    refine mg_reserved C hinX7 hK hP (by decide +kernel) dX7_access_171 ?_
    refine lv_topi (fun y45 ey45 => ?_)
    have h := h y45 ey45
    refine lv_istore (lv' := [(12, .int y45), (11, .int t0), (0, .ref (ad 0)), (1, .int x1), (2, .int x2), (3, .int x3), (4, .int x4), (5, .int x5), (6, .int x6), (8, .int x8), (9, .int x9)]) C.1 C.2.1 dX7_access_174 hl (by decide) rfl (fun ls hl => ?_)
    refine lv_aload_n C.1 C.2.1 dX7_access_176 rfl (lv_at hl 2 rfl) ?_
    refine lv_iconst (v := -1) C.1 C.2.1 dX7_access_177 (by decide) ?_
    obtain ⟨S46, eS46⟩ : ∃ z : St, z = wr S 34 0 (-1 : Int32) := ⟨_, rfl⟩
    have h := h S46 eS46
    refine mp_reserved C hinX7 hK hP hD hS (by decide +kernel) dX7_access_178 (fun H locs hP hD hS => ?_)
    rw [← eS46] at hP hD
    refine lv_iload C.1 C.2.1 dX7_access_181 (lv_at hl 1 rfl) ?_
    refine lv_if_eq (tgt := 203) C.1 C.2.1 dX7_access_183 (by decide) (fun c53 => ?_) (fun c53 => ?_)
    · have h := h.1 c53
      refine lv_aload_n C.1 C.2.1 dX7_access_203 rfl (lv_at hl 2 rfl) ?_
      refine mg_reserve C hinX7 hK hP (by decide +kernel) dX7_access_204 ?_
      refine lv_aload_n C.1 C.2.1 dX7_access_207 rfl (lv_at hl 2 rfl) ?_
      refine mg_accesses C hinX7 hK hP (by decide +kernel) dX7_access_208 ?_
      refine lv_iload C.1 C.2.1 dX7_access_211 (lv_at hl 0 rfl) ?_
      obtain ⟨g48, h⟩ := h
      obtain ⟨S47, eS47⟩ : ∃ z : St, z = wr S46 23 (Int32.toNatClampNeg (S46.1 13 0)) y45 := ⟨_, rfl⟩
      have h := h S47 eS47
      refine ms_reserve C hK hP hD hS  g48 rfl dX7_access_213 (fun H locs hP hD hS => ?_)
      rw [← eS47] at hP hD
      exact B214 x1 x2 x3 x4 x5 x6 x8 x9 S47 H locs ls h hP hD hS (lv_sub hl [2, 3, 4, 5, 6, 7, 8, 9, 10] rfl)
    · have h := h.2 c53
      refine lv_aload_n C.1 C.2.1 dX7_access_186 rfl (lv_at hl 2 rfl) ?_
      refine mg_values C hinX7 hK hP (by decide +kernel) dX7_access_187 ?_
      refine lv_iload C.1 C.2.1 dX7_access_190 (lv_at hl 7 rfl) ?_
      refine lv_iconst (v := 1) C.1 C.2.1 dX7_access_192 (by decide) ?_
      obtain ⟨g50, h⟩ := h
      obtain ⟨S49, eS49⟩ : ∃ z : St, z = wr S46 11 (Int32.toNatClampNeg x5) (1 : Int32) := ⟨_, rfl⟩
      have h := h S49 eS49
      refine ms_values C hK hP hD hS  g50 rfl dX7_access_193 (fun H locs hP hD hS => ?_)
      rw [← eS49] at hP hD
      refine lv_aload_n C.1 C.2.1 dX7_access_194 rfl (lv_at hl 2 rfl) ?_
      refine mg_carry C hinX7 hK hP (by decide +kernel) dX7_access_195 ?_
      refine lv_iload C.1 C.2.1 dX7_access_198 (lv_at hl 7 rfl) ?_
      refine lv_iconst (v := 0) C.1 C.2.1 dX7_access_200 (by decide) ?_
      obtain ⟨g52, h⟩ := h
      obtain ⟨S51, eS51⟩ : ∃ z : St, z = wr S49 12 (Int32.toNatClampNeg x5) (0 : Int32) := ⟨_, rfl⟩
      have h := h S51 eS51
      refine ms_carry C hK hP hD hS  g52 rfl dX7_access_201 (fun H locs hP hD hS => ?_)
      rw [← eS51] at hP hD
      exact hret _ _ _ _ _ dX7_access_202 h hP hD hS
  have B163 : ∀ (x1 : Int32) (x2 : Int32) (x3 : Int32) (x4 : Int32) (x5 : Int32) (x6 : Int32) (x8 : Int32) (x9 : Int32) (S : St) (H : Heap) (locs : List Loc) (ls : Array Slot), bX7_access_163 Q x1 x2 x3 x4 x5 x6 x8 x9 S → va_P g vwCl (wM ct ad S) H → va_D A (wM ct ad S) → va_S A s.heap H locs → lv_has ls 14 [(0, .ref (ad 0)), (1, .int x1), (2, .int x2), (3, .int x3), (4, .int x4), (5, .int x5), (6, .int x6), (8, .int x8), (9, .int x9)] → W p l e R s m args below meth c H locs 0 0 QQ (F0 m 163 ls []) := by
    intro x1 x2 x3 x4 x5 x6 x8 x9 S H locs ls h hP hD hS hl
    refine lv_iconst (v := 1) C.1 C.2.1 dX7_access_163 (by decide) ?_
    refine lv_goto (tgt := 168) C.1 C.2.1 dX7_access_164 (by decide) ?_
    exact B168 x1 x2 x3 x4 x5 x6 x8 x9 (1 : Int32) S H locs ls h hP hD hS (lv_sub hl [0, 1, 2, 3, 4, 5, 6, 7, 8] rfl)
  have B147 : ∀ (x1 : Int32) (x2 : Int32) (x3 : Int32) (x4 : Int32) (x5 : Int32) (x6 : Int32) (x8 : Int32) (x9 : Int32) (t0 : Int32) (S : St) (H : Heap) (locs : List Loc) (ls : Array Slot), bX7_access_147 Q x1 x2 x3 x4 x5 x6 x8 x9 t0 S → va_P g vwCl (wM ct ad S) H → va_D A (wM ct ad S) → va_S A s.heap H locs → lv_has ls 14 [(0, .ref (ad 0)), (1, .int x1), (2, .int x2), (3, .int x3), (4, .int x4), (5, .int x5), (6, .int x6), (8, .int x8), (9, .int x9)] → W p l e R s m args below meth c H locs 0 0 QQ (F0 m 147 ls [.int t0]) := by
    intro x1 x2 x3 x4 x5 x6 x8 x9 t0 S H locs ls h hP hD hS hl
    refine lv_istore (lv' := [(10, .int t0), (0, .ref (ad 0)), (1, .int x1), (2, .int x2), (3, .int x3), (4, .int x4), (5, .int x5), (6, .int x6), (8, .int x8), (9, .int x9)]) C.1 C.2.1 dX7_access_147 hl (by decide) rfl (fun ls hl => ?_)
    refine lv_iload C.1 C.2.1 dX7_access_149 (lv_at hl 0 rfl) ?_
    refine lv_if_eq (tgt := 163) C.1 C.2.1 dX7_access_151 (by decide) (fun c57 => ?_) (fun c57 => ?_)
    · have h := h.1 c57
      exact B163 x1 x2 x3 x4 x5 x6 x8 x9 S H locs ls h hP hD hS (lv_sub hl [1, 2, 3, 4, 5, 6, 7, 8, 9] rfl)
    · have h := h.2 c57
      refine lv_aload_n C.1 C.2.1 dX7_access_154 rfl (lv_at hl 1 rfl) ?_
      refine lv_iconst (v := 2) C.1 C.2.1 dX7_access_155 (by decide) ?_
      refine g_callVi (w := wM ct ad) C hK hN hA hP hD hS (mX7_choose l g ct ad H.size S (2 : Int32)  _ h) (cwV 1 C.2.2.2.2 gX7_access_X7_choose rfl rfl rfl (by decide +kernel) ⟨Nat.le_trans (by decide) hRf, Nat.le_trans (by decide) hRl⟩) (va_recv hK hP (ci := 7) (q0 := 0) rfl rfl) rfl hl.1 rfl (Nat.le_of_ble_eq_true rfl) dX7_access_156 ⟨Nat.zero_le _, Nat.zero_le _⟩ (fun r55 S54 H locs h hP hD hS => ?_)
      refine lv_iconst (v := 1) C.1 C.2.1 dX7_access_159 (by decide) ?_
      refine lv_icmp_ne (tgt := 167) C.1 C.2.1 dX7_access_160 (by decide) (fun c56 => ?_) (fun c56 => ?_)
      · have h := h.1 c56
        refine lv_iconst (v := 0) C.1 C.2.1 dX7_access_167 (by decide) ?_
        exact B168 x1 x2 x3 x4 x5 x6 x8 x9 (0 : Int32) S54 H locs ls h hP hD hS (lv_sub hl [1, 2, 3, 4, 5, 6, 7, 8, 9] rfl)
      · have h := h.2 c56
        exact B163 x1 x2 x3 x4 x5 x6 x8 x9 S54 H locs ls h hP hD hS (lv_sub hl [1, 2, 3, 4, 5, 6, 7, 8, 9] rfl)
  have B146 : ∀ (x1 : Int32) (x2 : Int32) (x3 : Int32) (x4 : Int32) (x5 : Int32) (x6 : Int32) (x8 : Int32) (x9 : Int32) (S : St) (H : Heap) (locs : List Loc) (ls : Array Slot), bX7_access_146 Q x1 x2 x3 x4 x5 x6 x8 x9 S → va_P g vwCl (wM ct ad S) H → va_D A (wM ct ad S) → va_S A s.heap H locs → lv_has ls 14 [(0, .ref (ad 0)), (1, .int x1), (2, .int x2), (3, .int x3), (4, .int x4), (5, .int x5), (6, .int x6), (8, .int x8), (9, .int x9)] → W p l e R s m args below meth c H locs 0 0 QQ (F0 m 146 ls []) := by
    intro x1 x2 x3 x4 x5 x6 x8 x9 S H locs ls h hP hD hS hl
    refine lv_iconst (v := 0) C.1 C.2.1 dX7_access_146 (by decide) ?_
    exact B147 x1 x2 x3 x4 x5 x6 x8 x9 (0 : Int32) S H locs ls h hP hD hS (lv_sub hl [0, 1, 2, 3, 4, 5, 6, 7, 8] rfl)
  have B114 : ∀ (x1 : Int32) (x2 : Int32) (x3 : Int32) (x4 : Int32) (x5 : Int32) (x6 : Int32) (x8 : Int32) (t0 : Int32) (S : St) (H : Heap) (locs : List Loc) (ls : Array Slot), bX7_access_114 Q x1 x2 x3 x4 x5 x6 x8 t0 S → va_P g vwCl (wM ct ad S) H → va_D A (wM ct ad S) → va_S A s.heap H locs → lv_has ls 14 [(0, .ref (ad 0)), (1, .int x1), (2, .int x2), (3, .int x3), (4, .int x4), (5, .int x5), (6, .int x6), (8, .int x8)] → W p l e R s m args below meth c H locs 0 0 QQ (F0 m 114 ls [.int t0]) := by
    intro x1 x2 x3 x4 x5 x6 x8 t0 S H locs ls h hP hD hS hl
    refine lv_istore (lv' := [(9, .int t0), (0, .ref (ad 0)), (1, .int x1), (2, .int x2), (3, .int x3), (4, .int x4), (5, .int x5), (6, .int x6), (8, .int x8)]) C.1 C.2.1 dX7_access_114 hl (by decide) rfl (fun ls hl => ?_)
    refine lv_iload_n C.1 C.2.1 dX7_access_116 rfl (lv_at hl 4 rfl) ?_
    refine lv_iconst (v := 5) C.1 C.2.1 dX7_access_117 (by decide) ?_
    refine lv_icmp_ne (tgt := 214) C.1 C.2.1 dX7_access_118 (by decide) (fun c61 => ?_) (fun c61 => ?_)
    · have h := h.1 c61
      exact B214 x1 x2 x3 x4 x5 x6 x8 t0 S H locs ls h hP hD hS (lv_sub hl [1, 2, 3, 4, 5, 6, 7, 8, 0] rfl)
    · have h := h.2 c61
      refine lv_aload_n C.1 C.2.1 dX7_access_121 rfl (lv_at hl 1 rfl) ?_
      refine mg_reserved C hinX7 hK hP (by decide +kernel) dX7_access_122 ?_
      refine lv_if_lt (tgt := 146) C.1 C.2.1 dX7_access_125 (by decide) (fun c60 => ?_) (fun c60 => ?_)
      · have h := h.1 c60
        exact B146 x1 x2 x3 x4 x5 x6 x8 t0 S H locs ls h hP hD hS (lv_sub hl [1, 2, 3, 4, 5, 6, 7, 8, 0] rfl)
      · have h := h.2 c60
        refine lv_aload_n C.1 C.2.1 dX7_access_128 rfl (lv_at hl 1 rfl) ?_
        refine mg_locationOf C hinX7 hK hP (by decide +kernel) dX7_access_129 ?_
        refine lv_aload_n C.1 C.2.1 dX7_access_132 rfl (lv_at hl 1 rfl) ?_
        refine mg_reserved C hinX7 hK hP (by decide +kernel) dX7_access_133 ?_
        obtain ⟨g58, h⟩ := h
        refine ma_locationOf C hK hP g58  rfl dX7_access_136 ?_
        refine lv_iload C.1 C.2.1 dX7_access_137 (lv_at hl 0 rfl) ?_
        refine lv_icmp_ne (tgt := 146) C.1 C.2.1 dX7_access_139 (by decide) (fun c59 => ?_) (fun c59 => ?_)
        · have h := h.1 c59
          exact B146 x1 x2 x3 x4 x5 x6 x8 t0 S H locs ls h hP hD hS (lv_sub hl [1, 2, 3, 4, 5, 6, 7, 8, 0] rfl)
        · have h := h.2 c59
          refine lv_iconst (v := 1) C.1 C.2.1 dX7_access_142 (by decide) ?_
          refine lv_goto (tgt := 147) C.1 C.2.1 dX7_access_143 (by decide) ?_
          exact B147 x1 x2 x3 x4 x5 x6 x8 t0 (1 : Int32) S H locs ls h hP hD hS (lv_sub hl [1, 2, 3, 4, 5, 6, 7, 8, 0] rfl)
  have B84 : ∀ (x1 : Int32) (x2 : Int32) (x3 : Int32) (x4 : Int32) (x5 : Int32) (x6 : Int32) (x7 : Int32) (t1 : Int32) (t2 : Int32) (S : St) (H : Heap) (locs : List Loc) (ls : Array Slot), bX7_access_84 Q x1 x2 x3 x4 x5 x6 x7 t1 t2 S → va_P g vwCl (wM ct ad S) H → va_D A (wM ct ad S) → va_S A s.heap H locs → lv_has ls 14 [(0, .ref (ad 0)), (1, .int x1), (2, .int x2), (3, .int x3), (4, .int x4), (5, .int x5), (6, .int x6), (7, .int x7)] → W p l e R s m args below meth c H locs 0 0 QQ (F0 m 84 ls [.int t2, .int t1, .ref (ad 1)]) := by
    intro x1 x2 x3 x4 x5 x6 x7 t1 t2 S H locs ls h hP hD hS hl
    refine lv_iadd C.1 C.2.1 dX7_access_84 ?_
    obtain ⟨g62, h⟩ := h
    refine ma_programs C hK hP g62  rfl dX7_access_85 ?_
    refine lv_topi (fun y63 ey63 => ?_)
    have h := h y63 ey63
    refine lv_istore (lv' := [(8, .int y63), (0, .ref (ad 0)), (1, .int x1), (2, .int x2), (3, .int x3), (4, .int x4), (5, .int x5), (6, .int x6), (7, .int x7)]) C.1 C.2.1 dX7_access_86 hl (by decide) rfl (fun ls hl => ?_)
    refine lv_iload C.1 C.2.1 dX7_access_88 (lv_at hl 0 rfl) ?_
    refine lv_if_ge (tgt := 98) C.1 C.2.1 dX7_access_90 (by decide) (fun c65 => ?_) (fun c65 => ?_)
    · have h := h.1 c65
      refine lv_iload C.1 C.2.1 dX7_access_98 (lv_at hl 8 rfl) ?_
      refine lv_aload_n C.1 C.2.1 dX7_access_100 rfl (lv_at hl 1 rfl) ?_
      refine mg_values C hinX7 hK hP (by decide +kernel) dX7_access_101 ?_
      refine lv_iconst (v := 4) C.1 C.2.1 dX7_access_104 (by decide) ?_
      refine lv_iload_n C.1 C.2.1 dX7_access_105 rfl (lv_at hl 2 rfl) ?_
      refine lv_imul C.1 C.2.1 dX7_access_106 ?_
      refine lv_iload C.1 C.2.1 dX7_access_107 (lv_at hl 0 rfl) ?_
      refine lv_iadd C.1 C.2.1 dX7_access_109 ?_
      obtain ⟨g64, h⟩ := h
      refine ma_values C hK hP g64  rfl dX7_access_110 ?_
      refine lv_iadd C.1 C.2.1 dX7_access_111 ?_
      refine lv_iconst (v := 3) C.1 C.2.1 dX7_access_112 (by decide) ?_
      refine lv_irem C.1 C.2.1 dX7_access_113 (by decide) ?_
      exact B114 x1 x2 x3 x4 x5 x6 y63 ((x7 + (S.1 11 (Int32.toNatClampNeg (((4 : Int32) * x1) + y63)))) - (x7 + (S.1 11 (Int32.toNatClampNeg (((4 : Int32) * x1) + y63)))) / (3 : Int32) * (3 : Int32)) S H locs ls h hP hD hS (lv_sub hl [1, 2, 3, 4, 5, 6, 7, 0] rfl)
    · have h := h.2 c65
      refine lv_iload C.1 C.2.1 dX7_access_93 (lv_at hl 8 rfl) ?_
      refine lv_goto (tgt := 114) C.1 C.2.1 dX7_access_95 (by decide) ?_
      exact B114 x1 x2 x3 x4 x5 x6 y63 x7 S H locs ls h hP hD hS (lv_sub hl [1, 2, 3, 4, 5, 6, 7, 0] rfl)
  have B65 : ∀ (x1 : Int32) (x2 : Int32) (x3 : Int32) (x4 : Int32) (x5 : Int32) (x6 : Int32) (t1 : Int32) (t2 : Int32) (S : St) (H : Heap) (locs : List Loc) (ls : Array Slot), bX7_access_65 Q x1 x2 x3 x4 x5 x6 t1 t2 S → va_P g vwCl (wM ct ad S) H → va_D A (wM ct ad S) → va_S A s.heap H locs → lv_has ls 14 [(0, .ref (ad 0)), (1, .int x1), (2, .int x2), (3, .int x3), (4, .int x4), (5, .int x5), (6, .int x6)] → W p l e R s m args below meth c H locs 0 0 QQ (F0 m 65 ls [.int t2, .int t1, .ref (ad 1)]) := by
    intro x1 x2 x3 x4 x5 x6 t1 t2 S H locs ls h hP hD hS hl
    refine lv_iadd C.1 C.2.1 dX7_access_65 ?_
    obtain ⟨g66, h⟩ := h
    refine ma_programs C hK hP g66  rfl dX7_access_66 ?_
    refine lv_topi (fun y67 ey67 => ?_)
    have h := h y67 ey67
    refine lv_istore (lv' := [(7, .int y67), (0, .ref (ad 0)), (1, .int x1), (2, .int x2), (3, .int x3), (4, .int x4), (5, .int x5), (6, .int x6)]) C.1 C.2.1 dX7_access_67 hl (by decide) rfl (fun ls hl => ?_)
    refine lv_aload_n C.1 C.2.1 dX7_access_69 rfl (lv_at hl 1 rfl) ?_
    refine mg_programs C hinX7 hK hP (by decide +kernel) dX7_access_70 ?_
    refine lv_iload_n C.1 C.2.1 dX7_access_73 rfl (lv_at hl 3 rfl) ?_
    refine lv_iload C.1 C.2.1 dX7_access_74 (lv_at hl 5 rfl) ?_
    refine lv_if_eq (tgt := 83) C.1 C.2.1 dX7_access_76 (by decide) (fun c68 => ?_) (fun c68 => ?_)
    · have h := h.1 c68
      refine lv_iconst (v := 3) C.1 C.2.1 dX7_access_83 (by decide) ?_
      exact B84 x1 x2 x3 x4 x5 x6 y67 x2 (3 : Int32) S H locs ls h hP hD hS (lv_sub hl [1, 2, 3, 4, 5, 6, 7, 0] rfl)
    · have h := h.2 c68
      refine lv_iconst (v := 4) C.1 C.2.1 dX7_access_79 (by decide) ?_
      refine lv_goto (tgt := 84) C.1 C.2.1 dX7_access_80 (by decide) ?_
      exact B84 x1 x2 x3 x4 x5 x6 y67 x2 (4 : Int32) S H locs ls h hP hD hS (lv_sub hl [1, 2, 3, 4, 5, 6, 7, 0] rfl)
  have B20 : ∀ (x1 : Int32) (x2 : Int32) (x3 : Int32) (t0 : Int32) (S : St) (H : Heap) (locs : List Loc) (ls : Array Slot), bX7_access_20 Q x1 x2 x3 t0 S → va_P g vwCl (wM ct ad S) H → va_D A (wM ct ad S) → va_S A s.heap H locs → lv_has ls 14 [(0, .ref (ad 0)), (1, .int x1), (2, .int x2), (3, .int x3)] → W p l e R s m args below meth c H locs 0 0 QQ (F0 m 20 ls [.int t0]) := by
    intro x1 x2 x3 t0 S H locs ls h hP hD hS hl
    refine lv_istore (lv' := [(4, .int t0), (0, .ref (ad 0)), (1, .int x1), (2, .int x2), (3, .int x3)]) C.1 C.2.1 dX7_access_20 hl (by decide) rfl (fun ls hl => ?_)
    refine lv_iconst (v := 4) C.1 C.2.1 dX7_access_22 (by decide) ?_
    refine lv_iload_n C.1 C.2.1 dX7_access_23 rfl (lv_at hl 2 rfl) ?_
    refine lv_imul C.1 C.2.1 dX7_access_24 ?_
    refine lv_aload_n C.1 C.2.1 dX7_access_25 rfl (lv_at hl 1 rfl) ?_
    refine mg_programs C hinX7 hK hP (by decide +kernel) dX7_access_26 ?_
    refine lv_iload_n C.1 C.2.1 dX7_access_29 rfl (lv_at hl 3 rfl) ?_
    refine lv_iconst (v := 1) C.1 C.2.1 dX7_access_30 (by decide) ?_
    refine lv_iadd C.1 C.2.1 dX7_access_31 ?_
    obtain ⟨g69, h⟩ := h
    refine ma_programs C hK hP g69  rfl dX7_access_32 ?_
    refine lv_iadd C.1 C.2.1 dX7_access_33 ?_
    refine lv_topi (fun y70 ey70 => ?_)
    have h := h y70 ey70
    refine lv_istore (lv' := [(5, .int y70), (4, .int t0), (0, .ref (ad 0)), (1, .int x1), (2, .int x2), (3, .int x3)]) C.1 C.2.1 dX7_access_34 hl (by decide) rfl (fun ls hl => ?_)
    refine lv_iconst (v := 4) C.1 C.2.1 dX7_access_36 (by decide) ?_
    refine lv_iload_n C.1 C.2.1 dX7_access_37 rfl (lv_at hl 3 rfl) ?_
    refine lv_imul C.1 C.2.1 dX7_access_38 ?_
    refine lv_aload_n C.1 C.2.1 dX7_access_39 rfl (lv_at hl 2 rfl) ?_
    refine mg_programs C hinX7 hK hP (by decide +kernel) dX7_access_40 ?_
    refine lv_iload_n C.1 C.2.1 dX7_access_43 rfl (lv_at hl 4 rfl) ?_
    refine lv_iconst (v := 2) C.1 C.2.1 dX7_access_44 (by decide) ?_
    refine lv_iadd C.1 C.2.1 dX7_access_45 ?_
    obtain ⟨g71, h⟩ := h
    refine ma_programs C hK hP g71  rfl dX7_access_46 ?_
    refine lv_iadd C.1 C.2.1 dX7_access_47 ?_
    refine lv_topi (fun y72 ey72 => ?_)
    have h := h y72 ey72
    refine lv_istore (lv' := [(6, .int y72), (5, .int y70), (4, .int t0), (0, .ref (ad 0)), (1, .int x1), (2, .int x2), (3, .int x3)]) C.1 C.2.1 dX7_access_48 hl (by decide) rfl (fun ls hl => ?_)
    refine lv_aload_n C.1 C.2.1 dX7_access_50 rfl (lv_at hl 3 rfl) ?_
    refine mg_programs C hinX7 hK hP (by decide +kernel) dX7_access_51 ?_
    refine lv_iload_n C.1 C.2.1 dX7_access_54 rfl (lv_at hl 5 rfl) ?_
    refine lv_iload C.1 C.2.1 dX7_access_55 (lv_at hl 2 rfl) ?_
    refine lv_if_eq (tgt := 64) C.1 C.2.1 dX7_access_57 (by decide) (fun c73 => ?_) (fun c73 => ?_)
    · have h := h.1 c73
      refine lv_iconst (v := 2) C.1 C.2.1 dX7_access_64 (by decide) ?_
      exact B65 x1 x2 x3 t0 y70 y72 x2 (2 : Int32) S H locs ls h hP hD hS (lv_sub hl [3, 4, 5, 6, 2, 1, 0] rfl)
    · have h := h.2 c73
      refine lv_iconst (v := 3) C.1 C.2.1 dX7_access_60 (by decide) ?_
      refine lv_goto (tgt := 65) C.1 C.2.1 dX7_access_61 (by decide) ?_
      exact B65 x1 x2 x3 t0 y70 y72 x2 (3 : Int32) S H locs ls h hP hD hS (lv_sub hl [3, 4, 5, 6, 2, 1, 0] rfl)
  have B15 : ∀ (x1 : Int32) (x2 : Int32) (x3 : Int32) (S : St) (H : Heap) (locs : List Loc) (ls : Array Slot), bX7_access_15 Q x1 x2 x3 S → va_P g vwCl (wM ct ad S) H → va_D A (wM ct ad S) → va_S A s.heap H locs → lv_has ls 14 [(0, .ref (ad 0)), (1, .int x1), (2, .int x2), (3, .int x3)] → W p l e R s m args below meth c H locs 0 0 QQ (F0 m 15 ls []) := by
    intro x1 x2 x3 S H locs ls h hP hD hS hl
    refine lv_iconst (v := 1) C.1 C.2.1 dX7_access_15 (by decide) ?_
    refine lv_goto (tgt := 20) C.1 C.2.1 dX7_access_16 (by decide) ?_
    exact B20 x1 x2 x3 (1 : Int32) S H locs ls h hP hD hS (lv_sub hl [0, 1, 2, 3] rfl)
  refine lv_iload_n C.1 C.2.1 dX7_access_0 rfl (lv_at hl 3 rfl) ?_
  refine lv_iconst (v := 2) C.1 C.2.1 dX7_access_1 (by decide) ?_
  refine lv_icmp_eq (tgt := 15) C.1 C.2.1 dX7_access_2 (by decide) (fun c76 => ?_) (fun c76 => ?_)
  · have h := h.1 c76
    exact B15 x1 x2 x3 S H locs ls h hP hD hS (lv_sub hl [0, 1, 2, 3] rfl)
  · have h := h.2 c76
    refine lv_iload_n C.1 C.2.1 dX7_access_5 rfl (lv_at hl 3 rfl) ?_
    refine lv_iconst (v := 3) C.1 C.2.1 dX7_access_6 (by decide) ?_
    refine lv_icmp_eq (tgt := 15) C.1 C.2.1 dX7_access_7 (by decide) (fun c75 => ?_) (fun c75 => ?_)
    · have h := h.1 c75
      exact B15 x1 x2 x3 S H locs ls h hP hD hS (lv_sub hl [0, 1, 2, 3] rfl)
    · have h := h.2 c75
      refine lv_iload_n C.1 C.2.1 dX7_access_10 rfl (lv_at hl 3 rfl) ?_
      refine lv_iconst (v := 5) C.1 C.2.1 dX7_access_11 (by decide) ?_
      refine lv_icmp_ne (tgt := 19) C.1 C.2.1 dX7_access_12 (by decide) (fun c74 => ?_) (fun c74 => ?_)
      · have h := h.1 c74
        refine lv_iconst (v := 0) C.1 C.2.1 dX7_access_19 (by decide) ?_
        exact B20 x1 x2 x3 (0 : Int32) S H locs ls h hP hD hS (lv_sub hl [0, 1, 2, 3] rfl)
      · have h := h.2 c74
        exact B15 x1 x2 x3 S H locs ls h hP hD hS (lv_sub hl [0, 1, 2, 3] rfl)
theorem mX7_access (l : Launch) (g : va_G) (ct : Nat → ClassId) (ad : Nat → Nat) (sz : Nat) (S : St) (x1 : Int32) (x2 : Int32) (x3 : Int32) (Q : St → Prop) (h : pX7_access x1 x2 x3 S Q) : Met l yX7_access wsX7_access ({ frames := 1, cells := 0, slots := 0, locals := 21 }) (gPc g (mT ct) (wM ct ad S) sz [.ref (ad 0), .int x1, .int x2, .int x3]) (va_Qv Q (gB g (mT ct) (wM ct ad) (va_A (wM ct ad S) sz)) (va_A (wM ct ad S) sz)) 0 0 (va_A (wM ct ad S) sz) :=
  g_metV (w := wM ct ad) (cc := cX7_access) (maxL := 14) (by decide) rfl rfl (Nat.le_of_ble_eq_true rfl) rfl (fun p e s m args below meth c QQ A C hK hN hA hret H locs ls hP hD hS hl => kX7_access C hK hN hA (Nat.le_refl _) (Nat.le_refl _) Q hret x1 x2 x3 S h H locs ls hP hD hS hl)

def bX7_doHart_343 (k12 : Int32 → Int32 → St → Prop) (Q : St → Prop) (x1 : Int32) (x2 : Int32) (S : St) : Prop :=
  k12 x1 x2 S
def bX7_doHart_306 (k12 : Int32 → Int32 → St → Prop) (Q : St → Prop) (x1 : Int32) (x2 : Int32) (x5 : Int32) (x6 : Int32) (x7 : Int32) (t0 : Int32) (S : St) : Prop :=
  (vp_in x6 16 ∧ (vp_in x7 16 ∧ (∀ y3 : Int32, y3 = ((S.1 12 (Int32.toNatClampNeg x6)) ||| (S.1 12 (Int32.toNatClampNeg x7))) → (vp_in x5 16 ∧ ∀ S4 : St, S4 = wr S 11 (Int32.toNatClampNeg x5) t0 → (vp_in x5 16 ∧ ∀ S6 : St, S6 = wr S4 12 (Int32.toNatClampNeg x5) y3 → bX7_doHart_343 k12 Q x1 x2 S6)))))
def bX7_doHart_232 (k12 : Int32 → Int32 → St → Prop) (Q : St → Prop) (x1 : Int32) (t0 : Int32) (S : St) : Prop :=
  bX7_doHart_343 k12 Q x1 t0 S
def bX7_doHart_12 (k12 : Int32 → Int32 → St → Prop) (Q : St → Prop) (x1 : Int32) (x2 : Int32) (S : St) : Prop :=
  (vp_in x1 4 ∧ (((S.1 2 (Int32.toNatClampNeg x1)) ≤ x2 → Q S) ∧ (¬ ((S.1 2 (Int32.toNatClampNeg x1)) ≤ x2) → (∀ y9 : Int32, y9 = (((36 : Int32) * x1) + ((6 : Int32) * x2)) → (vp_in y9 144 ∧ (∀ y11 : Int32, y11 = (S.1 1 (Int32.toNatClampNeg y9)) → (vp_in (y9 + (1 : Int32)) 144 ∧ (∀ y13 : Int32, y13 = (((4 : Int32) * x1) + (S.1 1 (Int32.toNatClampNeg (y9 + (1 : Int32))))) → (∀ y14 : Int32, y14 = x2 + (1 : Int32) → (((6 : Int32) ≤ y11 → ((¬ y11 = (6 : Int32) → ((¬ y11 = (7 : Int32) → ((¬ y11 = (10 : Int32) → (vp_in (y9 + (2 : Int32)) 144 ∧ (∀ y16 : Int32, y16 = (((4 : Int32) * x1) + (S.1 1 (Int32.toNatClampNeg (y9 + (2 : Int32))))) → (vp_in (y9 + (3 : Int32)) 144 ∧ (∀ y18 : Int32, y18 = (((4 : Int32) * x1) + (S.1 1 (Int32.toNatClampNeg (y9 + (3 : Int32))))) → ((¬ y11 = (8 : Int32) → (vp_in y16 16 ∧ (vp_in y18 16 ∧ bX7_doHart_306 k12 Q x1 y14 y13 y16 y18 ((S.1 11 (Int32.toNatClampNeg y16)) ^^^ (S.1 11 (Int32.toNatClampNeg y18))) S))) ∧ (y11 = (8 : Int32) → (vp_in y16 16 ∧ (vp_in y18 16 ∧ bX7_doHart_306 k12 Q x1 y14 y13 y16 y18 (((S.1 11 (Int32.toNatClampNeg y16)) + (S.1 11 (Int32.toNatClampNeg y18))) &&& (3 : Int32)) S))))))))) ∧ (y11 = (10 : Int32) → (vp_in y13 16 ∧ (∀ S25 : St, S25 = wr S 33 0 ((S.1 33 0) ||| (S.1 12 (Int32.toNatClampNeg y13))) → (vp_in y13 16 ∧ ((¬ (S25.1 11 (Int32.toNatClampNeg y13)) = 0 → bX7_doHart_232 k12 Q x1 y14 S25) ∧ ((S25.1 11 (Int32.toNatClampNeg y13)) = 0 → (vp_in (y9 + (2 : Int32)) 144 ∧ bX7_doHart_232 k12 Q x1 (y14 + (S25.1 1 (Int32.toNatClampNeg (y9 + (2 : Int32))))) S25))))))))) ∧ (y11 = (7 : Int32) → (vp_in (y9 + (2 : Int32)) 144 ∧ (vp_in y13 16 ∧ ∀ S31 : St, S31 = wr S 11 (Int32.toNatClampNeg y13) (S.1 1 (Int32.toNatClampNeg (y9 + (2 : Int32)))) → (vp_in y13 16 ∧ ∀ S33 : St, S33 = wr S31 12 (Int32.toNatClampNeg y13) (0 : Int32) → bX7_doHart_343 k12 Q x1 y14 S33)))))) ∧ (y11 = (6 : Int32) → (vp_in (S.1 24 0) 24 ∧ ∀ S36 : St, S36 = wr S 25 (Int32.toNatClampNeg (S.1 24 0)) x1 → (vp_in (S36.1 24 0) 24 ∧ ∀ S38 : St, S38 = wr S36 26 (Int32.toNatClampNeg (S36.1 24 0)) (S36.1 13 0) → (vp_in (y9 + (1 : Int32)) 144 ∧ (vp_in (S38.1 24 0) 24 ∧ ∀ S41 : St, S41 = wr S38 27 (Int32.toNatClampNeg (S38.1 24 0)) (S38.1 1 (Int32.toNatClampNeg (y9 + (1 : Int32)))) → (vp_in (y9 + (2 : Int32)) 144 ∧ (vp_in (S41.1 24 0) 24 ∧ ∀ S44 : St, S44 = wr S41 28 (Int32.toNatClampNeg (S41.1 24 0)) (S41.1 1 (Int32.toNatClampNeg (y9 + (2 : Int32)))) → (∀ S46 : St, S46 = wr S44 24 0 ((S44.1 24 0) + (1 : Int32)) → bX7_doHart_343 k12 Q x1 y14 S46)))))))))) ∧ (¬ ((6 : Int32) ≤ y11) → pX7_access x1 y9 y11 S (fun (S48 : St) => bX7_doHart_343 k12 Q x1 y14 S48))))))))))))
def pX7_doHart (x1 : Int32) (S : St) (Q : St → Prop) : Prop :=
  (∀ S51 : St, S51 = wr S 33 0 (0 : Int32) → (∀ S52 : St, S52 = wr S51 34 0 (-1 : Int32) → (∃ N : Nat, itr (F := Int32 → Int32 → St → Prop) (fun _ _ _ => False) (fun k12 x1 x2 S => bX7_doHart_12 k12 Q x1 x2 S) N x1 (0 : Int32) S52)))
set_option maxHeartbeats 40000000 in
set_option maxRecDepth 100000 in
theorem kX7_doHart {p : Program} {l : Launch} {e : Env} {R : Room} {s : State} {m : MethodId} {args : Array Value} {below : List Frame} {meth : Method} {c : Code} {QQ : State → Prop} {g : va_G} {ct : Nat → ClassId} {ad : Nat → Nat} {A : Nat → Prop} (C : CallFix p m c cX7_doHart 10 s args wsX7_doHart RX7) (hK : va_K g vwCl (mT ct) s) (hN : xN s) (hA : ∀ q, s.heap.size ≤ q → A q) (hRf : 2 ≤ R.frames) (hRl : 54 ≤ R.locals) (Q : St → Prop) (hret : ∀ (pc : Nat) (S : St) (H : Heap) (locs : List Loc) (ls : Array Slot), decode cX7_doHart pc = .ok (.return_, 1) → Q S → va_P g vwCl (wM ct ad S) H → va_D A (wM ct ad S) → va_S A s.heap H locs → W p l e R s m args below meth c H locs 0 0 QQ (F0 m pc ls [])) (x1 : Int32) (S : St) (h : pX7_doHart x1 S Q) (H : Heap) (locs : List Loc) (ls : Array Slot) (hP : va_P g vwCl (wM ct ad S) H) (hD : va_D A (wM ct ad S)) (hS : va_S A s.heap H locs) (hl : lv_has ls 10 [(0, .ref (ad 0)), (1, .int x1)]) : W p l e R s m args below meth c H locs 0 0 QQ (F0 m 0 ls []) := by
  have hinX7 : ∀ w ∈ wsX70, w ∈ wsX7_doHart := by decide +kernel
  have B343 : ∀ (k12 : Int32 → Int32 → St → Prop) (hk12 : ∀ (x1 : Int32) (x2 : Int32) (S : St) (H : Heap) (locs : List Loc) (ls : Array Slot), k12 x1 x2 S → va_P g vwCl (wM ct ad S) H → va_D A (wM ct ad S) → va_S A s.heap H locs → lv_has ls 10 [(0, .ref (ad 0)), (1, .int x1), (2, .int x2)] → W p l e R s m args below meth c H locs 0 0 QQ (F0 m 12 ls [])) (x1 : Int32) (x2 : Int32) (S : St) (H : Heap) (locs : List Loc) (ls : Array Slot), bX7_doHart_343 k12 Q x1 x2 S → va_P g vwCl (wM ct ad S) H → va_D A (wM ct ad S) → va_S A s.heap H locs → lv_has ls 10 [(0, .ref (ad 0)), (1, .int x1), (2, .int x2)] → W p l e R s m args below meth c H locs 0 0 QQ (F0 m 343 ls []) := by
    intro k12 hk12 x1 x2 S H locs ls h hP hD hS hl
    refine lv_goto (tgt := 12) C.1 C.2.1 dX7_doHart_343 (by decide) ?_
    exact hk12 x1 x2 S H locs ls h hP hD hS (lv_sub hl [0, 1, 2] rfl)
  have B306 : ∀ (k12 : Int32 → Int32 → St → Prop) (hk12 : ∀ (x1 : Int32) (x2 : Int32) (S : St) (H : Heap) (locs : List Loc) (ls : Array Slot), k12 x1 x2 S → va_P g vwCl (wM ct ad S) H → va_D A (wM ct ad S) → va_S A s.heap H locs → lv_has ls 10 [(0, .ref (ad 0)), (1, .int x1), (2, .int x2)] → W p l e R s m args below meth c H locs 0 0 QQ (F0 m 12 ls [])) (x1 : Int32) (x2 : Int32) (x5 : Int32) (x6 : Int32) (x7 : Int32) (t0 : Int32) (S : St) (H : Heap) (locs : List Loc) (ls : Array Slot), bX7_doHart_306 k12 Q x1 x2 x5 x6 x7 t0 S → va_P g vwCl (wM ct ad S) H → va_D A (wM ct ad S) → va_S A s.heap H locs → lv_has ls 10 [(0, .ref (ad 0)), (1, .int x1), (2, .int x2), (5, .int x5), (6, .int x6), (7, .int x7)] → W p l e R s m args below meth c H locs 0 0 QQ (F0 m 306 ls [.int t0]) := by
    intro k12 hk12 x1 x2 x5 x6 x7 t0 S H locs ls h hP hD hS hl
    refine lv_istore (lv' := [(8, .int t0), (0, .ref (ad 0)), (1, .int x1), (2, .int x2), (5, .int x5), (6, .int x6), (7, .int x7)]) C.1 C.2.1 dX7_doHart_306 hl (by decide) rfl (fun ls hl => ?_)
    refine lv_aload_n C.1 C.2.1 dX7_doHart_308 rfl (lv_at hl 1 rfl) ?_
    refine mg_carry C hinX7 hK hP (by decide +kernel) dX7_doHart_309 ?_
    refine lv_iload C.1 C.2.1 dX7_doHart_312 (lv_at hl 5 rfl) ?_
    obtain ⟨g1, h⟩ := h
    refine ma_carry C hK hP g1  rfl dX7_doHart_314 ?_
    refine lv_aload_n C.1 C.2.1 dX7_doHart_315 rfl (lv_at hl 1 rfl) ?_
    refine mg_carry C hinX7 hK hP (by decide +kernel) dX7_doHart_316 ?_
    refine lv_iload C.1 C.2.1 dX7_doHart_319 (lv_at hl 6 rfl) ?_
    obtain ⟨g2, h⟩ := h
    refine ma_carry C hK hP g2  rfl dX7_doHart_321 ?_
    refine lv_ior C.1 C.2.1 dX7_doHart_322 ?_
    refine lv_topi (fun y3 ey3 => ?_)
    have h := h y3 ey3
    refine lv_istore (lv' := [(9, .int y3), (8, .int t0), (0, .ref (ad 0)), (1, .int x1), (2, .int x2), (5, .int x5), (6, .int x6), (7, .int x7)]) C.1 C.2.1 dX7_doHart_323 hl (by decide) rfl (fun ls hl => ?_)
    refine lv_aload_n C.1 C.2.1 dX7_doHart_325 rfl (lv_at hl 2 rfl) ?_
    refine mg_values C hinX7 hK hP (by decide +kernel) dX7_doHart_326 ?_
    refine lv_iload C.1 C.2.1 dX7_doHart_329 (lv_at hl 5 rfl) ?_
    refine lv_iload C.1 C.2.1 dX7_doHart_331 (lv_at hl 1 rfl) ?_
    obtain ⟨g5, h⟩ := h
    obtain ⟨S4, eS4⟩ : ∃ z : St, z = wr S 11 (Int32.toNatClampNeg x5) t0 := ⟨_, rfl⟩
    have h := h S4 eS4
    refine ms_values C hK hP hD hS  g5 rfl dX7_doHart_333 (fun H locs hP hD hS => ?_)
    rw [← eS4] at hP hD
    refine lv_aload_n C.1 C.2.1 dX7_doHart_334 rfl (lv_at hl 2 rfl) ?_
    refine mg_carry C hinX7 hK hP (by decide +kernel) dX7_doHart_335 ?_
    refine lv_iload C.1 C.2.1 dX7_doHart_338 (lv_at hl 5 rfl) ?_
    refine lv_iload C.1 C.2.1 dX7_doHart_340 (lv_at hl 0 rfl) ?_
    obtain ⟨g7, h⟩ := h
    obtain ⟨S6, eS6⟩ : ∃ z : St, z = wr S4 12 (Int32.toNatClampNeg x5) y3 := ⟨_, rfl⟩
    have h := h S6 eS6
    refine ms_carry C hK hP hD hS  g7 rfl dX7_doHart_342 (fun H locs hP hD hS => ?_)
    rw [← eS6] at hP hD
    exact B343 k12 hk12 x1 x2 S6 H locs ls h hP hD hS (lv_sub hl [2, 3, 4] rfl)
  have B232 : ∀ (k12 : Int32 → Int32 → St → Prop) (hk12 : ∀ (x1 : Int32) (x2 : Int32) (S : St) (H : Heap) (locs : List Loc) (ls : Array Slot), k12 x1 x2 S → va_P g vwCl (wM ct ad S) H → va_D A (wM ct ad S) → va_S A s.heap H locs → lv_has ls 10 [(0, .ref (ad 0)), (1, .int x1), (2, .int x2)] → W p l e R s m args below meth c H locs 0 0 QQ (F0 m 12 ls [])) (x1 : Int32) (t0 : Int32) (S : St) (H : Heap) (locs : List Loc) (ls : Array Slot), bX7_doHart_232 k12 Q x1 t0 S → va_P g vwCl (wM ct ad S) H → va_D A (wM ct ad S) → va_S A s.heap H locs → lv_has ls 10 [(0, .ref (ad 0)), (1, .int x1)] → W p l e R s m args below meth c H locs 0 0 QQ (F0 m 232 ls [.int t0]) := by
    intro k12 hk12 x1 t0 S H locs ls h hP hD hS hl
    refine lv_istore_n (lv' := [(2, .int t0), (0, .ref (ad 0)), (1, .int x1)]) C.1 C.2.1 dX7_doHart_232 rfl hl (by decide) rfl (fun ls hl => ?_)
    refine lv_goto (tgt := 343) C.1 C.2.1 dX7_doHart_233 (by decide) ?_
    exact B343 k12 hk12 x1 t0 S H locs ls h hP hD hS (lv_sub hl [1, 2, 0] rfl)
  have B12 : ∀ (k12 : Int32 → Int32 → St → Prop) (hk12 : ∀ (x1 : Int32) (x2 : Int32) (S : St) (H : Heap) (locs : List Loc) (ls : Array Slot), k12 x1 x2 S → va_P g vwCl (wM ct ad S) H → va_D A (wM ct ad S) → va_S A s.heap H locs → lv_has ls 10 [(0, .ref (ad 0)), (1, .int x1), (2, .int x2)] → W p l e R s m args below meth c H locs 0 0 QQ (F0 m 12 ls [])) (x1 : Int32) (x2 : Int32) (S : St) (H : Heap) (locs : List Loc) (ls : Array Slot), bX7_doHart_12 k12 Q x1 x2 S → va_P g vwCl (wM ct ad S) H → va_D A (wM ct ad S) → va_S A s.heap H locs → lv_has ls 10 [(0, .ref (ad 0)), (1, .int x1), (2, .int x2)] → W p l e R s m args below meth c H locs 0 0 QQ (F0 m 12 ls []) := by
    intro k12 hk12 x1 x2 S H locs ls h hP hD hS hl
    refine lv_iload_n C.1 C.2.1 dX7_doHart_12 rfl (lv_at hl 2 rfl) ?_
    refine lv_aload_n C.1 C.2.1 dX7_doHart_13 rfl (lv_at hl 0 rfl) ?_
    refine mg_lengths C hinX7 hK hP (by decide +kernel) dX7_doHart_14 ?_
    refine lv_iload_n C.1 C.2.1 dX7_doHart_17 rfl (lv_at hl 1 rfl) ?_
    obtain ⟨g8, h⟩ := h
    refine ma_lengths C hK hP g8  rfl dX7_doHart_18 ?_
    refine lv_icmp_ge (tgt := 346) C.1 C.2.1 dX7_doHart_19 (by decide) (fun c50 => ?_) (fun c50 => ?_)
    · have h := h.1 c50
      exact hret _ _ _ _ _ dX7_doHart_346 h hP hD hS
    · have h := h.2 c50
      refine lv_bipush (v := 36) C.1 C.2.1 dX7_doHart_22 (by decide) ?_
      refine lv_iload_n C.1 C.2.1 dX7_doHart_24 rfl (lv_at hl 1 rfl) ?_
      refine lv_imul C.1 C.2.1 dX7_doHart_25 ?_
      refine lv_bipush (v := 6) C.1 C.2.1 dX7_doHart_26 (by decide) ?_
      refine lv_iload_n C.1 C.2.1 dX7_doHart_28 rfl (lv_at hl 2 rfl) ?_
      refine lv_imul C.1 C.2.1 dX7_doHart_29 ?_
      refine lv_iadd C.1 C.2.1 dX7_doHart_30 ?_
      refine lv_topi (fun y9 ey9 => ?_)
      have h := h y9 ey9
      refine lv_istore_n (lv' := [(3, .int y9), (0, .ref (ad 0)), (1, .int x1), (2, .int x2)]) C.1 C.2.1 dX7_doHart_31 rfl hl (by decide) rfl (fun ls hl => ?_)
      refine lv_aload_n C.1 C.2.1 dX7_doHart_32 rfl (lv_at hl 1 rfl) ?_
      refine mg_programs C hinX7 hK hP (by decide +kernel) dX7_doHart_33 ?_
      refine lv_iload_n C.1 C.2.1 dX7_doHart_36 rfl (lv_at hl 0 rfl) ?_
      obtain ⟨g10, h⟩ := h
      refine ma_programs C hK hP g10  rfl dX7_doHart_37 ?_
      refine lv_topi (fun y11 ey11 => ?_)
      have h := h y11 ey11
      refine lv_istore (lv' := [(4, .int y11), (3, .int y9), (0, .ref (ad 0)), (1, .int x1), (2, .int x2)]) C.1 C.2.1 dX7_doHart_38 hl (by decide) rfl (fun ls hl => ?_)
      refine lv_iconst (v := 4) C.1 C.2.1 dX7_doHart_40 (by decide) ?_
      refine lv_iload_n C.1 C.2.1 dX7_doHart_41 rfl (lv_at hl 3 rfl) ?_
      refine lv_imul C.1 C.2.1 dX7_doHart_42 ?_
      refine lv_aload_n C.1 C.2.1 dX7_doHart_43 rfl (lv_at hl 2 rfl) ?_
      refine mg_programs C hinX7 hK hP (by decide +kernel) dX7_doHart_44 ?_
      refine lv_iload_n C.1 C.2.1 dX7_doHart_47 rfl (lv_at hl 1 rfl) ?_
      refine lv_iconst (v := 1) C.1 C.2.1 dX7_doHart_48 (by decide) ?_
      refine lv_iadd C.1 C.2.1 dX7_doHart_49 ?_
      obtain ⟨g12, h⟩ := h
      refine ma_programs C hK hP g12  rfl dX7_doHart_50 ?_
      refine lv_iadd C.1 C.2.1 dX7_doHart_51 ?_
      refine lv_topi (fun y13 ey13 => ?_)
      have h := h y13 ey13
      refine lv_istore (lv' := [(5, .int y13), (4, .int y11), (3, .int y9), (0, .ref (ad 0)), (1, .int x1), (2, .int x2)]) C.1 C.2.1 dX7_doHart_52 hl (by decide) rfl (fun ls hl => ?_)
      obtain ⟨y14, ey14⟩ : ∃ z : Int32, z = x2 + (1 : Int32) := ⟨_, rfl⟩
      have h := h y14 ey14
      refine lv_iinc (v := y14) (lv' := [(2, .int y14), (5, .int y13), (4, .int y11), (3, .int y9), (0, .ref (ad 0)), (1, .int x1)]) C.1 C.2.1 dX7_doHart_54 hl (k := 5) rfl (by rw [ey14]; rfl) (by decide) rfl (fun ls hl => ?_)
      refine lv_iload C.1 C.2.1 dX7_doHart_57 (lv_at hl 2 rfl) ?_
      refine lv_bipush (v := 6) C.1 C.2.1 dX7_doHart_59 (by decide) ?_
      refine lv_icmp_ge (tgt := 75) C.1 C.2.1 dX7_doHart_61 (by decide) (fun c49 => ?_) (fun c49 => ?_)
      · have h := h.1 c49
        refine lv_iload C.1 C.2.1 dX7_doHart_75 (lv_at hl 2 rfl) ?_
        refine lv_bipush (v := 6) C.1 C.2.1 dX7_doHart_77 (by decide) ?_
        refine lv_icmp_ne (tgt := 152) C.1 C.2.1 dX7_doHart_79 (by decide) (fun c47 => ?_) (fun c47 => ?_)
        · have h := h.1 c47
          refine lv_iload C.1 C.2.1 dX7_doHart_152 (lv_at hl 2 rfl) ?_
          refine lv_bipush (v := 7) C.1 C.2.1 dX7_doHart_154 (by decide) ?_
          refine lv_icmp_ne (tgt := 185) C.1 C.2.1 dX7_doHart_156 (by decide) (fun c35 => ?_) (fun c35 => ?_)
          · have h := h.1 c35
            refine lv_iload C.1 C.2.1 dX7_doHart_185 (lv_at hl 2 rfl) ?_
            refine lv_bipush (v := 10) C.1 C.2.1 dX7_doHart_187 (by decide) ?_
            refine lv_icmp_ne (tgt := 236) C.1 C.2.1 dX7_doHart_189 (by decide) (fun c29 => ?_) (fun c29 => ?_)
            · have h := h.1 c29
              refine lv_iconst (v := 4) C.1 C.2.1 dX7_doHart_236 (by decide) ?_
              refine lv_iload_n C.1 C.2.1 dX7_doHart_237 rfl (lv_at hl 5 rfl) ?_
              refine lv_imul C.1 C.2.1 dX7_doHart_238 ?_
              refine lv_aload_n C.1 C.2.1 dX7_doHart_239 rfl (lv_at hl 4 rfl) ?_
              refine mg_programs C hinX7 hK hP (by decide +kernel) dX7_doHart_240 ?_
              refine lv_iload_n C.1 C.2.1 dX7_doHart_243 rfl (lv_at hl 3 rfl) ?_
              refine lv_iconst (v := 2) C.1 C.2.1 dX7_doHart_244 (by decide) ?_
              refine lv_iadd C.1 C.2.1 dX7_doHart_245 ?_
              obtain ⟨g15, h⟩ := h
              refine ma_programs C hK hP g15  rfl dX7_doHart_246 ?_
              refine lv_iadd C.1 C.2.1 dX7_doHart_247 ?_
              refine lv_topi (fun y16 ey16 => ?_)
              have h := h y16 ey16
              refine lv_istore (lv' := [(6, .int y16), (2, .int y14), (5, .int y13), (4, .int y11), (3, .int y9), (0, .ref (ad 0)), (1, .int x1)]) C.1 C.2.1 dX7_doHart_248 hl (by decide) rfl (fun ls hl => ?_)
              refine lv_iconst (v := 4) C.1 C.2.1 dX7_doHart_250 (by decide) ?_
              refine lv_iload_n C.1 C.2.1 dX7_doHart_251 rfl (lv_at hl 6 rfl) ?_
              refine lv_imul C.1 C.2.1 dX7_doHart_252 ?_
              refine lv_aload_n C.1 C.2.1 dX7_doHart_253 rfl (lv_at hl 5 rfl) ?_
              refine mg_programs C hinX7 hK hP (by decide +kernel) dX7_doHart_254 ?_
              refine lv_iload_n C.1 C.2.1 dX7_doHart_257 rfl (lv_at hl 4 rfl) ?_
              refine lv_iconst (v := 3) C.1 C.2.1 dX7_doHart_258 (by decide) ?_
              refine lv_iadd C.1 C.2.1 dX7_doHart_259 ?_
              obtain ⟨g17, h⟩ := h
              refine ma_programs C hK hP g17  rfl dX7_doHart_260 ?_
              refine lv_iadd C.1 C.2.1 dX7_doHart_261 ?_
              refine lv_topi (fun y18 ey18 => ?_)
              have h := h y18 ey18
              refine lv_istore (lv' := [(7, .int y18), (6, .int y16), (2, .int y14), (5, .int y13), (4, .int y11), (3, .int y9), (0, .ref (ad 0)), (1, .int x1)]) C.1 C.2.1 dX7_doHart_262 hl (by decide) rfl (fun ls hl => ?_)
              refine lv_iload C.1 C.2.1 dX7_doHart_264 (lv_at hl 4 rfl) ?_
              refine lv_bipush (v := 8) C.1 C.2.1 dX7_doHart_266 (by decide) ?_
              refine lv_icmp_ne (tgt := 291) C.1 C.2.1 dX7_doHart_268 (by decide) (fun c23 => ?_) (fun c23 => ?_)
              · have h := h.1 c23
                refine lv_aload_n C.1 C.2.1 dX7_doHart_291 rfl (lv_at hl 6 rfl) ?_
                refine mg_values C hinX7 hK hP (by decide +kernel) dX7_doHart_292 ?_
                refine lv_iload C.1 C.2.1 dX7_doHart_295 (lv_at hl 1 rfl) ?_
                obtain ⟨g19, h⟩ := h
                refine ma_values C hK hP g19  rfl dX7_doHart_297 ?_
                refine lv_aload_n C.1 C.2.1 dX7_doHart_298 rfl (lv_at hl 6 rfl) ?_
                refine mg_values C hinX7 hK hP (by decide +kernel) dX7_doHart_299 ?_
                refine lv_iload C.1 C.2.1 dX7_doHart_302 (lv_at hl 0 rfl) ?_
                obtain ⟨g20, h⟩ := h
                refine ma_values C hK hP g20  rfl dX7_doHart_304 ?_
                refine lv_ixor C.1 C.2.1 dX7_doHart_305 ?_
                exact B306 k12 hk12 x1 y14 y13 y16 y18 ((S.1 11 (Int32.toNatClampNeg y16)) ^^^ (S.1 11 (Int32.toNatClampNeg y18))) S H locs ls h hP hD hS (lv_sub hl [6, 7, 2, 3, 1, 0] rfl)
              · have h := h.2 c23
                refine lv_aload_n C.1 C.2.1 dX7_doHart_271 rfl (lv_at hl 6 rfl) ?_
                refine mg_values C hinX7 hK hP (by decide +kernel) dX7_doHart_272 ?_
                refine lv_iload C.1 C.2.1 dX7_doHart_275 (lv_at hl 1 rfl) ?_
                obtain ⟨g21, h⟩ := h
                refine ma_values C hK hP g21  rfl dX7_doHart_277 ?_
                refine lv_aload_n C.1 C.2.1 dX7_doHart_278 rfl (lv_at hl 6 rfl) ?_
                refine mg_values C hinX7 hK hP (by decide +kernel) dX7_doHart_279 ?_
                refine lv_iload C.1 C.2.1 dX7_doHart_282 (lv_at hl 0 rfl) ?_
                obtain ⟨g22, h⟩ := h
                refine ma_values C hK hP g22  rfl dX7_doHart_284 ?_
                refine lv_iadd C.1 C.2.1 dX7_doHart_285 ?_
                refine lv_iconst (v := 3) C.1 C.2.1 dX7_doHart_286 (by decide) ?_
                refine lv_iand C.1 C.2.1 dX7_doHart_287 ?_
                refine lv_goto (tgt := 306) C.1 C.2.1 dX7_doHart_288 (by decide) ?_
                exact B306 k12 hk12 x1 y14 y13 y16 y18 (((S.1 11 (Int32.toNatClampNeg y16)) + (S.1 11 (Int32.toNatClampNeg y18))) &&& (3 : Int32)) S H locs ls h hP hD hS (lv_sub hl [6, 7, 2, 3, 1, 0] rfl)
            · have h := h.2 c29
              refine lv_aload_n C.1 C.2.1 dX7_doHart_192 rfl (lv_at hl 4 rfl) ?_
              refine lv_dup C.1 C.2.1 dX7_doHart_193 rfl ?_
              refine mg_way C hinX7 hK hP (by decide +kernel) dX7_doHart_194 ?_
              refine lv_aload_n C.1 C.2.1 dX7_doHart_197 rfl (lv_at hl 4 rfl) ?_
              refine mg_carry C hinX7 hK hP (by decide +kernel) dX7_doHart_198 ?_
              refine lv_iload C.1 C.2.1 dX7_doHart_201 (lv_at hl 1 rfl) ?_
              obtain ⟨g24, h⟩ := h
              refine ma_carry C hK hP g24  rfl dX7_doHart_203 ?_
              refine lv_ior C.1 C.2.1 dX7_doHart_204 ?_
              obtain ⟨S25, eS25⟩ : ∃ z : St, z = wr S 33 0 ((S.1 33 0) ||| (S.1 12 (Int32.toNatClampNeg y13))) := ⟨_, rfl⟩
              have h := h S25 eS25
              refine mp_way C hinX7 hK hP hD hS (by decide +kernel) dX7_doHart_205 (fun H locs hP hD hS => ?_)
              rw [← eS25] at hP hD
              refine lv_aload_n C.1 C.2.1 dX7_doHart_208 rfl (lv_at hl 4 rfl) ?_
              refine mg_values C hinX7 hK hP (by decide +kernel) dX7_doHart_209 ?_
              refine lv_iload C.1 C.2.1 dX7_doHart_212 (lv_at hl 1 rfl) ?_
              obtain ⟨g26, h⟩ := h
              refine ma_values C hK hP g26  rfl dX7_doHart_214 ?_
              refine lv_if_ne (tgt := 231) C.1 C.2.1 dX7_doHart_215 (by decide) (fun c28 => ?_) (fun c28 => ?_)
              · have h := h.1 c28
                refine lv_iload_n C.1 C.2.1 dX7_doHart_231 rfl (lv_at hl 0 rfl) ?_
                exact B232 k12 hk12 x1 y14 S25 H locs ls h hP hD hS (lv_sub hl [4, 5] rfl)
              · have h := h.2 c28
                refine lv_iload_n C.1 C.2.1 dX7_doHart_218 rfl (lv_at hl 0 rfl) ?_
                refine lv_aload_n C.1 C.2.1 dX7_doHart_219 rfl (lv_at hl 4 rfl) ?_
                refine mg_programs C hinX7 hK hP (by decide +kernel) dX7_doHart_220 ?_
                refine lv_iload_n C.1 C.2.1 dX7_doHart_223 rfl (lv_at hl 3 rfl) ?_
                refine lv_iconst (v := 2) C.1 C.2.1 dX7_doHart_224 (by decide) ?_
                refine lv_iadd C.1 C.2.1 dX7_doHart_225 ?_
                obtain ⟨g27, h⟩ := h
                refine ma_programs C hK hP g27  rfl dX7_doHart_226 ?_
                refine lv_iadd C.1 C.2.1 dX7_doHart_227 ?_
                refine lv_goto (tgt := 232) C.1 C.2.1 dX7_doHart_228 (by decide) ?_
                exact B232 k12 hk12 x1 (y14 + (S25.1 1 (Int32.toNatClampNeg (y9 + (2 : Int32))))) S25 H locs ls h hP hD hS (lv_sub hl [4, 5] rfl)
          · have h := h.2 c35
            refine lv_aload_n C.1 C.2.1 dX7_doHart_159 rfl (lv_at hl 4 rfl) ?_
            refine mg_values C hinX7 hK hP (by decide +kernel) dX7_doHart_160 ?_
            refine lv_iload C.1 C.2.1 dX7_doHart_163 (lv_at hl 1 rfl) ?_
            refine lv_aload_n C.1 C.2.1 dX7_doHart_165 rfl (lv_at hl 4 rfl) ?_
            refine mg_programs C hinX7 hK hP (by decide +kernel) dX7_doHart_166 ?_
            refine lv_iload_n C.1 C.2.1 dX7_doHart_169 rfl (lv_at hl 3 rfl) ?_
            refine lv_iconst (v := 2) C.1 C.2.1 dX7_doHart_170 (by decide) ?_
            refine lv_iadd C.1 C.2.1 dX7_doHart_171 ?_
            obtain ⟨g30, h⟩ := h
            refine ma_programs C hK hP g30  rfl dX7_doHart_172 ?_
            obtain ⟨g32, h⟩ := h
            obtain ⟨S31, eS31⟩ : ∃ z : St, z = wr S 11 (Int32.toNatClampNeg y13) (S.1 1 (Int32.toNatClampNeg (y9 + (2 : Int32)))) := ⟨_, rfl⟩
            have h := h S31 eS31
            refine ms_values C hK hP hD hS  g32 rfl dX7_doHart_173 (fun H locs hP hD hS => ?_)
            rw [← eS31] at hP hD
            refine lv_aload_n C.1 C.2.1 dX7_doHart_174 rfl (lv_at hl 4 rfl) ?_
            refine mg_carry C hinX7 hK hP (by decide +kernel) dX7_doHart_175 ?_
            refine lv_iload C.1 C.2.1 dX7_doHart_178 (lv_at hl 1 rfl) ?_
            refine lv_iconst (v := 0) C.1 C.2.1 dX7_doHart_180 (by decide) ?_
            obtain ⟨g34, h⟩ := h
            obtain ⟨S33, eS33⟩ : ∃ z : St, z = wr S31 12 (Int32.toNatClampNeg y13) (0 : Int32) := ⟨_, rfl⟩
            have h := h S33 eS33
            refine ms_carry C hK hP hD hS  g34 rfl dX7_doHart_181 (fun H locs hP hD hS => ?_)
            rw [← eS33] at hP hD
            refine lv_goto (tgt := 343) C.1 C.2.1 dX7_doHart_182 (by decide) ?_
            exact B343 k12 hk12 x1 y14 S33 H locs ls h hP hD hS (lv_sub hl [4, 5, 0] rfl)
        · have h := h.2 c47
          refine lv_aload_n C.1 C.2.1 dX7_doHart_82 rfl (lv_at hl 4 rfl) ?_
          refine mg_fenceHart C hinX7 hK hP (by decide +kernel) dX7_doHart_83 ?_
          refine lv_aload_n C.1 C.2.1 dX7_doHart_86 rfl (lv_at hl 4 rfl) ?_
          refine mg_fences C hinX7 hK hP (by decide +kernel) dX7_doHart_87 ?_
          refine lv_iload_n C.1 C.2.1 dX7_doHart_90 rfl (lv_at hl 5 rfl) ?_
          obtain ⟨g37, h⟩ := h
          obtain ⟨S36, eS36⟩ : ∃ z : St, z = wr S 25 (Int32.toNatClampNeg (S.1 24 0)) x1 := ⟨_, rfl⟩
          have h := h S36 eS36
          refine ms_fenceHart C hK hP hD hS  g37 rfl dX7_doHart_91 (fun H locs hP hD hS => ?_)
          rw [← eS36] at hP hD
          refine lv_aload_n C.1 C.2.1 dX7_doHart_92 rfl (lv_at hl 4 rfl) ?_
          refine mg_fenceAt C hinX7 hK hP (by decide +kernel) dX7_doHart_93 ?_
          refine lv_aload_n C.1 C.2.1 dX7_doHart_96 rfl (lv_at hl 4 rfl) ?_
          refine mg_fences C hinX7 hK hP (by decide +kernel) dX7_doHart_97 ?_
          refine lv_aload_n C.1 C.2.1 dX7_doHart_100 rfl (lv_at hl 4 rfl) ?_
          refine mg_accesses C hinX7 hK hP (by decide +kernel) dX7_doHart_101 ?_
          obtain ⟨g39, h⟩ := h
          obtain ⟨S38, eS38⟩ : ∃ z : St, z = wr S36 26 (Int32.toNatClampNeg (S36.1 24 0)) (S36.1 13 0) := ⟨_, rfl⟩
          have h := h S38 eS38
          refine ms_fenceAt C hK hP hD hS  g39 rfl dX7_doHart_104 (fun H locs hP hD hS => ?_)
          rw [← eS38] at hP hD
          refine lv_aload_n C.1 C.2.1 dX7_doHart_105 rfl (lv_at hl 4 rfl) ?_
          refine mg_fenceFirst C hinX7 hK hP (by decide +kernel) dX7_doHart_106 ?_
          refine lv_aload_n C.1 C.2.1 dX7_doHart_109 rfl (lv_at hl 4 rfl) ?_
          refine mg_fences C hinX7 hK hP (by decide +kernel) dX7_doHart_110 ?_
          refine lv_aload_n C.1 C.2.1 dX7_doHart_113 rfl (lv_at hl 4 rfl) ?_
          refine mg_programs C hinX7 hK hP (by decide +kernel) dX7_doHart_114 ?_
          refine lv_iload_n C.1 C.2.1 dX7_doHart_117 rfl (lv_at hl 3 rfl) ?_
          refine lv_iconst (v := 1) C.1 C.2.1 dX7_doHart_118 (by decide) ?_
          refine lv_iadd C.1 C.2.1 dX7_doHart_119 ?_
          obtain ⟨g40, h⟩ := h
          refine ma_programs C hK hP g40  rfl dX7_doHart_120 ?_
          obtain ⟨g42, h⟩ := h
          obtain ⟨S41, eS41⟩ : ∃ z : St, z = wr S38 27 (Int32.toNatClampNeg (S38.1 24 0)) (S38.1 1 (Int32.toNatClampNeg (y9 + (1 : Int32)))) := ⟨_, rfl⟩
          have h := h S41 eS41
          refine ms_fenceFirst C hK hP hD hS  g42 rfl dX7_doHart_121 (fun H locs hP hD hS => ?_)
          rw [← eS41] at hP hD
          refine lv_aload_n C.1 C.2.1 dX7_doHart_122 rfl (lv_at hl 4 rfl) ?_
          refine mg_fenceSecond C hinX7 hK hP (by decide +kernel) dX7_doHart_123 ?_
          refine lv_aload_n C.1 C.2.1 dX7_doHart_126 rfl (lv_at hl 4 rfl) ?_
          refine mg_fences C hinX7 hK hP (by decide +kernel) dX7_doHart_127 ?_
          refine lv_aload_n C.1 C.2.1 dX7_doHart_130 rfl (lv_at hl 4 rfl) ?_
          refine mg_programs C hinX7 hK hP (by decide +kernel) dX7_doHart_131 ?_
          refine lv_iload_n C.1 C.2.1 dX7_doHart_134 rfl (lv_at hl 3 rfl) ?_
          refine lv_iconst (v := 2) C.1 C.2.1 dX7_doHart_135 (by decide) ?_
          refine lv_iadd C.1 C.2.1 dX7_doHart_136 ?_
          obtain ⟨g43, h⟩ := h
          refine ma_programs C hK hP g43  rfl dX7_doHart_137 ?_
          obtain ⟨g45, h⟩ := h
          obtain ⟨S44, eS44⟩ : ∃ z : St, z = wr S41 28 (Int32.toNatClampNeg (S41.1 24 0)) (S41.1 1 (Int32.toNatClampNeg (y9 + (2 : Int32)))) := ⟨_, rfl⟩
          have h := h S44 eS44
          refine ms_fenceSecond C hK hP hD hS  g45 rfl dX7_doHart_138 (fun H locs hP hD hS => ?_)
          rw [← eS44] at hP hD
          refine lv_aload_n C.1 C.2.1 dX7_doHart_139 rfl (lv_at hl 4 rfl) ?_
          refine lv_dup C.1 C.2.1 dX7_doHart_140 rfl ?_
          refine mg_fences C hinX7 hK hP (by decide +kernel) dX7_doHart_141 ?_
          refine lv_iconst (v := 1) C.1 C.2.1 dX7_doHart_144 (by decide) ?_
          refine lv_iadd C.1 C.2.1 dX7_doHart_145 ?_
          obtain ⟨S46, eS46⟩ : ∃ z : St, z = wr S44 24 0 ((S44.1 24 0) + (1 : Int32)) := ⟨_, rfl⟩
          have h := h S46 eS46
          refine mp_fences C hinX7 hK hP hD hS (by decide +kernel) dX7_doHart_146 (fun H locs hP hD hS => ?_)
          rw [← eS46] at hP hD
          refine lv_goto (tgt := 343) C.1 C.2.1 dX7_doHart_149 (by decide) ?_
          exact B343 k12 hk12 x1 y14 S46 H locs ls h hP hD hS (lv_sub hl [4, 5, 0] rfl)
      · have h := h.2 c49
        refine lv_aload_n C.1 C.2.1 dX7_doHart_64 rfl (lv_at hl 4 rfl) ?_
        refine lv_iload_n C.1 C.2.1 dX7_doHart_65 rfl (lv_at hl 5 rfl) ?_
        refine lv_iload_n C.1 C.2.1 dX7_doHart_66 rfl (lv_at hl 3 rfl) ?_
        refine lv_iload C.1 C.2.1 dX7_doHart_67 (lv_at hl 2 rfl) ?_
        refine g_callVv (w := wM ct ad) C hK hN hA hP hD hS (mX7_access l g ct ad H.size S x1 y9 y11  _ h) (cwV 3 C.2.2.2.2 gX7_doHart_X7_access rfl rfl rfl (by decide +kernel) ⟨Nat.le_trans (by decide) hRf, Nat.le_trans (by decide) hRl⟩) (va_recv hK hP (ci := 7) (q0 := 0) rfl rfl) rfl hl.1 rfl (Nat.le_of_ble_eq_true rfl) dX7_doHart_69 ⟨Nat.zero_le _, Nat.zero_le _⟩ (fun S48 H locs h hP hD hS => ?_)
        refine lv_goto (tgt := 343) C.1 C.2.1 dX7_doHart_72 (by decide) ?_
        exact B343 k12 hk12 x1 y14 S48 H locs ls h hP hD hS (lv_sub hl [4, 5, 0] rfl)
  have L12 : ∀ (N : Nat) (x1 : Int32) (x2 : Int32) (S : St) (H : Heap) (locs : List Loc) (ls : Array Slot), itr (F := Int32 → Int32 → St → Prop) (fun _ _ _ => False) (fun k12 x1 x2 S => bX7_doHart_12 k12 Q x1 x2 S) N x1 x2 S → va_P g vwCl (wM ct ad S) H → va_D A (wM ct ad S) → va_S A s.heap H locs → lv_has ls 10 [(0, .ref (ad 0)), (1, .int x1), (2, .int x2)] → W p l e R s m args below meth c H locs 0 0 QQ (F0 m 12 ls []) := by
    intro N
    induction N with
    | zero => intro x1 x2 S H locs ls h hP hD hS hl; exact False.elim h
    | succ N ih => intro x1 x2 S H locs ls h hP hD hS hl; exact B12  (itr (F := Int32 → Int32 → St → Prop) (fun _ _ _ => False) (fun k12 x1 x2 S => bX7_doHart_12 k12 Q x1 x2 S) N) ih x1 x2 S H locs ls h  hP hD hS hl
  refine lv_aload_n C.1 C.2.1 dX7_doHart_0 rfl (lv_at hl 0 rfl) ?_
  refine lv_iconst (v := 0) C.1 C.2.1 dX7_doHart_1 (by decide) ?_
  obtain ⟨S51, eS51⟩ : ∃ z : St, z = wr S 33 0 (0 : Int32) := ⟨_, rfl⟩
  have h := h S51 eS51
  refine mp_way C hinX7 hK hP hD hS (by decide +kernel) dX7_doHart_2 (fun H locs hP hD hS => ?_)
  rw [← eS51] at hP hD
  refine lv_aload_n C.1 C.2.1 dX7_doHart_5 rfl (lv_at hl 0 rfl) ?_
  refine lv_iconst (v := -1) C.1 C.2.1 dX7_doHart_6 (by decide) ?_
  obtain ⟨S52, eS52⟩ : ∃ z : St, z = wr S51 34 0 (-1 : Int32) := ⟨_, rfl⟩
  have h := h S52 eS52
  refine mp_reserved C hinX7 hK hP hD hS (by decide +kernel) dX7_doHart_7 (fun H locs hP hD hS => ?_)
  rw [← eS52] at hP hD
  refine lv_iconst (v := 0) C.1 C.2.1 dX7_doHart_10 (by decide) ?_
  refine lv_istore_n (lv' := [(2, .int (0 : Int32)), (0, .ref (ad 0)), (1, .int x1)]) C.1 C.2.1 dX7_doHart_11 rfl hl (by decide) rfl (fun ls hl => ?_)
  obtain ⟨N, h⟩ := h
  exact L12 N x1 (0 : Int32) S52 H locs ls h hP hD hS (lv_sub hl [1, 2, 0] rfl)
theorem mX7_doHart (l : Launch) (g : va_G) (ct : Nat → ClassId) (ad : Nat → Nat) (sz : Nat) (S : St) (x1 : Int32) (Q : St → Prop) (h : pX7_doHart x1 S Q) : Met l yX7_doHart wsX7_doHart ({ frames := 2, cells := 0, slots := 0, locals := 54 }) (gPc g (mT ct) (wM ct ad S) sz [.ref (ad 0), .int x1]) (va_Qv Q (gB g (mT ct) (wM ct ad) (va_A (wM ct ad S) sz)) (va_A (wM ct ad S) sz)) 0 0 (va_A (wM ct ad S) sz) :=
  g_metV (w := wM ct ad) (cc := cX7_doHart) (maxL := 10) (by decide) rfl rfl (Nat.le_of_ble_eq_true rfl) rfl (fun p e s m args below meth c QQ A C hK hN hA hret H locs ls hP hD hS hl => kX7_doHart C hK hN hA (Nat.le_refl _) (Nat.le_refl _) Q hret x1 S h H locs ls hP hD hS hl)

def bX7_doWay_45 (k45 : Int32 → St → Prop) (Q : St → Prop) (x1 : Int32) (S : St) : Prop :=
  (((4 : Int32) ≤ x1 → Q S) ∧ (¬ ((4 : Int32) ≤ x1) → pX7_doHart x1 S (fun (S1 : St) => (∀ y2 : Int32, y2 = x1 + (1 : Int32) → k45 y2 S1))))
def bX7_doWay_17 (k17 : Int32 → St → Prop) (Q : St → Prop) (x1 : Int32) (S : St) : Prop :=
  (((16 : Int32) ≤ x1 → (∃ N : Nat, itr (F := Int32 → St → Prop) (fun _ _ => False) (fun k45 x1 S => bX7_doWay_45 k45 Q x1 S) N (0 : Int32) S)) ∧ (¬ ((16 : Int32) ≤ x1) → (vp_in x1 16 ∧ ∀ S4 : St, S4 = wr S 11 (Int32.toNatClampNeg x1) (0 : Int32) → (vp_in x1 16 ∧ ∀ S6 : St, S6 = wr S4 12 (Int32.toNatClampNeg x1) (0 : Int32) → (∀ y8 : Int32, y8 = x1 + (1 : Int32) → k17 y8 S6)))))
def pX7_doWay (S : St) (Q : St → Prop) : Prop :=
  (∀ S10 : St, S10 = wr S 10 0 (0 : Int32) → (∀ S11 : St, S11 = wr S10 13 0 (0 : Int32) → (∀ S12 : St, S12 = wr S11 24 0 (0 : Int32) → (∃ N : Nat, itr (F := Int32 → St → Prop) (fun _ _ => False) (fun k17 x1 S => bX7_doWay_17 k17 Q x1 S) N (0 : Int32) S12))))
set_option maxHeartbeats 40000000 in
set_option maxRecDepth 100000 in
theorem kX7_doWay {p : Program} {l : Launch} {e : Env} {R : Room} {s : State} {m : MethodId} {args : Array Value} {below : List Frame} {meth : Method} {c : Code} {QQ : State → Prop} {g : va_G} {ct : Nat → ClassId} {ad : Nat → Nat} {A : Nat → Prop} (C : CallFix p m c cX7_doWay 2 s args wsX7_doWay RX7) (hK : va_K g vwCl (mT ct) s) (hN : xN s) (hA : ∀ q, s.heap.size ≤ q → A q) (hRf : 3 ≤ R.frames) (hRl : 83 ≤ R.locals) (Q : St → Prop) (hret : ∀ (pc : Nat) (S : St) (H : Heap) (locs : List Loc) (ls : Array Slot), decode cX7_doWay pc = .ok (.return_, 1) → Q S → va_P g vwCl (wM ct ad S) H → va_D A (wM ct ad S) → va_S A s.heap H locs → W p l e R s m args below meth c H locs 0 0 QQ (F0 m pc ls [])) (S : St) (h : pX7_doWay S Q) (H : Heap) (locs : List Loc) (ls : Array Slot) (hP : va_P g vwCl (wM ct ad S) H) (hD : va_D A (wM ct ad S)) (hS : va_S A s.heap H locs) (hl : lv_has ls 2 [(0, .ref (ad 0))]) : W p l e R s m args below meth c H locs 0 0 QQ (F0 m 0 ls []) := by
  have hinX7 : ∀ w ∈ wsX70, w ∈ wsX7_doWay := by decide +kernel
  have B45 : ∀ (k45 : Int32 → St → Prop) (hk45 : ∀ (x1 : Int32) (S : St) (H : Heap) (locs : List Loc) (ls : Array Slot), k45 x1 S → va_P g vwCl (wM ct ad S) H → va_D A (wM ct ad S) → va_S A s.heap H locs → lv_has ls 2 [(0, .ref (ad 0)), (1, .int x1)] → W p l e R s m args below meth c H locs 0 0 QQ (F0 m 45 ls [])) (x1 : Int32) (S : St) (H : Heap) (locs : List Loc) (ls : Array Slot), bX7_doWay_45 k45 Q x1 S → va_P g vwCl (wM ct ad S) H → va_D A (wM ct ad S) → va_S A s.heap H locs → lv_has ls 2 [(0, .ref (ad 0)), (1, .int x1)] → W p l e R s m args below meth c H locs 0 0 QQ (F0 m 45 ls []) := by
    intro k45 hk45 x1 S H locs ls h hP hD hS hl
    refine lv_iload_n C.1 C.2.1 dX7_doWay_45 rfl (lv_at hl 1 rfl) ?_
    refine lv_iconst (v := 4) C.1 C.2.1 dX7_doWay_46 (by decide) ?_
    refine lv_icmp_ge (tgt := 61) C.1 C.2.1 dX7_doWay_47 (by decide) (fun c3 => ?_) (fun c3 => ?_)
    · have h := h.1 c3
      exact hret _ _ _ _ _ dX7_doWay_61 h hP hD hS
    · have h := h.2 c3
      refine lv_aload_n C.1 C.2.1 dX7_doWay_50 rfl (lv_at hl 0 rfl) ?_
      refine lv_iload_n C.1 C.2.1 dX7_doWay_51 rfl (lv_at hl 1 rfl) ?_
      refine g_callVv (w := wM ct ad) C hK hN hA hP hD hS (mX7_doHart l g ct ad H.size S x1  _ h) (cwV 1 C.2.2.2.2 gX7_doWay_X7_doHart rfl rfl rfl (by decide +kernel) ⟨Nat.le_trans (by decide) hRf, Nat.le_trans (by decide) hRl⟩) (va_recv hK hP (ci := 7) (q0 := 0) rfl rfl) rfl hl.1 rfl (Nat.le_of_ble_eq_true rfl) dX7_doWay_52 ⟨Nat.zero_le _, Nat.zero_le _⟩ (fun S1 H locs h hP hD hS => ?_)
      obtain ⟨y2, ey2⟩ : ∃ z : Int32, z = x1 + (1 : Int32) := ⟨_, rfl⟩
      have h := h y2 ey2
      refine lv_iinc (v := y2) (lv' := [(1, .int y2), (0, .ref (ad 0))]) C.1 C.2.1 dX7_doWay_55 hl (k := 1) rfl (by rw [ey2]; rfl) (by decide) rfl (fun ls hl => ?_)
      refine lv_goto (tgt := 45) C.1 C.2.1 dX7_doWay_58 (by decide) ?_
      exact hk45 y2 S1 H locs ls h hP hD hS (lv_sub hl [1, 0] rfl)
  have L45 : ∀ (N : Nat) (x1 : Int32) (S : St) (H : Heap) (locs : List Loc) (ls : Array Slot), itr (F := Int32 → St → Prop) (fun _ _ => False) (fun k45 x1 S => bX7_doWay_45 k45 Q x1 S) N x1 S → va_P g vwCl (wM ct ad S) H → va_D A (wM ct ad S) → va_S A s.heap H locs → lv_has ls 2 [(0, .ref (ad 0)), (1, .int x1)] → W p l e R s m args below meth c H locs 0 0 QQ (F0 m 45 ls []) := by
    intro N
    induction N with
    | zero => intro x1 S H locs ls h hP hD hS hl; exact False.elim h
    | succ N ih => intro x1 S H locs ls h hP hD hS hl; exact B45  (itr (F := Int32 → St → Prop) (fun _ _ => False) (fun k45 x1 S => bX7_doWay_45 k45 Q x1 S) N) ih x1 S H locs ls h  hP hD hS hl
  have B17 : ∀ (k17 : Int32 → St → Prop) (hk17 : ∀ (x1 : Int32) (S : St) (H : Heap) (locs : List Loc) (ls : Array Slot), k17 x1 S → va_P g vwCl (wM ct ad S) H → va_D A (wM ct ad S) → va_S A s.heap H locs → lv_has ls 2 [(0, .ref (ad 0)), (1, .int x1)] → W p l e R s m args below meth c H locs 0 0 QQ (F0 m 17 ls [])) (x1 : Int32) (S : St) (H : Heap) (locs : List Loc) (ls : Array Slot), bX7_doWay_17 k17 Q x1 S → va_P g vwCl (wM ct ad S) H → va_D A (wM ct ad S) → va_S A s.heap H locs → lv_has ls 2 [(0, .ref (ad 0)), (1, .int x1)] → W p l e R s m args below meth c H locs 0 0 QQ (F0 m 17 ls []) := by
    intro k17 hk17 x1 S H locs ls h hP hD hS hl
    refine lv_iload_n C.1 C.2.1 dX7_doWay_17 rfl (lv_at hl 1 rfl) ?_
    refine lv_bipush (v := 16) C.1 C.2.1 dX7_doWay_18 (by decide) ?_
    refine lv_icmp_ge (tgt := 43) C.1 C.2.1 dX7_doWay_20 (by decide) (fun c9 => ?_) (fun c9 => ?_)
    · have h := h.1 c9
      refine lv_iconst (v := 0) C.1 C.2.1 dX7_doWay_43 (by decide) ?_
      refine lv_istore_n (lv' := [(1, .int (0 : Int32)), (0, .ref (ad 0))]) C.1 C.2.1 dX7_doWay_44 rfl hl (by decide) rfl (fun ls hl => ?_)
      obtain ⟨N, h⟩ := h
      exact L45 N (0 : Int32) S H locs ls h hP hD hS (lv_sub hl [1, 0] rfl)
    · have h := h.2 c9
      refine lv_aload_n C.1 C.2.1 dX7_doWay_23 rfl (lv_at hl 0 rfl) ?_
      refine mg_values C hinX7 hK hP (by decide +kernel) dX7_doWay_24 ?_
      refine lv_iload_n C.1 C.2.1 dX7_doWay_27 rfl (lv_at hl 1 rfl) ?_
      refine lv_iconst (v := 0) C.1 C.2.1 dX7_doWay_28 (by decide) ?_
      obtain ⟨g5, h⟩ := h
      obtain ⟨S4, eS4⟩ : ∃ z : St, z = wr S 11 (Int32.toNatClampNeg x1) (0 : Int32) := ⟨_, rfl⟩
      have h := h S4 eS4
      refine ms_values C hK hP hD hS  g5 rfl dX7_doWay_29 (fun H locs hP hD hS => ?_)
      rw [← eS4] at hP hD
      refine lv_aload_n C.1 C.2.1 dX7_doWay_30 rfl (lv_at hl 0 rfl) ?_
      refine mg_carry C hinX7 hK hP (by decide +kernel) dX7_doWay_31 ?_
      refine lv_iload_n C.1 C.2.1 dX7_doWay_34 rfl (lv_at hl 1 rfl) ?_
      refine lv_iconst (v := 0) C.1 C.2.1 dX7_doWay_35 (by decide) ?_
      obtain ⟨g7, h⟩ := h
      obtain ⟨S6, eS6⟩ : ∃ z : St, z = wr S4 12 (Int32.toNatClampNeg x1) (0 : Int32) := ⟨_, rfl⟩
      have h := h S6 eS6
      refine ms_carry C hK hP hD hS  g7 rfl dX7_doWay_36 (fun H locs hP hD hS => ?_)
      rw [← eS6] at hP hD
      obtain ⟨y8, ey8⟩ : ∃ z : Int32, z = x1 + (1 : Int32) := ⟨_, rfl⟩
      have h := h y8 ey8
      refine lv_iinc (v := y8) (lv' := [(1, .int y8), (0, .ref (ad 0))]) C.1 C.2.1 dX7_doWay_37 hl (k := 1) rfl (by rw [ey8]; rfl) (by decide) rfl (fun ls hl => ?_)
      refine lv_goto (tgt := 17) C.1 C.2.1 dX7_doWay_40 (by decide) ?_
      exact hk17 y8 S6 H locs ls h hP hD hS (lv_sub hl [1, 0] rfl)
  have L17 : ∀ (N : Nat) (x1 : Int32) (S : St) (H : Heap) (locs : List Loc) (ls : Array Slot), itr (F := Int32 → St → Prop) (fun _ _ => False) (fun k17 x1 S => bX7_doWay_17 k17 Q x1 S) N x1 S → va_P g vwCl (wM ct ad S) H → va_D A (wM ct ad S) → va_S A s.heap H locs → lv_has ls 2 [(0, .ref (ad 0)), (1, .int x1)] → W p l e R s m args below meth c H locs 0 0 QQ (F0 m 17 ls []) := by
    intro N
    induction N with
    | zero => intro x1 S H locs ls h hP hD hS hl; exact False.elim h
    | succ N ih => intro x1 S H locs ls h hP hD hS hl; exact B17  (itr (F := Int32 → St → Prop) (fun _ _ => False) (fun k17 x1 S => bX7_doWay_17 k17 Q x1 S) N) ih x1 S H locs ls h  hP hD hS hl
  refine lv_aload_n C.1 C.2.1 dX7_doWay_0 rfl (lv_at hl 0 rfl) ?_
  refine lv_iconst (v := 0) C.1 C.2.1 dX7_doWay_1 (by decide) ?_
  obtain ⟨S10, eS10⟩ : ∃ z : St, z = wr S 10 0 (0 : Int32) := ⟨_, rfl⟩
  have h := h S10 eS10
  refine mp_told C hinX7 hK hP hD hS (by decide +kernel) dX7_doWay_2 (fun H locs hP hD hS => ?_)
  rw [← eS10] at hP hD
  refine lv_aload_n C.1 C.2.1 dX7_doWay_5 rfl (lv_at hl 0 rfl) ?_
  refine lv_iconst (v := 0) C.1 C.2.1 dX7_doWay_6 (by decide) ?_
  obtain ⟨S11, eS11⟩ : ∃ z : St, z = wr S10 13 0 (0 : Int32) := ⟨_, rfl⟩
  have h := h S11 eS11
  refine mp_accesses C hinX7 hK hP hD hS (by decide +kernel) dX7_doWay_7 (fun H locs hP hD hS => ?_)
  rw [← eS11] at hP hD
  refine lv_aload_n C.1 C.2.1 dX7_doWay_10 rfl (lv_at hl 0 rfl) ?_
  refine lv_iconst (v := 0) C.1 C.2.1 dX7_doWay_11 (by decide) ?_
  obtain ⟨S12, eS12⟩ : ∃ z : St, z = wr S11 24 0 (0 : Int32) := ⟨_, rfl⟩
  have h := h S12 eS12
  refine mp_fences C hinX7 hK hP hD hS (by decide +kernel) dX7_doWay_12 (fun H locs hP hD hS => ?_)
  rw [← eS12] at hP hD
  refine lv_iconst (v := 0) C.1 C.2.1 dX7_doWay_15 (by decide) ?_
  refine lv_istore_n (lv' := [(1, .int (0 : Int32)), (0, .ref (ad 0))]) C.1 C.2.1 dX7_doWay_16 rfl hl (by decide) rfl (fun ls hl => ?_)
  obtain ⟨N, h⟩ := h
  exact L17 N (0 : Int32) S12 H locs ls h hP hD hS (lv_sub hl [1, 0] rfl)
theorem mX7_doWay (l : Launch) (g : va_G) (ct : Nat → ClassId) (ad : Nat → Nat) (sz : Nat) (S : St) (Q : St → Prop) (h : pX7_doWay S Q) : Met l yX7_doWay wsX7_doWay ({ frames := 3, cells := 0, slots := 0, locals := 83 }) (gPc g (mT ct) (wM ct ad S) sz [.ref (ad 0)]) (va_Qv Q (gB g (mT ct) (wM ct ad) (va_A (wM ct ad S) sz)) (va_A (wM ct ad S) sz)) 0 0 (va_A (wM ct ad S) sz) :=
  g_metV (w := wM ct ad) (cc := cX7_doWay) (maxL := 2) (by decide) rfl rfl (Nat.le_of_ble_eq_true rfl) rfl (fun p e s m args below meth c QQ A C hK hN hA hret H locs ls hP hD hS hl => kX7_doWay C hK hN hA (Nat.le_refl _) (Nat.le_refl _) Q hret  S h H locs ls hP hD hS hl)

def pX7_reads (x1 : Int32) (S : St) (Q : Int32 → St → Prop) : Prop :=
  (vp_in x1 6 ∧ pX7_isReading (S.1 15 (Int32.toNatClampNeg x1)) (fun (r2 : Int32) => (zb r2 ∧ Q r2 S)))
set_option maxHeartbeats 40000000 in
set_option maxRecDepth 100000 in
theorem kX7_reads {p : Program} {l : Launch} {e : Env} {R : Room} {s : State} {m : MethodId} {args : Array Value} {below : List Frame} {meth : Method} {c : Code} {QQ : State → Prop} {g : va_G} {ct : Nat → ClassId} {ad : Nat → Nat} {A : Nat → Prop} (C : CallFix p m c cX7_reads 2 s args wsX7_reads RX7) (hK : va_K g vwCl (mT ct) s) (hN : xN s) (hA : ∀ q, s.heap.size ≤ q → A q) (hRf : 1 ≤ R.frames) (hRl : 20 ≤ R.locals) (Q : Int32 → St → Prop) (hret : ∀ (pc : Nat) (r : Int32) (S : St) (H : Heap) (locs : List Loc) (ls : Array Slot), decode cX7_reads pc = .ok (.ireturn, 1) → zb r → Q r S → va_P g vwCl (wM ct ad S) H → va_D A (wM ct ad S) → va_S A s.heap H locs → W p l e R s m args below meth c H locs 0 0 QQ (F0 m pc ls [.int r])) (x1 : Int32) (S : St) (h : pX7_reads x1 S Q) (H : Heap) (locs : List Loc) (ls : Array Slot) (hP : va_P g vwCl (wM ct ad S) H) (hD : va_D A (wM ct ad S)) (hS : va_S A s.heap H locs) (hl : lv_has ls 2 [(0, .ref (ad 0)), (1, .int x1)]) : W p l e R s m args below meth c H locs 0 0 QQ (F0 m 0 ls []) := by
  have hinX7 : ∀ w ∈ wsX70, w ∈ wsX7_reads := by decide +kernel
  refine lv_aload_n C.1 C.2.1 dX7_reads_0 rfl (lv_at hl 0 rfl) ?_
  refine mg_kindOf C hinX7 hK hP (by decide +kernel) dX7_reads_1 ?_
  refine lv_iload_n C.1 C.2.1 dX7_reads_4 rfl (lv_at hl 1 rfl) ?_
  obtain ⟨g1, h⟩ := h
  refine ma_kindOf C hK hP g1  rfl dX7_reads_5 ?_
  refine g_callS (w := wM ct ad) C hK hN hA hP hD hS (mX7_isReading l g (mT ct) S H.size (S.1 15 (Int32.toNatClampNeg x1)) _ h) (va_cwS 1 C.2.2.2.2 gX7_reads_X7_isReading rfl rfl rfl (by decide +kernel) ⟨Nat.le_trans (by decide) hRf, Nat.le_trans (by decide) hRl⟩) rfl hl.1 rfl (Nat.le_of_ble_eq_true rfl) dX7_reads_6 ⟨Nat.zero_le _, Nat.zero_le _⟩ (fun r2 H locs h hP hD hS => ?_)
  exact hret _ _ _ _ _ _ dX7_reads_9 h.1 h.2 hP hD hS
theorem mX7_reads (l : Launch) (g : va_G) (ct : Nat → ClassId) (ad : Nat → Nat) (sz : Nat) (S : St) (x1 : Int32) (Q : Int32 → St → Prop) (h : pX7_reads x1 S Q) : Met l yX7_reads wsX7_reads ({ frames := 1, cells := 0, slots := 0, locals := 20 }) (gPc g (mT ct) (wM ct ad S) sz [.ref (ad 0), .int x1]) (va_Qi Q (gB g (mT ct) (wM ct ad) (va_A (wM ct ad S) sz)) (va_A (wM ct ad S) sz)) 0 0 (va_A (wM ct ad S) sz) :=
  g_metZ (w := wM ct ad) (cc := cX7_reads) (maxL := 2) (by decide) rfl rfl (Nat.le_of_ble_eq_true rfl) rfl (fun p e s m args below meth c QQ A C hK hN hA hret H locs ls hP hD hS hl => kX7_reads C hK hN hA (Nat.le_refl _) (Nat.le_refl _) Q hret x1 S h H locs ls hP hD hS hl)

def pX7_writes (x1 : Int32) (S : St) (Q : Int32 → St → Prop) : Prop :=
  (vp_in x1 6 ∧ pX7_isWriting (S.1 15 (Int32.toNatClampNeg x1)) (fun (r2 : Int32) => (zb r2 ∧ Q r2 S)))
set_option maxHeartbeats 40000000 in
set_option maxRecDepth 100000 in
theorem kX7_writes {p : Program} {l : Launch} {e : Env} {R : Room} {s : State} {m : MethodId} {args : Array Value} {below : List Frame} {meth : Method} {c : Code} {QQ : State → Prop} {g : va_G} {ct : Nat → ClassId} {ad : Nat → Nat} {A : Nat → Prop} (C : CallFix p m c cX7_writes 2 s args wsX7_writes RX7) (hK : va_K g vwCl (mT ct) s) (hN : xN s) (hA : ∀ q, s.heap.size ≤ q → A q) (hRf : 1 ≤ R.frames) (hRl : 20 ≤ R.locals) (Q : Int32 → St → Prop) (hret : ∀ (pc : Nat) (r : Int32) (S : St) (H : Heap) (locs : List Loc) (ls : Array Slot), decode cX7_writes pc = .ok (.ireturn, 1) → zb r → Q r S → va_P g vwCl (wM ct ad S) H → va_D A (wM ct ad S) → va_S A s.heap H locs → W p l e R s m args below meth c H locs 0 0 QQ (F0 m pc ls [.int r])) (x1 : Int32) (S : St) (h : pX7_writes x1 S Q) (H : Heap) (locs : List Loc) (ls : Array Slot) (hP : va_P g vwCl (wM ct ad S) H) (hD : va_D A (wM ct ad S)) (hS : va_S A s.heap H locs) (hl : lv_has ls 2 [(0, .ref (ad 0)), (1, .int x1)]) : W p l e R s m args below meth c H locs 0 0 QQ (F0 m 0 ls []) := by
  have hinX7 : ∀ w ∈ wsX70, w ∈ wsX7_writes := by decide +kernel
  refine lv_aload_n C.1 C.2.1 dX7_writes_0 rfl (lv_at hl 0 rfl) ?_
  refine mg_kindOf C hinX7 hK hP (by decide +kernel) dX7_writes_1 ?_
  refine lv_iload_n C.1 C.2.1 dX7_writes_4 rfl (lv_at hl 1 rfl) ?_
  obtain ⟨g1, h⟩ := h
  refine ma_kindOf C hK hP g1  rfl dX7_writes_5 ?_
  refine g_callS (w := wM ct ad) C hK hN hA hP hD hS (mX7_isWriting l g (mT ct) S H.size (S.1 15 (Int32.toNatClampNeg x1)) _ h) (va_cwS 1 C.2.2.2.2 gX7_writes_X7_isWriting rfl rfl rfl (by decide +kernel) ⟨Nat.le_trans (by decide) hRf, Nat.le_trans (by decide) hRl⟩) rfl hl.1 rfl (Nat.le_of_ble_eq_true rfl) dX7_writes_6 ⟨Nat.zero_le _, Nat.zero_le _⟩ (fun r2 H locs h hP hD hS => ?_)
  exact hret _ _ _ _ _ _ dX7_writes_9 h.1 h.2 hP hD hS
theorem mX7_writes (l : Launch) (g : va_G) (ct : Nat → ClassId) (ad : Nat → Nat) (sz : Nat) (S : St) (x1 : Int32) (Q : Int32 → St → Prop) (h : pX7_writes x1 S Q) : Met l yX7_writes wsX7_writes ({ frames := 1, cells := 0, slots := 0, locals := 20 }) (gPc g (mT ct) (wM ct ad S) sz [.ref (ad 0), .int x1]) (va_Qi Q (gB g (mT ct) (wM ct ad) (va_A (wM ct ad S) sz)) (va_A (wM ct ad S) sz)) 0 0 (va_A (wM ct ad S) sz) :=
  g_metZ (w := wM ct ad) (cc := cX7_writes) (maxL := 2) (by decide) rfl rfl (Nat.le_of_ble_eq_true rfl) rfl (fun p e s m args below meth c QQ A C hK hN hA hret H locs ls hP hD hS hl => kX7_writes C hK hN hA (Nat.le_refl _) (Nat.le_refl _) Q hret x1 S h H locs ls hP hD hS hl)

def bX7_needs_14 (Q : Int32 → Prop) (t0 : Int32) : Prop :=
  (zb t0 ∧ Q t0)
def pX7_needs (x0 : Int32) (x1 : Int32) (Q : Int32 → Prop) : Prop :=
  ((¬ ((x0 >>> (x1 &&& 31)) &&& (1 : Int32)) = (1 : Int32) → bX7_needs_14 Q (0 : Int32)) ∧ (((x0 >>> (x1 &&& 31)) &&& (1 : Int32)) = (1 : Int32) → bX7_needs_14 Q (1 : Int32)))
set_option maxHeartbeats 40000000 in
set_option maxRecDepth 100000 in
theorem kX7_needs {p : Program} {l : Launch} {e : Env} {R : Room} {s : State} {m : MethodId} {args : Array Value} {below : List Frame} {meth : Method} {c : Code} {QQ : State → Prop} {g : va_G} {tys : List (ClassId × FieldType)} {A : Nat → Prop} (C : CallFix p m c cX7_needs 2 s args wsX7_needs RX7) (hK : va_K g vwCl (tys) s) (hN : xN s) (hA : ∀ q, s.heap.size ≤ q → A q) (hRf : 0 ≤ R.frames) (hRl : 0 ≤ R.locals) (Q : Int32 → Prop) (hret : ∀ (pc : Nat) (r : Int32) (S : St) (H : Heap) (locs : List Loc) (ls : Array Slot), decode cX7_needs pc = .ok (.ireturn, 1) → zb r → Q r → va_P g vwCl (w0 S) H → va_D A (w0 S) → va_S A s.heap H locs → W p l e R s m args below meth c H locs 0 0 QQ (F0 m pc ls [.int r])) (x0 : Int32) (x1 : Int32) (S : St) (h : pX7_needs x0 x1 Q) (H : Heap) (locs : List Loc) (ls : Array Slot) (hP : va_P g vwCl (w0 S) H) (hD : va_D A (w0 S)) (hS : va_S A s.heap H locs) (hl : lv_has ls 2 [(0, .int x0), (1, .int x1)]) : W p l e R s m args below meth c H locs 0 0 QQ (F0 m 0 ls []) := by
  have B14 : ∀ (t0 : Int32) (S : St) (H : Heap) (locs : List Loc) (ls : Array Slot), bX7_needs_14 Q t0 → va_P g vwCl (w0 S) H → va_D A (w0 S) → va_S A s.heap H locs → lv_has ls 2 [] → W p l e R s m args below meth c H locs 0 0 QQ (F0 m 14 ls [.int t0]) := by
    intro t0 S H locs ls h hP hD hS hl
    exact hret _ _ _ _ _ _ dX7_needs_14 h.1 h.2 hP hD hS
  refine lv_iload_n C.1 C.2.1 dX7_needs_0 rfl (lv_at hl 0 rfl) ?_
  refine lv_iload_n C.1 C.2.1 dX7_needs_1 rfl (lv_at hl 1 rfl) ?_
  refine lv_ishr C.1 C.2.1 dX7_needs_2 ?_
  refine lv_iconst (v := 1) C.1 C.2.1 dX7_needs_3 (by decide) ?_
  refine lv_iand C.1 C.2.1 dX7_needs_4 ?_
  refine lv_iconst (v := 1) C.1 C.2.1 dX7_needs_5 (by decide) ?_
  refine lv_icmp_ne (tgt := 13) C.1 C.2.1 dX7_needs_6 (by decide) (fun c1 => ?_) (fun c1 => ?_)
  · have h := h.1 c1
    refine lv_iconst (v := 0) C.1 C.2.1 dX7_needs_13 (by decide) ?_
    exact B14 (0 : Int32) S H locs ls h hP hD hS (lv_sub hl [] rfl)
  · have h := h.2 c1
    refine lv_iconst (v := 1) C.1 C.2.1 dX7_needs_9 (by decide) ?_
    refine lv_goto (tgt := 14) C.1 C.2.1 dX7_needs_10 (by decide) ?_
    exact B14 (1 : Int32) S H locs ls h hP hD hS (lv_sub hl [] rfl)
theorem mX7_needs (l : Launch) (g : va_G) (tys : List (ClassId × FieldType)) (S : St) (sz : Nat) (x0 : Int32) (x1 : Int32) (Q : Int32 → Prop) (h : pX7_needs x0 x1 Q) : Met l yX7_needs wsX7_needs ({ frames := 0, cells := 0, slots := 0, locals := 0 }) (gPc g (tys) (w0 S) sz [.int x0, .int x1]) (va_Qi (fun r _ => Q r) (gB g (tys) (w0) (va_A (w0 S) sz)) (va_A (w0 S) sz)) 0 0 (va_A (w0 S) sz) :=
  g_metZ (w := w0) (Q := fun r _ => Q r) (cc := cX7_needs) (maxL := 2) (by decide) rfl rfl (Nat.le_of_ble_eq_true rfl) rfl (fun p e s m args below meth c QQ A C hK hN hA hret H locs ls hP hD hS hl => kX7_needs C hK hN hA (Nat.le_refl _) (Nat.le_refl _) Q hret x0 x1 S h H locs ls hP hD hS hl)
