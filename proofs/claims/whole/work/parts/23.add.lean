def bX4_isDraftGood_20 (Q : Int32 → St → Prop) (S : St) : Prop :=
  Q (0 : Int32) S
def bX4_isDraftGood_34 (k34 : Nat → Int32 → St → Prop) (Q : Int32 → St → Prop) (x1 : Nat) (x2 : Int32) (S : St) : Prop :=
  (((nI (sLen.getD x1 0)) ≤ x2 → Q (1 : Int32) S) ∧ (¬ ((nI (sLen.getD x1 0)) ≤ x2) → (vp_in x2 (sLen.getD x1 0) ∧ (vp_in (x2 + (1 : Int32)) 6 ∧ pX4_isOfSort (sCh x1 (Int32.toNatClampNeg x2)) (S.1 21 (Int32.toNatClampNeg (x2 + (1 : Int32)))) (fun (r3 : Int32) => ((¬ r3 = 0 → (∀ y4 : Int32, y4 = x2 + (1 : Int32) → k34 x1 y4 S)) ∧ (r3 = 0 → Q (0 : Int32) S)))))))
def pX4_isDraftGood (S : St) (Q : Int32 → St → Prop) : Prop :=
  (((S.1 21 0) < 0 → bX4_isDraftGood_20 Q  S) ∧ (¬ ((S.1 21 0) < 0) → (((S.1 21 0) < (11 : Int32) → pX4_formOf (S.1 21 0) (fun (j7 : Nat) => (∃ N : Nat, itr (F := Nat → Int32 → St → Prop) (fun _ _ _ => False) (fun k34 x1 x2 S => bX4_isDraftGood_34 k34 Q x1 x2 S) N j7 (0 : Int32) S))) ∧ (¬ ((S.1 21 0) < (11 : Int32)) → bX4_isDraftGood_20 Q  S))))
set_option maxHeartbeats 40000000 in
set_option maxRecDepth 100000 in
theorem kX4_isDraftGood {p : Program} {l : Launch} {e : Env} {R : Room} {s : State} {m : MethodId} {args : Array Value} {below : List Frame} {meth : Method} {c : Code} {QQ : State → Prop} {g : va_G} {ct : Nat → ClassId} {ad : Nat → Nat} {n ro : Nat} {ak av : Nat → Nat} {A : Nat → Prop} (C : CallFix p m c cX4_isDraftGood 3 s args wsX4_isDraftGood RX4) (hK : va_K g vwCl (xT ct) s) (hN : xN s) (hG : sG ak av A s s.heap) (hA : ∀ q, s.heap.size ≤ q → A q) (hRf : 4 ≤ R.frames) (hRl : 121 ≤ R.locals) (Q : Int32 → St → Prop) (hret : ∀ (pc : Nat) (r : Int32) (S : St) (H : Heap) (locs : List Loc) (ls : Array Slot), decode cX4_isDraftGood pc = .ok (.ireturn, 1) → zb r → Q r S → va_P g vwCl (wX ct ad n ro S) H → va_D A (wX ct ad n ro S) → va_S A s.heap H locs → W p l e R s m args below meth c H locs 0 0 QQ (F0 m pc ls [.int r])) (S : St) (h : pX4_isDraftGood S Q) (H : Heap) (locs : List Loc) (ls : Array Slot) (hP : va_P g vwCl (wX ct ad n ro S) H) (hD : va_D A (wX ct ad n ro S)) (hS : va_S A s.heap H locs) (hl : lv_has ls 3 [(0, .ref (ad 1))]) : W p l e R s m args below meth c H locs 0 0 QQ (F0 m 0 ls []) := by
  have hinX4 : ∀ w ∈ wsX40, w ∈ wsX4_isDraftGood := by decide +kernel
  have B20 : ∀ (S : St) (H : Heap) (locs : List Loc) (ls : Array Slot), bX4_isDraftGood_20 Q S → va_P g vwCl (wX ct ad n ro S) H → va_D A (wX ct ad n ro S) → va_S A s.heap H locs → lv_has ls 3 [(0, .ref (ad 1))] → W p l e R s m args below meth c H locs 0 0 QQ (F0 m 20 ls []) := by
    intro S H locs ls h hP hD hS hl
    refine lv_iconst (v := 0) C.1 C.2.1 dX4_isDraftGood_20 (by decide) ?_
    exact hret _ _ _ _ _ _ dX4_isDraftGood_21 zb_0 h hP hD hS
  have B34 : ∀ (k34 : Nat → Int32 → St → Prop) (hk34 : ∀ (x1 : Nat) (x2 : Int32) (hx1 : x1 < 7) (S : St) (H : Heap) (locs : List Loc) (ls : Array Slot), k34 x1 x2 S → va_P g vwCl (wX ct ad n ro S) H → va_D A (wX ct ad n ro S) → va_S A s.heap H locs → lv_has ls 3 [(0, .ref (ad 1)), (1, .ref (ak x1)), (2, .int x2)] → W p l e R s m args below meth c H locs 0 0 QQ (F0 m 34 ls [])) (x1 : Nat) (x2 : Int32) (hx1 : x1 < 7) (S : St) (H : Heap) (locs : List Loc) (ls : Array Slot), bX4_isDraftGood_34 k34 Q x1 x2 S → va_P g vwCl (wX ct ad n ro S) H → va_D A (wX ct ad n ro S) → va_S A s.heap H locs → lv_has ls 3 [(0, .ref (ad 1)), (1, .ref (ak x1)), (2, .int x2)] → W p l e R s m args below meth c H locs 0 0 QQ (F0 m 34 ls []) := by
    intro k34 hk34 x1 x2 hx1 S H locs ls h hP hD hS hl
    refine lv_iload_n C.1 C.2.1 dX4_isDraftGood_34 rfl (lv_at hl 2 rfl) ?_
    refine lv_aload_n C.1 C.2.1 dX4_isDraftGood_35 rfl (lv_at hl 1 rfl) ?_
    refine g_callPViX (w := wX ct ad n ro) C hK hN hA hP hD hS (m_length l g (xT ct) ak av S H.size x1 hx1) sX_blind (sX_to hG hS (g_free w0_D hS hA)) (cwV 0 C.2.2.2.2 gX4_isDraftGood_J0_length_8abf5 rfl rfl rfl (by decide +kernel) ⟨Nat.le_trans (by decide) hRf, Nat.le_trans (by decide) hRl⟩) (vk_recv hG.1 hx1 hS) rfl hl.1 rfl (Nat.le_of_ble_eq_true rfl) dX4_isDraftGood_36 ⟨Nat.zero_le _, Nat.zero_le _⟩ (fun r H locs hr hP hD hS => ?_)
    subst hr
    refine lv_icmp_ge (tgt := 69) C.1 C.2.1 dX4_isDraftGood_39 (by decide) (fun c6 => ?_) (fun c6 => ?_)
    · have h := h.1 c6
      refine lv_iconst (v := 1) C.1 C.2.1 dX4_isDraftGood_69 (by decide) ?_
      exact hret _ _ _ _ _ _ dX4_isDraftGood_70 zb_1 h hP hD hS
    · have h := h.2 c6
      refine lv_aload_n C.1 C.2.1 dX4_isDraftGood_42 rfl (lv_at hl 1 rfl) ?_
      refine lv_iload_n C.1 C.2.1 dX4_isDraftGood_43 rfl (lv_at hl 2 rfl) ?_
      obtain ⟨g1, h⟩ := h
      refine g_callPViX (w := wX ct ad n ro) C hK hN hA hP hD hS (m_charAt l g (xT ct) ak av S H.size x1 hx1 x2 g1) sX_blind (sX_to hG hS (g_free w0_D hS hA)) (cwV 1 C.2.2.2.2 gX4_isDraftGood_J0_charAt_5068e rfl rfl rfl (by decide +kernel) ⟨Nat.le_trans (by decide) hRf, Nat.le_trans (by decide) hRl⟩) (vk_recv hG.1 hx1 hS) rfl hl.1 rfl (Nat.le_of_ble_eq_true rfl) dX4_isDraftGood_44 ⟨Nat.zero_le _, Nat.zero_le _⟩ (fun r H locs hr hP hD hS => ?_)
      subst hr
      refine lv_aload_n C.1 C.2.1 dX4_isDraftGood_47 rfl (lv_at hl 0 rfl) ?_
      refine xg4_draft C hinX4 hK hP (by decide +kernel) dX4_isDraftGood_48 ?_
      refine lv_iload_n C.1 C.2.1 dX4_isDraftGood_51 rfl (lv_at hl 2 rfl) ?_
      refine lv_iconst (v := 1) C.1 C.2.1 dX4_isDraftGood_52 (by decide) ?_
      refine lv_iadd C.1 C.2.1 dX4_isDraftGood_53 ?_
      obtain ⟨g2, h⟩ := h
      refine xa_4_draft C hK hP g2  rfl dX4_isDraftGood_54 ?_
      refine g_callS (w := wX ct ad n ro) C hK hN hA hP hD hS (mX4_isOfSort l g (xT ct) S H.size (sCh x1 (Int32.toNatClampNeg x2)) (S.1 21 (Int32.toNatClampNeg (x2 + (1 : Int32)))) _ h) (va_cwS 2 C.2.2.2.2 gX4_isDraftGood_X4_isOfSort rfl rfl rfl (by decide +kernel) ⟨Nat.le_trans (by decide) hRf, Nat.le_trans (by decide) hRl⟩) rfl hl.1 rfl (Nat.le_of_ble_eq_true rfl) dX4_isDraftGood_55 ⟨Nat.zero_le _, Nat.zero_le _⟩ (fun r3 H locs h hP hD hS => ?_)
      refine lv_if_ne (tgt := 63) C.1 C.2.1 dX4_isDraftGood_58 (by decide) (fun c5 => ?_) (fun c5 => ?_)
      · have h := h.1 c5
        obtain ⟨y4, ey4⟩ : ∃ z : Int32, z = x2 + (1 : Int32) := ⟨_, rfl⟩
        have h := h y4 ey4
        refine lv_iinc (v := y4) (lv' := [(2, .int y4), (0, .ref (ad 1)), (1, .ref (ak x1))]) C.1 C.2.1 dX4_isDraftGood_63 hl (k := 2) rfl (by rw [ey4]; rfl) (by decide) rfl (fun ls hl => ?_)
        refine lv_goto (tgt := 34) C.1 C.2.1 dX4_isDraftGood_66 (by decide) ?_
        exact hk34 x1 y4 hx1 S H locs ls h hP hD hS (lv_sub hl [1, 2, 0] rfl)
      · have h := h.2 c5
        refine lv_iconst (v := 0) C.1 C.2.1 dX4_isDraftGood_61 (by decide) ?_
        exact hret _ _ _ _ _ _ dX4_isDraftGood_62 zb_0 h hP hD hS
  have L34 : ∀ (N : Nat) (x1 : Nat) (x2 : Int32) (hx1 : x1 < 7) (S : St) (H : Heap) (locs : List Loc) (ls : Array Slot), itr (F := Nat → Int32 → St → Prop) (fun _ _ _ => False) (fun k34 x1 x2 S => bX4_isDraftGood_34 k34 Q x1 x2 S) N x1 x2 S → va_P g vwCl (wX ct ad n ro S) H → va_D A (wX ct ad n ro S) → va_S A s.heap H locs → lv_has ls 3 [(0, .ref (ad 1)), (1, .ref (ak x1)), (2, .int x2)] → W p l e R s m args below meth c H locs 0 0 QQ (F0 m 34 ls []) := by
    intro N
    induction N with
    | zero => intro x1 x2 hx1 S H locs ls h hP hD hS hl; exact False.elim h
    | succ N ih => intro x1 x2 hx1 S H locs ls h hP hD hS hl; exact B34  (itr (F := Nat → Int32 → St → Prop) (fun _ _ _ => False) (fun k34 x1 x2 S => bX4_isDraftGood_34 k34 Q x1 x2 S) N) ih x1 x2 hx1 S H locs ls h  hP hD hS hl
  refine lv_aload_n C.1 C.2.1 dX4_isDraftGood_0 rfl (lv_at hl 0 rfl) ?_
  refine xg4_draft C hinX4 hK hP (by decide +kernel) dX4_isDraftGood_1 ?_
  refine lv_iconst (v := 0) C.1 C.2.1 dX4_isDraftGood_4 (by decide) ?_
  refine xa_4_draft C hK hP (j := 0) (by unfold vp_in; decide) (by decide) dX4_isDraftGood_5 ?_
  refine lv_if_lt (tgt := 20) C.1 C.2.1 dX4_isDraftGood_6 (by decide) (fun c9 => ?_) (fun c9 => ?_)
  · have h := h.1 c9
    exact B20  S H locs ls h hP hD hS (lv_sub hl [0] rfl)
  · have h := h.2 c9
    refine lv_aload_n C.1 C.2.1 dX4_isDraftGood_9 rfl (lv_at hl 0 rfl) ?_
    refine xg4_draft C hinX4 hK hP (by decide +kernel) dX4_isDraftGood_10 ?_
    refine lv_iconst (v := 0) C.1 C.2.1 dX4_isDraftGood_13 (by decide) ?_
    refine xa_4_draft C hK hP (j := 0) (by unfold vp_in; decide) (by decide) dX4_isDraftGood_14 ?_
    refine lv_bipush (v := 11) C.1 C.2.1 dX4_isDraftGood_15 (by decide) ?_
    refine lv_icmp_lt (tgt := 22) C.1 C.2.1 dX4_isDraftGood_17 (by decide) (fun c8 => ?_) (fun c8 => ?_)
    · have h := h.1 c8
      refine lv_aload_n C.1 C.2.1 dX4_isDraftGood_22 rfl (lv_at hl 0 rfl) ?_
      refine xg4_draft C hinX4 hK hP (by decide +kernel) dX4_isDraftGood_23 ?_
      refine lv_iconst (v := 0) C.1 C.2.1 dX4_isDraftGood_26 (by decide) ?_
      refine xa_4_draft C hK hP (j := 0) (by unfold vp_in; decide) (by decide) dX4_isDraftGood_27 ?_
      refine g_callSrX (w := wX ct ad n ro) (ad := ak) C hK hN hA hP hD hS (mX4_formOf l g (xT ct) ak av S H.size (S.1 21 0) _ h) sX_blind (sX_to hG hS (g_free w0_D hS hA)) (va_cwS 1 C.2.2.2.2 gX4_isDraftGood_X4_formOf rfl rfl rfl (by decide +kernel) ⟨Nat.le_trans (by decide) hRf, Nat.le_trans (by decide) hRl⟩) rfl hl.1 rfl (Nat.le_of_ble_eq_true rfl) dX4_isDraftGood_28 ⟨Nat.zero_le _, Nat.zero_le _⟩ (fun j7 H locs hj7 h hP hD hS => ?_)
      refine lv_astore_n (lv' := [(1, .ref (ak j7)), (0, .ref (ad 1))]) C.1 C.2.1 dX4_isDraftGood_31 rfl hl (by decide) rfl (fun ls hl => ?_)
      refine lv_iconst (v := 0) C.1 C.2.1 dX4_isDraftGood_32 (by decide) ?_
      refine lv_istore_n (lv' := [(2, .int (0 : Int32)), (1, .ref (ak j7)), (0, .ref (ad 1))]) C.1 C.2.1 dX4_isDraftGood_33 rfl hl (by decide) rfl (fun ls hl => ?_)
      obtain ⟨N, h⟩ := h
      exact L34 N j7 (0 : Int32) hj7 S H locs ls h hP hD hS (lv_sub hl [2, 1, 0] rfl)
    · have h := h.2 c8
      exact B20  S H locs ls h hP hD hS (lv_sub hl [0] rfl)
theorem mX4_isDraftGood (l : Launch) (g : va_G) (ct : Nat → ClassId) (ad ak av : Nat → Nat) (n ro sz : Nat) (S : St) (Q : Int32 → St → Prop) (h : pX4_isDraftGood S Q) : Met l yX4_isDraftGood wsX4_isDraftGood ({ frames := 4, cells := 0, slots := 0, locals := 121 }) (gPcX g (xT ct) (wX ct ad n ro S) sz (sX ak av) [.ref (ad 1)]) (va_Qi Q (gB g (xT ct) (wX ct ad n ro) (va_A (wX ct ad n ro S) sz)) (va_A (wX ct ad n ro S) sz)) 0 0 (va_A (wX ct ad n ro S) sz) :=
  g_metNX (w := wX ct ad n ro) (cc := cX4_isDraftGood) (maxL := 3) (by decide) rfl rfl (Nat.le_of_ble_eq_true rfl) rfl (fun p e s m args below meth c QQ A C hK hN hG hA hret H locs ls hP hD hS hl => kX4_isDraftGood C hK hN hG hA (Nat.le_refl _) (Nat.le_refl _) Q (fun pc r S H locs ls hdg hz hq hP hD hS => hret pc r S H locs ls hdg (zb_n hz) hq hP hD hS)  S h H locs ls hP hD hS hl)

def bX4_copyDraft_40 (k17 : Nat → Int32 → Int32 → St → Prop) (Q : St → Prop) (x1 : Nat) (x2 : Int32) (x3 : Int32) (t0 : Nat) (t1 : Int32) (t2 : Int32) (S : St) : Prop :=
  (vp_in t1 6 ∧ ∀ S1 : St, S1 = wrR S t0 (Int32.toNatClampNeg t1) t2 → (∀ y3 : Int32, y3 = x3 + (1 : Int32) → k17 x1 x2 y3 S1))
def bX4_copyDraft_17 (k17 : Nat → Int32 → Int32 → St → Prop) (Q : St → Prop) (x1 : Nat) (x2 : Int32) (x3 : Int32) (S : St) : Prop :=
  (((6 : Int32) ≤ x3 → Q S) ∧ (¬ ((6 : Int32) ≤ x3) → ((x2 ≤ x3 → bX4_copyDraft_40 k17 Q x1 x2 x3 x1 x3 (0 : Int32) S) ∧ (¬ (x2 ≤ x3) → (vp_in x3 6 ∧ bX4_copyDraft_40 k17 Q x1 x2 x3 x1 x3 (S.1 21 (Int32.toNatClampNeg x3)) S)))))
def pX4_copyDraft (x1 : Nat) (S : St) (Q : St → Prop) : Prop :=
  pX4_formOf (S.1 21 0) (fun (j7 : Nat) => (∀ y8 : Int32, y8 = ((nI (sLen.getD j7 0)) + (1 : Int32)) → (∃ N : Nat, itr (F := Nat → Int32 → Int32 → St → Prop) (fun _ _ _ _ => False) (fun k17 x1 x2 x3 S => bX4_copyDraft_17 k17 Q x1 x2 x3 S) N x1 y8 (0 : Int32) S)))
set_option maxHeartbeats 40000000 in
set_option maxRecDepth 100000 in
theorem kX4_copyDraft {p : Program} {l : Launch} {e : Env} {R : Room} {s : State} {m : MethodId} {args : Array Value} {below : List Frame} {meth : Method} {c : Code} {QQ : State → Prop} {g : va_G} {ct : Nat → ClassId} {ad : Nat → Nat} {n ro : Nat} {ak av : Nat → Nat} {A : Nat → Prop} (C : CallFix p m c cX4_copyDraft 4 s args wsX4_copyDraft RX4) (hK : va_K g vwCl (xT ct) s) (hN : xN s) (hG : sG ak av A s s.heap) (hA : ∀ q, s.heap.size ≤ q → A q) (hRf : 2 ≤ R.frames) (hRl : 40 ≤ R.locals) (Q : St → Prop) (hret : ∀ (pc : Nat) (S : St) (H : Heap) (locs : List Loc) (ls : Array Slot), decode cX4_copyDraft pc = .ok (.return_, 1) → Q S → va_P g vwCl (wX ct ad n ro S) H → va_D A (wX ct ad n ro S) → va_S A s.heap H locs → W p l e R s m args below meth c H locs 0 0 QQ (F0 m pc ls [])) (x1 : Nat) (hx1 : x1 < 24) (S : St) (h : pX4_copyDraft x1 S Q) (H : Heap) (locs : List Loc) (ls : Array Slot) (hP : va_P g vwCl (wX ct ad n ro S) H) (hD : va_D A (wX ct ad n ro S)) (hS : va_S A s.heap H locs) (hl : lv_has ls 4 [(0, .ref (ad 1)), (1, .ref (ad (30 + x1)))]) : W p l e R s m args below meth c H locs 0 0 QQ (F0 m 0 ls []) := by
  have hinX4 : ∀ w ∈ wsX40, w ∈ wsX4_copyDraft := by decide +kernel
  have B40 : ∀ (k17 : Nat → Int32 → Int32 → St → Prop) (hk17 : ∀ (x1 : Nat) (x2 : Int32) (x3 : Int32) (hx1 : x1 < 24) (S : St) (H : Heap) (locs : List Loc) (ls : Array Slot), k17 x1 x2 x3 S → va_P g vwCl (wX ct ad n ro S) H → va_D A (wX ct ad n ro S) → va_S A s.heap H locs → lv_has ls 4 [(0, .ref (ad 1)), (1, .ref (ad (30 + x1))), (2, .int x2), (3, .int x3)] → W p l e R s m args below meth c H locs 0 0 QQ (F0 m 17 ls [])) (x1 : Nat) (x2 : Int32) (x3 : Int32) (t0 : Nat) (t1 : Int32) (t2 : Int32) (hx1 : x1 < 24) (ht0 : t0 < 24) (S : St) (H : Heap) (locs : List Loc) (ls : Array Slot), bX4_copyDraft_40 k17 Q x1 x2 x3 t0 t1 t2 S → va_P g vwCl (wX ct ad n ro S) H → va_D A (wX ct ad n ro S) → va_S A s.heap H locs → lv_has ls 4 [(0, .ref (ad 1)), (1, .ref (ad (30 + x1))), (2, .int x2), (3, .int x3)] → W p l e R s m args below meth c H locs 0 0 QQ (F0 m 40 ls [.int t2, .int t1, .ref (ad (30 + t0))]) := by
    intro k17 hk17 x1 x2 x3 t0 t1 t2 hx1 ht0 S H locs ls h hP hD hS hl
    obtain ⟨g2, h⟩ := h
    obtain ⟨S1, eS1⟩ : ∃ z : St, z = wrR S t0 (Int32.toNatClampNeg t1) t2 := ⟨_, rfl⟩
    have h := h S1 eS1
    refine xs_row ht0 C hK hP hD hS  g2 rfl dX4_copyDraft_40 (fun H locs hP hD hS => ?_)
    rw [← eS1] at hP hD
    obtain ⟨y3, ey3⟩ : ∃ z : Int32, z = x3 + (1 : Int32) := ⟨_, rfl⟩
    have h := h y3 ey3
    refine lv_iinc (v := y3) (lv' := [(3, .int y3), (0, .ref (ad 1)), (1, .ref (ad (30 + x1))), (2, .int x2)]) C.1 C.2.1 dX4_copyDraft_41 hl (k := 3) rfl (by rw [ey3]; rfl) (by decide) rfl (fun ls hl => ?_)
    refine lv_goto (tgt := 17) C.1 C.2.1 dX4_copyDraft_44 (by decide) ?_
    exact hk17 x1 x2 y3 hx1 S1 H locs ls h hP hD hS (lv_sub hl [1, 2, 3, 0] rfl)
  have B17 : ∀ (k17 : Nat → Int32 → Int32 → St → Prop) (hk17 : ∀ (x1 : Nat) (x2 : Int32) (x3 : Int32) (hx1 : x1 < 24) (S : St) (H : Heap) (locs : List Loc) (ls : Array Slot), k17 x1 x2 x3 S → va_P g vwCl (wX ct ad n ro S) H → va_D A (wX ct ad n ro S) → va_S A s.heap H locs → lv_has ls 4 [(0, .ref (ad 1)), (1, .ref (ad (30 + x1))), (2, .int x2), (3, .int x3)] → W p l e R s m args below meth c H locs 0 0 QQ (F0 m 17 ls [])) (x1 : Nat) (x2 : Int32) (x3 : Int32) (hx1 : x1 < 24) (S : St) (H : Heap) (locs : List Loc) (ls : Array Slot), bX4_copyDraft_17 k17 Q x1 x2 x3 S → va_P g vwCl (wX ct ad n ro S) H → va_D A (wX ct ad n ro S) → va_S A s.heap H locs → lv_has ls 4 [(0, .ref (ad 1)), (1, .ref (ad (30 + x1))), (2, .int x2), (3, .int x3)] → W p l e R s m args below meth c H locs 0 0 QQ (F0 m 17 ls []) := by
    intro k17 hk17 x1 x2 x3 hx1 S H locs ls h hP hD hS hl
    refine lv_iload_n C.1 C.2.1 dX4_copyDraft_17 rfl (lv_at hl 3 rfl) ?_
    refine lv_bipush (v := 6) C.1 C.2.1 dX4_copyDraft_18 (by decide) ?_
    refine lv_icmp_ge (tgt := 47) C.1 C.2.1 dX4_copyDraft_20 (by decide) (fun c6 => ?_) (fun c6 => ?_)
    · have h := h.1 c6
      exact hret _ _ _ _ _ dX4_copyDraft_47 h hP hD hS
    · have h := h.2 c6
      refine lv_aload_n C.1 C.2.1 dX4_copyDraft_23 rfl (lv_at hl 1 rfl) ?_
      refine lv_iload_n C.1 C.2.1 dX4_copyDraft_24 rfl (lv_at hl 3 rfl) ?_
      refine lv_iload_n C.1 C.2.1 dX4_copyDraft_25 rfl (lv_at hl 3 rfl) ?_
      refine lv_iload_n C.1 C.2.1 dX4_copyDraft_26 rfl (lv_at hl 2 rfl) ?_
      refine lv_icmp_ge (tgt := 39) C.1 C.2.1 dX4_copyDraft_27 (by decide) (fun c5 => ?_) (fun c5 => ?_)
      · have h := h.1 c5
        refine lv_iconst (v := 0) C.1 C.2.1 dX4_copyDraft_39 (by decide) ?_
        exact B40 k17 hk17 x1 x2 x3 x1 x3 (0 : Int32) hx1 hx1 S H locs ls h hP hD hS (lv_sub hl [0, 1, 2, 3] rfl)
      · have h := h.2 c5
        refine lv_aload_n C.1 C.2.1 dX4_copyDraft_30 rfl (lv_at hl 0 rfl) ?_
        refine xg4_draft C hinX4 hK hP (by decide +kernel) dX4_copyDraft_31 ?_
        refine lv_iload_n C.1 C.2.1 dX4_copyDraft_34 rfl (lv_at hl 3 rfl) ?_
        obtain ⟨g4, h⟩ := h
        refine xa_4_draft C hK hP g4  rfl dX4_copyDraft_35 ?_
        refine lv_goto (tgt := 40) C.1 C.2.1 dX4_copyDraft_36 (by decide) ?_
        exact B40 k17 hk17 x1 x2 x3 x1 x3 (S.1 21 (Int32.toNatClampNeg x3)) hx1 hx1 S H locs ls h hP hD hS (lv_sub hl [0, 1, 2, 3] rfl)
  have L17 : ∀ (N : Nat) (x1 : Nat) (x2 : Int32) (x3 : Int32) (hx1 : x1 < 24) (S : St) (H : Heap) (locs : List Loc) (ls : Array Slot), itr (F := Nat → Int32 → Int32 → St → Prop) (fun _ _ _ _ => False) (fun k17 x1 x2 x3 S => bX4_copyDraft_17 k17 Q x1 x2 x3 S) N x1 x2 x3 S → va_P g vwCl (wX ct ad n ro S) H → va_D A (wX ct ad n ro S) → va_S A s.heap H locs → lv_has ls 4 [(0, .ref (ad 1)), (1, .ref (ad (30 + x1))), (2, .int x2), (3, .int x3)] → W p l e R s m args below meth c H locs 0 0 QQ (F0 m 17 ls []) := by
    intro N
    induction N with
    | zero => intro x1 x2 x3 hx1 S H locs ls h hP hD hS hl; exact False.elim h
    | succ N ih => intro x1 x2 x3 hx1 S H locs ls h hP hD hS hl; exact B17  (itr (F := Nat → Int32 → Int32 → St → Prop) (fun _ _ _ _ => False) (fun k17 x1 x2 x3 S => bX4_copyDraft_17 k17 Q x1 x2 x3 S) N) ih x1 x2 x3 hx1 S H locs ls h  hP hD hS hl
  refine lv_aload_n C.1 C.2.1 dX4_copyDraft_0 rfl (lv_at hl 0 rfl) ?_
  refine xg4_draft C hinX4 hK hP (by decide +kernel) dX4_copyDraft_1 ?_
  refine lv_iconst (v := 0) C.1 C.2.1 dX4_copyDraft_4 (by decide) ?_
  refine xa_4_draft C hK hP (j := 0) (by unfold vp_in; decide) (by decide) dX4_copyDraft_5 ?_
  refine g_callSrX (w := wX ct ad n ro) (ad := ak) C hK hN hA hP hD hS (mX4_formOf l g (xT ct) ak av S H.size (S.1 21 0) _ h) sX_blind (sX_to hG hS (g_free w0_D hS hA)) (va_cwS 1 C.2.2.2.2 gX4_copyDraft_X4_formOf rfl rfl rfl (by decide +kernel) ⟨Nat.le_trans (by decide) hRf, Nat.le_trans (by decide) hRl⟩) rfl hl.1 rfl (Nat.le_of_ble_eq_true rfl) dX4_copyDraft_6 ⟨Nat.zero_le _, Nat.zero_le _⟩ (fun j7 H locs hj7 h hP hD hS => ?_)
  refine g_callPViX (w := wX ct ad n ro) C hK hN hA hP hD hS (m_length l g (xT ct) ak av S H.size j7 hj7) sX_blind (sX_to hG hS (g_free w0_D hS hA)) (cwV 0 C.2.2.2.2 gX4_copyDraft_J0_length_8abf5 rfl rfl rfl (by decide +kernel) ⟨Nat.le_trans (by decide) hRf, Nat.le_trans (by decide) hRl⟩) (vk_recv hG.1 hj7 hS) rfl hl.1 rfl (Nat.le_of_ble_eq_true rfl) dX4_copyDraft_9 ⟨Nat.zero_le _, Nat.zero_le _⟩ (fun r H locs hr hP hD hS => ?_)
  subst hr
  refine lv_iconst (v := 1) C.1 C.2.1 dX4_copyDraft_12 (by decide) ?_
  refine lv_iadd C.1 C.2.1 dX4_copyDraft_13 ?_
  refine lv_topi (fun y8 ey8 => ?_)
  have h := h y8 ey8
  refine lv_istore_n (lv' := [(2, .int y8), (0, .ref (ad 1)), (1, .ref (ad (30 + x1)))]) C.1 C.2.1 dX4_copyDraft_14 rfl hl (by decide) rfl (fun ls hl => ?_)
  refine lv_iconst (v := 0) C.1 C.2.1 dX4_copyDraft_15 (by decide) ?_
  refine lv_istore_n (lv' := [(3, .int (0 : Int32)), (2, .int y8), (0, .ref (ad 1)), (1, .ref (ad (30 + x1)))]) C.1 C.2.1 dX4_copyDraft_16 rfl hl (by decide) rfl (fun ls hl => ?_)
  obtain ⟨N, h⟩ := h
  exact L17 N x1 y8 (0 : Int32) hx1 S H locs ls h hP hD hS (lv_sub hl [2, 3, 1, 0] rfl)
theorem mX4_copyDraft (l : Launch) (g : va_G) (ct : Nat → ClassId) (ad ak av : Nat → Nat) (n ro sz : Nat) (S : St) (x1 : Nat) (hx1 : x1 < 24) (Q : St → Prop) (h : pX4_copyDraft x1 S Q) : Met l yX4_copyDraft wsX4_copyDraft ({ frames := 2, cells := 0, slots := 0, locals := 40 }) (gPcX g (xT ct) (wX ct ad n ro S) sz (sX ak av) [.ref (ad 1), .ref (ad (30 + x1))]) (va_Qv Q (gB g (xT ct) (wX ct ad n ro) (va_A (wX ct ad n ro S) sz)) (va_A (wX ct ad n ro S) sz)) 0 0 (va_A (wX ct ad n ro S) sz) :=
  g_metVX (w := wX ct ad n ro) (cc := cX4_copyDraft) (maxL := 4) (by decide) rfl rfl (Nat.le_of_ble_eq_true rfl) rfl (fun p e s m args below meth c QQ A C hK hN hG hA hret H locs ls hP hD hS hl => kX4_copyDraft C hK hN hG hA (Nat.le_refl _) (Nat.le_refl _) Q hret x1 hx1 S h H locs ls hP hD hS hl)

def bX4_append_16 (Q : Int32 → St → Prop) (S : St) : Prop :=
  Q (-2 : Int32) S
def bX4_append_90 (Q : Int32 → St → Prop) (S : St) : Prop :=
  Q (-3 : Int32) S
def bX4_append_131 (Q : Int32 → St → Prop) (x1 : Int32) (t1 : Int32) (t2 : Int32) (S : St) : Prop :=
  (∀ S1 : St, S1 = wr S 4 0 (t1 + t2) → (vp_in x1 4 ∧ (∀ y3 : Int32, y3 = (S1.1 20 (Int32.toNatClampNeg x1)) → pX4_row x1 y3 S1 (fun (i5 : Nat) (S4 : St) => pX4_copyDraft i5 S4 (fun (S6 : St) => (vp_in x1 4 ∧ (vp_in x1 4 ∧ ∀ S8 : St, S8 = wr S6 20 (Int32.toNatClampNeg x1) ((S6.1 20 (Int32.toNatClampNeg x1)) + (1 : Int32)) → Q y3 S8)))))))
def bX4_append_110 (Q : Int32 → St → Prop) (x1 : Int32) (x2 : Int32) (t1 : Int32) (t2 : Int32) (S : St) : Prop :=
  (∀ S10 : St, S10 = wr S 3 0 (t1 + t2) → pX6_isReader x2 (fun (r11 : Int32) => ((r11 = 0 → bX4_append_131 Q x1 (S10.1 4 0) (0 : Int32) S10) ∧ (¬ (r11 = 0) → bX4_append_131 Q x1 (S10.1 4 0) (1 : Int32) S10))))
def bX4_append_68 (Q : Int32 → St → Prop) (x1 : Int32) (x2 : Int32) (x3 : Int32) (t0 : Int32) (S : St) : Prop :=
  (vp_in x1 4 ∧ (((6 : Int32) ≤ (S.1 20 (Int32.toNatClampNeg x1)) → bX4_append_90 Q  S) ∧ (¬ ((6 : Int32) ≤ (S.1 20 (Int32.toNatClampNeg x1))) → ((¬ x3 = 0 → bX4_append_90 Q  S) ∧ (x3 = 0 → ((t0 = 0 → pX6_isAccess x2 (fun (r14 : Int32) => ((r14 = 0 → bX4_append_110 Q x1 x2 (S.1 3 0) (0 : Int32) S) ∧ (¬ (r14 = 0) → bX4_append_110 Q x1 x2 (S.1 3 0) (1 : Int32) S)))) ∧ (¬ (t0 = 0) → bX4_append_90 Q  S)))))))
def bX4_append_67 (Q : Int32 → St → Prop) (x1 : Int32) (x2 : Int32) (x3 : Int32) (S : St) : Prop :=
  bX4_append_68 Q x1 x2 x3 (0 : Int32) S
def bX4_append_47 (Q : Int32 → St → Prop) (x1 : Int32) (x2 : Int32) (t0 : Int32) (S : St) : Prop :=
  pX6_isReader x2 (fun (r19 : Int32) => ((r19 = 0 → bX4_append_67 Q x1 x2 t0 S) ∧ (¬ (r19 = 0) → (((S.1 4 0) < (4 : Int32) → bX4_append_67 Q x1 x2 t0 S) ∧ (¬ ((S.1 4 0) < (4 : Int32)) → bX4_append_68 Q x1 x2 t0 (1 : Int32) S)))))
def bX4_append_46 (Q : Int32 → St → Prop) (x1 : Int32) (x2 : Int32) (S : St) : Prop :=
  bX4_append_47 Q x1 x2 (0 : Int32) S
def pX4_append (x1 : Int32) (S : St) (Q : Int32 → St → Prop) : Prop :=
  ((x1 < 0 → bX4_append_16 Q  S) ∧ (¬ (x1 < 0) → (((4 : Int32) ≤ x1 → bX4_append_16 Q  S) ∧ (¬ ((4 : Int32) ≤ x1) → pX4_isDraftGood S (fun (r23 : Int32) (S22 : St) => ((¬ r23 = 0 → (∀ y24 : Int32, y24 = (S22.1 21 0) → pX6_isAccess y24 (fun (r25 : Int32) => ((r25 = 0 → bX4_append_46 Q x1 y24 S22) ∧ (¬ (r25 = 0) → (((S22.1 3 0) < (6 : Int32) → bX4_append_46 Q x1 y24 S22) ∧ (¬ ((S22.1 3 0) < (6 : Int32)) → bX4_append_47 Q x1 y24 (1 : Int32) S22))))))) ∧ (r23 = 0 → bX4_append_16 Q  S22)))))))
set_option maxHeartbeats 40000000 in
set_option maxRecDepth 100000 in
theorem kX4_append {p : Program} {l : Launch} {e : Env} {R : Room} {s : State} {m : MethodId} {args : Array Value} {below : List Frame} {meth : Method} {c : Code} {QQ : State → Prop} {g : va_G} {ct : Nat → ClassId} {ad : Nat → Nat} {n ro : Nat} {ak av : Nat → Nat} {A : Nat → Prop} (C : CallFix p m c cX4_append 6 s args wsX4_append RX4) (hK : va_K g vwCl (xT ct) s) (hN : xN s) (hG : sG ak av A s s.heap) (hA : ∀ q, s.heap.size ≤ q → A q) (hRf : 5 ≤ R.frames) (hRl : 143 ≤ R.locals) (Q : Int32 → St → Prop) (hret : ∀ (pc : Nat) (r : Int32) (S : St) (H : Heap) (locs : List Loc) (ls : Array Slot), decode cX4_append pc = .ok (.ireturn, 1) → Q r S → va_P g vwCl (wX ct ad n ro S) H → va_D A (wX ct ad n ro S) → va_S A s.heap H locs → W p l e R s m args below meth c H locs 0 0 QQ (F0 m pc ls [.int r])) (x1 : Int32) (S : St) (h : pX4_append x1 S Q) (H : Heap) (locs : List Loc) (ls : Array Slot) (hP : va_P g vwCl (wX ct ad n ro S) H) (hD : va_D A (wX ct ad n ro S)) (hS : va_S A s.heap H locs) (hl : lv_has ls 6 [(0, .ref (ad 1)), (1, .int x1)]) : W p l e R s m args below meth c H locs 0 0 QQ (F0 m 0 ls []) := by
  have hinX4 : ∀ w ∈ wsX40, w ∈ wsX4_append := by decide +kernel
  have B16 : ∀ (S : St) (H : Heap) (locs : List Loc) (ls : Array Slot), bX4_append_16 Q S → va_P g vwCl (wX ct ad n ro S) H → va_D A (wX ct ad n ro S) → va_S A s.heap H locs → lv_has ls 6 [(0, .ref (ad 1))] → W p l e R s m args below meth c H locs 0 0 QQ (F0 m 16 ls []) := by
    intro S H locs ls h hP hD hS hl
    refine lv_bipush (v := -2) C.1 C.2.1 dX4_append_16 (by decide) ?_
    exact hret _ _ _ _ _ _ dX4_append_18 h hP hD hS
  have B90 : ∀ (S : St) (H : Heap) (locs : List Loc) (ls : Array Slot), bX4_append_90 Q S → va_P g vwCl (wX ct ad n ro S) H → va_D A (wX ct ad n ro S) → va_S A s.heap H locs → lv_has ls 6 [(0, .ref (ad 1))] → W p l e R s m args below meth c H locs 0 0 QQ (F0 m 90 ls []) := by
    intro S H locs ls h hP hD hS hl
    refine lv_bipush (v := -3) C.1 C.2.1 dX4_append_90 (by decide) ?_
    exact hret _ _ _ _ _ _ dX4_append_92 h hP hD hS
  have B131 : ∀ (x1 : Int32) (t1 : Int32) (t2 : Int32) (S : St) (H : Heap) (locs : List Loc) (ls : Array Slot), bX4_append_131 Q x1 t1 t2 S → va_P g vwCl (wX ct ad n ro S) H → va_D A (wX ct ad n ro S) → va_S A s.heap H locs → lv_has ls 6 [(0, .ref (ad 1)), (1, .int x1)] → W p l e R s m args below meth c H locs 0 0 QQ (F0 m 131 ls [.int t2, .int t1, .ref (ad 1)]) := by
    intro x1 t1 t2 S H locs ls h hP hD hS hl
    refine lv_iadd C.1 C.2.1 dX4_append_131 ?_
    obtain ⟨S1, eS1⟩ : ∃ z : St, z = wr S 4 0 (t1 + t2) := ⟨_, rfl⟩
    have h := h S1 eS1
    refine xp4_readers C hinX4 hK hP hD hS (by decide +kernel) dX4_append_132 (fun H locs hP hD hS => ?_)
    rw [← eS1] at hP hD
    refine lv_aload_n C.1 C.2.1 dX4_append_135 rfl (lv_at hl 0 rfl) ?_
    refine xg4_lengths C hinX4 hK hP (by decide +kernel) dX4_append_136 ?_
    refine lv_iload_n C.1 C.2.1 dX4_append_139 rfl (lv_at hl 1 rfl) ?_
    obtain ⟨g2, h⟩ := h
    refine xa_4_lengths C hK hP g2  rfl dX4_append_140 ?_
    refine lv_topi (fun y3 ey3 => ?_)
    have h := h y3 ey3
    refine lv_istore (lv' := [(5, .int y3), (0, .ref (ad 1)), (1, .int x1)]) C.1 C.2.1 dX4_append_141 hl (by decide) rfl (fun ls hl => ?_)
    refine lv_aload_n C.1 C.2.1 dX4_append_143 rfl (lv_at hl 1 rfl) ?_
    refine lv_aload_n C.1 C.2.1 dX4_append_144 rfl (lv_at hl 1 rfl) ?_
    refine lv_iload_n C.1 C.2.1 dX4_append_145 rfl (lv_at hl 2 rfl) ?_
    refine lv_iload C.1 C.2.1 dX4_append_146 (lv_at hl 0 rfl) ?_
    refine g_callVr (w := wX ct ad n ro) C hK hN hA hP hD hS (mX4_row l g ct ad n ro H.size S1 x1 y3  _ h) (cwV 2 C.2.2.2.2 gX4_append_X4_row rfl rfl rfl (by decide +kernel) ⟨Nat.le_trans (by decide) hRf, Nat.le_trans (by decide) hRl⟩) (va_recv hK hP (ci := 4) (q0 := 1) rfl rfl) rfl hl.1 rfl (Nat.le_of_ble_eq_true rfl) dX4_append_148 ⟨Nat.zero_le _, Nat.zero_le _⟩ (fun i5 S4 H locs hi5 h hP hD hS => ?_)
    refine g_callVvX (w := wX ct ad n ro) C hK hN hA hP hD hS (mX4_copyDraft l g ct ad ak av n ro H.size S4 i5 hi5 _ h) sX_blind (sX_to hG hS (g_free hD hS hA)) (cwV 1 C.2.2.2.2 gX4_append_X4_copyDraft rfl rfl rfl (by decide +kernel) ⟨Nat.le_trans (by decide) hRf, Nat.le_trans (by decide) hRl⟩) (va_recv hK hP (ci := 4) (q0 := 1) rfl rfl) rfl hl.1 rfl (Nat.le_of_ble_eq_true rfl) dX4_append_151 ⟨Nat.zero_le _, Nat.zero_le _⟩ (fun S6 H locs h hP hD hS => ?_)
    refine lv_aload_n C.1 C.2.1 dX4_append_154 rfl (lv_at hl 1 rfl) ?_
    refine xg4_lengths C hinX4 hK hP (by decide +kernel) dX4_append_155 ?_
    refine lv_iload_n C.1 C.2.1 dX4_append_158 rfl (lv_at hl 2 rfl) ?_
    refine lv_dup2_11 C.1 C.2.1 dX4_append_159 rfl rfl ?_
    obtain ⟨g7, h⟩ := h
    refine xa_4_lengths C hK hP g7  rfl dX4_append_160 ?_
    refine lv_iconst (v := 1) C.1 C.2.1 dX4_append_161 (by decide) ?_
    refine lv_iadd C.1 C.2.1 dX4_append_162 ?_
    obtain ⟨g9, h⟩ := h
    obtain ⟨S8, eS8⟩ : ∃ z : St, z = wr S6 20 (Int32.toNatClampNeg x1) ((S6.1 20 (Int32.toNatClampNeg x1)) + (1 : Int32)) := ⟨_, rfl⟩
    have h := h S8 eS8
    refine xs_4_lengths C hK hP hD hS  g9 rfl dX4_append_163 (fun H locs hP hD hS => ?_)
    rw [← eS8] at hP hD
    refine lv_iload C.1 C.2.1 dX4_append_164 (lv_at hl 0 rfl) ?_
    exact hret _ _ _ _ _ _ dX4_append_166 h hP hD hS
  have B110 : ∀ (x1 : Int32) (x2 : Int32) (t1 : Int32) (t2 : Int32) (S : St) (H : Heap) (locs : List Loc) (ls : Array Slot), bX4_append_110 Q x1 x2 t1 t2 S → va_P g vwCl (wX ct ad n ro S) H → va_D A (wX ct ad n ro S) → va_S A s.heap H locs → lv_has ls 6 [(0, .ref (ad 1)), (1, .int x1), (2, .int x2)] → W p l e R s m args below meth c H locs 0 0 QQ (F0 m 110 ls [.int t2, .int t1, .ref (ad 1)]) := by
    intro x1 x2 t1 t2 S H locs ls h hP hD hS hl
    refine lv_iadd C.1 C.2.1 dX4_append_110 ?_
    obtain ⟨S10, eS10⟩ : ∃ z : St, z = wr S 3 0 (t1 + t2) := ⟨_, rfl⟩
    have h := h S10 eS10
    refine xp4_accesses C hinX4 hK hP hD hS (by decide +kernel) dX4_append_111 (fun H locs hP hD hS => ?_)
    rw [← eS10] at hP hD
    refine lv_aload_n C.1 C.2.1 dX4_append_114 rfl (lv_at hl 0 rfl) ?_
    refine lv_dup C.1 C.2.1 dX4_append_115 rfl ?_
    refine xg4_readers C hinX4 hK hP (by decide +kernel) dX4_append_116 ?_
    refine lv_iload_n C.1 C.2.1 dX4_append_119 rfl (lv_at hl 2 rfl) ?_
    refine g_callSN (host := "LitmusRunner") (w := wX ct ad n ro) C hK hN hA hP hD hS (mX6_isReader l g (xT ct) S10 H.size x2 _ h) ⟨va_cnB 1 C.2.2.2.2 gX4_append_X6_isReader_n48 rfl rfl rfl (hN (.methodLinkNest RX4 48 yX6_isReader "LitmusRunner") (by decide +kernel)) (C.2.2.2.2 (.initialized RX6) (by decide +kernel)) (by decide +kernel) ⟨Nat.le_trans (by decide) hRf, Nat.le_trans (by decide) hRl⟩, C.2.2.2.2 (.static yX6_isReader) (by decide +kernel), trivial⟩ rfl hl.1 rfl (Nat.le_of_ble_eq_true rfl) dX4_append_120 ⟨Nat.zero_le _, Nat.zero_le _⟩ (fun r11 H locs h hP hD hS => ?_)
    refine lv_if_eq (tgt := 130) C.1 C.2.1 dX4_append_123 (by decide) (fun c12 => ?_) (fun c12 => ?_)
    · have h := h.1 c12
      refine lv_iconst (v := 0) C.1 C.2.1 dX4_append_130 (by decide) ?_
      exact B131 x1 (S10.1 4 0) (0 : Int32) S10 H locs ls h hP hD hS (lv_sub hl [0, 1] rfl)
    · have h := h.2 c12
      refine lv_iconst (v := 1) C.1 C.2.1 dX4_append_126 (by decide) ?_
      refine lv_goto (tgt := 131) C.1 C.2.1 dX4_append_127 (by decide) ?_
      exact B131 x1 (S10.1 4 0) (1 : Int32) S10 H locs ls h hP hD hS (lv_sub hl [0, 1] rfl)
  have B68 : ∀ (x1 : Int32) (x2 : Int32) (x3 : Int32) (t0 : Int32) (S : St) (H : Heap) (locs : List Loc) (ls : Array Slot), bX4_append_68 Q x1 x2 x3 t0 S → va_P g vwCl (wX ct ad n ro S) H → va_D A (wX ct ad n ro S) → va_S A s.heap H locs → lv_has ls 6 [(0, .ref (ad 1)), (1, .int x1), (2, .int x2), (3, .int x3)] → W p l e R s m args below meth c H locs 0 0 QQ (F0 m 68 ls [.int t0]) := by
    intro x1 x2 x3 t0 S H locs ls h hP hD hS hl
    refine lv_istore (lv' := [(4, .int t0), (0, .ref (ad 1)), (1, .int x1), (2, .int x2), (3, .int x3)]) C.1 C.2.1 dX4_append_68 hl (by decide) rfl (fun ls hl => ?_)
    refine lv_aload_n C.1 C.2.1 dX4_append_70 rfl (lv_at hl 1 rfl) ?_
    refine xg4_lengths C hinX4 hK hP (by decide +kernel) dX4_append_71 ?_
    refine lv_iload_n C.1 C.2.1 dX4_append_74 rfl (lv_at hl 2 rfl) ?_
    obtain ⟨g13, h⟩ := h
    refine xa_4_lengths C hK hP g13  rfl dX4_append_75 ?_
    refine lv_bipush (v := 6) C.1 C.2.1 dX4_append_76 (by decide) ?_
    refine lv_icmp_ge (tgt := 90) C.1 C.2.1 dX4_append_78 (by decide) (fun c18 => ?_) (fun c18 => ?_)
    · have h := h.1 c18
      exact B90  S H locs ls h hP hD hS (lv_sub hl [1] rfl)
    · have h := h.2 c18
      refine lv_iload_n C.1 C.2.1 dX4_append_81 rfl (lv_at hl 4 rfl) ?_
      refine lv_if_ne (tgt := 90) C.1 C.2.1 dX4_append_82 (by decide) (fun c17 => ?_) (fun c17 => ?_)
      · have h := h.1 c17
        exact B90  S H locs ls h hP hD hS (lv_sub hl [1] rfl)
      · have h := h.2 c17
        refine lv_iload C.1 C.2.1 dX4_append_85 (lv_at hl 0 rfl) ?_
        refine lv_if_eq (tgt := 93) C.1 C.2.1 dX4_append_87 (by decide) (fun c16 => ?_) (fun c16 => ?_)
        · have h := h.1 c16
          refine lv_aload_n C.1 C.2.1 dX4_append_93 rfl (lv_at hl 1 rfl) ?_
          refine lv_dup C.1 C.2.1 dX4_append_94 rfl ?_
          refine xg4_accesses C hinX4 hK hP (by decide +kernel) dX4_append_95 ?_
          refine lv_iload_n C.1 C.2.1 dX4_append_98 rfl (lv_at hl 3 rfl) ?_
          refine g_callSN (host := "LitmusRunner") (w := wX ct ad n ro) C hK hN hA hP hD hS (mX6_isAccess l g (xT ct) S H.size x2 _ h) ⟨va_cnB 1 C.2.2.2.2 gX4_append_X6_isAccess_n44 rfl rfl rfl (hN (.methodLinkNest RX4 44 yX6_isAccess "LitmusRunner") (by decide +kernel)) (C.2.2.2.2 (.initialized RX6) (by decide +kernel)) (by decide +kernel) ⟨Nat.le_trans (by decide) hRf, Nat.le_trans (by decide) hRl⟩, C.2.2.2.2 (.static yX6_isAccess) (by decide +kernel), trivial⟩ rfl hl.1 rfl (Nat.le_of_ble_eq_true rfl) dX4_append_99 ⟨Nat.zero_le _, Nat.zero_le _⟩ (fun r14 H locs h hP hD hS => ?_)
          refine lv_if_eq (tgt := 109) C.1 C.2.1 dX4_append_102 (by decide) (fun c15 => ?_) (fun c15 => ?_)
          · have h := h.1 c15
            refine lv_iconst (v := 0) C.1 C.2.1 dX4_append_109 (by decide) ?_
            exact B110 x1 x2 (S.1 3 0) (0 : Int32) S H locs ls h hP hD hS (lv_sub hl [1, 2, 3] rfl)
          · have h := h.2 c15
            refine lv_iconst (v := 1) C.1 C.2.1 dX4_append_105 (by decide) ?_
            refine lv_goto (tgt := 110) C.1 C.2.1 dX4_append_106 (by decide) ?_
            exact B110 x1 x2 (S.1 3 0) (1 : Int32) S H locs ls h hP hD hS (lv_sub hl [1, 2, 3] rfl)
        · have h := h.2 c16
          exact B90  S H locs ls h hP hD hS (lv_sub hl [1] rfl)
  have B67 : ∀ (x1 : Int32) (x2 : Int32) (x3 : Int32) (S : St) (H : Heap) (locs : List Loc) (ls : Array Slot), bX4_append_67 Q x1 x2 x3 S → va_P g vwCl (wX ct ad n ro S) H → va_D A (wX ct ad n ro S) → va_S A s.heap H locs → lv_has ls 6 [(0, .ref (ad 1)), (1, .int x1), (2, .int x2), (3, .int x3)] → W p l e R s m args below meth c H locs 0 0 QQ (F0 m 67 ls []) := by
    intro x1 x2 x3 S H locs ls h hP hD hS hl
    refine lv_iconst (v := 0) C.1 C.2.1 dX4_append_67 (by decide) ?_
    exact B68 x1 x2 x3 (0 : Int32) S H locs ls h hP hD hS (lv_sub hl [0, 1, 2, 3] rfl)
  have B47 : ∀ (x1 : Int32) (x2 : Int32) (t0 : Int32) (S : St) (H : Heap) (locs : List Loc) (ls : Array Slot), bX4_append_47 Q x1 x2 t0 S → va_P g vwCl (wX ct ad n ro S) H → va_D A (wX ct ad n ro S) → va_S A s.heap H locs → lv_has ls 6 [(0, .ref (ad 1)), (1, .int x1), (2, .int x2)] → W p l e R s m args below meth c H locs 0 0 QQ (F0 m 47 ls [.int t0]) := by
    intro x1 x2 t0 S H locs ls h hP hD hS hl
    refine lv_istore_n (lv' := [(3, .int t0), (0, .ref (ad 1)), (1, .int x1), (2, .int x2)]) C.1 C.2.1 dX4_append_47 rfl hl (by decide) rfl (fun ls hl => ?_)
    refine lv_iload_n C.1 C.2.1 dX4_append_48 rfl (lv_at hl 3 rfl) ?_
    refine g_callSN (host := "LitmusRunner") (w := wX ct ad n ro) C hK hN hA hP hD hS (mX6_isReader l g (xT ct) S H.size x2 _ h) ⟨va_cnB 1 C.2.2.2.2 gX4_append_X6_isReader_n48 rfl rfl rfl (hN (.methodLinkNest RX4 48 yX6_isReader "LitmusRunner") (by decide +kernel)) (C.2.2.2.2 (.initialized RX6) (by decide +kernel)) (by decide +kernel) ⟨Nat.le_trans (by decide) hRf, Nat.le_trans (by decide) hRl⟩, C.2.2.2.2 (.static yX6_isReader) (by decide +kernel), trivial⟩ rfl hl.1 rfl (Nat.le_of_ble_eq_true rfl) dX4_append_49 ⟨Nat.zero_le _, Nat.zero_le _⟩ (fun r19 H locs h hP hD hS => ?_)
    refine lv_if_eq (tgt := 67) C.1 C.2.1 dX4_append_52 (by decide) (fun c21 => ?_) (fun c21 => ?_)
    · have h := h.1 c21
      exact B67 x1 x2 t0 S H locs ls h hP hD hS (lv_sub hl [1, 2, 3, 0] rfl)
    · have h := h.2 c21
      refine lv_aload_n C.1 C.2.1 dX4_append_55 rfl (lv_at hl 1 rfl) ?_
      refine xg4_readers C hinX4 hK hP (by decide +kernel) dX4_append_56 ?_
      refine lv_iconst (v := 4) C.1 C.2.1 dX4_append_59 (by decide) ?_
      refine lv_icmp_lt (tgt := 67) C.1 C.2.1 dX4_append_60 (by decide) (fun c20 => ?_) (fun c20 => ?_)
      · have h := h.1 c20
        exact B67 x1 x2 t0 S H locs ls h hP hD hS (lv_sub hl [1, 2, 3, 0] rfl)
      · have h := h.2 c20
        refine lv_iconst (v := 1) C.1 C.2.1 dX4_append_63 (by decide) ?_
        refine lv_goto (tgt := 68) C.1 C.2.1 dX4_append_64 (by decide) ?_
        exact B68 x1 x2 t0 (1 : Int32) S H locs ls h hP hD hS (lv_sub hl [1, 2, 3, 0] rfl)
  have B46 : ∀ (x1 : Int32) (x2 : Int32) (S : St) (H : Heap) (locs : List Loc) (ls : Array Slot), bX4_append_46 Q x1 x2 S → va_P g vwCl (wX ct ad n ro S) H → va_D A (wX ct ad n ro S) → va_S A s.heap H locs → lv_has ls 6 [(0, .ref (ad 1)), (1, .int x1), (2, .int x2)] → W p l e R s m args below meth c H locs 0 0 QQ (F0 m 46 ls []) := by
    intro x1 x2 S H locs ls h hP hD hS hl
    refine lv_iconst (v := 0) C.1 C.2.1 dX4_append_46 (by decide) ?_
    exact B47 x1 x2 (0 : Int32) S H locs ls h hP hD hS (lv_sub hl [0, 1, 2] rfl)
  refine lv_iload_n C.1 C.2.1 dX4_append_0 rfl (lv_at hl 1 rfl) ?_
  refine lv_if_lt (tgt := 16) C.1 C.2.1 dX4_append_1 (by decide) (fun c30 => ?_) (fun c30 => ?_)
  · have h := h.1 c30
    exact B16  S H locs ls h hP hD hS (lv_sub hl [0] rfl)
  · have h := h.2 c30
    refine lv_iload_n C.1 C.2.1 dX4_append_4 rfl (lv_at hl 1 rfl) ?_
    refine lv_iconst (v := 4) C.1 C.2.1 dX4_append_5 (by decide) ?_
    refine lv_icmp_ge (tgt := 16) C.1 C.2.1 dX4_append_6 (by decide) (fun c29 => ?_) (fun c29 => ?_)
    · have h := h.1 c29
      exact B16  S H locs ls h hP hD hS (lv_sub hl [0] rfl)
    · have h := h.2 c29
      refine lv_aload_n C.1 C.2.1 dX4_append_9 rfl (lv_at hl 0 rfl) ?_
      refine g_callViX (w := wX ct ad n ro) C hK hN hA hP hD hS (mX4_isDraftGood l g ct ad ak av n ro H.size S   _ h) sX_blind (sX_to hG hS (g_free hD hS hA)) (cwV 0 C.2.2.2.2 gX4_append_X4_isDraftGood rfl rfl rfl (by decide +kernel) ⟨Nat.le_trans (by decide) hRf, Nat.le_trans (by decide) hRl⟩) (va_recv hK hP (ci := 4) (q0 := 1) rfl rfl) rfl hl.1 rfl (Nat.le_of_ble_eq_true rfl) dX4_append_10 ⟨Nat.zero_le _, Nat.zero_le _⟩ (fun r23 S22 H locs h hP hD hS => ?_)
      refine lv_if_ne (tgt := 19) C.1 C.2.1 dX4_append_13 (by decide) (fun c28 => ?_) (fun c28 => ?_)
      · have h := h.1 c28
        refine lv_aload_n C.1 C.2.1 dX4_append_19 rfl (lv_at hl 0 rfl) ?_
        refine xg4_draft C hinX4 hK hP (by decide +kernel) dX4_append_20 ?_
        refine lv_iconst (v := 0) C.1 C.2.1 dX4_append_23 (by decide) ?_
        refine xa_4_draft C hK hP (j := 0) (by unfold vp_in; decide) (by decide) dX4_append_24 ?_
        refine lv_topi (fun y24 ey24 => ?_)
        have h := h y24 ey24
        refine lv_istore_n (lv' := [(2, .int y24), (0, .ref (ad 1)), (1, .int x1)]) C.1 C.2.1 dX4_append_25 rfl hl (by decide) rfl (fun ls hl => ?_)
        refine lv_iload_n C.1 C.2.1 dX4_append_26 rfl (lv_at hl 0 rfl) ?_
        refine g_callSN (host := "LitmusRunner") (w := wX ct ad n ro) C hK hN hA hP hD hS (mX6_isAccess l g (xT ct) S22 H.size y24 _ h) ⟨va_cnB 1 C.2.2.2.2 gX4_append_X6_isAccess_n44 rfl rfl rfl (hN (.methodLinkNest RX4 44 yX6_isAccess "LitmusRunner") (by decide +kernel)) (C.2.2.2.2 (.initialized RX6) (by decide +kernel)) (by decide +kernel) ⟨Nat.le_trans (by decide) hRf, Nat.le_trans (by decide) hRl⟩, C.2.2.2.2 (.static yX6_isAccess) (by decide +kernel), trivial⟩ rfl hl.1 rfl (Nat.le_of_ble_eq_true rfl) dX4_append_27 ⟨Nat.zero_le _, Nat.zero_le _⟩ (fun r25 H locs h hP hD hS => ?_)
        refine lv_if_eq (tgt := 46) C.1 C.2.1 dX4_append_30 (by decide) (fun c27 => ?_) (fun c27 => ?_)
        · have h := h.1 c27
          exact B46 x1 y24 S22 H locs ls h hP hD hS (lv_sub hl [1, 2, 0] rfl)
        · have h := h.2 c27
          refine lv_aload_n C.1 C.2.1 dX4_append_33 rfl (lv_at hl 1 rfl) ?_
          refine xg4_accesses C hinX4 hK hP (by decide +kernel) dX4_append_34 ?_
          refine lv_bipush (v := 6) C.1 C.2.1 dX4_append_37 (by decide) ?_
          refine lv_icmp_lt (tgt := 46) C.1 C.2.1 dX4_append_39 (by decide) (fun c26 => ?_) (fun c26 => ?_)
          · have h := h.1 c26
            exact B46 x1 y24 S22 H locs ls h hP hD hS (lv_sub hl [1, 2, 0] rfl)
          · have h := h.2 c26
            refine lv_iconst (v := 1) C.1 C.2.1 dX4_append_42 (by decide) ?_
            refine lv_goto (tgt := 47) C.1 C.2.1 dX4_append_43 (by decide) ?_
            exact B47 x1 y24 (1 : Int32) S22 H locs ls h hP hD hS (lv_sub hl [1, 2, 0] rfl)
      · have h := h.2 c28
        exact B16  S22 H locs ls h hP hD hS (lv_sub hl [0] rfl)
theorem mX4_append (l : Launch) (g : va_G) (ct : Nat → ClassId) (ad ak av : Nat → Nat) (n ro sz : Nat) (S : St) (x1 : Int32) (Q : Int32 → St → Prop) (h : pX4_append x1 S Q) : Met l yX4_append wsX4_append ({ frames := 5, cells := 0, slots := 0, locals := 143 }) (gPcX g (xT ct) (wX ct ad n ro S) sz (sX ak av) [.ref (ad 1), .int x1]) (va_Qi Q (gB g (xT ct) (wX ct ad n ro) (va_A (wX ct ad n ro S) sz)) (va_A (wX ct ad n ro S) sz)) 0 0 (va_A (wX ct ad n ro S) sz) :=
  g_metNX (w := wX ct ad n ro) (cc := cX4_append) (maxL := 6) (by decide) rfl rfl (Nat.le_of_ble_eq_true rfl) rfl (fun p e s m args below meth c QQ A C hK hN hG hA hret H locs ls hP hD hS hl => kX4_append C hK hN hG hA (Nat.le_refl _) (Nat.le_refl _) Q (fun pc r S H locs ls hdg hq hP hD hS => hret pc r S H locs ls hdg rfl hq hP hD hS) x1 S h H locs ls hP hD hS hl)

def bX6_add_37 (Q : Int32 → St → Prop) (x8 : Int32) (S : St) : Prop :=
  Q x8 S
def pX6_add (x1 : Int32) (x2 : Int32) (x3 : Int32) (x4 : Int32) (x5 : Int32) (x6 : Int32) (x7 : Int32) (S : St) (Q : Int32 → St → Prop) : Prop :=
  pX4_propose x2 x3 x4 x5 x6 x7 S (fun (S1 : St) => pX4_append x1 S1 (fun (r3 : Int32) (S2 : St) => ((r3 < 0 → bX6_add_37 Q r3 S2) ∧ (¬ (r3 < 0) → (∀ S4 : St, S4 = wr S2 2 0 (0 : Int32) → bX6_add_37 Q r3 S4)))))
set_option maxHeartbeats 40000000 in
set_option maxRecDepth 100000 in
theorem kX6_add {p : Program} {l : Launch} {e : Env} {R : Room} {s : State} {m : MethodId} {args : Array Value} {below : List Frame} {meth : Method} {c : Code} {QQ : State → Prop} {g : va_G} {ct : Nat → ClassId} {ad : Nat → Nat} {n ro : Nat} {ak av : Nat → Nat} {A : Nat → Prop} (C : CallFix p m c cX6_add 9 s args wsX6_add RX6) (hK : va_K g vwCl (xT ct) s) (hN : xN s) (hG : sG ak av A s s.heap) (hA : ∀ q, s.heap.size ≤ q → A q) (hRf : 6 ≤ R.frames) (hRl : 168 ≤ R.locals) (Q : Int32 → St → Prop) (hret : ∀ (pc : Nat) (r : Int32) (S : St) (H : Heap) (locs : List Loc) (ls : Array Slot), decode cX6_add pc = .ok (.ireturn, 1) → Q r S → va_P g vwCl (wX ct ad n ro S) H → va_D A (wX ct ad n ro S) → va_S A s.heap H locs → W p l e R s m args below meth c H locs 0 0 QQ (F0 m pc ls [.int r])) (x1 : Int32) (x2 : Int32) (x3 : Int32) (x4 : Int32) (x5 : Int32) (x6 : Int32) (x7 : Int32) (S : St) (h : pX6_add x1 x2 x3 x4 x5 x6 x7 S Q) (H : Heap) (locs : List Loc) (ls : Array Slot) (hP : va_P g vwCl (wX ct ad n ro S) H) (hD : va_D A (wX ct ad n ro S)) (hS : va_S A s.heap H locs) (hl : lv_has ls 9 [(0, .ref (ad 0)), (1, .int x1), (2, .int x2), (3, .int x3), (4, .int x4), (5, .int x5), (6, .int x6), (7, .int x7)]) : W p l e R s m args below meth c H locs 0 0 QQ (F0 m 0 ls []) := by
  have hinX6 : ∀ w ∈ wsX60, w ∈ wsX6_add := by decide +kernel
  have B37 : ∀ (x8 : Int32) (S : St) (H : Heap) (locs : List Loc) (ls : Array Slot), bX6_add_37 Q x8 S → va_P g vwCl (wX ct ad n ro S) H → va_D A (wX ct ad n ro S) → va_S A s.heap H locs → lv_has ls 9 [(0, .ref (ad 0)), (8, .int x8)] → W p l e R s m args below meth c H locs 0 0 QQ (F0 m 37 ls []) := by
    intro x8 S H locs ls h hP hD hS hl
    refine lv_iload C.1 C.2.1 dX6_add_37 (lv_at hl 1 rfl) ?_
    exact hret _ _ _ _ _ _ dX6_add_39 h hP hD hS
  refine lv_aload_n C.1 C.2.1 dX6_add_0 rfl (lv_at hl 0 rfl) ?_
  refine xg6_programs C hinX6 hK hP (by decide +kernel) dX6_add_1 ?_
  refine lv_iload_n C.1 C.2.1 dX6_add_4 rfl (lv_at hl 2 rfl) ?_
  refine lv_iload_n C.1 C.2.1 dX6_add_5 rfl (lv_at hl 3 rfl) ?_
  refine lv_iload C.1 C.2.1 dX6_add_6 (lv_at hl 4 rfl) ?_
  refine lv_iload C.1 C.2.1 dX6_add_8 (lv_at hl 5 rfl) ?_
  refine lv_iload C.1 C.2.1 dX6_add_10 (lv_at hl 6 rfl) ?_
  refine lv_iload C.1 C.2.1 dX6_add_12 (lv_at hl 7 rfl) ?_
  refine g_callVv (w := wX ct ad n ro) C hK hN hA hP hD hS (mX4_propose l g ct ad n ro H.size S x2 x3 x4 x5 x6 x7  _ h) (cwV 6 C.2.2.2.2 gX6_add_X4_propose rfl rfl rfl (by decide +kernel) ⟨Nat.le_trans (by decide) hRf, Nat.le_trans (by decide) hRl⟩) (va_recv hK hP (ci := 4) (q0 := 1) rfl rfl) rfl hl.1 rfl (Nat.le_of_ble_eq_true rfl) dX6_add_14 ⟨Nat.zero_le _, Nat.zero_le _⟩ (fun S1 H locs h hP hD hS => ?_)
  refine lv_aload_n C.1 C.2.1 dX6_add_17 rfl (lv_at hl 0 rfl) ?_
  refine xg6_programs C hinX6 hK hP (by decide +kernel) dX6_add_18 ?_
  refine lv_iload_n C.1 C.2.1 dX6_add_21 rfl (lv_at hl 1 rfl) ?_
  refine g_callViX (w := wX ct ad n ro) C hK hN hA hP hD hS (mX4_append l g ct ad ak av n ro H.size S1 x1  _ h) sX_blind (sX_to hG hS (g_free hD hS hA)) (cwV 1 C.2.2.2.2 gX6_add_X4_append rfl rfl rfl (by decide +kernel) ⟨Nat.le_trans (by decide) hRf, Nat.le_trans (by decide) hRl⟩) (va_recv hK hP (ci := 4) (q0 := 1) rfl rfl) rfl hl.1 rfl (Nat.le_of_ble_eq_true rfl) dX6_add_22 ⟨Nat.zero_le _, Nat.zero_le _⟩ (fun r3 S2 H locs h hP hD hS => ?_)
  refine lv_istore (lv' := [(8, .int r3), (0, .ref (ad 0)), (1, .int x1), (2, .int x2), (3, .int x3), (4, .int x4), (5, .int x5), (6, .int x6), (7, .int x7)]) C.1 C.2.1 dX6_add_25 hl (by decide) rfl (fun ls hl => ?_)
  refine lv_iload C.1 C.2.1 dX6_add_27 (lv_at hl 0 rfl) ?_
  refine lv_if_lt (tgt := 37) C.1 C.2.1 dX6_add_29 (by decide) (fun c5 => ?_) (fun c5 => ?_)
  · have h := h.1 c5
    exact B37 r3 S2 H locs ls h hP hD hS (lv_sub hl [1, 0] rfl)
  · have h := h.2 c5
    refine lv_aload_n C.1 C.2.1 dX6_add_32 rfl (lv_at hl 1 rfl) ?_
    refine lv_iconst (v := 0) C.1 C.2.1 dX6_add_33 (by decide) ?_
    obtain ⟨S4, eS4⟩ : ∃ z : St, z = wr S2 2 0 (0 : Int32) := ⟨_, rfl⟩
    have h := h S4 eS4
    refine xp6_found C hinX6 hK hP hD hS (by decide +kernel) zb_0 dX6_add_34 (fun H locs hP hD hS => ?_)
    rw [← eS4] at hP hD
    exact B37 r3 S4 H locs ls h hP hD hS (lv_sub hl [1, 0] rfl)
theorem mX6_add (l : Launch) (g : va_G) (ct : Nat → ClassId) (ad ak av : Nat → Nat) (n ro sz : Nat) (S : St) (x1 : Int32) (x2 : Int32) (x3 : Int32) (x4 : Int32) (x5 : Int32) (x6 : Int32) (x7 : Int32) (Q : Int32 → St → Prop) (h : pX6_add x1 x2 x3 x4 x5 x6 x7 S Q) : Met l yX6_add wsX6_add ({ frames := 6, cells := 0, slots := 0, locals := 168 }) (gPcX g (xT ct) (wX ct ad n ro S) sz (sX ak av) [.ref (ad 0), .int x1, .int x2, .int x3, .int x4, .int x5, .int x6, .int x7]) (va_Qi Q (gB g (xT ct) (wX ct ad n ro) (va_A (wX ct ad n ro S) sz)) (va_A (wX ct ad n ro S) sz)) 0 0 (va_A (wX ct ad n ro S) sz) :=
  g_metNX (w := wX ct ad n ro) (cc := cX6_add) (maxL := 9) (by decide) rfl rfl (Nat.le_of_ble_eq_true rfl) rfl (fun p e s m args below meth c QQ A C hK hN hG hA hret H locs ls hP hD hS hl => kX6_add C hK hN hG hA (Nat.le_refl _) (Nat.le_refl _) Q (fun pc r S H locs ls hdg hq hP hD hS => hret pc r S H locs ls hdg rfl hq hP hD hS) x1 x2 x3 x4 x5 x6 x7 S h H locs ls hP hD hS hl)
