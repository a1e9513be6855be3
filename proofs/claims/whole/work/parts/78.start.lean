/-! the law's entry (written by wip/gen/start.py) -/
theorem va_P_2 {D : va_G} {cl : List vw_C} {w1 w2 : va_W} {H : Heap} (h : va_P D cl (w1 ++ w2) H) : va_P D cl w1 H ∧ va_P D cl w2 H := by
  refine ⟨fun k q hk => h k q ?_, fun k q hk => h (w1.length + k) q ?_⟩
  · rw [List.getElem?_append_left (List.getElem?_eq_some_iff.mp hk).1]; exact hk
  · rw [List.getElem?_append_right (Nat.le_add_right _ _), Nat.add_sub_cancel_left]; exact hk
theorem va_D_2 {A : Nat → Prop} {w1 w2 : va_W} (h : va_D A (w1 ++ w2)) : va_D A w1 ∧ va_D A w2 ∧ apart w1 w2 := by
  have l1 : ∀ (k : Nat) (q : Nat × va_E), w1[k]? = some q → (w1 ++ w2)[k]? = some q := fun k q hk => by
    rw [List.getElem?_append_left (List.getElem?_eq_some_iff.mp hk).1]; exact hk
  have l2 : ∀ (k : Nat) (q : Nat × va_E), w2[k]? = some q → (w1 ++ w2)[w1.length + k]? = some q := fun k q hk => by
    rw [List.getElem?_append_right (Nat.le_add_right _ _), Nat.add_sub_cancel_left]; exact hk
  refine ⟨⟨fun i j p q hp hq e => h.1 i j p q (l1 i p hp) (l1 j q hq) e, fun k q hk => h.2 k q (l1 k q hk)⟩, ⟨fun i j p q hp hq e => by have := h.1 _ _ p q (l2 i p hp) (l2 j q hq) e; omega, fun k q hk => h.2 _ q (l2 k q hk)⟩, fun i j p q hp hq e => ?_⟩
  have := h.1 _ _ p q (l1 i p hp) (l2 j q hq) e
  have := (List.getElem?_eq_some_iff.mp hp).1
  omega
theorem z_OKA : OKA 0 (fun _ _ _ => 0) (fun _ => 0) := OKA_0 (by decide)
theorem z_XI : XI 0 (fun _ _ _ => 0) (fun _ => 0) false 64 S00 :=
  ⟨nI_0.symm, ⟨fun _ _ => ⟨nI_0.symm, Nat.zero_le _⟩, fun h _ i hi => absurd hi (Nat.not_lt_zero _), z_OKA.2.1.2.2⟩, nI_0.symm, nI_0.symm, rfl, ⟨0, by decide, rfl⟩, fun q => by cases q⟩
theorem z_MI : MI 0 (fun _ _ _ => 0) (fun _ => 0) false S00 :=
  ⟨nI_0.symm, ⟨fun _ _ => ⟨nI_0.symm, Nat.zero_le _⟩, fun h _ i hi => absurd hi (Nat.not_lt_zero _), z_OKA.2.1.2.2⟩, rfl, fun q => by cases q⟩
set_option maxHeartbeats 8000000 in
set_option maxRecDepth 100000 in
theorem whole_start {p : Program} {e : Env} {s : State} {m : MethodId} {below : List Frame} {meth : Method} {c : Code} (l : Launch) {b L : Nat} {xs : Nat → Int32} (hL : L ≤ 4096) (C0 : lw_At p s m meth c b L xs) : W p l e room_1 s m #[Value.ref b] below meth c s.heap [] 0 0 (lw_Z below #[Value.ref b] s) (entryFrame m ([Value.ref b] : List Value).toArray 4) := by
  obtain ⟨hx, hb, hr, hml, hown, hts, hX, hbl, hlocks, hgv⟩ := id C0
  obtain ⟨g, ct, hKx, hKm, hO, hI⟩ := l_K C0
  have hN := l_xN C0
  obtain ⟨ak, av, hG⟩ := l_sG C0
  have C : CallFix p m c cL_law 4 s #[Value.ref b] wsL_law RL := ⟨hx, hb, hml, hown, fun w h => hts w (wsL_law_in w h)⟩
  have hA : ∀ q : Nat, s.heap.size ≤ q → (fun q : Nat => s.heap.size ≤ q) q := fun _ h => h
  have hS : va_S (fun q : Nat => s.heap.size ≤ q) s.heap s.heap [] := va_S.rf
  have hP : va_P g vwCl [] s.heap := fun k q h => absurd h (by simp)
  have hD : va_D (fun q : Nat => s.heap.size ≤ q) [] := ⟨fun i j p q h => absurd h (by simp), fun k q h => absurd h (by simp)⟩
  have hl := lv_entry ([.ref b]) (n := 4) (Nat.le_of_ble_eq_true rfl)
  rw [lg_entry_eq]
  generalize (lg_sl ([.ref b]) ++ List.replicate (4 - (lg_sl ([.ref b])).length) Slot.unset).toArray = ls at hl ⊢
  have hl : lv_has ls 4 [(0, .ref b)] := hl
  refine va_new (ci := 6) (fs := [.null, .null, .null, .null, .null, .int 0, .int 0, .int 0]) (C := RX6) (T := TX6) (N := 8) C.1 C.2.1 C.2.2.2.2 inlX6 tyX6 tyX6_ok C.2.2.2.1 (C.2.2.2.2 (.classLink RL 7 RX6) (by decide +kernel)) (C.2.2.2.2 (.instantiable RX6 8) (by decide +kernel)) (C.2.2.2.2 (.initialized RX6) (by decide +kernel)) hKx hP hD hS hA rfl (fun j hj => by rcases (show j = 0 ∨ j = 1 ∨ j = 2 ∨ j = 3 ∨ j = 4 ∨ j = 5 ∨ j = 6 ∨ j = 7 by omega) with rfl | rfl | rfl | rfl | rfl | rfl | rfl | rfl <;> rfl) (Nat.le_of_ble_eq_true rfl) (Nat.le_of_ble_eq_true rfl) dL_law_0 (fun q6 H hP hD hS => ?_)
  refine lv_dup C.1 C.2.1 dL_law_3 rfl ?_
  refine g_callC (wc := [(q6, .inr (6, [.null, .null, .null, .null, .null, .int 0, .int 0, .int 0]))]) (wr := []) C hKx hN hO hI hA hP hD hS [0] [] rfl rfl (by decide) (by decide) (by decide) (mX6_init l g ct q6 H.size) (cwI 0 C.2.2.2.2 gL_law_X6_init rfl rfl rfl (C.2.2.2.2 (.initialized RX6) (by decide +kernel)) (C.2.2.2.2 (.methodLink RL 9 yX6_init) (by decide +kernel)) (C.2.2.2.2 (.instanceMethod yX6_init) (by decide +kernel)) rfl (by decide +kernel) ⟨(Nat.le_of_ble_eq_true rfl), (Nat.le_of_ble_eq_true rfl)⟩) rfl hl.1 rfl (Nat.le_of_ble_eq_true rfl) dL_law_4 ⟨(Nat.le_of_ble_eq_true rfl), (Nat.le_of_ble_eq_true rfl)⟩ (fun ad H locs had hP hD hS => ?_)
  have hP : va_P g vwCl (wX ct ad 64 (ad 17) S00) H := hP
  have hD : va_D (fun q : Nat => s.heap.size ≤ q) (wX ct ad 64 (ad 17) S00) := hD
  refine lv_astore_n (lv' := [(1, .ref q6), (0, .ref b)]) C.1 C.2.1 dL_law_7 rfl hl (by decide) rfl (fun ls hl => ?_)
  refine va_new (ci := 7) (fs := [.int 0, .null, .null, .int 0, .null, .int 0, .int 0, .null, .null, .int 0, .int 0, .null, .null, .int 0, .null, .null, .null, .null, .null, .null, .null, .null, .null, .null, .int 0, .null, .null, .null, .null, .null, .null, .null, .null, .int 0, .int 0]) (C := RX7) (T := TX7) (N := 35) C.1 C.2.1 C.2.2.2.2 inlX7 tyX7 tyX7_ok C.2.2.2.1 (C.2.2.2.2 (.classLink RL 10 RX7) (by decide +kernel)) (C.2.2.2.2 (.instantiable RX7 35) (by decide +kernel)) (C.2.2.2.2 (.initialized RX7) (by decide +kernel)) hKm hP hD hS hA rfl (fun j hj => by rcases (show j = 0 ∨ j = 1 ∨ j = 2 ∨ j = 3 ∨ j = 4 ∨ j = 5 ∨ j = 6 ∨ j = 7 ∨ j = 8 ∨ j = 9 ∨ j = 10 ∨ j = 11 ∨ j = 12 ∨ j = 13 ∨ j = 14 ∨ j = 15 ∨ j = 16 ∨ j = 17 ∨ j = 18 ∨ j = 19 ∨ j = 20 ∨ j = 21 ∨ j = 22 ∨ j = 23 ∨ j = 24 ∨ j = 25 ∨ j = 26 ∨ j = 27 ∨ j = 28 ∨ j = 29 ∨ j = 30 ∨ j = 31 ∨ j = 32 ∨ j = 33 ∨ j = 34 by omega) with rfl | rfl | rfl | rfl | rfl | rfl | rfl | rfl | rfl | rfl | rfl | rfl | rfl | rfl | rfl | rfl | rfl | rfl | rfl | rfl | rfl | rfl | rfl | rfl | rfl | rfl | rfl | rfl | rfl | rfl | rfl | rfl | rfl | rfl | rfl <;> rfl) (Nat.le_of_ble_eq_true rfl) (Nat.le_of_ble_eq_true rfl) dL_law_8 (fun q7 H hP hD hS => ?_)
  refine lv_dup C.1 C.2.1 dL_law_11 rfl ?_
  refine g_callC (wc := [(q7, .inr (7, [.int 0, .null, .null, .int 0, .null, .int 0, .int 0, .null, .null, .int 0, .int 0, .null, .null, .int 0, .null, .null, .null, .null, .null, .null, .null, .null, .null, .null, .int 0, .null, .null, .null, .null, .null, .null, .null, .null, .int 0, .int 0]))]) (wr := wX ct ad 64 (ad 17) S00) C hKm hN hO hI hA hP hD hS [48] [0, 1, 2, 3, 4, 5, 6, 7, 8, 9, 10, 11, 12, 13, 14, 15, 16, 17, 18, 19, 20, 21, 22, 23, 24, 25, 26, 27, 28, 29, 30, 31, 32, 33, 34, 35, 36, 37, 38, 39, 40, 41, 42, 43, 44, 45, 46, 47] rfl rfl (by decide) (by decide) (by decide) (mX7_init l g ct q7 H.size) (cwI 0 C.2.2.2.2 gL_law_X7_init rfl rfl rfl (C.2.2.2.2 (.initialized RX7) (by decide +kernel)) (C.2.2.2.2 (.methodLink RL 12 yX7_init) (by decide +kernel)) (C.2.2.2.2 (.instanceMethod yX7_init) (by decide +kernel)) rfl (by decide +kernel) ⟨(Nat.le_of_ble_eq_true rfl), (Nat.le_of_ble_eq_true rfl)⟩) rfl hl.1 rfl (Nat.le_of_ble_eq_true rfl) dL_law_12 ⟨(Nat.le_of_ble_eq_true rfl), (Nat.le_of_ble_eq_true rfl)⟩ (fun u H locs hu hP hD hS => ?_)
  obtain ⟨bd, ebd⟩ : ∃ bd : Nat → Nat, bd = fun k => if k = 0 then q7 else u (k - 1) := ⟨_, rfl⟩
  have eM : wM ct bd S00 = [(q7, .inr (7, [.int 0, .ref (u 0), .ref (u 1), .int 0, .ref (u 2), .int 0, .int 0, .ref (u 3), .ref (u 4), .int 0, .int 0, .ref (u 5), .ref (u 6), .int 0, .ref (u 7), .ref (u 8), .ref (u 9), .ref (u 10), .ref (u 11), .ref (u 12), .ref (u 13), .ref (u 14), .ref (u 15), .ref (u 16), .int 0, .ref (u 17), .ref (u 18), .ref (u 19), .ref (u 20), .ref (u 21), .ref (u 22), .ref (u 23), .ref (u 24), .int 0, .int 0])), ((u 0), .inl (ct 0, 144, .inl (fun _ => 0))), ((u 1), .inl (ct 0, 4, .inl (fun _ => 0))), ((u 2), .inl (ct 1, 40000, .inr (.inl (fun _ => 0)))), ((u 3), .inl (ct 0, 64, .inl (fun _ => 0))), ((u 4), .inl (ct 0, 64, .inl (fun _ => 0))), ((u 5), .inl (ct 0, 16, .inl (fun _ => 0))), ((u 6), .inl (ct 0, 16, .inl (fun _ => 0))), ((u 7), .inl (ct 0, 6, .inl (fun _ => 0))), ((u 8), .inl (ct 0, 6, .inl (fun _ => 0))), ((u 9), .inl (ct 0, 6, .inl (fun _ => 0))), ((u 10), .inl (ct 0, 6, .inl (fun _ => 0))), ((u 11), .inl (ct 0, 6, .inl (fun _ => 0))), ((u 12), .inl (ct 0, 6, .inl (fun _ => 0))), ((u 13), .inl (ct 0, 6, .inl (fun _ => 0))), ((u 14), .inl (ct 0, 6, .inl (fun _ => 0))), ((u 15), .inl (ct 0, 6, .inl (fun _ => 0))), ((u 16), .inl (ct 0, 6, .inl (fun _ => 0))), ((u 17), .inl (ct 0, 24, .inl (fun _ => 0))), ((u 18), .inl (ct 0, 24, .inl (fun _ => 0))), ((u 19), .inl (ct 0, 24, .inl (fun _ => 0))), ((u 20), .inl (ct 0, 24, .inl (fun _ => 0))), ((u 21), .inl (ct 4, 36, .inl (fun _ => 0))), ((u 22), .inl (ct 0, 6, .inl (fun _ => 0))), ((u 23), .inl (ct 0, 6, .inl (fun _ => 0))), ((u 24), .inl (ct 0, 6, .inl (fun _ => 0)))] := by rw [ebd]; rfl
  obtain ⟨hPx, hPm⟩ := va_P_2 hP
  obtain ⟨hDx, hDm, hap⟩ := va_D_2 hD
  have hPm : va_P g vwCl (wM ct bd S00) H := by rw [eM]; exact hPm
  have hDm : va_D (fun q : Nat => s.heap.size ≤ q) (wM ct bd S00) := by rw [eM]; exact hDm
  have hap : apart (wX ct ad 64 (ad 17) S00) (wM ct bd S00) := by rw [eM]; exact hap
  refine lv_astore_n (lv' := [(2, .ref q7), (1, .ref q6), (0, .ref b)]) C.1 C.2.1 dL_law_15 rfl hl (by decide) rfl (fun ls hl => ?_)
  refine lv_iconst (v := 0) C.1 C.2.1 dL_law_16 (by decide) ?_
  refine lv_istore_n (lv' := [(3, .int 0), (2, .ref q7), (1, .ref q6), (0, .ref b)]) C.1 C.2.1 dL_law_17 rfl hl (by decide) rfl (fun ls hl => ?_)
  have eb : q7 = bd 0 := by rw [ebd]; rfl
  rw [← had, eb, ← nI_0] at hl
  refine W.widen (k := 64 + 10) (n := 2 * 64 + 40856) (Nat.le_of_ble_eq_true rfl) (Nat.le_of_ble_eq_true rfl) ?_
  exact law_loop hL C0 hKx hKm hN hG (L + 1) 0 (Nat.zero_le _) (by omega) 0 (fun _ _ _ => 0) (fun _ => 0) false 64 (ad 17) S00 S00 H locs ls ⟨z_OKA, z_XI, z_MI, hPx, hPm, hDx, hDm, hap, hS⟩ (lv_sub hl [3, 2, 1, 0] rfl)
