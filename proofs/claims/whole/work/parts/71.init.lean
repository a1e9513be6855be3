/-! constructors: Access, Programs -/
theorem arrV_ext {cA : ClassId} {N : Nat} {f h : Nat → Value} (e : ∀ j, j < N → f j = h j) : arrV cA N f = arrV cA N h := by
  unfold arrV
  congr 2
  funext j
  exact e j.val j.isLt
set_option maxHeartbeats 4000000 in
theorem mX0_init (l : Launch) (g : va_G) (ct : Nat → ClassId) (a0 : Nat) (sz : Nat) : Met l yX0_init wsX0_init ({ frames := 1, cells := 0, slots := 0, locals := 12 }) (gPcX g (xT ct) [] sz cX [.ref a0]) (va_Qv (fun _ : Unit => True) (gN g (xT ct) (fun _ => []) (va_A [] sz)) (va_A [] sz)) 0 0 (va_A [] sz) := by
  refine g_metC (cc := cX0_init) (maxL := 1) (own := RX0) rfl rfl (by decide) rfl rfl (Nat.le_of_ble_eq_true rfl) (lv := [(0, .ref a0)]) rfl ?_
  intro p e s m args below meth c QQ A C hK hN hO hI hin hA hret H locs ls hP hD hS hl
  refine lv_aload_n C.1 C.2.1 dX0_init_0 rfl (lv_at hl 0 rfl) ?_
  refine W.objInit C.1 C.2.1 C.2.2.2.1 (C.2.2.2.2 (.methodLink RX0 1 objectInit) (by decide +kernel)) (C.2.2.2.2 (.instanceMethod objectInit) (by decide +kernel)) (C.2.2.2.2 _ (List.mem_cons_of_mem _ (List.mem_of_getElem? (i := 2) rfl))) rfl (by rw [C.2.2.1]; exact hl.1) rfl dX0_init_1 (Nat.le_of_ble_eq_true rfl) (Nat.le_of_ble_eq_true rfl) ?_
  refine W.eq (g2 := F0 m 4 ls []) rfl ?_
  exact hret 4 () H locs ls _ _ dX0_init_4 trivial hP hD hS (Nat.le_refl _) (Nat.le_refl _)
/-- the rows of programs -/
def prW (cI : ClassId) (q : Nat) : va_W := (List.range 24).map (fun r => (q + 1 + r, .inl (cI, 6, .inl (fun _ => 0))))
theorem prW_at {cI : ClassId} {q k : Nat} {x : Nat × va_E} (h : (prW cI q)[k]? = some x) : k < 24 ∧ x = (q + 1 + k, .inl (cI, 6, .inl (fun _ => 0))) := by
  unfold prW at h
  rw [List.getElem?_map] at h
  by_cases hk : k < 24
  · rw [List.getElem?_range hk] at h
    exact ⟨hk, (Option.some.inj h).symm⟩
  · rw [List.getElem?_eq_none (by rw [List.length_range]; omega)] at h
    cases h
set_option maxHeartbeats 4000000 in
set_option maxRecDepth 100000 in
theorem mX4_init (l : Launch) (g : va_G) (ct : Nat → ClassId) (a0 : Nat) (sz : Nat) : Met l yX4_init wsX4_init ({ frames := 1, cells := 27, slots := 178, locals := 12 }) (gPcX g (xT ct) [(a0, .inr (4, [.null, .null, .null, .int 0, .int 0]))] sz cX [.ref a0]) (va_Qv (fun _ : Nat → Nat => True) (gN g (xT ct) (fun u => [(a0, .inr (4, [.ref (u 0), .ref (u 1), .ref (u 2), .int 0, .int 0])), (u 0, .inl (ct 3, 24, .inr (.inr (.inr (.inr (fun r => some (u 0 + 1 + r))))))), (u 1, .inl (ct 0, 4, .inl (fun _ => 0))), (u 2, .inl (ct 0, 6, .inl (fun _ => 0)))] ++ prW (ct 0) (u 0)) (va_A [(a0, .inr (4, [.null, .null, .null, .int 0, .int 0]))] sz)) (va_A [(a0, .inr (4, [.null, .null, .null, .int 0, .int 0]))] sz)) 27 178 (va_A [(a0, .inr (4, [.null, .null, .null, .int 0, .int 0]))] sz) := by
  refine g_metC (cc := cX4_init) (maxL := 1) (own := RX4) rfl rfl (by decide) rfl rfl (Nat.le_of_ble_eq_true rfl) (lv := [(0, .ref a0)]) rfl ?_
  intro p e s m args below meth c QQ A C hK hN hO hI hin hA hret H locs ls hP hD hS hl
  have hinF : ∀ w ∈ wsX40, w ∈ wsX4_init := by decide +kernel
  have k0 : s.vm.findClass "[I" = some (ct 0) := (hK.2 0 (ct 0, .int) rfl).2
  have k3 : s.vm.findClass "[[I" = some (ct 3) := by
    have := (hK.2 3 (ct 3, .array .int) rfl).2
    have e3 : "[" ++ (FieldType.array FieldType.int).toString = "[[I" := by decide +kernel
    have this : s.vm.findClass ("[" ++ (FieldType.array FieldType.int).toString) = some (ct 3) := this
    rw [e3] at this
    exact this
  refine lv_aload_n C.1 C.2.1 dX4_init_0 rfl (lv_at hl 0 rfl) ?_
  refine W.objInit C.1 C.2.1 C.2.2.2.1 (C.2.2.2.2 (.methodLink RX4 3 objectInit) (by decide +kernel)) (C.2.2.2.2 (.instanceMethod objectInit) (by decide +kernel)) (C.2.2.2.2 _ (List.mem_cons_of_mem _ (List.mem_append_left _ (List.mem_of_getElem? (i := 2) rfl)))) rfl (by rw [C.2.2.1]; exact hl.1) rfl dX4_init_1 (Nat.le_of_ble_eq_true rfl) (Nat.le_of_ble_eq_true rfl) ?_
  refine W.eq (g2 := F0 m 4 ls []) rfl ?_
  refine lv_aload_n C.1 C.2.1 dX4_init_4 rfl (lv_at hl 0 rfl) ?_
  refine lv_bipush (v := 24) C.1 C.2.1 dX4_init_5 (by decide) ?_
  refine lv_bipush (v := 6) C.1 C.2.1 dX4_init_7 (by decide) ?_
  refine w_mna (N := 24) (M := 6) C.1 C.2.1 C.2.2.2.1 (C.2.2.2.2 (.classLink RX4 9 "[[I") (by decide +kernel)) hI (C.2.2.2.2 (.arrayClass .int) (by decide +kernel)) (by decide) (by decide) rfl rfl (by decide) (by decide) (by decide) (Nat.le_of_ble_eq_true rfl) (Nat.le_of_ble_eq_true rfl) dX4_init_9 (fun cA cC H1 fA fC hAr z1 e1 r1 o1 => ?_)
  cases k3.symm.trans fA
  cases k0.symm.trans fC
  have hq : a0 < H.size := (hP 0 _ rfl).lt
  obtain ⟨q0, eq0⟩ : ∃ q, q = H.size := ⟨_, rfl⟩
  rw [← eq0] at e1 r1 z1
  have hP1 : va_P g vwCl ([(a0, .inr (4, [.null, .null, .null, .int 0, .int 0])), (q0, .inl (ct 3, 24, .inr (.inr (.inr (.inr (fun r => some (q0 + 1 + r)))))))] ++ prW (ct 0) q0) H1 := by
    refine va_P.app (va_P.app (w1 := [(a0, .inr (4, [.null, .null, .null, .int 0, .int 0]))]) (w2 := [(q0, .inl (ct 3, 24, .inr (.inr (.inr (.inr (fun r => some (q0 + 1 + r)))))))]) (hP.kept (fun k x hx => o1 x.1 ((hP k x hx).lt))) (fun k x hx => ?_)) (fun k x hx => ?_)
    · have h0 : k < 1 := (List.getElem?_eq_some_iff.mp hx).1
      rw [show k = 0 by omega] at hx
      cases hx
      show H1[q0]? = some (vp_cell _ _)
      rw [e1, vp_cell_q]
      unfold mnO
      exact congrArg some (arrV_ext (fun j hj => by rw [if_pos hj]))
    · obtain ⟨hk, rfl⟩ := prW_at hx
      show H1[q0 + 1 + k]? = some (vp_cell _ _)
      rw [r1 k hk]; rfl
  have hD1 : va_D A ([(a0, .inr (4, [.null, .null, .null, .int 0, .int 0])), (q0, .inl (ct 3, 24, .inr (.inr (.inr (.inr (fun r => some (q0 + 1 + r)))))))] ++ prW (ct 0) q0) := by
    have hAq : ∀ x, q0 ≤ x → A x := fun x hx => hA x (by have := hS.1; omega)
    refine va_D.app (hD.push hP eq0 (hAq _ (Nat.le_refl _))) ⟨fun i j x y hx hy exy => ?_, fun k x hx => ?_⟩ (fun i j x y hx hy exy => ?_)
    · obtain ⟨-, rfl⟩ := prW_at hx
      obtain ⟨-, rfl⟩ := prW_at hy
      have : q0 + 1 + i = q0 + 1 + j := exy
      omega
    · obtain ⟨-, rfl⟩ := prW_at hx
      exact hAq _ (by show q0 ≤ q0 + 1 + k; omega)
    · obtain ⟨-, rfl⟩ := prW_at hy
      have h0 : i < 2 := (List.getElem?_eq_some_iff.mp hx).1
      rcases (show i = 0 ∨ i = 1 by omega) with rfl | rfl
      · cases hx
        have : a0 = q0 + 1 + j := exy
        omega
      · cases hx
        have : q0 = q0 + 1 + j := exy
        omega
  have hS1 : va_S A s.heap H1 (locs ++ (List.range 24).map fun j => ⟨H.size, j⟩) := by
    refine ⟨by have := hS.1; omega, fun q h1 h2 => (o1 q (Nat.lt_of_lt_of_le h1 hS.1)).trans (hS.2.1 q h1 h2), fun x hx => ?_⟩
    rcases List.mem_append.mp hx with h | h
    · exact hS.2.2 x h
    · obtain ⟨j, -, rfl⟩ := List.mem_map.mp h
      exact hA _ hS.1
  rw [← eq0]
  rw [← eq0] at hS1
  generalize (locs ++ (List.range 24).map fun j => (⟨q0, j⟩ : Loc)) = locs1 at hS1 ⊢
  refine va_putF (D := g) (ci := 4) (v := .ref q0) (ty := (.array (.array .int))) (C := RX4) (T := TX4) (N := 5) C.1 C.2.1 C.2.2.2.2 hinF tyX4 tyX4_ok nmX4 C.2.2.2.1 hK hP1 hD1 hS1 0 rfl rfl 0 (by decide) (C.2.2.2.2 (.fieldLink RX4 11 "LitmusRunner$Programs" "rows" "[[I") (by decide +kernel)) (fun _ h9 => h9) rfl hin rfl (by decide +kernel) rfl rfl (Nat.le_of_ble_eq_true rfl) dX4_init_13 (fun H locs hP hD hS => ?_)
  have hP : va_P g vwCl ([(a0, .inr (4, [.ref q0, .null, .null, .int 0, .int 0])), (q0, .inl (ct 3, 24, .inr (.inr (.inr (.inr (fun r => some (q0 + 1 + r)))))))] ++ prW (ct 0) q0) H := hP
  have hD : va_D A ([(a0, .inr (4, [.ref q0, .null, .null, .int 0, .int 0])), (q0, .inl (ct 3, 24, .inr (.inr (.inr (.inr (fun r => some (q0 + 1 + r)))))))] ++ prW (ct 0) q0) := hD
  refine lv_aload_n C.1 C.2.1 dX4_init_16 rfl (lv_at hl 0 rfl) ?_
  refine lv_iconst (v := 4) C.1 C.2.1 dX4_init_17 (by decide) ?_
  refine g_newT (atype := .int) (a0 := (4, .inl (fun _ => 0))) C (by decide +kernel) rfl (fun _ q => by cases q) hK 0 rfl hP hD hS hA (fun _ => rfl) (by decide) rfl (by decide) (Nat.le_of_ble_eq_true rfl) (Nat.le_of_ble_eq_true rfl) dX4_init_18 (fun q1 H hP hD hS => ?_)
  have hP : va_P g vwCl ([(a0, .inr (4, [.ref q0, .null, .null, .int 0, .int 0])), (q0, .inl (ct 3, 24, .inr (.inr (.inr (.inr (fun r => some (q0 + 1 + r))))))), (q1, .inl (ct 0, 4, .inl (fun _ => 0)))] ++ prW (ct 0) q0) H := hP.swap
  have hD : va_D A ([(a0, .inr (4, [.ref q0, .null, .null, .int 0, .int 0])), (q0, .inl (ct 3, 24, .inr (.inr (.inr (.inr (fun r => some (q0 + 1 + r))))))), (q1, .inl (ct 0, 4, .inl (fun _ => 0)))] ++ prW (ct 0) q0) := hD.swap
  refine va_putF (D := g) (ci := 4) (v := .ref q1) (ty := (.array .int)) (C := RX4) (T := TX4) (N := 5) C.1 C.2.1 C.2.2.2.2 hinF tyX4 tyX4_ok nmX4 C.2.2.2.1 hK hP hD hS 0 rfl rfl 1 (by decide) (C.2.2.2.2 (.fieldLink RX4 16 "LitmusRunner$Programs" "lengths" "[I") (by decide +kernel)) (fun _ h9 => h9) rfl hin rfl (by decide +kernel) rfl rfl (Nat.le_of_ble_eq_true rfl) dX4_init_20 (fun H locs hP hD hS => ?_)
  have hP : va_P g vwCl ([(a0, .inr (4, [.ref q0, .ref q1, .null, .int 0, .int 0])), (q0, .inl (ct 3, 24, .inr (.inr (.inr (.inr (fun r => some (q0 + 1 + r))))))), (q1, .inl (ct 0, 4, .inl (fun _ => 0)))] ++ prW (ct 0) q0) H := hP
  have hD : va_D A ([(a0, .inr (4, [.ref q0, .ref q1, .null, .int 0, .int 0])), (q0, .inl (ct 3, 24, .inr (.inr (.inr (.inr (fun r => some (q0 + 1 + r))))))), (q1, .inl (ct 0, 4, .inl (fun _ => 0)))] ++ prW (ct 0) q0) := hD
  refine lv_aload_n C.1 C.2.1 dX4_init_23 rfl (lv_at hl 0 rfl) ?_
  refine lv_bipush (v := 6) C.1 C.2.1 dX4_init_24 (by decide) ?_
  refine g_newT (atype := .int) (a0 := (6, .inl (fun _ => 0))) C (by decide +kernel) rfl (fun _ q => by cases q) hK 0 rfl hP hD hS hA (fun _ => rfl) (by decide) rfl (by decide) (Nat.le_of_ble_eq_true rfl) (Nat.le_of_ble_eq_true rfl) dX4_init_26 (fun q2 H hP hD hS => ?_)
  have hP : va_P g vwCl ([(a0, .inr (4, [.ref q0, .ref q1, .null, .int 0, .int 0])), (q0, .inl (ct 3, 24, .inr (.inr (.inr (.inr (fun r => some (q0 + 1 + r))))))), (q1, .inl (ct 0, 4, .inl (fun _ => 0))), (q2, .inl (ct 0, 6, .inl (fun _ => 0)))] ++ prW (ct 0) q0) H := hP.swap
  have hD : va_D A ([(a0, .inr (4, [.ref q0, .ref q1, .null, .int 0, .int 0])), (q0, .inl (ct 3, 24, .inr (.inr (.inr (.inr (fun r => some (q0 + 1 + r))))))), (q1, .inl (ct 0, 4, .inl (fun _ => 0))), (q2, .inl (ct 0, 6, .inl (fun _ => 0)))] ++ prW (ct 0) q0) := hD.swap
  refine va_putF (D := g) (ci := 4) (v := .ref q2) (ty := (.array .int)) (C := RX4) (T := TX4) (N := 5) C.1 C.2.1 C.2.2.2.2 hinF tyX4 tyX4_ok nmX4 C.2.2.2.1 hK hP hD hS 0 rfl rfl 2 (by decide) (C.2.2.2.2 (.fieldLink RX4 20 "LitmusRunner$Programs" "draft" "[I") (by decide +kernel)) (fun _ h9 => h9) rfl hin rfl (by decide +kernel) rfl rfl (Nat.le_of_ble_eq_true rfl) dX4_init_28 (fun H locs hP hD hS => ?_)
  have hP : va_P g vwCl ([(a0, .inr (4, [.ref q0, .ref q1, .ref q2, .int 0, .int 0])), (q0, .inl (ct 3, 24, .inr (.inr (.inr (.inr (fun r => some (q0 + 1 + r))))))), (q1, .inl (ct 0, 4, .inl (fun _ => 0))), (q2, .inl (ct 0, 6, .inl (fun _ => 0)))] ++ prW (ct 0) q0) H := hP
  have hD : va_D A ([(a0, .inr (4, [.ref q0, .ref q1, .ref q2, .int 0, .int 0])), (q0, .inl (ct 3, 24, .inr (.inr (.inr (.inr (fun r => some (q0 + 1 + r))))))), (q1, .inl (ct 0, 4, .inl (fun _ => 0))), (q2, .inl (ct 0, 6, .inl (fun _ => 0)))] ++ prW (ct 0) q0) := hD
  refine lv_aload_n C.1 C.2.1 dX4_init_31 rfl (lv_at hl 0 rfl) ?_
  refine lv_iconst (v := 0) C.1 C.2.1 dX4_init_32 (by decide) ?_
  refine va_put (D := g) (ci := 4) (v := .int 0) (ty := .int) (C := RX4) (T := TX4) (N := 5) C.1 C.2.1 C.2.2.2.2 hinF tyX4 tyX4_ok nmX4 C.2.2.2.1 hK hP hD hS 0 rfl rfl 3 (by decide) (C.2.2.2.2 (.fieldLink RX4 23 "LitmusRunner$Programs" "accesses" "I") (by decide +kernel)) (fun _ h9 => h9) rfl (by decide +kernel) rfl rfl (Nat.le_of_ble_eq_true rfl) dX4_init_33 (fun H locs hP hD hS => ?_)
  refine lv_aload_n C.1 C.2.1 dX4_init_36 rfl (lv_at hl 0 rfl) ?_
  refine lv_iconst (v := 0) C.1 C.2.1 dX4_init_37 (by decide) ?_
  refine va_put (D := g) (ci := 4) (v := .int 0) (ty := .int) (C := RX4) (T := TX4) (N := 5) C.1 C.2.1 C.2.2.2.2 hinF tyX4 tyX4_ok nmX4 C.2.2.2.1 hK hP hD hS 0 rfl rfl 4 (by decide) (C.2.2.2.2 (.fieldLink RX4 27 "LitmusRunner$Programs" "readers" "I") (by decide +kernel)) (fun _ h9 => h9) rfl (by decide +kernel) rfl rfl (Nat.le_of_ble_eq_true rfl) dX4_init_38 (fun H locs hP hD hS => ?_)
  exact hret 41 (fun k => if k = 0 then q0 else if k = 1 then q1 else q2) H locs ls _ _ dX4_init_41 trivial hP hD hS (Nat.le_of_ble_eq_true rfl) (Nat.le_of_ble_eq_true rfl)
