/-! the law: what the kit's skeleton says of its entry and end; its ten cases (written by wip/gen/law.py) -/
def R_law : String := "LitmusRunnerLaw"
def lw_P (b : Addr) (xs : List Int32) (args : Array Value) (s : State) : Prop := args = #[.ref b] ∧ s.IntsAt b xs ∧ xs.length ≤ 4096 ∧ (Jvm.Cond.and given_1 narrow_1).before args s = true
def lw_Q (_ : Array Value) (s : State) (o : Outcome) (t : State) : Prop := o = .returned (some (.int 1)) ∧ Framed s o t [] 600000 7302250
def lw_Z (below : List Frame) (a : Array Value) (s : State) : State → Prop := fun t => ∃ o, t.status = .running ∧ Ended t below o ∧ lw_Q a s o t
/-- the law's own end, with 1 on the stack, nothing written that was there before, its room as the claim has it -/
theorem lw_ret {p : Program} {l : Launch} {e : Env} {s : State} {m : MethodId} {below : List Frame} {meth : Method} {c : Code} {b : Nat} (hx : p.tables.exec = Jvm.exec) (hb : c.code = code) (hr : meth.sig.returnType = ret) (hlocks : meth.locks = false) {pc : Nat} {H : Heap} {ls : Array Slot} (hdg : decode code pc = .ok (.ireturn, 1)) : W p l e room_1 s m #[Value.ref b] below meth c H [] 600000 7302250 (lw_Z below #[Value.ref b] s) (F0 m pc ls [.int 1]) := by
  intro T hT X
  obtain ⟨fs, hret, hrun, hended, hW, hframe⟩ := X.leave (v := some (.int 1)) (hlocks := hlocks) (fun h => by rw [hr] at h; cases h)
  have hmeth' : T.vm.method? m = some meth := X.method'
  refine ⟨T.setFrames fs, ?_, .returned (some (.int 1)), hrun, hended, rfl, ⟨_, rfl⟩, hW, hframe⟩
  jvm_step X.here [X.here.top, hx, hb, hdg, hmeth', hr, ret, narrow_b1]
  (try refine ⟨rfl, ?_⟩); (try refine ⟨rfl, ?_⟩)
  first | (intro acts; rw [hret _ acts rfl rfl rfl]) | rw [hret _ _ rfl rfl rfl]
  exact Steps.refl _
/-- what holds at the law's entry: the machine, the code, the tables' words (any of lw_tbl by 'hts w (by decide +kernel)'), the script of L ints xs at the cell b, what the Statement gives of the start (any of its parts by flat_of_before) -/
def lw_At (p : Program) (s : State) (m : MethodId) (meth : Method) (c : Code) (b L : Nat) (xs : Nat → Int32) : Prop :=
  p.tables.exec = Jvm.exec ∧ c.code = code ∧ meth.sig.returnType = ret ∧ c.maxLocals = 4 ∧ s.vm.findClass R_law = some m.cls ∧ (∀ w ∈ lw_tbl, w.before #[Value.ref b] s = true) ∧ va_X b L xs s s.heap ∧ b < s.heap.size ∧ meth.locks = false ∧ (Jvm.Cond.and given_1 narrow_1).before #[Value.ref b] s = true
/-- between two calls -/
def LI (g : va_G) (ct : Nat → ClassId) (ad bd : Nat → Nat) (s : State) (mo : Nat) (P : Nat → Nat → Nat → Nat) (Ln : Nat → Nat) (fo : Bool) (n ro : Nat) (S T : St) (H : Heap) (locs : List Loc) : Prop :=
  OKA mo P Ln ∧ XI mo P Ln fo n S ∧ MI mo P Ln fo T ∧ va_P g vwCl (wX ct ad n ro S) H ∧ va_P g vwCl (wM ct bd T) H ∧ va_D (fun q : Nat => s.heap.size ≤ q) (wX ct ad n ro S) ∧ va_D (fun q : Nat => s.heap.size ≤ q) (wM ct bd T) ∧ apart (wX ct ad n ro S) (wM ct bd T) ∧ va_S (fun q : Nat => s.heap.size ≤ q) s.heap H locs
def NX (p : Program) (l : Launch) (e : Env) (s : State) (m : MethodId) (below : List Frame) (meth : Method) (c : Code) (b i : Nat) (QQ : State → Prop) (g : va_G) (ct : Nat → ClassId) (ad bd : Nat → Nat) : Prop :=
  ∀ (mo : Nat) (P : Nat → Nat → Nat → Nat) (Ln : Nat → Nat) (fo : Bool) (n ro : Nat) (S T : St) (H : Heap) (locs : List Loc) (ls : Array Slot), LI g ct ad bd s mo P Ln fo n ro S T H locs → lv_has ls 4 [(0, .ref b), (1, .ref (ad 0)), (2, .ref (bd 0)), (3, .int (nI i))] → W p l e room_1 s m #[Value.ref b] below meth c H locs (n + 10) (2 * n + 40856) QQ (F0 m 453 ls [])
section LAWC
variable {p : Program} {l : Launch} {e : Env} {s : State} {m : MethodId} {below : List Frame} {meth : Method} {c : Code} {b L i : Nat} {xs : Nat → Int32} {QQ : State → Prop} {g : va_G} {ct : Nat → ClassId} {ad bd : Nat → Nat} {mo : Nat} {P : Nat → Nat → Nat → Nat} {Ln : Nat → Nat} {fo : Bool} {n ro : Nat} {S T : St} {H : Heap} {locs : List Loc} {ls : Array Slot}
set_option maxHeartbeats 8000000 in
set_option maxRecDepth 100000 in
theorem k_clear (C : CallFix p m c cL_law 4 s #[Value.ref b] wsL_law RL) (hX : va_X b L xs s s.heap) (hbl : b < s.heap.size) (hKx : va_K g vwCl (xT ct) s) (hKm : va_K g vwCl (mT ct) s) (hN : xN s) (hi : i + 8 ≤ L) (hL : L ≤ 4096) (nx : NX p l e s m below meth c b i QQ g ct ad bd) (hLI : LI g ct ad bd s mo P Ln fo n ro S T H locs) (hl : lv_has ls 4 [(0, .ref b), (1, .ref (ad 0)), (2, .ref (bd 0)), (3, .int (nI i))]) : W p l e room_1 s m #[Value.ref b] below meth c H locs (n + 10) (2 * n + 40856) QQ (F0 m 88 ls []) := by
  obtain ⟨hA0, hXI, hMI, hPx, hPm, hDx, hDm, hap, hS⟩ := hLI
  have hA : ∀ q : Nat, s.heap.size ≤ q → (fun q : Nat => s.heap.size ≤ q) q := fun _ h => h
  have hbA : ¬ (fun q : Nat => s.heap.size ≤ q) b := Nat.not_le.mpr hbl
  have hn := (IsC_b hXI.2.2.2.2.2.1).2
  have hcs : n + 10 ≤ room_1.cells ∧ 2 * n + 40856 ≤ room_1.slots := ⟨by show n + 10 ≤ 600000; omega, by show 2 * n + 40856 ≤ 7302250; omega⟩
  have hv : ∀ j : Nat, j < 8 → vp_in (nI i + nI j) L := fun j hj => by rw [nI_add]; exact nu_in (by omega) (by omega)
  obtain ⟨rr, mo1, P1, L1, fo1, hA1, hc, hm⟩ := st_clear  (fo := fo) hA0
  refine lv_aload_n C.1 C.2.1 dL_law_88 rfl (lv_at hl 1 rfl) ?_
  refine l_ci (w := wX ct ad n ro) (w2 := wM ct bd T) C hKx hN hA hPx hPm hDx hap hS (mX6_clear l g ct ad n ro H.size S  _ (hc n S hXI)) (cwV 0 C.2.2.2.2 gL_law_X6_clear rfl rfl rfl (by decide +kernel) ⟨(Nat.le_of_ble_eq_true rfl), (Nat.le_of_ble_eq_true rfl)⟩) (va_recv hKx hPx (ci := 6) (q0 := 0) rfl rfl) rfl hl.1 rfl (Nat.le_of_ble_eq_true rfl) dL_law_89 hcs (fun r1 S1 H locs h1 hPx hPm hDx hap hS => ?_)
  refine lv_aload_n C.1 C.2.1 dL_law_92 rfl (lv_at hl 2 rfl) ?_
  refine l_ci (w := wM ct bd) (w2 := wX ct ad n ro S1) C hKm hN hA hPm hPx hDm (apart_sym hap) hS (mX7_clear l g ct bd H.size T  _ (hm T hMI)) (cwV 0 C.2.2.2.2 gL_law_X7_clear rfl rfl rfl (by decide +kernel) ⟨(Nat.le_of_ble_eq_true rfl), (Nat.le_of_ble_eq_true rfl)⟩) (va_recv hKm hPm (ci := 7) (q0 := 0) rfl rfl) rfl hl.1 rfl (Nat.le_of_ble_eq_true rfl) dL_law_93 hcs (fun r2 T1 H locs h2 hPm hPx hDm hap hS => ?_)
  exact lv_icmp_eq (tgt := 453) C.1 C.2.1 dL_law_96 (by decide) (fun _ => nx mo1 P1 L1 fo1 n ro S1 T1 H locs ls ⟨hA1, h1.2, h2.2, hPx, hPm, hDx, hDm, apart_sym hap, hS⟩ hl) (fun q => absurd (h1.1.trans h2.1.symm) q)
set_option maxHeartbeats 8000000 in
set_option maxRecDepth 100000 in
theorem k_model (C : CallFix p m c cL_law 4 s #[Value.ref b] wsL_law RL) (hX : va_X b L xs s s.heap) (hbl : b < s.heap.size) (hKx : va_K g vwCl (xT ct) s) (hKm : va_K g vwCl (mT ct) s) (hN : xN s) (hi : i + 8 ≤ L) (hL : L ≤ 4096) (nx : NX p l e s m below meth c b i QQ g ct ad bd) (hLI : LI g ct ad bd s mo P Ln fo n ro S T H locs) (hl : lv_has ls 4 [(0, .ref b), (1, .ref (ad 0)), (2, .ref (bd 0)), (3, .int (nI i))]) : W p l e room_1 s m #[Value.ref b] below meth c H locs (n + 10) (2 * n + 40856) QQ (F0 m 101 ls []) := by
  obtain ⟨hA0, hXI, hMI, hPx, hPm, hDx, hDm, hap, hS⟩ := hLI
  have hA : ∀ q : Nat, s.heap.size ≤ q → (fun q : Nat => s.heap.size ≤ q) q := fun _ h => h
  have hbA : ¬ (fun q : Nat => s.heap.size ≤ q) b := Nat.not_le.mpr hbl
  have hn := (IsC_b hXI.2.2.2.2.2.1).2
  have hcs : n + 10 ≤ room_1.cells ∧ 2 * n + 40856 ≤ room_1.slots := ⟨by show n + 10 ≤ 600000; omega, by show 2 * n + 40856 ≤ 7302250; omega⟩
  have hv : ∀ j : Nat, j < 8 → vp_in (nI i + nI j) L := fun j hj => by rw [nI_add]; exact nu_in (by omega) (by omega)
  obtain ⟨rr, mo1, P1, L1, fo1, hA1, hc, hm⟩ := st_model (x1 := xs (nI i + 1).toNatClampNeg) (fo := fo) hA0
  refine lv_aload_n C.1 C.2.1 dL_law_101 rfl (lv_at hl 1 rfl) ?_
  refine lv_aload_n C.1 C.2.1 dL_law_102 rfl (lv_at hl 0 rfl) ?_
  refine lv_iload_n C.1 C.2.1 dL_law_103 rfl (lv_at hl 3 rfl) ?_
  refine lv_iconst (v := 1) C.1 C.2.1 dL_law_104 (by decide) ?_
  refine lv_iadd C.1 C.2.1 dL_law_105 ?_
  refine va_sld C.1 C.2.1 hX hbl hbA hS (hv 1 (by decide)) dL_law_106 ?_
  refine l_ci (w := wX ct ad n ro) (w2 := wM ct bd T) C hKx hN hA hPx hPm hDx hap hS (mX6_model l g ct ad n ro H.size S (xs (nI i + 1).toNatClampNeg) _ (hc n S hXI)) (cwV 1 C.2.2.2.2 gL_law_X6_model rfl rfl rfl (by decide +kernel) ⟨(Nat.le_of_ble_eq_true rfl), (Nat.le_of_ble_eq_true rfl)⟩) (va_recv hKx hPx (ci := 6) (q0 := 0) rfl rfl) rfl hl.1 rfl (Nat.le_of_ble_eq_true rfl) dL_law_107 hcs (fun r1 S1 H locs h1 hPx hPm hDx hap hS => ?_)
  refine lv_aload_n C.1 C.2.1 dL_law_110 rfl (lv_at hl 2 rfl) ?_
  refine lv_aload_n C.1 C.2.1 dL_law_111 rfl (lv_at hl 0 rfl) ?_
  refine lv_iload_n C.1 C.2.1 dL_law_112 rfl (lv_at hl 3 rfl) ?_
  refine lv_iconst (v := 1) C.1 C.2.1 dL_law_113 (by decide) ?_
  refine lv_iadd C.1 C.2.1 dL_law_114 ?_
  refine va_sld C.1 C.2.1 hX hbl hbA hS (hv 1 (by decide)) dL_law_115 ?_
  refine l_ci (w := wM ct bd) (w2 := wX ct ad n ro S1) C hKm hN hA hPm hPx hDm (apart_sym hap) hS (mX7_model l g ct bd H.size T (xs (nI i + 1).toNatClampNeg) _ (hm T hMI)) (cwV 1 C.2.2.2.2 gL_law_X7_model rfl rfl rfl (by decide +kernel) ⟨(Nat.le_of_ble_eq_true rfl), (Nat.le_of_ble_eq_true rfl)⟩) (va_recv hKm hPm (ci := 7) (q0 := 0) rfl rfl) rfl hl.1 rfl (Nat.le_of_ble_eq_true rfl) dL_law_116 hcs (fun r2 T1 H locs h2 hPm hPx hDm hap hS => ?_)
  exact lv_icmp_eq (tgt := 453) C.1 C.2.1 dL_law_119 (by decide) (fun _ => nx mo1 P1 L1 fo1 n ro S1 T1 H locs ls ⟨hA1, h1.2, h2.2, hPx, hPm, hDx, hDm, apart_sym hap, hS⟩ hl) (fun q => absurd (h1.1.trans h2.1.symm) q)
set_option maxHeartbeats 8000000 in
set_option maxRecDepth 100000 in
theorem k_add {ak av : Nat → Nat} (hG : sG ak av (fun q : Nat => s.heap.size ≤ q) s s.heap) (C : CallFix p m c cL_law 4 s #[Value.ref b] wsL_law RL) (hX : va_X b L xs s s.heap) (hbl : b < s.heap.size) (hKx : va_K g vwCl (xT ct) s) (hKm : va_K g vwCl (mT ct) s) (hN : xN s) (hi : i + 8 ≤ L) (hL : L ≤ 4096) (nx : NX p l e s m below meth c b i QQ g ct ad bd) (hLI : LI g ct ad bd s mo P Ln fo n ro S T H locs) (hl : lv_has ls 4 [(0, .ref b), (1, .ref (ad 0)), (2, .ref (bd 0)), (3, .int (nI i))]) : W p l e room_1 s m #[Value.ref b] below meth c H locs (n + 10) (2 * n + 40856) QQ (F0 m 124 ls []) := by
  obtain ⟨hA0, hXI, hMI, hPx, hPm, hDx, hDm, hap, hS⟩ := hLI
  have hA : ∀ q : Nat, s.heap.size ≤ q → (fun q : Nat => s.heap.size ≤ q) q := fun _ h => h
  have hbA : ¬ (fun q : Nat => s.heap.size ≤ q) b := Nat.not_le.mpr hbl
  have hn := (IsC_b hXI.2.2.2.2.2.1).2
  have hcs : n + 10 ≤ room_1.cells ∧ 2 * n + 40856 ≤ room_1.slots := ⟨by show n + 10 ≤ 600000; omega, by show 2 * n + 40856 ≤ 7302250; omega⟩
  have hv : ∀ j : Nat, j < 8 → vp_in (nI i + nI j) L := fun j hj => by rw [nI_add]; exact nu_in (by omega) (by omega)
  obtain ⟨rr, mo1, P1, L1, fo1, hA1, hc, hm⟩ := st_add (x1 := xs (nI i + 1).toNatClampNeg) (x2 := xs (nI i + 2).toNatClampNeg) (x3 := xs (nI i + 3).toNatClampNeg) (x4 := xs (nI i + 4).toNatClampNeg) (x5 := xs (nI i + 5).toNatClampNeg) (x6 := xs (nI i + 6).toNatClampNeg) (x7 := xs (nI i + 7).toNatClampNeg) (fo := fo) hA0
  refine lv_aload_n C.1 C.2.1 dL_law_124 rfl (lv_at hl 1 rfl) ?_
  refine lv_aload_n C.1 C.2.1 dL_law_125 rfl (lv_at hl 0 rfl) ?_
  refine lv_iload_n C.1 C.2.1 dL_law_126 rfl (lv_at hl 3 rfl) ?_
  refine lv_iconst (v := 1) C.1 C.2.1 dL_law_127 (by decide) ?_
  refine lv_iadd C.1 C.2.1 dL_law_128 ?_
  refine va_sld C.1 C.2.1 hX hbl hbA hS (hv 1 (by decide)) dL_law_129 ?_
  refine lv_aload_n C.1 C.2.1 dL_law_130 rfl (lv_at hl 0 rfl) ?_
  refine lv_iload_n C.1 C.2.1 dL_law_131 rfl (lv_at hl 3 rfl) ?_
  refine lv_iconst (v := 2) C.1 C.2.1 dL_law_132 (by decide) ?_
  refine lv_iadd C.1 C.2.1 dL_law_133 ?_
  refine va_sld C.1 C.2.1 hX hbl hbA hS (hv 2 (by decide)) dL_law_134 ?_
  refine lv_aload_n C.1 C.2.1 dL_law_135 rfl (lv_at hl 0 rfl) ?_
  refine lv_iload_n C.1 C.2.1 dL_law_136 rfl (lv_at hl 3 rfl) ?_
  refine lv_iconst (v := 3) C.1 C.2.1 dL_law_137 (by decide) ?_
  refine lv_iadd C.1 C.2.1 dL_law_138 ?_
  refine va_sld C.1 C.2.1 hX hbl hbA hS (hv 3 (by decide)) dL_law_139 ?_
  refine lv_aload_n C.1 C.2.1 dL_law_140 rfl (lv_at hl 0 rfl) ?_
  refine lv_iload_n C.1 C.2.1 dL_law_141 rfl (lv_at hl 3 rfl) ?_
  refine lv_iconst (v := 4) C.1 C.2.1 dL_law_142 (by decide) ?_
  refine lv_iadd C.1 C.2.1 dL_law_143 ?_
  refine va_sld C.1 C.2.1 hX hbl hbA hS (hv 4 (by decide)) dL_law_144 ?_
  refine lv_aload_n C.1 C.2.1 dL_law_145 rfl (lv_at hl 0 rfl) ?_
  refine lv_iload_n C.1 C.2.1 dL_law_146 rfl (lv_at hl 3 rfl) ?_
  refine lv_iconst (v := 5) C.1 C.2.1 dL_law_147 (by decide) ?_
  refine lv_iadd C.1 C.2.1 dL_law_148 ?_
  refine va_sld C.1 C.2.1 hX hbl hbA hS (hv 5 (by decide)) dL_law_149 ?_
  refine lv_aload_n C.1 C.2.1 dL_law_150 rfl (lv_at hl 0 rfl) ?_
  refine lv_iload_n C.1 C.2.1 dL_law_151 rfl (lv_at hl 3 rfl) ?_
  refine lv_bipush (v := 6) C.1 C.2.1 dL_law_152 (by decide) ?_
  refine lv_iadd C.1 C.2.1 dL_law_154 ?_
  refine va_sld C.1 C.2.1 hX hbl hbA hS (hv 6 (by decide)) dL_law_155 ?_
  refine lv_aload_n C.1 C.2.1 dL_law_156 rfl (lv_at hl 0 rfl) ?_
  refine lv_iload_n C.1 C.2.1 dL_law_157 rfl (lv_at hl 3 rfl) ?_
  refine lv_bipush (v := 7) C.1 C.2.1 dL_law_158 (by decide) ?_
  refine lv_iadd C.1 C.2.1 dL_law_160 ?_
  refine va_sld C.1 C.2.1 hX hbl hbA hS (hv 7 (by decide)) dL_law_161 ?_
  refine l_cx (w := wX ct ad n ro) (w2 := wM ct bd T) sX_blind (sX_to hG hS (g_free hDx hS hA)) C hKx hN hA hPx hPm hDx hap hS (mX6_add l g ct ad ak av n ro H.size S (xs (nI i + 1).toNatClampNeg) (xs (nI i + 2).toNatClampNeg) (xs (nI i + 3).toNatClampNeg) (xs (nI i + 4).toNatClampNeg) (xs (nI i + 5).toNatClampNeg) (xs (nI i + 6).toNatClampNeg) (xs (nI i + 7).toNatClampNeg) _ (hc n S hXI)) (cwV 7 C.2.2.2.2 gL_law_X6_add rfl rfl rfl (by decide +kernel) ⟨(Nat.le_of_ble_eq_true rfl), (Nat.le_of_ble_eq_true rfl)⟩) (va_recv hKx hPx (ci := 6) (q0 := 0) rfl rfl) rfl hl.1 rfl (Nat.le_of_ble_eq_true rfl) dL_law_162 hcs (fun r1 S1 H locs h1 hPx hPm hDx hap hS => ?_)
  refine lv_aload_n C.1 C.2.1 dL_law_165 rfl (lv_at hl 2 rfl) ?_
  refine lv_aload_n C.1 C.2.1 dL_law_166 rfl (lv_at hl 0 rfl) ?_
  refine lv_iload_n C.1 C.2.1 dL_law_167 rfl (lv_at hl 3 rfl) ?_
  refine lv_iconst (v := 1) C.1 C.2.1 dL_law_168 (by decide) ?_
  refine lv_iadd C.1 C.2.1 dL_law_169 ?_
  refine va_sld C.1 C.2.1 hX hbl hbA hS (hv 1 (by decide)) dL_law_170 ?_
  refine lv_aload_n C.1 C.2.1 dL_law_171 rfl (lv_at hl 0 rfl) ?_
  refine lv_iload_n C.1 C.2.1 dL_law_172 rfl (lv_at hl 3 rfl) ?_
  refine lv_iconst (v := 2) C.1 C.2.1 dL_law_173 (by decide) ?_
  refine lv_iadd C.1 C.2.1 dL_law_174 ?_
  refine va_sld C.1 C.2.1 hX hbl hbA hS (hv 2 (by decide)) dL_law_175 ?_
  refine lv_aload_n C.1 C.2.1 dL_law_176 rfl (lv_at hl 0 rfl) ?_
  refine lv_iload_n C.1 C.2.1 dL_law_177 rfl (lv_at hl 3 rfl) ?_
  refine lv_iconst (v := 3) C.1 C.2.1 dL_law_178 (by decide) ?_
  refine lv_iadd C.1 C.2.1 dL_law_179 ?_
  refine va_sld C.1 C.2.1 hX hbl hbA hS (hv 3 (by decide)) dL_law_180 ?_
  refine lv_aload_n C.1 C.2.1 dL_law_181 rfl (lv_at hl 0 rfl) ?_
  refine lv_iload_n C.1 C.2.1 dL_law_182 rfl (lv_at hl 3 rfl) ?_
  refine lv_iconst (v := 4) C.1 C.2.1 dL_law_183 (by decide) ?_
  refine lv_iadd C.1 C.2.1 dL_law_184 ?_
  refine va_sld C.1 C.2.1 hX hbl hbA hS (hv 4 (by decide)) dL_law_185 ?_
  refine lv_aload_n C.1 C.2.1 dL_law_186 rfl (lv_at hl 0 rfl) ?_
  refine lv_iload_n C.1 C.2.1 dL_law_187 rfl (lv_at hl 3 rfl) ?_
  refine lv_iconst (v := 5) C.1 C.2.1 dL_law_188 (by decide) ?_
  refine lv_iadd C.1 C.2.1 dL_law_189 ?_
  refine va_sld C.1 C.2.1 hX hbl hbA hS (hv 5 (by decide)) dL_law_190 ?_
  refine lv_aload_n C.1 C.2.1 dL_law_191 rfl (lv_at hl 0 rfl) ?_
  refine lv_iload_n C.1 C.2.1 dL_law_192 rfl (lv_at hl 3 rfl) ?_
  refine lv_bipush (v := 6) C.1 C.2.1 dL_law_193 (by decide) ?_
  refine lv_iadd C.1 C.2.1 dL_law_195 ?_
  refine va_sld C.1 C.2.1 hX hbl hbA hS (hv 6 (by decide)) dL_law_196 ?_
  refine lv_aload_n C.1 C.2.1 dL_law_197 rfl (lv_at hl 0 rfl) ?_
  refine lv_iload_n C.1 C.2.1 dL_law_198 rfl (lv_at hl 3 rfl) ?_
  refine lv_bipush (v := 7) C.1 C.2.1 dL_law_199 (by decide) ?_
  refine lv_iadd C.1 C.2.1 dL_law_201 ?_
  refine va_sld C.1 C.2.1 hX hbl hbA hS (hv 7 (by decide)) dL_law_202 ?_
  refine l_ci (w := wM ct bd) (w2 := wX ct ad n ro S1) C hKm hN hA hPm hPx hDm (apart_sym hap) hS (mX7_add l g ct bd H.size T (xs (nI i + 1).toNatClampNeg) (xs (nI i + 2).toNatClampNeg) (xs (nI i + 3).toNatClampNeg) (xs (nI i + 4).toNatClampNeg) (xs (nI i + 5).toNatClampNeg) (xs (nI i + 6).toNatClampNeg) (xs (nI i + 7).toNatClampNeg) _ (hm T hMI)) (cwV 7 C.2.2.2.2 gL_law_X7_add rfl rfl rfl (by decide +kernel) ⟨(Nat.le_of_ble_eq_true rfl), (Nat.le_of_ble_eq_true rfl)⟩) (va_recv hKm hPm (ci := 7) (q0 := 0) rfl rfl) rfl hl.1 rfl (Nat.le_of_ble_eq_true rfl) dL_law_203 hcs (fun r2 T1 H locs h2 hPm hPx hDm hap hS => ?_)
  exact lv_icmp_eq (tgt := 453) C.1 C.2.1 dL_law_206 (by decide) (fun _ => nx mo1 P1 L1 fo1 n ro S1 T1 H locs ls ⟨hA1, h1.2, h2.2, hPx, hPm, hDx, hDm, apart_sym hap, hS⟩ hl) (fun q => absurd (h1.1.trans h2.1.symm) q)
set_option maxHeartbeats 8000000 in
set_option maxRecDepth 100000 in
theorem k_find (C : CallFix p m c cL_law 4 s #[Value.ref b] wsL_law RL) (hX : va_X b L xs s s.heap) (hbl : b < s.heap.size) (hKx : va_K g vwCl (xT ct) s) (hKm : va_K g vwCl (mT ct) s) (hN : xN s) (hi : i + 8 ≤ L) (hL : L ≤ 4096) (nx : NX p l e s m below meth c b i QQ g ct ad bd) (hLI : LI g ct ad bd s mo P Ln fo n ro S T H locs) (hl : lv_has ls 4 [(0, .ref b), (1, .ref (ad 0)), (2, .ref (bd 0)), (3, .int (nI i))]) : W p l e room_1 s m #[Value.ref b] below meth c H locs (n + 10) (2 * n + 40856) QQ (F0 m 211 ls []) := by
  obtain ⟨hA0, hXI, hMI, hPx, hPm, hDx, hDm, hap, hS⟩ := hLI
  have hA : ∀ q : Nat, s.heap.size ≤ q → (fun q : Nat => s.heap.size ≤ q) q := fun _ h => h
  have hbA : ¬ (fun q : Nat => s.heap.size ≤ q) b := Nat.not_le.mpr hbl
  have hn := (IsC_b hXI.2.2.2.2.2.1).2
  have hcs : n + 10 ≤ room_1.cells ∧ 2 * n + 40856 ≤ room_1.slots := ⟨by show n + 10 ≤ 600000; omega, by show 2 * n + 40856 ≤ 7302250; omega⟩
  have hf1 := nF_ge (mo := mo) (P := P) (L := Ln) (fo := fo) (n := n)
  have hf2 := (IsC_b (nF_C (mo := mo) (P := P) (L := Ln) (fo := fo) hXI.2.2.2.2.2.1)).2
  have hcs2 : n + 10 + (nF mo P Ln fo n - n) ≤ room_1.cells ∧ 2 * n + 40856 + 2 * (nF mo P Ln fo n - n) ≤ room_1.slots := ⟨by show n + 10 + (nF mo P Ln fo n - n) ≤ 600000; omega, by show 2 * n + 40856 + 2 * (nF mo P Ln fo n - n) ≤ 7302250; omega⟩
  have hcs3 : nF mo P Ln fo n + 10 ≤ room_1.cells ∧ 2 * nF mo P Ln fo n + 40856 ≤ room_1.slots := ⟨by show nF mo P Ln fo n + 10 ≤ 600000; omega, by show 2 * nF mo P Ln fo n + 40856 ≤ 7302250; omega⟩
  have hv : ∀ j : Nat, j < 8 → vp_in (nI i + nI j) L := fun j hj => by rw [nI_add]; exact nu_in (by omega) (by omega)
  obtain ⟨rr, hc, hm⟩ := st_find (fo := fo) hA0
  refine lv_aload_n C.1 C.2.1 dL_law_211 rfl (lv_at hl 1 rfl) ?_
  refine l_cg (w2 := wM ct bd T) (n1 := nF mo P Ln fo n) C hKx hN hA hPx hPm hDx hap hS (mX6_find l g ct ad H.size n (nF mo P Ln fo n) ro S _ nF_ge (hc n S hXI)) (cwV 0 C.2.2.2.2 gL_law_X6_find rfl rfl rfl (by decide +kernel) ⟨(Nat.le_of_ble_eq_true rfl), (Nat.le_of_ble_eq_true rfl)⟩) (va_recv hKx hPx (ci := 6) (q0 := 0) rfl rfl) rfl hl.1 rfl (Nat.le_of_ble_eq_true rfl) dL_law_212 hcs2 (fun r1 S1 ro1 H locs h1 hPx hPm hDx hap hS => ?_)
  rw [show n + 10 + (nF mo P Ln fo n - n) = nF mo P Ln fo n + 10 by omega, show 2 * n + 40856 + 2 * (nF mo P Ln fo n - n) = 2 * nF mo P Ln fo n + 40856 by omega]
  refine lv_aload_n C.1 C.2.1 dL_law_215 rfl (lv_at hl 2 rfl) ?_
  refine l_ci (w := wM ct bd) (w2 := wX ct ad (nF mo P Ln fo n) ro1 S1) C hKm hN hA hPm hPx hDm (apart_sym hap) hS (mX7_find l g ct bd H.size T  _ (hm T hMI)) (cwV 0 C.2.2.2.2 gL_law_X7_find rfl rfl rfl (by decide +kernel) ⟨(Nat.le_of_ble_eq_true rfl), (Nat.le_of_ble_eq_true rfl)⟩) (va_recv hKm hPm (ci := 7) (q0 := 0) rfl rfl) rfl hl.1 rfl (Nat.le_of_ble_eq_true rfl) dL_law_216 hcs3 (fun r2 T1 H locs h2 hPm hPx hDm hap hS => ?_)
  exact lv_icmp_eq (tgt := 453) C.1 C.2.1 dL_law_219 (by decide) (fun _ => nx mo P Ln true (nF mo P Ln fo n) ro1 S1 T1 H locs ls ⟨hA0, h1.2, h2.2, hPx, hPm, hDx, hDm, apart_sym hap, hS⟩ hl) (fun q => absurd (h1.1.trans h2.1.symm) q)
set_option maxHeartbeats 8000000 in
set_option maxRecDepth 100000 in
theorem k_outcome (C : CallFix p m c cL_law 4 s #[Value.ref b] wsL_law RL) (hX : va_X b L xs s s.heap) (hbl : b < s.heap.size) (hKx : va_K g vwCl (xT ct) s) (hKm : va_K g vwCl (mT ct) s) (hN : xN s) (hi : i + 8 ≤ L) (hL : L ≤ 4096) (nx : NX p l e s m below meth c b i QQ g ct ad bd) (hLI : LI g ct ad bd s mo P Ln fo n ro S T H locs) (hl : lv_has ls 4 [(0, .ref b), (1, .ref (ad 0)), (2, .ref (bd 0)), (3, .int (nI i))]) : W p l e room_1 s m #[Value.ref b] below meth c H locs (n + 10) (2 * n + 40856) QQ (F0 m 224 ls []) := by
  obtain ⟨hA0, hXI, hMI, hPx, hPm, hDx, hDm, hap, hS⟩ := hLI
  have hA : ∀ q : Nat, s.heap.size ≤ q → (fun q : Nat => s.heap.size ≤ q) q := fun _ h => h
  have hbA : ¬ (fun q : Nat => s.heap.size ≤ q) b := Nat.not_le.mpr hbl
  have hn := (IsC_b hXI.2.2.2.2.2.1).2
  have hcs : n + 10 ≤ room_1.cells ∧ 2 * n + 40856 ≤ room_1.slots := ⟨by show n + 10 ≤ 600000; omega, by show 2 * n + 40856 ≤ 7302250; omega⟩
  have hv : ∀ j : Nat, j < 8 → vp_in (nI i + nI j) L := fun j hj => by rw [nI_add]; exact nu_in (by omega) (by omega)
  obtain ⟨rr, mo1, P1, L1, fo1, hA1, hc, hm⟩ := st_outcome (x1 := xs (nI i + 1).toNatClampNeg) (fo := fo) hA0
  refine lv_aload_n C.1 C.2.1 dL_law_224 rfl (lv_at hl 1 rfl) ?_
  refine lv_aload_n C.1 C.2.1 dL_law_225 rfl (lv_at hl 0 rfl) ?_
  refine lv_iload_n C.1 C.2.1 dL_law_226 rfl (lv_at hl 3 rfl) ?_
  refine lv_iconst (v := 1) C.1 C.2.1 dL_law_227 (by decide) ?_
  refine lv_iadd C.1 C.2.1 dL_law_228 ?_
  refine va_sld C.1 C.2.1 hX hbl hbA hS (hv 1 (by decide)) dL_law_229 ?_
  refine l_cj (w := wX ct ad n ro) (w2 := wM ct bd T) C hKx hN hA hPx hPm hDx hap hS (mX6_outcome l g ct ad n ro H.size S (xs (nI i + 1).toNatClampNeg) _ (hc n S hXI)) (cwV 1 C.2.2.2.2 gL_law_X6_outcome rfl rfl rfl (by decide +kernel) ⟨(Nat.le_of_ble_eq_true rfl), (Nat.le_of_ble_eq_true rfl)⟩) (va_recv hKx hPx (ci := 6) (q0 := 0) rfl rfl) rfl hl.1 rfl (Nat.le_of_ble_eq_true rfl) dL_law_230 hcs (fun r1 S1 H locs h1 hPx hPm hDx hap hS => ?_)
  refine lv_aload_n C.1 C.2.1 dL_law_233 rfl (lv_at hl 2 rfl) ?_
  refine lv_aload_n C.1 C.2.1 dL_law_234 rfl (lv_at hl 0 rfl) ?_
  refine lv_iload_n C.1 C.2.1 dL_law_235 rfl (lv_at hl 3 rfl) ?_
  refine lv_iconst (v := 1) C.1 C.2.1 dL_law_236 (by decide) ?_
  refine lv_iadd C.1 C.2.1 dL_law_237 ?_
  refine va_sld C.1 C.2.1 hX hbl hbA hS (hv 1 (by decide)) dL_law_238 ?_
  refine l_cj (w := wM ct bd) (w2 := wX ct ad n ro S1) C hKm hN hA hPm hPx hDm (apart_sym hap) hS (mX7_outcome l g ct bd H.size T (xs (nI i + 1).toNatClampNeg) _ (hm T hMI)) (cwV 1 C.2.2.2.2 gL_law_X7_outcome rfl rfl rfl (by decide +kernel) ⟨(Nat.le_of_ble_eq_true rfl), (Nat.le_of_ble_eq_true rfl)⟩) (va_recv hKm hPm (ci := 7) (q0 := 0) rfl rfl) rfl hl.1 rfl (Nat.le_of_ble_eq_true rfl) dL_law_239 hcs (fun r2 T1 H locs h2 hPm hPx hDm hap hS => ?_)
  refine W.lcmp C.1 C.2.1 dL_law_242 ?_
  exact lv_if_eq (tgt := 453) C.1 C.2.1 dL_law_243 (by decide) (fun _ => nx mo1 P1 L1 fo1 n ro S1 T1 H locs ls ⟨hA1, h1.2, h2.2, hPx, hPm, hDx, hDm, apart_sym hap, hS⟩ hl) (fun q => absurd ((lg_cmp_eq _ _).mpr (h1.1.trans h2.1.symm)) q)
set_option maxHeartbeats 8000000 in
set_option maxRecDepth 100000 in
theorem k_with (C : CallFix p m c cL_law 4 s #[Value.ref b] wsL_law RL) (hX : va_X b L xs s s.heap) (hbl : b < s.heap.size) (hKx : va_K g vwCl (xT ct) s) (hKm : va_K g vwCl (mT ct) s) (hN : xN s) (hi : i + 8 ≤ L) (hL : L ≤ 4096) (nx : NX p l e s m below meth c b i QQ g ct ad bd) (hLI : LI g ct ad bd s mo P Ln fo n ro S T H locs) (hl : lv_has ls 4 [(0, .ref b), (1, .ref (ad 0)), (2, .ref (bd 0)), (3, .int (nI i))]) : W p l e room_1 s m #[Value.ref b] below meth c H locs (n + 10) (2 * n + 40856) QQ (F0 m 248 ls []) := by
  obtain ⟨hA0, hXI, hMI, hPx, hPm, hDx, hDm, hap, hS⟩ := hLI
  have hA : ∀ q : Nat, s.heap.size ≤ q → (fun q : Nat => s.heap.size ≤ q) q := fun _ h => h
  have hbA : ¬ (fun q : Nat => s.heap.size ≤ q) b := Nat.not_le.mpr hbl
  have hn := (IsC_b hXI.2.2.2.2.2.1).2
  have hcs : n + 10 ≤ room_1.cells ∧ 2 * n + 40856 ≤ room_1.slots := ⟨by show n + 10 ≤ 600000; omega, by show 2 * n + 40856 ≤ 7302250; omega⟩
  have hv : ∀ j : Nat, j < 8 → vp_in (nI i + nI j) L := fun j hj => by rw [nI_add]; exact nu_in (by omega) (by omega)
  obtain ⟨rr, mo1, P1, L1, fo1, hA1, hc, hm⟩ := st_with (x1 := xs (nI i + 1).toNatClampNeg) (x2 := xs (nI i + 2).toNatClampNeg) (fo := fo) hA0
  refine lv_aload_n C.1 C.2.1 dL_law_248 rfl (lv_at hl 1 rfl) ?_
  refine lv_aload_n C.1 C.2.1 dL_law_249 rfl (lv_at hl 0 rfl) ?_
  refine lv_iload_n C.1 C.2.1 dL_law_250 rfl (lv_at hl 3 rfl) ?_
  refine lv_iconst (v := 1) C.1 C.2.1 dL_law_251 (by decide) ?_
  refine lv_iadd C.1 C.2.1 dL_law_252 ?_
  refine va_sld C.1 C.2.1 hX hbl hbA hS (hv 1 (by decide)) dL_law_253 ?_
  refine lv_aload_n C.1 C.2.1 dL_law_254 rfl (lv_at hl 0 rfl) ?_
  refine lv_iload_n C.1 C.2.1 dL_law_255 rfl (lv_at hl 3 rfl) ?_
  refine lv_iconst (v := 2) C.1 C.2.1 dL_law_256 (by decide) ?_
  refine lv_iadd C.1 C.2.1 dL_law_257 ?_
  refine va_sld C.1 C.2.1 hX hbl hbA hS (hv 2 (by decide)) dL_law_258 ?_
  refine l_ci (w := wX ct ad n ro) (w2 := wM ct bd T) C hKx hN hA hPx hPm hDx hap hS (mX6_with l g ct ad n ro H.size S (xs (nI i + 1).toNatClampNeg) (xs (nI i + 2).toNatClampNeg) _ (hc n S hXI)) (cwV 2 C.2.2.2.2 gL_law_X6_with rfl rfl rfl (by decide +kernel) ⟨(Nat.le_of_ble_eq_true rfl), (Nat.le_of_ble_eq_true rfl)⟩) (va_recv hKx hPx (ci := 6) (q0 := 0) rfl rfl) rfl hl.1 rfl (Nat.le_of_ble_eq_true rfl) dL_law_259 hcs (fun r1 S1 H locs h1 hPx hPm hDx hap hS => ?_)
  refine lv_aload_n C.1 C.2.1 dL_law_262 rfl (lv_at hl 2 rfl) ?_
  refine lv_aload_n C.1 C.2.1 dL_law_263 rfl (lv_at hl 0 rfl) ?_
  refine lv_iload_n C.1 C.2.1 dL_law_264 rfl (lv_at hl 3 rfl) ?_
  refine lv_iconst (v := 1) C.1 C.2.1 dL_law_265 (by decide) ?_
  refine lv_iadd C.1 C.2.1 dL_law_266 ?_
  refine va_sld C.1 C.2.1 hX hbl hbA hS (hv 1 (by decide)) dL_law_267 ?_
  refine lv_aload_n C.1 C.2.1 dL_law_268 rfl (lv_at hl 0 rfl) ?_
  refine lv_iload_n C.1 C.2.1 dL_law_269 rfl (lv_at hl 3 rfl) ?_
  refine lv_iconst (v := 2) C.1 C.2.1 dL_law_270 (by decide) ?_
  refine lv_iadd C.1 C.2.1 dL_law_271 ?_
  refine va_sld C.1 C.2.1 hX hbl hbA hS (hv 2 (by decide)) dL_law_272 ?_
  refine l_ci (w := wM ct bd) (w2 := wX ct ad n ro S1) C hKm hN hA hPm hPx hDm (apart_sym hap) hS (mX7_with l g ct bd H.size T (xs (nI i + 1).toNatClampNeg) (xs (nI i + 2).toNatClampNeg) _ (hm T hMI)) (cwV 2 C.2.2.2.2 gL_law_X7_with rfl rfl rfl (by decide +kernel) ⟨(Nat.le_of_ble_eq_true rfl), (Nat.le_of_ble_eq_true rfl)⟩) (va_recv hKm hPm (ci := 7) (q0 := 0) rfl rfl) rfl hl.1 rfl (Nat.le_of_ble_eq_true rfl) dL_law_273 hcs (fun r2 T1 H locs h2 hPm hPx hDm hap hS => ?_)
  exact lv_icmp_eq (tgt := 453) C.1 C.2.1 dL_law_276 (by decide) (fun _ => nx mo1 P1 L1 fo1 n ro S1 T1 H locs ls ⟨hA1, h1.2, h2.2, hPx, hPm, hDx, hDm, apart_sym hap, hS⟩ hl) (fun q => absurd (h1.1.trans h2.1.symm) q)
set_option maxHeartbeats 8000000 in
set_option maxRecDepth 100000 in
theorem k_both (C : CallFix p m c cL_law 4 s #[Value.ref b] wsL_law RL) (hX : va_X b L xs s s.heap) (hbl : b < s.heap.size) (hKx : va_K g vwCl (xT ct) s) (hKm : va_K g vwCl (mT ct) s) (hN : xN s) (hi : i + 8 ≤ L) (hL : L ≤ 4096) (nx : NX p l e s m below meth c b i QQ g ct ad bd) (hLI : LI g ct ad bd s mo P Ln fo n ro S T H locs) (hl : lv_has ls 4 [(0, .ref b), (1, .ref (ad 0)), (2, .ref (bd 0)), (3, .int (nI i))]) : W p l e room_1 s m #[Value.ref b] below meth c H locs (n + 10) (2 * n + 40856) QQ (F0 m 281 ls []) := by
  obtain ⟨hA0, hXI, hMI, hPx, hPm, hDx, hDm, hap, hS⟩ := hLI
  have hA : ∀ q : Nat, s.heap.size ≤ q → (fun q : Nat => s.heap.size ≤ q) q := fun _ h => h
  have hbA : ¬ (fun q : Nat => s.heap.size ≤ q) b := Nat.not_le.mpr hbl
  have hn := (IsC_b hXI.2.2.2.2.2.1).2
  have hcs : n + 10 ≤ room_1.cells ∧ 2 * n + 40856 ≤ room_1.slots := ⟨by show n + 10 ≤ 600000; omega, by show 2 * n + 40856 ≤ 7302250; omega⟩
  have hv : ∀ j : Nat, j < 8 → vp_in (nI i + nI j) L := fun j hj => by rw [nI_add]; exact nu_in (by omega) (by omega)
  obtain ⟨rr, mo1, P1, L1, fo1, hA1, hc, hm⟩ := st_both (x1 := xs (nI i + 1).toNatClampNeg) (x2 := xs (nI i + 2).toNatClampNeg) (x3 := xs (nI i + 3).toNatClampNeg) (x4 := xs (nI i + 4).toNatClampNeg) (fo := fo) hA0
  refine lv_aload_n C.1 C.2.1 dL_law_281 rfl (lv_at hl 1 rfl) ?_
  refine lv_aload_n C.1 C.2.1 dL_law_282 rfl (lv_at hl 0 rfl) ?_
  refine lv_iload_n C.1 C.2.1 dL_law_283 rfl (lv_at hl 3 rfl) ?_
  refine lv_iconst (v := 1) C.1 C.2.1 dL_law_284 (by decide) ?_
  refine lv_iadd C.1 C.2.1 dL_law_285 ?_
  refine va_sld C.1 C.2.1 hX hbl hbA hS (hv 1 (by decide)) dL_law_286 ?_
  refine lv_aload_n C.1 C.2.1 dL_law_287 rfl (lv_at hl 0 rfl) ?_
  refine lv_iload_n C.1 C.2.1 dL_law_288 rfl (lv_at hl 3 rfl) ?_
  refine lv_iconst (v := 2) C.1 C.2.1 dL_law_289 (by decide) ?_
  refine lv_iadd C.1 C.2.1 dL_law_290 ?_
  refine va_sld C.1 C.2.1 hX hbl hbA hS (hv 2 (by decide)) dL_law_291 ?_
  refine lv_aload_n C.1 C.2.1 dL_law_292 rfl (lv_at hl 0 rfl) ?_
  refine lv_iload_n C.1 C.2.1 dL_law_293 rfl (lv_at hl 3 rfl) ?_
  refine lv_iconst (v := 3) C.1 C.2.1 dL_law_294 (by decide) ?_
  refine lv_iadd C.1 C.2.1 dL_law_295 ?_
  refine va_sld C.1 C.2.1 hX hbl hbA hS (hv 3 (by decide)) dL_law_296 ?_
  refine lv_aload_n C.1 C.2.1 dL_law_297 rfl (lv_at hl 0 rfl) ?_
  refine lv_iload_n C.1 C.2.1 dL_law_298 rfl (lv_at hl 3 rfl) ?_
  refine lv_iconst (v := 4) C.1 C.2.1 dL_law_299 (by decide) ?_
  refine lv_iadd C.1 C.2.1 dL_law_300 ?_
  refine va_sld C.1 C.2.1 hX hbl hbA hS (hv 4 (by decide)) dL_law_301 ?_
  refine l_ci (w := wX ct ad n ro) (w2 := wM ct bd T) C hKx hN hA hPx hPm hDx hap hS (mX6_both l g ct ad n ro H.size S (xs (nI i + 1).toNatClampNeg) (xs (nI i + 2).toNatClampNeg) (xs (nI i + 3).toNatClampNeg) (xs (nI i + 4).toNatClampNeg) _ (hc n S hXI)) (cwV 4 C.2.2.2.2 gL_law_X6_both rfl rfl rfl (by decide +kernel) ⟨(Nat.le_of_ble_eq_true rfl), (Nat.le_of_ble_eq_true rfl)⟩) (va_recv hKx hPx (ci := 6) (q0 := 0) rfl rfl) rfl hl.1 rfl (Nat.le_of_ble_eq_true rfl) dL_law_302 hcs (fun r1 S1 H locs h1 hPx hPm hDx hap hS => ?_)
  refine lv_aload_n C.1 C.2.1 dL_law_305 rfl (lv_at hl 2 rfl) ?_
  refine lv_aload_n C.1 C.2.1 dL_law_306 rfl (lv_at hl 0 rfl) ?_
  refine lv_iload_n C.1 C.2.1 dL_law_307 rfl (lv_at hl 3 rfl) ?_
  refine lv_iconst (v := 1) C.1 C.2.1 dL_law_308 (by decide) ?_
  refine lv_iadd C.1 C.2.1 dL_law_309 ?_
  refine va_sld C.1 C.2.1 hX hbl hbA hS (hv 1 (by decide)) dL_law_310 ?_
  refine lv_aload_n C.1 C.2.1 dL_law_311 rfl (lv_at hl 0 rfl) ?_
  refine lv_iload_n C.1 C.2.1 dL_law_312 rfl (lv_at hl 3 rfl) ?_
  refine lv_iconst (v := 2) C.1 C.2.1 dL_law_313 (by decide) ?_
  refine lv_iadd C.1 C.2.1 dL_law_314 ?_
  refine va_sld C.1 C.2.1 hX hbl hbA hS (hv 2 (by decide)) dL_law_315 ?_
  refine lv_aload_n C.1 C.2.1 dL_law_316 rfl (lv_at hl 0 rfl) ?_
  refine lv_iload_n C.1 C.2.1 dL_law_317 rfl (lv_at hl 3 rfl) ?_
  refine lv_iconst (v := 3) C.1 C.2.1 dL_law_318 (by decide) ?_
  refine lv_iadd C.1 C.2.1 dL_law_319 ?_
  refine va_sld C.1 C.2.1 hX hbl hbA hS (hv 3 (by decide)) dL_law_320 ?_
  refine lv_aload_n C.1 C.2.1 dL_law_321 rfl (lv_at hl 0 rfl) ?_
  refine lv_iload_n C.1 C.2.1 dL_law_322 rfl (lv_at hl 3 rfl) ?_
  refine lv_iconst (v := 4) C.1 C.2.1 dL_law_323 (by decide) ?_
  refine lv_iadd C.1 C.2.1 dL_law_324 ?_
  refine va_sld C.1 C.2.1 hX hbl hbA hS (hv 4 (by decide)) dL_law_325 ?_
  refine l_ci (w := wM ct bd) (w2 := wX ct ad n ro S1) C hKm hN hA hPm hPx hDm (apart_sym hap) hS (mX7_both l g ct bd H.size T (xs (nI i + 1).toNatClampNeg) (xs (nI i + 2).toNatClampNeg) (xs (nI i + 3).toNatClampNeg) (xs (nI i + 4).toNatClampNeg) _ (hm T hMI)) (cwV 4 C.2.2.2.2 gL_law_X7_both rfl rfl rfl (by decide +kernel) ⟨(Nat.le_of_ble_eq_true rfl), (Nat.le_of_ble_eq_true rfl)⟩) (va_recv hKm hPm (ci := 7) (q0 := 0) rfl rfl) rfl hl.1 rfl (Nat.le_of_ble_eq_true rfl) dL_law_326 hcs (fun r2 T1 H locs h2 hPm hPx hDm hap hS => ?_)
  exact lv_icmp_eq (tgt := 453) C.1 C.2.1 dL_law_329 (by decide) (fun _ => nx mo1 P1 L1 fo1 n ro S1 T1 H locs ls ⟨hA1, h1.2, h2.2, hPx, hPm, hDx, hDm, apart_sym hap, hS⟩ hl) (fun q => absurd (h1.1.trans h2.1.symm) q)
set_option maxHeartbeats 8000000 in
set_option maxRecDepth 100000 in
theorem k_is (C : CallFix p m c cL_law 4 s #[Value.ref b] wsL_law RL) (hX : va_X b L xs s s.heap) (hbl : b < s.heap.size) (hKx : va_K g vwCl (xT ct) s) (hKm : va_K g vwCl (mT ct) s) (hN : xN s) (hi : i + 8 ≤ L) (hL : L ≤ 4096) (nx : NX p l e s m below meth c b i QQ g ct ad bd) (hLI : LI g ct ad bd s mo P Ln fo n ro S T H locs) (hl : lv_has ls 4 [(0, .ref b), (1, .ref (ad 0)), (2, .ref (bd 0)), (3, .int (nI i))]) : W p l e room_1 s m #[Value.ref b] below meth c H locs (n + 10) (2 * n + 40856) QQ (F0 m 334 ls []) := by
  obtain ⟨hA0, hXI, hMI, hPx, hPm, hDx, hDm, hap, hS⟩ := hLI
  have hA : ∀ q : Nat, s.heap.size ≤ q → (fun q : Nat => s.heap.size ≤ q) q := fun _ h => h
  have hbA : ¬ (fun q : Nat => s.heap.size ≤ q) b := Nat.not_le.mpr hbl
  have hn := (IsC_b hXI.2.2.2.2.2.1).2
  have hcs : n + 10 ≤ room_1.cells ∧ 2 * n + 40856 ≤ room_1.slots := ⟨by show n + 10 ≤ 600000; omega, by show 2 * n + 40856 ≤ 7302250; omega⟩
  have hv : ∀ j : Nat, j < 8 → vp_in (nI i + nI j) L := fun j hj => by rw [nI_add]; exact nu_in (by omega) (by omega)
  obtain ⟨rr, mo1, P1, L1, fo1, hA1, hc, hm⟩ := st_is (x1 := ((xs (nI i + 1).toNatClampNeg).toInt64 <<< ((32 : Int32).toInt64 &&& 63)) ||| ((xs (nI i + 2).toNatClampNeg).toInt64 &&& 4294967295)) (fo := fo) hA0
  refine lv_aload_n C.1 C.2.1 dL_law_334 rfl (lv_at hl 1 rfl) ?_
  refine lv_aload_n C.1 C.2.1 dL_law_335 rfl (lv_at hl 0 rfl) ?_
  refine lv_iload_n C.1 C.2.1 dL_law_336 rfl (lv_at hl 3 rfl) ?_
  refine lv_iconst (v := 1) C.1 C.2.1 dL_law_337 (by decide) ?_
  refine lv_iadd C.1 C.2.1 dL_law_338 ?_
  refine va_sld C.1 C.2.1 hX hbl hbA hS (hv 1 (by decide)) dL_law_339 ?_
  refine lv_i2l C.1 C.2.1 dL_law_340 rfl ?_
  refine lv_bipush (v := 32) C.1 C.2.1 dL_law_341 (by decide) ?_
  refine lv_lshl C.1 C.2.1 dL_law_343 rfl ?_
  refine lv_aload_n C.1 C.2.1 dL_law_344 rfl (lv_at hl 0 rfl) ?_
  refine lv_iload_n C.1 C.2.1 dL_law_345 rfl (lv_at hl 3 rfl) ?_
  refine lv_iconst (v := 2) C.1 C.2.1 dL_law_346 (by decide) ?_
  refine lv_iadd C.1 C.2.1 dL_law_347 ?_
  refine va_sld C.1 C.2.1 hX hbl hbA hS (hv 2 (by decide)) dL_law_348 ?_
  refine lv_i2l C.1 C.2.1 dL_law_349 rfl ?_
  refine lv_ldc2 (v := 4294967295) C.1 C.2.1 C.2.2.2.1 (C.2.2.2.2 (.constantLong RL 47 (4294967295)) (by decide +kernel)) dL_law_350 ?_
  refine lv_land C.1 C.2.1 dL_law_353 ?_
  refine lv_lor C.1 C.2.1 dL_law_354 ?_
  refine l_ci (w := wX ct ad n ro) (w2 := wM ct bd T) C hKx hN hA hPx hPm hDx hap hS (mX6_is l g ct ad n ro H.size S (((xs (nI i + 1).toNatClampNeg).toInt64 <<< ((32 : Int32).toInt64 &&& 63)) ||| ((xs (nI i + 2).toNatClampNeg).toInt64 &&& 4294967295)) _ (hc n S hXI)) (cwV 1 C.2.2.2.2 gL_law_X6_is rfl rfl rfl (by decide +kernel) ⟨(Nat.le_of_ble_eq_true rfl), (Nat.le_of_ble_eq_true rfl)⟩) (va_recv hKx hPx (ci := 6) (q0 := 0) rfl rfl) rfl hl.1 rfl (Nat.le_of_ble_eq_true rfl) dL_law_355 hcs (fun r1 S1 H locs h1 hPx hPm hDx hap hS => ?_)
  refine lv_aload_n C.1 C.2.1 dL_law_358 rfl (lv_at hl 2 rfl) ?_
  refine lv_aload_n C.1 C.2.1 dL_law_359 rfl (lv_at hl 0 rfl) ?_
  refine lv_iload_n C.1 C.2.1 dL_law_360 rfl (lv_at hl 3 rfl) ?_
  refine lv_iconst (v := 1) C.1 C.2.1 dL_law_361 (by decide) ?_
  refine lv_iadd C.1 C.2.1 dL_law_362 ?_
  refine va_sld C.1 C.2.1 hX hbl hbA hS (hv 1 (by decide)) dL_law_363 ?_
  refine lv_i2l C.1 C.2.1 dL_law_364 rfl ?_
  refine lv_bipush (v := 32) C.1 C.2.1 dL_law_365 (by decide) ?_
  refine lv_lshl C.1 C.2.1 dL_law_367 rfl ?_
  refine lv_aload_n C.1 C.2.1 dL_law_368 rfl (lv_at hl 0 rfl) ?_
  refine lv_iload_n C.1 C.2.1 dL_law_369 rfl (lv_at hl 3 rfl) ?_
  refine lv_iconst (v := 2) C.1 C.2.1 dL_law_370 (by decide) ?_
  refine lv_iadd C.1 C.2.1 dL_law_371 ?_
  refine va_sld C.1 C.2.1 hX hbl hbA hS (hv 2 (by decide)) dL_law_372 ?_
  refine lv_i2l C.1 C.2.1 dL_law_373 rfl ?_
  refine lv_ldc2 (v := 4294967295) C.1 C.2.1 C.2.2.2.1 (C.2.2.2.2 (.constantLong RL 47 (4294967295)) (by decide +kernel)) dL_law_374 ?_
  refine lv_land C.1 C.2.1 dL_law_377 ?_
  refine lv_lor C.1 C.2.1 dL_law_378 ?_
  refine l_ci (w := wM ct bd) (w2 := wX ct ad n ro S1) C hKm hN hA hPm hPx hDm (apart_sym hap) hS (mX7_is l g ct bd H.size T (((xs (nI i + 1).toNatClampNeg).toInt64 <<< ((32 : Int32).toInt64 &&& 63)) ||| ((xs (nI i + 2).toNatClampNeg).toInt64 &&& 4294967295)) _ (hm T hMI)) (cwV 1 C.2.2.2.2 gL_law_X7_is rfl rfl rfl (by decide +kernel) ⟨(Nat.le_of_ble_eq_true rfl), (Nat.le_of_ble_eq_true rfl)⟩) (va_recv hKm hPm (ci := 7) (q0 := 0) rfl rfl) rfl hl.1 rfl (Nat.le_of_ble_eq_true rfl) dL_law_379 hcs (fun r2 T1 H locs h2 hPm hPx hDm hap hS => ?_)
  exact lv_icmp_eq (tgt := 453) C.1 C.2.1 dL_law_382 (by decide) (fun _ => nx mo1 P1 L1 fo1 n ro S1 T1 H locs ls ⟨hA1, h1.2, h2.2, hPx, hPm, hDx, hDm, apart_sym hap, hS⟩ hl) (fun q => absurd (h1.1.trans h2.1.symm) q)
set_option maxHeartbeats 8000000 in
set_option maxRecDepth 100000 in
theorem k_instruction (C : CallFix p m c cL_law 4 s #[Value.ref b] wsL_law RL) (hX : va_X b L xs s s.heap) (hbl : b < s.heap.size) (hKx : va_K g vwCl (xT ct) s) (hKm : va_K g vwCl (mT ct) s) (hN : xN s) (hi : i + 8 ≤ L) (hL : L ≤ 4096) (nx : NX p l e s m below meth c b i QQ g ct ad bd) (hLI : LI g ct ad bd s mo P Ln fo n ro S T H locs) (hl : lv_has ls 4 [(0, .ref b), (1, .ref (ad 0)), (2, .ref (bd 0)), (3, .int (nI i))]) : W p l e room_1 s m #[Value.ref b] below meth c H locs (n + 10) (2 * n + 40856) QQ (F0 m 387 ls []) := by
  obtain ⟨hA0, hXI, hMI, hPx, hPm, hDx, hDm, hap, hS⟩ := hLI
  have hA : ∀ q : Nat, s.heap.size ≤ q → (fun q : Nat => s.heap.size ≤ q) q := fun _ h => h
  have hbA : ¬ (fun q : Nat => s.heap.size ≤ q) b := Nat.not_le.mpr hbl
  have hn := (IsC_b hXI.2.2.2.2.2.1).2
  have hcs : n + 10 ≤ room_1.cells ∧ 2 * n + 40856 ≤ room_1.slots := ⟨by show n + 10 ≤ 600000; omega, by show 2 * n + 40856 ≤ 7302250; omega⟩
  have hv : ∀ j : Nat, j < 8 → vp_in (nI i + nI j) L := fun j hj => by rw [nI_add]; exact nu_in (by omega) (by omega)
  obtain ⟨rr, mo1, P1, L1, fo1, hA1, hc, hm⟩ := st_instruction (x1 := xs (nI i + 1).toNatClampNeg) (x2 := xs (nI i + 2).toNatClampNeg) (x3 := xs (nI i + 3).toNatClampNeg) (fo := fo) hA0
  refine lv_aload_n C.1 C.2.1 dL_law_387 rfl (lv_at hl 1 rfl) ?_
  refine lv_aload_n C.1 C.2.1 dL_law_388 rfl (lv_at hl 0 rfl) ?_
  refine lv_iload_n C.1 C.2.1 dL_law_389 rfl (lv_at hl 3 rfl) ?_
  refine lv_iconst (v := 1) C.1 C.2.1 dL_law_390 (by decide) ?_
  refine lv_iadd C.1 C.2.1 dL_law_391 ?_
  refine va_sld C.1 C.2.1 hX hbl hbA hS (hv 1 (by decide)) dL_law_392 ?_
  refine lv_aload_n C.1 C.2.1 dL_law_393 rfl (lv_at hl 0 rfl) ?_
  refine lv_iload_n C.1 C.2.1 dL_law_394 rfl (lv_at hl 3 rfl) ?_
  refine lv_iconst (v := 2) C.1 C.2.1 dL_law_395 (by decide) ?_
  refine lv_iadd C.1 C.2.1 dL_law_396 ?_
  refine va_sld C.1 C.2.1 hX hbl hbA hS (hv 2 (by decide)) dL_law_397 ?_
  refine lv_aload_n C.1 C.2.1 dL_law_398 rfl (lv_at hl 0 rfl) ?_
  refine lv_iload_n C.1 C.2.1 dL_law_399 rfl (lv_at hl 3 rfl) ?_
  refine lv_iconst (v := 3) C.1 C.2.1 dL_law_400 (by decide) ?_
  refine lv_iadd C.1 C.2.1 dL_law_401 ?_
  refine va_sld C.1 C.2.1 hX hbl hbA hS (hv 3 (by decide)) dL_law_402 ?_
  refine l_ci (w := wX ct ad n ro) (w2 := wM ct bd T) C hKx hN hA hPx hPm hDx hap hS (mX6_instruction l g ct ad n ro H.size S (xs (nI i + 1).toNatClampNeg) (xs (nI i + 2).toNatClampNeg) (xs (nI i + 3).toNatClampNeg) _ (hc n S hXI)) (cwV 3 C.2.2.2.2 gL_law_X6_instruction rfl rfl rfl (by decide +kernel) ⟨(Nat.le_of_ble_eq_true rfl), (Nat.le_of_ble_eq_true rfl)⟩) (va_recv hKx hPx (ci := 6) (q0 := 0) rfl rfl) rfl hl.1 rfl (Nat.le_of_ble_eq_true rfl) dL_law_403 hcs (fun r1 S1 H locs h1 hPx hPm hDx hap hS => ?_)
  refine lv_aload_n C.1 C.2.1 dL_law_406 rfl (lv_at hl 2 rfl) ?_
  refine lv_aload_n C.1 C.2.1 dL_law_407 rfl (lv_at hl 0 rfl) ?_
  refine lv_iload_n C.1 C.2.1 dL_law_408 rfl (lv_at hl 3 rfl) ?_
  refine lv_iconst (v := 1) C.1 C.2.1 dL_law_409 (by decide) ?_
  refine lv_iadd C.1 C.2.1 dL_law_410 ?_
  refine va_sld C.1 C.2.1 hX hbl hbA hS (hv 1 (by decide)) dL_law_411 ?_
  refine lv_aload_n C.1 C.2.1 dL_law_412 rfl (lv_at hl 0 rfl) ?_
  refine lv_iload_n C.1 C.2.1 dL_law_413 rfl (lv_at hl 3 rfl) ?_
  refine lv_iconst (v := 2) C.1 C.2.1 dL_law_414 (by decide) ?_
  refine lv_iadd C.1 C.2.1 dL_law_415 ?_
  refine va_sld C.1 C.2.1 hX hbl hbA hS (hv 2 (by decide)) dL_law_416 ?_
  refine lv_aload_n C.1 C.2.1 dL_law_417 rfl (lv_at hl 0 rfl) ?_
  refine lv_iload_n C.1 C.2.1 dL_law_418 rfl (lv_at hl 3 rfl) ?_
  refine lv_iconst (v := 3) C.1 C.2.1 dL_law_419 (by decide) ?_
  refine lv_iadd C.1 C.2.1 dL_law_420 ?_
  refine va_sld C.1 C.2.1 hX hbl hbA hS (hv 3 (by decide)) dL_law_421 ?_
  refine l_ci (w := wM ct bd) (w2 := wX ct ad n ro S1) C hKm hN hA hPm hPx hDm (apart_sym hap) hS (mX7_instruction l g ct bd H.size T (xs (nI i + 1).toNatClampNeg) (xs (nI i + 2).toNatClampNeg) (xs (nI i + 3).toNatClampNeg) _ (hm T hMI)) (cwV 3 C.2.2.2.2 gL_law_X7_instruction rfl rfl rfl (by decide +kernel) ⟨(Nat.le_of_ble_eq_true rfl), (Nat.le_of_ble_eq_true rfl)⟩) (va_recv hKm hPm (ci := 7) (q0 := 0) rfl rfl) rfl hl.1 rfl (Nat.le_of_ble_eq_true rfl) dL_law_422 hcs (fun r2 T1 H locs h2 hPm hPx hDm hap hS => ?_)
  exact lv_icmp_eq (tgt := 453) C.1 C.2.1 dL_law_425 (by decide) (fun _ => nx mo1 P1 L1 fo1 n ro S1 T1 H locs ls ⟨hA1, h1.2, h2.2, hPx, hPm, hDx, hDm, apart_sym hap, hS⟩ hl) (fun q => absurd (h1.1.trans h2.1.symm) q)
set_option maxHeartbeats 8000000 in
set_option maxRecDepth 100000 in
theorem k_count (C : CallFix p m c cL_law 4 s #[Value.ref b] wsL_law RL) (hX : va_X b L xs s s.heap) (hbl : b < s.heap.size) (hKx : va_K g vwCl (xT ct) s) (hKm : va_K g vwCl (mT ct) s) (hN : xN s) (hi : i + 8 ≤ L) (hL : L ≤ 4096) (nx : NX p l e s m below meth c b i QQ g ct ad bd) (hLI : LI g ct ad bd s mo P Ln fo n ro S T H locs) (hl : lv_has ls 4 [(0, .ref b), (1, .ref (ad 0)), (2, .ref (bd 0)), (3, .int (nI i))]) : W p l e room_1 s m #[Value.ref b] below meth c H locs (n + 10) (2 * n + 40856) QQ (F0 m 430 ls []) := by
  obtain ⟨hA0, hXI, hMI, hPx, hPm, hDx, hDm, hap, hS⟩ := hLI
  have hA : ∀ q : Nat, s.heap.size ≤ q → (fun q : Nat => s.heap.size ≤ q) q := fun _ h => h
  have hbA : ¬ (fun q : Nat => s.heap.size ≤ q) b := Nat.not_le.mpr hbl
  have hn := (IsC_b hXI.2.2.2.2.2.1).2
  have hcs : n + 10 ≤ room_1.cells ∧ 2 * n + 40856 ≤ room_1.slots := ⟨by show n + 10 ≤ 600000; omega, by show 2 * n + 40856 ≤ 7302250; omega⟩
  have hv : ∀ j : Nat, j < 8 → vp_in (nI i + nI j) L := fun j hj => by rw [nI_add]; exact nu_in (by omega) (by omega)
  obtain ⟨rr, mo1, P1, L1, fo1, hA1, hc, hm⟩ := st_count (x1 := xs (nI i + 1).toNatClampNeg) (fo := fo) hA0
  refine lv_aload_n C.1 C.2.1 dL_law_430 rfl (lv_at hl 1 rfl) ?_
  refine lv_aload_n C.1 C.2.1 dL_law_431 rfl (lv_at hl 0 rfl) ?_
  refine lv_iload_n C.1 C.2.1 dL_law_432 rfl (lv_at hl 3 rfl) ?_
  refine lv_iconst (v := 1) C.1 C.2.1 dL_law_433 (by decide) ?_
  refine lv_iadd C.1 C.2.1 dL_law_434 ?_
  refine va_sld C.1 C.2.1 hX hbl hbA hS (hv 1 (by decide)) dL_law_435 ?_
  refine l_ci (w := wX ct ad n ro) (w2 := wM ct bd T) C hKx hN hA hPx hPm hDx hap hS (mX6_count l g ct ad n ro H.size S (xs (nI i + 1).toNatClampNeg) _ (hc n S hXI)) (cwV 1 C.2.2.2.2 gL_law_X6_count rfl rfl rfl (by decide +kernel) ⟨(Nat.le_of_ble_eq_true rfl), (Nat.le_of_ble_eq_true rfl)⟩) (va_recv hKx hPx (ci := 6) (q0 := 0) rfl rfl) rfl hl.1 rfl (Nat.le_of_ble_eq_true rfl) dL_law_436 hcs (fun r1 S1 H locs h1 hPx hPm hDx hap hS => ?_)
  refine lv_aload_n C.1 C.2.1 dL_law_439 rfl (lv_at hl 2 rfl) ?_
  refine lv_aload_n C.1 C.2.1 dL_law_440 rfl (lv_at hl 0 rfl) ?_
  refine lv_iload_n C.1 C.2.1 dL_law_441 rfl (lv_at hl 3 rfl) ?_
  refine lv_iconst (v := 1) C.1 C.2.1 dL_law_442 (by decide) ?_
  refine lv_iadd C.1 C.2.1 dL_law_443 ?_
  refine va_sld C.1 C.2.1 hX hbl hbA hS (hv 1 (by decide)) dL_law_444 ?_
  refine l_ci (w := wM ct bd) (w2 := wX ct ad n ro S1) C hKm hN hA hPm hPx hDm (apart_sym hap) hS (mX7_count l g ct bd H.size T (xs (nI i + 1).toNatClampNeg) _ (hm T hMI)) (cwV 1 C.2.2.2.2 gL_law_X7_count rfl rfl rfl (by decide +kernel) ⟨(Nat.le_of_ble_eq_true rfl), (Nat.le_of_ble_eq_true rfl)⟩) (va_recv hKm hPm (ci := 7) (q0 := 0) rfl rfl) rfl hl.1 rfl (Nat.le_of_ble_eq_true rfl) dL_law_445 hcs (fun r2 T1 H locs h2 hPm hPx hDm hap hS => ?_)
  exact lv_icmp_eq (tgt := 453) C.1 C.2.1 dL_law_448 (by decide) (fun _ => nx mo1 P1 L1 fo1 n ro S1 T1 H locs ls ⟨hA1, h1.2, h2.2, hPx, hPm, hDx, hDm, apart_sym hap, hS⟩ hl) (fun q => absurd (h1.1.trans h2.1.symm) q)
end LAWC
