/-! add -/
theorem v_R {v : Int32} (h : soR v) : v = 0 ∨ v = 1 ∨ v = 2 ∨ v = 3 := by
  unfold soR at h
  simp only [← Int32.toInt_inj, ti_0, ti_1, ti_2, ti_3]; omega
theorem v_X {v : Int32} (h : soX v) : v = 0 ∨ v = 1 ∨ v = 2 := by
  unfold soX at h
  simp only [← Int32.toInt_inj, ti_0, ti_1, ti_2]; omega
theorem v_Y {v : Int32} (h : soY v) : v = -1 ∨ v = 0 ∨ v = 1 ∨ v = 2 ∨ v = 3 := by
  unfold soY at h
  simp only [← Int32.toInt_inj, ti_m1, ti_0, ti_1, ti_2, ti_3]; omega
theorem v_N {v : Int32} (h : soN v) : v = 1 ∨ v = 2 ∨ v = 3 ∨ v = 4 ∨ v = 5 := by
  unfold soN at h
  simp only [← Int32.toInt_inj, ti_1, ti_2, ti_3, ti_4, ti_5]; omega
theorem v_L {v : Int32} (h : soL v) : soR v := by unfold soL at h; unfold soR; omega
theorem v_S {v : Int32} (h : soS v) : soR v := by unfold soS at h; unfold soR; omega
theorem n_R {v : Int32} (h : soR v) : v.toNatClampNeg < 4 ∧ nI v.toNatClampNeg = v := by
  rcases v_R h with rfl | rfl | rfl | rfl <;> decide
theorem n_X {v : Int32} (h : soX v) : v.toNatClampNeg < 3 ∧ nI v.toNatClampNeg = v := by
  rcases v_X h with rfl | rfl | rfl <;> decide
theorem n_Y {v : Int32} (h : soY v) : (v + 1).toNatClampNeg < 5 ∧ nI (v + 1).toNatClampNeg - 1 = v := by
  rcases v_Y h with rfl | rfl | rfl | rfl | rfl <;> decide
theorem n_N {v : Int32} (h : soN v) : (1 ≤ v.toNatClampNeg ∧ v.toNatClampNeg < 6) ∧ nI v.toNatClampNeg = v := by
  rcases v_N h with rfl | rfl | rfl | rfl | rfl <;> decide
def ux (k : Nat) (x : Nat → Int32) (j : Nat) : Nat := if j = 0 then k else if j ≤ lnK k then (if j = yK k then (x j + 1).toNatClampNeg else (x j).toNatClampNeg) else 0
/-- what a row holds -/
def rwX (k : Nat) (x : Nat → Int32) (j : Nat) : Int32 := if j ≤ lnK k then x j else 0
theorem ux_0 (k : Nat) (x : Nat → Int32) : ux k x 0 = k := rfl
theorem six {p : Nat → Prop} (h0 : p 0) (h1 : p 1) (h2 : p 2) (h3 : p 3) (h4 : p 4) (h5 : p 5) : ∀ j, j < 6 → p j := by
  intro j hj
  rcases (show j = 0 ∨ j = 1 ∨ j = 2 ∨ j = 3 ∨ j = 4 ∨ j = 5 by omega) with rfl | rfl | rfl | rfl | rfl | rfl
  · exact h0
  · exact h1
  · exact h2
  · exact h3
  · exact h4
  · exact h5
theorem ux_dc {k : Nat} {x : Nat → Int32} (hk : k < 11) (ek : x 0 = nI k) (hg : gdP k x) : GR (ux k x) ∧ ∀ j, j < 6 → rwX k x j = dcK k j (ux k x j) := by
  rcases (show k = 0 ∨ k = 1 ∨ k = 2 ∨ k = 3 ∨ k = 4 ∨ k = 5 ∨ k = 6 ∨ k = 7 ∨ k = 8 ∨ k = 9 ∨ k = 10 by omega) with rfl | rfl | rfl | rfl | rfl | rfl | rfl | rfl | rfl | rfl | rfl
  · obtain ⟨a, b, c, d⟩ := gd_0.mp hg
    exact ⟨Or.inl ⟨Or.inl rfl, (n_R a).1, (n_X b).1, (n_Y c).1, (n_R (v_L d)).1⟩, six ek (n_R a).2.symm (n_X b).2.symm (n_Y c).2.symm (n_R (v_L d)).2.symm rfl⟩
  · obtain ⟨a, b, c, d⟩ := gd_1.mp hg
    exact ⟨Or.inl ⟨Or.inr (Or.inl rfl), (n_R a).1, (n_X b).1, (n_Y c).1, (n_R (v_S d)).1⟩, six ek (n_R a).2.symm (n_X b).2.symm (n_Y c).2.symm (n_R (v_S d)).2.symm rfl⟩
  · obtain ⟨a, b, c, d, e⟩ := gd_2.mp hg
    exact ⟨Or.inr (Or.inl ⟨Or.inl rfl, (n_R a).1, (n_R b).1, (n_X c).1, (n_Y d).1, (n_R e).1⟩), six ek (n_R a).2.symm (n_R b).2.symm (n_X c).2.symm (n_Y d).2.symm (n_R e).2.symm⟩
  · obtain ⟨a, b, c, d, e⟩ := gd_3.mp hg
    exact ⟨Or.inr (Or.inl ⟨Or.inr (Or.inl rfl), (n_R a).1, (n_R b).1, (n_X c).1, (n_Y d).1, (n_R e).1⟩), six ek (n_R a).2.symm (n_R b).2.symm (n_X c).2.symm (n_Y d).2.symm (n_R e).2.symm⟩
  · obtain ⟨a, b, c, d⟩ := gd_4.mp hg
    exact ⟨Or.inl ⟨Or.inr (Or.inr rfl), (n_R a).1, (n_X b).1, (n_Y c).1, (n_R (v_L d)).1⟩, six ek (n_R a).2.symm (n_X b).2.symm (n_Y c).2.symm (n_R (v_L d)).2.symm rfl⟩
  · obtain ⟨a, b, c, d, e⟩ := gd_5.mp hg
    exact ⟨Or.inr (Or.inl ⟨Or.inr (Or.inr rfl), (n_R a).1, (n_R b).1, (n_X c).1, (n_Y d).1, (n_R e).1⟩), six ek (n_R a).2.symm (n_R b).2.symm (n_X c).2.symm (n_Y d).2.symm (n_R e).2.symm⟩
  · obtain ⟨a, b⟩ := gd_6.mp hg
    exact ⟨Or.inr (Or.inr (Or.inl ⟨rfl, (n_R a).1, (n_R b).1⟩)), six ek (n_R a).2.symm (n_R b).2.symm rfl rfl rfl⟩
  · obtain ⟨a, b⟩ := gd_7.mp hg
    exact ⟨Or.inr (Or.inr (Or.inr (Or.inl ⟨rfl, (n_R a).1, (n_R b).1⟩))), six ek (n_R a).2.symm (n_R b).2.symm rfl rfl rfl⟩
  · obtain ⟨a, b, c⟩ := gd_8.mp hg
    exact ⟨Or.inr (Or.inr (Or.inr (Or.inr (Or.inl ⟨Or.inl rfl, (n_R a).1, (n_R b).1, (n_R c).1⟩)))), six ek (n_R a).2.symm (n_R b).2.symm (n_R c).2.symm rfl rfl⟩
  · obtain ⟨a, b, c⟩ := gd_9.mp hg
    exact ⟨Or.inr (Or.inr (Or.inr (Or.inr (Or.inl ⟨Or.inr rfl, (n_R a).1, (n_R b).1, (n_R c).1⟩)))), six ek (n_R a).2.symm (n_R b).2.symm (n_R c).2.symm rfl rfl⟩
  · obtain ⟨a, b⟩ := gd_10.mp hg
    exact ⟨Or.inr (Or.inr (Or.inr (Or.inr (Or.inr ⟨rfl, (n_R a).1, (n_N b).1⟩)))), six ek (n_R a).2.symm (n_N b).2.symm rfl rfl rfl⟩
def aP (P : Nat → Nat → Nat → Nat) (a i : Nat) (u : Nat → Nat) : Nat → Nat → Nat → Nat := fun h j => if h = a ∧ j = i then u else P h j
def aL (L : Nat → Nat) (a : Nat) : Nat → Nat := fun h => if h = a then L a + 1 else L h
section ADD
variable {mo : Nat} {P : Nat → Nat → Nat → Nat} {L : Nat → Nat} {fo : Bool}
theorem cmx_old {q : Nat → Bool} {a h i : Nat} {u : Nat → Nat} : ∀ m, (h = a → m ≤ i) → cm q (aP P a i u) h m = cm q P h m
  | 0, _ => rfl
  | m + 1, hm => by
    rw [cm, cm, cmx_old m (fun e => by have := hm e; omega)]
    congr 3
    unfold aP
    rw [if_neg (fun q => by have := hm q.1; omega)]
theorem cmx_new {q : Nat → Bool} {a : Nat} {u : Nat → Nat} : cm q (aP P a (L a) u) a (L a + 1) = cm q P a (L a) + b2n (q (u 0)) := by
  rw [cm, cmx_old (L a) (fun _ => Nat.le_refl _)]
  congr 3
  unfold aP
  rw [if_pos ⟨rfl, rfl⟩]
theorem cmR_add {q : Nat → Bool} {a : Nat} {u : Nat → Nat} (ha : a < 4) : cmR q (aP P a (L a) u) (aL L a) 4 = cmR q P L 4 + b2n (q (u 0)) := by
  have o : ∀ h, h ≠ a → cm q (aP P a (L a) u) h (aL L a h) = cm q P h (L h) := fun h e => by
    unfold aL; rw [if_neg e]; exact cmx_old _ (fun q => absurd q e)
  have n : cm q (aP P a (L a) u) a (aL L a a) = cm q P a (L a) + b2n (q (u 0)) := by
    unfold aL; rw [if_pos rfl]; exact cmx_new
  rw [cmR, cmR, cmR, cmR, cmR, cmR, cmR, cmR, cmR, cmR]
  rcases (show a = 0 ∨ a = 1 ∨ a = 2 ∨ a = 3 by omega) with rfl | rfl | rfl | rfl
  · rw [n, o 1 (by decide), o 2 (by decide), o 3 (by decide)]; omega
  · rw [n, o 0 (by decide), o 2 (by decide), o 3 (by decide)]; omega
  · rw [n, o 0 (by decide), o 1 (by decide), o 3 (by decide)]; omega
  · rw [n, o 0 (by decide), o 1 (by decide), o 2 (by decide)]; omega
/-- no more fits -/
def FUL (P : Nat → Nat → Nat → Nat) (L : Nat → Nat) (a k : Nat) : Prop := L a = 6 ∨ (k < 6 ∧ cmR (fun k => decide (k < 6)) P L 4 = 6) ∨ (rdK k = true ∧ cmR rdK P L 4 = 4)
theorem OKA_add {a k : Nat} {x : Nat → Int32} (hA : OKA mo P L) (ha : a < 4) (hk : k < 11) (ek : x 0 = nI k) (hg : gdP k x) (hf : ¬ FUL P L a k) : OKA mo (aP P a (L a) (ux k x)) (aL L a) := by
  unfold FUL at hf
  have hl := hA.2.1.1 a ha
  have h6 := hA.2.1.2.2
  rw [acR_cm] at h6
  have h4 := hA.2.2
  refine ⟨hA.1, ⟨fun h hh => ?_, fun h hh i hi => ?_, ?_⟩, ?_⟩
  · unfold aL
    split
    · omega
    · exact hA.2.1.1 h hh
  · unfold aP
    split
    · exact (ux_dc hk ek hg).1
    · rename_i q
      refine hA.2.1.2.1 h hh i ?_
      unfold aL at hi
      by_cases e : h = a
      · subst e
        rw [if_pos rfl] at hi
        have : ¬ i = L h := fun w => q ⟨rfl, w⟩
        omega
      · rw [if_neg e] at hi; exact hi
  · rw [acR_cm, cmR_add ha, ux_0]
    by_cases c : k < 6
    · rw [decide_eq_true c]; show _ + 1 ≤ 6; omega
    · rw [decide_eq_false c]; show _ + 0 ≤ 6; omega
  · rw [cmR_add ha, ux_0]
    cases c : rdK k
    · show _ + 0 ≤ 4; omega
    · show _ + 1 ≤ 4
      have : ¬ cmR rdK P L 4 = 4 := fun w => hf (Or.inr (Or.inr ⟨c, w⟩))
      omega
theorem c_isAccess {k : Nat} {Q : Int32 → Prop} (hk : k < 11) (hQ : Q (zI (decide (k < 6)))) : pX6_isAccess (nI k) Q := by
  have e : ∀ k, k < 11 → (rdK k || wtK k) = decide (k < 6) := by decide
  rw [← e k hk] at hQ
  refine c_isReader hk ⟨fun z => ⟨zb_1, ?_⟩, fun z => c_isWriter hk ⟨fun z2 => ⟨zb_0, ?_⟩, fun z2 => ⟨zb_1, ?_⟩⟩⟩
  · rw [(zI_1 _).mp z] at hQ; exact hQ
  · rw [(zI_0 _).mp z, (zI_0 _).mp z2] at hQ; exact hQ
  · rw [(zI_0 _).mp z, (zI_1 _).mp z2] at hQ; exact hQ
theorem c_copy {k r : Nat} {x : Nat → Int32} {S : St} {Q : St → Prop} (hk : k < 11) (ek : x 0 = nI k) (hx : ∀ j, j < 6 → S.1 21 j = x j) (hQ : ∀ S', S'.1 = S.1 → S'.2.2 = S.2.2 → (∀ r' j, r' ≠ r → S'.2.1 r' j = S.2.1 r' j) → (∀ j, j < 6 → S'.2.1 r j = rwX k x j) → Q S') : pX4_copyDraft r S Q := by
  obtain ⟨f1, f2⟩ := frm_lt k hk
  unfold pX4_copyDraft
  rw [hx 0 (by decide), ek]
  refine c_formOf hk (fun y8 e8 => ⟨7, ?_⟩)
  have e8 : y8 = nI (lnK k + 1) := by rw [e8, nI_1]; rfl
  rw [e8]
  have loop : ∀ d j (S1 : St), j + d = 6 → S1.1 = S.1 → S1.2.2 = S.2.2 → (∀ r' i, r' ≠ r → S1.2.1 r' i = S.2.1 r' i) → (∀ i, i < j → S1.2.1 r i = rwX k x i) → itr (F := Nat → Int32 → Int32 → St → Prop) (fun _ _ _ _ => False) (fun k17 x1 x2 x3 S => bX4_copyDraft_17 k17 Q x1 x2 x3 S) (d + 1) r (nI (lnK k + 1)) (nI j) S1 := by
    intro d
    induction d with
    | zero =>
      intro j S1 hj g1 g2 g3 g4
      have : j = 6 := by omega
      subst this
      exact ⟨fun _ => hQ S1 g1 g2 g3 g4, fun z => absurd (by decide) z⟩
    | succ d ih =>
      intro j S1 hj g1 g2 g3 g4
      have hij : vp_in (nI j) 6 := nu_in (by omega) (by decide)
      have cj : (nI j).toNatClampNeg = j := nu_cl (by omega)
      have put : ∀ t : Int32, t = rwX k x j → bX4_copyDraft_40 (itr (F := Nat → Int32 → Int32 → St → Prop) (fun _ _ _ _ => False) (fun k17 x1 x2 x3 S => bX4_copyDraft_17 k17 Q x1 x2 x3 S) (d + 1)) Q r (nI (lnK k + 1)) (nI j) r (nI j) t S1 := by
        intro t et
        refine ⟨hij, fun S2 e2 y3 e3 => ?_⟩
        rw [cj] at e2
        rw [e3, nI_1]
        refine ih (j + 1) S2 (by omega) (by rw [e2]; exact g1) (by rw [e2]; exact g2) (fun r' i hr => by rw [e2, wrR_2, if_neg hr]; exact g3 r' i hr) (fun i hi => ?_)
        rw [e2, wrR_2, if_pos rfl]
        by_cases q : i = j
        · rw [if_pos q, q]; exact et
        · rw [if_neg q]; exact g4 i (by omega)
      refine ⟨fun z => by rw [show (6 : Int32) = nI 6 from rfl, nI_leI (by decide) (by omega)] at z; omega, fun _ => ⟨fun z => put 0 ?_, fun z => ⟨hij, put _ ?_⟩⟩⟩
      · rw [nI_leI (by omega) (by omega)] at z
        unfold rwX; rw [if_neg (by omega)]
      · rw [nI_leI (by omega) (by omega)] at z
        unfold rwX; rw [if_pos (by omega), cj, g1]; exact hx j (by omega)
  exact loop 6 0 S (by decide) rfl rfl (fun _ _ _ => rfl) (fun i h => absurd h (Nat.not_lt_zero _))
theorem c_add {x1 : Int32} {x : Nat → Int32} {n : Nat} {S : St} {Q : Int32 → St → Prop} (hA : OKA mo P L) (h : XI mo P L fo n S)
    (hB : ((x1 < 0 ∨ nI 4 ≤ x1) ∨ (∀ k, k < 11 → x 0 = nI k → ¬ gdP k x)) → ∀ S', XI mo P L fo n S' → Q (-2) S')
    (hF : ∀ a k, x1 = nI a → a < 4 → k < 11 → x 0 = nI k → gdP k x → FUL P L a k → ∀ S', XI mo P L fo n S' → Q (-3) S')
    (hG : ∀ a k, x1 = nI a → a < 4 → k < 11 → x 0 = nI k → gdP k x → ¬ FUL P L a k → ∀ S', XI mo (aP P a (L a) (ux k x)) (aL L a) false n S' → Q (nI (L a)) S') : pX6_add x1 (x 0) (x 1) (x 2) (x 3) (x 4) (x 5) S Q := by
  intro S1 e1 S2 e2 S3 e3 S4 e4 S5 e5 S6 e6
  have f1 : ∀ v i, v ≠ 21 → S6.1 v i = S.1 v i := fun v i hv => by rw [e6, wr_1, if_neg hv, e5, wr_1, if_neg hv, e4, wr_1, if_neg hv, e3, wr_1, if_neg hv, e2, wr_1, if_neg hv, e1, wr_1, if_neg hv]
  have f2 : S6.2 = S.2 := by rw [e6, e5, e4, e3, e2, e1]; rfl
  have hx : ∀ j, j < 6 → S6.1 21 j = x j := by
    refine six ?_ ?_ ?_ ?_ ?_ ?_ <;> simp [e6, e5, e4, e3, e2, e1, wr_1]
  have hX : XI mo P L fo n S6 := by
    obtain ⟨h0, h1, h2, h3, h4, h5, h6⟩ := h
    refine ⟨by rw [f1 _ _ (by decide)]; exact h0, PR_c h1 (fun i => f1 20 i (by decide)) (by rw [f2]), by rw [f1 _ _ (by decide)]; exact h2, by rw [f1 _ _ (by decide)]; exact h3, by rw [f1 _ _ (by decide)]; exact h4, h5, fun q => ?_⟩
    obtain ⟨k1, k2, k3⟩ := h6 q
    exact ⟨⟨by rw [f1 _ _ (by decide)]; exact k1.1, by rw [f2]; exact k1.2.1, k1.2.2⟩, by rw [f1 _ _ (by decide)]; exact k2, k3⟩
  have bad : ((x1 < 0 ∨ nI 4 ≤ x1) ∨ (∀ k, k < 11 → x 0 = nI k → ¬ gdP k x)) → bX4_append_16 (fun (r3 : Int32) (S2 : St) => ((r3 < 0 → bX6_add_37 Q r3 S2) ∧ (¬ (r3 < 0) → (∀ S4 : St, S4 = wr S2 2 0 (0 : Int32) → bX6_add_37 Q r3 S4)))) S6 := fun q => ⟨fun _ => hB q S6 hX, fun y => absurd (by decide) y⟩
  refine ⟨fun z => bad (Or.inl (Or.inl z)), fun z => ⟨fun z2 => bad (Or.inl (Or.inr z2)), fun z2 => ?_⟩⟩
  obtain ⟨a, ea, ha⟩ := (i_rng (x := x1) (k := 4) (by decide)).resolve_left (by
    rintro (q | q)
    · exact z q
    · exact z2 q)
  refine c_good hx (fun k hk ek hg => ⟨fun _ y24 e24 => ?_, fun y => absurd y (by decide)⟩) (fun q => ⟨fun y => absurd rfl y, fun _ => bad (Or.inr q)⟩)
  rw [hx 0 (by decide), ek] at e24
  rw [e24]
  obtain ⟨h0, h1, h2, h3, h4, h5, h6⟩ := hX
  have hl := hA.2.1.1 a ha
  have c6 := hA.2.1.2.2
  rw [acR_cm] at c6
  have c4 := hA.2.2
  have ca : x1.toNatClampNeg = a := by rw [ea, nu_cl (by omega)]
  have hia : vp_in x1 4 := by rw [ea]; exact nu_in ha (by decide)
  have full : FUL P L a k → bX4_append_90 (fun (r3 : Int32) (S2 : St) => ((r3 < 0 → bX6_add_37 Q r3 S2) ∧ (¬ (r3 < 0) → (∀ S4 : St, S4 = wr S2 2 0 (0 : Int32) → bX6_add_37 Q r3 S4)))) S6 := fun q => ⟨fun _ => hF a k ea ha hk ek hg q S6 ⟨h0, h1, h2, h3, h4, h5, h6⟩, fun y => absurd (by decide) y⟩
  have k68 : ∀ (t3 t0 : Int32) (B3 B0 : Bool), t3 = zI B3 → t0 = zI B0 → (B3 = true ↔ k < 6 ∧ cmR (fun k => decide (k < 6)) P L 4 = 6) → (B0 = true ↔ rdK k = true ∧ cmR rdK P L 4 = 4) → bX4_append_68 (fun (r3 : Int32) (S2 : St) => ((r3 < 0 → bX6_add_37 Q r3 S2) ∧ (¬ (r3 < 0) → (∀ S4 : St, S4 = wr S2 2 0 (0 : Int32) → bX6_add_37 Q r3 S4)))) x1 (nI k) t3 t0 S6 := by
    intro t3 t0 B3 B0 et3 et0 hB3 hB0
    rw [et3, et0]
    refine ⟨hia, ?_⟩
    rw [ca, (h1.1 a ha).1]
    refine ⟨fun z => full (Or.inl ?_), fun z => ⟨fun z3 => full (Or.inr (Or.inl (hB3.mp ((zI_1 _).mp z3)))), fun z3 => ⟨fun z4 => ?_, fun z4 => full (Or.inr (Or.inr (hB0.mp ((zI_1 _).mp z4))))⟩⟩⟩
    · rw [show (6 : Int32) = nI 6 from rfl, nI_leI (by decide) (by omega)] at z; omega
    · rw [show (6 : Int32) = nI 6 from rfl, nI_leI (by decide) (by omega)] at z
      have nf : ¬ FUL P L a k := by
        rintro (q | q | q)
        · omega
        · have := hB3.mpr q; rw [(zI_0 _).mp z3] at this; cases this
        · have := hB0.mpr q; rw [(zI_0 _).mp z4] at this; cases this
      -- it goes in
      have k131 : ∀ (S7 : St), (∀ v i, v ≠ 3 → S7.1 v i = S6.1 v i) → S7.2 = S6.2 → S7.1 3 0 = nI (cmR (fun k => decide (k < 6)) P L 4 + b2n (decide (k < 6))) → ∀ t2 : Int32, t2 = nI (b2n (rdK k)) → bX4_append_131 (fun (r3 : Int32) (S2 : St) => ((r3 < 0 → bX6_add_37 Q r3 S2) ∧ (¬ (r3 < 0) → (∀ S4 : St, S4 = wr S2 2 0 (0 : Int32) → bX6_add_37 Q r3 S4)))) x1 (S7.1 4 0) t2 S7 := by
        intro S7 p1 p2 p3 t2 et2 S8 e8
        refine ⟨hia, fun y3 ey3 => ?_⟩
        have q20 : ∀ i, S8.1 20 i = S6.1 20 i := fun i => by rw [e8, wr_1, if_neg (by decide)]; exact p1 20 i (by decide)
        rw [ca, q20, (h1.1 a ha).1] at ey3
        have ex : x1 * (6 : Int32) + y3 = nI (6 * a + L a) := by rw [ea, ey3, nu_6]
        refine ⟨by rw [ex]; exact nu_in (by omega) (by decide), fun i5 e5' => ?_⟩
        rw [ex, nu_cl (by omega)] at e5'
        refine c_copy hk ek (fun j hj => by rw [e8, wr_1, if_neg (by decide), p1 21 j (by decide)]; exact hx j hj) (fun S9 w1 w2 w3 w4 => ⟨hia, hia, fun S10 e10 => ?_⟩)
        rw [ca] at e10
        have ny : ¬ y3 < 0 := by rw [ey3]; exact nI_pos (by omega)
        refine ⟨fun y => absurd y ny, fun _ S11 e11 => ?_⟩
        show Q y3 S11
        rw [ey3]
        have g : ∀ v i, v ≠ 2 → v ≠ 3 → v ≠ 4 → v ≠ 20 → S11.1 v i = S6.1 v i := fun v i a1 a2 a3 a4 => by rw [e11, wr_1, if_neg a1, e10, wr_1, if_neg a4, w1, e8, wr_1, if_neg a3]; exact p1 v i a2
        have g2 : ∀ r j, S11.2.1 r j = S9.2.1 r j := fun r j => by rw [e11, e10]; rfl
        have g20 : ∀ i, S11.1 20 i = if i = a then nI (L a + 1) else S6.1 20 i := fun i => by
          rw [e11, wr_1, if_neg (by decide), e10, wr_1, if_pos rfl, w1, q20, q20]
          by_cases q : i = a
          · rw [if_pos q, if_pos q, (h1.1 a ha).1, nI_1]
          · rw [if_neg q, if_neg q]
        have old : ∀ r j, r ≠ 6 * a + L a → S11.2.1 r j = S6.2.1 r j := fun r j hr => by
          rw [g2, w3 r j (by rw [e5']; exact hr), e8, wr_2, p2]
        refine hG a k ea ha hk ek hg nf S11 ⟨by rw [g _ _ (by decide) (by decide) (by decide) (by decide)]; exact h0, ⟨fun h' hh => ?_, fun h' hh i hi => ?_, (OKA_add hA ha hk ek hg nf).2.1.2.2⟩, ?_, ?_, by rw [e11, wr_1, if_pos rfl, if_pos rfl]; rfl, h5, fun q => by cases q⟩
        · rw [g20]
          have := (OKA_add hA ha hk ek hg nf).2.1.1 h' hh
          refine ⟨?_, this⟩
          unfold aL
          by_cases q : h' = a
          · rw [if_pos q, if_pos q]
          · rw [if_neg q, if_neg q]; exact (h1.1 h' hh).1
        · refine ⟨(OKA_add hA ha hk ek hg nf).2.1.2.1 h' hh i hi, fun j hj => ?_⟩
          by_cases q : h' = a ∧ i = L a
          · have ep : aP P a (L a) (ux k x) h' i = ux k x := by unfold aP; rw [if_pos q]
            rw [ep, ux_0, q.1, q.2, g2]
            have := w4 j hj
            rw [e5'] at this
            rw [this]; exact (ux_dc hk ek hg).2 j hj
          · have ep : aP P a (L a) (ux k x) h' i = P h' i := by unfold aP; rw [if_neg q]
            have hi' : i < L h' := by
              unfold aL at hi
              by_cases e : h' = a
              · subst e
                rw [if_pos rfl] at hi
                have : ¬ i = L h' := fun w => q ⟨rfl, w⟩
                omega
              · rw [if_neg e] at hi; exact hi
            have := hA.2.1.1 h' hh
            rw [ep, old (6 * h' + i) j (fun w => q ⟨by omega, by omega⟩)]
            exact (h1.2.1 h' hh i hi').2 j hj
        · rw [e11, wr_1, if_neg (by decide), e10, wr_1, if_neg (by decide), w1, e8, wr_1, if_neg (by decide), p3, cmR_add ha, ux_0]
        · rw [e11, wr_1, if_neg (by decide), e10, wr_1, if_neg (by decide), w1, e8, wr_1, if_pos rfl, if_pos rfl, p1 4 0 (by decide), h3, et2, nI_add, cmR_add ha, ux_0]
      have k110 : ∀ t2 : Int32, t2 = nI (b2n (decide (k < 6))) → bX4_append_110 (fun (r3 : Int32) (S2 : St) => ((r3 < 0 → bX6_add_37 Q r3 S2) ∧ (¬ (r3 < 0) → (∀ S4 : St, S4 = wr S2 2 0 (0 : Int32) → bX6_add_37 Q r3 S4)))) x1 (nI k) (S6.1 3 0) t2 S6 := by
        intro t2 et2 S10 e10
        have p1 : ∀ v i, v ≠ 3 → S10.1 v i = S6.1 v i := fun v i hv => by rw [e10, wr_1, if_neg hv]
        have p3 : S10.1 3 0 = nI (cmR (fun k => decide (k < 6)) P L 4 + b2n (decide (k < 6))) := by rw [e10, wr_1, if_pos rfl, if_pos rfl, h2, et2, nI_add]
        refine c_isReader hk ⟨fun y => k131 S10 p1 (by rw [e10]; rfl) p3 0 ?_, fun y => k131 S10 p1 (by rw [e10]; rfl) p3 1 ?_⟩
        · rw [(zI_0 _).mp y]; rfl
        · rw [(zI_1 _).mp y]; rfl
      refine c_isAccess hk ⟨fun y => k110 0 ?_, fun y => k110 1 ?_⟩
      · rw [(zI_0 _).mp y]; rfl
      · rw [(zI_1 _).mp y]; rfl
  have k47 : ∀ (t3 : Int32) (B3 : Bool), t3 = zI B3 → (B3 = true ↔ k < 6 ∧ cmR (fun k => decide (k < 6)) P L 4 = 6) → bX4_append_47 (fun (r3 : Int32) (S2 : St) => ((r3 < 0 → bX6_add_37 Q r3 S2) ∧ (¬ (r3 < 0) → (∀ S4 : St, S4 = wr S2 2 0 (0 : Int32) → bX6_add_37 Q r3 S4)))) x1 (nI k) t3 S6 := by
    intro t3 B3 et3 hB3
    refine c_isReader hk ⟨fun y => k68 t3 0 B3 false et3 rfl hB3 ⟨(fun q => by cases q), fun q => by rw [q.1] at y; exact absurd y (by decide)⟩, fun y => ?_⟩
    have hr := (zI_1 _).mp y
    rw [h3]
    have ec : nI (cmR rdK P L 4) < (4 : Int32) ↔ cmR rdK P L 4 < 4 := nI_ltI (by omega) (by decide)
    refine ⟨fun z => k68 t3 0 B3 false et3 rfl hB3 ⟨(fun q => by cases q), fun q => by rw [ec] at z; omega⟩, fun z => k68 t3 1 B3 true et3 rfl hB3 ⟨fun _ => ⟨hr, by rw [ec] at z; omega⟩, fun _ => rfl⟩⟩
  refine c_isAccess hk ⟨fun y => k47 0 false rfl ⟨(fun q => by cases q), fun q => by rw [decide_eq_true q.1] at y; exact absurd y (by decide)⟩, fun y => ?_⟩
  have hk6 : k < 6 := of_decide_eq_true ((zI_1 _).mp y)
  rw [h2]
  have ec : nI (cmR (fun k => decide (k < 6)) P L 4) < (6 : Int32) ↔ cmR (fun k => decide (k < 6)) P L 4 < 6 := nI_ltI (by omega) (by decide)
  refine ⟨fun z => k47 0 false rfl ⟨(fun q => by cases q), fun q => by rw [ec] at z; omega⟩, fun z => k47 1 true rfl ⟨fun _ => ⟨hk6, by rw [ec] at z; omega⟩, fun _ => rfl⟩⟩
end ADD
