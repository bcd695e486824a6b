/-! CALLS, 1: simple questions -/
theorem ThinOK.cong {t : Int} {M M' : gMem} (h : ThinOK t M) (hn : nN M ≤ 12) (h2 : ∀ c, 209 ≤ c → c < 226 → M' c = M c) (h3 : M' 228 2 = M 228 2) (h4 : M' 229 = M 229) : ThinOK t M' := by
  have eL : mL M' = mL M := by funext u v; unfold mL; rw [h4]
  have eN : nN M' = nN M := h3
  have e5 : M' 225 = M 225 := h2 225 (by decide) (by decide)
  have eT : τc (nN M) M' = τc (nN M) M := by funext a b; unfold τc tb; rw [e5]
  have eB : tbk M' = tbk M := by funext k; unfold tbk tb; rw [e5]
  have eb : ∀ u v, tb M' u v = tb M u v := fun u v => by unfold tb; rw [e5]
  obtain ⟨a, b, c, d, e, f⟩ := h
  unfold ThinOK
  rw [eL, eN, eT, eB, e5, h2 210 (by decide) (by decide), h2 209 (by decide) (by decide)]
  exact ⟨a, b, c.conf (fun x y p q _ _ => by rw [h2 _ (by omega) (by omega)]), d, fun u v p q r s t => e u v p q r s (by rw [← eb]; exact t), f⟩
theorem ThinInv.cong {M M' : gMem} (h : ThinInv M) (hn : nN M ≤ 12) (h1 : M' 1 3 = M 1 3) (h2 : ∀ c, 209 ≤ c → c < 226 → M' c = M c) (h3 : M' 228 2 = M 228 2) (h4 : M' 229 = M 229) : ThinInv M' := by
  obtain ⟨a, b, c⟩ := h
  have e := h2 209 (by decide) (by decide)
  refine ⟨by rw [e]; exact a, by rw [e, h1]; exact b, fun d => ?_⟩
  rw [e, h1] at d
  rw [e]
  exact (c d).cong hn h2 h3 h4
def Inv (t : Int) (M : gMem) : Prop := InvA t M ∧ FarInv M ∧ ThinInv M
/-- the reference answers r and leaves all well -/
def Ag (t : Int) (B : (Int → gMem → Prop) → gMem → Prop) (r : Int) (M1 : gMem) : Prop := ∀ K2 : Int → gMem → Prop, (∀ M2, Inv (t + 1) M2 → K2 r M2) → B K2 M1
/-- frame of what only asks: nothing but scratch of the reference -/
def MFr (M M' : gMem) : Prop := (∀ c, c ≤ 227 ∨ (229 ≤ c ∧ c ≤ 232) ∨ c = 235 ∨ 240 ≤ c → M' c = M c) ∧ M' 228 1 = M 228 1 ∧ M' 228 2 = M 228 2 ∧ M' 228 6 = M 228 6
theorem MFr.rf {M : gMem} : MFr M M := ⟨fun _ _ => rfl, rfl, rfl, rfl⟩
theorem MFr.tr {M M' M'' : gMem} (h : MFr M M') (h2 : MFr M' M'') : MFr M M'' := ⟨fun c a => (h2.1 c a).trans (h.1 c a), h2.2.1.trans h.2.1, h2.2.2.1.trans h.2.2.1, h2.2.2.2.trans h.2.2.2⟩
theorem MFr.aside {M M' : gMem} (h : MFr M M') : Aside M M' := ⟨fun c h1 h2 => h.1 c (by unfold scr at h1; omega), by rw [h.1 4 (by omega)], h.2.1, h.2.2.1, h.2.2.2⟩
theorem Only.mfr {c : Int} {M M' : gMem} (h : Only c M M') (hc : c = 233 ∨ c = 234 ∨ (236 ≤ c ∧ c < 240)) : MFr M M' := ⟨fun c' h1 => h c' (fun e => by omega), by rw [h 228 (by omega)], by rw [h 228 (by omega)], by rw [h 228 (by omega)]⟩
theorem Inv.mfr {t : Int} {M M' : gMem} (h : Inv t M) (hM : MFr M M') : Inv t M' :=
  ⟨h.1.cong hM.aside, h.2.1.cong h.1.1.2 (by rw [hM.1 1 (by omega)]) (fun c a b => hM.1 c (by omega)) hM.2.2.1 (hM.1 229 (by omega)), h.2.2.cong h.1.1.2 (by rw [hM.1 1 (by omega)]) (fun c a b => hM.1 c (by omega)) hM.2.2.1 (hM.1 229 (by omega))⟩
theorem Inv.later {t : Int} {M : gMem} (h : Inv t M) : Inv (t + 1) M := ⟨h.1.later, h.2⟩
theorem Inv.q {t : Int} {M M' : gMem} (h : Inv t M) (q : QFr M M') (f : FarOK M') : Inv t M' :=
  ⟨h.1.cong q.aside, f.inv (by rw [q 1 (by omega)]; exact h.1.2.2.2.2.2.2.1.1.1), h.2.2.cong h.1.1.2 (by rw [q 1 (by omega)]) (fun c a b => q c (by omega)) (by rw [q 228 (by omega)]) (q 229 (by omega))⟩
theorem FarFr.q {M M' : gMem} (h : FarFr 195 M M') : QFr M M' := fun c hc => h c (by omega)
theorem QFr.tr {M M' M'' : gMem} (h : QFr M M') (h2 : QFr M' M'') : QFr M M'' := fun c a => (h2 c a).trans (h c a)
theorem p_has1 {t u : Int} {K : Int → gMem → Prop} {M : gMem} (h : InvA t M) (h1 : 0 ≤ u ∧ u < nN M → K 1 M) (h2 : ¬ (0 ≤ u ∧ u < nN M) → K 0 M) : wX1_has 1 u K M := by
  have e : M 1 0 = nN M := h.2.1.1
  by_cases q : 0 ≤ u ∧ u < nN M
  · exact p_has_t (by rw [e]; exact q) (h1 q)
  · exact p_has_f (by rw [e]; exact q) (h2 q)
theorem p_both {t u v : Int} {K : Int → gMem → Prop} {M : gMem} (h : InvA t M) (h1 : (0 ≤ u ∧ u < nN M) ∧ (0 ≤ v ∧ v < nN M) → K 1 M) (h2 : ¬ ((0 ≤ u ∧ u < nN M) ∧ (0 ≤ v ∧ v < nN M)) → K 0 M) : wX9_bothThere 0 u v K M := by
  unfold wX9_bothThere
  simp only [Int.reduceAdd]
  refine p_has1 h (fun q => gK1_r (gK0_r ⟨fun a => absurd a (by decide), fun _ => p_has1 h (fun q2 => ⟨fun a => absurd a (by decide), fun _ => ⟨Or.inr rfl, h1 ⟨q, q2⟩⟩⟩) (fun q2 => ⟨fun _ => ⟨Or.inl rfl, h2 (fun p => q2 p.2)⟩, fun a => absurd rfl a⟩)⟩)) (fun q => gK1_r (gK0_r ⟨fun _ => ⟨Or.inl rfl, h2 (fun p => q p.1)⟩, fun a => absurd rfl a⟩))
theorem c_level {t a : Int} {K1 : Int → gMem → Prop} {M : gMem} (h : Inv t M) (hK : ∀ r M1, Ag t (wX10_level 228 a) r M1 → K1 r M1) : wX9_level 0 a K1 M := by
  unfold wX9_level
  simp only [Int.reduceAdd]
  have hn := h.1.1
  refine p_has1 h.1 (fun q => ⟨fun _ => p_lev1 h.1 (fun _ => hK _ _ (fun K2 hk => ?_)) (fun p => absurd q p), fun e => absurd e (by decide)⟩) (fun q => ⟨fun e => absurd rfl e, fun _ => hK _ _ (fun K2 hk => ?_)⟩)
  · unfold wX10_level
    simp only [Int.reduceAdd]
    exact p_isNode hn (fun _ => gK1_r ⟨fun e => absurd e (by decide), fun _ => ⟨⟨by omega, by omega⟩, ⟨by omega, by omega⟩, hk M h.later⟩⟩) (fun p => absurd q p)
  · unfold wX10_level
    exact p_isNode hn (fun p => absurd p q) (fun _ => gK1_r ⟨fun _ => hk M h.later, fun e => absurd rfl e⟩)
theorem c_distance {t u v : Int} {K1 : Int → gMem → Prop} {M : gMem} (h : Inv t M) (hK : ∀ r M1, Ag t (wX10_distance 228 u v) r M1 → K1 r M1) : wX9_distance 0 u v K1 M := by
  unfold wX9_distance
  simp only [Int.reduceAdd]
  have hn := h.1.1
  refine p_both h.1 (fun q => ⟨fun _ => p_follow1 h.1 h.2.1 (fun M1 f1 o1 => ?_), fun e => absurd e (by decide)⟩) (fun q => ⟨fun e => absurd rfl e, fun _ => hK _ _ (fun K2 hk => ?_)⟩)
  · have h1 := h.q f1.q o1
    have eN : nN M1 = nN M := f1.aside.2.2.2.1
    refine p_btw1 h1.1 o1 (fun q1 => hK _ _ (fun K2 hk => ?_)) (fun p => absurd (by rw [eN]; exact q) p)
    unfold wX10_distance
    refine p_isNode h1.1.1 (fun _ => gK0_r ⟨fun e => absurd e (by decide), fun _ => p_isNode h1.1.1 (fun _ => ⟨fun _ => p_finds0 h1.1 (fun M2 o2 F2 => ?_), fun e => absurd e (by decide)⟩) (fun p => absurd q1.2 p)⟩) (fun p => absurd q1.1 p)
    have m2 := o2.mfr (by omega)
    have h2 := h1.mfr m2
    have eN2 : nN M2 = nN M1 := m2.2.2.1
    have hv := F2.val h2.1 (u := u) (v := v) (by omega) (by omega)
    rw [dd_cong m2.aside] at hv
    simp only [Int.reduceAdd]
    refine p_isWay (by omega) (by omega) (fun a => gK1_r ⟨fun e => absurd e (by decide), fun _ => ⟨⟨by omega, by omega⟩, ⟨by omega, by omega⟩, ⟨by omega, by omega⟩, ?_⟩⟩) (fun a => gK1_r ⟨fun _ => ?_, fun e => absurd rfl e⟩)
    · have e : dd M1 u v = M2 236 (12 * u + v) := by omega
      rw [← e]; exact hk M2 h2.later
    · have e : dd M1 u v = -1 := by omega
      rw [← e]; exact hk M2 h2.later
  · unfold wX10_distance
    refine p_isNode hn (fun a => gK0_r ⟨fun e => absurd e (by decide), fun _ => p_isNode hn (fun b => absurd ⟨a, b⟩ q) (fun _ => ⟨fun e => absurd rfl e, fun _ => hk M h.later⟩)⟩) (fun a => gK0_r ⟨fun _ => hk M h.later, fun e => absurd rfl e⟩)
