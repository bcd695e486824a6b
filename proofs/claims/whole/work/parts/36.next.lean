/-! CALLS, 3: the next node of a shortest way -/
noncomputable def fst1 (p : Int → Prop) : Nat → Int
  | 0 => -1
  | k + 1 => @ite Int (fst1 p k ≠ -1) (inferInstance) (fst1 p k) (@ite Int (p (k : Int)) (Classical.propDecidable _) (k : Int) (-1))
theorem fst1_no {p : Int → Prop} : ∀ k : Nat, (∀ y : Nat, y < k → ¬ p (y : Int)) → fst1 p k = -1
  | 0, _ => rfl
  | k + 1, h => by
    have a := fst1_no k (fun y hy => h y (by omega))
    unfold fst1
    rw [a, if_neg (fun q => q rfl), if_neg (h k (by omega))]
theorem fst1_at {p : Int → Prop} {x : Nat} (h : ∀ y : Nat, y < x → ¬ p (y : Int)) (hx : p (x : Int)) : ∀ k : Nat, x < k → fst1 p k = (x : Int)
  | 0, hk => absurd hk (Nat.not_lt_zero x)
  | k + 1, hk => by
    unfold fst1
    by_cases e : x = k
    · subst e
      rw [fst1_no x h, if_neg (fun q => q rfl), if_pos hx]
    · have a := fst1_at h hx k (by omega)
      rw [a, if_pos (by omega)]
theorem fst1_atI {p : Int → Prop} {x n : Int} (h0 : 0 ≤ x) (h1 : x < n) (h : ∀ y, 0 ≤ y → y < x → ¬ p y) (hx : p x) : fst1 p n.toNat = x := by
  obtain ⟨k, rfl⟩ := Int.eq_ofNat_of_zero_le h0
  exact fst1_at (fun y hy => h y (by omega) (by omega)) hx n.toNat (by omega)
theorem fst1_noI {p : Int → Prop} {n : Int} (h : ∀ y, 0 ≤ y → y < n → ¬ p y) : fst1 p n.toNat = -1 := fst1_no n.toNat (fun y hy => h y (by omega) (by omega))
def nxp (M : gMem) (u w x : Int) : Prop := 0 < mL M u x ∧ dd M x w ≠ -1 ∧ mL M u x + dd M x w = dd M u w
noncomputable def nx (M : gMem) (u w : Int) : Int := @ite Int (u = w ∨ dd M u w = -1) (inferInstance) (-1) (fst1 (nxp M u w) (nN M).toNat)
theorem mL_cong {M M' : gMem} (h : Aside M M') : mL M' = mL M := by funext u v; unfold mL; rw [h.at 229 (by omega)]
theorem nx_cong {M M' : gMem} (h : Aside M M') : nx M' = nx M := by
  funext u w
  have : nxp M' u w = nxp M u w := by funext x; unfold nxp; rw [mL_cong h, dd_cong h]
  unfold nx nN
  rw [this, dd_cong h, h.2.2.2.1]
theorem gdist_sym {n : Int} {L : Int → Int → Int} (hL : Lsym n L) {u v : Int} (h0 : 0 ≤ u) (h1 : u < n) (h2 : 0 ≤ v) (h3 : v < n) : gdist n L u v = gdist n L v u := by
  have mv : ∀ a b z, 0 ≤ a → a < n → 0 ≤ b → b < n → isMin n L a b z → isMin n L b a z := by
    intro a b z a0 a1 b0 b1 ⟨⟨m, hm⟩, hz⟩
    obtain ⟨j, hj⟩ := Wk_rev hL m a b z a0 a1 b0 b1 hm
    refine ⟨⟨j, hj⟩, fun k y hy => ?_⟩
    obtain ⟨i, hi⟩ := Wk_rev hL k b a y b0 b1 a0 a1 hy
    exact hz i y hi
  by_cases h : ∃ z, isMin n L u v z
  · obtain ⟨z, hz⟩ := h
    rw [gdist_of hz, gdist_of (mv u v z h0 h1 h2 h3 hz)]
  · have h' : ¬ ∃ z, isMin n L v u z := fun ⟨z, hz⟩ => h ⟨z, mv v u z h2 h3 h0 h1 hz⟩
    unfold gdist
    rw [dif_neg h, dif_neg h']
/-- what distances obey -/
theorem dd_all {t : Int} {M : gMem} (h : InvA t M) (hF : FarOK M) {u v : Int} (hu : 0 ≤ u ∧ u < nN M) (hv : 0 ≤ v ∧ v < nN M) : (-1 ≤ dd M u v ∧ dd M u v ≤ 1188) ∧ dd M u v = dd M v u ∧ dd M u u = 0 ∧ (0 < mL M u v → ∀ w, 0 ≤ w → w < nN M → dd M u w ≠ -1 → dd M v w ≠ -1 ∧ dd M v w ≤ mL M u v + dd M u w) ∧ (u ≠ v → dd M u v ≠ -1 → ∃ x, (0 ≤ x ∧ x < nN M) ∧ nxp M u v x) ∧ (u ≠ v → dd M u v ≠ -1 → 0 < dd M u v) := by
  have hI := hF.2.2
  have hn := h.1
  have val : ∀ a b, 0 ≤ a ∧ a < nN M → 0 ≤ b ∧ b < nN M → (M (197 + a) b < 1000000 ∧ dd M a b = M (197 + a) b ∧ 0 ≤ M (197 + a) b ∧ M (197 + a) b ≤ 1188) ∨ (¬ M (197 + a) b < 1000000 ∧ dd M a b = -1) := fun a b ha hb => hI.val hn.2 h.L99 (by decide) ha.1 ha.2 hb.1 hb.2
  have sym : ∀ a b, 0 ≤ a ∧ a < nN M → 0 ≤ b ∧ b < nN M → dd M a b = dd M b a := fun a b ha hb => gdist_sym h.sym ha.1 ha.2 hb.1 hb.2
  have key : u ≠ v → dd M u v ≠ -1 → ∃ x, (0 ≤ x ∧ x < nN M) ∧ nxp M u v x := by
    intro ne hd
    have hvu := val v u hv hu
    have s := sym u v hu hv
    obtain ⟨x, x0, x1, x2, x3⟩ := hI.last hv.1 hv.2 hu.1 hu.2 (show M (197 + v) u < 1000000 by omega) (fun q => ne q.symm)
    have x3 : M (197 + v) u = M (197 + v) x + mL M x u := x3
    have hvx := val v x hv ⟨x0, x1⟩
    have s2 := sym v x hv ⟨x0, x1⟩
    have s3 := h.sym x u x0 x1 hu.1 hu.2
    refine ⟨x, ⟨x0, x1⟩, by omega, by omega, by omega⟩
  refine ⟨?_, sym u v hu hv, ?_, fun hl w w0 w1 hd => ?_, key, fun ne hd => ?_⟩
  · have := val u v hu hv; omega
  · have a := val u u hu hu
    have b : M (197 + u) u = 0 := hI.2.1 u hu.1 hu.2
    omega
  · have a := val u w hu ⟨w0, w1⟩
    have b := val v w hv ⟨w0, w1⟩
    have c : M (197 + v) w ≤ M (197 + v) u + M (197 + u) w := hI.2.2.1 v u w hv.1 hv.2 hu.1 hu.2 w0 w1
    have s := h.sym u v hu.1 hu.2 hv.1 hv.2
    have d : M (197 + v) u ≤ mL M v u := hI.2.2.2.1 v u hv.1 hv.2 hu.1 hu.2 (by omega)
    have := h.L99 v u hv.1 hv.2 hu.1 hu.2
    omega
  · obtain ⟨x, xb, xp⟩ := key ne hd
    have := val x v xb hv
    unfold nxp at xp
    omega
/-- from one node to the next the way is shorter -/
theorem nx_ok {t : Int} {M : gMem} (h : InvA t M) (hF : FarOK M) {u w : Int} (hu : 0 ≤ u ∧ u < nN M) (hw : 0 ≤ w ∧ w < nN M) (ne : u ≠ w) (hd : dd M u w ≠ -1) : (0 ≤ nx M u w ∧ nx M u w < nN M) ∧ dd M (nx M u w) w ≠ -1 ∧ dd M (nx M u w) w < dd M u w := by
  obtain ⟨x, xb, xp⟩ := (dd_all h hF hu hw).2.2.2.2.1 ne hd
  have hx : ∃ y : Nat, (y : Int) < nN M ∧ nxp M u w (y : Int) ∧ ∀ z : Nat, z < y → ¬ nxp M u w (z : Int) := by
    have : ∀ (m : Nat), (∃ y : Nat, y ≤ m ∧ nxp M u w (y : Int)) → ∃ y : Nat, y ≤ m ∧ nxp M u w (y : Int) ∧ ∀ z : Nat, z < y → ¬ nxp M u w (z : Int) := by
      intro m
      induction m with
      | zero => intro ⟨y, hy, hp⟩; exact ⟨y, hy, hp, fun z hz => by omega⟩
      | succ m ih =>
        intro ⟨y, hy, hp⟩
        by_cases g : ∃ y : Nat, y ≤ m ∧ nxp M u w (y : Int)
        · obtain ⟨y2, a, b, c⟩ := ih g
          exact ⟨y2, by omega, b, c⟩
        · exact ⟨y, hy, hp, fun z hz p => g ⟨z, by omega, p⟩⟩
    obtain ⟨y, a, b, c⟩ := this x.toNat ⟨x.toNat, by omega, by rw [show ((x.toNat : Nat) : Int) = x by omega]; exact xp⟩
    exact ⟨y, by omega, b, c⟩
  obtain ⟨y, y1, yp, yn⟩ := hx
  have e : nx M u w = (y : Int) := by
    unfold nx
    rw [if_neg (fun q => q.elim ne hd)]
    exact fst1_at yn yp (nN M).toNat (by omega)
  rw [e]
  unfold nxp at yp
  exact ⟨⟨by omega, y1⟩, yp.2.1, by omega⟩
theorem p_stepTowards {t u w : Int} {K : Int → gMem → Prop} {M : gMem} (h : Inv t M) (hu : 0 ≤ u ∧ u < nN M) (hw : 0 ≤ w ∧ w < nN M) (hK : ∀ M', FarFr 195 M M' → FarOK M' → K (nx M u w) M') : wX9_stepTowards 0 u w K M := by
  unfold wX9_stepTowards
  simp only [Int.reduceAdd]
  have hn := h.1.1
  refine p_follow1 h.1 h.2.1 (fun M1 f1 o1 => ?_)
  have A1 := f1.aside
  have h1 := h.q f1.q o1
  have eN : nN M1 = nN M := A1.2.2.2.1
  have hK := hK M1 f1 o1
  rw [← nx_cong A1] at hK
  have e0 : M1 1 0 = nN M1 := h1.1.2.1.1
  refine p_btw1 h1.1 o1 (fun q1 => ?_) (fun p => absurd (show _ by omega) p)
  refine gK0_r ⟨fun a => ?_, fun a => ⟨fun b => ?_, fun b => ?_⟩⟩
  · have : nx M1 u w = -1 := by unfold nx; rw [if_pos (Or.inl a)]
    rw [this] at hK; exact hK
  · have e : nx M1 u w = fst1 (nxp M1 u w) (nN M1).toNat := by unfold nx; rw [if_neg (fun q => q.elim a b)]
    rw [e] at hK
    refine ⟨fun x M' => M' = M1 ∧ 0 ≤ x ∧ x ≤ nN M1 ∧ ∀ y, 0 ≤ y → y < x → ¬ nxp M1 u w y, fun x _ => nN M1 - x, ⟨rfl, by omega, by omega, fun y c d => by omega⟩, ?_⟩
    intro x M2 ⟨e2, x0, x1, hx⟩
    subst e2
    dsimp only
    rw [e0]
    refine ⟨by omega, fun q => ?_, fun q => ?_⟩
    · rw [fst1_noI (fun y c d => hx y c (by omega))] at hK
      exact hK
    · refine p_len1 h1.1 (fun q2 => p_btw1 h1.1 o1 (fun q3 => ?_) (fun p => absurd (show _ by omega) p)) (fun p => absurd (show _ by omega) p)
      have skip : ¬ nxp M2 u w x → gR (x + 1) ∧ (M2 = M2 ∧ 0 ≤ x + 1 ∧ x + 1 ≤ nN M2 ∧ ∀ y, 0 ≤ y → y < x + 1 → ¬ nxp M2 u w y) ∧ nN M2 - (x + 1) < nN M2 - x := by
        intro no
        refine ⟨⟨by omega, by omega⟩, ⟨rfl, by omega, by omega, fun y c d => ?_⟩, by omega⟩
        by_cases g : y = x
        · rw [g]; exact no
        · exact hx y c (by omega)
      have db := (dd_all h1.1 o1 (u := x) (v := w) (by omega) (by omega)).1
      have lb := h1.1.L99 u x (by omega) (by omega) (by omega) (by omega)
      refine gK0_r ⟨fun c => skip (fun p => by have := p.1; omega), fun c => ⟨fun d => skip (fun p => p.2.1 d), fun d => ⟨⟨by omega, by omega⟩, fun g => skip (fun p => g p.2.2), fun g => ?_⟩⟩⟩
      rw [fst1_atI x0 (by omega) hx ⟨by omega, d, g⟩] at hK
      exact hK
  · have : nx M1 u w = -1 := by unfold nx; rw [if_pos (Or.inr b)]
    rw [this] at hK; exact hK
theorem p_nextOf {t u w : Int} {K : Int → gMem → Prop} {M : gMem} (h : InvA t M) (hO : FarOK M) (hF : mFar M) (hu : 0 ≤ u ∧ u < nN M) (hw : 0 ≤ w ∧ w < nN M) (hK : K (nx M u w) M) : wX10_nextOf 228 u w K M := by
  unfold wX10_nextOf
  have hn := h.1
  have hv := hF.val h hu hw
  have no : u = w ∨ dd M u w = -1 → K (-1) M := by
    intro a
    have : nx M u w = -1 := by unfold nx; rw [if_pos a]
    rw [this] at hK; exact hK
  refine ⟨fun x M' => M' = M ∧ 0 ≤ x ∧ x ≤ nN M ∧ ∀ y, 0 ≤ y → y < x → ¬ nxp M u w y, fun x _ => nN M - x, ⟨rfl, by omega, by omega, fun y c d => by omega⟩, ?_⟩
  intro x M2 ⟨e2, x0, x1, hx⟩
  subst e2
  dsimp only
  have e0 : M2 228 2 = nN M2 := rfl
  rw [e0]
  refine ⟨by omega, gK0_r ⟨fun q => ?_, fun q => ⟨fun a => no (Or.inl a), fun a => p_isWay (by omega) (by omega) (fun b => ⟨fun e => absurd e (by decide), fun _ => ?_⟩) (fun b => ⟨fun _ => no (Or.inr (by omega)), fun e => absurd rfl e⟩)⟩⟩⟩
  · by_cases a : u = w ∨ dd M2 u w = -1
    · exact no a
    · unfold nx at hK
      rw [if_neg a, fst1_noI (fun y c d => hx y c (by omega))] at hK
      exact hK
  · unfold wX10_length
    simp only [Int.reduceAdd]
    have e : nx M2 u w = fst1 (nxp M2 u w) (nN M2).toNat := by unfold nx; rw [if_neg (fun q => q.elim a (by omega))]
    rw [e] at hK
    have eL : M2 229 (12 * u + x) = mL M2 u x := rfl
    rw [eL]
    have skip : ¬ nxp M2 u w x → gR (x + 1) ∧ (M2 = M2 ∧ 0 ≤ x + 1 ∧ x + 1 ≤ nN M2 ∧ ∀ y, 0 ≤ y → y < x + 1 → ¬ nxp M2 u w y) ∧ nN M2 - (x + 1) < nN M2 - x := by
      intro no
      refine ⟨⟨by omega, by omega⟩, ⟨rfl, by omega, by omega, fun y c d => ?_⟩, by omega⟩
      by_cases g : y = x
      · rw [g]; exact no
      · exact hx y c (by omega)
    have lb := h.L99 u x (by omega) (by omega) (by omega) (by omega)
    refine ⟨⟨by omega, by omega⟩, ⟨by omega, by omega⟩, ⟨by omega, by omega⟩, gK0_r ⟨fun c => skip (fun p => by have := p.1; omega), fun c => ?_⟩⟩
    have dl := (dd_all h hO hu (v := x) (by omega)).2.2.2.1 (by omega) w (by omega) (by omega) (by omega)
    have db := (dd_all h hO (u := x) (v := w) (by omega) (by omega)).1
    have vx := hF.val h (u := x) (v := w) (by omega) (by omega)
    refine ⟨⟨by omega, by omega⟩, ⟨by omega, by omega⟩, ⟨by omega, by omega⟩, ⟨by omega, by omega⟩, ⟨by omega, by omega⟩, ⟨by omega, by omega⟩, ⟨by omega, by omega⟩, ⟨by omega, by omega⟩, ⟨by omega, by omega⟩, ⟨by omega, by omega⟩, fun g => skip (fun p => by have := p.2.2; omega), fun g => ?_⟩
    rw [fst1_atI x0 (by omega) hx ⟨by omega, by omega, by omega⟩] at hK
    exact hK
theorem c_next {t u v : Int} {K1 : Int → gMem → Prop} {M : gMem} (h : Inv t M) (hK : ∀ r M1, Ag t (wX10_next 228 u v) r M1 → K1 r M1) : wX9_next 0 u v K1 M := by
  unfold wX9_next
  have hn := h.1.1
  refine p_both h.1 (fun q => ⟨fun _ => p_stepTowards h q.1 q.2 (fun M1 f1 o1 => hK _ _ (fun K2 hk => ?_)), fun e => absurd e (by decide)⟩) (fun q => ⟨fun e => absurd rfl e, fun _ => hK _ _ (fun K2 hk => ?_)⟩)
  · have h1 := h.q f1.q o1
    have eN : nN M1 = nN M := f1.aside.2.2.2.1
    unfold wX10_next
    refine p_isNode h1.1.1 (fun _ => gK0_r ⟨fun e => absurd e (by decide), fun _ => p_isNode h1.1.1 (fun _ => ⟨fun _ => p_finds0 h1.1 (fun M2 o2 F2 => ?_), fun e => absurd e (by decide)⟩) (fun p => absurd (show _ by omega) p)⟩) (fun p => absurd (show _ by omega) p)
    have m2 := o2.mfr (by omega)
    have h2 := h1.mfr m2
    have eN2 : nN M2 = nN M1 := m2.2.2.1
    refine p_nextOf h2.1 (o1.cong h1.1.1.2 (by rw [m2.1 1 (by omega)]) (fun c a b => m2.1 c (by omega)) m2.2.2.1 (m2.1 229 (by omega))) F2 (by omega) (by omega) ?_
    rw [nx_cong (f1.aside.tr m2.aside)]
    exact hk M2 h2.later
  · unfold wX10_next
    refine p_isNode hn (fun a => gK0_r ⟨fun e => absurd e (by decide), fun _ => p_isNode hn (fun b => absurd ⟨a, b⟩ q) (fun _ => ⟨fun e => absurd rfl e, fun _ => hk M h.later⟩)⟩) (fun a => gK0_r ⟨fun _ => hk M h.later, fun e => absurd rfl e⟩)
