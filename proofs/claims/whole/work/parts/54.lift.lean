/-! ACTS, 3: lift, draw -/
theorem Rt.congL {n : Int} {L L' : Int → Int → Int} {t c : Int} {τ : Int → Int → Prop} (h : Rt n L t c τ) (hL : ∀ u v, 0 ≤ u → u < n → 0 ≤ v → v < n → L' u v = L u v) : Rt n L' t c τ := by
  have LRe : ∀ σ : Int → Int → Prop, (∀ a b, σ a b → τ a b) → LR L' σ = LR L σ := by
    intro σ hσ
    funext a b
    unfold LR
    by_cases q : σ a b
    · have := h.2.1 a b (hσ a b q)
      rw [if_pos q, if_pos q, hL a b this.1.1 this.1.2 this.2.1.1 this.2.1.2]
    · rw [if_neg q, if_neg q]
  have ke : ∀ u v, 0 ≤ u → u < n → 0 ≤ v → v < n → key L' u v = key L u v := fun u v a b c d => by unfold key; rw [hL u v a b c d]
  refine ⟨h.1, fun u v q => ?_, fun u v a b d e f => ?_⟩
  · have := h.2.1 u v q
    rw [hL u v this.1.1 this.1.2 this.2.1.1 this.2.1.2, ke u v this.1.1 this.1.2 this.2.1.1 this.2.1.2]
    exact this
  · rw [hL u v a (by omega) (by omega) d] at e
    rw [ke u v a (by omega) (by omega) d] at f
    rw [h.2.2 u v a b d e f]
    have r1 : far1 n L' t (fun a b => τ a b ∧ key L' a b < key L' u v) u v ↔ far1 n L' t (fun a b => τ a b ∧ key L a b < key L u v) u v := far1_cong (fun x y => by
      refine ⟨fun q => ⟨q.1, ?_⟩, fun q => ⟨q.1, ?_⟩⟩
      · have := h.2.1 x y q.1
        have z := q.2
        rw [ke x y this.1.1 this.1.2 this.2.1.1 this.2.1.2, ke u v a (by omega) (by omega) d] at z
        exact z
      · have := h.2.1 x y q.1
        rw [ke x y this.1.1 this.1.2 this.2.1.1 this.2.1.2, ke u v a (by omega) (by omega) d]
        exact q.2) u v
    rw [r1]
    unfold far1
    rw [LRe _ (fun a b q => q.1), hL u v a (by omega) (by omega) d]
theorem FarOK.row {M M' : gMem} (h : FarOK M) (hn : nN M ≤ 12) (h1 : M' 1 3 = M 1 3) (h2 : ∀ c, 195 ≤ c → c < 209 → M' c = M c) (h3 : M' 228 2 = M 228 2) (h4 : ∀ k, 0 ≤ k → k < 144 → M' 229 k = M 229 k) : FarOK M' := by
  obtain ⟨a, b, c⟩ := h
  have eN : nN M' = nN M := h3
  unfold FarOK
  rw [h1, h2 195 (by omega) (by omega), eN]
  refine ⟨a, b, (c.conf (fun x y p q _ _ => by rw [h2 _ (by omega) (by omega)])).cong (fun u v p q r s => ?_)⟩
  unfold mL
  exact h4 _ (by omega) (by omega)
theorem FarInv.row {M M' : gMem} (h : FarInv M) (hn : nN M ≤ 12) (h1 : M' 1 3 = M 1 3) (h2 : ∀ c, 195 ≤ c → c < 209 → M' c = M c) (h3 : M' 228 2 = M 228 2) (h4 : ∀ k, 0 ≤ k → k < 144 → M' 229 k = M 229 k) : FarInv M' := by
  obtain ⟨a, b, c⟩ := h
  have e := h2 195 (by omega) (by omega)
  refine ⟨by rw [e]; exact a, by rw [e, h1]; exact b, fun d => ?_⟩
  rw [e, h1] at d
  exact (c d).row hn h1 h2 h3 h4
theorem ThinOK.row {t : Int} {M M' : gMem} (h : ThinOK t M) (hn : nN M ≤ 12) (h2 : ∀ c, 209 ≤ c → c < 226 → M' c = M c) (h3 : M' 228 2 = M 228 2) (h4 : ∀ k, 0 ≤ k → k < 144 → M' 229 k = M 229 k) : ThinOK t M' := by
  have eL : ∀ u v, 0 ≤ u → u < nN M → 0 ≤ v → v < nN M → mL M' u v = mL M u v := fun u v p q r s => by unfold mL; exact h4 _ (by omega) (by omega)
  have eN : nN M' = nN M := h3
  have e5 : M' 225 = M 225 := h2 225 (by decide) (by decide)
  have eT : τc (nN M) M' = τc (nN M) M := by funext a b; unfold τc tb; rw [e5]
  have eB : tbk M' = tbk M := by funext k; unfold tbk tb; rw [e5]
  have eb : ∀ u v, tb M' u v = tb M u v := fun u v => by unfold tb; rw [e5]
  obtain ⟨a, b, c, d, e, f⟩ := h
  unfold ThinOK
  rw [eN, eT, eB, e5, h2 210 (by decide) (by decide), h2 209 (by decide) (by decide)]
  refine ⟨a, b.congL eL, (c.conf (fun x y p q _ _ => by rw [h2 _ (by omega) (by omega)])).cong (fun u v p q r s => ?_), d, fun u v p q r s t => e u v p q r s (by rw [← eb]; exact t), f⟩
  unfold LR
  rw [eL u v p q r s]
theorem ThinInv.row {M M' : gMem} (h : ThinInv M) (hn : nN M ≤ 12) (h1 : M' 1 3 = M 1 3) (h2 : ∀ c, 209 ≤ c → c < 226 → M' c = M c) (h3 : M' 228 2 = M 228 2) (h4 : ∀ k, 0 ≤ k → k < 144 → M' 229 k = M 229 k) : ThinInv M' := by
  obtain ⟨a, b, c⟩ := h
  have e := h2 209 (by decide) (by decide)
  refine ⟨by rw [e]; exact a, by rw [e, h1]; exact b, fun d => ?_⟩
  rw [e, h1] at d
  rw [e]
  exact (c d).row hn h2 h3 h4
theorem net_lev {t : Int} {M M' : gMem} (h : InvA t M) (hn2 : M' 228 2 = M 228 2) (c0 : M' 1 0 = M 1 0) (c1 : M' 1 1 = M 1 1) (c2 : M' 1 2 = M' 229 156) (m2 : M' 2 = M 2) (m3 : ∀ k, 0 ≤ k → k < 12 → M' 3 k = M' 229 (144 + k) ∧ 0 ≤ M' 3 k ∧ M' 3 k ≤ 2 ∧ (nN M ≤ k → M' 3 k = 0)) (r : ∀ k, 0 ≤ k → k < 144 → M' 229 k = M 229 k) : NetRel M' 1 0 := by
  obtain ⟨a, b, c, d, e, f, g, i⟩ := h.2.1
  have eN : nN M' = nN M := hn2
  refine ⟨by rw [c0, eN]; exact a, fun k p q => ?_, fun k p q => ?_, by rw [Int.zero_add]; exact c2, ?_, by rw [c1]; exact f, fun x y p q s w => ?_, fun x p q => ?_⟩
  · have b : M 2 k = M 229 (0 + k) := b k p q
    show M' 2 k = M' 229 (0 + k)
    rw [Int.zero_add] at b ⊢
    rw [m2, r k p q]; exact b
  · show M' 3 k = M' 229 (0 + 144 + k)
    rw [show (0 : Int) + 144 + k = 144 + k by omega]; exact (m3 k p q).1
  · rw [c1, e]
    exact cnt_cong 144 (fun k hk => by rw [Int.zero_add, r (k : Int) (by omega) (by omega)])
  · dsimp only
    have L := h.L x y p q s w
    unfold mL at L
    rw [Int.zero_add, Int.zero_add, r _ (by omega) (by omega), r _ (by omega) (by omega), eN]
    exact L
  · have := m3 x p q
    rw [show (0 : Int) + 144 + x = 144 + x by omega, ← this.1, eN]
    exact this.2
/-- levels and DRAW are others, behind the push -/
theorem lev_inv {t sh : Int} {M M1 M2 M3 M4 : gMem} (h : Inv t M) (hC : PuC M M1) (g1 : ∀ x, x ≠ 1 → x ≠ 3 → M2 x = M1 x) (g2 : ∀ k, k ≠ 2 → M2 1 k = M1 1 k) (hM : KpM M2 sh M3) (o4 : Only 229 M3 M4) (r4 : ∀ k, k < 144 ∨ 157 ≤ k → M4 229 k = M3 229 k) (d4 : M2 1 2 = M4 229 156) (l4 : ∀ k, 0 ≤ k → k < 12 → M2 3 k = M4 229 (144 + k) ∧ 0 ≤ M2 3 k ∧ M2 3 k ≤ 2 ∧ (nN M ≤ k → M2 3 k = 0)) : Inv (t + 1) M4 := by
  have hn := h.1.1
  have n9 := fun c hc => hC.n9 h.1 c hc
  obtain ⟨m1, m2, m3, m4, m5, m6, m7⟩ := id hM
  have k28 : ∀ k, k ≠ 1 → M4 228 k = M 228 k := fun k hk => by rw [o4 228 (by decide), m3 k hk, g1 228 (by decide) (by decide), n9 228 (by omega)]
  have all : ∀ c, c ≠ 228 → c ≠ 229 → M4 c = M2 c := fun c a b => by rw [o4 c b, m2 c a b]
  have e29 : M2 229 = M 229 := by rw [g1 229 (by decide) (by decide), n9 229 (by omega)]
  have e281 : M2 228 1 = M 228 1 := by rw [g1 228 (by decide) (by decide), n9 228 (by omega)]
  have past := past_push h.1 hC hM e281 e29 (k28 2 (by decide)) (fun x a b => by rw [all x (by omega) (by omega), g1 x (by omega) (by omega)]) (by rw [o4 228 (by decide)]) (fun k a b => r4 k (by omega))
  have k1 : ∀ k, k ≠ 2 → M4 1 k = M 1 k := fun k hk => by rw [all 1 (by decide) (by decide), g2 k hk, n9 1 (by omega)]
  have rr : ∀ k, 0 ≤ k → k < 144 → M4 229 k = M 229 k := fun k a b => by rw [r4 k (by omega), m5 k (by omega), e29]
  have net : NetRel M4 1 0 := by
    refine net_lev h.1 (k28 2 (by decide)) (k1 0 (by decide)) (k1 1 (by decide)) ?_ ?_ (fun k a b => ?_) rr
    · rw [all 1 (by decide) (by decide)]; exact d4
    · rw [all 2 (by decide) (by decide), g1 2 (by decide) (by decide), n9 2 (by omega)]
    · rw [all 3 (by decide) (by decide)]; exact l4 k a b
  have rest : ∀ c, (4 ≤ c ∧ c < 9) ∨ (35 ≤ c ∧ c < 228) ∨ 230 ≤ c → M4 c = M c := fun c hc => by rw [all c (by omega) (by omega), g1 c (by omega) (by omega), n9 c (by omega)]
  have c13 := k1 3 (by decide)
  refine ⟨h.1.act (k28 2 (by decide)) net past (fun c hc => rest c (by omega)) (k28 6 (by decide)) (fun k a b => by rw [r4 k (by omega), m5 k (by omega), e29]) (ver_act h.1.2.2.2.2.2.2.1 (by omega) (by rw [rest 4 (by omega)]) (fun i a b => ?_) (fun c a b => rest c (by omega))), h.2.1.row hn.2 c13 (fun c a b => rest c (by omega)) (k28 2 (by decide)) rr, h.2.2.row hn.2 c13 (fun c a b => rest c (by omega)) (k28 2 (by decide)) rr⟩
  rw [all _ (by omega) (by omega), g1 _ (by omega) (by omega)]
  exact hC.ring i a b
theorem c_lift {t u i : Int} {K1 : Int → gMem → Prop} {M : gMem} (h : Inv t M) (ht : 0 ≤ t ∧ t ≤ 512) (hK : ∀ r M1, Ag t (wX10_lift 228 u i) r M1 → K1 r M1) : wX9_lift 0 u i K1 M := by
  unfold wX9_lift
  simp only [Int.reduceAdd]
  have hn := h.1.1
  have e0 : M 1 0 = nN M := h.1.2.1.1
  refine p_has1 h.1 (fun q => ⟨fun _ => ?_, fun e => absurd e (by decide)⟩) (fun q => ⟨fun e => absurd rfl e, fun _ => hK _ _ (fun K2 hk => ?_)⟩)
  · have bad : ¬ (0 ≤ i ∧ i ≤ 2) → K1 (-3) M := by
      intro b
      refine hK _ _ (fun K2 hk => ?_)
      unfold wX10_lift
      exact p_isNode hn (fun _ => ⟨fun _ => p_inI (fun p => absurd p b) (fun _ => ⟨fun e => absurd rfl e, fun _ => hk M h.later⟩), fun e => absurd e (by decide)⟩) (fun p => absurd q p)
    refine gK0_r ⟨fun a => bad (by omega), fun a => ⟨fun b => p_lev1 h.1 (fun _ => p_push h.1 ht (fun M1 P1 => ?_)) (fun p => absurd q p), fun b => bad (by omega)⟩⟩
    have n9 := fun c hc => P1.n9 h.1 c hc
    have e10 : M1 1 = M 1 := n9 1 (by omega)
    unfold wX1_setLevel
    simp only [Int.reduceAdd]
    refine p_has_t (by rw [e10]; omega) (gK0_r ⟨fun e => absurd e (by decide), fun _ => ⟨⟨by omega, by omega⟩, fun M2 e2 => hK _ _ (fun K2 hk => ?_)⟩⟩)
    have g1 : ∀ x, x ≠ 3 → M2 x = M1 x := fun x hx => by rw [e2, gup_c _ hx]
    have eN2 : nN M2 = nN M := by unfold nN; rw [g1 228 (by decide), n9 228 (by omega)]
    have e281 : M2 228 1 = M 228 1 := by rw [g1 228 (by decide), n9 228 (by omega)]
    have e29 : M2 229 = M 229 := by rw [g1 229 (by decide), n9 229 (by omega)]
    unfold wX10_lift
    simp only [Int.reduceAdd]
    refine p_isNode (by omega) (fun _ => ⟨fun _ => p_inI (fun _ => ⟨fun _ => p_keepPast (by rw [e281]; exact h.1.und) (fun sh M3 m3 => ⟨⟨by omega, by omega⟩, ⟨by omega, by omega⟩, fun x ex => ⟨⟨by omega, by omega⟩, ⟨by omega, by omega⟩, fun M4 e4 => ?_⟩⟩), fun e => absurd e (by decide)⟩) (fun p => absurd (show _ by omega) p), fun e => absurd e (by decide)⟩) (fun p => absurd (show _ by omega) p)
    have r3 : ∀ k, k < 157 → M3 229 k = M 229 k := fun k hk => by rw [m3.2.2.2.2.1 k (by omega), e29]
    have ex2 : x = lev M u := by rw [ex, r3 _ (by omega)]
    rw [ex2]
    have o4 : Only 229 M3 M4 := by rw [e4]; exact Only.rf.up
    have lvM : ∀ k, 0 ≤ k → k < 12 → M 3 k = M 229 (144 + k) := fun k a b => by
      have := h.1.2.1.2.2.1 k a b
      rw [show (0 : Int) + 144 + k = 144 + k by omega] at this
      exact this
    have dr : M 1 2 = M 229 156 := h.1.2.1.2.2.2.1
    refine hk M4 (lev_inv h P1 (fun x _ b => g1 x b) (fun k _ => by rw [g1 1 (by decide)]) m3 o4 (fun k a => by rw [e4, gup_k _ (by omega)]) ?_ (fun k a b => ?_))
    · rw [g1 1 (by decide), e10, dr, e4, gup_k _ (by omega), r3 156 (by omega)]
    · have l := h.1.lev k a b
      have s1 : M2 3 k = if k = u then i else M 3 k := by rw [e2, gup_e, n9 3 (by omega)]
      have s2 : M4 229 (144 + k) = if k = u then i else M 229 (144 + k) := by
        rw [e4, gup_e, r3 _ (by omega)]
        by_cases g : k = u
        · rw [if_pos g, if_pos (by omega)]
        · rw [if_neg g, if_neg (by omega)]
      rw [s1, s2]
      by_cases g : k = u
      · rw [if_pos g, if_pos g]
        exact ⟨rfl, by omega, by omega, fun z => by omega⟩
      · rw [if_neg g, if_neg g, lvM k a b]
        exact ⟨rfl, l⟩
  · unfold wX10_lift
    exact p_isNode hn (fun p => absurd p q) (fun _ => ⟨fun e => absurd rfl e, fun _ => hk M h.later⟩)
def drw (s : Int) : Nat → Int
  | 0 => s
  | k + 1 => gwr ((gwr ((drw s k) * 69069)) + 1)
def lvd (d : Int) : Int := if (d % 4294967296 / 65536) % 8 = 0 then 2 else if 2 < (d % 4294967296 / 65536) % 8 then 0 else 1
theorem lvd_b (d : Int) : 0 ≤ lvd d ∧ lvd d ≤ 2 := by unfold lvd; split; omega; split <;> omega
theorem gwr_id {z : Int} (h : gR z) : gwr z = z := g32_toInt h
theorem drw_sI (s w : Int) (hw : 0 ≤ w) : drw s (w + 1).toNat = gwr ((gwr ((drw s w.toNat) * 69069)) + 1) := by
  rw [show (w + 1).toNat = w.toNat + 1 by omega]
  rfl
theorem p_drawLevels {s n : Int} {K : gMem → Prop} {M : gMem} (e0 : M 1 0 = n) (hn : 0 ≤ n ∧ n ≤ 12) (hK : ∀ M', (∀ x, x ≠ 1 → x ≠ 3 → M' x = M x) → (∀ k, k ≠ 2 → M' 1 k = M 1 k) → M' 1 2 = drw s n.toNat → (∀ k, 0 ≤ k → k < n → M' 3 k = lvd (drw s (k + 1).toNat)) → (∀ k, n ≤ k → M' 3 k = M 3 k) → K M') : wX1_drawLevels 1 s K M := by
  unfold wX1_drawLevels
  simp only [Int.reduceAdd]
  intro M1 e1
  refine ⟨fun v M' => 0 ≤ v ∧ v ≤ n ∧ (∀ x, x ≠ 1 → x ≠ 3 → M' x = M x) ∧ (∀ k, k ≠ 2 → M' 1 k = M 1 k) ∧ M' 1 2 = drw s v.toNat ∧ (∀ k, 0 ≤ k → k < v → M' 3 k = lvd (drw s (k + 1).toNat)) ∧ ∀ k, v ≤ k → M' 3 k = M 3 k, fun v _ => n - v, ⟨by omega, by omega, fun x a _ => by rw [e1, gup_c _ a], fun k a => by rw [e1, gup_k _ a], by rw [e1, gup_s]; rfl, fun k a b => by omega, fun k _ => by rw [e1, gup_c _ (by decide)]⟩, ?_⟩
  intro v M2 ⟨v0, v1, a1, a2, a3, a4, a5⟩
  dsimp only
  have e10 : M2 1 0 = n := by rw [a2 0 (by decide)]; exact e0
  rw [e10]
  refine ⟨by omega, fun q => ?_, fun q M3 e3 => ?_⟩
  · have e : v = n := by omega
    subst e
    exact hK M2 a1 a2 a3 a4 a5
  · have d3 : M3 1 2 = drw s (v + 1).toNat := by rw [e3, gup_s, a3, drw_sI s v v0]
    rw [d3]
    have hb : 0 ≤ drw s (v + 1).toNat % 4294967296 / 65536 := by omega
    refine ⟨⟨hb, by decide⟩, fun r er => ?_⟩
    have fin : ∀ l M4, l = lvd (drw s (v + 1).toNat) → M4 = gup M3 3 v l → gR (v + 1) ∧ (0 ≤ v + 1 ∧ v + 1 ≤ n ∧ (∀ x, x ≠ 1 → x ≠ 3 → M4 x = M x) ∧ (∀ k, k ≠ 2 → M4 1 k = M 1 k) ∧ M4 1 2 = drw s (v + 1).toNat ∧ (∀ k, 0 ≤ k → k < v + 1 → M4 3 k = lvd (drw s (k + 1).toNat)) ∧ ∀ k, v + 1 ≤ k → M4 3 k = M 3 k) ∧ n - (v + 1) < n - v := by
      intro l M4 el e4
      refine ⟨⟨by omega, by omega⟩, ⟨by omega, by omega, fun x a b => by rw [e4, gup_c _ b, e3, gup_c _ a, a1 x a b], fun k a => by rw [e4, gup_c _ (by decide), e3, gup_k _ a, a2 k a], by rw [e4, gup_c _ (by decide), d3], fun k a b => ?_, fun k a => ?_⟩, by omega⟩
      · rw [e4]
        by_cases g : k = v
        · rw [g, gup_s, el]
        · rw [gup_k _ g, e3, gup_c _ (by decide)]; exact a4 k a (by omega)
      · rw [e4, gup_k _ (by omega), e3, gup_c _ (by decide)]; exact a5 k (by omega)
    refine gK0_r ⟨fun a => gK1_r ⟨fun b => ⟨⟨by omega, by omega⟩, fun M4 e4 => fin 0 M4 ?_ e4⟩, fun b => ⟨⟨by omega, by omega⟩, fun M4 e4 => fin 1 M4 ?_ e4⟩⟩, fun a => ⟨⟨by omega, by omega⟩, fun M4 e4 => fin 2 M4 ?_ e4⟩⟩
    · unfold lvd; rw [← er, if_neg a, if_pos b]
    · unfold lvd; rw [← er, if_neg a, if_neg b]
    · unfold lvd; rw [← er, if_pos a]
theorem p_nodesOfLevel0 {n a : Int} {K : Int → gMem → Prop} {M : gMem} (e0 : M 1 0 = n) (hn : 0 ≤ n ∧ n ≤ 12) (hK : K (cnt (fun v => decide (M 3 v = a)) n.toNat) M) : wX1_nodesOfLevel 1 a K M := by
  unfold wX1_nodesOfLevel
  simp only [Int.reduceAdd]
  refine ⟨fun f v M' => M' = M ∧ 0 ≤ v ∧ v ≤ n ∧ f = cnt (fun v => decide (M 3 v = a)) v.toNat, fun f v _ => n - v, ⟨rfl, by omega, by omega, rfl⟩, ?_⟩
  intro f v M1 ⟨e1, v0, v1, hf⟩
  subst e1
  dsimp only
  rw [e0]
  have hs := cnt_sI (fun v => decide (M1 3 v = a)) v v0
  have hb := cnt_bI (fun v => decide (M1 3 v = a)) v v0
  rw [← hf] at hs hb
  refine ⟨by omega, fun q => ?_, fun q => ⟨⟨by omega, by omega⟩, ?_⟩⟩
  · have : v = n := by omega
    rw [hf, this]; exact hK
  · refine gK1_r ⟨fun b => ⟨⟨by omega, by omega⟩, ⟨rfl, by omega, by omega, ?_⟩, by omega⟩, fun b => ⟨⟨by omega, by omega⟩, ⟨by omega, by omega⟩, ⟨rfl, by omega, by omega, ?_⟩, by omega⟩⟩
    · rw [hs, if_neg (by simp only [decide_eq_true_eq]; exact b)]; omega
    · rw [hs, if_pos (by simp only [decide_eq_true_eq]; exact b)]
theorem cnt_not {p q : Int → Bool} : ∀ k : Nat, (∀ i : Nat, i < k → q (i : Int) = !(p (i : Int))) → cnt p k + cnt q k = (k : Int)
  | 0, _ => rfl
  | k + 1, h => by
    have ih := cnt_not k (fun i hi => h i (by omega))
    rw [cnt_s, cnt_s, h k (by omega)]
    cases p (k : Int)
    · simp; omega
    · simp; omega
theorem c_draw {t s : Int} {K1 : Int → gMem → Prop} {M : gMem} (h : Inv t M) (ht : 0 ≤ t ∧ t ≤ 512) (hK : ∀ r M1, Ag t (wX10_draw 228 s) r M1 → K1 r M1) : wX9_draw 0 s K1 M := by
  unfold wX9_draw
  simp only [Int.reduceAdd]
  have hn := h.1.1
  have e0 : M 1 0 = nN M := h.1.2.1.1
  refine p_push h.1 ht (fun M1 P1 => ?_)
  have n9 := fun c hc => P1.n9 h.1 c hc
  have e10 : M1 1 0 = nN M := by rw [n9 1 (by omega)]; exact e0
  refine p_drawLevels e10 (by omega) (fun M2 g1 g2 g3 g4 g5 => ?_)
  have e20 : M2 1 0 = nN M := by rw [g2 0 (by decide)]; exact e10
  refine p_nodesOfLevel0 e20 (by omega) ?_
  rw [e20]
  have hb := cnt_bI (fun v => decide (M2 3 v = 0)) (nN M) (by omega)
  refine ⟨⟨by omega, by omega⟩, hK _ _ (fun K2 hk => ?_)⟩
  have e281 : M2 228 1 = M 228 1 := by rw [g1 228 (by decide) (by decide), n9 228 (by omega)]
  have eN2 : nN M2 = nN M := by unfold nN; rw [g1 228 (by decide) (by decide), n9 228 (by omega)]
  have e29 : M2 229 = M 229 := by rw [g1 229 (by decide) (by decide), n9 229 (by omega)]
  unfold wX10_draw
  simp only [Int.reduceAdd]
  refine p_keepPast (by rw [e281]; exact h.1.und) (fun sh M3 m3 => ⟨⟨by decide, by decide⟩, fun M4 e4 => ?_⟩)
  have eN3 : M3 228 2 = nN M := by rw [m3.2.2.1 2 (by decide)]; exact eN2
  have cn : nN M - cnt (fun v => decide (M2 3 v = 0)) (nN M).toNat = cnt (fun v => decide (lvd (drw s (v + 1).toNat) ≠ 0)) (nN M).toNat := by
    have := cnt_not (p := fun v => decide (M2 3 v = 0)) (q := fun v => decide (lvd (drw s (v + 1).toNat) ≠ 0)) (nN M).toNat (fun i hi => by
      rw [g4 (i : Int) (by omega) (by omega)]
      by_cases g : lvd (drw s ((i : Int) + 1).toNat) = 0
      · simp [g]
      · simp [g])
    omega
  rw [cn] at hk
  refine ⟨fun f v M' => 0 ≤ v ∧ v ≤ nN M ∧ Only 229 M3 M' ∧ (∀ k, k < 144 ∨ 157 ≤ k → M' 229 k = M3 229 k) ∧ M' 229 156 = drw s v.toNat ∧ (∀ k, 0 ≤ k → k < v → M' 229 (144 + k) = lvd (drw s (k + 1).toNat)) ∧ (∀ k, v ≤ k → k < 12 → M' 229 (144 + k) = M3 229 (144 + k)) ∧ f = cnt (fun v => decide (lvd (drw s (v + 1).toNat) ≠ 0)) v.toNat, fun f v _ => nN M - v, ⟨by omega, by omega, by rw [e4]; exact Only.rf.up, fun k a => by rw [e4, gup_k _ (by omega)], by rw [e4, gup_s]; rfl, fun k a b => by omega, fun k a b => by rw [e4, gup_k _ (by omega)], rfl⟩, ?_⟩
  intro f v M5 ⟨v0, v1, o5, a1, a2, a3, a4, hf⟩
  dsimp only
  have eN5 : M5 228 2 = nN M := by rw [o5 228 (by decide)]; exact eN3
  rw [eN5]
  have hs := cnt_sI (fun v => decide (lvd (drw s (v + 1).toNat) ≠ 0)) v v0
  have hb2 := cnt_bI (fun v => decide (lvd (drw s (v + 1).toNat) ≠ 0)) v v0
  rw [← hf] at hs hb2
  refine ⟨by omega, fun q => ?_, fun q => ⟨⟨by decide, by decide⟩, ⟨by decide, by decide⟩, fun M6 e6 => ⟨⟨by decide, by decide⟩, ?_⟩⟩⟩
  · have e : v = nN M := by omega
    rw [hf, e]
    refine hk M5 (lev_inv h P1 g1 g2 m3 o5 a1 (by rw [g3, a2, e]) (fun k b c => ?_))
    have l := h.1.lev k b c
    by_cases g : k < nN M
    · rw [g4 k b g, a3 k b (by omega)]
      have := lvd_b (drw s (k + 1).toNat)
      exact ⟨rfl, this.1, this.2, fun z => by omega⟩
    · have lvM : M 3 k = M 229 (144 + k) := by
        have := h.1.2.1.2.2.1 k b c
        rw [show (0 : Int) + 144 + k = 144 + k by omega] at this
        exact this
      rw [g5 k (by omega), n9 3 (by omega), a4 k (by omega) c, m3.2.2.2.2.1 _ (by omega), e29, lvM]
      exact ⟨rfl, l⟩
  · have d6 : M6 229 156 = drw s (v + 1).toNat := by rw [e6, gup_s, a2, drw_sI s v v0]
    rw [d6, gwr_id (z := 144 + v) (by exact ⟨by omega, by omega⟩)]
    have hb3 : 0 ≤ drw s (v + 1).toNat % 4294967296 / 65536 := by omega
    refine ⟨⟨hb3, by decide⟩, fun r er => ?_⟩
    have fin : ∀ l, l = lvd (drw s (v + 1).toNat) → ((0 : Int) ≤ 144 + v ∧ 144 + v < 1727) ∧ ∀ M14, M14 = gup M6 229 (144 + v) l → gK1 (fun P17 => (3 ≤ r → P17 0 M14) ∧ (¬ (3 : Int) ≤ r → P17 1 M14)) (fun (x15 : Int) (M16 : gMem) => ∀ v19 : Int, v19 = gwr (f + x15) → (gR (v + 1) ∧ (0 ≤ v + 1 ∧ v + 1 ≤ nN M ∧ Only 229 M3 M16 ∧ (∀ k, k < 144 ∨ 157 ≤ k → M16 229 k = M3 229 k) ∧ M16 229 156 = drw s (v + 1).toNat ∧ (∀ k, 0 ≤ k → k < v + 1 → M16 229 (144 + k) = lvd (drw s (k + 1).toNat)) ∧ (∀ k, v + 1 ≤ k → k < 12 → M16 229 (144 + k) = M3 229 (144 + k)) ∧ v19 = cnt (fun v => decide (lvd (drw s (v + 1).toNat) ≠ 0)) (v + 1).toNat) ∧ nN M - (v + 1) < nN M - v)) := by
      intro l el
      refine ⟨⟨by omega, by omega⟩, fun M7 e7 => ?_⟩
      have body : ∀ x, (x = 0 ∧ l = 0) ∨ (x = 1 ∧ l ≠ 0) → ∀ v19 : Int, v19 = gwr (f + x) → (gR (v + 1) ∧ (0 ≤ v + 1 ∧ v + 1 ≤ nN M ∧ Only 229 M3 M7 ∧ (∀ k, k < 144 ∨ 157 ≤ k → M7 229 k = M3 229 k) ∧ M7 229 156 = drw s (v + 1).toNat ∧ (∀ k, 0 ≤ k → k < v + 1 → M7 229 (144 + k) = lvd (drw s (k + 1).toNat)) ∧ (∀ k, v + 1 ≤ k → k < 12 → M7 229 (144 + k) = M3 229 (144 + k)) ∧ v19 = cnt (fun v => decide (lvd (drw s (v + 1).toNat) ≠ 0)) (v + 1).toNat) ∧ nN M - (v + 1) < nN M - v) := by
        intro x hx y ey
        rw [gwr_id (z := f + x) (by exact ⟨by omega, by omega⟩)] at ey
        refine ⟨⟨by omega, by omega⟩, ⟨by omega, by omega, by rw [e7, e6]; exact o5.up.up, fun k b => by rw [e7, gup_k _ (by omega), e6, gup_k _ (by omega)]; exact a1 k b, by rw [e7, gup_k _ (by omega), d6], fun k b c => ?_, fun k b c => by rw [e7, gup_k _ (by omega), e6, gup_k _ (by omega)]; exact a4 k (by omega) c, ?_⟩, by omega⟩
        · by_cases g : k = v
          · rw [g, e7, gup_s, el]
          · rw [e7, gup_k _ (by omega), e6, gup_k _ (by omega)]; exact a3 k b (by omega)
        · rw [hs, ← el, ey]
          rcases hx with hx | hx
          · rw [if_neg (by simp only [decide_eq_true_eq]; omega)]; omega
          · rw [if_pos (by simp only [decide_eq_true_eq]; omega)]; omega
      have lv : (3 ≤ r ∧ l = 0) ∨ (¬ 3 ≤ r ∧ l ≠ 0) := by
        rw [el]
        unfold lvd
        rw [← er]
        by_cases g1 : r = 0
        · rw [if_pos g1]; omega
        · rw [if_neg g1]
          by_cases g2 : 2 < r
          · rw [if_pos g2]; omega
          · rw [if_neg g2]; omega
      exact gK1_r ⟨fun a => body 0 (by omega), fun a => body 1 (by omega)⟩
    refine gK1_r ⟨fun a => ⟨fun b => fin 0 ?_, fun b => fin 1 ?_⟩, fun a => fin 2 ?_⟩
    · unfold lvd; rw [← er, if_neg a, if_pos (by omega)]
    · unfold lvd; rw [← er, if_neg a, if_neg (by omega)]
    · unfold lvd; rw [← er, if_pos a]
