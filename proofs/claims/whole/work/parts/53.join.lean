/-! ACTS, 2: join, cut, lift -/
theorem p_setLength {c u v l : Int} {K : gMem → Prop} {M : gMem} (hn : M c 0 ≤ 12) (hu : 0 ≤ u ∧ u < M c 0) (hv : 0 ≤ v ∧ v < M c 0) (ne : u ≠ v) (hl : 0 ≤ M c 1 ∧ M c 1 ≤ 1000) (hver : 0 ≤ M c 3 ∧ M c 3 ≤ 200000) (hK : ∀ M', (∀ x, x ≠ c → x ≠ c + 1 → M' x = M x) → (∀ k, k ≠ 1 → k ≠ 3 → M' c k = M c k) → M' c 1 = M c 1 - (if 0 < M (c + 1) (12 * u + v) then 1 else 0) + (if 0 < l then 1 else 0) → M' c 3 = M c 3 + 1 → (∀ k, M' (c + 1) k = if k = 12 * u + v ∨ k = 12 * v + u then l else M (c + 1) k) → K M') : wX1_setLength c u v l K M := by
  unfold wX1_setLength
  have tail : ∀ M16 : gMem, (∀ x, x ≠ c → M16 x = M x) → (∀ k, k ≠ 1 → M16 c k = M c k) → M16 c 1 = M c 1 - (if 0 < M (c + 1) (12 * u + v) then 1 else 0) + (if 0 < l then 1 else 0) → wX9_cell u v (fun (r20 : Int) (M19 : gMem) => ((0 : Int) ≤ r20 ∧ r20 < 144) ∧ (∀ M21 : gMem, M21 = gup M19 (c + 1) r20 l → (wX9_cell v u (fun (r23 : Int) (M22 : gMem) => ((0 : Int) ≤ r23 ∧ r23 < 144) ∧ (∀ M24 : gMem, M24 = gup M22 (c + 1) r23 l → (gR ((M24 c 3) + 1) ∧ (∀ M25 : gMem, M25 = gup M24 c 3 ((M24 c 3) + 1) → (K M25))))) M21))) M16 := by
    intro M16 a1 a2 a3
    refine p_cell (by omega) ⟨⟨by omega, by omega⟩, fun M1 e1 => p_cell (by omega) ⟨⟨by omega, by omega⟩, fun M2 e2 => ?_⟩⟩
    have f3 : M2 c 3 = M c 3 := by rw [e2, gup_c _ (by omega), e1, gup_c _ (by omega), a2 3 (by decide)]
    rw [f3]
    refine ⟨⟨by omega, by omega⟩, fun M3 e3 => hK M3 (fun x p q => ?_) (fun k p q => ?_) ?_ ?_ (fun k => ?_)⟩
    · rw [e3, gup_c _ p, e2, gup_c _ q, e1, gup_c _ q, a1 x p]
    · rw [e3, gup_k _ q, e2, gup_c _ (by omega), e1, gup_c _ (by omega), a2 k p]
    · rw [e3, gup_k _ (by decide), e2, gup_c _ (by omega), e1, gup_c _ (by omega), a3]
    · rw [e3, gup_s]
    · have z : M3 (c + 1) k = M2 (c + 1) k := by rw [e3, gup_c _ (by omega)]
      rw [z, e2, gup_e, e1, gup_e, a1 (c + 1) (by omega)]
      by_cases p : k = 12 * v + u
      · rw [if_pos p, if_pos (Or.inr p)]
      · rw [if_neg p]
        by_cases q : k = 12 * u + v
        · rw [if_pos q, if_pos (Or.inl q)]
        · rw [if_neg q, if_neg (fun r => r.elim q p)]
  have mid : ∀ M13 : gMem, (∀ x, x ≠ c → M13 x = M x) → (∀ k, k ≠ 1 → M13 c k = M c k) → M13 c 1 = M c 1 - (if 0 < M (c + 1) (12 * u + v) then 1 else 0) → gK0 (fun P17 => (l ≤ 0 → P17 M13) ∧ (¬ l ≤ 0 → gR ((M13 c 1) + 1) ∧ (∀ M27 : gMem, M27 = gup M13 c 1 ((M13 c 1) + 1) → (P17 M27)))) (fun (M16 : gMem) => wX9_cell u v (fun (r20 : Int) (M19 : gMem) => ((0 : Int) ≤ r20 ∧ r20 < 144) ∧ (∀ M21 : gMem, M21 = gup M19 (c + 1) r20 l → (wX9_cell v u (fun (r23 : Int) (M22 : gMem) => ((0 : Int) ≤ r23 ∧ r23 < 144) ∧ (∀ M24 : gMem, M24 = gup M22 (c + 1) r23 l → (gR ((M24 c 3) + 1) ∧ (∀ M25 : gMem, M25 = gup M24 c 3 ((M24 c 3) + 1) → (K M25))))) M21))) M16) := by
    intro M13 a1 a2 a3
    have bb : -1 ≤ M13 c 1 ∧ M13 c 1 ≤ 1000 := by rw [a3]; split <;> omega
    refine gK0_r ⟨fun b => tail M13 a1 a2 ?_, fun b => ⟨⟨by omega, by omega⟩, fun M1 e1 => tail M1 (fun x p => by rw [e1, gup_c _ p, a1 x p]) (fun k p => by rw [e1, gup_k _ p, a2 k p]) ?_⟩⟩
    · rw [a3, if_neg (show ¬ 0 < l by omega), Int.add_zero]
    · rw [e1, gup_s, a3, if_pos (show 0 < l by omega)]
  refine p_has_t hu (gK0_r ⟨fun e => absurd e (by decide), fun _ => p_has_t hv ⟨fun e => absurd e (by decide), fun _ => ⟨fun _ => p_cell (by omega) ⟨⟨by omega, by omega⟩, ?_⟩, fun e => absurd e ne⟩⟩⟩)
  refine gK0_r ⟨fun b => mid M (fun _ _ => rfl) (fun _ _ => rfl) ?_, fun b => ⟨⟨by omega, by omega⟩, fun M1 e1 => mid M1 (fun x p => by rw [e1, gup_c _ p]) (fun k p => by rw [e1, gup_k _ p]) ?_⟩⟩
  · rw [if_neg (show ¬ 0 < M (c + 1) (12 * u + v) by omega), Int.sub_zero]
  · rw [e1, gup_s, if_pos (show 0 < M (c + 1) (12 * u + v) by omega)]
theorem p_hasRoom {c u v : Int} {K : Int → gMem → Prop} {M : gMem} (hn : M c 0 ≤ 12) (hu : 0 ≤ u ∧ u < M c 0) (hv : 0 ≤ v ∧ v < M c 0) (h1 : M c 1 < 30 ∨ 0 < M (c + 1) (12 * u + v) → K 1 M) (h0 : ¬ (M c 1 < 30 ∨ 0 < M (c + 1) (12 * u + v)) → K 0 M) : wX1_hasRoomFor c u v K M := by
  unfold wX1_hasRoomFor
  refine gK1_r (gK0_r ⟨fun a => ⟨Or.inr rfl, h1 (Or.inl a)⟩, fun a => p_has_t hu (gK0_r ⟨fun e => absurd e (by decide), fun _ => p_has_t hv ⟨fun e => absurd e (by decide), fun _ => p_cell (by omega) ⟨⟨by omega, by omega⟩, fun b => ⟨Or.inl rfl, h0 (by omega)⟩, fun b => ⟨Or.inr rfl, h1 (by omega)⟩⟩⟩⟩)⟩)
theorem p_lies {u v l : Int} {K : gMem → Prop} {M : gMem} (hu : 0 ≤ u ∧ u < 12) (hv : 0 ≤ v ∧ v < 12) (hK : ∀ M', Only 229 M M' → (∀ k, M' 229 k = if k = 12 * u + v ∨ k = 12 * v + u then l else M 229 k) → K M') : wX10_lies 228 u v l K M := by
  unfold wX10_lies
  simp only [Int.reduceAdd]
  refine ⟨⟨by omega, by omega⟩, ⟨by omega, by omega⟩, ⟨by omega, by omega⟩, fun M1 e1 => ⟨⟨by omega, by omega⟩, ⟨by omega, by omega⟩, ⟨by omega, by omega⟩, fun M2 e2 => hK M2 (by rw [e2, e1]; exact Only.rf.up.up) (fun k => ?_)⟩⟩
  rw [e2, gup_e, e1, gup_e]
  by_cases p : k = 12 * v + u
  · rw [if_pos p, if_pos (Or.inr p)]
  · rw [if_neg p]
    by_cases q : k = 12 * u + v
    · rw [if_pos q, if_pos (Or.inl q)]
    · rw [if_neg q, if_neg (fun r => r.elim q p)]
theorem cnt_set {r r' : Int → Int} {a b l : Int} (ha : 0 ≤ a ∧ a < 144) (hb : 0 ≤ b ∧ b < 144) (ne : a ≠ b) (hs : r a = r b) (hr : ∀ k, 0 ≤ k → k < 144 → r' k = if k = a ∨ k = b then l else r k) : cnt (fun k => decide (0 < r' k)) 144 = cnt (fun k => decide (0 < r k)) 144 + 2 * (if 0 < l then 1 else 0) - 2 * (if 0 < r a then 1 else 0) := by
  have ea : ((a.toNat : Nat) : Int) = a := by omega
  have eb : ((b.toNat : Nat) : Int) = b := by omega
  have ra := hr a ha.1 ha.2
  rw [if_pos (Or.inl rfl)] at ra
  have rb := hr b hb.1 hb.2
  rw [if_pos (Or.inr rfl)] at rb
  have off : ∀ i : Nat, i < 144 → i ≠ a.toNat → i ≠ b.toNat → r' (i : Int) = r (i : Int) := fun i hi p q => by rw [hr (i : Int) (by omega) (by omega), if_neg (by omega)]
  by_cases hl : 0 < l
  · by_cases ho : 0 < r a
    · rw [if_pos hl, if_pos ho]
      have := cnt_cong (p := fun k => decide (0 < r' k)) (q := fun k => decide (0 < r k)) 144 (fun i hi => by
        by_cases p : i = a.toNat
        · rw [p, ea, ra, decide_eq_true hl, decide_eq_true ho]
        · by_cases q : i = b.toNat
          · rw [q, eb, rb, decide_eq_true hl, decide_eq_true (by omega)]
          · rw [off i hi p q])
      omega
    · rw [if_pos hl, if_neg ho]
      have := cnt_two (p := fun k => decide (0 < r k)) (q := fun k => decide (0 < r' k)) (a := a.toNat) (b := b.toNat) (m := 144) (by omega) (by omega) (by omega) (fun i hi p q => by rw [off i hi p q]) (by rw [ea]; exact decide_eq_false ho) (by rw [eb, ← hs]; exact decide_eq_false ho) (by rw [ea, ra]; exact decide_eq_true hl) (by rw [eb, rb]; exact decide_eq_true hl)
      omega
  · by_cases ho : 0 < r a
    · rw [if_neg hl, if_pos ho]
      have := cnt_two (p := fun k => decide (0 < r' k)) (q := fun k => decide (0 < r k)) (a := a.toNat) (b := b.toNat) (m := 144) (by omega) (by omega) (by omega) (fun i hi p q => by rw [off i hi p q]) (by rw [ea, ra]; exact decide_eq_false hl) (by rw [eb, rb]; exact decide_eq_false hl) (by rw [ea]; exact decide_eq_true ho) (by rw [eb, ← hs]; exact decide_eq_true ho)
      omega
    · rw [if_neg hl, if_neg ho]
      have := cnt_cong (p := fun k => decide (0 < r' k)) (q := fun k => decide (0 < r k)) 144 (fun i hi => by
        by_cases p : i = a.toNat
        · rw [p, ea, ra, decide_eq_false hl, decide_eq_false ho]
        · by_cases q : i = b.toNat
          · rw [q, eb, rb, decide_eq_false hl, decide_eq_false (by omega)]
          · rw [off i hi p q])
      omega
theorem net_set {t u v l : Int} {M M' : gMem} (h : InvA t M) (hu : 0 ≤ u ∧ u < nN M) (hv : 0 ≤ v ∧ v < nN M) (ne : u ≠ v) (hl : 0 ≤ l ∧ l ≤ 99) (hn2 : M' 228 2 = M 228 2) (c0 : M' 1 0 = M 1 0) (c2 : M' 1 2 = M 1 2) (c1 : M' 1 1 = M 1 1 - (if 0 < M 229 (12 * u + v) then 1 else 0) + (if 0 < l then 1 else 0)) (h30 : M' 1 1 ≤ 30) (m2 : ∀ k, 0 ≤ k → k < 144 → M' 2 k = if k = 12 * u + v ∨ k = 12 * v + u then l else M 2 k) (m3 : ∀ k, 0 ≤ k → k < 12 → M' 3 k = M 3 k) (r : ∀ k, 0 ≤ k → k < 157 → M' 229 k = if k = 12 * u + v ∨ k = 12 * v + u then l else M 229 k) : NetRel M' 1 0 := by
  have hn := h.1
  obtain ⟨a, b, c, d, e, f, g, i⟩ := h.2.1
  have eN : nN M' = nN M := hn2
  have sy := h.sym u v hu.1 hu.2 hv.1 hv.2
  unfold mL at sy
  have cs := cnt_set (r := M 229) (r' := M' 229) (a := 12 * u + v) (b := 12 * v + u) (l := l) (by omega) (by omega) (by omega) sy (fun k p q => r k p (by omega))
  have ce := cnt_net h
  refine ⟨by rw [c0, eN]; exact a, fun k p q => ?_, fun k p q => ?_, ?_, ?_, h30, fun x y p q s w => ?_, fun x p q => ?_⟩
  · have b : M 2 k = M 229 (0 + k) := b k p q
    show M' 2 k = M' 229 (0 + k)
    rw [Int.zero_add] at b ⊢
    rw [m2 k p q, r k p (by omega)]
    by_cases z : k = 12 * u + v ∨ k = 12 * v + u
    · rw [if_pos z, if_pos z]
    · rw [if_neg z, if_neg z]; exact b
  · have : M 3 k = M 229 (0 + 144 + k) := c k p q
    show M' 3 k = M' 229 (0 + 144 + k)
    rw [m3 k p q, show (0 : Int) + 144 + k = 144 + k by omega, r _ (by omega) (by omega), if_neg (by omega)]
    rw [show (0 : Int) + 144 + k = 144 + k by omega] at this
    exact this
  · rw [c2, show (0 : Int) + 156 = 156 by omega, r 156 (by omega) (by omega), if_neg (by omega)]
    exact d
  · have e2 : (fun k => decide (0 < M' 229 (0 + k))) = (fun k => decide (0 < M' 229 k)) := by funext k; rw [Int.zero_add]
    rw [e2, cs, ce, c1]
    omega
  · dsimp only
    rw [Int.zero_add, Int.zero_add, r _ (by omega) (by omega), r _ (by omega) (by omega)]
    have L := h.L x y p q s w
    unfold mL at L
    by_cases z : 12 * x + y = 12 * u + v ∨ 12 * x + y = 12 * v + u
    · rw [if_pos z, if_pos (by omega)]
      exact ⟨hl.1, hl.2, rfl, fun _ => by omega, fun _ => by omega⟩
    · rw [if_neg z, if_neg (by omega)]
      rw [eN]; exact L
  · have := i x p q
    rw [show (0 : Int) + 144 + x = 144 + x by omega] at this ⊢
    rw [r _ (by omega) (by omega), if_neg (by omega), eN]
    exact this
/-- join and cut, behind the push -/
theorem set_inv {t u v l sh : Int} {M M1 M2 M3 M4 : gMem} (h : Inv t M) (hu : 0 ≤ u ∧ u < nN M) (hv : 0 ≤ v ∧ v < nN M) (ne : u ≠ v) (hl : 0 ≤ l ∧ l ≤ 99) (hC : PuC M M1)
    (g1 : ∀ x, x ≠ 1 → x ≠ 2 → M2 x = M1 x) (g2 : ∀ k, k ≠ 1 → k ≠ 3 → M2 1 k = M1 1 k) (g3 : M2 1 1 = M 1 1 - (if 0 < M 229 (12 * u + v) then 1 else 0) + (if 0 < l then 1 else 0)) (h30 : M2 1 1 ≤ 30) (g4 : M2 1 3 = M1 1 3 + 1) (g5 : ∀ k, M2 2 k = if k = 12 * u + v ∨ k = 12 * v + u then l else M1 2 k)
    (hM : KpM M2 sh M3) (o4 : Only 229 M3 M4) (r4 : ∀ k, M4 229 k = if k = 12 * u + v ∨ k = 12 * v + u then l else M3 229 k) : Inv (t + 1) M4 := by
  have hn := h.1.1
  have n9 := fun c hc => hC.n9 h.1 c hc
  obtain ⟨m1, m2, m3, m4, m5, m6, m7⟩ := id hM
  have k28 : ∀ k, k ≠ 1 → M4 228 k = M 228 k := fun k hk => by rw [o4 228 (by decide), m3 k hk, g1 228 (by decide) (by decide), n9 228 (by omega)]
  have all : ∀ c, c ≠ 228 → c ≠ 229 → M4 c = M2 c := fun c a b => by rw [o4 c b, m2 c a b]
  have e29 : M2 229 = M 229 := by rw [g1 229 (by decide) (by decide), n9 229 (by omega)]
  have e281 : M2 228 1 = M 228 1 := by rw [g1 228 (by decide) (by decide), n9 228 (by omega)]
  have past := past_push h.1 hC hM e281 e29 (k28 2 (by decide)) (fun x a b => by rw [all x (by omega) (by omega), g1 x (by omega) (by omega)]) (by rw [o4 228 (by decide)]) (fun k a b => by rw [r4 k, if_neg (by omega)])
  have c13 : M4 1 3 = M 1 3 + 1 := by rw [all 1 (by decide) (by decide), g4, n9 1 (by omega)]
  have net : NetRel M4 1 0 := by
    refine net_set h.1 hu hv ne hl (k28 2 (by decide)) ?_ ?_ ?_ ?_ (fun k a b => ?_) (fun k a b => ?_) (fun k a b => ?_)
    · rw [all 1 (by decide) (by decide), g2 0 (by decide) (by decide), n9 1 (by omega)]
    · rw [all 1 (by decide) (by decide), g2 2 (by decide) (by decide), n9 1 (by omega)]
    · rw [all 1 (by decide) (by decide)]; exact g3
    · rw [all 1 (by decide) (by decide)]; exact h30
    · rw [all 2 (by decide) (by decide), g5 k, n9 2 (by omega)]
    · rw [all 3 (by decide) (by decide), g1 3 (by decide) (by decide), n9 3 (by omega)]
    · rw [r4 k, m5 k (by omega), e29]
  have rest : ∀ c, (3 ≤ c ∧ c < 9) ∨ (35 ≤ c ∧ c < 228) ∨ 230 ≤ c → M4 c = M c := fun c hc => by rw [all c (by omega) (by omega), g1 c (by omega) (by omega), n9 c (by omega)]
  refine ⟨h.1.act (k28 2 (by decide)) net past (fun c hc => rest c (by omega)) (k28 6 (by decide)) (fun k a b => by rw [r4 k, if_neg (by omega), m5 k (by omega), e29]) (ver_act h.1.2.2.2.2.2.2.1 (by omega) (by rw [rest 4 (by omega)]) (fun i a b => ?_) (fun c a b => rest c (by omega))), h.2.1.stale (by rw [rest 195 (by omega)]) (by omega), h.2.2.stale (by rw [rest 209 (by omega)]) (by omega)⟩
  rw [all _ (by omega) (by omega), g1 _ (by omega) (by omega)]
  exact hC.ring i a b
theorem InvA.und {t : Int} {M : gMem} (h : InvA t M) : 0 ≤ M 228 1 ∧ M 228 1 ≤ 8 := by
  have := h.2.2.2.2.1
  have a := this.1
  have b := this.2.1
  have c := this.2.2.1
  omega
theorem c_join {t u v l : Int} {K1 : Int → gMem → Prop} {M : gMem} (h : Inv t M) (ht : 0 ≤ t ∧ t ≤ 512) (hK : ∀ r M1, Ag t (wX10_join 228 u v l) r M1 → K1 r M1) : wX9_join 0 u v l K1 M := by
  unfold wX9_join
  simp only [Int.reduceAdd]
  have hn := h.1.1
  have e0 : M 1 0 = nN M := h.1.2.1.1
  have bad2 : ¬ (((0 ≤ u ∧ u < nN M) ∧ (0 ≤ v ∧ v < nN M)) ∧ u ≠ v) → K1 (-2) M := by
    intro b
    refine hK _ _ (fun K2 hk => ?_)
    unfold wX10_join
    refine p_isNode hn (fun p => gK0_r ⟨fun e => absurd e (by decide), fun _ => p_isNode hn (fun p2 => ⟨fun e => absurd e (by decide), fun _ => ⟨fun ne => absurd ⟨⟨p, p2⟩, ne⟩ b, fun _ => hk M h.later⟩⟩) (fun _ => ⟨fun _ => hk M h.later, fun e => absurd rfl e⟩)⟩) (fun p => gK0_r ⟨fun _ => hk M h.later, fun e => absurd rfl e⟩)
  refine p_both h.1 (fun q => gK0_r ⟨fun e => absurd e (by decide), fun _ => ⟨fun ne => ?_, fun e => bad2 (fun b => b.2 e)⟩⟩) (fun q => gK0_r ⟨fun _ => bad2 (fun b => q b.1), fun e => absurd rfl e⟩)
  -- the reference, down to the letters
  have ref0 : ∀ K2 : Int → gMem → Prop, ∀ M1, nN M1 = nN M → wX10_in l 1 99 (fun (r12 : Int) (M11 : gMem) => (¬ r12 = 0 → wX10_length 228 u v (fun (r15 : Int) (M14 : gMem) => gK0 (fun P17 => (¬ r15 = 0 → P17 M14) ∧ (r15 = 0 → wX10_links 228 (fun (r25 : Int) (M24 : gMem) => (¬ r25 = 30 → P17 M24) ∧ (r25 = 30 → K2 (-5) M24)) M14)) (fun (M16 : gMem) => wX10_keepPast 228 (fun (M19 : gMem) => wX10_lies 228 u v l (fun (M20 : gMem) => wX10_links 228 (fun (r22 : Int) (M21 : gMem) => K2 r22 M21) M20) M19) M16)) M11) ∧ (r12 = 0 → K2 (-3) M11)) M1 → wX10_join 228 u v l K2 M1 := by
    intro K2 M1 eN hh
    unfold wX10_join
    exact p_isNode (by omega) (fun p => gK0_r ⟨fun e => absurd e (by decide), fun _ => p_isNode (by omega) (fun p2 => ⟨fun e => absurd e (by decide), fun _ => ⟨fun _ => hh, fun e => absurd e ne⟩⟩) (fun p => absurd (show _ by omega) p)⟩) (fun p => absurd (show _ by omega) p)
  have bad3 : ¬ (1 ≤ l ∧ l ≤ 99) → K1 (-3) M := fun b => hK _ _ (fun K2 hk => ref0 K2 M rfl (p_inI (fun p => absurd p b) (fun _ => ⟨fun e => absurd rfl e, fun _ => hk M h.later⟩)))
  refine gK0_r ⟨fun a => bad3 (by omega), fun a => ⟨fun b => ?_, fun b => bad3 (by omega)⟩⟩
  have eL : M 2 (12 * u + v) = M 229 (12 * u + v) := h.1.cLe u v q.1.1 (by omega) q.2.1 (by omega)
  have f30 : M 1 1 ≤ 30 := h.1.2.1.2.2.2.2.2.1
  have l0 : 0 ≤ M 1 1 := by have := cnt_net h.1; have := cnt_0 (fun k => decide (0 < M 229 k)) 144; omega
  have rw0 := (h.1.L u v q.1.1 (by omega) q.2.1 (by omega)).1
  unfold mL at rw0
  have ver := h.1.2.2.2.2.2.2.1.1
  refine p_hasRoom (by omega) (by omega) (by omega) (fun c => ⟨fun _ => p_push h.1 ht (fun M1 P1 => ?_), fun e => absurd e (by decide)⟩) (fun c => ⟨fun e => absurd rfl e, fun _ => hK _ _ (fun K2 hk => ref0 K2 M rfl ?_)⟩)
  · have n9 := fun c hc => P1.n9 h.1 c hc
    have c : M 1 1 < 30 ∨ 0 < M 229 (12 * u + v) := by
      have c : M 1 1 < 30 ∨ 0 < M 2 (12 * u + v) := c
      rw [eL] at c; exact c
    have e10 : M1 1 = M 1 := n9 1 (by omega)
    have e20 : M1 2 = M 2 := n9 2 (by omega)
    refine p_setLength (by rw [e10]; omega) (by rw [e10]; omega) (by rw [e10]; omega) ne (by rw [e10]; omega) (by rw [e10]; omega) (fun M2 g1 g2 g3 g4 g5 => ?_)
    have g3 : M2 1 1 = M1 1 1 - (if 0 < M1 2 (12 * u + v) then 1 else 0) + (if 0 < l then 1 else 0) := g3
    rw [e10, e20, eL] at g3
    have b30 : M2 1 1 ≤ 30 := by rw [g3, if_pos (show 0 < l by omega)]; split <;> omega
    refine hK _ _ (fun K2 hk => ref0 K2 M2 ?_ ?_)
    · unfold nN; rw [g1 228 (by decide) (by decide), n9 228 (by omega)]
    · have e29 : M2 229 = M 229 := by rw [g1 229 (by decide) (by decide), n9 229 (by omega)]
      have e281 : M2 228 1 = M 228 1 := by rw [g1 228 (by decide) (by decide), n9 228 (by omega)]
      have fin : wX10_keepPast 228 (fun (M19 : gMem) => wX10_lies 228 u v l (fun (M20 : gMem) => wX10_links 228 (fun (r22 : Int) (M21 : gMem) => K2 r22 M21) M20) M19) M2 := by
        refine p_keepPast (by rw [e281]; exact h.1.und) (fun sh M3 m3 => p_lies (by omega) (by omega) (fun M4 o4 r4 => ?_))
        have I4 := set_inv h q.1 q.2 ne (show 0 ≤ l ∧ l ≤ 99 by omega) P1 g1 g2 g3 b30 g4 g5 m3 o4 r4
        refine p_links I4.1 ?_
        have e : M4 1 1 = M2 1 1 := by rw [o4 1 (by decide), m3.2.1 1 (by decide) (by decide)]
        rw [e]; exact hk M4 I4
      refine p_inI (fun _ => ⟨fun _ => ?_, fun e => absurd e (by decide)⟩) (fun p => absurd (show _ by omega) p)
      unfold wX10_length
      simp only [Int.reduceAdd]
      refine ⟨⟨by omega, by omega⟩, ⟨by omega, by omega⟩, ⟨by omega, by omega⟩, gK0_r ⟨fun _ => fin, fun d => p_links0 ⟨fun _ => fin, fun d2 => ?_⟩⟩⟩
      rw [e29] at d d2
      rw [cnt_net h.1] at d2
      omega
  · have c : ¬ (M 1 1 < 30 ∨ 0 < M 2 (12 * u + v)) := c
    rw [eL] at c
    refine p_inI (fun _ => ⟨fun _ => ?_, fun e => absurd e (by decide)⟩) (fun p => absurd (show _ by omega) p)
    unfold wX10_length
    simp only [Int.reduceAdd]
    refine ⟨⟨by omega, by omega⟩, ⟨by omega, by omega⟩, ⟨by omega, by omega⟩, gK0_r ⟨fun d => absurd (show M 229 (12 * u + v) = 0 by omega) d, fun d => p_links h.1 ⟨fun d2 => absurd (show M 1 1 = 30 by omega) d2, fun _ => hk M h.later⟩⟩⟩
theorem c_cut {t u v : Int} {K1 : Int → gMem → Prop} {M : gMem} (h : Inv t M) (ht : 0 ≤ t ∧ t ≤ 512) (hK : ∀ r M1, Ag t (wX10_cut 228 u v) r M1 → K1 r M1) : wX9_cut 0 u v K1 M := by
  unfold wX9_cut
  simp only [Int.reduceAdd]
  have hn := h.1.1
  have e0 : M 1 0 = nN M := h.1.2.1.1
  refine p_both h.1 (fun q => ⟨fun _ => p_len1 h.1 (fun _ => ?_) (fun p => absurd q p), fun e => absurd e (by decide)⟩) (fun q => ⟨fun e => absurd rfl e, fun _ => hK _ _ (fun K2 hk => ?_)⟩)
  · have ref0 : ∀ K2 : Int → gMem → Prop, ∀ M1, nN M1 = nN M → wX10_length 228 u v (fun (r11 : Int) (M10 : gMem) => (¬ r11 = 0 → wX10_keepPast 228 (fun (M13 : gMem) => wX10_lies 228 u v 0 (fun (M14 : gMem) => K2 r11 M14) M13) M10) ∧ (r11 = 0 → K2 (-4) M10)) M1 → wX10_cut 228 u v K2 M1 := by
      intro K2 M1 eN hh
      unfold wX10_cut
      exact p_isNode (by omega) (fun p => gK0_r ⟨fun e => absurd e (by decide), fun _ => p_isNode (by omega) (fun p2 => ⟨fun _ => hh, fun e => absurd e (by decide)⟩) (fun p => absurd (show _ by omega) p)⟩) (fun p => absurd (show _ by omega) p)
    have eL : M 2 (12 * u + v) = M 229 (12 * u + v) := h.1.cLe u v q.1.1 (by omega) q.2.1 (by omega)
    have L := h.1.L u v q.1.1 (by omega) q.2.1 (by omega)
    have f30 : M 1 1 ≤ 30 := h.1.2.1.2.2.2.2.2.1
    have l0 : 0 ≤ M 1 1 := by have := cnt_net h.1; have := cnt_0 (fun k => decide (0 < M 229 k)) 144; omega
    have ver := h.1.2.2.2.2.2.2.1.1
    refine ⟨fun c => p_push h.1 ht (fun M1 P1 => ?_), fun c => hK _ _ (fun K2 hk => ref0 K2 M rfl ?_)⟩
    · have ne : u ≠ v := fun e => c (L.2.2.2.1 e)
      have n9 := fun c hc => P1.n9 h.1 c hc
      have e10 : M1 1 = M 1 := n9 1 (by omega)
      have e20 : M1 2 = M 2 := n9 2 (by omega)
      refine p_setLength (by rw [e10]; omega) (by rw [e10]; omega) (by rw [e10]; omega) ne (by rw [e10]; omega) (by rw [e10]; omega) (fun M2 g1 g2 g3 g4 g5 => ?_)
      have g3 : M2 1 1 = M1 1 1 - (if 0 < M1 2 (12 * u + v) then 1 else 0) + (if 0 < (0 : Int) then 1 else 0) := g3
      rw [e10, e20, eL] at g3
      have b30 : M2 1 1 ≤ 30 := by rw [g3, if_neg (show ¬ 0 < (0 : Int) by decide)]; split <;> omega
      refine hK _ _ (fun K2 hk => ref0 K2 M2 ?_ ?_)
      · unfold nN; rw [g1 228 (by decide) (by decide), n9 228 (by omega)]
      · have e29 : M2 229 = M 229 := by rw [g1 229 (by decide) (by decide), n9 229 (by omega)]
        have e281 : M2 228 1 = M 228 1 := by rw [g1 228 (by decide) (by decide), n9 228 (by omega)]
        unfold wX10_length
        simp only [Int.reduceAdd]
        rw [e29]
        refine ⟨⟨by omega, by omega⟩, ⟨by omega, by omega⟩, ⟨by omega, by omega⟩, fun _ => p_keepPast (by rw [e281]; exact h.1.und) (fun sh M3 m3 => p_lies (by omega) (by omega) (fun M4 o4 r4 => hk M4 (set_inv h q.1 q.2 ne (by omega) P1 g1 g2 g3 b30 g4 g5 m3 o4 r4))), fun d => absurd d c⟩
    · unfold wX10_length
      simp only [Int.reduceAdd]
      exact ⟨⟨by omega, by omega⟩, ⟨by omega, by omega⟩, ⟨by omega, by omega⟩, fun d => absurd c d, fun _ => hk M h.later⟩
  · unfold wX10_cut
    refine p_isNode hn (fun a => gK0_r ⟨fun e => absurd e (by decide), fun _ => p_isNode hn (fun b => absurd ⟨a, b⟩ q) (fun _ => ⟨fun e => absurd rfl e, fun _ => hk M h.later⟩)⟩) (fun a => gK0_r ⟨fun _ => hk M h.later, fun e => absurd rfl e⟩)
