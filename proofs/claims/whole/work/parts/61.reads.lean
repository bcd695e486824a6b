/-! THE TEXT, 5: read to its end -/
noncomputable def rn (T : Int → Int) (n : Int) : Nat → RSt → Int × Int × RSt
  | 0, σ => (σ.1, 24, σ)
  | f + 1, σ => if (clf T n σ).1 = 0 then ((clf T n σ).2.1, 23 - (f : Int), (clf T n σ).2) else if kd T n (clf T n σ).2.1 = 4 then (-1, 24 - (f : Int), (clf T n σ).2) else if ¬ (T (clf T n σ).2.1 = 59) ∨ f = 0 then ((clf T n σ).2.1, 24 - (f : Int), (clf T n σ).2) else rn T n f (setT (clf T n σ).2 (tkn T n (clf T n σ).2.2.1))
noncomputable def tl2 (T : Int → Int) (n : Int) (f : Nat) (σ : RSt) : Int × Int × RSt := if kd T n σ.1 = 4 then (-1, 24 - (f : Int), σ) else if ¬ (T σ.1 = 59) ∨ f = 0 then (σ.1, 24 - (f : Int), σ) else rn T n f (setT σ (tkn T n σ.2.1))
theorem rn_s (T : Int → Int) (n : Int) (f : Nat) (σ : RSt) : rn T n (f + 1) σ = if (clf T n σ).1 = 0 then ((clf T n σ).2.1, 23 - (f : Int), (clf T n σ).2) else tl2 T n f (clf T n σ).2 := rfl
theorem clf_sn {T : Int → Int} {n m : Int} {σ : RSt} (h : sS σ = 0 → sN σ = m) : sS (clf T n σ).2 = 0 → sN (clf T n σ).2 = m := by
  unfold clf
  split
  · unfold clNet
    split
    · intro e; exact absurd (show (1 : Int) = 0 from e) (by decide)
    · exact h
  · split
    · unfold clLink
      split
      · exact h
      · split
        · exact h
        · split
          · exact h
          · exact h
    · split
      · unfold clLev
        split
        · exact h
        · split
          · exact h
          · exact h
      · exact h
theorem p_isSemi {T : Int → Int} {n : Int} {K : Int → gMem → Prop} {M : gMem} (h : TxC T n M) (hk : M 7 3 = kd T n (M 7 4)) (h4 : kd T n (M 7 4) ≠ 4) (h1 : T (M 7 4) = 59 → K 1 M) (h0 : T (M 7 4) ≠ 59 → K 0 M) : wX7_isSemicolon 7 K M := by
  unfold wX7_isSemicolon
  simp only [Int.reduceAdd]
  obtain ⟨x1, x2, x3, x4⟩ := h
  have kc := kd_cases T n (M 7 4)
  rw [hk]
  refine gK1_r (gK0_r ⟨fun q => ⟨Or.inl rfl, h0 (fun z => by omega)⟩, fun q => ⟨⟨by omega, by omega⟩, ?_⟩⟩)
  rw [x4 _ (by omega) (by omega)]
  exact ⟨fun z => ⟨Or.inl rfl, h0 z⟩, fun z => ⟨Or.inr rfl, h1 z⟩⟩
def FrR (d : Int) (M M' : gMem) : Prop := (∀ x, x < 4 ∨ 8 ≤ x → M' x = M x) ∧ M' 7 0 = M 7 0 ∧ M' 4 2 = M 4 2 ∧ M 4 3 ≤ M' 4 3 ∧ M' 4 3 ≤ M 4 3 + d
theorem FrR.tx {a n : Int} {T : Int → Int} {M M' : gMem} (h : FrR a M M') (ht : TxC T n M) : TxC T n M' := ⟨by rw [h.2.1]; exact ht.1, ht.2.1, ht.2.2.1, fun i x y => by rw [h.1 8 (by omega)]; exact ht.2.2.2 i x y⟩
theorem FrR.tr {a b c : Int} {M M' M'' : gMem} (h : FrR a M M') (h2 : FrR b M' M'') (hc : a + b ≤ c) : FrR c M M'' := by
  obtain ⟨p1, p2, p4, p5, p6⟩ := h
  obtain ⟨q1, q2, q4, q5, q6⟩ := h2
  exact ⟨fun x z => (q1 x z).trans (p1 x z), q2.trans p2, q4.trans p4, by omega, by omega⟩
theorem FrC.r {a : Int} {M M' : gMem} (h : FrC a M M') : FrR a M M' := ⟨h.1, h.2.1, h.2.2.2.1, h.2.2.2.2.1, h.2.2.2.2.2⟩
theorem p_readInto {T : Int → Int} {n : Int} {σ0 : RSt} {K : Int → gMem → Prop} {M : gMem} (h : TxC T n M) (hs : (2 ≤ sN σ0 ∧ sN σ0 ≤ 12) ∧ LOK (sN σ0) (fun u v => sL σ0 (12 * u + v)) ∧ (∀ v, 0 ≤ v → v < 12 → 0 ≤ sV σ0 v ∧ sV σ0 v ≤ 2 ∧ (sN σ0 ≤ v → sV σ0 v = 0)) ∧ (lkc (sL σ0) ≤ 60 ∧ lkc (sL σ0) % 2 = 0) ∧ sS σ0 = 0)
    (h1 : σ0.1 = (tkn T n 0).1 ∧ σ0.2.1 = (tkn T n 0).2) (hr : M 4 0 = sN σ0 ∧ (∀ k, 0 ≤ k → k < 144 → M 5 k = sL σ0 k) ∧ (∀ k, 0 ≤ k → k < 12 → M 6 k = sV σ0 k) ∧ 2 * M 4 1 = lkc (sL σ0)) (hv : 0 ≤ M 4 3 ∧ M 4 3 ≤ 140000)
    (hK : ∀ M', FrR 24 M M' → ((rn T n 24 σ0).1 = -1 → M' 7 1 = (rn T n 24 σ0).2.1 ∧ SW T n (rn T n 24 σ0).2.2 ∧ RC T n (rn T n 24 σ0).2.2 M' ∧ (sS (rn T n 24 σ0).2.2 = 0 → sN (rn T n 24 σ0).2.2 = sN σ0)) → K (rn T n 24 σ0).1 M') : wX7_readInto 7 4 K M := by
  generalize hR : rn T n 24 σ0 = R at hK
  unfold wX7_readInto
  intro M1 e1 M2 e2 M3 e3
  have n7 : ∀ x, x ≠ 7 → M3 x = M x := fun x a => by rw [e3, gup_c _ a, e2, gup_c _ a, e1, gup_c _ a]
  have z0 : M3 7 0 = M 7 0 := by rw [e3, gup_k _ (by decide), e2, gup_k _ (by decide), e1, gup_k _ (by decide)]
  have z1 : M3 7 1 = 0 := by rw [e3, gup_k _ (by decide), e2, gup_k _ (by decide), e1, gup_s]
  have z2 : M3 7 2 = 0 := by rw [e3, gup_k _ (by decide), e2, gup_s]
  have z5 : M3 7 5 = 0 := by rw [e3, gup_s]
  have t3 : TxC T n M3 := ⟨by rw [z0]; exact h.1, h.2.1, h.2.2.1, fun i a b => by rw [n7 8 (by decide)]; exact h.2.2.2 i a b⟩
  refine p_pass t3 (by rw [z5]; have := h.2.1; omega) (fun M4 a b c d e f => ?_)
  rw [z5] at c d
  have f4 : FrR 0 M M4 := ⟨fun x p => by rw [a x (by omega), n7 x (by omega)], by rw [b 0 (by decide), z0], by rw [a 4 (by decide), n7 4 (by decide)], by rw [a 4 (by decide), n7 4 (by decide)]; omega, by rw [a 4 (by decide), n7 4 (by decide)]; omega⟩
  have s4 : SW T n σ0 := ⟨by rw [h1.1, h1.2, ← c, ← d]; exact f, hs.1, hs.2.1, hs.2.2.1, hs.2.2.2.1, Or.inl hs.2.2.2.2⟩
  have c4 : RC T n σ0 M4 := ⟨⟨by rw [c, h1.1], by rw [d, h1.2], by rw [e, c, h1.1]⟩, by rw [a 4 (by decide), n7 4 (by decide)]; exact hr.1, fun k x y => by rw [a 5 (by decide), n7 5 (by decide)]; exact hr.2.1 k x y, fun k x y => by rw [a 6 (by decide), n7 6 (by decide)]; exact hr.2.2.1 k x y, by rw [a 4 (by decide), n7 4 (by decide)]; exact hr.2.2.2, by rw [b 2 (by decide), z2]; exact hs.2.2.2.2.symm⟩
  refine ⟨fun i M' => 0 ≤ i ∧ i ≤ 23 ∧ FrR i M M' ∧ M' 7 1 = i ∧ ∃ σ, SW T n σ ∧ RC T n σ M' ∧ (sS σ = 0 → sN σ = sN σ0) ∧ rn T n (24 - i).toNat σ = R, fun i _ => 24 - i, ⟨by omega, by omega, f4, by rw [b 1 (by decide)]; exact z1, σ0, s4, c4, fun _ => rfl, hR⟩, ?_⟩
  intro i M5 ⟨i0, i1, f5, k5, σ, s5, c5, sn5, hr5⟩
  dsimp only
  have t5 := f5.tx h
  have v5 := f5.2.2.2
  rw [show (24 - i).toNat = (23 - i).toNat + 1 by omega, rn_s] at hr5
  refine ⟨by omega, fun q => absurd q (by omega), fun _ => p_readClauseC t5 s5 c5 (by omega) (fun M6 f6 s6 c6 => ?_)⟩
  have sn6 := clf_sn (T := T) (n := n) (m := sN σ0) sn5
  have f6' : FrR (i + 1) M M6 := f5.tr f6.r (by omega)
  have up24 : ∀ M', FrR (i + 1) M M' → FrR 24 M M' := fun M' f => ⟨f.1, f.2.1, f.2.2.1, f.2.2.2.1, by have := f.2.2.2.2; omega⟩
  have c01 := clf01 T n σ
  refine ⟨fun ok => ?_, fun bad => ?_⟩
  · rw [if_neg ok] at hr5
    generalize clf T n σ = C at hr5 s6 c6 sn6
    have k6 : M6 7 1 = i := by rw [f6.2.2.1]; exact k5
    rw [k6]
    refine ⟨⟨by omega, by omega⟩, fun M7 e7 => ?_⟩
    have q7 : ∀ k, k ≠ 1 → M7 7 k = M6 7 k := fun k p => by rw [e7, gup_k _ p]
    have o7 : ∀ x, x ≠ 7 → M7 x = M6 x := fun x p => by rw [e7, gup_c _ p]
    have k7 : M7 7 1 = i + 1 := by rw [e7, gup_s]
    have f7 : FrR (i + 1) M M7 := ⟨fun x p => by rw [o7 x (by omega)]; exact f6'.1 x p, by rw [q7 0 (by decide)]; exact f6'.2.1, by rw [o7 4 (by decide)]; exact f6'.2.2.1, by rw [o7 4 (by decide)]; exact f6'.2.2.2.1, by rw [o7 4 (by decide)]; exact f6'.2.2.2.2⟩
    have c7 : RC T n C.2 M7 := by
      obtain ⟨⟨r1, r2, r3⟩, r4, r5, r6, r7, r8⟩ := c6
      exact ⟨⟨by rw [q7 4 (by decide)]; exact r1, by rw [q7 5 (by decide)]; exact r2, by rw [q7 3 (by decide)]; exact r3⟩, by rw [o7 4 (by decide)]; exact r4, fun k x y => by rw [o7 5 (by decide)]; exact r5 k x y, fun k x y => by rw [o7 6 (by decide)]; exact r6 k x y, by rw [o7 4 (by decide)]; exact r7, by rw [q7 2 (by decide)]; exact r8⟩
    have t7 := f7.tx h
    have e73 : M7 7 3 = kd T n C.2.1 := c7.1.2.2
    have e74 : M7 7 4 = C.2.1 := c7.1.1
    rw [e73]
    unfold tl2 at hr5
    refine ⟨fun n4 => ?_, fun is4 => ?_⟩
    · rw [if_neg n4] at hr5
      have stop : ¬ (T C.2.1 = 59) ∨ (23 - i).toNat = 0 → K (M7 7 4) M7 := by
        intro z
        rw [if_pos z] at hr5
        have e1 : R.1 = C.2.1 := by rw [← hr5]
        have b0 := s6.1.bd
        have := hK M7 (up24 M7 f7) (fun q => by omega)
        rw [e74, ← e1]; exact this
      refine p_isSemi t7 (by rw [e73, e74]) (by rw [e74]; exact n4) (fun semi => gK0_r ⟨fun e => absurd e (by decide), fun _ => ?_⟩) (fun ns => gK0_r ⟨fun _ => stop (Or.inl (by rw [e74] at ns; exact ns)), fun e => absurd rfl e⟩)
      rw [e74] at semi
      rw [k7]
      refine ⟨fun lt => p_passS t7 s6 c7 (fun M8 f8 s8 c8 => ⟨⟨by omega, by omega⟩, ⟨by omega, by omega, f7.tr f8.c.r (by omega), by rw [f8.2 1 (by decide)]; exact k7, _, s8, c8, sn6, ?_⟩, by omega⟩), fun is24 => stop (Or.inr (by omega))⟩
      rw [if_neg (fun z => z.elim (fun z => z semi) (fun z => by omega))] at hr5
      rw [← hr5, show (24 - (i + 1)).toNat = (23 - i).toNat by omega]
    · rw [if_pos is4] at hr5
      have e1 : R.1 = -1 := by rw [← hr5]
      have := hK M7 (up24 M7 f7)
      rw [e1] at this
      refine this (fun _ => ?_)
      rw [← hr5]
      exact ⟨by rw [k7]; show i + 1 = 24 - (((23 - i).toNat : Nat) : Int); omega, s6, c7, sn6⟩
  · rw [if_pos bad] at hr5
    have e1 : R.1 = (clf T n σ).2.1 := by rw [← hr5]
    have b0 := s6.1.bd
    have := hK M6 (up24 M6 f6') (fun q => by omega)
    have e64 : M6 7 4 = (clf T n σ).2.1 := c6.1.1
    rw [e64, ← e1]; exact this
/-- reading of the reference leaves this -/
def FrD (d : Int) (M M' : gMem) : Prop := (∀ x, x ≠ 228 → x ≠ 229 → x ≠ 230 → x ≠ 233 → x ≠ 234 → M' x = M x) ∧ (M' 228 1 = M 228 1 ∧ M' 228 6 = M 228 6) ∧ (d = 0 → M' 228 2 = M 228 2 ∧ M' 229 = M 229 ∧ M' 230 = M 230) ∧ (∀ k, 156 ≤ k → M' 229 k = M 229 k) ∧ ∀ k, 240 ≤ k → M' 230 k = M 230 k
theorem FrM.d {d : Int} {M M' : gMem} (h : FrM d M M') : FrD d M M' := ⟨h.1, ⟨h.2.1 1 (by decide) (by decide) (by decide) (by decide) (by decide), h.2.1 6 (by decide) (by decide) (by decide) (by decide) (by decide)⟩, h.2.2⟩
theorem FrD.tr {d : Int} {M M' M'' : gMem} (h : FrD d M M') (h2 : FrD d M' M'') : FrD d M M'' := by
  obtain ⟨p1, p2, p3, p4, p5⟩ := h
  obtain ⟨q1, q2, q3, q4, q5⟩ := h2
  exact ⟨fun x a b c e f => (q1 x a b c e f).trans (p1 x a b c e f), ⟨q2.1.trans p2.1, q2.2.trans p2.2⟩, fun z => ⟨(q3 z).1.trans (p3 z).1, (q3 z).2.1.trans (p3 z).2.1, (q3 z).2.2.trans (p3 z).2.2⟩, fun k a => (q4 k a).trans (p4 k a), fun k a => (q5 k a).trans (p5 k a)⟩
theorem FrD.tx {d n : Int} {T : Int → Int} {M M' : gMem} (h : FrD d M M') (ht : TxM T n M) : TxM T n M' := ⟨by rw [h.2.1.2]; exact ht.1, ht.2.1, ht.2.2.1, fun i x y => by rw [h.1 232 (by decide) (by decide) (by decide) (by decide) (by decide)]; exact ht.2.2.2 i x y⟩
theorem FrD.w {d : Int} {M M' : gMem} (h : FrD d M M') (hw : ∀ k : Nat, k < 15 → M 235 (k : Int) = gwl.getD k 0) : ∀ k : Nat, k < 15 → M' 235 (k : Int) = gwl.getD k 0 := fun k hk => by rw [h.1 235 (by decide) (by decide) (by decide) (by decide) (by decide)]; exact hw k hk
theorem RM.c12 {σ : RSt} {d : Int} {N0 : Int → Int} {M : gMem} {v : Int} (h : RM σ d N0 M) : RM σ d N0 (gup M 228 12 v) := by
  unfold RM
  rw [gup_k _ (by decide), gup_k _ (by decide), gup_k _ (by decide), gup_k _ (by decide), gup_k _ (by decide), gup_k _ (by decide), gup_c _ (by decide), gup_c _ (by decide), gup_c _ (by decide)]
  exact h
theorem FrD.up12 {d v : Int} {M M' : gMem} (h : FrD d M M') : FrD d M (gup M' 228 12 v) :=
  h.tr ⟨fun x a _ _ _ _ => by rw [gup_c _ a], ⟨by rw [gup_k _ (by decide)], by rw [gup_k _ (by decide)]⟩, fun _ => ⟨by rw [gup_k _ (by decide)], by rw [gup_c _ (by decide)], by rw [gup_c _ (by decide)]⟩, fun k _ => by rw [gup_c _ (by decide)], fun k _ => by rw [gup_c _ (by decide)]⟩
theorem p_reads {T : Int → Int} {n d : Int} {σ0 : RSt} {K : Int → gMem → Prop} {M : gMem} (h : TxM T n M) (hw : ∀ k : Nat, k < 15 → M 235 (k : Int) = gwl.getD k 0) (hd : d = 0 ∨ d = 1) (hs : (2 ≤ sN σ0 ∧ sN σ0 ≤ 12) ∧ LOK (sN σ0) (fun u v => sL σ0 (12 * u + v)) ∧ (∀ v, 0 ≤ v → v < 12 → 0 ≤ sV σ0 v ∧ sV σ0 v ≤ 2 ∧ (sN σ0 ≤ v → sV σ0 v = 0)) ∧ (lkc (sL σ0) ≤ 60 ∧ lkc (sL σ0) % 2 = 0) ∧ sS σ0 = 0)
    (h1 : σ0.1 = (tkn T n 0).1 ∧ σ0.2.1 = (tkn T n 0).2) (hr : M 228 2 = sN σ0 ∧ M 229 = sL σ0 ∧ (∀ v, 0 ≤ v → v < 12 → M 229 (144 + v) = sV σ0 v))
    (hK1 : (rn T n 24 σ0).1 = -1 → ∀ M', FrD d M M' → M' 228 12 = (rn T n 24 σ0).2.1 → SW T n (rn T n 24 σ0).2.2 → RM (rn T n 24 σ0).2.2 d (M 230) M' → K 1 M') (hK0 : (rn T n 24 σ0).1 ≠ -1 → ∀ M', FrD d M M' → M' 228 7 = (rn T n 24 σ0).1 → K 0 M') : wX10_reads 228 d K M := by
  generalize hR : rn T n 24 σ0 = R at hK1 hK0
  unfold wX10_reads
  simp only [Int.reduceAdd]
  refine ⟨hd, fun M1 e1 M2 e2 M3 e3 M4 e4 => ?_⟩
  have o4 : ∀ x, x ≠ 228 → M4 x = M x := fun x a => by rw [e4, gup_c _ a, e3, gup_c _ a, e2, gup_c _ a, e1, gup_c _ a]
  have q4 : ∀ k, k ≠ 13 → k ≠ 8 → k ≠ 12 → k ≠ 9 → M4 228 k = M 228 k := fun k a b c d => by rw [e4, gup_k _ d, e3, gup_k _ c, e2, gup_k _ b, e1, gup_k _ a]
  have z13 : M4 228 13 = d := by rw [e4, gup_k _ (by decide), e3, gup_k _ (by decide), e2, gup_k _ (by decide), e1, gup_s]
  have z8 : M4 228 8 = 0 := by rw [e4, gup_k _ (by decide), e3, gup_k _ (by decide), e2, gup_s]
  have z12 : M4 228 12 = 1 := by rw [e4, gup_k _ (by decide), e3, gup_s]
  have z9 : M4 228 9 = sN σ0 := by rw [e4, gup_s, e3, gup_k _ (by decide), e2, gup_k _ (by decide), e1, gup_k _ (by decide)]; exact hr.1
  have e49 : M4 229 = sL σ0 := by rw [o4 229 (by decide)]; exact hr.2.1
  refine p_links0 ?_
  rw [e49]
  intro M5 e5
  have o5 : ∀ x, x ≠ 228 → M5 x = M x := fun x a => by rw [e5, gup_c _ a, o4 x a]
  have q5 : ∀ k, k ≠ 11 → M5 228 k = M4 228 k := fun k a => by rw [e5, gup_k _ a]
  have z11 : 2 * M5 228 11 = lkc (sL σ0) := by
    have := hs.2.2.2.1.2
    rw [e5, gup_s]
    show 2 * (lkc (sL σ0) / 2) = lkc (sL σ0)
    omega
  refine ⟨fun k M' => 0 ≤ k ∧ k ≤ 144 ∧ Only 233 M5 M' ∧ ∀ j, 0 ≤ j → j < k → M' 233 j = if 0 < sL σ0 j then 1 else 0, fun k _ => 144 - k, ⟨by omega, by omega, Only.rf, fun j a b => by omega⟩, ?_⟩
  intro k M6 ⟨k0, k1, o6, z6⟩
  dsimp only
  have e69 : M6 229 = sL σ0 := by rw [o6 229 (by decide), o5 229 (by decide)]; exact hr.2.1
  refine ⟨by omega, fun q => ?_, fun q => ⟨⟨by omega, by omega⟩, ?_⟩⟩
  · have e28 : M6 228 = M5 228 := o6 228 (by decide)
    have f6 : FrD d M M6 := by
      have oth : ∀ x, x ≠ 228 → x ≠ 233 → M6 x = M x := fun x a b => by rw [o6 x b, o5 x a]
      have k28 : ∀ k, k ≠ 11 → k ≠ 13 → k ≠ 8 → k ≠ 12 → k ≠ 9 → M6 228 k = M 228 k := fun k a b c e f => by rw [e28, q5 k a, q4 k b c e f]
      exact ⟨fun x a _ _ b _ => oth x a b, ⟨k28 1 (by decide) (by decide) (by decide) (by decide) (by decide), k28 6 (by decide) (by decide) (by decide) (by decide) (by decide)⟩, fun _ => ⟨k28 2 (by decide) (by decide) (by decide) (by decide) (by decide), oth 229 (by decide) (by decide), oth 230 (by decide) (by decide)⟩, fun k _ => by rw [oth 229 (by decide) (by decide)], fun k _ => by rw [oth 230 (by decide) (by decide)]⟩
    have t6 := f6.tx h
    have e68 : M6 228 8 = 0 := by rw [e28, q5 8 (by decide)]; exact z8
    refine p_nextToken t6 (by rw [e68]; have := h.2.1; omega) (fun M7 a b c e f => ?_)
    rw [e68] at c e
    have ft : FrT M6 M7 := ⟨fun x p _ => a x p, b⟩
    have f7 : FrD d M M7 := f6.tr ft.m.d
    have s7 : SW T n σ0 := ⟨by rw [h1.1, h1.2, ← c, ← e]; exact f, hs.1, hs.2.1, hs.2.2.1, hs.2.2.2.1, Or.inl hs.2.2.2.2⟩
    have r7 : RM σ0 d (M 230) M7 := by
      refine ⟨⟨by rw [c, h1.1], by rw [e, h1.2]⟩, by rw [b 9 (by decide) (by decide), e28, q5 9 (by decide)]; exact z9, fun j x y => by rw [a 233 (by decide)]; exact z6 j x (by omega), by rw [b 11 (by decide) (by decide), e28]; exact z11, by rw [b 13 (by decide) (by decide), e28, q5 13 (by decide)]; exact z13, fun _ => ⟨?_, fun j x y => ?_, fun v x y => ?_, fun j x y => ?_⟩⟩
      · rw [b 2 (by decide) (by decide), e28, q5 2 (by decide), q4 2 (by decide) (by decide) (by decide) (by decide)]; exact hr.1
      · rw [a 229 (by decide), e69]
      · rw [a 229 (by decide), e69, ← hr.2.1]; exact hr.2.2 v x y
      · rw [a 230 (by decide), o6 230 (by decide), o5 230 (by decide), if_neg (by rw [hs.2.2.2.2]; decide)]
    have c7 : M7 228 12 = 1 := by rw [b 12 (by decide) (by decide), e28, q5 12 (by decide)]; exact z12
    have t7 := f7.tx h
    -- behind a clause
    have after : ∀ (cc : Int) (σ : RSt) (f : Nat) (M8 : gMem), 1 ≤ cc → cc ≤ 24 → (f : Int) = 24 - cc → rn T n (f + 1) σ = R → FrD d M M8 → M8 228 12 = cc → SW T n (clf T n σ).2 → RM (clf T n σ).2 d (M 230) M8 → ((clf T n σ).1 = 1 ∧ ∃ σ1, SW T n σ1 ∧ RM σ1 d (M 230) M8 ∧ tl2 T n (24 - M8 228 12).toNat σ1 = R) ∨ ((clf T n σ).1 = 0 ∧ R.1 ≠ -1 ∧ M8 228 7 = R.1) := by
      intro cc σ f M8 c1 c2 cf hr8 f8 k8 s8 r8
      rw [rn_s] at hr8
      by_cases z : (clf T n σ).1 = 0
      · rw [if_pos z] at hr8
        have e1 : R.1 = (clf T n σ).2.1 := by rw [← hr8]
        have b0 := s8.1.bd
        exact Or.inr ⟨z, by omega, by rw [e1]; exact r8.1.1⟩
      · rw [if_neg z] at hr8
        have c01 := clf01 T n σ
        refine Or.inl ⟨by omega, _, s8, r8, ?_⟩
        rw [k8, ← hr8, show (24 - cc).toNat = f by omega]
    refine p_readsClauseM t7 (f7.w hw) s7 r7 (fun M8 f8 s8 r8 => ?_)
    have f8' : FrD d M M8 := f7.tr f8.d
    have c8 : M8 228 12 = 1 := by rw [f8.2.1 12 (by decide) (by decide) (by decide) (by decide) (by decide)]; exact c7
    refine ⟨fun v M' => FrD d M M' ∧ (1 ≤ M' 228 12 ∧ M' 228 12 ≤ 24) ∧ ((v = 1 ∧ ∃ σ1, SW T n σ1 ∧ RM σ1 d (M 230) M' ∧ tl2 T n (24 - M' 228 12).toNat σ1 = R) ∨ (v = 0 ∧ R.1 ≠ -1 ∧ M' 228 7 = R.1)), fun v M' => 2 * (25 - M' 228 12) + v, ⟨f8', by omega, after 1 σ0 23 M8 (by decide) (by decide) (by decide) hR f8' c8 s8 r8⟩, ?_⟩
    intro v M9 ⟨f9, c9, hv⟩
    dsimp only
    have t9 := f9.tx h
    have l9 : M9 228 6 = n := t9.1
    rw [l9]
    have vb : v = 0 ∨ v = 1 := by
      rcases hv with hv | hv
      · exact Or.inr hv.1
      · exact Or.inl hv.1
    refine ⟨by omega, gK0_r ⟨fun v0 => ⟨vb, ?_⟩, fun v0 => ?_⟩⟩
    · rcases hv with hv | hv
      · omega
      · rw [v0]; exact hK0 hv.2.1 M9 f9 hv.2.2
    · have hv : v = 1 ∧ ∃ σ1, SW T n σ1 ∧ RM σ1 d (M 230) M9 ∧ tl2 T n (24 - M9 228 12).toNat σ1 = R := by
        rcases hv with hv | hv
        · exact hv
        · omega
      obtain ⟨ev, σ1, s9, r9, tl9⟩ := hv
      have e97 : M9 228 7 = σ1.1 := r9.1.1
      have bd := s9.1.bd
      have n200 := h.2.2.1
      have kc := kd_cases T n σ1.1
      rw [e97]
      unfold tl2 at tl9
      refine ⟨fun ge => ⟨vb, ?_⟩, fun lt => ?_⟩
      · rw [if_pos (by omega)] at tl9
        have x1 : R.1 = -1 := by rw [← tl9]
        rw [ev]
        refine hK1 x1 M9 f9 ?_ ?_ ?_
        · rw [← tl9]; show M9 228 12 = 24 - (((24 - M9 228 12).toNat : Nat) : Int); omega
        · rw [← tl9]; exact s9
        · rw [← tl9]; exact r9
      · rw [if_neg (by omega)] at tl9
        have lx : M9 232 σ1.1 = T σ1.1 := t9.2.2.2 _ (by omega) (by omega)
        have stop : (¬ (T σ1.1 = 59) ∨ (24 - M9 228 12).toNat = 0) → ((0 : Int) = 0 → (FrD d M M9 ∧ (1 ≤ M9 228 12 ∧ M9 228 12 ≤ 24) ∧ (((0 : Int) = 1 ∧ ∃ σ1, SW T n σ1 ∧ RM σ1 d (M 230) M9 ∧ tl2 T n (24 - M9 228 12).toNat σ1 = R) ∨ ((0 : Int) = 0 ∧ R.1 ≠ -1 ∧ M9 228 7 = R.1))) ∧ 2 * (25 - M9 228 12) + 0 < 2 * (25 - M9 228 12) + v) ∧ (¬ (0 : Int) = 0 → wX10_nextToken 228 (fun (M28 : gMem) => wX10_readsClause 228 (fun (r30 : Int) (M29 : gMem) => gR ((M29 228 12) + 1) ∧ (∀ M31 : gMem, M31 = gup M29 228 12 ((M29 228 12) + 1) → ((FrD d M M31 ∧ (1 ≤ M31 228 12 ∧ M31 228 12 ≤ 24) ∧ ((r30 = 1 ∧ ∃ σ1, SW T n σ1 ∧ RM σ1 d (M 230) M31 ∧ tl2 T n (24 - M31 228 12).toNat σ1 = R) ∨ (r30 = 0 ∧ R.1 ≠ -1 ∧ M31 228 7 = R.1))) ∧ 2 * (25 - M31 228 12) + r30 < 2 * (25 - M9 228 12) + v))) M28) M9) := by
          intro z
          rw [if_pos z] at tl9
          have x1 : R.1 = σ1.1 := by rw [← tl9]
          exact ⟨fun _ => ⟨⟨f9, c9, Or.inr ⟨rfl, by omega, by rw [x1]; exact e97⟩⟩, by omega⟩, fun e => absurd rfl e⟩
        refine gK1_r (gK0_r ⟨fun ge => stop (Or.inr (by omega)), fun lt24 => ⟨⟨by omega, by omega⟩, ?_⟩⟩)
        rw [lx]
        refine ⟨fun ns => stop (Or.inl ns), fun semi => ⟨fun e => absurd e (by decide), fun _ => ?_⟩⟩
        rw [if_neg (fun z => z.elim (fun z => z semi) (fun z => by omega))] at tl9
        refine p_nextS t9 s9 r9 (fun M10 f10 s10 r10 => ?_)
        have f10' : FrD d M M10 := f9.tr f10.m.d
        have t10 := f10'.tx h
        have c10 : M10 228 12 = M9 228 12 := f10.2 12 (by decide) (by decide)
        refine p_readsClauseM t10 (f10'.w hw) s10 r10 (fun M11 f11 s11 r11 => ?_)
        have f11' : FrD d M M11 := f10'.tr f11.d
        have c11 : M11 228 12 = M9 228 12 := by rw [f11.2.1 12 (by decide) (by decide) (by decide) (by decide) (by decide)]; exact c10
        rw [c11]
        refine ⟨⟨by omega, by omega⟩, fun M12 e12 => ?_⟩
        have c12 : M12 228 12 = M9 228 12 + 1 := by rw [e12, gup_s]
        have f12 : FrD d M M12 := by rw [e12]; exact f11'.up12
        have r12 := r11.c12 (v := M9 228 12 + 1)
        rw [← e12] at r12
        rw [show (24 - M9 228 12).toNat = (23 - M9 228 12).toNat + 1 by omega] at tl9
        have aft := after (M9 228 12 + 1) _ (23 - M9 228 12).toNat M12 (by omega) (by omega) (by omega) tl9 f12 c12 s11 r12
        have c01 := clf01 T n (setT σ1 (tkn T n σ1.2.1))
        exact ⟨⟨f12, by omega, aft⟩, by omega⟩
  · rw [e69]
    have fin : ∀ x, x = (if 0 < sL σ0 k then 1 else 0) → ((0 : Int) ≤ k ∧ k < 144) ∧ ((x = 0 ∨ x = 1) ∧ ∀ M41 : gMem, M41 = gup M6 233 k x → gR (k + 1) ∧ (0 ≤ k + 1 ∧ k + 1 ≤ 144 ∧ Only 233 M5 M41 ∧ ∀ j, 0 ≤ j → j < k + 1 → M41 233 j = if 0 < sL σ0 j then 1 else 0) ∧ 144 - (k + 1) < 144 - k) := by
      intro x ex
      refine ⟨⟨by omega, by omega⟩, by rw [ex]; split <;> omega, fun M7 e7 => ⟨⟨by omega, by omega⟩, ⟨by omega, by omega, by rw [e7]; exact o6.up, fun j a b => ?_⟩, by omega⟩⟩
      by_cases g : j = k
      · rw [g, e7, gup_s, ex]
      · rw [e7, gup_k _ g]; exact z6 j a (by omega)
    exact gK1_r ⟨fun z => fin 0 (by rw [if_neg (by omega)]), fun z => fin 1 (by rw [if_pos (by omega)])⟩
