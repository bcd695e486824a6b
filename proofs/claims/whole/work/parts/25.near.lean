/-! BUNCHES: nearest nodes, and bits -/
theorem bits_0 (f : Int → Int) : ∀ k, 0 ≤ bitsF f k ∧ bitsF f k < ((2 ^ k : Nat) : Int)
  | 0 => ⟨Int.le_refl 0, by unfold bitsF; omega⟩
  | k + 1 => by
    have := bits_0 f k
    have e : ((2 ^ (k + 1) : Nat) : Int) = ((2 ^ k : Nat) : Int) + ((2 ^ k : Nat) : Int) := by rw [Nat.pow_succ]; omega
    unfold bitsF
    rw [e]
    split <;> omega
theorem gpw_n (k : Nat) : gpw (k : Int) = ((2 ^ k : Nat) : Int) := rfl
theorem bits_or (f : Int → Int) (k : Nat) : gor (bitsF f k) (gpw (k : Int)) = bitsF f k + ((2 ^ k : Nat) : Int) := by
  have h := bits_0 f k
  unfold gor
  rw [gpw_n, Int.toNat_natCast, Nat.or_comm]
  have := Nat.two_pow_add_eq_or_of_lt (i := k) (b := (bitsF f k).toNat) (by omega) 1
  rw [Nat.mul_one] at this
  rw [← this]
  omega
theorem bits_at (f : Int → Int) : ∀ m k : Nat, k < m → (bitsF f m / gpw (k : Int)) % 2 = if f (k : Int) = -1 then 0 else 1
  | 0, k, h => absurd h (Nat.not_lt_zero k)
  | m + 1, k, h => by
    rw [gpw_n]
    have hp : (0 : Int) < ((2 ^ k : Nat) : Int) := by have := Nat.two_pow_pos k; omega
    unfold bitsF
    by_cases hk : k = m
    · subst hk
      have h0 := bits_0 f k
      split
      · rw [Int.add_zero, Int.ediv_eq_zero_of_lt h0.1 h0.2]; rfl
      · have : (bitsF f k + ((2 ^ k : Nat) : Int)) / ((2 ^ k : Nat) : Int) = 1 := by
          have := Int.add_mul_ediv_right (bitsF f k) 1 (c := ((2 ^ k : Nat) : Int)) (by omega)
          rw [Int.one_mul] at this
          rw [this, Int.ediv_eq_zero_of_lt h0.1 h0.2]; rfl
        rw [this]; rfl
    · have ih := bits_at f m k (by omega)
      rw [gpw_n] at ih
      split
      · rw [Int.add_zero]; exact ih
      · have e : ((2 ^ m : Nat) : Int) = (2 * ((2 ^ (m - k - 1) : Nat) : Int)) * ((2 ^ k : Nat) : Int) := by
          have : 2 ^ m = 2 * 2 ^ (m - k - 1) * 2 ^ k := by
            rw [Nat.mul_assoc, ← Nat.pow_add, Nat.mul_comm, ← Nat.pow_succ]
            congr 1
            omega
          rw [this, Int.natCast_mul, Int.natCast_mul]
          rfl
        rw [e, Int.add_mul_ediv_right _ _ (by omega)]
        omega
theorem bits_cong {f g : Int → Int} : ∀ m : Nat, (∀ k : Nat, k < m → f k = g k) → bitsF f m = bitsF g m
  | 0, _ => rfl
  | m + 1, h => by unfold bitsF; rw [bits_cong m (fun k hk => h k (by omega)), h m (by omega)]
theorem bits_more {f : Int → Int} (n : Nat) (h : ∀ k : Nat, n ≤ k → f k = -1) : ∀ m : Nat, n ≤ m → bitsF f m = bitsF f n
  | 0, h0 => by have : n = 0 := by omega
                subst this; rfl
  | m + 1, h0 => by
    by_cases e : n = m + 1
    · subst e; rfl
    · rw [← bits_more n h m (by omega)]
      show bitsF f m + (if f (m : Int) = -1 then 0 else ((2 ^ m : Nat) : Int)) = bitsF f m
      rw [if_pos (h m (by omega)), Int.add_zero]
/-- the first of the nearest of a level or more -/
def nrs (d E : Int → Int) (l : Int) : Nat → Int
  | 0 => -1
  | k + 1 => if l ≤ E (k : Int) ∧ d (k : Int) ≠ -1 ∧ (nrs d E l k = -1 ∨ d (k : Int) < d (nrs d E l k)) then (k : Int) else nrs d E l k
theorem nrs_bd (d E : Int → Int) (l : Int) : ∀ k : Nat, -1 ≤ nrs d E l k ∧ nrs d E l k < k ∧ (nrs d E l k ≠ -1 → d (nrs d E l k) ≠ -1 ∧ l ≤ E (nrs d E l k))
  | 0 => ⟨by unfold nrs; omega, by unfold nrs; omega, fun h => absurd rfl h⟩
  | k + 1 => by
    have := nrs_bd d E l k
    unfold nrs
    split
    · next h => exact ⟨by omega, by omega, fun _ => ⟨h.2.1, h.1⟩⟩
    · exact ⟨by omega, by omega, this.2.2⟩
theorem nrs_hi (d E : Int → Int) (l : Int) : ∀ k : Nat, (∀ i : Nat, i < k → E i < l) → nrs d E l k = -1
  | 0, _ => rfl
  | k + 1, h => by
    unfold nrs
    rw [if_neg (fun q => by have := h k (by omega); omega)]
    exact nrs_hi d E l k (fun i hi => h i (by omega))
theorem nrs_s (d E : Int → Int) (l w : Int) (hw : 0 ≤ w) : nrs d E l (w + 1).toNat = if l ≤ E w ∧ d w ≠ -1 ∧ (nrs d E l w.toNat = -1 ∨ d w < d (nrs d E l w.toNat)) then w else nrs d E l w.toNat := by
  rw [show (w + 1).toNat = w.toNat + 1 by omega]
  conv => lhs; unfold nrs
  rw [show ((w.toNat : Nat) : Int) = w by omega]
abbrev lev (M : gMem) (w : Int) : Int := M 229 (144 + w)
noncomputable def nr (M : gMem) (v l : Int) : Int := nrs (dd M v) (lev M) l (nN M).toNat
noncomputable def nf (M : gMem) (v l : Int) : Int := @ite Int (nr M v l = -1) (inferInstance) (-1) (dd M v (nr M v l))
def inB (M : gMem) (v w : Int) : Prop := dd M v w ≠ -1 ∧ (nr M v (lev M w + 1) = -1 ∨ dd M v w < dd M v (nr M v (lev M w + 1)))
noncomputable def fr (M : gMem) (v w : Int) : Int := @ite Int (w < nN M ∧ inB M v w) (Classical.propDecidable _) (dd M v w) (-1)
theorem lev_cong {M M' : gMem} (h : Aside M M') : lev M' = lev M := by funext w; unfold lev; rw [h.at 229 (by omega)]
theorem nr_cong {M M' : gMem} (h : Aside M M') : nr M' = nr M := by
  funext v l
  unfold nr nN
  rw [dd_cong h, lev_cong h, h.2.2.2.1]
theorem nf_cong {M M' : gMem} (h : Aside M M') : nf M' = nf M := by
  funext v l
  unfold nf
  rw [dd_cong h, nr_cong h]
theorem inB_cong {M M' : gMem} (h : Aside M M') : inB M' = inB M := by
  funext v l
  unfold inB
  rw [dd_cong h, nr_cong h, lev_cong h]
theorem fr_cong {M M' : gMem} (h : Aside M M') : fr M' = fr M := by
  funext v l
  unfold fr nN
  rw [dd_cong h, inB_cong h, h.2.2.2.1]
theorem nr_bd (M : gMem) (hn : 0 ≤ nN M) (v l : Int) : -1 ≤ nr M v l ∧ nr M v l < nN M ∧ (nr M v l ≠ -1 → dd M v (nr M v l) ≠ -1 ∧ l ≤ lev M (nr M v l)) := by
  have := nrs_bd (dd M v) (lev M) l (nN M).toNat
  unfold nr
  exact ⟨this.1, by omega, this.2.2⟩
theorem nf_no {M : gMem} (hn : 0 ≤ nN M) {v l : Int} : nf M v l = -1 ↔ nr M v l = -1 := by
  have := (nr_bd M hn v l).2.2
  unfold nf
  split
  · next h => exact ⟨fun _ => h, fun _ => rfl⟩
  · next h => exact ⟨fun q => absurd q (this h).1, fun q => absurd q h⟩
theorem fr_no {M : gMem} {v w : Int} (hw : w < nN M) : fr M v w = -1 ↔ ¬ inB M v w := by
  unfold fr
  split
  · next h => exact ⟨fun q => absurd q h.2.1, fun q => absurd h.2 q⟩
  · next h => exact ⟨fun _ q => h ⟨hw, q⟩, fun _ => rfl⟩
theorem fr_hi {M : gMem} {v w : Int} (hw : nN M ≤ w) : fr M v w = -1 := by
  unfold fr
  rw [if_neg (fun q => by omega)]
theorem fr_in {M : gMem} {v w : Int} (hw : w < nN M) (h : inB M v w) : fr M v w = dd M v w := by
  unfold fr
  rw [if_pos ⟨hw, h⟩]
theorem p_nearestOf {t v l : Int} {K : Int → gMem → Prop} {M : gMem} (h : InvA t M) (hF : mFar M) (hv : 0 ≤ v ∧ v < nN M) (hK : K (nr M v l) M) : wX10_nearestOf 228 v l K M := by
  unfold wX10_nearestOf
  simp only [Int.reduceAdd]
  have hn := h.1
  refine ⟨fun f w M' => M' = M ∧ 0 ≤ w ∧ w ≤ nN M ∧ f = nrs (dd M v) (lev M) l w.toNat, fun f w _ => nN M - w, ⟨rfl, by omega, by omega, rfl⟩, ?_⟩
  intro f w M' ⟨e, w0, w1, hf⟩
  subst e
  dsimp only
  refine ⟨by omega, fun q => ?_, fun q => ?_⟩
  · have e : w = nN M' := by unfold nN at w1 ⊢; omega
    rw [hf, e]
    exact hK
  · have q : w < nN M' := by unfold nN; omega
    have hb := nrs_bd (dd M' v) (lev M') l w.toNat
    have hs := nrs_s (dd M' v) (lev M') l w w0
    rw [← hf] at hs hb
    have hw := hF.val h hv ⟨w0, q⟩
    have el : lev M' w = M' 229 (144 + w) := rfl
    refine ⟨⟨by omega, by omega⟩, ⟨by omega, by omega⟩, gK1_r ⟨fun a => ?_, fun a => ?_⟩⟩
    · rw [if_neg (fun b => by have := b.1; unfold lev at this; omega)] at hs
      exact ⟨⟨by omega, by omega⟩, ⟨rfl, by omega, by omega, hs.symm⟩, by omega⟩
    · refine p_isWay ⟨by omega, by omega⟩ ⟨by omega, by omega⟩ (fun b => ⟨fun c => absurd c (by decide), fun _ => gK0_r ⟨fun c => ?_, fun c => ?_⟩⟩) (fun b => ⟨fun _ => ?_, fun c => absurd rfl c⟩)
      · rw [if_pos ⟨by omega, by omega, Or.inl c⟩] at hs
        exact ⟨⟨by omega, by omega⟩, ⟨rfl, by omega, by omega, hs.symm⟩, by omega⟩
      · have hf2 := hF.val h hv ⟨by omega, by omega⟩ (v := f)
        have hd := (hb.2.2 c).1
        refine ⟨⟨by omega, by omega⟩, ⟨by omega, by omega⟩, ⟨by omega, by omega⟩, ⟨by omega, by omega⟩, ⟨by omega, by omega⟩, ⟨by omega, by omega⟩, fun g => ?_, fun g => ?_⟩
        · rw [if_neg (by omega)] at hs
          exact ⟨⟨by omega, by omega⟩, ⟨rfl, by omega, by omega, hs.symm⟩, by omega⟩
        · rw [if_pos ⟨by omega, by omega, Or.inr (by omega)⟩] at hs
          exact ⟨⟨by omega, by omega⟩, ⟨rfl, by omega, by omega, hs.symm⟩, by omega⟩
      · rw [if_neg (by omega)] at hs
        exact ⟨⟨by omega, by omega⟩, ⟨rfl, by omega, by omega, hs.symm⟩, by omega⟩
theorem p_isInBunch {t v w : Int} {K : Int → gMem → Prop} {M : gMem} (h : InvA t M) (hF : mFar M) (hv : 0 ≤ v ∧ v < nN M) (hw : 0 ≤ w ∧ w < nN M) (h1 : inB M v w → K 1 M) (h2 : ¬ inB M v w → K 0 M) : wX10_isInBunch 228 v w K M := by
  unfold wX10_isInBunch
  simp only [Int.reduceAdd]
  have hn := h.1
  have hl := h.lev w hw.1 (by omega)
  refine ⟨⟨by omega, by omega⟩, ⟨by omega, by omega⟩, ⟨by omega, by omega⟩, p_nearestOf h hF hv ?_⟩
  have hb := nr_bd M (by omega) v (lev M w + 1)
  have hd := hF.val h hv hw
  generalize hr : nr M v (lev M w + 1) = r at hb
  unfold inB at h1 h2
  rw [hr] at h1 h2
  refine p_isWay ⟨by omega, by omega⟩ ⟨by omega, by omega⟩ (fun b => gK1_r (gK0_r ⟨fun c => absurd c (by decide), fun _ => gK0_r ⟨fun c => ⟨Or.inr rfl, h1 ⟨by omega, Or.inl c⟩⟩, fun c => ?_⟩⟩)) (fun b => gK1_r (gK0_r ⟨fun _ => ⟨Or.inl rfl, h2 (fun c => by omega)⟩, fun c => absurd rfl c⟩))
  have hf2 := hF.val h hv ⟨by omega, by omega⟩ (v := r)
  refine ⟨⟨by omega, by omega⟩, ⟨by omega, by omega⟩, ⟨by omega, by omega⟩, ⟨by omega, by omega⟩, ⟨by omega, by omega⟩, ⟨by omega, by omega⟩, fun g => ⟨Or.inl rfl, h2 (fun k => by have := (hb.2.2 c).1; omega)⟩, fun g => ⟨Or.inr rfl, h1 ⟨by omega, Or.inr (by have := (hb.2.2 c).1; omega)⟩⟩⟩
theorem bits_s (f : Int → Int) (w : Int) (hw : 0 ≤ w) : bitsF f (w + 1).toNat = if f w = -1 then bitsF f w.toNat else gor (bitsF f w.toNat) (gpw w) := by
  rw [show (w + 1).toNat = w.toNat + 1 by omega]
  have := bits_or f w.toNat
  rw [show ((w.toNat : Nat) : Int) = w by omega] at this
  conv => lhs; unfold bitsF
  rw [show ((w.toNat : Nat) : Int) = w by omega]
  split
  · omega
  · rw [this]
theorem gpw_0 (w : Int) : 0 ≤ gpw w := Int.natCast_nonneg _
theorem gor_0 (a : Int) (h : 0 ≤ a) : gor a 0 = a := by
  unfold gor
  rw [show (0 : Int).toNat = 0 by rfl, Nat.or_zero]
  omega
theorem p_bunchOf {t v : Int} {K : Int → gMem → Prop} {M : gMem} (h : InvA t M) (hF : mFar M) (hv : 0 ≤ v ∧ v < nN M) (hK : K (bitsF (fr M v) 12) M) : wX10_bunchOf 228 v K M := by
  unfold wX10_bunchOf
  have hn := h.1
  refine ⟨fun f w M' => M' = M ∧ 0 ≤ w ∧ w ≤ nN M ∧ f = bitsF (fr M v) w.toNat, fun f w _ => nN M - w, ⟨rfl, by omega, by omega, rfl⟩, ?_⟩
  intro f w M' ⟨e, w0, w1, hf⟩
  subst e
  dsimp only
  refine ⟨by omega, fun q => ?_, fun q => ?_⟩
  · have e : w = nN M' := by unfold nN at w1 ⊢; omega
    rw [bits_more w.toNat (fun k hk => fr_hi (by omega)) 12 (by omega), ← hf] at hK
    exact hK
  · have q : w < nN M' := by unfold nN; omega
    have hs := bits_s (fr M' v) w w0
    have hb := bits_0 (fr M' v) w.toNat
    rw [← hf] at hs hb
    refine p_isInBunch h hF hv ⟨w0, q⟩ (fun c => gK1_r ⟨fun d => absurd d (by decide), fun _ => ⟨⟨by omega, by omega⟩, ?_⟩⟩) (fun c => gK1_r ⟨fun _ => ?_, fun d => absurd rfl d⟩)
    · rw [if_neg (fun g => (fr_no q).1 g c)] at hs
      exact ⟨⟨by omega, gpw_0 w⟩, fun x ex => ⟨⟨by omega, by omega⟩, ⟨rfl, by omega, by omega, by rw [ex]; exact hs.symm⟩, by omega⟩⟩
    · rw [if_pos ((fr_no q).2 c)] at hs
      exact ⟨⟨by omega, by omega⟩, fun x ex => ⟨⟨by omega, by omega⟩, ⟨rfl, by omega, by omega, by rw [ex, gor_0 _ hb.1]; exact hs.symm⟩, by omega⟩⟩
