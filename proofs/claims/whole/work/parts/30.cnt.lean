/-! COUNTS and bits -/
theorem cnt_s (p : Int → Bool) (k : Nat) : cnt p (k + 1) = cnt p k + (if p (k : Int) = true then 1 else 0) := by
  conv => lhs; unfold cnt
theorem cnt_one {p q : Int → Bool} {a : Nat} : ∀ m : Nat, a < m → (∀ i : Nat, i < m → i ≠ a → p (i : Int) = q (i : Int)) → p (a : Int) = false → q (a : Int) = true → cnt q m = cnt p m + 1
  | 0, h, _, _, _ => absurd h (Nat.not_lt_zero a)
  | m + 1, h, h1, h2, h3 => by
    rw [cnt_s, cnt_s]
    by_cases e : a = m
    · subst e
      rw [h2, h3, cnt_cong a (fun i hi => h1 i (by omega) (by omega))]
      simp
    · rw [cnt_one m (by omega) (fun i hi => h1 i (by omega)) h2 h3, h1 m (by omega) (fun q => e q.symm)]
      omega
theorem cnt_f {p : Int → Bool} (m : Nat) (h : ∀ i : Nat, i < m → p (i : Int) = false) : cnt p m = 0 := by
  induction m with
  | zero => rfl
  | succ m ih => rw [cnt_s, ih (fun i hi => h i (by omega)), h m (by omega)]; rfl
theorem cnt_ex {p : Int → Bool} (m : Nat) (h : 0 < cnt p m) : ∃ i : Nat, i < m ∧ p (i : Int) = true := by
  refine Classical.byContradiction (fun q => ?_)
  have := cnt_f (p := p) m (fun i hi => by
    cases e : p (i : Int)
    · rfl
    · exact absurd ⟨i, hi, e⟩ q)
  omega
theorem cnt_up {p : Int → Bool} (a : Nat) : ∀ b : Nat, a ≤ b → cnt p a ≤ cnt p b
  | 0, h => by have : a = 0 := by omega
               subst this; omega
  | b + 1, h => by
    by_cases e : a = b + 1
    · subst e; omega
    · have := cnt_up a b (by omega) (p := p)
      rw [cnt_s]
      split <;> omega
theorem cnt_more {p : Int → Bool} (a : Nat) : ∀ b : Nat, a ≤ b → (∀ i : Nat, a ≤ i → i < b → p (i : Int) = false) → cnt p b = cnt p a
  | 0, h, _ => by have : a = 0 := by omega
                  subst this; rfl
  | b + 1, h, h1 => by
    by_cases e : a = b + 1
    · subst e; rfl
    · have := cnt_more a b (by omega) (fun i x y => h1 i x (by omega))
      rw [cnt_s, this, h1 b (by omega) (by omega)]
      simp
def sw (k : Int) : Int := 12 * (k % 12) + k / 12
theorem sw_q {k : Int} (h0 : 0 ≤ k) (h1 : k < 144) : sw k / 12 = k % 12 ∧ sw k % 12 = k / 12 ∧ 0 ≤ sw k ∧ sw k < 144 := by
  unfold sw
  have a : 0 ≤ k / 12 ∧ k / 12 < 12 := by omega
  have b : 0 ≤ k % 12 ∧ k % 12 < 12 := by omega
  generalize k / 12 = x at a
  generalize k % 12 = y at b
  omega
def upr (p : Int → Bool) (k : Int) : Bool := p k && decide (k / 12 < k % 12)
theorem cnt_half (m : Nat) (hm : m = 144) (N : Nat) : ∀ (p : Int → Bool), (∀ k, 0 ≤ k → k < 144 → p (sw k) = p k) → (∀ k, 0 ≤ k → k < 144 → k / 12 = k % 12 → p k = false) → cnt (upr p) m = N → cnt p m = 2 * (N : Int) := by
  induction N with
  | zero =>
    intro p h1 h2 h3
    have z : cnt p m = 0 := by
     refine cnt_f m (fun i hi => ?_)
     have up : ∀ j : Nat, j < m → upr p (j : Int) = false := by
       intro j hj
       cases e : upr p (j : Int)
       · rfl
       · have := cnt_one (p := fun k => upr p k && decide (k ≠ (j : Int))) (q := upr p) (a := j) m (by omega)  (fun i hi hij => by
           have : ((i : Int) ≠ (j : Int)) := by omega
           simp [this]) (by simp) e
         have := cnt_0 (fun k => upr p k && decide (k ≠ (j : Int))) m
         omega
     have a := up i hi
     by_cases c : (i : Int) / 12 < (i : Int) % 12
     · unfold upr at a
       simpa [c] using a
     · by_cases c2 : (i : Int) / 12 = (i : Int) % 12
       · exact h2 i (by omega) (by omega) c2
       · have b := up (sw (i : Int)).toNat (by unfold sw; omega)
         rw [show (((sw (i : Int)).toNat : Nat) : Int) = sw (i : Int) by unfold sw; omega] at b
         have c3 : sw (i : Int) / 12 < sw (i : Int) % 12 := by have := sw_q (k := (i : Int)) (by omega) (by omega); omega
         unfold upr at b
         rw [← h1 i (by omega) (by omega)]
         simpa [c3] using b
    rw [z]
    rfl
  | succ N ih =>
    intro p h1 h2 h3
    obtain ⟨j, hj, e⟩ := cnt_ex (p := upr p) m (by omega)
    unfold upr at e
    have e1 : p (j : Int) = true := by revert e; cases p (j : Int) <;> simp
    have e2 : (j : Int) / 12 < (j : Int) % 12 := by
      rw [e1] at e
      simpa using e
    have e3 : p (sw (j : Int)) = true := by rw [h1 j (by omega) (by omega)]; exact e1
    have sj : ((sw (j : Int)).toNat : Int) = sw (j : Int) := by unfold sw; omega
    have sne : sw (j : Int) ≠ (j : Int) := by unfold sw; omega
    let p1 : Int → Bool := fun k => p k && decide (k ≠ (j : Int))
    let p2 : Int → Bool := fun k => p1 k && decide (k ≠ sw (j : Int))
    have a1 : cnt p m = cnt p1 m + 1 := cnt_one (a := j) m (by omega)  (fun i hi hij => by
      have : ((i : Int) ≠ (j : Int)) := by omega
      simp [p1, this]) (by simp [p1]) e1
    have a2 : cnt p1 m = cnt p2 m + 1 := cnt_one (a := (sw (j : Int)).toNat) m (by unfold sw; omega) (fun i hi hij => by
      have : ((i : Int) ≠ sw (j : Int)) := by omega
      simp [p2, this]) (by rw [sj]; simp [p2]) (by rw [sj]; simp [p1, e3, sne])
    have a3 : cnt (upr p) m = cnt (upr p2) m + 1 := cnt_one (a := j) m (by omega)  (fun i hi hij => by
      have c1 : ((i : Int) ≠ (j : Int)) := by omega
      by_cases c2 : (i : Int) = sw (j : Int)
      · have : ¬ (i : Int) / 12 < (i : Int) % 12 := by have := sw_q (k := (j : Int)) (by omega) (by omega); rw [c2]; omega
        simp [upr, this]
      · simp [upr, p2, p1, c1, c2]) (by simp [upr, p2, p1]) (by simp [upr, e1, e2])
    have := ih p2 (fun k x y => by
      have s1 : sw k = (j : Int) ↔ k = sw (j : Int) := by unfold sw; omega
      have s2 : sw k = sw (j : Int) ↔ k = (j : Int) := by unfold sw; omega
      simp only [p2, p1, h1 k x y, ne_eq, s1, s2]
      cases p k <;> simp [Bool.and_comm]) (fun k x y z => by simp [p2, p1, h2 k x y z]) (by omega)
    omega
/-- bits -/
theorem bit_n (x k : Nat) : (((x : Nat) : Int) / gpw (k : Int)) % 2 = if x.testBit k then 1 else 0 := by
  rw [gpw_n, Nat.testBit_eq_decide_div_mod_eq]
  have : ((x : Nat) : Int) / ((2 ^ k : Nat) : Int) = ((x / 2 ^ k : Nat) : Int) := rfl
  rw [this]
  generalize x / 2 ^ k = y
  by_cases h : y % 2 = 1
  · rw [decide_eq_true h, if_pos rfl]; omega
  · rw [decide_eq_false h, if_neg (by decide)]; omega
theorem gor_bit {a v w : Int} (ha : 0 ≤ a) (hv : 0 ≤ v) (hw : 0 ≤ w) : (gor a (gpw v) / gpw w) % 2 = if w = v then 1 else (a / gpw w) % 2 := by
  obtain ⟨x, rfl⟩ := Int.eq_ofNat_of_zero_le ha
  obtain ⟨i, rfl⟩ := Int.eq_ofNat_of_zero_le hv
  obtain ⟨k, rfl⟩ := Int.eq_ofNat_of_zero_le hw
  have e : gor (x : Int) (gpw (i : Int)) = ((x ||| 2 ^ i : Nat) : Int) := by
    unfold gor
    rw [gpw_n, Int.toNat_natCast, Int.toNat_natCast]
  rw [e, bit_n, bit_n, Nat.testBit_or, Nat.testBit_two_pow]
  by_cases h : i = k
  · subst h; simp
  · have h2 : ¬ ((k : Int) = (i : Int)) := by omega
    simp [h, h2]
theorem gor_nn (a b : Int) : 0 ≤ gor a b := Int.natCast_nonneg _
theorem gand_bit {a v : Int} (ha : 0 ≤ a) (hv : 0 ≤ v) : gand a (gpw v) = 0 ↔ (a / gpw v) % 2 = 0 := by
  obtain ⟨x, rfl⟩ := Int.eq_ofNat_of_zero_le ha
  obtain ⟨i, rfl⟩ := Int.eq_ofNat_of_zero_le hv
  have e : gand (x : Int) (gpw (i : Int)) = ((x &&& 2 ^ i : Nat) : Int) := by
    unfold gand
    rw [gpw_n, Int.toNat_natCast, Int.toNat_natCast]
  rw [e, bit_n]
  by_cases h : x.testBit i = true
  · rw [if_pos h]
    refine ⟨fun q => ?_, fun q => absurd q (by decide)⟩
    have z : x &&& 2 ^ i = 0 := by omega
    have := Nat.testBit_and x (2 ^ i) i
    rw [z, h, Nat.testBit_two_pow] at this
    simp at this
  · rw [if_neg h]
    refine ⟨fun _ => rfl, fun _ => ?_⟩
    have z : x &&& 2 ^ i = 0 := by
      refine Nat.eq_of_testBit_eq (fun j => ?_)
      rw [Nat.testBit_and, Nat.testBit_two_pow, Nat.zero_testBit]
      by_cases e : i = j
      · subst e; simp [h]
      · simp [e]
    omega
theorem bit_01 (a v : Int) : (a / gpw v) % 2 = 0 ∨ (a / gpw v) % 2 = 1 := by omega
