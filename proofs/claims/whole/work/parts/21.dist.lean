/-! DISTANCES, purely: walks, tables that are closed under going on, and that every such table says the same -/
/-- a walk of m links from u to v, of that length together; nodes 0 .. n-1, L the lengths (0: no link) -/
def Wk (n : Int) (L : Int → Int → Int) : Nat → Int → Int → Int → Prop
  | 0, u, v, z => u = v ∧ z = 0
  | m + 1, u, v, z => ∃ x y : Int, Wk n L m u x y ∧ 0 ≤ x ∧ x < n ∧ 0 < L x v ∧ z = y + L x v
theorem Wk_app {n : Int} {L : Int → Int → Int} : ∀ (m k : Nat) (u x v a b : Int), Wk n L k u x a → Wk n L m x v b → ∃ j, Wk n L j u v (a + b)
  | 0, k, u, x, v, a, b, h1, h2 => by
    obtain ⟨rfl, rfl⟩ := h2
    exact ⟨k, by rw [Int.add_zero]; exact h1⟩
  | m + 1, k, u, x, v, a, b, h1, h2 => by
    obtain ⟨w, y, h3, h4, h5, h6, rfl⟩ := h2
    obtain ⟨j, hj⟩ := Wk_app m k u x w a y h1 h3
    exact ⟨j + 1, w, a + y, hj, h4, h5, h6, by omega⟩
/-- a table of distances: B and more stand for no way -/
def IsD (n : Int) (L : Int → Int → Int) (B : Int) (f : Int → Int → Int) : Prop :=
  (∀ u v, 0 ≤ u → u < n → 0 ≤ v → v < n → 0 ≤ f u v) ∧ (∀ u, 0 ≤ u → u < n → f u u = 0) ∧
  (∀ u x v, 0 ≤ u → u < n → 0 ≤ x → x < n → 0 ≤ v → v < n → f u v ≤ f u x + f x v) ∧
  (∀ u v, 0 ≤ u → u < n → 0 ≤ v → v < n → 0 < L u v → f u v ≤ L u v) ∧
  (∀ u v, 0 ≤ u → u < n → 0 ≤ v → v < n → f u v < B → ∃ m, Wk n L m u v (f u v))
theorem IsD.le {n : Int} {L : Int → Int → Int} {B : Int} {f : Int → Int → Int} (h : IsD n L B f) : ∀ (m : Nat) (u v z : Int), 0 ≤ u → u < n → 0 ≤ v → v < n → Wk n L m u v z → f u v ≤ z
  | 0, u, v, z, h0, h1, h2, h3, hw => by
    obtain ⟨rfl, rfl⟩ := hw
    rw [h.2.1 u h0 h1]
    exact Int.le_refl 0
  | m + 1, u, v, z, h0, h1, h2, h3, hw => by
    obtain ⟨x, y, hx, h4, h5, h6, rfl⟩ := hw
    have a := IsD.le h m u x y h0 h1 h4 h5 hx
    have b := h.2.2.1 u x v h0 h1 h4 h5 h2 h3
    have c := h.2.2.2.1 x v h4 h5 h2 h3 h6
    omega
/-- the last link of a shortest way -/
theorem IsD.last {n : Int} {L : Int → Int → Int} {B : Int} {f : Int → Int → Int} (h : IsD n L B f) {u v : Int} (h0 : 0 ≤ u) (h1 : u < n) (h2 : 0 ≤ v) (h3 : v < n) (hB : f u v < B) (hne : u ≠ v) : ∃ x, 0 ≤ x ∧ x < n ∧ 0 < L x v ∧ f u v = f u x + L x v := by
  obtain ⟨m, hm⟩ := h.2.2.2.2 u v h0 h1 h2 h3 hB
  cases m with
  | zero => exact absurd hm.1 hne
  | succ m =>
    obtain ⟨x, y, hx, h4, h5, h6, e⟩ := hm
    refine ⟨x, h4, h5, h6, ?_⟩
    have a := h.le m u x y h0 h1 h4 h5 hx
    have b := h.2.2.1 u x v h0 h1 h4 h5 h2 h3
    have c := h.2.2.2.1 x v h4 h5 h2 h3 h6
    omega
/-- how many of 0 .. k-1 -/
def cnt (p : Int → Bool) : Nat → Int
  | 0 => 0
  | k + 1 => cnt p k + (if p (k : Int) then 1 else 0)
theorem cnt_0 (p : Int → Bool) : ∀ k, 0 ≤ cnt p k
  | 0 => Int.le_refl 0
  | k + 1 => by have := cnt_0 p k; unfold cnt; split <;> omega
theorem cnt_le (p : Int → Bool) : ∀ k : Nat, cnt p k ≤ k
  | 0 => Int.le_refl 0
  | k + 1 => by have := cnt_le p k; unfold cnt; split <;> omega
theorem cnt_mono {p q : Int → Bool} : ∀ k : Nat, (∀ i : Nat, i < k → p (i : Int) = true → q (i : Int) = true) → cnt p k ≤ cnt q k
  | 0, _ => Int.le_refl 0
  | k + 1, h => by
    have := cnt_mono k (fun i hi => h i (by omega))
    unfold cnt
    have hk := h k (by omega)
    by_cases h1 : p (k : Int) = true
    · rw [if_pos h1, if_pos (hk h1)]; omega
    · rw [if_neg h1]; split <;> omega
theorem cnt_lt {p q : Int → Bool} : ∀ k : Nat, (∀ i : Nat, i < k → p (i : Int) = true → q (i : Int) = true) → ∀ j : Nat, j < k → p (j : Int) = false → q (j : Int) = true → cnt p k + 1 ≤ cnt q k
  | 0, _, j, hj, _, _ => absurd hj (Nat.not_lt_zero j)
  | k + 1, h, j, hj, h1, h2 => by
    unfold cnt
    by_cases e : j = k
    · subst e
      have := cnt_mono j (fun i hi => h i (by omega))
      rw [if_neg (by rw [h1]; decide), if_pos h2]
      omega
    · have := cnt_lt k (fun i hi => h i (by omega)) j (by omega) h1 h2
      have hk := h k (by omega)
      by_cases h3 : p (k : Int) = true
      · rw [if_pos h3, if_pos (hk h3)]; omega
      · rw [if_neg h3]; split <;> omega
theorem cnt_cong {p q : Int → Bool} (k : Nat) (h : ∀ i : Nat, i < k → p (i : Int) = q (i : Int)) : cnt p k = cnt q k := by
  have a := cnt_mono (p := p) (q := q) k (fun i hi e => by rw [← h i hi]; exact e)
  have b := cnt_mono (p := q) (q := p) k (fun i hi e => by rw [h i hi]; exact e)
  omega
/-- a way that is one is not long -/
theorem IsD.bd {n : Int} {L : Int → Int → Int} {B : Int} {f : Int → Int → Int} (h : IsD n L B f) (hn : n ≤ 12) (hL : ∀ u v, 0 ≤ u → u < n → 0 ≤ v → v < n → L u v ≤ 99) {u : Int} (h0 : 0 ≤ u) (h1 : u < n) : ∀ (m : Nat) (v : Int), 0 ≤ v → v < n → f u v < B → cnt (fun x => decide (f u x < f u v ∧ f u v < B)) n.toNat ≤ m → f u v ≤ 99 * m
  | 0, v, h2, h3, hB, hc => by
    by_cases e : u = v
    · subst e
      rw [h.2.1 u h0 h1]
      omega
    · obtain ⟨x, h4, h5, h6, h7⟩ := h.last h0 h1 h2 h3 hB e
      have hx : x = ((x.toNat : Nat) : Int) := by omega
      have := cnt_lt (p := fun _ => false) (q := fun x => decide (f u x < f u v ∧ f u v < B)) n.toNat (fun _ _ h => by cases h) x.toNat (by omega) rfl (by rw [← hx]; exact decide_eq_true ⟨by omega, hB⟩)
      have := cnt_0 (fun _ => false) n.toNat
      omega
  | m + 1, v, h2, h3, hB, hc => by
    by_cases e : u = v
    · subst e
      rw [h.2.1 u h0 h1]
      omega
    · obtain ⟨x, h4, h5, h6, h7⟩ := h.last h0 h1 h2 h3 hB e
      have hx : x = ((x.toNat : Nat) : Int) := by omega
      have hl := hL x v h4 h5 h2 h3
      have hlt : cnt (fun y => decide (f u y < f u x ∧ f u x < B)) n.toNat + 1 ≤ cnt (fun y => decide (f u y < f u v ∧ f u v < B)) n.toNat := by
        refine cnt_lt n.toNat (fun i _ hi => ?_) x.toNat (by omega) ?_ ?_
        · have := of_decide_eq_true hi
          exact decide_eq_true ⟨by omega, hB⟩
        · rw [← hx]
          exact decide_eq_false (fun q => by omega)
        · rw [← hx]
          exact decide_eq_true ⟨by omega, hB⟩
      have := IsD.bd h hn hL h0 h1 m x h4 h5 (by omega) (by omega)
      omega
theorem IsD.small {n : Int} {L : Int → Int → Int} {B : Int} {f : Int → Int → Int} (h : IsD n L B f) (hn : n ≤ 12) (hL : ∀ u v, 0 ≤ u → u < n → 0 ≤ v → v < n → L u v ≤ 99) {u v : Int} (h0 : 0 ≤ u) (h1 : u < n) (h2 : 0 ≤ v) (h3 : v < n) (hB : f u v < B) : f u v ≤ 1188 := by
  have := h.bd hn hL h0 h1 12 v h2 h3 hB (by have := cnt_le (fun x => decide (f u x < f u v ∧ f u v < B)) n.toNat; omega)
  omega
/-- the least length of a walk; -1: there is none -/
def isMin (n : Int) (L : Int → Int → Int) (u v z : Int) : Prop := (∃ m, Wk n L m u v z) ∧ ∀ (m : Nat) (y : Int), Wk n L m u v y → z ≤ y
noncomputable def gdist (n : Int) (L : Int → Int → Int) (u v : Int) : Int := @dite Int (∃ z, isMin n L u v z) (Classical.propDecidable _) (fun h => Classical.choose h) (fun _ => -1)
theorem gdist_of {n : Int} {L : Int → Int → Int} {u v z : Int} (h : isMin n L u v z) : gdist n L u v = z := by
  unfold gdist
  rw [dif_pos ⟨z, h⟩]
  have hc := Classical.choose_spec (p := fun z => isMin n L u v z) ⟨z, h⟩
  obtain ⟨⟨m1, w1⟩, h1⟩ := hc
  obtain ⟨⟨m2, w2⟩, h2⟩ := h
  have a := h1 m2 z w2
  have b := h2 m1 _ w1
  omega
theorem IsD.eq {n : Int} {L : Int → Int → Int} {B : Int} {f : Int → Int → Int} (h : IsD n L B f) {u v : Int} (h0 : 0 ≤ u) (h1 : u < n) (h2 : 0 ≤ v) (h3 : v < n) (hB : f u v < B) : gdist n L u v = f u v :=
  gdist_of ⟨h.2.2.2.2 u v h0 h1 h2 h3 hB, fun m y hw => h.le m u v y h0 h1 h2 h3 hw⟩
theorem IsD.reach {n : Int} {L : Int → Int → Int} {B : Int} {f : Int → Int → Int} (h : IsD n L B f) (hn : n ≤ 12) (hL : ∀ u v, 0 ≤ u → u < n → 0 ≤ v → v < n → L u v ≤ 99) (hB : 2000 ≤ B) : ∀ (m : Nat) (u v y : Int), 0 ≤ u → u < n → 0 ≤ v → v < n → Wk n L m u v y → f u v < B
  | 0, u, v, y, h0, h1, h2, h3, hw => by
    obtain ⟨rfl, rfl⟩ := hw
    rw [h.2.1 u h0 h1]
    omega
  | m + 1, u, v, y, h0, h1, h2, h3, hw => by
    obtain ⟨x, z, hx, h4, h5, h6, rfl⟩ := hw
    have a := IsD.reach h hn hL hB m u x z h0 h1 h4 h5 hx
    have a2 := h.small hn hL h0 h1 h4 h5 a
    have b := h.2.2.1 u x v h0 h1 h4 h5 h2 h3
    have c := h.2.2.2.1 x v h4 h5 h2 h3 h6
    have d := hL x v h4 h5 h2 h3
    omega
theorem IsD.none {n : Int} {L : Int → Int → Int} {B : Int} {f : Int → Int → Int} (h : IsD n L B f) (hn : n ≤ 12) (hL : ∀ u v, 0 ≤ u → u < n → 0 ≤ v → v < n → L u v ≤ 99) (hB2 : 2000 ≤ B) {u v : Int} (h0 : 0 ≤ u) (h1 : u < n) (h2 : 0 ≤ v) (h3 : v < n) (hB : ¬ f u v < B) : gdist n L u v = -1 := by
  unfold gdist
  rw [dif_neg]
  intro ⟨z, ⟨m, hw⟩, _⟩
  exact hB (h.reach hn hL hB2 m u v z h0 h1 h2 h3 hw)
/-- what a table says, in one word -/
theorem IsD.val {n : Int} {L : Int → Int → Int} {B : Int} {f : Int → Int → Int} (h : IsD n L B f) (hn : n ≤ 12) (hL : ∀ u v, 0 ≤ u → u < n → 0 ≤ v → v < n → L u v ≤ 99) (hB2 : 2000 ≤ B) {u v : Int} (h0 : 0 ≤ u) (h1 : u < n) (h2 : 0 ≤ v) (h3 : v < n) : (f u v < B ∧ gdist n L u v = f u v ∧ 0 ≤ f u v ∧ f u v ≤ 1188) ∨ (¬ f u v < B ∧ gdist n L u v = -1) := by
  by_cases hB : f u v < B
  · exact Or.inl ⟨hB, h.eq h0 h1 h2 h3 hB, h.1 u v h0 h1 h2 h3, h.small hn hL h0 h1 h2 h3 hB⟩
  · exact Or.inr ⟨hB, h.none hn hL hB2 h0 h1 h2 h3 hB⟩
theorem Wk_mono {n : Int} {L L' : Int → Int → Int} (hLL : ∀ x v, 0 ≤ x → x < n → 0 ≤ v → v < n → 0 < L x v → L' x v = L x v) : ∀ (m : Nat) (u v z : Int), 0 ≤ v → v < n → Wk n L m u v z → Wk n L' m u v z
  | 0, _, _, _, _, _, h => h
  | m + 1, u, v, z, h2, h3, hw => by
    obtain ⟨x, y, hx, h4, h5, h6, rfl⟩ := hw
    have e := hLL x v h4 h5 h2 h3 h6
    exact ⟨x, y, Wk_mono hLL m u x y h4 h5 hx, h4, h5, by omega, by omega⟩
theorem Wk_one {n : Int} {L : Int → Int → Int} {u v : Int} (h0 : 0 ≤ u) (h1 : u < n) (h : 0 < L u v) : Wk n L 1 u v (L u v) := ⟨u, 0, ⟨rfl, rfl⟩, h0, h1, h, by omega⟩
def mn (a b : Int) : Int := if b < a then b else a
theorem mn_cases (a b : Int) : (mn a b = a ∧ a ≤ b) ∨ (mn a b = b ∧ b < a) := by unfold mn; split <;> omega
/-- one link more -/
theorem IsD.add {n : Int} {L L' : Int → Int → Int} {B : Int} {f f' : Int → Int → Int} (h : IsD n L B f) {p q z : Int} (hp : 0 ≤ p ∧ p < n) (hq : 0 ≤ q ∧ q < n) (hz : 0 < z)
    (h0 : ∀ u v, 0 ≤ u → u < n → 0 ≤ v → v < n → 0 < L u v → L' u v = L u v) (h1 : L' p q = z) (h2 : L' q p = z)
    (h3 : ∀ u v, 0 ≤ u → u < n → 0 ≤ v → v < n → 0 < L' u v → (u = p ∧ v = q) ∨ (u = q ∧ v = p) ∨ L' u v = L u v)
    (hf : ∀ a b, 0 ≤ a → a < n → 0 ≤ b → b < n → f' a b = mn (f a b) (mn (f a p + z + f q b) (f a q + z + f p b))) : IsD n L' B f' := by
  obtain ⟨n0, n1, n2, n3, n4⟩ := id h
  refine ⟨fun u v a b c d => ?_, fun u a b => ?_, fun u x v a b c d e g => ?_, fun u v a b c d e => ?_, fun u v a b c d e => ?_⟩
  · rw [hf u v a b c d]
    have := n0 u v a b c d
    have := n0 u p a b hp.1 hp.2
    have := n0 q v hq.1 hq.2 c d
    have := n0 u q a b hq.1 hq.2
    have := n0 p v hp.1 hp.2 c d
    unfold mn
    split <;> split <;> omega
  · rw [hf u u a b a b]
    have := n1 u a b
    have := n0 u p a b hp.1 hp.2
    have := n0 q u hq.1 hq.2 a b
    have := n0 u q a b hq.1 hq.2
    have := n0 p u hp.1 hp.2 a b
    unfold mn
    split <;> split <;> omega
  · rw [hf u v a b e g, hf u x a b c d, hf x v c d e g]
    have := n2 u x v a b c d e g
    have := n2 u x p a b c d hp.1 hp.2
    have := n2 u x q a b c d hq.1 hq.2
    have := n2 q x v hq.1 hq.2 c d e g
    have := n2 p x v hp.1 hp.2 c d e g
    have := n0 q x hq.1 hq.2 c d
    have := n0 p x hp.1 hp.2 c d
    have := n0 x p c d hp.1 hp.2
    have := n0 x q c d hq.1 hq.2
    have := n2 u p v a b hp.1 hp.2 e g
    have := n2 u q v a b hq.1 hq.2 e g
    have := n0 u p a b hp.1 hp.2
    have := n0 u q a b hq.1 hq.2
    have := n0 q v hq.1 hq.2 e g
    have := n0 p v hp.1 hp.2 e g
    rcases mn_cases (f u p + z + f q v) (f u q + z + f p v) with ⟨e1, k1⟩ | ⟨e1, k1⟩ <;> rcases mn_cases (f u v) (mn (f u p + z + f q v) (f u q + z + f p v)) with ⟨e2, k2⟩ | ⟨e2, k2⟩ <;>
    rcases mn_cases (f u p + z + f q x) (f u q + z + f p x) with ⟨e3, k3⟩ | ⟨e3, k3⟩ <;> rcases mn_cases (f u x) (mn (f u p + z + f q x) (f u q + z + f p x)) with ⟨e4, k4⟩ | ⟨e4, k4⟩ <;>
    rcases mn_cases (f x p + z + f q v) (f x q + z + f p v) with ⟨e5, k5⟩ | ⟨e5, k5⟩ <;> rcases mn_cases (f x v) (mn (f x p + z + f q v) (f x q + z + f p v)) with ⟨e6, k6⟩ | ⟨e6, k6⟩ <;> omega
  · have m1 := n0 u v a b c d
    have m2 := n0 u p a b hp.1 hp.2
    have m3 := n0 q v hq.1 hq.2 c d
    have m4 := n0 u q a b hq.1 hq.2
    have m5 := n0 p v hp.1 hp.2 c d
    rw [hf u v a b c d]
    rcases h3 u v a b c d e with ⟨rfl, rfl⟩ | ⟨rfl, rfl⟩ | e1
    · have := n1 u a b
      have := n1 v c d
      rw [h1]
      unfold mn
      split <;> split <;> omega
    · have := n1 u a b
      have := n1 v c d
      rw [h2]
      unfold mn
      split <;> split <;> omega
    · have := n3 u v a b c d (by omega)
      unfold mn
      split <;> split <;> omega
  · rw [hf u v a b c d] at e ⊢
    have m1 := n0 u v a b c d
    have m2 := n0 u p a b hp.1 hp.2
    have m3 := n0 q v hq.1 hq.2 c d
    have m4 := n0 u q a b hq.1 hq.2
    have m5 := n0 p v hp.1 hp.2 c d
    have mo := fun (m : Nat) (u v z : Int) (a : 0 ≤ v) (b : v < n) (w : Wk n L m u v z) => Wk_mono h0 m u v z a b w
    rcases mn_cases (f u p + z + f q v) (f u q + z + f p v) with ⟨e1, k1⟩ | ⟨e1, k1⟩ <;> rcases mn_cases (f u v) (mn (f u p + z + f q v) (f u q + z + f p v)) with ⟨e2, k2⟩ | ⟨e2, k2⟩
    · obtain ⟨m, w⟩ := n4 u v a b c d (by omega)
      exact ⟨m, by rw [e2]; exact mo m u v _ c d w⟩
    · obtain ⟨ma, wa⟩ := n4 u p a b hp.1 hp.2 (by omega)
      obtain ⟨mb, wb⟩ := n4 q v hq.1 hq.2 c d (by omega)
      have w1 : Wk n L' 1 p q z := by rw [← h1]; exact Wk_one hp.1 hp.2 (by omega)
      obtain ⟨j, wj⟩ := Wk_app 1 ma u p q _ _ (mo ma u p _ hp.1 hp.2 wa) w1
      obtain ⟨j2, wj2⟩ := Wk_app mb j u q v _ _ wj (mo mb q v _ c d wb)
      exact ⟨j2, by rw [e2, e1]; exact wj2⟩
    · obtain ⟨m, w⟩ := n4 u v a b c d (by omega)
      exact ⟨m, by rw [e2]; exact mo m u v _ c d w⟩
    · obtain ⟨ma, wa⟩ := n4 u q a b hq.1 hq.2 (by omega)
      obtain ⟨mb, wb⟩ := n4 p v hp.1 hp.2 c d (by omega)
      have w1 : Wk n L' 1 q p z := by rw [← h2]; exact Wk_one hq.1 hq.2 (by omega)
      obtain ⟨j, wj⟩ := Wk_app 1 ma u q p _ _ (mo ma u q _ hq.1 hq.2 wa) w1
      obtain ⟨j2, wj2⟩ := Wk_app mb j u p v _ _ wj (mo mb p v _ c d wb)
      exact ⟨j2, by rw [e2, e1]; exact wj2⟩
/-- no link at all -/
theorem IsD.nil {n : Int} {L : Int → Int → Int} {B : Int} {f : Int → Int → Int} (hB : 0 < B) (hL : ∀ u v, 0 ≤ u → u < n → 0 ≤ v → v < n → L u v ≤ 0) (hf : ∀ a b, 0 ≤ a → a < n → 0 ≤ b → b < n → f a b = if a = b then 0 else B) : IsD n L B f := by
  refine ⟨fun u v a b c d => ?_, fun u a b => ?_, fun u x v a b c d e g => ?_, fun u v a b c d e => ?_, fun u v a b c d e => ?_⟩
  · rw [hf u v a b c d]; split <;> omega
  · rw [hf u u a b a b, if_pos rfl]
  · rw [hf u v a b e g, hf u x a b c d, hf x v c d e g]
    split <;> split <;> split <;> omega
  · have := hL u v a b c d
    omega
  · rw [hf u v a b c d] at e ⊢
    split at e
    · rename_i h
      rw [if_pos h]
      exact ⟨0, h, rfl⟩
    · omega
/-- nodes 0 .. k-1 have been gone by -/
def IsFW (n : Int) (L : Int → Int → Int) (B k : Int) (f : Int → Int → Int) : Prop :=
  (∀ u v, 0 ≤ u → u < n → 0 ≤ v → v < n → 0 ≤ f u v ∧ f u v ≤ B) ∧ (∀ u, 0 ≤ u → u < n → f u u = 0) ∧
  (∀ u x v, 0 ≤ u → u < n → 0 ≤ x → x < k → 0 ≤ v → v < n → f u v ≤ f u x + f x v) ∧
  (∀ u v, 0 ≤ u → u < n → 0 ≤ v → v < n → 0 < L u v → f u v ≤ L u v) ∧
  (∀ u v, 0 ≤ u → u < n → 0 ≤ v → v < n → f u v < B → ∃ m, Wk n L m u v (f u v))
theorem IsFW.done {n : Int} {L : Int → Int → Int} {B : Int} {f : Int → Int → Int} (h : IsFW n L B n f) : IsD n L B f := ⟨fun u v a b c d => (h.1 u v a b c d).1, h.2.1, h.2.2.1, h.2.2.2.1, h.2.2.2.2⟩
theorem IsFW.next {n : Int} {L : Int → Int → Int} {B k : Int} {f f' : Int → Int → Int} (h : IsFW n L B k f) (h0 : 0 ≤ k) (h1 : k < n) (hf : ∀ a b, 0 ≤ a → a < n → 0 ≤ b → b < n → f' a b = mn (f a b) (f a k + f k b)) : IsFW n L B (k + 1) f' := by
  obtain ⟨n0, n1, n2, n3, n4⟩ := h
  refine ⟨fun u v a b c d => ?_, fun u a b => ?_, fun u x v a b c d e g => ?_, fun u v a b c d e => ?_, fun u v a b c d e => ?_⟩
  · rw [hf u v a b c d]
    have := n0 u v a b c d
    have := n0 u k a b h0 h1
    have := n0 k v h0 h1 c d
    unfold mn
    split <;> omega
  · rw [hf u u a b a b]
    have := n1 u a b
    have := n0 u k a b h0 h1
    have := n0 k u h0 h1 a b
    unfold mn
    split <;> omega
  · have dn : x < n := by omega
    rw [hf u v a b e g, hf u x a b c dn, hf x v c dn e g]
    have := n0 u v a b e g
    have := n0 u x a b c dn
    have := n0 x v c dn e g
    have := n0 u k a b h0 h1
    have := n0 k v h0 h1 e g
    have := n0 k x h0 h1 c dn
    have := n0 x k c dn h0 h1
    have := n1 k h0 h1
    by_cases hx : x < k
    · have := n2 u x v a b c hx e g
      have := n2 u x k a b c hx h0 h1
      have := n2 k x v h0 h1 c hx e g
      unfold mn
      split <;> split <;> split <;> omega
    · have hk : x = k := by omega
      subst hk
      unfold mn
      split <;> split <;> split <;> omega
  · rw [hf u v a b c d]
    have := n3 u v a b c d e
    unfold mn
    split <;> omega
  · rw [hf u v a b c d] at e ⊢
    have m1 := n0 u v a b c d
    have m2 := n0 u k a b h0 h1
    have m3 := n0 k v h0 h1 c d
    rcases mn_cases (f u v) (f u k + f k v) with ⟨e1, k1⟩ | ⟨e1, k1⟩
    · rw [e1]
      exact n4 u v a b c d (by omega)
    · obtain ⟨ma, wa⟩ := n4 u k a b h0 h1 (by omega)
      obtain ⟨mb, wb⟩ := n4 k v h0 h1 c d (by omega)
      rw [e1]
      exact Wk_app mb ma u k v _ _ wa wb
theorem IsFW.init {n : Int} {L : Int → Int → Int} {B : Int} {f : Int → Int → Int} (hB : 100 ≤ B) (hL : ∀ u v, 0 ≤ u → u < n → 0 ≤ v → v < n → L u v ≤ 99) (hf : ∀ a b, 0 ≤ a → a < n → 0 ≤ b → b < n → f a b = if a = b then 0 else if 0 < L a b then L a b else B) : IsFW n L B 0 f := by
  refine ⟨fun u v a b c d => ?_, fun u a b => ?_, fun u x v a b c d e g => ?_, fun u v a b c d e => ?_, fun u v a b c d e => ?_⟩
  · rw [hf u v a b c d]
    have := hL u v a b c d
    split <;> (try split) <;> omega
  · rw [hf u u a b a b, if_pos rfl]
  · omega
  · rw [hf u v a b c d]
    have := hL u v a b c d
    split <;> (try split) <;> omega
  · rw [hf u v a b c d] at e ⊢
    split at e
    · rename_i h
      rw [if_pos h]
      exact ⟨0, h, rfl⟩
    · rename_i h
      rw [if_neg h]
      split at e
      · rename_i h2
        rw [if_pos h2]
        exact ⟨1, Wk_one a b h2⟩
      · omega
