/-! THINNING, purely: which links are taken; that there is one answer -/
noncomputable def LR (L : Int → Int → Int) (τ : Int → Int → Prop) (u v : Int) : Int := @ite Int (τ u v) (Classical.propDecidable _) (L u v) 0
def key (L : Int → Int → Int) (u v : Int) : Int := 144 * L u v + (if u < v then 12 * u + v else 12 * v + u)
def far1 (n : Int) (L : Int → Int → Int) (t : Int) (τ : Int → Int → Prop) (u v : Int) : Prop := gdist n (LR L τ) u v = -1 ∨ t * L u v < gdist n (LR L τ) u v
/-- τ is right as far as keys below c go -/
def Rt (n : Int) (L : Int → Int → Int) (t c : Int) (τ : Int → Int → Prop) : Prop :=
  (∀ u v, τ u v → τ v u) ∧ (∀ u v, τ u v → (0 ≤ u ∧ u < n) ∧ (0 ≤ v ∧ v < n) ∧ 0 < L u v ∧ key L u v < c ∧ u ≠ v) ∧
  ∀ u v, 0 ≤ u → u < v → v < n → 0 < L u v → key L u v < c → (τ u v ↔ far1 n L t (fun a b => τ a b ∧ key L a b < key L u v) u v)
theorem LR_cong {L : Int → Int → Int} {τ τ' : Int → Int → Prop} (h : ∀ u v, τ u v ↔ τ' u v) : LR L τ = LR L τ' := by
  have : τ = τ' := by funext u v; exact propext (h u v)
  rw [this]
theorem far1_cong {n : Int} {L : Int → Int → Int} {t : Int} {τ τ' : Int → Int → Prop} (h : ∀ u v, τ u v ↔ τ' u v) (u v : Int) : far1 n L t τ u v ↔ far1 n L t τ' u v := by
  unfold far1
  rw [LR_cong h]
theorem key_sym {L : Int → Int → Int} {u v : Int} (h : L u v = L v u) : key L u v = key L v u := by
  unfold key
  rw [h]
  by_cases e : u = v
  · rw [e]
  · by_cases h1 : u < v
    · rw [if_pos h1, if_neg (by omega)]
    · rw [if_neg h1, if_pos (by omega)]
def Lsym (n : Int) (L : Int → Int → Int) : Prop := ∀ u v, 0 ≤ u → u < n → 0 ≤ v → v < n → L u v = L v u
theorem Rt.half {n : Int} {L : Int → Int → Int} {t c : Int} {τ τ' : Int → Int → Prop} (h : Rt n L t c τ) (h' : Rt n L t c τ') (hL : Lsym n L) : ∀ (N : Nat) (u v : Int), key L u v < N → τ u v → τ' u v
  | 0, u, v, hk, a => by
    obtain ⟨b, c, d, e, f⟩ := h.2.1 u v a
    unfold key at hk
    split at hk <;> omega
  | N + 1, u, v, hk, a => by
    have main : ∀ u v, u < v → key L u v < ((N + 1 : Nat) : Int) → τ u v → τ' u v := by
      intro u v huv hk a
      obtain ⟨b, c, d, e, f⟩ := h.2.1 u v a
      refine (h'.2.2 u v b.1 huv c.2 d e).2 ((far1_cong (fun x y => ?_) u v).1 ((h.2.2 u v b.1 huv c.2 d e).1 a))
      refine ⟨fun q => ⟨Rt.half h h' hL N x y (by omega) q.1, q.2⟩, fun q => ⟨Rt.half h' h hL N x y (by omega) q.1, q.2⟩⟩
    obtain ⟨b, c, d, e, f⟩ := h.2.1 u v a
    by_cases huv : u < v
    · exact main u v huv hk a
    · refine h'.1 v u (main v u (by omega) ?_ (h.1 u v a))
      rw [key_sym (hL v u c.1 c.2 b.1 b.2)]
      exact hk
theorem Rt.uniq {n : Int} {L : Int → Int → Int} {t c : Int} {τ τ' : Int → Int → Prop} (h : Rt n L t c τ) (h' : Rt n L t c τ') (hL : Lsym n L) (u v : Int) : τ u v ↔ τ' u v :=
  ⟨h.half h' hL ((key L u v) + 1).toNat u v (by omega), h'.half h hL ((key L u v) + 1).toNat u v (by omega)⟩
theorem Rt.init {n : Int} {L : Int → Int → Int} {t : Int} {τ : Int → Int → Prop} (h : ∀ u v, ¬ τ u v) : Rt n L t 0 τ := by
  refine ⟨fun u v q => absurd q (h u v), fun u v q => absurd q (h u v), fun u v a b c d e => ?_⟩
  unfold key at e
  split at e <;> omega
theorem Rt.skip {n : Int} {L : Int → Int → Int} {t c c' : Int} {τ : Int → Int → Prop} (h : Rt n L t c τ) (hc : c ≤ c') (hno : ∀ u v, 0 ≤ u → u < v → v < n → 0 < L u v → key L u v < c' → key L u v < c) : Rt n L t c' τ :=
  ⟨h.1, fun u v q => by have := h.2.1 u v q; exact ⟨this.1, this.2.1, this.2.2.1, by omega, this.2.2.2.2⟩, fun u v a b c d e => h.2.2 u v a b c d (hno u v a b c d e)⟩
theorem key_inj {n : Int} {L : Int → Int → Int} (hn : n ≤ 12) {a b u v : Int} (h1 : 0 ≤ a) (h2 : a < b) (h3 : b < n) (h4 : 0 ≤ u) (h5 : u < v) (h6 : v < n) (h : key L a b = key L u v) : a = u ∧ b = v := by
  unfold key at h
  rw [if_pos h2, if_pos h5] at h
  have e : L a b = L u v := by omega
  have e2 : a = u := by omega
  exact ⟨e2, by omega⟩
theorem Rt.step {n : Int} {L : Int → Int → Int} {t c : Int} {τ τ' : Int → Int → Prop} (h : Rt n L t c τ) (hn : n ≤ 12) (hL : Lsym n L) {u v : Int} (h0 : 0 ≤ u) (h1 : u < v) (h2 : v < n) (h3 : 0 < L u v) (hk : key L u v = c) (hτ : ∀ a b, τ' a b ↔ (τ a b ∨ (far1 n L t τ u v ∧ ((a = u ∧ b = v) ∨ (a = v ∧ b = u))))) : Rt n L t (c + 1) τ' := by
  have ks : key L v u = c := by rw [key_sym (hL v u (by omega) (by omega) (by omega) (by omega))]; exact hk
  refine ⟨fun a b q => ?_, fun a b q => ?_, fun a b a0 ab b1 hab hc => ?_⟩
  · rw [hτ] at q ⊢
    rcases q with q | ⟨q, q2⟩
    · exact Or.inl (h.1 a b q)
    · exact Or.inr ⟨q, by omega⟩
  · rw [hτ] at q
    rcases q with q | ⟨q, ⟨q1, q2⟩ | ⟨q1, q2⟩⟩
    · have := h.2.1 a b q
      exact ⟨this.1, this.2.1, this.2.2.1, by omega, this.2.2.2.2⟩
    · subst q1; subst q2
      exact ⟨by omega, by omega, h3, by omega, by omega⟩
    · subst q1; subst q2
      have := hL a b (by omega) (by omega) (by omega) (by omega)
      exact ⟨by omega, by omega, by omega, by omega, by omega⟩
  · have low : ∀ x y, key L x y < c → (τ' x y ↔ τ x y) := by
      intro x y hxy
      rw [hτ]
      refine ⟨fun q => ?_, Or.inl⟩
      rcases q with q | ⟨q, ⟨q1, q2⟩ | ⟨q1, q2⟩⟩
      · exact q
      · subst q1; subst q2; omega
      · subst q1; subst q2; omega
    by_cases e : key L a b < c
    · rw [low a b e, h.2.2 a b a0 ab b1 hab e]
      refine far1_cong (fun x y => ?_) a b
      refine ⟨fun q => ⟨(low x y (by omega)).2 q.1, q.2⟩, fun q => ⟨(low x y (by omega)).1 q.1, q.2⟩⟩
    · have e2 : key L a b = c := by omega
      obtain ⟨rfl, rfl⟩ := key_inj (L := L) hn a0 ab b1 h0 h1 h2 (by omega)
      have no : ¬ τ a b := fun q => by have := (h.2.1 a b q).2.2.2.1; omega
      have : far1 n L t (fun x y => τ' x y ∧ key L x y < key L a b) a b ↔ far1 n L t τ a b := by
        refine far1_cong (fun x y => ?_) a b
        refine ⟨fun q => (low x y (by omega)).1 q.1, fun q => ?_⟩
        have := (h.2.1 x y q).2.2.2.1
        exact ⟨(low x y this).2 q, by omega⟩
      rw [this, hτ]
      refine ⟨fun q => ?_, fun q => Or.inr ⟨q, Or.inl ⟨rfl, rfl⟩⟩⟩
      rcases q with q | q
      · exact absurd q no
      · exact q.1
theorem gdist_wk {n : Int} {L : Int → Int → Int} {u v : Int} (h : gdist n L u v ≠ -1) : ∃ m z, Wk n L m u v z := by
  unfold gdist at h
  split at h
  · next q => obtain ⟨z, ⟨m, hw⟩, -⟩ := q; exact ⟨m, z, hw⟩
  · exact absurd rfl h
theorem Rt.link {n : Int} {L : Int → Int → Int} {t c : Int} {τ : Int → Int → Prop} (h : Rt n L t c τ) (hL : Lsym n L) (hc : ∀ u v, 0 ≤ u → u < n → 0 ≤ v → v < n → key L u v < c) {u v : Int} (h0 : 0 ≤ u) (h1 : u < v) (h2 : v < n) (h3 : 0 < L u v) : ∃ m z, Wk n (LR L τ) m u v z := by
  have hi := h.2.2 u v h0 h1 h2 h3 (hc u v h0 (by omega) (by omega) h2)
  by_cases q : τ u v
  · have e : LR L τ u v = L u v := by unfold LR; rw [if_pos q]
    exact ⟨1, _, Wk_one h0 (by omega) (by rw [e]; exact h3)⟩
  · have : ¬ far1 n L t (fun a b => τ a b ∧ key L a b < key L u v) u v := fun p => q (hi.2 p)
    unfold far1 at this
    obtain ⟨m, z, hw⟩ := gdist_wk (fun p => this (Or.inl p))
    refine ⟨m, z, Wk_mono (fun x y a b c d e => ?_) m u v z (by omega) h2 hw⟩
    unfold LR at e ⊢
    split at e
    · next p => rw [if_pos p.1, if_pos p]
    · omega
theorem LR_sym {n : Int} {L : Int → Int → Int} {t c : Int} {τ : Int → Int → Prop} (h : Rt n L t c τ) (hL : Lsym n L) (u v : Int) (a : 0 ≤ u) (b : u < n) (c : 0 ≤ v) (d : v < n) : LR L τ u v = LR L τ v u := by
  unfold LR
  by_cases q : τ u v
  · rw [if_pos q, if_pos (h.1 u v q), hL u v a b c d]
  · rw [if_neg q, if_neg (fun p => q (h.1 v u p))]
theorem Wk_head {n : Int} {L : Int → Int → Int} (m : Nat) (u x v a : Int) (h0 : 0 ≤ u) (h1 : u < n) (h2 : 0 < L u x) (hw : Wk n L m x v a) : ∃ j, Wk n L j u v (L u x + a) := Wk_app m 1 u x v _ a (Wk_one h0 h1 h2) hw
theorem Wk_rev {n : Int} {L : Int → Int → Int} (hL : Lsym n L) : ∀ (m : Nat) (u v z : Int), 0 ≤ u → u < n → 0 ≤ v → v < n → Wk n L m u v z → ∃ j, Wk n L j v u z
  | 0, u, v, z, _, _, _, _, h => by obtain ⟨rfl, rfl⟩ := h; exact ⟨0, rfl, rfl⟩
  | m + 1, u, v, z, h0, h1, h2, h3, h => by
    obtain ⟨x, y, hx, h4, h5, h6, rfl⟩ := h
    obtain ⟨j, hj⟩ := Wk_rev hL m u x y h0 h1 h4 h5 hx
    have e := hL x v h4 h5 h2 h3
    obtain ⟨i, hi⟩ := Wk_head j v x u y h2 h3 (by omega) hj
    exact ⟨i, by rw [show y + L x v = L v x + y by omega]; exact hi⟩
theorem Rt.walk {n : Int} {L : Int → Int → Int} {t c : Int} {τ : Int → Int → Prop} (h : Rt n L t c τ) (hL : Lsym n L) (hd : ∀ u, 0 ≤ u → u < n → L u u ≤ 0) (hc : ∀ u v, 0 ≤ u → u < n → 0 ≤ v → v < n → key L u v < c) : ∀ (m : Nat) (u v z : Int), 0 ≤ u → u < n → 0 ≤ v → v < n → Wk n L m u v z → ∃ j y, Wk n (LR L τ) j u v y
  | 0, u, v, z, _, _, _, _, hw => ⟨0, z, hw⟩
  | m + 1, u, v, z, h0, h1, h2, h3, hw => by
    obtain ⟨x, y, hx, h4, h5, h6, rfl⟩ := hw
    obtain ⟨j, y', hj⟩ := Rt.walk h hL hd hc m u x y h0 h1 h4 h5 hx
    have : ∃ i b, Wk n (LR L τ) i x v b := by
      by_cases e : x < v
      · exact h.link hL hc h4 e h3 h6
      · by_cases e2 : x = v
        · subst e2; have := hd x h4 h5; omega
        · have e3 := hL x v h4 h5 h2 h3
          obtain ⟨i, b, hb⟩ := h.link hL hc h2 (by omega) h5 (u := v) (v := x) (by omega)
          obtain ⟨i2, hi2⟩ := Wk_rev (LR_sym h hL) i v x b h2 h3 h4 h5 hb
          exact ⟨i2, b, hi2⟩
    obtain ⟨i, b, hb⟩ := this
    obtain ⟨k, hk⟩ := Wk_app i j u x v y' b hj hb
    exact ⟨k, _, hk⟩
