/-! THE START: memory behind the constructors -/
def gwl : List Int := [110, 101, 116, 0, 0, 108, 105, 110, 107, 0, 108, 101, 118, 101, 108]
def gM0v (t : Nat) (k : Int) : Int := match t with
  | 1 => if k = 0 then 2 else if k = 2 then 1 else if k = 3 then 1 else 0
  | 10 => if k = 2 then 2 else 0
  | 11727 => if k = 156 then 1 else 0
  | 10015 => gwl.getD k.toNat 0
  | _ => 0
def gM0 : gMem := fun c k => gM0v (gsh.getD c.toNat 0) k
theorem gM0_ok : gOM gM0 := by
  intro c k
  have hw : ∀ j : Nat, gR (gwl.getD j 0) := by
    intro j
    match j with
    | 0 => exact ⟨by decide, by decide⟩
    | 1 => exact ⟨by decide, by decide⟩
    | 2 => exact ⟨by decide, by decide⟩
    | 3 => exact ⟨by decide, by decide⟩
    | 4 => exact ⟨by decide, by decide⟩
    | 5 => exact ⟨by decide, by decide⟩
    | 6 => exact ⟨by decide, by decide⟩
    | 7 => exact ⟨by decide, by decide⟩
    | 8 => exact ⟨by decide, by decide⟩
    | 9 => exact ⟨by decide, by decide⟩
    | 10 => exact ⟨by decide, by decide⟩
    | 11 => exact ⟨by decide, by decide⟩
    | 12 => exact ⟨by decide, by decide⟩
    | 13 => exact ⟨by decide, by decide⟩
    | 14 => exact ⟨by decide, by decide⟩
    | j + 15 => exact gR_0
  unfold gM0 gM0v
  split
  · split
    · exact ⟨by decide, by decide⟩
    · split
      · exact ⟨by decide, by decide⟩
      · split <;> exact ⟨by decide, by decide⟩
  · split <;> exact ⟨by decide, by decide⟩
  · split <;> exact ⟨by decide, by decide⟩
  · exact hw _
  · exact gR_0
theorem arrV_cong {c : ClassId} {n : Nat} {f g : Nat → Value} (h : ∀ j, j < n → f j = g j) : arrV c n f = arrV c n g := by
  unfold arrV
  congr 1
  apply Array.ext_getElem?
  intro i
  rw [Array.getElem?_ofFn, Array.getElem?_ofFn]
  by_cases hi : i < n
  · simp [hi, h i hi]
  · simp [hi]
section ST
variable {V : gW} {H : Heap} {base : Nat}
theorem st_i {a n : Nat} {f g : Nat → Int32} {kd : Nat} (h : va_at V.1 vwCl (a, .inl (V.2.1 kd, n, .inl f)) H) (e : ∀ j, j < n → f j = g j) : va_at V.1 vwCl (a, .inl (V.2.1 kd, n, .inl g)) H := by
  have h1 : H[a]? = some (vp_cell (V.2.1 kd) (n, .inl f)) := h
  show H[a]? = some (vp_cell (V.2.1 kd) (n, .inl g))
  rw [h1, vp_cell_i, vp_cell_i, arrV_cong (fun j hj => by rw [e j hj])]
theorem st_q {a n : Nat} {f g : Nat → Option Nat} {kd : Nat} (h : va_at V.1 vwCl (a, .inl (V.2.1 kd, n, .inr (.inr (.inr (.inr f))))) H) (e : ∀ j, j < n → f j = g j) : va_at V.1 vwCl (a, .inl (V.2.1 kd, n, .inr (.inr (.inr (.inr g))))) H := by
  have h1 : H[a]? = some (vp_cell (V.2.1 kd) (n, .inr (.inr (.inr (.inr f))))) := h
  show H[a]? = some (vp_cell (V.2.1 kd) (n, .inr (.inr (.inr (.inr g)))))
  rw [h1, vp_cell_q, vp_cell_q, arrV_cong (fun j hj => by rw [e j hj])]
theorem vP_l {D : va_G} {cl : List vw_C} {l1 l2 : va_W} (h : va_P D cl (l1 ++ l2) H) : va_P D cl l1 H := fun k q hk => h k q (by rw [List.getElem?_append_left (List.getElem?_eq_some_iff.mp hk).1]; exact hk)
theorem vP_r {D : va_G} {cl : List vw_C} {l1 l2 : va_W} (h : va_P D cl (l1 ++ l2) H) : va_P D cl l2 H := fun k q hk => h (l1.length + k) q (by rw [List.getElem?_append_right (by omega), show l1.length + k - l1.length = k by omega]; exact hk)
theorem vP_h {D : va_G} {cl : List vw_C} {x : Nat × va_E} {l : va_W} (h : va_P D cl (x :: l) H) : va_at D cl x H := h 0 x rfl
theorem vP_t {D : va_G} {cl : List vw_C} {x : Nat × va_E} {l : va_W} (h : va_P D cl (x :: l) H) : va_P D cl l H := fun k q hk => h (k + 1) q (by rw [List.getElem?_cons_succ]; exact hk)
theorem vP_f {D : va_G} {cl : List vw_C} {f : Nat → va_W} {n : Nat} (h : va_P D cl ((List.range n).flatMap f) H) {i : Nat} (hi : i < n) : va_P D cl (f i) H := fun k q hk => by
  obtain ⟨j, hj⟩ := List.getElem?_of_mem (List.mem_flatMap.mpr ⟨i, List.mem_range.mpr hi, List.mem_of_getElem? hk⟩)
  exact h j q hj
theorem vP_m {D : va_G} {cl : List vw_C} {f : Nat → Nat × va_E} {n : Nat} (h : va_P D cl ((List.range n).map f) H) {i : Nat} (hi : i < n) : va_at D cl (f i) H := by
  obtain ⟨j, hj⟩ := List.getElem?_of_mem (List.mem_map.mpr ⟨i, List.mem_range.mpr hi, rfl⟩)
  exact h j _ hj
theorem gM0_of {c t : Nat} (h : gsh.getD c 0 = t) (k : Int) : gM0 (c : Int) k = gM0v t k := by
  unfold gM0
  rw [Int.toNat_natCast, h]
abbrev SA (V : gW) (H : Heap) (n : Nat) : Prop := va_at V.1 vwCl (gcell V gM0 n) H
def stV (V : gW) (base : Nat) : Prop := V.2.2.1 = fun c => base + c.toNat
theorem stV_at (hV : stV V base) (c : Nat) : V.2.2.1 (c : Int) = base + c := by rw [hV]; show base + (c : Int).toNat = _; rw [Int.toNat_natCast]
theorem stV_o (hV : stV V base) (c o : Nat) : V.2.2.1 ((c : Int) + (o : Int)) = base + c + o := by rw [hV]; show base + ((c : Int) + (o : Int)).toNat = _; omega
theorem st_c (hV : stV V base) {c t : Nat} {x : va_E} (hc : gsh.getD c 0 = t) (h : va_at V.1 vwCl (base + c, x) H) (e : x = gcV V.2.1 t (fun k => g32 (gM0 (c : Int) (k : Int))) (grB V.2.2.1 t (c : Int))) : SA V H c := by
  show va_at V.1 vwCl (V.2.2.1 (c : Int), gcV V.2.1 (gsh.getD c 0) (fun k => g32 (gM0 (c : Int) (k : Int))) (grB V.2.2.1 (gsh.getD c 0) (c : Int))) H
  rw [hc, stV_at hV, ← e]
  exact h
theorem st_ci (hV : stV V base) {c t n kd : Nat} {f : Nat → Int32} (hc : gsh.getD c 0 = t) (h : va_at V.1 vwCl (base + c, .inl (V.2.1 kd, n, .inl f)) H) (he : ∀ f r, gcV V.2.1 t f r = .inl (V.2.1 kd, n, .inl f)) (e : ∀ j : Nat, j < n → f j = g32 (gM0 (c : Int) (j : Int))) : SA V H c :=
  st_c hV hc (st_i h e) (by rw [he])
theorem st_cq (hV : stV V base) {c t n kd s : Nat} {f : Nat → Option Nat} (hc : gsh.getD c 0 = t) (h : va_at V.1 vwCl (base + c, .inl (V.2.1 kd, n, .inr (.inr (.inr (.inr f))))) H) (he : ∀ f r, gcV V.2.1 t f r = .inl (V.2.1 kd, n, .inr (.inr (.inr (.inr r))))) (ht : ¬ t < 11) (hs : gst t = (s : Int)) (e : ∀ j : Nat, j < n → f j = some (base + c + 1 + s * j)) : SA V H c := by
  refine st_c hV hc (st_q (g := grB V.2.2.1 t (c : Int)) h (fun j hj => ?_)) (by rw [he])
  unfold grB
  rw [if_neg ht, hs, e j hj, hV]
  have e1 : (s : Int) * (j : Int) = ((s * j : Nat) : Int) := (Int.natCast_mul ..).symm
  show some (base + c + 1 + s * j) = some (base + ((c : Int) + 1 + (s : Int) * (j : Int)).toNat)
  rw [e1]
  congr 1
  omega
theorem g32_00 : g32 0 = 0 := by decide +kernel
theorem st_z (hV : stV V base) {c t n : Nat} (hc : gsh.getD c 0 = t) (h : va_at V.1 vwCl (aI V (base + c) n) H) (he : ∀ f r, gcV V.2.1 t f r = .inl (V.2.1 1, n, .inl f)) (hz : ∀ k : Int, gM0 (c : Int) k = 0) : SA V H c :=
  st_ci hV hc h he (fun j _ => by rw [hz, g32_00])
theorem st_zz (hV : stV V base) {c t n : Nat} (hc : gsh.getD c 0 = t) (h : va_at V.1 vwCl (aZ V (base + c) n) H) (he : ∀ f r, gcV V.2.1 t f r = .inl (V.2.1 2, n, .inl f)) (hz : ∀ k : Int, gM0 (c : Int) k = 0) : SA V H c :=
  st_ci hV hc h he (fun j _ => by rw [hz, g32_00])
theorem st_rf (hV : stV V base) {t c k : Nat} (ht : t < 11) {o : Nat} (ho : goff t k = (o : Int)) : va_rf (grB V.2.2.1 t (c : Int) k) = .ref (base + c + o) := by
  unfold grB
  rw [if_pos ht, ho, stV_o hV]
  rfl
theorem st_net (hV : stV V base) {c : Nat} (hc : gsh.getD c 0 = 1 ∧ gsh.getD (c + 1) 0 = 10144 ∧ gsh.getD (c + 2) 0 = 10012) (h : va_P V.1 vwCl (netW V (base + c)) H) : SA V H c ∧ SA V H (c + 1) ∧ SA V H (c + 2) := by
  refine ⟨st_c hV hc.1 (h 0 _ rfl) ?_, st_z hV hc.2.1 (h 1 _ rfl) (fun _ _ => rfl) (fun k => gM0_of hc.2.1 k), st_z hV hc.2.2 (h 2 _ rfl) (fun _ _ => rfl) (fun k => gM0_of hc.2.2 k)⟩
  have e0 : gM0 (c : Int) 0 = 2 := gM0_of hc.1 0
  have e1 : gM0 (c : Int) 1 = 0 := gM0_of hc.1 1
  have e2 : gM0 (c : Int) 2 = 1 := gM0_of hc.1 2
  have e3 : gM0 (c : Int) 3 = 1 := gM0_of hc.1 3
  show _ = Sum.inr (1, [Value.int (g32 (gM0 (c : Int) 0)), Value.int (g32 (gM0 (c : Int) 1)), Value.int (g32 (gM0 (c : Int) 2)), Value.int (g32 (gM0 (c : Int) 3)), va_rf (grB V.2.2.1 1 (c : Int) 4), va_rf (grB V.2.2.1 1 (c : Int) 5)])
  rw [e0, e1, e2, e3, st_rf hV (by decide) (o := 1) rfl, st_rf hV (by decide) (o := 2) rfl]
theorem st_note (hV : stV V base) {c : Nat} (hc : gsh.getD c 0 = 2 ∧ gsh.getD (c + 1) 0 = 10003 ∧ gsh.getD (c + 2) 0 = 10003 ∧ gsh.getD (c + 3) 0 = 10012) (h : va_P V.1 vwCl (noteW V (base + c)) H) : SA V H c ∧ SA V H (c + 1) ∧ SA V H (c + 2) ∧ SA V H (c + 3) := by
  refine ⟨st_c hV hc.1 (h 0 _ rfl) ?_, st_z hV hc.2.1 (h 1 _ rfl) (fun _ _ => rfl) (fun k => gM0_of hc.2.1 k), st_z hV hc.2.2.1 (h 2 _ rfl) (fun _ _ => rfl) (fun k => gM0_of hc.2.2.1 k), st_z hV hc.2.2.2 (h 3 _ rfl) (fun _ _ => rfl) (fun k => gM0_of hc.2.2.2 k)⟩
  have e0 : gM0 (c : Int) 0 = 0 := gM0_of hc.1 0
  have e1 : gM0 (c : Int) 1 = 0 := gM0_of hc.1 1
  show _ = Sum.inr (2, [Value.int (g32 (gM0 (c : Int) 0)), Value.int (g32 (gM0 (c : Int) 1)), va_rf (grB V.2.2.1 2 (c : Int) 2), va_rf (grB V.2.2.1 2 (c : Int) 3), va_rf (grB V.2.2.1 2 (c : Int) 4)])
  rw [e0, e1, st_rf hV (by decide) (o := 1) rfl, st_rf hV (by decide) (o := 2) rfl, st_rf hV (by decide) (o := 3) rfl]
theorem st_notes (hV : stV V base) {c : Nat} (hc0 : gsh.getD c 0 = 30012) (hc : ∀ i, i < 12 → gsh.getD (c + 1 + 4 * i) 0 = 2 ∧ gsh.getD (c + 1 + 4 * i + 1) 0 = 10003 ∧ gsh.getD (c + 1 + 4 * i + 2) 0 = 10003 ∧ gsh.getD (c + 1 + 4 * i + 3) 0 = 10012) (h : va_P V.1 vwCl (notesW V (base + c)) H) : ∀ n, c ≤ n → n < c + 49 → SA V H n := by
  intro n h1 h2
  by_cases h0 : n = c
  · subst h0
    exact st_cq hV (s := 4) hc0 (vP_h h) (fun _ _ => rfl) (by decide) rfl (fun j hj => by rw [if_pos hj])
  · have hi : (n - c - 1) / 4 < 12 := by omega
    have hq := vP_f (vP_t h) hi
    have hq2 : va_P V.1 vwCl (noteW V (base + (c + 1 + 4 * ((n - c - 1) / 4)))) H := by rw [show base + (c + 1 + 4 * ((n - c - 1) / 4)) = base + c + 1 + 4 * ((n - c - 1) / 4) by omega]; exact hq
    have hr := st_note hV (hc _ hi) hq2
    generalize hk : (n - c - 1) / 4 = k at hr hi
    have hm : n = c + 1 + 4 * k ∨ n = c + 1 + 4 * k + 1 ∨ n = c + 1 + 4 * k + 2 ∨ n = c + 1 + 4 * k + 3 := by omega
    rcases hm with rfl | rfl | rfl | rfl
    · exact hr.1
    · exact hr.2.1
    · exact hr.2.2.1
    · exact hr.2.2.2
theorem st_nets (hV : stV V base) {c : Nat} (hc : ∀ i, i < 8 → gsh.getD (c + 3 * i) 0 = 1 ∧ gsh.getD (c + 3 * i + 1) 0 = 10144 ∧ gsh.getD (c + 3 * i + 2) 0 = 10012) (h : va_P V.1 vwCl (netsW V (base + c) 8) H) : ∀ n, c ≤ n → n < c + 24 → SA V H n := by
  intro n h1 h2
  have hi : (n - c) / 3 < 8 := by omega
  have hq := vP_f h hi
  have hq2 : va_P V.1 vwCl (netW V (base + (c + 3 * ((n - c) / 3)))) H := by rw [show base + (c + 3 * ((n - c) / 3)) = base + c + 3 * ((n - c) / 3) by omega]; exact hq
  have hr := st_net hV (hc _ hi) hq2
  generalize hk : (n - c) / 3 = k at hr hi
  have hm : n = c + 3 * k ∨ n = c + 3 * k + 1 ∨ n = c + 3 * k + 2 := by omega
  rcases hm with rfl | rfl | rfl
  · exact hr.1
  · exact hr.2.1
  · exact hr.2.2
theorem st_far (hV : stV V base) {c : Nat} (hc : gsh.getD c 0 = 0 ∧ gsh.getD (c + 1) 0 = 60012 ∧ ∀ i, i < 12 → gsh.getD (c + 2 + i) 0 = 10012) (h : va_P V.1 vwCl (farW V (base + c)) H) : ∀ n, c ≤ n → n < c + 14 → SA V H n := by
  intro n h1 h2
  by_cases h0 : n = c
  · subst h0
    refine st_c hV hc.1 (vP_h h) ?_
    have e0 : gM0 (n : Int) 0 = 0 := gM0_of hc.1 0
    have e1 : gM0 (n : Int) 1 = 0 := gM0_of hc.1 1
    show _ = Sum.inr (0, [Value.int (g32 (gM0 (n : Int) 0)), Value.int (g32 (gM0 (n : Int) 1)), va_rf (grB V.2.2.1 0 (n : Int) 2)])
    rw [e0, e1, st_rf hV (by decide) (o := 1) rfl]
  · by_cases h3 : n = c + 1
    · subst h3
      exact st_cq hV (s := 1) hc.2.1 (vP_h (vP_t h)) (fun _ _ => rfl) (by decide) rfl (fun j hj => by rw [if_pos hj]; congr 1; omega)
    · obtain ⟨i, rfl⟩ : ∃ i, n = c + 2 + i := ⟨n - c - 2, by omega⟩
      have hq := vP_m (vP_t (vP_t h)) (i := i) (by omega)
      refine st_z hV (hc.2.2 i (by omega)) ?_ (fun _ _ => rfl) (fun k => gM0_of (hc.2.2 i (by omega)) k)
      rw [show base + (c + 2 + i) = base + c + 1 + 1 + i by omega]
      exact hq
theorem st_slot (hV : stV V base) {c : Nat} (hc : gsh.getD c 0 = 5) (hc1 : gsh.getD (c + 1) 0 = 1 ∧ gsh.getD (c + 1 + 1) 0 = 10144 ∧ gsh.getD (c + 1 + 2) 0 = 10012) (hc2 : gsh.getD (c + 4) 0 = 30012) (hc3 : ∀ i, i < 12 → gsh.getD (c + 4 + 1 + 4 * i) 0 = 2 ∧ gsh.getD (c + 4 + 1 + 4 * i + 1) 0 = 10003 ∧ gsh.getD (c + 4 + 1 + 4 * i + 2) 0 = 10003 ∧ gsh.getD (c + 4 + 1 + 4 * i + 3) 0 = 10012) (h : va_P V.1 vwCl (slotW V (base + c)) H) : ∀ n, c ≤ n → n < c + 53 → SA V H n := by
  intro n h1 h2
  by_cases h0 : n = c
  · subst h0
    refine st_c hV hc (vP_h h) ?_
    have e0 : gM0 (n : Int) 0 = 0 := gM0_of hc 0
    show _ = Sum.inr (5, [Value.int (g32 (gM0 (n : Int) 0)), va_rf (grB V.2.2.1 5 (n : Int) 1), va_rf (grB V.2.2.1 5 (n : Int) 2)])
    rw [e0, st_rf hV (by decide) (o := 1) rfl, st_rf hV (by decide) (o := 4) rfl]
  · have ht := vP_t h
    by_cases h3 : n < c + 4
    · have hr := st_net hV hc1 (vP_l ht)
      have hm : n = c + 1 ∨ n = c + 1 + 1 ∨ n = c + 1 + 2 := by omega
      rcases hm with rfl | rfl | rfl
      · exact hr.1
      · exact hr.2.1
      · exact hr.2.2
    · exact st_notes hV hc2 hc3 (vP_r ht) n (by omega) (by omega)
theorem st_row : ∀ j : Nat, j < 1727 → upd (fun _ => 0) 156 (g32 1) j = g32 (gM0 229 (j : Int)) := by
  intro j _
  by_cases h : j = 156
  · subst h
    decide +kernel
  · rw [pk_un h]
    have e : gM0 229 (j : Int) = 0 := by
      show (if (j : Int) = 156 then (1 : Int) else 0) = 0
      rw [if_neg (by omega)]
    rw [e]
    decide +kernel
theorem st_words : ∀ j : Nat, j < 15 → (upd (upd (upd (upd (upd (upd (upd (upd (upd (upd (upd (upd (upd (upd (upd (fun _ => 0) 0 (g32 110)) 1 (g32 101)) 2 (g32 116)) 3 (g32 0)) 4 (g32 0)) 5 (g32 108)) 6 (g32 105)) 7 (g32 110)) 8 (g32 107)) 9 (g32 0)) 10 (g32 108)) 11 (g32 101)) 12 (g32 118)) 13 (g32 101)) 14 (g32 108)) j = g32 (gM0 235 (j : Int)) := by decide +kernel
set_option maxRecDepth 100000 in
set_option maxHeartbeats 4000000 in
theorem st_all (hV : stV V base) (hP : va_P V.1 vwCl (bunchW V base ++ modelW V (base + 228)) H) : ∀ n : Nat, n < 240 → SA V H n := by
  have hB := vP_l hP
  have hM := vP_r hP
  unfold bunchW at hB
  unfold modelW at hM
  have h0 := vP_h hB
  have t1 := vP_t hB
  have p13 := vP_r t1
  have t12 := vP_l t1
  have p12 := vP_r t12
  have t11 := vP_l t12
  have p11 := vP_r t11
  have t10 := vP_l t11
  have p10 := vP_r t10
  have t9 := vP_l t10
  have p9 := vP_r t9
  have t8 := vP_l t9
  have p8 := vP_r t8
  have t7 := vP_l t8
  have p7 := vP_r t7
  have t6 := vP_l t7
  have p6 := vP_r t6
  have t5 := vP_l t6
  have p5 := vP_r t5
  have t4 := vP_l t5
  have p4 := vP_r t4
  have t3 := vP_l t4
  have p3 := vP_r t3
  have t2 := vP_l t3
  have p2 := vP_r t2
  have p1 := vP_l t2
  have n1 := st_net hV (c := 1) (by decide +kernel) p1
  have n2 := st_net hV (c := 4) (by decide +kernel) p2
  have n5 := st_notes hV (c := 35) (by decide +kernel) (by decide +kernel) p5
  have n6 := st_note hV (c := 84) (by decide +kernel) p6
  have n8 := st_slot hV (c := 89) (by decide +kernel) (by decide +kernel) (by decide +kernel) (by decide +kernel) p8
  have n9 := st_slot hV (c := 142) (by decide +kernel) (by decide +kernel) (by decide +kernel) (by decide +kernel) p9
  have n10 := st_far hV (c := 195) (by decide +kernel) p10
  have n4 := st_nets hV (c := 11) (by decide +kernel) (vP_t (vP_t p4))
  have n11 := st_far hV (c := 210) (by decide +kernel) (vP_l (vP_l (vP_t p11)))
  intro n hn
  by_cases q1 : 11 ≤ n ∧ n < 35
  · exact n4 n q1.1 (by omega)
  by_cases q2 : 35 ≤ n ∧ n < 84
  · exact n5 n q2.1 (by omega)
  by_cases q3 : 89 ≤ n ∧ n < 142
  · exact n8 n q3.1 (by omega)
  by_cases q4 : 142 ≤ n ∧ n < 195
  · exact n9 n q4.1 (by omega)
  by_cases q5 : 195 ≤ n ∧ n < 209
  · exact n10 n q5.1 (by omega)
  by_cases q6 : 210 ≤ n ∧ n < 224
  · exact n11 n q6.1 (by omega)
  have hm : n = 0 ∨ n = 1 ∨ n = 2 ∨ n = 3 ∨ n = 4 ∨ n = 5 ∨ n = 6 ∨ n = 7 ∨ n = 8 ∨ n = 9 ∨ n = 10 ∨ n = 84 ∨ n = 85 ∨ n = 86 ∨ n = 87 ∨ n = 88 ∨ n = 209 ∨ n = 224 ∨ n = 225 ∨ n = 226 ∨ n = 227 ∨ n = 228 ∨ n = 229 ∨ n = 230 ∨ n = 231 ∨ n = 232 ∨ n = 233 ∨ n = 234 ∨ n = 235 ∨ n = 236 ∨ n = 237 ∨ n = 238 ∨ n = 239 := by omega
  have hob : ∀ {c t : Nat} {x : va_E}, gsh.getD c 0 = t → va_at V.1 vwCl (base + c, x) H → x = gcV V.2.1 t (fun k => g32 (gM0 (c : Int) (k : Int))) (grB V.2.2.1 t (c : Int)) → SA V H c := fun hc h e => st_c hV hc h e
  rcases hm with rfl | rfl | rfl | rfl | rfl | rfl | rfl | rfl | rfl | rfl | rfl | rfl | rfl | rfl | rfl | rfl | rfl | rfl | rfl | rfl | rfl | rfl | rfl | rfl | rfl | rfl | rfl | rfl | rfl | rfl | rfl | rfl | rfl
  · refine st_c hV (t := 9) (by decide +kernel) (c := 0) h0 ?_
    show _ = Sum.inr (9, [va_rf (grB V.2.2.1 9 (0 : Nat) 0), va_rf (grB V.2.2.1 9 (0 : Nat) 1), va_rf (grB V.2.2.1 9 (0 : Nat) 2), va_rf (grB V.2.2.1 9 (0 : Nat) 3), va_rf (grB V.2.2.1 9 (0 : Nat) 4), va_rf (grB V.2.2.1 9 (0 : Nat) 5), va_rf (grB V.2.2.1 9 (0 : Nat) 6), va_rf (grB V.2.2.1 9 (0 : Nat) 7), va_rf (grB V.2.2.1 9 (0 : Nat) 8), va_rf (grB V.2.2.1 9 (0 : Nat) 9), va_rf (grB V.2.2.1 9 (0 : Nat) 10)])
    rw [st_rf hV (by decide) (o := 1) rfl, st_rf hV (by decide) (o := 4) rfl, st_rf hV (by decide) (o := 7) rfl, st_rf hV (by decide) (o := 9) rfl, st_rf hV (by decide) (o := 35) rfl, st_rf hV (by decide) (o := 84) rfl, st_rf hV (by decide) (o := 88) rfl, st_rf hV (by decide) (o := 195) rfl, st_rf hV (by decide) (o := 209) rfl, st_rf hV (by decide) (o := 226) rfl, st_rf hV (by decide) (o := 227) rfl]
    try rfl
  · exact n1.1
  · exact n1.2.1
  · exact n1.2.2
  · exact n2.1
  · exact n2.2.1
  · exact n2.2.2
  · refine st_c hV (t := 7) (by decide +kernel) (c := 7) (p3 0 _ rfl) ?_
    show _ = Sum.inr (7, [Value.int (g32 (gM0 (7 : Nat) 0)), Value.int (g32 (gM0 (7 : Nat) 1)), Value.int (g32 (gM0 (7 : Nat) 2)), Value.int (g32 (gM0 (7 : Nat) 3)), Value.int (g32 (gM0 (7 : Nat) 4)), Value.int (g32 (gM0 (7 : Nat) 5)), va_rf (grB V.2.2.1 7 (7 : Nat) 6)])
    rw [st_rf hV (by decide) (o := 1) rfl]
    rfl
  · exact st_z hV (t := 10200) (c := 8) (by decide +kernel) (p3 1 _ rfl) (fun _ _ => rfl) (fun _ => rfl)
  · refine st_c hV (t := 3) (by decide +kernel) (c := 9) (vP_h p4) ?_
    show _ = Sum.inr (3, [Value.int (g32 (gM0 (9 : Nat) 0)), Value.int (g32 (gM0 (9 : Nat) 1)), va_rf (grB V.2.2.1 3 (9 : Nat) 2)])
    rw [st_rf hV (by decide) (o := 1) rfl]
    rfl
  · exact st_cq hV (s := 3) (t := 40008) (c := 10) (by decide +kernel) (vP_h (vP_t p4)) (fun _ _ => rfl) (by decide) rfl (fun j hj => by rw [if_pos hj])
  · exact n6.1
  · exact n6.2.1
  · exact n6.2.2.1
  · exact n6.2.2.2
  · exact st_cq hV (s := 53) (t := 50002) (c := 88) (by decide +kernel) (vP_h p7) (fun _ _ => rfl) (by decide) rfl (fun j hj => by
      match j, hj with
      | 0, _ => rfl
      | 1, _ => rfl
      | j + 2, h => exact absurd h (by omega))
  · refine st_c hV (t := 8) (by decide +kernel) (c := 209) (vP_h p11) ?_
    show _ = Sum.inr (8, [Value.int (g32 (gM0 (209 : Nat) 0)), va_rf (grB V.2.2.1 8 (209 : Nat) 1), Value.int (g32 (gM0 (209 : Nat) 2)), Value.int (g32 (gM0 (209 : Nat) 3)), Value.int (g32 (gM0 (209 : Nat) 4)), va_rf (grB V.2.2.1 8 (209 : Nat) 5), va_rf (grB V.2.2.1 8 (209 : Nat) 6)])
    rw [st_rf hV (by decide) (o := 1) rfl, st_rf hV (by decide) (o := 15) rfl, st_rf hV (by decide) (o := 16) rfl]
    rfl
  · exact st_z hV (t := 10030) (c := 224) (by decide +kernel) (vP_h (vP_r (vP_l (vP_t p11)))) (fun _ _ => rfl) (fun _ => rfl)
  · exact st_z hV (t := 10012) (c := 225) (by decide +kernel) (vP_h (vP_r (vP_t p11))) (fun _ _ => rfl) (fun _ => rfl)
  · exact st_c hV (t := 6) (by decide +kernel) (c := 226) (vP_h p12) rfl
  · exact st_c hV (t := 4) (by decide +kernel) (c := 227) (vP_h p13) rfl
  · refine st_c hV (t := 10) (by decide +kernel) (c := 228) (vP_h hM) ?_
    show _ = Sum.inr (10, [va_rf (grB V.2.2.1 10 (228 : Nat) 0), Value.int (g32 (gM0 (228 : Nat) 1)), Value.int (g32 (gM0 (228 : Nat) 2)), va_rf (grB V.2.2.1 10 (228 : Nat) 3), va_rf (grB V.2.2.1 10 (228 : Nat) 4), va_rf (grB V.2.2.1 10 (228 : Nat) 5), Value.int (g32 (gM0 (228 : Nat) 6)), Value.int (g32 (gM0 (228 : Nat) 7)), Value.int (g32 (gM0 (228 : Nat) 8)), Value.int (g32 (gM0 (228 : Nat) 9)), va_rf (grB V.2.2.1 10 (228 : Nat) 10), Value.int (g32 (gM0 (228 : Nat) 11)), Value.int (g32 (gM0 (228 : Nat) 12)), Value.int (g32 (gM0 (228 : Nat) 13)), va_rf (grB V.2.2.1 10 (228 : Nat) 14), va_rf (grB V.2.2.1 10 (228 : Nat) 15), va_rf (grB V.2.2.1 10 (228 : Nat) 16), va_rf (grB V.2.2.1 10 (228 : Nat) 17), va_rf (grB V.2.2.1 10 (228 : Nat) 18), va_rf (grB V.2.2.1 10 (228 : Nat) 19), Value.int (g32 (gM0 (228 : Nat) 20)), Value.int (g32 (gM0 (228 : Nat) 21)), Value.int (g32 (gM0 (228 : Nat) 22)), Value.int (g32 (gM0 (228 : Nat) 23)), Value.int (g32 (gM0 (228 : Nat) 24))])
    rw [st_rf hV (by decide) (o := 1) rfl, st_rf hV (by decide) (o := 2) rfl, st_rf hV (by decide) (o := 3) rfl, st_rf hV (by decide) (o := 4) rfl, st_rf hV (by decide) (o := 5) rfl, st_rf hV (by decide) (o := 6) rfl, st_rf hV (by decide) (o := 7) rfl, st_rf hV (by decide) (o := 8) rfl, st_rf hV (by decide) (o := 9) rfl, st_rf hV (by decide) (o := 10) rfl, st_rf hV (by decide) (o := 11) rfl]
    rfl
  · exact st_ci hV (t := 11727) (c := 229) (by decide +kernel) (vP_h (vP_l (vP_l (vP_l (vP_l (vP_l (vP_l (vP_l (vP_l (vP_l (vP_l (vP_t hM)))))))))))) (fun _ _ => rfl) st_row
  · exact st_z hV (t := 10720) (c := 230) (by decide +kernel) (vP_h (vP_r (vP_l (vP_l (vP_l (vP_l (vP_l (vP_l (vP_l (vP_l (vP_l (vP_t hM)))))))))))) (fun _ _ => rfl) (fun _ => rfl)
  · exact st_zz hV (t := 20002) (c := 231) (by decide +kernel) (vP_h (vP_r (vP_l (vP_l (vP_l (vP_l (vP_l (vP_l (vP_l (vP_l (vP_t hM))))))))))) (fun _ _ => rfl) (fun _ => rfl)
  · exact st_z hV (t := 10200) (c := 232) (by decide +kernel) (vP_h (vP_r (vP_l (vP_l (vP_l (vP_l (vP_l (vP_l (vP_l (vP_t hM)))))))))) (fun _ _ => rfl) (fun _ => rfl)
  · exact st_zz hV (t := 20144) (c := 233) (by decide +kernel) (vP_h (vP_r (vP_l (vP_l (vP_l (vP_l (vP_l (vP_l (vP_t hM))))))))) (fun _ _ => rfl) (fun _ => rfl)
  · exact st_z hV (t := 10003) (c := 234) (by decide +kernel) (vP_h (vP_r (vP_l (vP_l (vP_l (vP_l (vP_l (vP_t hM)))))))) (fun _ _ => rfl) (fun _ => rfl)
  · exact st_ci hV (t := 10015) (c := 235) (by decide +kernel) (vP_h (vP_r (vP_l (vP_l (vP_l (vP_l (vP_t hM))))))) (fun _ _ => rfl) st_words
  · exact st_z hV (t := 10144) (c := 236) (by decide +kernel) (vP_h (vP_r (vP_l (vP_l (vP_l (vP_t hM)))))) (fun _ _ => rfl) (fun _ => rfl)
  · exact st_zz hV (t := 20144) (c := 237) (by decide +kernel) (vP_h (vP_r (vP_l (vP_l (vP_t hM))))) (fun _ _ => rfl) (fun _ => rfl)
  · exact st_z hV (t := 10144) (c := 238) (by decide +kernel) (vP_h (vP_r (vP_l (vP_t hM)))) (fun _ _ => rfl) (fun _ => rfl)
  · exact st_z hV (t := 10020) (c := 239) (by decide +kernel) (vP_h (vP_r (vP_t hM))) (fun _ _ => rfl) (fun _ => rfl)
theorem st_world (had : stV V base) (hP : va_P V.1 vwCl (bunchW V base ++ modelW V (base + 228)) H) : va_P V.1 vwCl (gws V gM0) H := by
  intro k q hk
  unfold gws at hk
  rw [List.getElem?_map] at hk
  obtain ⟨n, hn, rfl⟩ := Option.map_eq_some_iff.mp hk
  exact st_all had hP n (List.mem_range.mp (List.mem_of_getElem? hn))
theorem st_D (had : V.2.2.1 = fun c => base + c.toNat) (hA : gvA V = aA base) : gD V := by
  intro M
  have hx : ∀ (i : Nat) (q : Nat × va_E), (gws V M)[i]? = some q → q.1 = base + i := by
    intro i q hi
    unfold gws at hi
    rw [List.getElem?_map] at hi
    obtain ⟨n, hn, rfl⟩ := Option.map_eq_some_iff.mp hi
    obtain ⟨h1, h2⟩ := List.getElem?_eq_some_iff.mp hn
    rw [List.getElem_range] at h2
    subst h2
    show V.2.2.1 (i : Int) = base + i
    rw [had]
    show base + (i : Int).toNat = base + i
    rw [Int.toNat_natCast]
  rw [hA]
  exact ⟨fun i j p q hi hj e => by have h1 := hx i p hi; have h2 := hx j q hj; omega, fun k q hk => by have h1 := hx k q hk; show base ≤ q.1; omega⟩
end ST
