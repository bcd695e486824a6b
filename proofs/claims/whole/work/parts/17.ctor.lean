/-! the cells that each constructor leaves -/
abbrev aI (V : gW) (a n : Nat) : Nat × va_E := (a, .inl (V.2.1 1, n, .inl (fun _ => 0)))
abbrev aZ (V : gW) (a n : Nat) : Nat × va_E := (a, .inl (V.2.1 2, n, .inl (fun _ => 0)))
abbrev aQ (V : gW) (kd a n b s : Nat) : Nat × va_E := (a, .inl (V.2.1 kd, n, .inr (.inr (.inr (.inr (fun i => if i < n then some (b + s * i) else none))))))
def netW (V : gW) (a : Nat) : va_W := [(a, .inr (1, [.int (g32 2), .int (g32 0), .int (g32 1), .int (g32 1), .ref (a + 1), .ref (a + 2)])), aI V (a + 1) 144, aI V (a + 2) 12]
def noteW (V : gW) (a : Nat) : va_W := [(a, .inr (2, [.int (g32 0), .int (g32 0), .ref (a + 1), .ref (a + 2), .ref (a + 3)])), aI V (a + 1) 3, aI V (a + 2) 3, aI V (a + 3) 12]
def textW (V : gW) (a : Nat) : va_W := [(a, .inr (7, [.int (g32 0), .int (g32 0), .int (g32 0), .int (g32 0), .int (g32 0), .int (g32 0), .ref (a + 1)])), aI V (a + 1) 200]
def netsW (V : gW) (a n : Nat) : va_W := (List.range n).flatMap (fun i => netW V (a + 3 * i))
def notesL (V : gW) (a n : Nat) : va_W := (List.range n).flatMap (fun i => noteW V (a + 4 * i))
def pastW (V : gW) (a : Nat) : va_W := (a, .inr (3, [.int (g32 0), .int (g32 0), .ref (a + 1)])) :: aQ V 4 (a + 1) 8 (a + 2) 3 :: netsW V (a + 2) 8
def notesW (V : gW) (a : Nat) : va_W := aQ V 3 a 12 (a + 1) 4 :: notesL V (a + 1) 12
def rowsW (V : gW) (a : Nat) : va_W := (List.range 12).map (fun i => aI V (a + i) 12)
def farW (V : gW) (a : Nat) : va_W := (a, .inr (0, [.int (g32 0), .int (g32 0), .ref (a + 1)])) :: (a + 1, .inl (V.2.1 6, 12, .inr (.inr (.inr (.inr (fun i => if i < 12 then some (a + 1 + 1 + i) else none)))))) :: rowsW V (a + 1 + 1)
def slotW (V : gW) (a : Nat) : va_W := (a, .inr (5, [.int (g32 0), .ref (a + 1), .ref (a + 4)])) :: (netW V (a + 1) ++ notesW V (a + 4))
def thinW (V : gW) (a : Nat) : va_W := (a, .inr (8, [.int (g32 0), .ref (a + 1), .int (g32 0), .int (g32 0), .int (g32 0), .ref (a + 15), .ref (a + 16)])) :: (farW V (a + 1) ++ [aI V (a + 15) 30] ++ [aI V (a + 16) 12])
def tellW (a : Nat) : va_W := [(a, .inr (6, [.int (g32 0), .int (g32 0), .int (g32 0), .int (g32 0), .int (g32 0)]))]
def peakW (a : Nat) : va_W := [(a, .inr (4, [.int (g32 0), .int (g32 0), .int (g32 0), .int (g32 0), .int (g32 0)]))]
theorem netsW_s (V : gW) (a n : Nat) : netsW V a (n + 1) = netsW V a n ++ netW V (a + 3 * n) := by unfold netsW; rw [List.range_succ, List.flatMap_append]; simp
theorem notesL_s (V : gW) (a n : Nat) : notesL V a (n + 1) = notesL V a n ++ noteW V (a + 4 * n) := by unfold notesL; rw [List.range_succ, List.flatMap_append]; simp
theorem netsW_n (V : gW) (a n : Nat) : (netsW V a n).length = 3 * n := by
  induction n with
  | zero => rfl
  | succ n ih => rw [netsW_s, List.length_append, ih]; show 3 * n + 3 = _; omega
theorem notesL_n (V : gW) (a n : Nat) : (notesL V a n).length = 4 * n := by
  induction n with
  | zero => rfl
  | succ n ih => rw [notesL_s, List.length_append, ih]; show 4 * n + 4 = _; omega
theorem aQ_up (n b s i : Nat) (h : i < n) : va_up (fun k => if k < i then some (b + s * k) else none) i (some (b + s * i)) = fun k => if k < i + 1 then some (b + s * k) else none := by
  funext k
  unfold va_up
  by_cases h1 : k = i
  · subst h1; rw [if_pos rfl, if_pos (by omega)]
  · rw [if_neg h1]
    show (if k < i then some (b + s * k) else none) = _
    by_cases h2 : k < i
    · rw [if_pos h2, if_pos (by omega)]
    · rw [if_neg h2, if_neg (by omega)]
abbrev abl_0 : List Value := [.int (g32 0), .int (g32 0), .null]
theorem abl_0_ok : ∀ j, j < 3 → defaultValue (tyX0 j) = vp_V abl_0 j := by
  intro j hj
  match j, hj with
  | 0, _ => rfl
  | 1, _ => rfl
  | 2, _ => rfl
  | j + 3, h => exact absurd h (by omega)
abbrev abl_1 : List Value := [.int (g32 0), .int (g32 0), .int (g32 0), .int (g32 0), .null, .null]
theorem abl_1_ok : ∀ j, j < 6 → defaultValue (tyX1 j) = vp_V abl_1 j := by
  intro j hj
  match j, hj with
  | 0, _ => rfl
  | 1, _ => rfl
  | 2, _ => rfl
  | 3, _ => rfl
  | 4, _ => rfl
  | 5, _ => rfl
  | j + 6, h => exact absurd h (by omega)
abbrev abl_2 : List Value := [.int (g32 0), .int (g32 0), .null, .null, .null]
theorem abl_2_ok : ∀ j, j < 5 → defaultValue (tyX2 j) = vp_V abl_2 j := by
  intro j hj
  match j, hj with
  | 0, _ => rfl
  | 1, _ => rfl
  | 2, _ => rfl
  | 3, _ => rfl
  | 4, _ => rfl
  | j + 5, h => exact absurd h (by omega)
abbrev abl_3 : List Value := [.int (g32 0), .int (g32 0), .null]
theorem abl_3_ok : ∀ j, j < 3 → defaultValue (tyX3 j) = vp_V abl_3 j := by
  intro j hj
  match j, hj with
  | 0, _ => rfl
  | 1, _ => rfl
  | 2, _ => rfl
  | j + 3, h => exact absurd h (by omega)
abbrev abl_4 : List Value := [.int (g32 0), .int (g32 0), .int (g32 0), .int (g32 0), .int (g32 0)]
theorem abl_4_ok : ∀ j, j < 5 → defaultValue (tyX4 j) = vp_V abl_4 j := by
  intro j hj
  match j, hj with
  | 0, _ => rfl
  | 1, _ => rfl
  | 2, _ => rfl
  | 3, _ => rfl
  | 4, _ => rfl
  | j + 5, h => exact absurd h (by omega)
abbrev abl_5 : List Value := [.int (g32 0), .null, .null]
theorem abl_5_ok : ∀ j, j < 3 → defaultValue (tyX5 j) = vp_V abl_5 j := by
  intro j hj
  match j, hj with
  | 0, _ => rfl
  | 1, _ => rfl
  | 2, _ => rfl
  | j + 3, h => exact absurd h (by omega)
abbrev abl_6 : List Value := [.int (g32 0), .int (g32 0), .int (g32 0), .int (g32 0), .int (g32 0)]
theorem abl_6_ok : ∀ j, j < 5 → defaultValue (tyX6 j) = vp_V abl_6 j := by
  intro j hj
  match j, hj with
  | 0, _ => rfl
  | 1, _ => rfl
  | 2, _ => rfl
  | 3, _ => rfl
  | 4, _ => rfl
  | j + 5, h => exact absurd h (by omega)
abbrev abl_7 : List Value := [.int (g32 0), .int (g32 0), .int (g32 0), .int (g32 0), .int (g32 0), .int (g32 0), .null]
theorem abl_7_ok : ∀ j, j < 7 → defaultValue (tyX7 j) = vp_V abl_7 j := by
  intro j hj
  match j, hj with
  | 0, _ => rfl
  | 1, _ => rfl
  | 2, _ => rfl
  | 3, _ => rfl
  | 4, _ => rfl
  | 5, _ => rfl
  | 6, _ => rfl
  | j + 7, h => exact absurd h (by omega)
abbrev abl_8 : List Value := [.int (g32 0), .null, .int (g32 0), .int (g32 0), .int (g32 0), .null, .null]
theorem abl_8_ok : ∀ j, j < 7 → defaultValue (tyX8 j) = vp_V abl_8 j := by
  intro j hj
  match j, hj with
  | 0, _ => rfl
  | 1, _ => rfl
  | 2, _ => rfl
  | 3, _ => rfl
  | 4, _ => rfl
  | 5, _ => rfl
  | 6, _ => rfl
  | j + 7, h => exact absurd h (by omega)
abbrev abl_9 : List Value := [.null, .null, .null, .null, .null, .null, .null, .null, .null, .null, .null]
theorem abl_9_ok : ∀ j, j < 11 → defaultValue (tyX9 j) = vp_V abl_9 j := by
  intro j hj
  match j, hj with
  | 0, _ => rfl
  | 1, _ => rfl
  | 2, _ => rfl
  | 3, _ => rfl
  | 4, _ => rfl
  | 5, _ => rfl
  | 6, _ => rfl
  | 7, _ => rfl
  | 8, _ => rfl
  | 9, _ => rfl
  | 10, _ => rfl
  | j + 11, h => exact absurd h (by omega)
abbrev abl_10 : List Value := [.null, .int (g32 0), .int (g32 0), .null, .null, .null, .int (g32 0), .int (g32 0), .int (g32 0), .int (g32 0), .null, .int (g32 0), .int (g32 0), .int (g32 0), .null, .null, .null, .null, .null, .null, .int (g32 0), .int (g32 0), .int (g32 0), .int (g32 0), .int (g32 0)]
theorem abl_10_ok : ∀ j, j < 25 → defaultValue (tyX10 j) = vp_V abl_10 j := by
  intro j hj
  match j, hj with
  | 0, _ => rfl
  | 1, _ => rfl
  | 2, _ => rfl
  | 3, _ => rfl
  | 4, _ => rfl
  | 5, _ => rfl
  | 6, _ => rfl
  | 7, _ => rfl
  | 8, _ => rfl
  | 9, _ => rfl
  | 10, _ => rfl
  | 11, _ => rfl
  | 12, _ => rfl
  | 13, _ => rfl
  | 14, _ => rfl
  | 15, _ => rfl
  | 16, _ => rfl
  | 17, _ => rfl
  | 18, _ => rfl
  | 19, _ => rfl
  | 20, _ => rfl
  | 21, _ => rfl
  | 22, _ => rfl
  | 23, _ => rfl
  | 24, _ => rfl
  | j + 25, h => exact absurd h (by omega)
set_option maxRecDepth 100000 in
set_option maxHeartbeats 4000000 in
theorem kX4_init (l : Launch) (V : gW) (base : Nat) (pre : va_W) (a : Nat) (ha : a = base + pre.length) : aMv l V base yX4_init cX4_init 1 1 40 0 0 [.ref a] (pre ++ [(a, .inr (4, abl_4))]) (pre ++ peakW a) := by
  refine Met.ofW (cc := cX4_init) (maxL := 1) (ret := none) (by decide) rfl ?_
  intro p e s m args below meth c s₁ B hml hv
  obtain ⟨rfl, hP, hK, hE, hb0⟩ := hv
  have hts0 := atoms_spec (ws := gws' yX4_init cX4_init 1 none) B.pre
  have C : aC p (headSpec (gws' yX4_init cX4_init 1 none) { frames := 1, cells := 0, slots := 0, locals := 40 }).room s m ([.ref a] : List Value).toArray c V base cX4_init 1 "BunchNotes$Peak" 1 40 0 0 := ⟨B.exec, B.bytes, hml, findClass_of_methodNamed B.named, fun w hw => hts0 w (List.mem_cons_of_mem _ hw), hK, hE, hb0, rfl, rfl, rfl, rfl⟩
  have hr := B.returns
  have hlocks := B.notSynchronized
  have hin : meth.name = "<init>" := (name_of_methodNamed B.named B.method).1
  have hS : va_S (aA base) s.heap s.heap [] := va_S.rf
  have hl := lv_entry ([.ref a]) (n := 1) (Nat.le_of_ble_eq_true rfl)
  rw [lg_entry_eq]
  generalize (lg_sl ([.ref a]) ++ List.replicate (1 - (lg_sl ([.ref a])).length) Slot.unset).toArray = ls at hl ⊢
  have hl : lv_has ls 1 [(0, .ref a)] := hl
  refine lv_aload_n C.1 C.2.1 dX4_init_0 rfl (lv_at hl 0 rfl) ?_
  refine a_obj (b := a) C wd_316 (by decide) (Nat.le_of_ble_eq_true rfl) hl.1 dX4_init_1 ?_
  refine W.widen (k := 0) (n := 0) (Nat.le_of_ble_eq_true rfl) (Nat.le_of_ble_eq_true rfl) ?_
  exact W.vret C.1 C.2.1 hr (fun t ht hW => ⟨⟨(), rfl, trivial, by show aS V.1 base _ t.heap; rw [ht]; exact hP⟩, hS.F ht⟩) hS.2.2 dX4_init_4

set_option maxRecDepth 100000 in
set_option maxHeartbeats 4000000 in
theorem kX6_init (l : Launch) (V : gW) (base : Nat) (pre : va_W) (a : Nat) (ha : a = base + pre.length) : aMv l V base yX6_init cX6_init 1 1 40 0 0 [.ref a] (pre ++ [(a, .inr (6, abl_6))]) (pre ++ tellW a) := by
  refine Met.ofW (cc := cX6_init) (maxL := 1) (ret := none) (by decide) rfl ?_
  intro p e s m args below meth c s₁ B hml hv
  obtain ⟨rfl, hP, hK, hE, hb0⟩ := hv
  have hts0 := atoms_spec (ws := gws' yX6_init cX6_init 1 none) B.pre
  have C : aC p (headSpec (gws' yX6_init cX6_init 1 none) { frames := 1, cells := 0, slots := 0, locals := 40 }).room s m ([.ref a] : List Value).toArray c V base cX6_init 1 "BunchNotes$Telling" 1 40 0 0 := ⟨B.exec, B.bytes, hml, findClass_of_methodNamed B.named, fun w hw => hts0 w (List.mem_cons_of_mem _ hw), hK, hE, hb0, rfl, rfl, rfl, rfl⟩
  have hr := B.returns
  have hlocks := B.notSynchronized
  have hin : meth.name = "<init>" := (name_of_methodNamed B.named B.method).1
  have hS : va_S (aA base) s.heap s.heap [] := va_S.rf
  have hl := lv_entry ([.ref a]) (n := 1) (Nat.le_of_ble_eq_true rfl)
  rw [lg_entry_eq]
  generalize (lg_sl ([.ref a]) ++ List.replicate (1 - (lg_sl ([.ref a])).length) Slot.unset).toArray = ls at hl ⊢
  have hl : lv_has ls 1 [(0, .ref a)] := hl
  refine lv_aload_n C.1 C.2.1 dX6_init_0 rfl (lv_at hl 0 rfl) ?_
  refine a_obj (b := a) C wd_289 (by decide) (Nat.le_of_ble_eq_true rfl) hl.1 dX6_init_1 ?_
  refine W.widen (k := 0) (n := 0) (Nat.le_of_ble_eq_true rfl) (Nat.le_of_ble_eq_true rfl) ?_
  exact W.vret C.1 C.2.1 hr (fun t ht hW => ⟨⟨(), rfl, trivial, by show aS V.1 base _ t.heap; rw [ht]; exact hP⟩, hS.F ht⟩) hS.2.2 dX6_init_4

set_option maxRecDepth 100000 in
set_option maxHeartbeats 4000000 in
theorem kX7_init (l : Launch) (V : gW) (base : Nat) (pre : va_W) (a : Nat) (ha : a = base + pre.length) : aMv l V base yX7_init cX7_init 1 1 40 1 200 [.ref a] (pre ++ [(a, .inr (7, abl_7))]) (pre ++ textW V a) := by
  refine Met.ofW (cc := cX7_init) (maxL := 1) (ret := none) (by decide) rfl ?_
  intro p e s m args below meth c s₁ B hml hv
  obtain ⟨rfl, hP, hK, hE, hb0⟩ := hv
  have hts0 := atoms_spec (ws := gws' yX7_init cX7_init 1 none) B.pre
  have C : aC p (headSpec (gws' yX7_init cX7_init 1 none) { frames := 1, cells := 1, slots := 200, locals := 40 }).room s m ([.ref a] : List Value).toArray c V base cX7_init 1 "BunchNotes$Text" 1 40 1 200 := ⟨B.exec, B.bytes, hml, findClass_of_methodNamed B.named, fun w hw => hts0 w (List.mem_cons_of_mem _ hw), hK, hE, hb0, rfl, rfl, rfl, rfl⟩
  have hr := B.returns
  have hlocks := B.notSynchronized
  have hin : meth.name = "<init>" := (name_of_methodNamed B.named B.method).1
  have hS : va_S (aA base) s.heap s.heap [] := va_S.rf
  have hl := lv_entry ([.ref a]) (n := 1) (Nat.le_of_ble_eq_true rfl)
  rw [lg_entry_eq]
  generalize (lg_sl ([.ref a]) ++ List.replicate (1 - (lg_sl ([.ref a])).length) Slot.unset).toArray = ls at hl ⊢
  have hl : lv_has ls 1 [(0, .ref a)] := hl
  refine lv_aload_n C.1 C.2.1 dX7_init_0 rfl (lv_at hl 0 rfl) ?_
  refine a_obj (b := a) C wd_137 (by decide) (Nat.le_of_ble_eq_true rfl) hl.1 dX7_init_1 ?_
  refine lv_aload_n C.1 C.2.1 dX7_init_4 rfl (lv_at hl 0 rfl) ?_
  refine lv_sipush (v := g32 200) C.1 C.2.1 dX7_init_5 (by decide +kernel) ?_
  refine a_arr (pre := pre) (a := a) C 0 rfl (fun h => h) rfl wd_131 (z := 200) (N := 200) rfl (by decide) hP ha (n := 1) rfl hS rfl (by decide) (Nat.le_of_ble_eq_true rfl) (Nat.le_of_ble_eq_true rfl) dX7_init_8 (fun H hP hS => ?_)
  have hP : aS V.1 base (pre ++ ((a, .inr (7, [.int (g32 0), .int (g32 0), .int (g32 0), .int (g32 0), .int (g32 0), .int (g32 0), .null])) :: ([aI V (a + 1) 200]) : va_W)) H := hP
  refine a_putF (pre := pre) (ty := .array .int) C gin_7 tyX7 tyX7_ok nmX7 hP hS 0 rfl rfl 6 (by decide) wd_147 rfl hin rfl (by decide +kernel) rfl rfl (Nat.le_of_ble_eq_true rfl) dX7_init_10 (fun H locs hP hS => ?_)
  have hP : aS V.1 base (pre ++ ((a, .inr (7, [.int (g32 0), .int (g32 0), .int (g32 0), .int (g32 0), .int (g32 0), .int (g32 0), .ref (a + 1)])) :: ([aI V (a + 1) 200]) : va_W)) H := hP
  refine W.widen (k := 1) (n := 200) (Nat.le_of_ble_eq_true rfl) (Nat.le_of_ble_eq_true rfl) ?_
  exact W.vret C.1 C.2.1 hr (fun t ht hW => ⟨⟨(), rfl, trivial, by show aS V.1 base _ t.heap; rw [ht]; exact hP⟩, hS.F ht⟩) hS.2.2 dX7_init_13

set_option maxRecDepth 100000 in
set_option maxHeartbeats 4000000 in
theorem kX1_init (l : Launch) (V : gW) (base : Nat) (pre : va_W) (a : Nat) (ha : a = base + pre.length) : aMv l V base yX1_init cX1_init 1 1 40 2 156 [.ref a] (pre ++ [(a, .inr (1, abl_1))]) (pre ++ netW V a) := by
  refine Met.ofW (cc := cX1_init) (maxL := 1) (ret := none) (by decide) rfl ?_
  intro p e s m args below meth c s₁ B hml hv
  obtain ⟨rfl, hP, hK, hE, hb0⟩ := hv
  have hts0 := atoms_spec (ws := gws' yX1_init cX1_init 1 none) B.pre
  have C : aC p (headSpec (gws' yX1_init cX1_init 1 none) { frames := 1, cells := 2, slots := 156, locals := 40 }).room s m ([.ref a] : List Value).toArray c V base cX1_init 1 "BunchNotes$Net" 1 40 2 156 := ⟨B.exec, B.bytes, hml, findClass_of_methodNamed B.named, fun w hw => hts0 w (List.mem_cons_of_mem _ hw), hK, hE, hb0, rfl, rfl, rfl, rfl⟩
  have hr := B.returns
  have hlocks := B.notSynchronized
  have hin : meth.name = "<init>" := (name_of_methodNamed B.named B.method).1
  have hS : va_S (aA base) s.heap s.heap [] := va_S.rf
  have hl := lv_entry ([.ref a]) (n := 1) (Nat.le_of_ble_eq_true rfl)
  rw [lg_entry_eq]
  generalize (lg_sl ([.ref a]) ++ List.replicate (1 - (lg_sl ([.ref a])).length) Slot.unset).toArray = ls at hl ⊢
  have hl : lv_has ls 1 [(0, .ref a)] := hl
  refine lv_aload_n C.1 C.2.1 dX1_init_0 rfl (lv_at hl 0 rfl) ?_
  refine a_obj (b := a) C wd_102 (by decide) (Nat.le_of_ble_eq_true rfl) hl.1 dX1_init_1 ?_
  refine lv_aload_n C.1 C.2.1 dX1_init_4 rfl (lv_at hl 0 rfl) ?_
  refine lv_iconst (v := g32 2) C.1 C.2.1 dX1_init_5 rfl ?_
  refine a_put (pre := pre) (ty := .int) C gin_1 tyX1 tyX1_ok nmX1 hP hS 0 rfl rfl 0 (by decide) wd_103 rfl (by decide +kernel) rfl rfl (Nat.le_of_ble_eq_true rfl) dX1_init_6 (fun H locs hP hS => ?_)
  have hP : aS V.1 base (pre ++ ([(a, .inr (1, [.int (g32 2), .int (g32 0), .int (g32 0), .int (g32 0), .null, .null]))] : va_W)) H := hP
  refine lv_aload_n C.1 C.2.1 dX1_init_9 rfl (lv_at hl 0 rfl) ?_
  refine lv_iconst (v := g32 1) C.1 C.2.1 dX1_init_10 rfl ?_
  refine a_put (pre := pre) (ty := .int) C gin_1 tyX1 tyX1_ok nmX1 hP hS 0 rfl rfl 2 (by decide) wd_111 rfl (by decide +kernel) rfl rfl (Nat.le_of_ble_eq_true rfl) dX1_init_11 (fun H locs hP hS => ?_)
  have hP : aS V.1 base (pre ++ ([(a, .inr (1, [.int (g32 2), .int (g32 0), .int (g32 1), .int (g32 0), .null, .null]))] : va_W)) H := hP
  refine lv_aload_n C.1 C.2.1 dX1_init_14 rfl (lv_at hl 0 rfl) ?_
  refine lv_iconst (v := g32 1) C.1 C.2.1 dX1_init_15 rfl ?_
  refine a_put (pre := pre) (ty := .int) C gin_1 tyX1 tyX1_ok nmX1 hP hS 0 rfl rfl 3 (by decide) wd_113 rfl (by decide +kernel) rfl rfl (Nat.le_of_ble_eq_true rfl) dX1_init_16 (fun H locs hP hS => ?_)
  have hP : aS V.1 base (pre ++ ([(a, .inr (1, [.int (g32 2), .int (g32 0), .int (g32 1), .int (g32 1), .null, .null]))] : va_W)) H := hP
  refine lv_aload_n C.1 C.2.1 dX1_init_19 rfl (lv_at hl 0 rfl) ?_
  refine lv_sipush (v := g32 144) C.1 C.2.1 dX1_init_20 (by decide +kernel) ?_
  refine a_arr (pre := pre) (a := a) C 0 rfl (fun h => h) rfl wd_131 (z := 144) (N := 144) rfl (by decide) hP ha (n := 1) rfl hS rfl (by decide) (Nat.le_of_ble_eq_true rfl) (Nat.le_of_ble_eq_true rfl) dX1_init_23 (fun H hP hS => ?_)
  have hP : aS V.1 base (pre ++ ((a, .inr (1, [.int (g32 2), .int (g32 0), .int (g32 1), .int (g32 1), .null, .null])) :: ([aI V (a + 1) 144]) : va_W)) H := hP
  refine a_putF (pre := pre) (ty := .array .int) C gin_1 tyX1 tyX1_ok nmX1 hP hS 0 rfl rfl 4 (by decide) wd_116 rfl hin rfl (by decide +kernel) rfl rfl (Nat.le_of_ble_eq_true rfl) dX1_init_25 (fun H locs hP hS => ?_)
  have hP : aS V.1 base (pre ++ ((a, .inr (1, [.int (g32 2), .int (g32 0), .int (g32 1), .int (g32 1), .ref (a + 1), .null])) :: ([aI V (a + 1) 144]) : va_W)) H := hP
  refine lv_aload_n C.1 C.2.1 dX1_init_28 rfl (lv_at hl 0 rfl) ?_
  refine lv_bipush (v := g32 12) C.1 C.2.1 dX1_init_29 (by decide +kernel) ?_
  refine a_arr (pre := pre) (a := a) C 0 rfl (fun h => h) rfl wd_131 (z := 12) (N := 12) rfl (by decide) hP ha (n := 2) rfl hS rfl (by decide) (Nat.le_of_ble_eq_true rfl) (Nat.le_of_ble_eq_true rfl) dX1_init_31 (fun H hP hS => ?_)
  have hP : aS V.1 base (pre ++ ((a, .inr (1, [.int (g32 2), .int (g32 0), .int (g32 1), .int (g32 1), .ref (a + 1), .null])) :: ([aI V (a + 1) 144] ++ [aI V (a + 2) 12]) : va_W)) H := hP
  refine a_putF (pre := pre) (ty := .array .int) C gin_1 tyX1 tyX1_ok nmX1 hP hS 0 rfl rfl 5 (by decide) wd_117 rfl hin rfl (by decide +kernel) rfl rfl (Nat.le_of_ble_eq_true rfl) dX1_init_33 (fun H locs hP hS => ?_)
  have hP : aS V.1 base (pre ++ ((a, .inr (1, [.int (g32 2), .int (g32 0), .int (g32 1), .int (g32 1), .ref (a + 1), .ref (a + 2)])) :: ([aI V (a + 1) 144] ++ [aI V (a + 2) 12]) : va_W)) H := hP
  refine W.widen (k := 2) (n := 156) (Nat.le_of_ble_eq_true rfl) (Nat.le_of_ble_eq_true rfl) ?_
  exact W.vret C.1 C.2.1 hr (fun t ht hW => ⟨⟨(), rfl, trivial, by show aS V.1 base _ t.heap; rw [ht]; exact hP⟩, hS.F ht⟩) hS.2.2 dX1_init_36

set_option maxRecDepth 100000 in
set_option maxHeartbeats 4000000 in
theorem kX2_init (l : Launch) (V : gW) (base : Nat) (pre : va_W) (a : Nat) (ha : a = base + pre.length) : aMv l V base yX2_init cX2_init 1 1 40 3 18 [.ref a] (pre ++ [(a, .inr (2, abl_2))]) (pre ++ noteW V a) := by
  refine Met.ofW (cc := cX2_init) (maxL := 1) (ret := none) (by decide) rfl ?_
  intro p e s m args below meth c s₁ B hml hv
  obtain ⟨rfl, hP, hK, hE, hb0⟩ := hv
  have hts0 := atoms_spec (ws := gws' yX2_init cX2_init 1 none) B.pre
  have C : aC p (headSpec (gws' yX2_init cX2_init 1 none) { frames := 1, cells := 3, slots := 18, locals := 40 }).room s m ([.ref a] : List Value).toArray c V base cX2_init 1 "BunchNotes$Note" 1 40 3 18 := ⟨B.exec, B.bytes, hml, findClass_of_methodNamed B.named, fun w hw => hts0 w (List.mem_cons_of_mem _ hw), hK, hE, hb0, rfl, rfl, rfl, rfl⟩
  have hr := B.returns
  have hlocks := B.notSynchronized
  have hin : meth.name = "<init>" := (name_of_methodNamed B.named B.method).1
  have hS : va_S (aA base) s.heap s.heap [] := va_S.rf
  have hl := lv_entry ([.ref a]) (n := 1) (Nat.le_of_ble_eq_true rfl)
  rw [lg_entry_eq]
  generalize (lg_sl ([.ref a]) ++ List.replicate (1 - (lg_sl ([.ref a])).length) Slot.unset).toArray = ls at hl ⊢
  have hl : lv_has ls 1 [(0, .ref a)] := hl
  refine lv_aload_n C.1 C.2.1 dX2_init_0 rfl (lv_at hl 0 rfl) ?_
  refine a_obj (b := a) C wd_192 (by decide) (Nat.le_of_ble_eq_true rfl) hl.1 dX2_init_1 ?_
  refine lv_aload_n C.1 C.2.1 dX2_init_4 rfl (lv_at hl 0 rfl) ?_
  refine lv_iconst (v := g32 3) C.1 C.2.1 dX2_init_5 rfl ?_
  refine a_arr (pre := pre) (a := a) C 0 rfl (fun h => h) rfl wd_131 (z := 3) (N := 3) rfl (by decide) hP ha (n := 1) rfl hS rfl (by decide) (Nat.le_of_ble_eq_true rfl) (Nat.le_of_ble_eq_true rfl) dX2_init_6 (fun H hP hS => ?_)
  have hP : aS V.1 base (pre ++ ((a, .inr (2, [.int (g32 0), .int (g32 0), .null, .null, .null])) :: ([aI V (a + 1) 3]) : va_W)) H := hP
  refine a_putF (pre := pre) (ty := .array .int) C gin_2 tyX2 tyX2_ok nmX2 hP hS 0 rfl rfl 2 (by decide) wd_198 rfl hin rfl (by decide +kernel) rfl rfl (Nat.le_of_ble_eq_true rfl) dX2_init_8 (fun H locs hP hS => ?_)
  have hP : aS V.1 base (pre ++ ((a, .inr (2, [.int (g32 0), .int (g32 0), .ref (a + 1), .null, .null])) :: ([aI V (a + 1) 3]) : va_W)) H := hP
  refine lv_aload_n C.1 C.2.1 dX2_init_11 rfl (lv_at hl 0 rfl) ?_
  refine lv_iconst (v := g32 3) C.1 C.2.1 dX2_init_12 rfl ?_
  refine a_arr (pre := pre) (a := a) C 0 rfl (fun h => h) rfl wd_131 (z := 3) (N := 3) rfl (by decide) hP ha (n := 2) rfl hS rfl (by decide) (Nat.le_of_ble_eq_true rfl) (Nat.le_of_ble_eq_true rfl) dX2_init_13 (fun H hP hS => ?_)
  have hP : aS V.1 base (pre ++ ((a, .inr (2, [.int (g32 0), .int (g32 0), .ref (a + 1), .null, .null])) :: ([aI V (a + 1) 3] ++ [aI V (a + 2) 3]) : va_W)) H := hP
  refine a_putF (pre := pre) (ty := .array .int) C gin_2 tyX2 tyX2_ok nmX2 hP hS 0 rfl rfl 3 (by decide) wd_199 rfl hin rfl (by decide +kernel) rfl rfl (Nat.le_of_ble_eq_true rfl) dX2_init_15 (fun H locs hP hS => ?_)
  have hP : aS V.1 base (pre ++ ((a, .inr (2, [.int (g32 0), .int (g32 0), .ref (a + 1), .ref (a + 2), .null])) :: ([aI V (a + 1) 3] ++ [aI V (a + 2) 3]) : va_W)) H := hP
  refine lv_aload_n C.1 C.2.1 dX2_init_18 rfl (lv_at hl 0 rfl) ?_
  refine lv_bipush (v := g32 12) C.1 C.2.1 dX2_init_19 (by decide +kernel) ?_
  refine a_arr (pre := pre) (a := a) C 0 rfl (fun h => h) rfl wd_131 (z := 12) (N := 12) rfl (by decide) hP ha (n := 3) rfl hS rfl (by decide) (Nat.le_of_ble_eq_true rfl) (Nat.le_of_ble_eq_true rfl) dX2_init_21 (fun H hP hS => ?_)
  have hP : aS V.1 base (pre ++ ((a, .inr (2, [.int (g32 0), .int (g32 0), .ref (a + 1), .ref (a + 2), .null])) :: ([aI V (a + 1) 3] ++ [aI V (a + 2) 3] ++ [aI V (a + 3) 12]) : va_W)) H := hP
  refine a_putF (pre := pre) (ty := .array .int) C gin_2 tyX2 tyX2_ok nmX2 hP hS 0 rfl rfl 4 (by decide) wd_200 rfl hin rfl (by decide +kernel) rfl rfl (Nat.le_of_ble_eq_true rfl) dX2_init_23 (fun H locs hP hS => ?_)
  have hP : aS V.1 base (pre ++ ((a, .inr (2, [.int (g32 0), .int (g32 0), .ref (a + 1), .ref (a + 2), .ref (a + 3)])) :: ([aI V (a + 1) 3] ++ [aI V (a + 2) 3] ++ [aI V (a + 3) 12]) : va_W)) H := hP
  refine W.widen (k := 3) (n := 18) (Nat.le_of_ble_eq_true rfl) (Nat.le_of_ble_eq_true rfl) ?_
  exact W.vret C.1 C.2.1 hr (fun t ht hW => ⟨⟨(), rfl, trivial, by show aS V.1 base _ t.heap; rw [ht]; exact hP⟩, hS.F ht⟩) hS.2.2 dX2_init_26

set_option maxRecDepth 100000 in
set_option maxHeartbeats 4000000 in
theorem kX0_init (l : Launch) (V : gW) (base : Nat) (pre : va_W) (a : Nat) (ha : a = base + pre.length) : aMv l V base yX0_init cX0_init 1 1 40 13 156 [.ref a] (pre ++ [(a, .inr (0, abl_0))]) (pre ++ farW V a) := by
  refine Met.ofW (cc := cX0_init) (maxL := 1) (ret := none) (by decide) rfl ?_
  intro p e s m args below meth c s₁ B hml hv
  obtain ⟨rfl, hP, hK, hE, hb0⟩ := hv
  have hts0 := atoms_spec (ws := gws' yX0_init cX0_init 1 none) B.pre
  have C : aC p (headSpec (gws' yX0_init cX0_init 1 none) { frames := 1, cells := 13, slots := 156, locals := 40 }).room s m ([.ref a] : List Value).toArray c V base cX0_init 1 "BunchNotes$Far" 1 40 13 156 := ⟨B.exec, B.bytes, hml, findClass_of_methodNamed B.named, fun w hw => hts0 w (List.mem_cons_of_mem _ hw), hK, hE, hb0, rfl, rfl, rfl, rfl⟩
  have hr := B.returns
  have hlocks := B.notSynchronized
  have hin : meth.name = "<init>" := (name_of_methodNamed B.named B.method).1
  have hS : va_S (aA base) s.heap s.heap [] := va_S.rf
  have hl := lv_entry ([.ref a]) (n := 1) (Nat.le_of_ble_eq_true rfl)
  rw [lg_entry_eq]
  generalize (lg_sl ([.ref a]) ++ List.replicate (1 - (lg_sl ([.ref a])).length) Slot.unset).toArray = ls at hl ⊢
  have hl : lv_has ls 1 [(0, .ref a)] := hl
  refine lv_aload_n C.1 C.2.1 dX0_init_0 rfl (lv_at hl 0 rfl) ?_
  refine a_obj (b := a) C wd_239 (by decide) (Nat.le_of_ble_eq_true rfl) hl.1 dX0_init_1 ?_
  refine lv_aload_n C.1 C.2.1 dX0_init_4 rfl (lv_at hl 0 rfl) ?_
  refine lv_bipush (v := g32 12) C.1 C.2.1 dX0_init_5 (by decide +kernel) ?_
  refine lv_bipush (v := g32 12) C.1 C.2.1 dX0_init_7 (by decide +kernel) ?_
  refine a_mna (pre := pre) (a := a) C wd_240 C.2.2.2.2.2.2.1.2.2.2.2.2.2 wd_131 (C.2.2.2.2.2.1.2 0 _ rfl).2 hP ha (n := 1) rfl hS (Nat.le_of_ble_eq_true rfl) (Nat.le_of_ble_eq_true rfl) dX0_init_9 (fun H hP hS => ?_)
  have hP : aS V.1 base (pre ++ ((a, .inr (0, [.int (g32 0), .int (g32 0), .null])) :: (((a + 1, .inl (V.2.1 6, 12, .inr (.inr (.inr (.inr (fun i => if i < 12 then some (a + 1 + 1 + i) else none)))))) :: rowsW V (a + 1 + 1))) : va_W)) H := hP
  refine a_putF (pre := pre) (ty := .array (.array .int)) C gin_0 tyX0 tyX0_ok nmX0 hP hS 0 rfl rfl 2 (by decide) wd_244 rfl hin rfl (by decide +kernel) rfl rfl (Nat.le_of_ble_eq_true rfl) dX0_init_13 (fun H locs hP hS => ?_)
  have hP : aS V.1 base (pre ++ ((a, .inr (0, [.int (g32 0), .int (g32 0), .ref (a + 1)])) :: (((a + 1, .inl (V.2.1 6, 12, .inr (.inr (.inr (.inr (fun i => if i < 12 then some (a + 1 + 1 + i) else none)))))) :: rowsW V (a + 1 + 1))) : va_W)) H := hP
  refine W.widen (k := 13) (n := 156) (Nat.le_of_ble_eq_true rfl) (Nat.le_of_ble_eq_true rfl) ?_
  exact W.vret C.1 C.2.1 hr (fun t ht hW => ⟨⟨(), rfl, trivial, by show aS V.1 base _ t.heap; rw [ht]; exact hP⟩, hS.F ht⟩) hS.2.2 dX0_init_16

set_option maxRecDepth 100000 in
set_option maxHeartbeats 4000000 in
theorem kX8_init (l : Launch) (V : gW) (base : Nat) (pre : va_W) (a : Nat) (ha : a = base + pre.length) : aMv l V base yX8_init cX8_init 1 2 64 16 201 [.ref a] (pre ++ [(a, .inr (8, abl_8))]) (pre ++ thinW V a) := by
  refine Met.ofW (cc := cX8_init) (maxL := 1) (ret := none) (by decide) rfl ?_
  intro p e s m args below meth c s₁ B hml hv
  obtain ⟨rfl, hP, hK, hE, hb0⟩ := hv
  have hts0 := atoms_spec (ws := gws' yX8_init cX8_init 1 none) B.pre
  have C : aC p (headSpec (gws' yX8_init cX8_init 1 none) { frames := 2, cells := 16, slots := 201, locals := 64 }).room s m ([.ref a] : List Value).toArray c V base cX8_init 1 "BunchNotes$Thinning" 2 64 16 201 := ⟨B.exec, B.bytes, hml, findClass_of_methodNamed B.named, fun w hw => hts0 w (List.mem_cons_of_mem _ hw), hK, hE, hb0, rfl, rfl, rfl, rfl⟩
  have hr := B.returns
  have hlocks := B.notSynchronized
  have hin : meth.name = "<init>" := (name_of_methodNamed B.named B.method).1
  have hS : va_S (aA base) s.heap s.heap [] := va_S.rf
  have hl := lv_entry ([.ref a]) (n := 1) (Nat.le_of_ble_eq_true rfl)
  rw [lg_entry_eq]
  generalize (lg_sl ([.ref a]) ++ List.replicate (1 - (lg_sl ([.ref a])).length) Slot.unset).toArray = ls at hl ⊢
  have hl : lv_has ls 1 [(0, .ref a)] := hl
  refine lv_aload_n C.1 C.2.1 dX8_init_0 rfl (lv_at hl 0 rfl) ?_
  refine a_obj (b := a) C wd_257 (by decide) (Nat.le_of_ble_eq_true rfl) hl.1 dX8_init_1 ?_
  refine lv_aload_n C.1 C.2.1 dX8_init_4 rfl (lv_at hl 0 rfl) ?_
  refine a_new (pre := pre) (a := a) (ci := 0) (fs := abl_0) C gin_0 tyX0 tyX0_ok wd_258 wd_235 wd_76 hP ha (n := 1) rfl hS rfl abl_0_ok (Nat.le_of_ble_eq_true rfl) (Nat.le_of_ble_eq_true rfl) dX8_init_5 (fun H hP hS => ?_)
  refine lv_dup C.1 C.2.1 dX8_init_8 rfl ?_
  have hlen : a + 1 = base + (pre ++ ([(a, .inr (8, [.int (g32 0), .null, .int (g32 0), .int (g32 0), .int (g32 0), .null, .null]))] : va_W)).length := by rw [List.length_append, ha]; show base + pre.length + 1 = base + (pre.length + 1); omega
  refine a_callI (rest := [.ref (a + 1), .ref a]) C (hcode := wd_238) (hini := wd_76) (hy := ⟨rfl, by decide, by decide, by decide +kernel⟩) (hinst := wd_237) (hw := wd_259) ⟨by decide, by decide⟩ hl.1 (Nat.le_of_ble_eq_true rfl) ⟨Nat.le_of_ble_eq_true rfl, Nat.le_of_ble_eq_true rfl⟩ (by rw [← List.append_assoc] at hP; exact hP) hS (kX0_init l V base (pre ++ ([(a, .inr (8, [.int (g32 0), .null, .int (g32 0), .int (g32 0), .int (g32 0), .null, .null]))] : va_W)) (a + 1) hlen) dX8_init_9 (fun H locs hP hS => ?_)
  rw [List.append_assoc] at hP
  have hP : aS V.1 base (pre ++ ((a, .inr (8, [.int (g32 0), .null, .int (g32 0), .int (g32 0), .int (g32 0), .null, .null])) :: (farW V (a + 1)) : va_W)) H := hP
  refine a_putF (pre := pre) (ty := .object "BunchNotes$Far") C gin_8 tyX8 tyX8_ok nmX8 hP hS 0 rfl rfl 1 (by decide) wd_262 rfl hin rfl (by decide +kernel) rfl rfl (Nat.le_of_ble_eq_true rfl) dX8_init_12 (fun H locs hP hS => ?_)
  have hP : aS V.1 base (pre ++ ((a, .inr (8, [.int (g32 0), .ref (a + 1), .int (g32 0), .int (g32 0), .int (g32 0), .null, .null])) :: (farW V (a + 1)) : va_W)) H := hP
  refine lv_aload_n C.1 C.2.1 dX8_init_15 rfl (lv_at hl 0 rfl) ?_
  refine lv_bipush (v := g32 30) C.1 C.2.1 dX8_init_16 (by decide +kernel) ?_
  refine a_arr (pre := pre) (a := a) C 0 rfl (fun h => h) rfl wd_131 (z := 30) (N := 30) rfl (by decide) hP ha (n := 15) rfl hS rfl (by decide) (Nat.le_of_ble_eq_true rfl) (Nat.le_of_ble_eq_true rfl) dX8_init_18 (fun H hP hS => ?_)
  have hP : aS V.1 base (pre ++ ((a, .inr (8, [.int (g32 0), .ref (a + 1), .int (g32 0), .int (g32 0), .int (g32 0), .null, .null])) :: (farW V (a + 1) ++ [aI V (a + 15) 30]) : va_W)) H := hP
  refine a_putF (pre := pre) (ty := .array .int) C gin_8 tyX8 tyX8_ok nmX8 hP hS 0 rfl rfl 5 (by decide) wd_267 rfl hin rfl (by decide +kernel) rfl rfl (Nat.le_of_ble_eq_true rfl) dX8_init_20 (fun H locs hP hS => ?_)
  have hP : aS V.1 base (pre ++ ((a, .inr (8, [.int (g32 0), .ref (a + 1), .int (g32 0), .int (g32 0), .int (g32 0), .ref (a + 15), .null])) :: (farW V (a + 1) ++ [aI V (a + 15) 30]) : va_W)) H := hP
  refine lv_aload_n C.1 C.2.1 dX8_init_23 rfl (lv_at hl 0 rfl) ?_
  refine lv_bipush (v := g32 12) C.1 C.2.1 dX8_init_24 (by decide +kernel) ?_
  refine a_arr (pre := pre) (a := a) C 0 rfl (fun h => h) rfl wd_131 (z := 12) (N := 12) rfl (by decide) hP ha (n := 16) rfl hS rfl (by decide) (Nat.le_of_ble_eq_true rfl) (Nat.le_of_ble_eq_true rfl) dX8_init_26 (fun H hP hS => ?_)
  have hP : aS V.1 base (pre ++ ((a, .inr (8, [.int (g32 0), .ref (a + 1), .int (g32 0), .int (g32 0), .int (g32 0), .ref (a + 15), .null])) :: (farW V (a + 1) ++ [aI V (a + 15) 30] ++ [aI V (a + 16) 12]) : va_W)) H := hP
  refine a_putF (pre := pre) (ty := .array .int) C gin_8 tyX8 tyX8_ok nmX8 hP hS 0 rfl rfl 6 (by decide) wd_268 rfl hin rfl (by decide +kernel) rfl rfl (Nat.le_of_ble_eq_true rfl) dX8_init_28 (fun H locs hP hS => ?_)
  have hP : aS V.1 base (pre ++ ((a, .inr (8, [.int (g32 0), .ref (a + 1), .int (g32 0), .int (g32 0), .int (g32 0), .ref (a + 15), .ref (a + 16)])) :: (farW V (a + 1) ++ [aI V (a + 15) 30] ++ [aI V (a + 16) 12]) : va_W)) H := hP
  refine W.widen (k := 16) (n := 201) (Nat.le_of_ble_eq_true rfl) (Nat.le_of_ble_eq_true rfl) ?_
  exact W.vret C.1 C.2.1 hr (fun t ht hW => ⟨⟨(), rfl, trivial, by show aS V.1 base _ t.heap; rw [ht]; exact hP⟩, hS.F ht⟩) hS.2.2 dX8_init_31

set_option maxRecDepth 100000 in
set_option maxHeartbeats 4000000 in
theorem kX3_init (l : Launch) (V : gW) (base : Nat) (pre : va_W) (a : Nat) (ha : a = base + pre.length) : aMv l V base yX3_init cX3_init 2 2 64 25 1304 [.ref a] (pre ++ [(a, .inr (3, abl_3))]) (pre ++ pastW V a) := by
  refine Met.ofW (cc := cX3_init) (maxL := 2) (ret := none) (by decide) rfl ?_
  intro p e s m args below meth c s₁ B hml hv
  obtain ⟨rfl, hP, hK, hE, hb0⟩ := hv
  have hts0 := atoms_spec (ws := gws' yX3_init cX3_init 2 none) B.pre
  have C : aC p (headSpec (gws' yX3_init cX3_init 2 none) { frames := 2, cells := 25, slots := 1304, locals := 64 }).room s m ([.ref a] : List Value).toArray c V base cX3_init 2 "BunchNotes$Past" 2 64 25 1304 := ⟨B.exec, B.bytes, hml, findClass_of_methodNamed B.named, fun w hw => hts0 w (List.mem_cons_of_mem _ hw), hK, hE, hb0, rfl, rfl, rfl, rfl⟩
  have hr := B.returns
  have hlocks := B.notSynchronized
  have hin : meth.name = "<init>" := (name_of_methodNamed B.named B.method).1
  have hS : va_S (aA base) s.heap s.heap [] := va_S.rf
  have hl := lv_entry ([.ref a]) (n := 2) (Nat.le_of_ble_eq_true rfl)
  rw [lg_entry_eq]
  generalize (lg_sl ([.ref a]) ++ List.replicate (2 - (lg_sl ([.ref a])).length) Slot.unset).toArray = ls at hl ⊢
  have hl : lv_has ls 2 [(0, .ref a)] := hl
  refine lv_aload_n C.1 C.2.1 dX3_init_0 rfl (lv_at hl 0 rfl) ?_
  refine a_obj (b := a) C wd_168 (by decide) (Nat.le_of_ble_eq_true rfl) hl.1 dX3_init_1 ?_
  refine lv_aload_n C.1 C.2.1 dX3_init_4 rfl (lv_at hl 0 rfl) ?_
  refine lv_bipush (v := g32 8) C.1 C.2.1 dX3_init_5 (by decide +kernel) ?_
  refine a_arrQ (pre := pre) (a := a) C 3 rfl wd_169 C.2.2.2.2.2.2.1.2.2.2.1 (z := 8) (N := 8) rfl (by decide) hP ha (n := 1) rfl hS (Nat.le_of_ble_eq_true rfl) (Nat.le_of_ble_eq_true rfl) dX3_init_7 (fun H hP hS => ?_)
  have hP : aS V.1 base (pre ++ ((a, .inr (3, [.int (g32 0), .int (g32 0), .null])) :: ([(a + 1, .inl (V.2.1 4, 8, .inr (.inr (.inr (.inr (fun _ => none))))))]) : va_W)) H := hP
  refine a_putF (pre := pre) (ty := .array (.object "BunchNotes$Net")) C gin_3 tyX3 tyX3_ok nmX3 hP hS 0 rfl rfl 2 (by decide) wd_175 rfl hin rfl (by decide +kernel) rfl rfl (Nat.le_of_ble_eq_true rfl) dX3_init_10 (fun H locs hP hS => ?_)
  have hP : aS V.1 base (pre ++ ((a, .inr (3, [.int (g32 0), .int (g32 0), .ref (a + 1)])) :: ([(a + 1, .inl (V.2.1 4, 8, .inr (.inr (.inr (.inr (fun _ => none))))))]) : va_W)) H := hP
  refine lv_iconst (v := g32 0) C.1 C.2.1 dX3_init_13 rfl ?_
  refine lv_istore_n (lv' := [(1, .int (g32 0)), (0, .ref a)]) C.1 C.2.1 dX3_init_14 rfl hl (by decide) rfl (fun ls hl => ?_)
  have key : ∀ (k i : Nat), i + k = 8 → ∀ (H : Heap) (locs : List Loc) (ls : Array Slot), aS V.1 base (pre ++ ((a, .inr (3, [.int (g32 0), .int (g32 0), .ref (a + 1)])) :: (a + 1, .inl (V.2.1 4, 8, .inr (.inr (.inr (.inr (fun k => if k < i then some (a + 2 + 3 * k) else none)))))) :: netsW V (a + 2) i)) H → va_S (aA base) s.heap H locs → lv_has ls 2 [(1, .int (g32 (i : Int))), (0, .ref a)] →
      W p l e (headSpec (gws' yX3_init cX3_init 2 none) { frames := 2, cells := 25, slots := 1304, locals := 64 }).room s m ([.ref a] : List Value).toArray below meth c H locs (1 + 3 * i) (8 + 162 * i) (MQ below (va_Qv (fun _ : Unit => True) (fun _ t => aS V.1 base (pre ++ pastW V a) t.heap) (aA base)) ([.ref a] : List Value).toArray s 25 1304 (aA base)) (F0 m 15 ls []) := by
    intro k
    induction k with
    | zero =>
      intro i hi H locs ls hP hS hl
      have e8 : i = 8 := by omega
      subst e8
      refine lv_iload_n C.1 C.2.1 dX3_init_15 rfl (lv_at hl 0 rfl) ?_
      refine lv_bipush (v := g32 8) C.1 C.2.1 dX3_init_16 (by decide +kernel) ?_
      refine lv_icmp_ge (tgt := 40) C.1 C.2.1 dX3_init_18 (by decide) (fun _ => ?_) (fun q => absurd (by decide +kernel) q)
      refine W.widen (k := 25) (n := 1304) (Nat.le_of_ble_eq_true rfl) (Nat.le_of_ble_eq_true rfl) ?_
      exact W.vret C.1 C.2.1 hr (fun t ht hW => ⟨⟨(), rfl, trivial, by show aS V.1 base _ t.heap; rw [ht]; exact hP⟩, hS.F ht⟩) hS.2.2 dX3_init_40
    | succ k ih =>
      intro i hi H locs ls hP hS hl
      have hri : gR (i : Int) := ⟨by omega, by omega⟩
      refine lv_iload_n C.1 C.2.1 dX3_init_15 rfl (lv_at hl 0 rfl) ?_
      refine lv_bipush (v := g32 8) C.1 C.2.1 dX3_init_16 (by decide +kernel) ?_
      refine lv_icmp_ge (tgt := 40) C.1 C.2.1 dX3_init_18 (by decide) (fun q => absurd ((g32_le (a := 8) ⟨by decide, by decide⟩ hri).mp q) (by omega)) (fun _ => ?_)
      refine lv_aload_n C.1 C.2.1 dX3_init_21 rfl (lv_at hl 1 rfl) ?_
      refine va_get (v := .ref (a + 1)) (C := RX3) (T := TX3) (N := 3) C.1 C.2.1 C.2.2.2.2.1 gin_3 C.2.2.2.1 C.2.2.2.2.2.1 hP.1 (pre.length + 0) (aget rfl) rfl 2 (by decide) (C.2.2.2.2.1 _ wd_175) (fun _ h => h) rfl dX3_init_22 ?_
      refine lv_iload_n C.1 C.2.1 dX3_init_25 rfl (lv_at hl 0 rfl) ?_
      have hlen : ((a, Sum.inr (3, [.int (g32 0), .int (g32 0), .ref (a + 1)])) :: (a + 1, Sum.inl (V.2.1 4, 8, .inr (.inr (.inr (.inr (fun k => if k < i then some (a + 2 + 3 * k) else none)))))) :: netsW V (a + 2) i : va_W).length = 2 + 3 * i := by
        rw [List.length_cons, List.length_cons, netsW_n]; omega
      generalize hOW : ((a, Sum.inr (3, [.int (g32 0), .int (g32 0), .ref (a + 1)])) :: (a + 1, Sum.inl (V.2.1 4, 8, .inr (.inr (.inr (.inr (fun k => if k < i then some (a + 2 + 3 * k) else none)))))) :: netsW V (a + 2) i : va_W) = OW at hP hlen
      refine a_new (pre := pre) (a := a) (ci := 1) (fs := abl_1) C gin_1 tyX1 tyX1_ok wd_169 wd_98 wd_71 hP ha hlen hS rfl abl_1_ok (by omega) (by omega) dX3_init_26 (fun H hP hS => ?_)
      refine lv_dup C.1 C.2.1 dX3_init_29 rfl ?_
      have hlen2 : a + (2 + 3 * i) = base + (pre ++ OW).length := by rw [List.length_append, ha, hlen]; omega
      refine a_callI (rest := [.ref (a + (2 + 3 * i)), .int (g32 (i : Int)), .ref (a + 1)]) C (hcode := wd_101) (hini := wd_71) (hy := ⟨rfl, by decide, by decide, by decide +kernel⟩) (hinst := wd_100) (hw := wd_171) ⟨by decide, by decide⟩ hl.1 (Nat.le_of_ble_eq_true rfl) ⟨by omega, by omega⟩ (by rw [← List.append_assoc] at hP; exact hP) hS (kX1_init l V base (pre ++ OW) (a + (2 + 3 * i)) hlen2) dX3_init_30 (fun H locs hP hS => ?_)
      rw [List.append_assoc] at hP
      have hq : (pre ++ (OW ++ netW V (a + (2 + 3 * i))))[pre.length + (2 + 3 * i)]? = some (a + (2 + 3 * i), .inr (1, [.int (g32 2), .int (g32 0), .int (g32 1), .int (g32 1), .ref (a + (2 + 3 * i) + 1), .ref (a + (2 + 3 * i) + 2)])) := aget (by rw [List.getElem?_append_right (by omega), hlen, show 2 + 3 * i - (2 + 3 * i) = 0 by omega]; rfl)
      subst hOW
      refine a_aast (pre := pre) (r := (RX1, TX1, 6)) (z := (i : Int)) C hP hS 1 3 _ 1 rfl rfl hq rfl ⟨by omega, by omega, by omega⟩ dX3_init_33 (fun H locs hP hS => ?_)
      rw [Int.toNat_natCast, show a + (2 + 3 * i) = a + 2 + 3 * i by omega] at hP
      have hP : aS V.1 base (pre ++ ((a, .inr (3, [.int (g32 0), .int (g32 0), .ref (a + 1)])) :: (a + 1, .inl (V.2.1 4, 8, .inr (.inr (.inr (.inr (va_up (fun k => if k < i then some (a + 2 + 3 * k) else none) i (some (a + 2 + 3 * i)))))))) :: (netsW V (a + 2) i ++ netW V (a + 2 + 3 * i)))) H := hP
      rw [aQ_up 8 (a + 2) 3 i (by omega), ← netsW_s] at hP
      refine lv_iinc (v := g32 ((i + 1 : Nat) : Int)) (lv' := [(1, .int (g32 ((i + 1 : Nat) : Int))), (0, .ref a)]) C.1 C.2.1 dX3_init_34 hl (k := 0) rfl (Int32.ofInt_add (i : Int) 1).symm (by decide) rfl (fun ls hl => ?_)
      refine lv_goto (tgt := 15) C.1 C.2.1 dX3_init_37 (by decide) ?_
      refine W.widen (k := 1 + 3 * (i + 1)) (n := 8 + 162 * (i + 1)) (by omega) (by omega) ?_
      exact ih (i + 1) (by omega) H locs ls hP hS hl
  refine W.widen (k := 1 + 3 * 0) (n := 8 + 162 * 0) (Nat.le_of_ble_eq_true rfl) (Nat.le_of_ble_eq_true rfl) ?_
  refine key 8 0 rfl H locs ls ?_ hS hl
  have e0 : (fun k : Nat => if k < 0 then some (a + 2 + 3 * k) else none) = fun _ => none := by funext k; rw [if_neg (by omega)]
  rw [e0]
  exact hP

set_option maxRecDepth 100000 in
set_option maxHeartbeats 4000000 in
theorem kX9_blankNotes (l : Launch) (V : gW) (base : Nat) (pre : va_W) (a : Nat) (ha : a = base + pre.length) : aMr l V base yX9_blankNotes cX9_blankNotes 2 2 64 49 288 (.array (.object "BunchNotes$Note")) [] pre (pre ++ notesW V a) a := by
  refine Met.ofW (cc := cX9_blankNotes) (maxL := 2) (ret := some (.array (.object "BunchNotes$Note"))) (by decide) rfl ?_
  intro p e s m args below meth c s₁ B hml hv
  obtain ⟨rfl, hP, hK, hE, hb0⟩ := hv
  have hts0 := atoms_spec (ws := gws' yX9_blankNotes cX9_blankNotes 2 (some (.array (.object "BunchNotes$Note")))) B.pre
  have C : aC p (headSpec (gws' yX9_blankNotes cX9_blankNotes 2 (some (.array (.object "BunchNotes$Note")))) { frames := 2, cells := 49, slots := 288, locals := 64 }).room s m ([] : List Value).toArray c V base cX9_blankNotes 2 "BunchNotes" 2 64 49 288 := ⟨B.exec, B.bytes, hml, findClass_of_methodNamed B.named, fun w hw => hts0 w (List.mem_cons_of_mem _ hw), hK, hE, hb0, rfl, rfl, rfl, rfl⟩
  have hr := B.returns
  have hlocks := B.notSynchronized
  have hS : va_S (aA base) s.heap s.heap [] := va_S.rf
  have hl := lv_entry ([] : List Value) (n := 2) (Nat.le_of_ble_eq_true rfl)
  rw [lg_entry_eq]
  generalize (lg_sl ([] : List Value) ++ List.replicate (2 - (lg_sl ([] : List Value)).length) Slot.unset).toArray = ls at hl ⊢
  have hl : lv_has ls 2 [] := hl
  have hP : aS V.1 base (pre ++ []) s.heap := by rw [List.append_nil]; exact hP
  refine lv_bipush (v := g32 12) C.1 C.2.1 dX9_blankNotes_0 (by decide +kernel) ?_
  refine a_arrQ (pre := pre) (a := a) C 2 rfl wd_186 C.2.2.2.2.2.2.1.2.2.2.2.1 (z := 12) (N := 12) rfl (by decide) hP ha (n := 0) rfl hS (Nat.le_of_ble_eq_true rfl) (Nat.le_of_ble_eq_true rfl) dX9_blankNotes_2 (fun H hP hS => ?_)
  refine lv_astore_n (lv' := [(0, .ref (a + 0))]) C.1 C.2.1 dX9_blankNotes_5 rfl hl (by decide) rfl (fun ls hl => ?_)
  refine lv_iconst (v := g32 0) C.1 C.2.1 dX9_blankNotes_6 rfl ?_
  refine lv_istore_n (lv' := [(1, .int (g32 0)), (0, .ref a)]) C.1 C.2.1 dX9_blankNotes_7 rfl hl (by decide) rfl (fun ls hl => ?_)
  have key : ∀ (k i : Nat), i + k = 12 → ∀ (H : Heap) (locs : List Loc) (ls : Array Slot), aS V.1 base (pre ++ ((a, .inl (V.2.1 3, 12, .inr (.inr (.inr (.inr (fun k => if k < i then some (a + 1 + 4 * k) else none)))))) :: notesL V (a + 1) i)) H → va_S (aA base) s.heap H locs → lv_has ls 2 [(1, .int (g32 (i : Int))), (0, .ref a)] →
      W p l e (headSpec (gws' yX9_blankNotes cX9_blankNotes 2 (some (.array (.object "BunchNotes$Note")))) { frames := 2, cells := 49, slots := 288, locals := 64 }).room s m ([] : List Value).toArray below meth c H locs (1 + 4 * i) (12 + 23 * i) (MQ below (va_Qr (fun _ : Unit => True) (fun _ b t => b = a ∧ aS V.1 base (pre ++ notesW V a) t.heap) (aA base)) ([] : List Value).toArray s 49 288 (aA base)) (F0 m 8 ls []) := by
    intro k
    induction k with
    | zero =>
      intro i hi H locs ls hP hS hl
      have e8 : i = 12 := by omega
      subst e8
      refine lv_iload_n C.1 C.2.1 dX9_blankNotes_8 rfl (lv_at hl 0 rfl) ?_
      refine lv_bipush (v := g32 12) C.1 C.2.1 dX9_blankNotes_9 (by decide +kernel) ?_
      refine lv_icmp_ge (tgt := 30) C.1 C.2.1 dX9_blankNotes_11 (by decide) (fun _ => ?_) (fun q => absurd (by decide +kernel) q)
      refine lv_aload_n C.1 C.2.1 dX9_blankNotes_30 rfl (lv_at hl 1 rfl) ?_
      refine W.widen (k := 49) (n := 288) (Nat.le_of_ble_eq_true rfl) (Nat.le_of_ble_eq_true rfl) ?_
      exact W.aret C.1 C.2.1 hr (Or.inr ⟨_, rfl⟩) (Or.inr ⟨_, rfl⟩) (fun t ht hW => ⟨⟨(), a, rfl, trivial, rfl, by rw [ht]; exact hP⟩, hS.F ht⟩) hS.2.2 dX9_blankNotes_31
    | succ k ih =>
      intro i hi H locs ls hP hS hl
      have hri : gR (i : Int) := ⟨by omega, by omega⟩
      refine lv_iload_n C.1 C.2.1 dX9_blankNotes_8 rfl (lv_at hl 0 rfl) ?_
      refine lv_bipush (v := g32 12) C.1 C.2.1 dX9_blankNotes_9 (by decide +kernel) ?_
      refine lv_icmp_ge (tgt := 30) C.1 C.2.1 dX9_blankNotes_11 (by decide) (fun q => absurd ((g32_le (a := 12) ⟨by decide, by decide⟩ hri).mp q) (by omega)) (fun _ => ?_)
      refine lv_aload_n C.1 C.2.1 dX9_blankNotes_14 rfl (lv_at hl 1 rfl) ?_
      refine lv_iload_n C.1 C.2.1 dX9_blankNotes_15 rfl (lv_at hl 0 rfl) ?_
      have hlen : ((a, Sum.inl (V.2.1 3, 12, .inr (.inr (.inr (.inr (fun k => if k < i then some (a + 1 + 4 * k) else none)))))) :: notesL V (a + 1) i : va_W).length = 1 + 4 * i := by
        rw [List.length_cons, notesL_n]; omega
      generalize hOW : ((a, Sum.inl (V.2.1 3, 12, .inr (.inr (.inr (.inr (fun k => if k < i then some (a + 1 + 4 * k) else none)))))) :: notesL V (a + 1) i : va_W) = OW at hP hlen
      refine a_new (pre := pre) (a := a) (ci := 2) (fs := abl_2) C gin_2 tyX2 tyX2_ok wd_186 wd_188 wd_74 hP ha hlen hS rfl abl_2_ok (by omega) (by omega) dX9_blankNotes_16 (fun H hP hS => ?_)
      refine lv_dup C.1 C.2.1 dX9_blankNotes_19 rfl ?_
      have hlen2 : a + (1 + 4 * i) = base + (pre ++ OW).length := by rw [List.length_append, ha, hlen]; omega
      refine a_callI (rest := [.ref (a + (1 + 4 * i)), .int (g32 (i : Int)), .ref a]) C (hcode := wd_191) (hini := wd_74) (hy := ⟨rfl, by decide, by decide, by decide +kernel⟩) (hinst := wd_190) (hw := wd_189) ⟨by decide, by decide⟩ hl.1 (Nat.le_of_ble_eq_true rfl) ⟨by omega, by omega⟩ (by rw [← List.append_assoc] at hP; exact hP) hS (kX2_init l V base (pre ++ OW) (a + (1 + 4 * i)) hlen2) dX9_blankNotes_20 (fun H locs hP hS => ?_)
      rw [List.append_assoc] at hP
      have hq : (pre ++ (OW ++ noteW V (a + (1 + 4 * i))))[pre.length + (1 + 4 * i)]? = some (a + (1 + 4 * i), .inr (2, [.int (g32 0), .int (g32 0), .ref (a + (1 + 4 * i) + 1), .ref (a + (1 + 4 * i) + 2), .ref (a + (1 + 4 * i) + 3)])) := aget (by rw [List.getElem?_append_right (by omega), hlen, show 1 + 4 * i - (1 + 4 * i) = 0 by omega]; rfl)
      subst hOW
      refine a_aast (pre := pre) (r := (RX2, TX2, 5)) (z := (i : Int)) C hP hS 0 2 _ 2 rfl rfl hq rfl ⟨by omega, by omega, by omega⟩ dX9_blankNotes_23 (fun H locs hP hS => ?_)
      rw [Int.toNat_natCast, show a + (1 + 4 * i) = a + 1 + 4 * i by omega] at hP
      have hP : aS V.1 base (pre ++ ((a, .inl (V.2.1 3, 12, .inr (.inr (.inr (.inr (va_up (fun k => if k < i then some (a + 1 + 4 * k) else none) i (some (a + 1 + 4 * i)))))))) :: (notesL V (a + 1) i ++ noteW V (a + 1 + 4 * i)))) H := hP
      rw [aQ_up 12 (a + 1) 4 i (by omega), ← notesL_s] at hP
      refine lv_iinc (v := g32 ((i + 1 : Nat) : Int)) (lv' := [(1, .int (g32 ((i + 1 : Nat) : Int))), (0, .ref a)]) C.1 C.2.1 dX9_blankNotes_24 hl (k := 0) rfl (Int32.ofInt_add (i : Int) 1).symm (by decide) rfl (fun ls hl => ?_)
      refine lv_goto (tgt := 8) C.1 C.2.1 dX9_blankNotes_27 (by decide) ?_
      refine W.widen (k := 1 + 4 * (i + 1)) (n := 12 + 23 * (i + 1)) (by omega) (by omega) ?_
      exact ih (i + 1) (by omega) H locs ls hP hS hl
  refine W.widen (k := 1 + 4 * 0) (n := 12 + 23 * 0) (Nat.le_of_ble_eq_true rfl) (Nat.le_of_ble_eq_true rfl) ?_
  refine key 12 0 rfl H _ ls ?_ hS hl
  have e0 : (fun k : Nat => if k < 0 then some (a + 1 + 4 * k) else none) = fun _ => none := by funext k; rw [if_neg (by omega)]
  rw [e0]
  exact hP

set_option maxRecDepth 100000 in
set_option maxHeartbeats 4000000 in
theorem kX5_init (l : Launch) (V : gW) (base : Nat) (pre : va_W) (a : Nat) (ha : a = base + pre.length) : aMv l V base yX5_init cX5_init 1 3 88 52 450 [.ref a] (pre ++ [(a, .inr (5, abl_5))]) (pre ++ slotW V a) := by
  refine Met.ofW (cc := cX5_init) (maxL := 1) (ret := none) (by decide) rfl ?_
  intro p e s m args below meth c s₁ B hml hv
  obtain ⟨rfl, hP, hK, hE, hb0⟩ := hv
  have hts0 := atoms_spec (ws := gws' yX5_init cX5_init 1 none) B.pre
  have C : aC p (headSpec (gws' yX5_init cX5_init 1 none) { frames := 3, cells := 52, slots := 450, locals := 88 }).room s m ([.ref a] : List Value).toArray c V base cX5_init 1 "BunchNotes$Slot" 3 88 52 450 := ⟨B.exec, B.bytes, hml, findClass_of_methodNamed B.named, fun w hw => hts0 w (List.mem_cons_of_mem _ hw), hK, hE, hb0, rfl, rfl, rfl, rfl⟩
  have hr := B.returns
  have hlocks := B.notSynchronized
  have hin : meth.name = "<init>" := (name_of_methodNamed B.named B.method).1
  have hS : va_S (aA base) s.heap s.heap [] := va_S.rf
  have hl := lv_entry ([.ref a]) (n := 1) (Nat.le_of_ble_eq_true rfl)
  rw [lg_entry_eq]
  generalize (lg_sl ([.ref a]) ++ List.replicate (1 - (lg_sl ([.ref a])).length) Slot.unset).toArray = ls at hl ⊢
  have hl : lv_has ls 1 [(0, .ref a)] := hl
  refine lv_aload_n C.1 C.2.1 dX5_init_0 rfl (lv_at hl 0 rfl) ?_
  refine a_obj (b := a) C wd_218 (by decide) (Nat.le_of_ble_eq_true rfl) hl.1 dX5_init_1 ?_
  refine lv_aload_n C.1 C.2.1 dX5_init_4 rfl (lv_at hl 0 rfl) ?_
  refine a_new (pre := pre) (a := a) (ci := 1) (fs := abl_1) C gin_1 tyX1 tyX1_ok wd_219 wd_98 wd_71 hP ha (n := 1) rfl hS rfl abl_1_ok (Nat.le_of_ble_eq_true rfl) (Nat.le_of_ble_eq_true rfl) dX5_init_5 (fun H hP hS => ?_)
  refine lv_dup C.1 C.2.1 dX5_init_8 rfl ?_
  have hlen : a + 1 = base + (pre ++ ([(a, .inr (5, [.int (g32 0), .null, .null]))] : va_W)).length := by rw [List.length_append, ha]; show base + pre.length + 1 = base + (pre.length + 1); omega
  refine a_callI (rest := [.ref (a + 1), .ref a]) C (hcode := wd_101) (hini := wd_71) (hy := ⟨rfl, by decide, by decide, by decide +kernel⟩) (hinst := wd_100) (hw := wd_220) ⟨by decide, by decide⟩ hl.1 (Nat.le_of_ble_eq_true rfl) ⟨Nat.le_of_ble_eq_true rfl, Nat.le_of_ble_eq_true rfl⟩ (by rw [← List.append_assoc] at hP; exact hP) hS (kX1_init l V base (pre ++ ([(a, .inr (5, [.int (g32 0), .null, .null]))] : va_W)) (a + 1) hlen) dX5_init_9 (fun H locs hP hS => ?_)
  rw [List.append_assoc] at hP
  have hP : aS V.1 base (pre ++ ((a, .inr (5, [.int (g32 0), .null, .null])) :: (netW V (a + 1)) : va_W)) H := hP
  refine a_putF (pre := pre) (ty := .object "BunchNotes$Net") C gin_5 tyX5 tyX5_ok nmX5 hP hS 0 rfl rfl 1 (by decide) wd_223 rfl hin rfl (by decide +kernel) rfl rfl (Nat.le_of_ble_eq_true rfl) dX5_init_12 (fun H locs hP hS => ?_)
  have hP : aS V.1 base (pre ++ ((a, .inr (5, [.int (g32 0), .ref (a + 1), .null])) :: (netW V (a + 1)) : va_W)) H := hP
  refine lv_aload_n C.1 C.2.1 dX5_init_15 rfl (lv_at hl 0 rfl) ?_
  have hlen : a + 4 = base + (pre ++ ((a, .inr (5, [.int (g32 0), .ref (a + 1), .null])) :: (netW V (a + 1)) : va_W)).length := by rw [List.length_append, ha]; show base + pre.length + 4 = base + (pre.length + 4); omega
  refine a_callRN (rest := [.ref a]) C (hcode := wd_185) (hini := wd_70) (hy := ⟨by decide, by decide, by decide +kernel⟩) (hstat := wd_184) (hw := C.2.2.2.2.2.2.1.1) ⟨by decide, by decide⟩ hl.1 (Nat.le_of_ble_eq_true rfl) ⟨Nat.le_of_ble_eq_true rfl, Nat.le_of_ble_eq_true rfl⟩ hP hS (kX9_blankNotes l V base (pre ++ ((a, .inr (5, [.int (g32 0), .ref (a + 1), .null])) :: (netW V (a + 1)) : va_W)) (a + 4) hlen) dX5_init_16 (fun H locs hP hS => ?_)
  rw [List.append_assoc] at hP
  have hP : aS V.1 base (pre ++ ((a, .inr (5, [.int (g32 0), .ref (a + 1), .null])) :: (netW V (a + 1) ++ notesW V (a + 4)) : va_W)) H := hP
  refine a_putF (pre := pre) (ty := .array (.object "BunchNotes$Note")) C gin_5 tyX5 tyX5_ok nmX5 hP hS 0 rfl rfl 2 (by decide) wd_225 rfl hin rfl (by decide +kernel) rfl rfl (Nat.le_of_ble_eq_true rfl) dX5_init_19 (fun H locs hP hS => ?_)
  have hP : aS V.1 base (pre ++ ((a, .inr (5, [.int (g32 0), .ref (a + 1), .ref (a + 4)])) :: (netW V (a + 1) ++ notesW V (a + 4)) : va_W)) H := hP
  refine W.widen (k := 52) (n := 450) (Nat.le_of_ble_eq_true rfl) (Nat.le_of_ble_eq_true rfl) ?_
  exact W.vret C.1 C.2.1 hr (fun t ht hW => ⟨⟨(), rfl, trivial, by show aS V.1 base _ t.heap; rw [ht]; exact hP⟩, hS.F ht⟩) hS.2.2 dX5_init_22

