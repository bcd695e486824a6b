def va_AOA (ty : FieldType) (U : State) : Prop := (Cond.arrayOver (.array ty)).before #[] U = true
theorem va_AOA.of {ty : FieldType} {A : Array Value} {U : State} (h : (Cond.arrayOver (.array ty)).before A U = true) : va_AOA ty U := h
theorem va_AOA.use {ty : FieldType} {A : Array Value} {U : State} (h : va_AOA ty U) : (Cond.arrayOver (.array ty)).before A U = true := h
/-! ===== BEGIN new T[n][m]: the outer array a place, the inner ones among the pooled ===== -/
/-- f, but v at every address of l -/
def vr_up {α : Type} (f : Nat → α) (l : List Nat) (v : α) : Nat → α := fun a => if a ∈ l then v else f a
theorem vr_up_in {α : Type} {f : Nat → α} {l : List Nat} {v : α} {a : Nat} (h : a ∈ l) : vr_up f l v a = v := if_pos h
theorem vr_up_ne {α : Type} {f : Nat → α} {l : List Nat} {v : α} {a : Nat} (h : a ∉ l) : vr_up f l v a = f a := if_neg h
theorem vr_rows {L l : List Nat} {f : Nat → va_E} {e : va_E} (h : ∀ a, a ∈ l → a ∉ L) : va_pl L f ++ l.map (fun a => (a, e)) = va_pl (L ++ l) (vr_up f l e) := by
  unfold va_pl
  rw [List.map_append]
  congr 1
  · apply List.map_congr_left
    intro a ha
    rw [vr_up_ne (fun q => h a q ha)]
  · apply List.map_congr_left
    intro a ha
    rw [vr_up_in ha]
theorem vr_lay {X rows : va_W} {x : Nat × va_E} {pl : va_W} {D : va_G} {cl : List vw_C} {H : Heap} (hP : va_P D cl (((X ++ pl) ++ [x]) ++ rows) H) : va_P D cl ((X ++ [x]) ++ (pl ++ rows)) H := by
  rw [List.append_assoc (X ++ pl)] at hP
  have h := va_P.swap hP
  rw [← List.append_assoc X] at h
  have h2 := va_P.swap h
  rw [List.append_assoc (X ++ [x])] at h2
  exact h2
theorem vr_layD {X rows : va_W} {x : Nat × va_E} {pl : va_W} {A : Nat → Prop} (hD : va_D A (((X ++ pl) ++ [x]) ++ rows)) : va_D A ((X ++ [x]) ++ (pl ++ rows)) := by
  rw [List.append_assoc (X ++ pl)] at hD
  have h := va_D.swap hD
  rw [← List.append_assoc X] at h
  have h2 := va_D.swap h
  rw [List.append_assoc (X ++ [x])] at h2
  exact h2
theorem vr_outer (c : ClassId) (N h0 : Nat) : ∀ i : Nat, Jvm.Free.Multi.outerC c N h0 i = arrV c N (fun j => va_rf (if j < i then some (h0 + 1 + j) else none))
  | 0 => by
    show ({ cls := c, slots := Array.replicate N .null, vm := .none } : Cell) = _
    rw [arrV_new]
    refine congrArg (arrV c N) (funext fun j => ?_)
    simp [va_rf]
  | i + 1 => by
    show (Jvm.Free.Multi.outerC c N h0 i).setSlot i (.ref (h0 + 1 + i)) = _
    rw [vr_outer c N h0 i, arrV_store]
    refine congrArg (arrV c N) (funext fun j => ?_)
    by_cases e : j = i
    · subst e
      simp [updV, va_rf]
    · by_cases h : j < i
      · simp [updV, e, h, Nat.lt_succ_of_lt h]
      · simp [updV, e, h, show ¬ j < i + 1 by omega]
section VGM
variable {p : Program} {l : Launch} {e : Env} {R : Room} {s : State} {m : MethodId} {args : Array Value} {below : List Frame} {meth : Method} {c : Code} {H : Heap} {locs : List Loc} {cells slots : Nat} {Q : State → Prop}
variable {cc : ByteArray} {pc : Nat} {ls : Array Slot} {rest : List Value} {D : va_G} {cl : List vw_C} {A : Nat → Prop} {a : Nat} {tys : List (ClassId × FieldType)} {ws : va_W} {H0 : Heap}
theorem va_mna {X : va_W} {L : List Nat} {f : Nat → va_E} {cc : ByteArray} (hexec : p.tables.exec = Jvm.exec) (hb : c.code = cc) {own : String} {index : Nat} {ty : FieldType} {cy : ClassId} (hown : s.vm.findClass own = some m.cls) (hclink : (Cond.classLink own index ("[" ++ (FieldType.array ty).toString)).before args s = true) (hover : va_AOA ty s) (harr : (Cond.arrayClass ty).before args s = true) (hcy : s.vm.findClass (FieldType.array ty).toString = some cy)
    (hK : va_K D cl tys s) (hP : va_P D cl (X ++ va_pl L f) H) (hD : va_D A (X ++ va_pl L f)) (hS : va_S A H0 H locs) (hA : ∀ q, H0.size ≤ q → A q) {n k : Int32} {N' K' : Nat} {z : vp_A} (hn : ¬ n < 0) (hk : ¬ k < 0) (hN : n.toNatClampNeg = N') (hM : k.toNatClampNeg = K')
    (hb1 : N' * 4 ≤ 536870912) (hb2 : K' * componentBytes ty ≤ 536870912) (hb3 : K' ≤ 536870912) (hdf : fits ty (defaultValue ty) = true) (hdd : (defaultValue ty).isDefault = true) (hcells : cells + (1 + N') ≤ R.cells) (hslots : slots + (N' + N' * K') ≤ R.slots) (hz : ∀ c : ClassId, Jvm.Free.Multi.innerC c K' (defaultValue ty) = vp_cell c z) (hdg : decode cc pc = .ok (.multianewarray index 2, 4))
    (kk : ∀ (q : Nat) (r : Nat → Nat) (cA : ClassId) (H1 : Heap), (∀ i j : Nat, i < N' → j < N' → r i = r j → i = j) → (∀ i : Nat, i < N' → r i ∉ L) → va_K D cl (tys ++ [(cA, .array ty)]) s →
      va_P D cl ((X ++ [(q, .inl (cA, N', .inr (.inr (.inr (.inr (fun i => if i < N' then some (r i) else none))))))]) ++ va_pl (L ++ (List.range N').map r) (vr_up f ((List.range N').map r) (.inl (cy, z)))) H1 → va_D A ((X ++ [(q, .inl (cA, N', .inr (.inr (.inr (.inr (fun i => if i < N' then some (r i) else none))))))]) ++ va_pl (L ++ (List.range N').map r) (vr_up f ((List.range N').map r) (.inl (cy, z)))) → va_S A H0 H1 locs →
      W p l e R s m args below meth c H1 locs (cells + 1 + N') (slots + N' + N' * K') Q (F0 m (pc + 4) ls (.ref q :: rest))) : W p l e R s m args below meth c H locs cells slots Q (F0 m pc ls (.int k :: .int n :: rest)) := by
  subst hN
  subst hM
  intro T hT Xs
  obtain ⟨vm₁, cA, comp, -, fA, fC, hO, -, X', step⟩ := Xs.multianewarray2F hexec hown hclink (va_AOA.use hover) harr (g := F0 m pc ls (.int k :: .int n :: rest)) rfl (by rw [hb]; exact hdg) rfl hn hk hb1 hb2 hb3 hdf hdd hcells hslots
  have ec : some cy = some comp := hcy.symm.trans fC
  cases ec
  generalize hF : Jvm.Free.Multi.fill (T.setVm vm₁) cA cy n.toNatClampNeg k.toNatClampNeg (defaultValue ty) n.toNatClampNeg = F at X' step
  have hTh : (T.setVm vm₁).heap = H := hT
  obtain ⟨f1, f2, -, -⟩ := Jvm.Free.Multi.fill_facts (T.setVm vm₁) cA cy n.toNatClampNeg k.toNatClampNeg (defaultValue ty) n.toNatClampNeg
  rw [hF, hTh] at f1 f2
  have hold : ∀ x : Nat, x < H.size → F.heap[x]? = H[x]? := fun x hx => by
    have := Jvm.Free.Multi.fill_old (T.setVm vm₁) cA cy n.toNatClampNeg k.toNatClampNeg (defaultValue ty) (a := x) (by rw [hTh]; exact hx) n.toNatClampNeg
    rw [hF, hTh] at this
    exact this
  have hrow : ∀ j : Nat, j < n.toNatClampNeg → F.heap[H.size + 1 + j]? = some (vp_cell cy z) := fun j hj => by
    have := Jvm.Free.Multi.fill_inner (T.setVm vm₁) cA cy n.toNatClampNeg k.toNatClampNeg (defaultValue ty) n.toNatClampNeg j hj
    rw [hF, hTh, hz] at this
    exact this
  have hout : Jvm.Free.Multi.outerC cA n.toNatClampNeg H.size n.toNatClampNeg = vp_cell cA (n.toNatClampNeg, .inr (.inr (.inr (.inr (fun i => if i < n.toNatClampNeg then some (H.size + 1 + i) else none))))) := by
    rw [vp_cell_q]
    exact vr_outer cA n.toNatClampNeg H.size n.toNatClampNeg
  rw [hout] at f2
  have hlt : ∀ a, a ∈ L → a < H.size := fun a ha => by
    obtain ⟨k9, hk9⟩ := va_pl_get (X := X) (f := f) ha
    exact (hP k9 _ hk9).lt
  have hnl : ∀ i : Nat, i < n.toNatClampNeg → H.size + 1 + i ∉ L := fun i _ h => by
    have := hlt _ h
    omega
  have hnm : ∀ a, a ∈ (List.range n.toNatClampNeg).map (fun i => H.size + 1 + i) → a ∉ L := fun a ha h => by
    obtain ⟨i, -, rfl⟩ := List.mem_map.mp ha
    have := hlt _ h
    omega
  have hP0 : va_P D cl (X ++ va_pl L f) F.heap := hP.kept (fun k9 x hx => hold x.1 ((hP k9 x hx).lt))
  have hP1 : va_P D cl ((X ++ va_pl L f) ++ [(H.size, .inl (cA, n.toNatClampNeg, .inr (.inr (.inr (.inr (fun i => if i < n.toNatClampNeg then some (H.size + 1 + i) else none))))))]) F.heap := hP0.app (fun k9 x hx => by
    have h0 : k9 < 1 := (List.getElem?_eq_some_iff.mp hx).1
    rw [show k9 = 0 by omega] at hx
    cases hx
    exact f2)
  have hP2 : va_P D cl (((X ++ va_pl L f) ++ [(H.size, .inl (cA, n.toNatClampNeg, .inr (.inr (.inr (.inr (fun i => if i < n.toNatClampNeg then some (H.size + 1 + i) else none))))))]) ++ ((List.range n.toNatClampNeg).map (fun i => H.size + 1 + i)).map (fun a => (a, .inl (cy, z)))) F.heap := hP1.app (fun k9 x hx => by
    obtain ⟨a, ha, rfl⟩ := List.mem_map.mp (List.mem_of_getElem? hx)
    obtain ⟨i, hi, rfl⟩ := List.mem_map.mp ha
    exact hrow i (List.mem_range.mp hi))
  have hD2 : va_D A (((X ++ va_pl L f) ++ [(H.size, .inl (cA, n.toNatClampNeg, .inr (.inr (.inr (.inr (fun i => if i < n.toNatClampNeg then some (H.size + 1 + i) else none))))))]) ++ ((List.range n.toNatClampNeg).map (fun i => H.size + 1 + i)).map (fun a => (a, .inl (cy, z)))) := by
    have hD1 := hD.push (e := .inl (cA, n.toNatClampNeg, .inr (.inr (.inr (.inr (fun i => if i < n.toNatClampNeg then some (H.size + 1 + i) else none)))))) hP rfl (hA _ hS.1)
    generalize hW1 : (X ++ va_pl L f) ++ [(H.size, .inl (cA, n.toNatClampNeg, .inr (.inr (.inr (.inr (fun i => if i < n.toNatClampNeg then some (H.size + 1 + i) else none))))))] = W1 at hD1 hP1 ⊢
    have hle : ∀ (k9 : Nat) (x : Nat × va_E), W1[k9]? = some x → x.1 ≤ H.size := fun k9 x hx => by
      rw [← hW1] at hx
      by_cases hl : k9 < (X ++ va_pl L f).length
      · rw [List.getElem?_append_left hl] at hx
        exact Nat.le_of_lt ((hP k9 x hx).lt)
      · rw [List.getElem?_append_right (by omega)] at hx
        have h0 : k9 - (X ++ va_pl L f).length < 1 := (List.getElem?_eq_some_iff.mp hx).1
        rw [show k9 - (X ++ va_pl L f).length = 0 by omega] at hx
        cases hx
        exact Nat.le_refl _
    have hr : ∀ (k9 : Nat) (x : Nat × va_E), (((List.range n.toNatClampNeg).map (fun i => H.size + 1 + i)).map (fun a => ((a, .inl (cy, z)) : Nat × va_E)))[k9]? = some x → x.1 = H.size + 1 + k9 := fun k9 x hx => by
      rw [List.getElem?_map, List.getElem?_map] at hx
      by_cases h9 : k9 < n.toNatClampNeg
      · rw [List.getElem?_range h9] at hx
        cases hx
        rfl
      · have hn0 : (List.range n.toNatClampNeg)[k9]? = none := List.getElem?_eq_none (by rw [List.length_range]; omega)
        rw [hn0] at hx
        cases hx
    refine ⟨fun i j x y hi hj hxy => ?_, fun k9 x hx => ?_⟩
    · by_cases h1 : i < W1.length <;> by_cases h2 : j < W1.length
      · rw [List.getElem?_append_left h1] at hi
        rw [List.getElem?_append_left h2] at hj
        exact hD1.1 i j x y hi hj hxy
      · rw [List.getElem?_append_left h1] at hi
        rw [List.getElem?_append_right (by omega)] at hj
        have := hle _ _ hi
        have := hr _ _ hj
        omega
      · rw [List.getElem?_append_right (by omega)] at hi
        rw [List.getElem?_append_left h2] at hj
        have := hle _ _ hj
        have := hr _ _ hi
        omega
      · rw [List.getElem?_append_right (by omega)] at hi hj
        have := hr _ _ hi
        have := hr _ _ hj
        omega
    · by_cases h1 : k9 < W1.length
      · rw [List.getElem?_append_left h1] at hx
        exact hD1.2 k9 x hx
      · rw [List.getElem?_append_right (by omega)] at hx
        have := hr _ _ hx
        exact hA _ (by have := hS.1; omega)
  have hAr : ArrOfT s cA (.array ty) := fun N9 z9 => by
    obtain ⟨-, k9, hk9, cm9, hkk9⟩ := (hO 0 0 0).1
    exact ⟨(fun q hq => by cases hq), k9, hk9, cm9, hkk9⟩
  have hK2 : va_K D cl (tys ++ [(cA, .array ty)]) s := ⟨hK.1, fun k9 x hx => by
    by_cases hl : k9 < tys.length
    · rw [List.getElem?_append_left hl] at hx
      exact hK.2 k9 x hx
    · rw [List.getElem?_append_right (by omega)] at hx
      have h0 : k9 - tys.length < 1 := (List.getElem?_eq_some_iff.mp hx).1
      rw [show k9 - tys.length = 0 by omega] at hx
      cases hx
      exact ⟨hAr, fA⟩⟩
  obtain ⟨t, a1, b1⟩ := kk H.size (fun i => H.size + 1 + i) cA F.heap (fun i j _ _ h => by have h9 : H.size + 1 + i = H.size + 1 + j := h; omega) hnl hK2 (by rw [← vr_rows hnm]; exact vr_lay hP2) (by rw [← vr_rows hnm]; exact vr_layD hD2) ⟨by rw [f1]; have := hS.1; omega, fun x h1 h2 => (hold x (Nat.lt_of_lt_of_le h1 hS.1)).trans (hS.2.1 x h1 h2), hS.2.2⟩ F rfl X'
  refine ⟨t, step t ?_, b1⟩
  have e : T.heap.size = H.size := by rw [hT]
  rw [e]
  exact a1
end VGM
/-! ===== END ===== -/

/-! ===== BEGIN printed: names, fields, word lists, decode rows ===== -/
def RX0 : String := "BunchNotes$Far"
def TX0 : u_T := fun k => match k with
  | 0 => ("BunchNotes$Far", "nodes", "I", false)
  | 1 => ("BunchNotes$Far", "seen", "I", false)
  | _ => ("BunchNotes$Far", "table", "[[I", true)
def tyX0 : Nat → FieldType := fun k => match k with
  | 0 => .int
  | 1 => .int
  | _ => .array (.array .int)
abbrev wsX00 : List Cond := u_ws RX0 TX0 3
theorem nmX0 : ∀ a, a < 3 → ∀ b, b < 3 → a ≠ b → (TX0 a).2.1 ≠ (TX0 b).2.1 := by decide +kernel
theorem tyX0_ok : ∀ k, k < 3 → parseFieldDescriptor (TX0 k).2.2.1 = some (tyX0 k) := by decide +kernel
abbrev cX0_init : ByteArray := prog_2_method_1_code
def yX0_init : MethodName := ⟨RX0, "<init>", "()V"⟩
abbrev cX0_follow : ByteArray := prog_2_method_2_code
def yX0_follow : MethodName := ⟨RX0, "follow", "(LBunchNotes$Net;)V"⟩
abbrev cX0_clear : ByteArray := prog_2_method_3_code
def yX0_clear : MethodName := ⟨RX0, "clear", "(I)V"⟩
abbrev cX0_between : ByteArray := prog_2_method_4_code
def yX0_between : MethodName := ⟨RX0, "between", "(II)I"⟩
abbrev cX0_add : ByteArray := prog_2_method_5_code
def yX0_add : MethodName := ⟨RX0, "add", "(III)V"⟩
def RX1 : String := "BunchNotes$Net"
def TX1 : u_T := fun k => match k with
  | 0 => ("BunchNotes$Net", "nodes", "I", false)
  | 1 => ("BunchNotes$Net", "links", "I", false)
  | 2 => ("BunchNotes$Net", "draw", "I", false)
  | 3 => ("BunchNotes$Net", "version", "I", false)
  | 4 => ("BunchNotes$Net", "lengths", "[I", true)
  | _ => ("BunchNotes$Net", "levels", "[I", true)
def tyX1 : Nat → FieldType := fun k => match k with
  | 0 => .int
  | 1 => .int
  | 2 => .int
  | 3 => .int
  | 4 => .array .int
  | _ => .array .int
abbrev wsX10 : List Cond := u_ws RX1 TX1 6
theorem nmX1 : ∀ a, a < 6 → ∀ b, b < 6 → a ≠ b → (TX1 a).2.1 ≠ (TX1 b).2.1 := by decide +kernel
theorem tyX1_ok : ∀ k, k < 6 → parseFieldDescriptor (TX1 k).2.2.1 = some (tyX1 k) := by decide +kernel
abbrev cX1_init : ByteArray := prog_3_method_1_code
def yX1_init : MethodName := ⟨RX1, "<init>", "()V"⟩
abbrev cX1_has : ByteArray := prog_3_method_2_code
def yX1_has : MethodName := ⟨RX1, "has", "(I)Z"⟩
abbrev cX1_lengthOf : ByteArray := prog_3_method_3_code
def yX1_lengthOf : MethodName := ⟨RX1, "lengthOf", "(II)I"⟩
abbrev cX1_levelOf : ByteArray := prog_3_method_4_code
def yX1_levelOf : MethodName := ⟨RX1, "levelOf", "(I)I"⟩
abbrev cX1_hasRoomFor : ByteArray := prog_3_method_5_code
def yX1_hasRoomFor : MethodName := ⟨RX1, "hasRoomFor", "(II)Z"⟩
abbrev cX1_setLength : ByteArray := prog_3_method_6_code
def yX1_setLength : MethodName := ⟨RX1, "setLength", "(III)V"⟩
abbrev cX1_setLevel : ByteArray := prog_3_method_7_code
def yX1_setLevel : MethodName := ⟨RX1, "setLevel", "(II)V"⟩
abbrev cX1_cellOfLink : ByteArray := prog_3_method_8_code
def yX1_cellOfLink : MethodName := ⟨RX1, "cellOfLink", "(I)I"⟩
abbrev cX1_nodesOfLevel : ByteArray := prog_3_method_9_code
def yX1_nodesOfLevel : MethodName := ⟨RX1, "nodesOfLevel", "(I)I"⟩
abbrev cX1_drawLevels : ByteArray := prog_3_method_10_code
def yX1_drawLevels : MethodName := ⟨RX1, "drawLevels", "(I)V"⟩
abbrev cX1_startWith : ByteArray := prog_3_method_11_code
def yX1_startWith : MethodName := ⟨RX1, "startWith", "(I)V"⟩
abbrev cX1_copyFrom : ByteArray := prog_3_method_12_code
def yX1_copyFrom : MethodName := ⟨RX1, "copyFrom", "(LBunchNotes$Net;)V"⟩
def RX2 : String := "BunchNotes$Note"
def TX2 : u_T := fun k => match k with
  | 0 => ("BunchNotes$Note", "written", "Z", false)
  | 1 => ("BunchNotes$Note", "bunch", "I", false)
  | 2 => ("BunchNotes$Note", "nearestNodes", "[I", true)
  | 3 => ("BunchNotes$Note", "nearestFars", "[I", true)
  | _ => ("BunchNotes$Note", "fars", "[I", true)
def tyX2 : Nat → FieldType := fun k => match k with
  | 0 => .boolean
  | 1 => .int
  | 2 => .array .int
  | 3 => .array .int
  | _ => .array .int
abbrev wsX20 : List Cond := u_ws RX2 TX2 5
theorem nmX2 : ∀ a, a < 5 → ∀ b, b < 5 → a ≠ b → (TX2 a).2.1 ≠ (TX2 b).2.1 := by decide +kernel
theorem tyX2_ok : ∀ k, k < 5 → parseFieldDescriptor (TX2 k).2.2.1 = some (tyX2 k) := by decide +kernel
abbrev cX2_init : ByteArray := prog_4_method_1_code
def yX2_init : MethodName := ⟨RX2, "<init>", "()V"⟩
abbrev cX2_nearestAt : ByteArray := prog_4_method_2_code
def yX2_nearestAt : MethodName := ⟨RX2, "nearestAt", "(I)I"⟩
abbrev cX2_nearestFarAt : ByteArray := prog_4_method_3_code
def yX2_nearestFarAt : MethodName := ⟨RX2, "nearestFarAt", "(I)I"⟩
abbrev cX2_holds : ByteArray := prog_4_method_4_code
def yX2_holds : MethodName := ⟨RX2, "holds", "(I)Z"⟩
abbrev cX2_farOf : ByteArray := prog_4_method_5_code
def yX2_farOf : MethodName := ⟨RX2, "farOf", "(I)I"⟩
abbrev cX2_write : ByteArray := prog_4_method_6_code
def yX2_write : MethodName := ⟨RX2, "write", "(LBunchNotes$Net;LBunchNotes$Far;I)V"⟩
abbrev cX2_findNearest : ByteArray := prog_4_method_7_code
def yX2_findNearest : MethodName := ⟨RX2, "findNearest", "(LBunchNotes$Net;LBunchNotes$Far;II)V"⟩
abbrev cX2_isNear : ByteArray := prog_4_method_8_code
def yX2_isNear : MethodName := ⟨RX2, "isNear", "(II)Z"⟩
abbrev cX2_bearsSameAs : ByteArray := prog_4_method_9_code
def yX2_bearsSameAs : MethodName := ⟨RX2, "bearsSameAs", "(LBunchNotes$Note;)Z"⟩
abbrev cX2_copyFrom : ByteArray := prog_4_method_10_code
def yX2_copyFrom : MethodName := ⟨RX2, "copyFrom", "(LBunchNotes$Note;)V"⟩
def RX3 : String := "BunchNotes$Past"
def TX3 : u_T := fun k => match k with
  | 0 => ("BunchNotes$Past", "size", "I", false)
  | 1 => ("BunchNotes$Past", "top", "I", false)
  | _ => ("BunchNotes$Past", "ring", "[LBunchNotes$Net;", true)
def tyX3 : Nat → FieldType := fun k => match k with
  | 0 => .int
  | 1 => .int
  | _ => .array (.object "BunchNotes$Net")
abbrev wsX30 : List Cond := u_ws RX3 TX3 3
theorem nmX3 : ∀ a, a < 3 → ∀ b, b < 3 → a ≠ b → (TX3 a).2.1 ≠ (TX3 b).2.1 := by decide +kernel
theorem tyX3_ok : ∀ k, k < 3 → parseFieldDescriptor (TX3 k).2.2.1 = some (tyX3 k) := by decide +kernel
abbrev cX3_init : ByteArray := prog_5_method_1_code
def yX3_init : MethodName := ⟨RX3, "<init>", "()V"⟩
abbrev cX3_push : ByteArray := prog_5_method_2_code
def yX3_push : MethodName := ⟨RX3, "push", "(LBunchNotes$Net;)V"⟩
abbrev cX3_pop : ByteArray := prog_5_method_3_code
def yX3_pop : MethodName := ⟨RX3, "pop", "(LBunchNotes$Net;)V"⟩
def RX4 : String := "BunchNotes$Peak"
def TX4 : u_T := fun k => match k with
  | 0 => ("BunchNotes$Peak", "above", "I", false)
  | 1 => ("BunchNotes$Peak", "below", "I", false)
  | 2 => ("BunchNotes$Peak", "u", "I", false)
  | 3 => ("BunchNotes$Peak", "v", "I", false)
  | _ => ("BunchNotes$Peak", "met", "I", false)
def tyX4 : Nat → FieldType := fun k => match k with
  | 0 => .int
  | 1 => .int
  | 2 => .int
  | 3 => .int
  | _ => .int
abbrev wsX40 : List Cond := u_ws RX4 TX4 5
theorem nmX4 : ∀ a, a < 5 → ∀ b, b < 5 → a ≠ b → (TX4 a).2.1 ≠ (TX4 b).2.1 := by decide +kernel
theorem tyX4_ok : ∀ k, k < 5 → parseFieldDescriptor (TX4 k).2.2.1 = some (tyX4 k) := by decide +kernel
abbrev cX4_init : ByteArray := prog_6_method_1_code
def yX4_init : MethodName := ⟨RX4, "<init>", "()V"⟩
abbrev cX4_clear : ByteArray := prog_6_method_2_code
def yX4_clear : MethodName := ⟨RX4, "clear", "()V"⟩
abbrev cX4_offer : ByteArray := prog_6_method_3_code
def yX4_offer : MethodName := ⟨RX4, "offer", "(IIII)V"⟩
def RX5 : String := "BunchNotes$Slot"
def TX5 : u_T := fun k => match k with
  | 0 => ("BunchNotes$Slot", "filled", "Z", false)
  | 1 => ("BunchNotes$Slot", "net", "LBunchNotes$Net;", true)
  | _ => ("BunchNotes$Slot", "notes", "[LBunchNotes$Note;", true)
def tyX5 : Nat → FieldType := fun k => match k with
  | 0 => .boolean
  | 1 => .object "BunchNotes$Net"
  | _ => .array (.object "BunchNotes$Note")
abbrev wsX50 : List Cond := u_ws RX5 TX5 3
theorem nmX5 : ∀ a, a < 3 → ∀ b, b < 3 → a ≠ b → (TX5 a).2.1 ≠ (TX5 b).2.1 := by decide +kernel
theorem tyX5_ok : ∀ k, k < 3 → parseFieldDescriptor (TX5 k).2.2.1 = some (tyX5 k) := by decide +kernel
abbrev cX5_init : ByteArray := prog_7_method_1_code
def yX5_init : MethodName := ⟨RX5, "<init>", "()V"⟩
def RX6 : String := "BunchNotes$Telling"
def TX6 : u_T := fun k => match k with
  | 0 => ("BunchNotes$Telling", "reason", "I", false)
  | 1 => ("BunchNotes$Telling", "far", "I", false)
  | 2 => ("BunchNotes$Telling", "by", "I", false)
  | 3 => ("BunchNotes$Telling", "level", "I", false)
  | _ => ("BunchNotes$Telling", "last", "I", false)
def tyX6 : Nat → FieldType := fun k => match k with
  | 0 => .int
  | 1 => .int
  | 2 => .int
  | 3 => .int
  | _ => .int
abbrev wsX60 : List Cond := u_ws RX6 TX6 5
theorem nmX6 : ∀ a, a < 5 → ∀ b, b < 5 → a ≠ b → (TX6 a).2.1 ≠ (TX6 b).2.1 := by decide +kernel
theorem tyX6_ok : ∀ k, k < 5 → parseFieldDescriptor (TX6 k).2.2.1 = some (tyX6 k) := by decide +kernel
abbrev cX6_init : ByteArray := prog_8_method_1_code
def yX6_init : MethodName := ⟨RX6, "<init>", "()V"⟩
abbrev cX6_tell : ByteArray := prog_8_method_2_code
def yX6_tell : MethodName := ⟨RX6, "tell", "([LBunchNotes$Note;II)V"⟩
abbrev cX6_look : ByteArray := prog_8_method_3_code
def yX6_look : MethodName := ⟨RX6, "look", "([LBunchNotes$Note;II)I"⟩
def RX7 : String := "BunchNotes$Text"
def TX7 : u_T := fun k => match k with
  | 0 => ("BunchNotes$Text", "size", "I", false)
  | 1 => ("BunchNotes$Text", "clauses", "I", false)
  | 2 => ("BunchNotes$Text", "startsAnew", "Z", false)
  | 3 => ("BunchNotes$Text", "kind", "I", false)
  | 4 => ("BunchNotes$Text", "begin", "I", false)
  | 5 => ("BunchNotes$Text", "end", "I", false)
  | _ => ("BunchNotes$Text", "letters", "[I", true)
def tyX7 : Nat → FieldType := fun k => match k with
  | 0 => .int
  | 1 => .int
  | 2 => .boolean
  | 3 => .int
  | 4 => .int
  | 5 => .int
  | _ => .array .int
abbrev wsX70 : List Cond := u_ws RX7 TX7 7
theorem nmX7 : ∀ a, a < 7 → ∀ b, b < 7 → a ≠ b → (TX7 a).2.1 ≠ (TX7 b).2.1 := by decide +kernel
theorem tyX7_ok : ∀ k, k < 7 → parseFieldDescriptor (TX7 k).2.2.1 = some (tyX7 k) := by decide +kernel
abbrev cX7_init : ByteArray := prog_9_method_1_code
def yX7_init : MethodName := ⟨RX7, "<init>", "()V"⟩
abbrev cX7_append : ByteArray := prog_9_method_2_code
def yX7_append : MethodName := ⟨RX7, "append", "(I)V"⟩
abbrev cX7_readInto : ByteArray := prog_9_method_3_code
def yX7_readInto : MethodName := ⟨RX7, "readInto", "(LBunchNotes$Net;)I"⟩
abbrev cX7_readClause : ByteArray := prog_9_method_4_code
def yX7_readClause : MethodName := ⟨RX7, "readClause", "(LBunchNotes$Net;)Z"⟩
abbrev cX7_readNet : ByteArray := prog_9_method_5_code
def yX7_readNet : MethodName := ⟨RX7, "readNet", "(LBunchNotes$Net;)Z"⟩
abbrev cX7_readLink : ByteArray := prog_9_method_6_code
def yX7_readLink : MethodName := ⟨RX7, "readLink", "(LBunchNotes$Net;)Z"⟩
abbrev cX7_readLevel : ByteArray := prog_9_method_7_code
def yX7_readLevel : MethodName := ⟨RX7, "readLevel", "(LBunchNotes$Net;)Z"⟩
abbrev cX7_pass : ByteArray := prog_9_method_8_code
def yX7_pass : MethodName := ⟨RX7, "pass", "()V"⟩
abbrev cX7_kindAt : ByteArray := prog_9_method_9_code
def yX7_kindAt : MethodName := ⟨RX7, "kindAt", "(I)I"⟩
abbrev cX7_isSemicolon : ByteArray := prog_9_method_10_code
def yX7_isSemicolon : MethodName := ⟨RX7, "isSemicolon", "()Z"⟩
abbrev cX7_isWord : ByteArray := prog_9_method_11_code
def yX7_isWord : MethodName := ⟨RX7, "isWord", "(Ljava/lang/String;)Z"⟩
abbrev cX7_number : ByteArray := prog_9_method_12_code
def yX7_number : MethodName := ⟨RX7, "number", "(II)I"⟩
def RX8 : String := "BunchNotes$Thinning"
def TX8 : u_T := fun k => match k with
  | 0 => ("BunchNotes$Thinning", "size", "I", false)
  | 1 => ("BunchNotes$Thinning", "far", "LBunchNotes$Far;", true)
  | 2 => ("BunchNotes$Thinning", "seen", "I", false)
  | 3 => ("BunchNotes$Thinning", "times", "I", false)
  | 4 => ("BunchNotes$Thinning", "links", "I", false)
  | 5 => ("BunchNotes$Thinning", "order", "[I", true)
  | _ => ("BunchNotes$Thinning", "taken", "[I", true)
def tyX8 : Nat → FieldType := fun k => match k with
  | 0 => .int
  | 1 => .object "BunchNotes$Far"
  | 2 => .int
  | 3 => .int
  | 4 => .int
  | 5 => .array .int
  | _ => .array .int
abbrev wsX80 : List Cond := u_ws RX8 TX8 7
theorem nmX8 : ∀ a, a < 7 → ∀ b, b < 7 → a ≠ b → (TX8 a).2.1 ≠ (TX8 b).2.1 := by decide +kernel
theorem tyX8_ok : ∀ k, k < 7 → parseFieldDescriptor (TX8 k).2.2.1 = some (tyX8 k) := by decide +kernel
abbrev cX8_init : ByteArray := prog_10_method_1_code
def yX8_init : MethodName := ⟨RX8, "<init>", "()V"⟩
abbrev cX8_takes : ByteArray := prog_10_method_2_code
def yX8_takes : MethodName := ⟨RX8, "takes", "(II)Z"⟩
abbrev cX8_follow : ByteArray := prog_10_method_3_code
def yX8_follow : MethodName := ⟨RX8, "follow", "(LBunchNotes$Net;I)V"⟩
abbrev cX8_take : ByteArray := prog_10_method_4_code
def yX8_take : MethodName := ⟨RX8, "take", "(III)V"⟩
abbrev cX8_clear : ByteArray := prog_10_method_5_code
def yX8_clear : MethodName := ⟨RX8, "clear", "(I)V"⟩
abbrev cX8_sortLinks : ByteArray := prog_10_method_6_code
def yX8_sortLinks : MethodName := ⟨RX8, "sortLinks", "(LBunchNotes$Net;)V"⟩
abbrev cX8_insert : ByteArray := prog_10_method_7_code
def yX8_insert : MethodName := ⟨RX8, "insert", "(LBunchNotes$Net;II)V"⟩
abbrev cX8_lengthAt : ByteArray := prog_10_method_8_code
def yX8_lengthAt : MethodName := ⟨RX8, "lengthAt", "(LBunchNotes$Net;I)I"⟩
def RX9 : String := "BunchNotes"
def TX9 : u_T := fun k => match k with
  | 0 => ("BunchNotes", "now", "LBunchNotes$Net;", true)
  | 1 => ("BunchNotes", "trial", "LBunchNotes$Net;", true)
  | 2 => ("BunchNotes", "text", "LBunchNotes$Text;", true)
  | 3 => ("BunchNotes", "past", "LBunchNotes$Past;", true)
  | 4 => ("BunchNotes", "notes", "[LBunchNotes$Note;", true)
  | 5 => ("BunchNotes", "draft", "LBunchNotes$Note;", true)
  | 6 => ("BunchNotes", "slots", "[LBunchNotes$Slot;", true)
  | 7 => ("BunchNotes", "far", "LBunchNotes$Far;", true)
  | 8 => ("BunchNotes", "thinning", "LBunchNotes$Thinning;", true)
  | 9 => ("BunchNotes", "telling", "LBunchNotes$Telling;", true)
  | _ => ("BunchNotes", "peak", "LBunchNotes$Peak;", true)
def tyX9 : Nat → FieldType := fun k => match k with
  | 0 => .object "BunchNotes$Net"
  | 1 => .object "BunchNotes$Net"
  | 2 => .object "BunchNotes$Text"
  | 3 => .object "BunchNotes$Past"
  | 4 => .array (.object "BunchNotes$Note")
  | 5 => .object "BunchNotes$Note"
  | 6 => .array (.object "BunchNotes$Slot")
  | 7 => .object "BunchNotes$Far"
  | 8 => .object "BunchNotes$Thinning"
  | 9 => .object "BunchNotes$Telling"
  | _ => .object "BunchNotes$Peak"
abbrev wsX90 : List Cond := u_ws RX9 TX9 11
theorem nmX9 : ∀ a, a < 11 → ∀ b, b < 11 → a ≠ b → (TX9 a).2.1 ≠ (TX9 b).2.1 := by decide +kernel
theorem tyX9_ok : ∀ k, k < 11 → parseFieldDescriptor (TX9 k).2.2.1 = some (tyX9 k) := by decide +kernel
abbrev cX9_init : ByteArray := prog_1_method_1_code
def yX9_init : MethodName := ⟨RX9, "<init>", "()V"⟩
abbrev cX9_type : ByteArray := prog_1_method_2_code
def yX9_type : MethodName := ⟨RX9, "type", "(I)I"⟩
abbrev cX9_erase : ByteArray := prog_1_method_3_code
def yX9_erase : MethodName := ⟨RX9, "erase", "()I"⟩
abbrev cX9_fault : ByteArray := prog_1_method_4_code
def yX9_fault : MethodName := ⟨RX9, "fault", "()I"⟩
abbrev cX9_net : ByteArray := prog_1_method_5_code
def yX9_net : MethodName := ⟨RX9, "net", "()I"⟩
abbrev cX9_link : ByteArray := prog_1_method_6_code
def yX9_link : MethodName := ⟨RX9, "link", "(II)I"⟩
abbrev cX9_level : ByteArray := prog_1_method_7_code
def yX9_level : MethodName := ⟨RX9, "level", "(I)I"⟩
abbrev cX9_join : ByteArray := prog_1_method_8_code
def yX9_join : MethodName := ⟨RX9, "join", "(III)I"⟩
abbrev cX9_cut : ByteArray := prog_1_method_9_code
def yX9_cut : MethodName := ⟨RX9, "cut", "(II)I"⟩
abbrev cX9_lift : ByteArray := prog_1_method_10_code
def yX9_lift : MethodName := ⟨RX9, "lift", "(II)I"⟩
abbrev cX9_draw : ByteArray := prog_1_method_11_code
def yX9_draw : MethodName := ⟨RX9, "draw", "(I)I"⟩
abbrev cX9_thin : ByteArray := prog_1_method_12_code
def yX9_thin : MethodName := ⟨RX9, "thin", "(I)I"⟩
abbrev cX9_undo : ByteArray := prog_1_method_13_code
def yX9_undo : MethodName := ⟨RX9, "undo", "()I"⟩
abbrev cX9_keep : ByteArray := prog_1_method_14_code
def yX9_keep : MethodName := ⟨RX9, "keep", "(I)I"⟩
abbrev cX9_back : ByteArray := prog_1_method_15_code
def yX9_back : MethodName := ⟨RX9, "back", "(I)I"⟩
abbrev cX9_distance : ByteArray := prog_1_method_16_code
def yX9_distance : MethodName := ⟨RX9, "distance", "(II)I"⟩
abbrev cX9_nearest : ByteArray := prog_1_method_17_code
def yX9_nearest : MethodName := ⟨RX9, "nearest", "(III)I"⟩
abbrev cX9_bunch : ByteArray := prog_1_method_18_code
def yX9_bunch : MethodName := ⟨RX9, "bunch", "(II)I"⟩
abbrev cX9_next : ByteArray := prog_1_method_19_code
def yX9_next : MethodName := ⟨RX9, "next", "(II)I"⟩
abbrev cX9_thinned : ByteArray := prog_1_method_20_code
def yX9_thinned : MethodName := ⟨RX9, "thinned", "(II)I"⟩
abbrev cX9_worst : ByteArray := prog_1_method_21_code
def yX9_worst : MethodName := ⟨RX9, "worst", "(II)I"⟩
abbrev cX9_note : ByteArray := prog_1_method_22_code
def yX9_note : MethodName := ⟨RX9, "note", "(I)I"⟩
abbrev cX9_mend : ByteArray := prog_1_method_23_code
def yX9_mend : MethodName := ⟨RX9, "mend", "()I"⟩
abbrev cX9_tear : ByteArray := prog_1_method_24_code
def yX9_tear : MethodName := ⟨RX9, "tear", "(I)I"⟩
abbrev cX9_noted : ByteArray := prog_1_method_25_code
def yX9_noted : MethodName := ⟨RX9, "noted", "(II)I"⟩
abbrev cX9_notedFar : ByteArray := prog_1_method_26_code
def yX9_notedFar : MethodName := ⟨RX9, "notedFar", "(II)I"⟩
abbrev cX9_told : ByteArray := prog_1_method_27_code
def yX9_told : MethodName := ⟨RX9, "told", "(III)I"⟩
abbrev cX9_why : ByteArray := prog_1_method_28_code
def yX9_why : MethodName := ⟨RX9, "why", "(III)I"⟩
abbrev cX9_route : ByteArray := prog_1_method_29_code
def yX9_route : MethodName := ⟨RX9, "route", "(III)I"⟩
abbrev cX9_pairs : ByteArray := prog_1_method_30_code
def yX9_pairs : MethodName := ⟨RX9, "pairs", "(I)I"⟩
abbrev cX9_count : ByteArray := prog_1_method_31_code
def yX9_count : MethodName := ⟨RX9, "count", "(I)I"⟩
abbrev cX9_blankNotes : ByteArray := prog_1_method_32_code
def yX9_blankNotes : MethodName := ⟨RX9, "blankNotes", "()[LBunchNotes$Note;"⟩
abbrev cX9_copyNotes : ByteArray := prog_1_method_33_code
def yX9_copyNotes : MethodName := ⟨RX9, "copyNotes", "([LBunchNotes$Note;[LBunchNotes$Note;)V"⟩
abbrev cX9_cell : ByteArray := prog_1_method_34_code
def yX9_cell : MethodName := ⟨RX9, "cell", "(II)I"⟩
abbrev cX9_commonPart : ByteArray := prog_1_method_35_code
def yX9_commonPart : MethodName := ⟨RX9, "commonPart", "(II)I"⟩
abbrev cX9_bothThere : ByteArray := prog_1_method_36_code
def yX9_bothThere : MethodName := ⟨RX9, "bothThere", "(II)Z"⟩
abbrev cX9_readText : ByteArray := prog_1_method_37_code
def yX9_readText : MethodName := ⟨RX9, "readText", "()I"⟩
abbrev cX9_blankAll : ByteArray := prog_1_method_38_code
def yX9_blankAll : MethodName := ⟨RX9, "blankAll", "()V"⟩
abbrev cX9_forgetSlots : ByteArray := prog_1_method_39_code
def yX9_forgetSlots : MethodName := ⟨RX9, "forgetSlots", "()V"⟩
abbrev cX9_writeDraft : ByteArray := prog_1_method_40_code
def yX9_writeDraft : MethodName := ⟨RX9, "writeDraft", "(I)V"⟩
abbrev cX9_isFresh : ByteArray := prog_1_method_41_code
def yX9_isFresh : MethodName := ⟨RX9, "isFresh", "(I)Z"⟩
abbrev cX9_clusterOf : ByteArray := prog_1_method_42_code
def yX9_clusterOf : MethodName := ⟨RX9, "clusterOf", "(I)I"⟩
abbrev cX9_stepTowards : ByteArray := prog_1_method_43_code
def yX9_stepTowards : MethodName := ⟨RX9, "stepTowards", "(II)I"⟩
abbrev cX9_stepsBetween : ByteArray := prog_1_method_44_code
def yX9_stepsBetween : MethodName := ⟨RX9, "stepsBetween", "(II)I"⟩
abbrev cX9_nodeAfter : ByteArray := prog_1_method_45_code
def yX9_nodeAfter : MethodName := ⟨RX9, "nodeAfter", "(III)I"⟩
abbrev cX9_weighThinned : ByteArray := prog_1_method_46_code
def yX9_weighThinned : MethodName := ⟨RX9, "weighThinned", "(I)V"⟩
abbrev cX9_weighTold : ByteArray := prog_1_method_47_code
def yX9_weighTold : MethodName := ⟨RX9, "weighTold", "()I"⟩
abbrev cX9_parts : ByteArray := prog_1_method_48_code
def yX9_parts : MethodName := ⟨RX9, "parts", "()I"⟩
abbrev cX9_writtenNotes : ByteArray := prog_1_method_49_code
def yX9_writtenNotes : MethodName := ⟨RX9, "writtenNotes", "()I"⟩
abbrev cX9_freshNotes : ByteArray := prog_1_method_50_code
def yX9_freshNotes : MethodName := ⟨RX9, "freshNotes", "()I"⟩
abbrev cX9_nodesInNotes : ByteArray := prog_1_method_51_code
def yX9_nodesInNotes : MethodName := ⟨RX9, "nodesInNotes", "()I"⟩
def RX10 : String := "BunchNotesModel"
def TX10 : u_T := fun k => match k with
  | 0 => ("BunchNotesModel", "row", "[I", true)
  | 1 => ("BunchNotesModel", "undos", "I", false)
  | 2 => ("BunchNotesModel", "nodes", "I", false)
  | 3 => ("BunchNotesModel", "notes", "[I", true)
  | 4 => ("BunchNotesModel", "isKept", "[Z", true)
  | 5 => ("BunchNotesModel", "text", "[I", true)
  | 6 => ("BunchNotesModel", "length", "I", false)
  | 7 => ("BunchNotesModel", "first", "I", false)
  | 8 => ("BunchNotesModel", "behind", "I", false)
  | 9 => ("BunchNotesModel", "told", "I", false)
  | 10 => ("BunchNotesModel", "toldPairs", "[Z", true)
  | 11 => ("BunchNotesModel", "toldLinks", "I", false)
  | 12 => ("BunchNotesModel", "clauses", "I", false)
  | 13 => ("BunchNotesModel", "doing", "Z", false)
  | 14 => ("BunchNotesModel", "numbers", "[I", true)
  | 15 => ("BunchNotesModel", "words", "[I", true)
  | 16 => ("BunchNotesModel", "far", "[I", true)
  | 17 => ("BunchNotesModel", "taken", "[Z", true)
  | 18 => ("BunchNotesModel", "whole", "[I", true)
  | 19 => ("BunchNotesModel", "fresh", "[I", true)
  | 20 => ("BunchNotesModel", "toldFar", "I", false)
  | 21 => ("BunchNotesModel", "toldBy", "I", false)
  | 22 => ("BunchNotesModel", "toldLevel", "I", false)
  | 23 => ("BunchNotesModel", "reason", "I", false)
  | _ => ("BunchNotesModel", "looked", "I", false)
def tyX10 : Nat → FieldType := fun k => match k with
  | 0 => .array .int
  | 1 => .int
  | 2 => .int
  | 3 => .array .int
  | 4 => .array .boolean
  | 5 => .array .int
  | 6 => .int
  | 7 => .int
  | 8 => .int
  | 9 => .int
  | 10 => .array .boolean
  | 11 => .int
  | 12 => .int
  | 13 => .boolean
  | 14 => .array .int
  | 15 => .array .int
  | 16 => .array .int
  | 17 => .array .boolean
  | 18 => .array .int
  | 19 => .array .int
  | 20 => .int
  | 21 => .int
  | 22 => .int
  | 23 => .int
  | _ => .int
abbrev wsX100 : List Cond := u_ws RX10 TX10 25
theorem nmX10 : ∀ a, a < 25 → ∀ b, b < 25 → a ≠ b → (TX10 a).2.1 ≠ (TX10 b).2.1 := by decide +kernel
theorem tyX10_ok : ∀ k, k < 25 → parseFieldDescriptor (TX10 k).2.2.1 = some (tyX10 k) := by decide +kernel
abbrev cX10_init : ByteArray := prog_12_method_1_code
def yX10_init : MethodName := ⟨RX10, "<init>", "()V"⟩
abbrev cX10_in : ByteArray := prog_12_method_2_code
def yX10_in : MethodName := ⟨RX10, "in", "(JJJ)Z"⟩
abbrev cX10_isNode : ByteArray := prog_12_method_3_code
def yX10_isNode : MethodName := ⟨RX10, "isNode", "(I)Z"⟩
abbrev cX10_has : ByteArray := prog_12_method_4_code
def yX10_has : MethodName := ⟨RX10, "has", "(II)Z"⟩
abbrev cX10_ones : ByteArray := prog_12_method_5_code
def yX10_ones : MethodName := ⟨RX10, "ones", "(I)I"⟩
abbrev cX10_length : ByteArray := prog_12_method_6_code
def yX10_length : MethodName := ⟨RX10, "length", "(II)I"⟩
abbrev cX10_lies : ByteArray := prog_12_method_7_code
def yX10_lies : MethodName := ⟨RX10, "lies", "(III)V"⟩
abbrev cX10_links : ByteArray := prog_12_method_8_code
def yX10_links : MethodName := ⟨RX10, "links", "()I"⟩
abbrev cX10_pairOf : ByteArray := prog_12_method_9_code
def yX10_pairOf : MethodName := ⟨RX10, "pairOf", "(I)I"⟩
abbrev cX10_type : ByteArray := prog_12_method_10_code
def yX10_type : MethodName := ⟨RX10, "type", "(I)I"⟩
abbrev cX10_erase : ByteArray := prog_12_method_11_code
def yX10_erase : MethodName := ⟨RX10, "erase", "()I"⟩
abbrev cX10_isSmall : ByteArray := prog_12_method_12_code
def yX10_isSmall : MethodName := ⟨RX10, "isSmall", "(I)Z"⟩
abbrev cX10_isDigit : ByteArray := prog_12_method_13_code
def yX10_isDigit : MethodName := ⟨RX10, "isDigit", "(I)Z"⟩
abbrev cX10_nextToken : ByteArray := prog_12_method_14_code
def yX10_nextToken : MethodName := ⟨RX10, "nextToken", "()V"⟩
abbrev cX10_wordHere : ByteArray := prog_12_method_15_code
def yX10_wordHere : MethodName := ⟨RX10, "wordHere", "()I"⟩
abbrev cX10_numberHere : ByteArray := prog_12_method_16_code
def yX10_numberHere : MethodName := ⟨RX10, "numberHere", "()I"⟩
abbrev cX10_number : ByteArray := prog_12_method_17_code
def yX10_number : MethodName := ⟨RX10, "number", "(III)Z"⟩
abbrev cX10_otherNode : ByteArray := prog_12_method_18_code
def yX10_otherNode : MethodName := ⟨RX10, "otherNode", "()Z"⟩
abbrev cX10_tellsNet : ByteArray := prog_12_method_19_code
def yX10_tellsNet : MethodName := ⟨RX10, "tellsNet", "()V"⟩
abbrev cX10_tellsLink : ByteArray := prog_12_method_20_code
def yX10_tellsLink : MethodName := ⟨RX10, "tellsLink", "()V"⟩
abbrev cX10_does : ByteArray := prog_12_method_21_code
def yX10_does : MethodName := ⟨RX10, "does", "(I)V"⟩
abbrev cX10_readsClause : ByteArray := prog_12_method_22_code
def yX10_readsClause : MethodName := ⟨RX10, "readsClause", "()Z"⟩
abbrev cX10_reads : ByteArray := prog_12_method_23_code
def yX10_reads : MethodName := ⟨RX10, "reads", "(Z)Z"⟩
abbrev cX10_fault : ByteArray := prog_12_method_24_code
def yX10_fault : MethodName := ⟨RX10, "fault", "()I"⟩
abbrev cX10_net : ByteArray := prog_12_method_25_code
def yX10_net : MethodName := ⟨RX10, "net", "()I"⟩
abbrev cX10_link : ByteArray := prog_12_method_26_code
def yX10_link : MethodName := ⟨RX10, "link", "(II)I"⟩
abbrev cX10_level : ByteArray := prog_12_method_27_code
def yX10_level : MethodName := ⟨RX10, "level", "(I)I"⟩
abbrev cX10_finds : ByteArray := prog_12_method_28_code
def yX10_finds : MethodName := ⟨RX10, "finds", "(Z)V"⟩
abbrev cX10_isWay : ByteArray := prog_12_method_29_code
def yX10_isWay : MethodName := ⟨RX10, "isWay", "(II)Z"⟩
abbrev cX10_distance : ByteArray := prog_12_method_30_code
def yX10_distance : MethodName := ⟨RX10, "distance", "(II)I"⟩
abbrev cX10_nearestOf : ByteArray := prog_12_method_31_code
def yX10_nearestOf : MethodName := ⟨RX10, "nearestOf", "(II)I"⟩
abbrev cX10_isInBunch : ByteArray := prog_12_method_32_code
def yX10_isInBunch : MethodName := ⟨RX10, "isInBunch", "(II)Z"⟩
abbrev cX10_bunchOf : ByteArray := prog_12_method_33_code
def yX10_bunchOf : MethodName := ⟨RX10, "bunchOf", "(I)I"⟩
abbrev cX10_nearest : ByteArray := prog_12_method_34_code
def yX10_nearest : MethodName := ⟨RX10, "nearest", "(III)I"⟩
abbrev cX10_bunch : ByteArray := prog_12_method_35_code
def yX10_bunch : MethodName := ⟨RX10, "bunch", "(II)I"⟩
abbrev cX10_nextOf : ByteArray := prog_12_method_36_code
def yX10_nextOf : MethodName := ⟨RX10, "nextOf", "(II)I"⟩
abbrev cX10_next : ByteArray := prog_12_method_37_code
def yX10_next : MethodName := ⟨RX10, "next", "(II)I"⟩
abbrev cX10_takes : ByteArray := prog_12_method_38_code
def yX10_takes : MethodName := ⟨RX10, "takes", "(II)V"⟩
abbrev cX10_thins : ByteArray := prog_12_method_39_code
def yX10_thins : MethodName := ⟨RX10, "thins", "(I)V"⟩
abbrev cX10_thinned : ByteArray := prog_12_method_40_code
def yX10_thinned : MethodName := ⟨RX10, "thinned", "(II)I"⟩
abbrev cX10_divisor : ByteArray := prog_12_method_41_code
def yX10_divisor : MethodName := ⟨RX10, "divisor", "(II)I"⟩
abbrev cX10_worst : ByteArray := prog_12_method_42_code
def yX10_worst : MethodName := ⟨RX10, "worst", "(II)I"⟩
abbrev cX10_keepPast : ByteArray := prog_12_method_43_code
def yX10_keepPast : MethodName := ⟨RX10, "keepPast", "()V"⟩
abbrev cX10_copyRow : ByteArray := prog_12_method_44_code
def yX10_copyRow : MethodName := ⟨RX10, "copyRow", "(II)V"⟩
abbrev cX10_join : ByteArray := prog_12_method_45_code
def yX10_join : MethodName := ⟨RX10, "join", "(III)I"⟩
abbrev cX10_cut : ByteArray := prog_12_method_46_code
def yX10_cut : MethodName := ⟨RX10, "cut", "(II)I"⟩
abbrev cX10_lift : ByteArray := prog_12_method_47_code
def yX10_lift : MethodName := ⟨RX10, "lift", "(II)I"⟩
abbrev cX10_draw : ByteArray := prog_12_method_48_code
def yX10_draw : MethodName := ⟨RX10, "draw", "(I)I"⟩
abbrev cX10_thin : ByteArray := prog_12_method_49_code
def yX10_thin : MethodName := ⟨RX10, "thin", "(I)I"⟩
abbrev cX10_undo : ByteArray := prog_12_method_50_code
def yX10_undo : MethodName := ⟨RX10, "undo", "()I"⟩
abbrev cX10_isWritten : ByteArray := prog_12_method_51_code
def yX10_isWritten : MethodName := ⟨RX10, "isWritten", "(I)Z"⟩
abbrev cX10_written : ByteArray := prog_12_method_52_code
def yX10_written : MethodName := ⟨RX10, "written", "()I"⟩
abbrev cX10_keep : ByteArray := prog_12_method_53_code
def yX10_keep : MethodName := ⟨RX10, "keep", "(I)I"⟩
abbrev cX10_back : ByteArray := prog_12_method_54_code
def yX10_back : MethodName := ⟨RX10, "back", "(I)I"⟩
abbrev cX10_freshens : ByteArray := prog_12_method_55_code
def yX10_freshens : MethodName := ⟨RX10, "freshens", "(I)V"⟩
abbrev cX10_isFresh : ByteArray := prog_12_method_56_code
def yX10_isFresh : MethodName := ⟨RX10, "isFresh", "(I)Z"⟩
abbrev cX10_writes : ByteArray := prog_12_method_57_code
def yX10_writes : MethodName := ⟨RX10, "writes", "(I)V"⟩
abbrev cX10_note : ByteArray := prog_12_method_58_code
def yX10_note : MethodName := ⟨RX10, "note", "(I)I"⟩
abbrev cX10_mend : ByteArray := prog_12_method_59_code
def yX10_mend : MethodName := ⟨RX10, "mend", "()I"⟩
abbrev cX10_tear : ByteArray := prog_12_method_60_code
def yX10_tear : MethodName := ⟨RX10, "tear", "(I)I"⟩
abbrev cX10_noted : ByteArray := prog_12_method_61_code
def yX10_noted : MethodName := ⟨RX10, "noted", "(II)I"⟩
abbrev cX10_notedFar : ByteArray := prog_12_method_62_code
def yX10_notedFar : MethodName := ⟨RX10, "notedFar", "(II)I"⟩
abbrev cX10_untold : ByteArray := prog_12_method_63_code
def yX10_untold : MethodName := ⟨RX10, "untold", "(II)Z"⟩
abbrev cX10_tells : ByteArray := prog_12_method_64_code
def yX10_tells : MethodName := ⟨RX10, "tells", "(II)Z"⟩
abbrev cX10_told : ByteArray := prog_12_method_65_code
def yX10_told : MethodName := ⟨RX10, "told", "(III)I"⟩
abbrev cX10_why : ByteArray := prog_12_method_66_code
def yX10_why : MethodName := ⟨RX10, "why", "(III)I"⟩
abbrev cX10_route : ByteArray := prog_12_method_67_code
def yX10_route : MethodName := ⟨RX10, "route", "(III)I"⟩
abbrev cX10_pairs : ByteArray := prog_12_method_68_code
def yX10_pairs : MethodName := ⟨RX10, "pairs", "(I)I"⟩
abbrev cX10_parts : ByteArray := prog_12_method_69_code
def yX10_parts : MethodName := ⟨RX10, "parts", "()I"⟩
abbrev cX10_freshNotes : ByteArray := prog_12_method_70_code
def yX10_freshNotes : MethodName := ⟨RX10, "freshNotes", "()I"⟩
abbrev cX10_inBunches : ByteArray := prog_12_method_71_code
def yX10_inBunches : MethodName := ⟨RX10, "inBunches", "()I"⟩
abbrev cX10_ofLevel : ByteArray := prog_12_method_72_code
def yX10_ofLevel : MethodName := ⟨RX10, "ofLevel", "(I)I"⟩
abbrev cX10_count : ByteArray := prog_12_method_73_code
def yX10_count : MethodName := ⟨RX10, "count", "(I)I"⟩
def RJx145de : String := "java/io/Serializable"
def TJx145de : u_T := fun k => match k with
  | _ => ("", "", "", false)
def tyJx145de : Nat → FieldType := fun k => match k with
  | _ => .int
abbrev wsJx145de0 : List Cond := u_ws RJx145de TJx145de 0
theorem nmJx145de : ∀ a, a < 0 → ∀ b, b < 0 → a ≠ b → (TJx145de a).2.1 ≠ (TJx145de b).2.1 := by decide +kernel
theorem tyJx145de_ok : ∀ k, k < 0 → parseFieldDescriptor (TJx145de k).2.2.1 = some (tyJx145de k) := by decide +kernel
def RJx9f9b0 : String := "java/lang/CharSequence"
def TJx9f9b0 : u_T := fun k => match k with
  | _ => ("", "", "", false)
def tyJx9f9b0 : Nat → FieldType := fun k => match k with
  | _ => .int
abbrev wsJx9f9b00 : List Cond := u_ws RJx9f9b0 TJx9f9b0 0
theorem nmJx9f9b0 : ∀ a, a < 0 → ∀ b, b < 0 → a ≠ b → (TJx9f9b0 a).2.1 ≠ (TJx9f9b0 b).2.1 := by decide +kernel
theorem tyJx9f9b0_ok : ∀ k, k < 0 → parseFieldDescriptor (TJx9f9b0 k).2.2.1 = some (tyJx9f9b0 k) := by decide +kernel
def RJxb160c : String := "java/lang/Comparable"
def TJxb160c : u_T := fun k => match k with
  | _ => ("", "", "", false)
def tyJxb160c : Nat → FieldType := fun k => match k with
  | _ => .int
abbrev wsJxb160c0 : List Cond := u_ws RJxb160c TJxb160c 0
theorem nmJxb160c : ∀ a, a < 0 → ∀ b, b < 0 → a ≠ b → (TJxb160c a).2.1 ≠ (TJxb160c b).2.1 := by decide +kernel
theorem tyJxb160c_ok : ∀ k, k < 0 → parseFieldDescriptor (TJxb160c k).2.2.1 = some (tyJxb160c k) := by decide +kernel
def RJ6 : String := "java/lang/Integer"
def TJ6 : u_T := fun k => match k with
  | _ => ("", "", "", false)
def tyJ6 : Nat → FieldType := fun k => match k with
  | _ => .int
abbrev wsJ60 : List Cond := u_ws RJ6 TJ6 0
theorem nmJ6 : ∀ a, a < 0 → ∀ b, b < 0 → a ≠ b → (TJ6 a).2.1 ≠ (TJ6 b).2.1 := by decide +kernel
theorem tyJ6_ok : ∀ k, k < 0 → parseFieldDescriptor (TJ6 k).2.2.1 = some (tyJ6 k) := by decide +kernel
abbrev cJ6_bitCount_0f7a4 : ByteArray := prog_13_method_49_code
def yJ6_bitCount_0f7a4 : MethodName := ⟨RJ6, "bitCount", "(I)I"⟩
def RJ9 : String := "java/lang/Math"
def TJ9 : u_T := fun k => match k with
  | _ => ("", "", "", false)
def tyJ9 : Nat → FieldType := fun k => match k with
  | _ => .int
abbrev wsJ90 : List Cond := u_ws RJ9 TJ9 0
theorem nmJ9 : ∀ a, a < 0 → ∀ b, b < 0 → a ≠ b → (TJ9 a).2.1 ≠ (TJ9 b).2.1 := by decide +kernel
theorem tyJ9_ok : ∀ k, k < 0 → parseFieldDescriptor (TJ9 k).2.2.1 = some (tyJ9 k) := by decide +kernel
abbrev cJ9_min_7cf53 : ByteArray := prog_14_method_69_code
def yJ9_min_7cf53 : MethodName := ⟨RJ9, "min", "(II)I"⟩
def RJ0 : String := "java/lang/String"
def TJ0 : u_T := fun k => match k with
  | _ => ("", "", "", false)
def tyJ0 : Nat → FieldType := fun k => match k with
  | _ => .int
abbrev wsJ00 : List Cond := u_ws RJ0 TJ0 0
theorem nmJ0 : ∀ a, a < 0 → ∀ b, b < 0 → a ≠ b → (TJ0 a).2.1 ≠ (TJ0 b).2.1 := by decide +kernel
theorem tyJ0_ok : ∀ k, k < 0 → parseFieldDescriptor (TJ0 k).2.2.1 = some (tyJ0 k) := by decide +kernel
abbrev cJ0_length_8abf5 : ByteArray := prog_15_method_54_code
def yJ0_length_8abf5 : MethodName := ⟨RJ0, "length", "()I"⟩
abbrev cJ0_charAt_5068e : ByteArray := prog_15_method_56_code
def yJ0_charAt_5068e : MethodName := ⟨RJ0, "charAt", "(I)C"⟩
abbrev cJ0_coder_7d493 : ByteArray := prog_15_method_152_code
def yJ0_coder_7d493 : MethodName := ⟨RJ0, "coder", "()B"⟩
abbrev cJ0_isLatin1_aae02 : ByteArray := prog_15_method_154_code
def yJ0_isLatin1_aae02 : MethodName := ⟨RJ0, "isLatin1", "()Z"⟩
abbrev cJ0_checkIndex_df160 : ByteArray := prog_15_method_155_code
def yJ0_checkIndex_df160 : MethodName := ⟨RJ0, "checkIndex", "(II)V"⟩
def RJ1 : String := "java/lang/StringLatin1"
def TJ1 : u_T := fun k => match k with
  | _ => ("", "", "", false)
def tyJ1 : Nat → FieldType := fun k => match k with
  | _ => .int
abbrev wsJ10 : List Cond := u_ws RJ1 TJ1 0
theorem nmJ1 : ∀ a, a < 0 → ∀ b, b < 0 → a ≠ b → (TJ1 a).2.1 ≠ (TJ1 b).2.1 := by decide +kernel
theorem tyJ1_ok : ∀ k, k < 0 → parseFieldDescriptor (TJ1 k).2.2.1 = some (tyJ1 k) := by decide +kernel
abbrev cJ1_charAt_3b067 : ByteArray := prog_16_method_2_code
def yJ1_charAt_3b067 : MethodName := ⟨RJ1, "charAt", "([BI)C"⟩
def RJ2 : String := "java/lang/StringUTF16"
def TJ2 : u_T := fun k => match k with
  | _ => ("", "", "", false)
def tyJ2 : Nat → FieldType := fun k => match k with
  | _ => .int
abbrev wsJ20 : List Cond := u_ws RJ2 TJ2 0
theorem nmJ2 : ∀ a, a < 0 → ∀ b, b < 0 → a ≠ b → (TJ2 a).2.1 ≠ (TJ2 b).2.1 := by decide +kernel
theorem tyJ2_ok : ∀ k, k < 0 → parseFieldDescriptor (TJ2 k).2.2.1 = some (tyJ2 k) := by decide +kernel
abbrev cJ2_getChar_3b067 : ByteArray := prog_17_method_5_code
def yJ2_getChar_3b067 : MethodName := ⟨RJ2, "getChar", "([BI)C"⟩
abbrev cJ2_length_9d52b : ByteArray := prog_17_method_6_code
def yJ2_length_9d52b : MethodName := ⟨RJ2, "length", "([B)I"⟩
abbrev cJ2_charAt_3b067 : ByteArray := prog_17_method_83_code
def yJ2_charAt_3b067 : MethodName := ⟨RJ2, "charAt", "([BI)C"⟩
abbrev cJ2_checkIndex_2214a : ByteArray := prog_17_method_91_code
def yJ2_checkIndex_2214a : MethodName := ⟨RJ2, "checkIndex", "(I[B)V"⟩
def RJ10 : String := "java/lang/System"
def TJ10 : u_T := fun k => match k with
  | _ => ("", "", "", false)
def tyJ10 : Nat → FieldType := fun k => match k with
  | _ => .int
abbrev wsJ100 : List Cond := u_ws RJ10 TJ10 0
theorem nmJ10 : ∀ a, a < 0 → ∀ b, b < 0 → a ≠ b → (TJ10 a).2.1 ≠ (TJ10 b).2.1 := by decide +kernel
theorem tyJ10_ok : ∀ k, k < 0 → parseFieldDescriptor (TJ10 k).2.2.1 = some (tyJ10 k) := by decide +kernel
def RJxfd54e : String := "java/lang/constant/Constable"
def TJxfd54e : u_T := fun k => match k with
  | _ => ("", "", "", false)
def tyJxfd54e : Nat → FieldType := fun k => match k with
  | _ => .int
abbrev wsJxfd54e0 : List Cond := u_ws RJxfd54e TJxfd54e 0
theorem nmJxfd54e : ∀ a, a < 0 → ∀ b, b < 0 → a ≠ b → (TJxfd54e a).2.1 ≠ (TJxfd54e b).2.1 := by decide +kernel
theorem tyJxfd54e_ok : ∀ k, k < 0 → parseFieldDescriptor (TJxfd54e k).2.2.1 = some (tyJxfd54e k) := by decide +kernel
def RJx3cf43 : String := "java/lang/constant/ConstantDesc"
def TJx3cf43 : u_T := fun k => match k with
  | _ => ("", "", "", false)
def tyJx3cf43 : Nat → FieldType := fun k => match k with
  | _ => .int
abbrev wsJx3cf430 : List Cond := u_ws RJx3cf43 TJx3cf43 0
theorem nmJx3cf43 : ∀ a, a < 0 → ∀ b, b < 0 → a ≠ b → (TJx3cf43 a).2.1 ≠ (TJx3cf43 b).2.1 := by decide +kernel
theorem tyJx3cf43_ok : ∀ k, k < 0 → parseFieldDescriptor (TJx3cf43 k).2.2.1 = some (tyJx3cf43 k) := by decide +kernel
def RJ7 : String := "java/util/Arrays"
def TJ7 : u_T := fun k => match k with
  | _ => ("", "", "", false)
def tyJ7 : Nat → FieldType := fun k => match k with
  | _ => .int
abbrev wsJ70 : List Cond := u_ws RJ7 TJ7 0
theorem nmJ7 : ∀ a, a < 0 → ∀ b, b < 0 → a ≠ b → (TJ7 a).2.1 ≠ (TJ7 b).2.1 := by decide +kernel
theorem tyJ7_ok : ∀ k, k < 0 → parseFieldDescriptor (TJ7 k).2.2.1 = some (tyJ7 k) := by decide +kernel
abbrev cJ7_fill_53178 : ByteArray := prog_19_method_103_code
def yJ7_fill_53178 : MethodName := ⟨RJ7, "fill", "([II)V"⟩
def RJ3 : String := "jdk/internal/util/Preconditions"
def TJ3 : u_T := fun k => match k with
  | _ => ("", "", "", false)
def tyJ3 : Nat → FieldType := fun k => match k with
  | _ => .int
abbrev wsJ30 : List Cond := u_ws RJ3 TJ3 0
theorem nmJ3 : ∀ a, a < 0 → ∀ b, b < 0 → a ≠ b → (TJ3 a).2.1 ≠ (TJ3 b).2.1 := by decide +kernel
theorem tyJ3_ok : ∀ k, k < 0 → parseFieldDescriptor (TJ3 k).2.2.1 = some (tyJ3 k) := by decide +kernel
abbrev cJ3_checkIndex_8e157 : ByteArray := prog_20_method_11_code
def yJ3_checkIndex_8e157 : MethodName := ⟨RJ3, "checkIndex", "(IILjava/util/function/BiFunction;)I"⟩
def RL : String := "BunchNotesLaw"
abbrev cL_law : ByteArray := code
def yL_law : MethodName := ⟨RL, "law", "([I)Z"⟩
abbrev vwCl : List vw_C := [(RX0, TX0, 3), (RX1, TX1, 6), (RX2, TX2, 5), (RX3, TX3, 3), (RX4, TX4, 5), (RX5, TX5, 3), (RX6, TX6, 5), (RX7, TX7, 7), (RX8, TX8, 7), (RX9, TX9, 11), (RX10, TX10, 25)]
