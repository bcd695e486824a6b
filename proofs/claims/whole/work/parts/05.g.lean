/-! THE SMALL MACHINE: a method's run told by pure words: numbers are Int, cells are numbered, memory is a function. -/
-- numbers
def gR (z : Int) : Prop := -2147483648 ≤ z ∧ z < 2147483648
def g32 (z : Int) : Int32 := Int32.ofInt z
theorem g32_toInt {z : Int} (h : gR z) : (g32 z).toInt = z := Int32.toInt_ofInt_of_le (by have := h.1; omega) (by have := h.2; omega)
theorem gR_toInt (x : Int32) : gR x.toInt := ⟨by have := x.le_toInt; omega, by have := x.toInt_lt; omega⟩
theorem g32_of (x : Int32) : g32 x.toInt = x := Int32.ofInt_toInt x
theorem g32_inj {a b : Int} (ha : gR a) (hb : gR b) : g32 a = g32 b ↔ a = b := ⟨fun h => by rw [← g32_toInt ha, ← g32_toInt hb, h], fun h => by rw [h]⟩
theorem g32_lt {a b : Int} (ha : gR a) (hb : gR b) : g32 a < g32 b ↔ a < b := by rw [Int32.lt_iff_toInt_lt, g32_toInt ha, g32_toInt hb]
theorem g32_le {a b : Int} (ha : gR a) (hb : gR b) : g32 a ≤ g32 b ↔ a ≤ b := by rw [Int32.le_iff_toInt_le, g32_toInt ha, g32_toInt hb]
theorem gR_0 : gR 0 := ⟨by decide, by decide⟩
theorem g32_nat {a : Int} (ha : gR a) : (g32 a).toNatClampNeg = a.toNat := by
  show (g32 a).toInt.toNat = a.toNat
  rw [g32_toInt ha]
theorem g32_in {i : Int} {n : Nat} (h0 : 0 ≤ i) (h1 : i < n) (hi : gR i) : vp_in (g32 i) n := vp_in_iff.mpr (by rw [g32_toInt hi]; exact ⟨h0, h1⟩)
-- memory: cell, place, number
abbrev gMem : Type := Int → Int → Int
def gup (M : gMem) (c k v : Int) : gMem := fun c' k' => if c' = c then (if k' = k then v else M c' k') else M c' k'
theorem gup_s (M : gMem) (c k v : Int) : gup M c k v c k = v := by simp [gup]
theorem gup_k (M : gMem) {c k v k' : Int} (h : k' ≠ k) : gup M c k v c k' = M c k' := by simp [gup, h]
theorem gup_c (M : gMem) {c k v c' : Int} (h : c' ≠ c) : gup M c k v c' = M c' := by funext k'; simp [gup, h]
def gOM (M : gMem) : Prop := ∀ c k : Int, gR (M c k)
theorem gOM_up {M : gMem} (h : gOM M) {c k v : Int} (hv : gR v) : gOM (gup M c k v) := by
  intro c' k'
  unfold gup
  split
  · split
    · exact hv
    · exact h _ _
  · exact h _ _
-- a value: 0 a number, 1 a cell, 2 a long, 3 an address as it stands, 4 null
abbrev gSV : Type := Nat × Int
abbrev gI (z : Int) : gSV := (0, z)
abbrev gF (z : Int) : gSV := (1, z)
abbrev gJ (z : Int) : gSV := (2, z)
abbrev gB (z : Int) : gSV := (3, z)
def gOK (q : gSV) : Prop := match q.1 with
  | 0 => gR q.2
  | 2 => -9223372036854775808 ≤ q.2 ∧ q.2 < 9223372036854775808
  | _ => True
-- a world: class numbers and places of fields, classes of arrays, addresses of cells, which addresses may change
abbrev gW : Type := va_G × (Nat → ClassId) × (Int → Nat) × (Nat → Prop) × (Nat → Nat) × (Nat → Nat)
abbrev gvA (V : gW) : Nat → Prop := V.2.2.2.1
abbrev gvk (V : gW) : Nat → Nat := V.2.2.2.2.1
abbrev gvv (V : gW) : Nat → Nat := V.2.2.2.2.2
def grv (V : gW) (q : gSV) : Value := match q.1 with
  | 0 => .int (g32 q.2)
  | 1 => .ref (V.2.2.1 q.2)
  | 2 => .long (Int64.ofInt q.2)
  | 3 => .ref q.2.toNat
  | _ => .null
def gcat (st : List gSV) : Nat := (st.map (fun q => if q.1 = 2 then 2 else 1)).sum
theorem grv_cat (V : gW) (q : gSV) : (grv V q).category = if q.1 = 2 then 2 else 1 := by
  obtain ⟨t, z⟩ := q
  match t with
  | 0 => rfl
  | 1 => rfl
  | 2 => rfl
  | 3 => rfl
  | t + 4 => rfl
theorem gcat_eq (V : gW) (st : List gSV) : ((st.map (grv V)).map fun v => v.category).sum = gcat st := by
  unfold gcat
  rw [List.map_map]
  exact congrArg List.sum (List.map_congr_left fun q _ => grv_cat V q)
-- what a cell of a type holds (a class by its number; 1xxxx: ints, 2xxxx: booleans, 3xxxx on: references)
def gcV (cA : Nat → ClassId) (t : Nat) (f : Nat → Int32) (r : Nat → Option Nat) : va_E := match t with
  | 0 => .inr (0, [.int (f 0), .int (f 1), va_rf (r 2)])
  | 1 => .inr (1, [.int (f 0), .int (f 1), .int (f 2), .int (f 3), va_rf (r 4), va_rf (r 5)])
  | 2 => .inr (2, [.int (f 0), .int (f 1), va_rf (r 2), va_rf (r 3), va_rf (r 4)])
  | 3 => .inr (3, [.int (f 0), .int (f 1), va_rf (r 2)])
  | 4 => .inr (4, [.int (f 0), .int (f 1), .int (f 2), .int (f 3), .int (f 4)])
  | 5 => .inr (5, [.int (f 0), va_rf (r 1), va_rf (r 2)])
  | 6 => .inr (6, [.int (f 0), .int (f 1), .int (f 2), .int (f 3), .int (f 4)])
  | 7 => .inr (7, [.int (f 0), .int (f 1), .int (f 2), .int (f 3), .int (f 4), .int (f 5), va_rf (r 6)])
  | 8 => .inr (8, [.int (f 0), va_rf (r 1), .int (f 2), .int (f 3), .int (f 4), va_rf (r 5), va_rf (r 6)])
  | 9 => .inr (9, [va_rf (r 0), va_rf (r 1), va_rf (r 2), va_rf (r 3), va_rf (r 4), va_rf (r 5), va_rf (r 6), va_rf (r 7), va_rf (r 8), va_rf (r 9), va_rf (r 10)])
  | 10 => .inr (10, [va_rf (r 0), .int (f 1), .int (f 2), va_rf (r 3), va_rf (r 4), va_rf (r 5), .int (f 6), .int (f 7), .int (f 8), .int (f 9), va_rf (r 10), .int (f 11), .int (f 12), .int (f 13), va_rf (r 14), va_rf (r 15), va_rf (r 16), va_rf (r 17), va_rf (r 18), va_rf (r 19), .int (f 20), .int (f 21), .int (f 22), .int (f 23), .int (f 24)])
  | t => if t < 20000 then .inl (cA 1, t - 10000, .inl f) else if t < 30000 then .inl (cA 2, t - 20000, .inl f) else .inl (cA (t / 10000), t % 10000, .inr (.inr (.inr (.inr r))))
def goff (t k : Nat) : Int := match t, k with
  | 0, 2 => 1
  | 1, 4 => 1
  | 1, 5 => 2
  | 2, 2 => 1
  | 2, 3 => 2
  | 2, 4 => 3
  | 3, 2 => 1
  | 5, 1 => 1
  | 5, 2 => 4
  | 7, 6 => 1
  | 8, 1 => 1
  | 8, 5 => 15
  | 8, 6 => 16
  | 9, 0 => 1
  | 9, 1 => 4
  | 9, 2 => 7
  | 9, 3 => 9
  | 9, 4 => 35
  | 9, 5 => 84
  | 9, 6 => 88
  | 9, 7 => 195
  | 9, 8 => 209
  | 9, 9 => 226
  | 9, 10 => 227
  | 10, 0 => 1
  | 10, 3 => 2
  | 10, 4 => 3
  | 10, 5 => 4
  | 10, 10 => 5
  | 10, 14 => 6
  | 10, 15 => 7
  | 10, 16 => 8
  | 10, 17 => 9
  | 10, 18 => 10
  | 10, 19 => 11
  | _, _ => 0
def gst (t : Nat) : Int := match t with
  | 60012 => 1
  | 40008 => 3
  | 30012 => 4
  | 50002 => 53
  | _ => 0
def gsh : List Nat := [9, 1, 10144, 10012, 1, 10144, 10012, 7, 10200, 3, 40008, 1, 10144, 10012, 1, 10144, 10012, 1, 10144, 10012, 1, 10144, 10012, 1, 10144, 10012, 1, 10144, 10012, 1, 10144, 10012, 1, 10144, 10012, 30012, 2, 10003, 10003, 10012, 2, 10003, 10003, 10012, 2, 10003, 10003, 10012, 2, 10003, 10003, 10012, 2, 10003, 10003, 10012, 2, 10003, 10003, 10012, 2, 10003, 10003, 10012, 2, 10003, 10003, 10012, 2, 10003, 10003, 10012, 2, 10003, 10003, 10012, 2, 10003, 10003, 10012, 2, 10003, 10003, 10012, 2, 10003, 10003, 10012, 50002, 5, 1, 10144, 10012, 30012, 2, 10003, 10003, 10012, 2, 10003, 10003, 10012, 2, 10003, 10003, 10012, 2, 10003, 10003, 10012, 2, 10003, 10003, 10012, 2, 10003, 10003, 10012, 2, 10003, 10003, 10012, 2, 10003, 10003, 10012, 2, 10003, 10003, 10012, 2, 10003, 10003, 10012, 2, 10003, 10003, 10012, 2, 10003, 10003, 10012, 5, 1, 10144, 10012, 30012, 2, 10003, 10003, 10012, 2, 10003, 10003, 10012, 2, 10003, 10003, 10012, 2, 10003, 10003, 10012, 2, 10003, 10003, 10012, 2, 10003, 10003, 10012, 2, 10003, 10003, 10012, 2, 10003, 10003, 10012, 2, 10003, 10003, 10012, 2, 10003, 10003, 10012, 2, 10003, 10003, 10012, 2, 10003, 10003, 10012, 0, 60012, 10012, 10012, 10012, 10012, 10012, 10012, 10012, 10012, 10012, 10012, 10012, 10012, 8, 0, 60012, 10012, 10012, 10012, 10012, 10012, 10012, 10012, 10012, 10012, 10012, 10012, 10012, 10030, 10012, 6, 4, 10, 11727, 10720, 20002, 10200, 20144, 10003, 10015, 10144, 20144, 10144, 10020]
def gtys (V : gW) : List (ClassId × FieldType) := [(V.2.1 1, .int), (V.2.1 2, .boolean), (V.2.1 3, .object "BunchNotes$Note"), (V.2.1 4, .object "BunchNotes$Net"), (V.2.1 5, .object "BunchNotes$Slot"), (V.2.1 6, .array .int)]
-- what stays, beside the cells: links between mates of a nest, the texts of the class, two static fields
def gsl : List Nat := [3, 4, 5]
def gsb : List (List Int32) := [[110, 101, 116], [108, 105, 110, 107], [108, 101, 118, 101, 108]]
def gE (V : gW) (U : State) : Prop := va_Nw (.methodLinkNest "BunchNotes$Net" 32 ⟨"BunchNotes", "cell", "(II)I"⟩ "BunchNotes") U ∧ va_Nw (.methodLinkNest "BunchNotes$Thinning" 83 ⟨"BunchNotes", "cell", "(II)I"⟩ "BunchNotes") U ∧ vk_R "BunchNotes$Text" 46 "net" (gvk V 0) U ∧ vk_R "BunchNotes$Text" 55 "link" (gvk V 1) U ∧ vk_R "BunchNotes$Text" 60 "level" (gvk V 2) U ∧ vk_S 3 gsl gsb (gvk V) (gvv V) (gvA V) U U.heap ∧ va_Z "java/lang/String" "COMPACT_STRINGS" "Z" (.int 1) (gvA V) U U.heap ∧ va_Zq "jdk/internal/util/Preconditions" "SIOOBE_FORMATTER" "Ljava/util/function/BiFunction;" (gvA V) U U.heap
theorem gE_pass {V : gW} {s U : State} {H : Heap} {locs : List Loc} (h : gE V s) (hU : U.heap = H) (hS : va_S (gvA V) s.heap H locs) (hW : s.WarmedH U.vm) : gE V U := by
  have hk : ∀ a : Nat, a < s.heap.size → ¬ gvA V a → U.heap[a]? = s.heap[a]? := fun a h1 h2 => by rw [hU]; exact hS.2.1 a h1 h2
  obtain ⟨n0, n1, r0, r1, r2, hs, hz, hq⟩ := h
  exact ⟨n0.warmM hW, n1.warmM hW, r0.warm hW, r1.warm hW, r2.warm hW, (hs.moved hW.alike).kept hk, (hz.moved hW.alike).kept hk, (hq.moved hW.alike).kept hk⟩
theorem gE_same {V : gW} {u U : State} (hv : u.vm = U.vm) (hh : u.heap = U.heap) (h : gE V u) : gE V U := by
  have ha : u.vm.Alike U.vm := by rw [hv]; exact Vm.Alike.refl _
  obtain ⟨n0, n1, r0, r1, r2, hs, hz, hq⟩ := h
  exact ⟨n0.same rfl hv, n1.same rfl hv, r0.same hv.symm, r1.same hv.symm, r2.same hv.symm, by rw [← hh]; exact hs.moved ha, by rw [← hh]; exact hz.moved ha, by rw [← hh]; exact hq.moved ha⟩
theorem gE_n0 {V : gW} {U : State} (h : gE V U) : va_Nw (.methodLinkNest "BunchNotes$Net" 32 ⟨"BunchNotes", "cell", "(II)I"⟩ "BunchNotes") U := h.1
theorem gE_n1 {V : gW} {U : State} (h : gE V U) : va_Nw (.methodLinkNest "BunchNotes$Thinning" 83 ⟨"BunchNotes", "cell", "(II)I"⟩ "BunchNotes") U := h.2.1
theorem gE_r0 {V : gW} {U : State} (h : gE V U) : vk_R "BunchNotes$Text" 46 "net" (gvk V 0) U := h.2.2.1
theorem gE_r1 {V : gW} {U : State} (h : gE V U) : vk_R "BunchNotes$Text" 55 "link" (gvk V 1) U := h.2.2.2.1
theorem gE_r2 {V : gW} {U : State} (h : gE V U) : vk_R "BunchNotes$Text" 60 "level" (gvk V 2) U := h.2.2.2.2.1
theorem gE_s {V : gW} {U : State} (h : gE V U) : vk_S 3 gsl gsb (gvk V) (gvv V) (gvA V) U U.heap := h.2.2.2.2.2.1
theorem gE_z {V : gW} {U : State} (h : gE V U) : va_Z "java/lang/String" "COMPACT_STRINGS" "Z" (.int 1) (gvA V) U U.heap := h.2.2.2.2.2.2.1
theorem gE_q {V : gW} {U : State} (h : gE V U) : va_Zq "jdk/internal/util/Preconditions" "SIOOBE_FORMATTER" "Ljava/util/function/BiFunction;" (gvA V) U U.heap := h.2.2.2.2.2.2.2

-- the cells of the world: all made, their references fixed by the numbering
def grB (ad : Int → Nat) (t : Nat) (c : Int) (k : Nat) : Option Nat := if t < 11 then some (ad (c + goff t k)) else some (ad (c + 1 + gst t * (k : Int)))
def gcell (V : gW) (M : gMem) (n : Nat) : Nat × va_E := (V.2.2.1 (n : Int), gcV V.2.1 (gsh.getD n 0) (fun k => g32 (M (n : Int) (k : Int))) (grB V.2.2.1 (gsh.getD n 0) (n : Int)))
def gws (V : gW) (M : gMem) : va_W := (List.range 240).map (gcell V M)
def gT (c : Int) (t : Nat) : Prop := 0 ≤ c ∧ c < 240 ∧ gsh.getD c.toNat 0 = t
theorem gws_at {V : gW} {M : gMem} {c : Int} {t : Nat} (h : gT c t) : (gws V M)[c.toNat]? = some (V.2.2.1 c, gcV V.2.1 t (fun k => g32 (M c (k : Int))) (grB V.2.2.1 t c)) := by
  obtain ⟨h0, h1, h2⟩ := h
  have e : ((c.toNat : Nat) : Int) = c := by omega
  unfold gws
  rw [List.getElem?_map, List.getElem?_range (by omega), Option.map_some]
  unfold gcell
  rw [e, h2]
theorem gws_set {V : gW} {M M' : gMem} {c : Int} {t : Nat} {x : va_E} (h : gT c t) (hx : x = gcV V.2.1 t (fun k => g32 (M' c (k : Int))) (grB V.2.2.1 t c)) (ho : ∀ c', c' ≠ c → M' c' = M c') : (gws V M).set c.toNat (V.2.2.1 c, x) = gws V M' := by
  obtain ⟨h0, h1, h2⟩ := h
  have e : ((c.toNat : Nat) : Int) = c := by omega
  apply List.ext_getElem?
  intro i
  rw [List.getElem?_set]
  by_cases hi : c.toNat = i
  · subst hi
    unfold gws
    rw [if_pos rfl, List.length_map, List.length_range, if_pos (by omega), List.getElem?_map, List.getElem?_range (by omega), Option.map_some]
    unfold gcell
    rw [e, h2, hx]
  · rw [if_neg hi]
    unfold gws
    rw [List.getElem?_map, List.getElem?_map]
    by_cases hl : i < 240
    · rw [List.getElem?_range hl, Option.map_some, Option.map_some]
      unfold gcell
      rw [ho (i : Int) (by omega)]
    · rw [List.getElem?_eq_none (by rw [List.length_range]; omega)]
      rfl
-- where a run stands: program, launch, env, room, start, method, arguments, below, method, code, end, cells, slots
abbrev gX : Type := Program × Launch × Env × Room × State × MethodId × Array Value × List Frame × Method × Code × (State → Prop) × Nat × Nat
abbrev gxp (X : gX) : Program := X.1
abbrev gxl (X : gX) : Launch := X.2.1
abbrev gxe (X : gX) : Env := X.2.2.1
abbrev gxR (X : gX) : Room := X.2.2.2.1
abbrev gxs (X : gX) : State := X.2.2.2.2.1
abbrev gxm (X : gX) : MethodId := X.2.2.2.2.2.1
abbrev gxa (X : gX) : Array Value := X.2.2.2.2.2.2.1
abbrev gxb (X : gX) : List Frame := X.2.2.2.2.2.2.2.1
abbrev gxt (X : gX) : Method := X.2.2.2.2.2.2.2.2.1
abbrev gxc (X : gX) : Code := X.2.2.2.2.2.2.2.2.2.1
abbrev gxQ (X : gX) : State → Prop := X.2.2.2.2.2.2.2.2.2.2.1
abbrev gxk (X : gX) : Nat := X.2.2.2.2.2.2.2.2.2.2.2.1
abbrev gxn (X : gX) : Nat := X.2.2.2.2.2.2.2.2.2.2.2.2
/-- the run as the machine has it -/
abbrev gWW (X : gX) (H : Heap) (locs : List Loc) (g : JFrame) : Prop := W (gxp X) (gxl X) (gxe X) (gxR X) (gxs X) (gxm X) (gxa X) (gxb X) (gxt X) (gxc X) H locs (gxk X) (gxn X) (gxQ X) g
/-- from here (place, locals, stack, memory) the run comes to its end -/
def gG (X : gX) (V : gW) (nL pc : Nat) (L : List (Nat × gSV)) (st : List gSV) (M : gMem) : Prop :=
  (∀ q ∈ L, gOK q.2) → (∀ q ∈ st, gOK q) → gOM M → ∀ (ls : Array Slot) (H : Heap) (locs : List Loc), lv_has ls nL (L.map (fun q => (q.1, grv V q.2))) → va_P V.1 vwCl (gws V M) H → va_S (gvA V) (gxs X).heap H locs →
    gWW X H locs (F0 (gxm X) pc ls (st.map (grv V)))
/-- what a run knows of its method -/
def gC (X : gX) (V : gW) (l : Launch) (cc : ByteArray) (nL : Nat) (own : String) (fr lo : Nat) : Prop :=
  (gxp X).tables.exec = Jvm.exec ∧ (gxc X).code = cc ∧ (gxc X).maxLocals = nL ∧ (gxs X).vm.findClass own = some (gxm X).cls ∧ (∀ w ∈ lw_good, w.before (gxa X) (gxs X) = true) ∧ va_K V.1 vwCl (gtys V) (gxs X) ∧ (∀ M : gMem, va_D (gvA V) (gws V M)) ∧
  gxl X = l ∧ (gxR X).frames = fr ∧ (gxR X).locals = lo ∧ gxk X ≤ (gxR X).cells ∧ gxn X ≤ (gxR X).slots ∧ gE V (gxs X)
section GI
variable {X : gX} {V : gW} {l : Launch} {cc : ByteArray} {nL : Nat} {own : String} {fr lo : Nat} {pc : Nat} {L : List (Nat × gSV)} {st : List gSV} {M : gMem}
theorem gok_c {q : gSV} {st : List gSV} (h : ∀ x ∈ q :: st, gOK x) : gOK q := h q List.mem_cons_self
theorem gok_t {q : gSV} {st : List gSV} (h : ∀ x ∈ q :: st, gOK x) : ∀ x ∈ st, gOK x := fun x hx => h x (List.mem_cons_of_mem _ hx)
theorem gok_n {q : gSV} {st : List gSV} (h0 : gOK q) (h : ∀ x ∈ st, gOK x) : ∀ x ∈ q :: st, gOK x := List.forall_mem_cons.mpr ⟨h0, h⟩
-- constants
theorem g_iconst (C : gC X V l cc nL own fr lo) {n : Int} (d : decode cc pc = .ok (.iconst n, 1)) (hn : gR n) (k : gG X V nL (pc + 1) L (gI n :: st) M) : gG X V nL pc L st M :=
  fun hL hS hM ls H locs hl hP hV => lv_iconst C.1 C.2.1 d rfl (k hL (gok_n hn hS) hM ls H locs hl hP hV)
theorem g_bipush (C : gC X V l cc nL own fr lo) {n : Int} (d : decode cc pc = .ok (.bipush n, 2)) (hn : gR n) (hv : (Int8.ofInt n).toInt32 = g32 n) (k : gG X V nL (pc + 2) L (gI n :: st) M) : gG X V nL pc L st M :=
  fun hL hS hM ls H locs hl hP hV => lv_bipush C.1 C.2.1 d hv (k hL (gok_n hn hS) hM ls H locs hl hP hV)
theorem g_sipush (C : gC X V l cc nL own fr lo) {n : Int} (d : decode cc pc = .ok (.sipush n, 3)) (hn : gR n) (hv : (Int16.ofInt n).toInt32 = g32 n) (k : gG X V nL (pc + 3) L (gI n :: st) M) : gG X V nL pc L st M :=
  fun hL hS hM ls H locs hl hP hV => lv_sipush C.1 C.2.1 d hv (k hL (gok_n hn hS) hM ls H locs hl hP hV)
theorem g_ldc (C : gC X V l cc nL own fr lo) {i : Nat} {n : Int} {v : Int32} (d : decode cc pc = .ok (.ldc i, 2)) (hw : Cond.constant own i v ∈ lw_good) (hn : gR n) (hv : v = g32 n) (k : gG X V nL (pc + 2) L (gI n :: st) M) : gG X V nL pc L st M := by
  subst hv
  exact fun hL hS hM ls H locs hl hP hV => lv_ldc C.1 C.2.1 C.2.2.2.1 (C.2.2.2.2.1 _ hw) d (k hL (gok_n hn hS) hM ls H locs hl hP hV)
theorem g_lconst (C : gC X V l cc nL own fr lo) {i : Fin 2} {n : Int} (d : decode cc pc = .ok (.lconst i, 1)) (hv : Int64.ofNat (i : Nat) = Int64.ofInt n) (hn : gOK (gJ n)) (k : gG X V nL (pc + 1) L (gJ n :: st) M) : gG X V nL pc L st M :=
  fun hL hS hM ls H locs hl hP hV => lv_lconst C.1 C.2.1 d hv (k hL (gok_n hn hS) hM ls H locs hl hP hV)
theorem g_ldc2 (C : gC X V l cc nL own fr lo) {i : Nat} {n : Int} {v : Int64} (d : decode cc pc = .ok (.ldc2_w i, 3)) (hw : Cond.constantLong own i v ∈ lw_good) (hv : v = Int64.ofInt n) (hn : gOK (gJ n)) (k : gG X V nL (pc + 3) L (gJ n :: st) M) : gG X V nL pc L st M := by
  subst hv
  exact fun hL hS hM ls H locs hl hP hV => lv_ldc2 C.1 C.2.1 C.2.2.2.1 (C.2.2.2.2.1 _ hw) d (k hL (gok_n hn hS) hM ls H locs hl hP hV)
-- locals
theorem g_lat {ls : Array Slot} (hl : lv_has ls nL (L.map (fun q => (q.1, grv V q.2)))) (j : Nat) {i : Nat} {q : gSV} (h : L[j]? = some (i, q)) : ls[i]? = some (.val (grv V q)) := lv_at hl j (by rw [List.getElem?_map, h]; rfl)
theorem g_lok (hL : ∀ q ∈ L, gOK q.2) (j : Nat) {i : Nat} {q : gSV} (h : L[j]? = some (i, q)) : gOK q := hL _ (List.mem_of_getElem? h)
theorem g_iloadn (C : gC X V l cc nL own fr lo) {k : Fin 4} {z : Int} (d : decode cc pc = .ok (.iload_n k, 1)) (j : Nat) (h : L[j]? = some ((k : Nat), gI z)) (kk : gG X V nL (pc + 1) L (gI z :: st) M) : gG X V nL pc L st M :=
  fun hL hS hM ls H locs hl hP hV => lv_iload_n C.1 C.2.1 d rfl (g_lat hl j h) (kk hL (gok_n (g_lok hL j h) hS) hM ls H locs hl hP hV)
theorem g_iload (C : gC X V l cc nL own fr lo) {i : Nat} {z : Int} (d : decode cc pc = .ok (.iload i, 2)) (j : Nat) (h : L[j]? = some (i, gI z)) (kk : gG X V nL (pc + 2) L (gI z :: st) M) : gG X V nL pc L st M :=
  fun hL hS hM ls H locs hl hP hV => lv_iload C.1 C.2.1 d (g_lat hl j h) (kk hL (gok_n (g_lok hL j h) hS) hM ls H locs hl hP hV)
theorem g_aloadn (C : gC X V l cc nL own fr lo) {k : Fin 4} {z : Int} (d : decode cc pc = .ok (.aload_n k, 1)) (j : Nat) (h : L[j]? = some ((k : Nat), gF z)) (kk : gG X V nL (pc + 1) L (gF z :: st) M) : gG X V nL pc L st M :=
  fun hL hS hM ls H locs hl hP hV => lv_aload_n C.1 C.2.1 d rfl (g_lat hl j h) (kk hL (gok_n (g_lok hL j h) hS) hM ls H locs hl hP hV)
theorem g_aloadnB (C : gC X V l cc nL own fr lo) {k : Fin 4} {z : Int} (d : decode cc pc = .ok (.aload_n k, 1)) (j : Nat) (h : L[j]? = some ((k : Nat), gB z)) (kk : gG X V nL (pc + 1) L (gB z :: st) M) : gG X V nL pc L st M :=
  fun hL hS hM ls H locs hl hP hV => lv_aload_n C.1 C.2.1 d rfl (g_lat hl j h) (kk hL (gok_n (g_lok hL j h) hS) hM ls H locs hl hP hV)
theorem g_aload (C : gC X V l cc nL own fr lo) {i : Nat} {z : Int} (d : decode cc pc = .ok (.aload i, 2)) (j : Nat) (h : L[j]? = some (i, gF z)) (kk : gG X V nL (pc + 2) L (gF z :: st) M) : gG X V nL pc L st M :=
  fun hL hS hM ls H locs hl hP hV => lv_aload C.1 C.2.1 d (g_lat hl j h) (kk hL (gok_n (g_lok hL j h) hS) hM ls H locs hl hP hV)
theorem g_lloadn (C : gC X V l cc nL own fr lo) {k : Fin 4} {z : Int} (d : decode cc pc = .ok (.lload_n k, 1)) (j : Nat) (h : L[j]? = some ((k : Nat), gJ z)) (kk : gG X V nL (pc + 1) L (gJ z :: st) M) : gG X V nL pc L st M :=
  fun hL hS hM ls H locs hl hP hV => lv_lload_n C.1 C.2.1 d rfl (g_lat hl j h) (kk hL (gok_n (g_lok hL j h) hS) hM ls H locs hl hP hV)
theorem g_lload (C : gC X V l cc nL own fr lo) {i : Nat} {z : Int} (d : decode cc pc = .ok (.lload i, 2)) (j : Nat) (h : L[j]? = some (i, gJ z)) (kk : gG X V nL (pc + 2) L (gJ z :: st) M) : gG X V nL pc L st M :=
  fun hL hS hM ls H locs hl hP hV => lv_lload C.1 C.2.1 d (g_lat hl j h) (kk hL (gok_n (g_lok hL j h) hS) hM ls H locs hl hP hV)
def gset (L : List (Nat × gSV)) (i : Nat) (q : gSV) : List (Nat × gSV) := (i, q) :: L.filter (fun x => !(x.1 == i) && !(x.1 + 1 == i && x.2.1 == 2))
theorem gset_map (i : Nat) (q : gSV) : (i, grv V q) :: (L.map (fun x => (x.1, grv V x.2))).filter (fun x => !(x.1 == i) && !(x.1 + 1 == i && x.2.category == 2)) = (gset L i q).map (fun x => (x.1, grv V x.2)) := by
  unfold gset
  rw [List.map_cons, List.filter_map]
  congr 2
  apply List.filter_congr
  intro x _
  simp only [Function.comp_apply, grv_cat]
  by_cases h : x.2.1 = 2 <;> simp [h]
theorem gset_ok {i : Nat} {q : gSV} (hq : gOK q) (hL : ∀ q ∈ L, gOK q.2) : ∀ x ∈ gset L i q, gOK x.2 := by
  intro x hx
  unfold gset at hx
  rcases List.mem_cons.mp hx with rfl | hx
  · exact hq
  · exact hL x (List.mem_filter.mp hx).1
theorem g_istoren (C : gC X V l cc nL own fr lo) {k : Fin 4} {z : Int} (L' : List (Nat × gSV)) (d : decode cc pc = .ok (.istore_n k, 1)) (hn : (k : Nat) < nL) (e : gset L (k : Nat) (gI z) = L') (kk : gG X V nL (pc + 1) L' st M) : gG X V nL pc L (gI z :: st) M := by
  subst e
  exact fun hL hS hM ls H locs hl hP hV => lv_istore_n C.1 C.2.1 d rfl hl hn (gset_map _ (gI z)) (fun ls' hl' => kk (gset_ok (gok_c hS) hL) (gok_t hS) hM ls' H locs hl' hP hV)
theorem g_istore (C : gC X V l cc nL own fr lo) {i : Nat} {z : Int} (L' : List (Nat × gSV)) (d : decode cc pc = .ok (.istore i, 2)) (hn : i < nL) (e : gset L i (gI z) = L') (kk : gG X V nL (pc + 2) L' st M) : gG X V nL pc L (gI z :: st) M := by
  subst e
  exact fun hL hS hM ls H locs hl hP hV => lv_istore C.1 C.2.1 d hl hn (gset_map _ (gI z)) (fun ls' hl' => kk (gset_ok (gok_c hS) hL) (gok_t hS) hM ls' H locs hl' hP hV)
theorem g_astoren (C : gC X V l cc nL own fr lo) {k : Fin 4} {z : Int} (L' : List (Nat × gSV)) (d : decode cc pc = .ok (.astore_n k, 1)) (hn : (k : Nat) < nL) (e : gset L (k : Nat) (gF z) = L') (kk : gG X V nL (pc + 1) L' st M) : gG X V nL pc L (gF z :: st) M := by
  subst e
  exact fun hL hS hM ls H locs hl hP hV => lv_astore_n C.1 C.2.1 d rfl hl hn (gset_map _ (gF z)) (fun ls' hl' => kk (gset_ok (gok_c hS) hL) (gok_t hS) hM ls' H locs hl' hP hV)
theorem g_astore (C : gC X V l cc nL own fr lo) {i : Nat} {z : Int} (L' : List (Nat × gSV)) (d : decode cc pc = .ok (.astore i, 2)) (hn : i < nL) (e : gset L i (gF z) = L') (kk : gG X V nL (pc + 2) L' st M) : gG X V nL pc L (gF z :: st) M := by
  subst e
  exact fun hL hS hM ls H locs hl hP hV => lv_astore C.1 C.2.1 d hl hn (gset_map _ (gF z)) (fun ls' hl' => kk (gset_ok (gok_c hS) hL) (gok_t hS) hM ls' H locs hl' hP hV)
theorem g_iinc (C : gC X V l cc nL own fr lo) {i : Nat} {n z : Int} (L' : List (Nat × gSV)) (d : decode cc pc = .ok (.iinc i n, 3)) (j : Nat) (h : L[j]? = some (i, gI z)) (hn : i < nL) (hr : gR (z + n)) (e : gset L i (gI (z + n)) = L') (kk : gG X V nL (pc + 3) L' st M) : gG X V nL pc L st M := by
  subst e
  exact fun hL hS hM ls H locs hl hP hV => lv_iinc (x := g32 z) (v := g32 (z + n)) (k := j) C.1 C.2.1 d hl (by rw [List.getElem?_map, h]; rfl) (Int32.ofInt_add z n).symm hn (gset_map _ (gI (z + n))) (fun ls' hl' => kk (gset_ok hr hL) hS hM ls' H locs hl' hP hV)
/-- fewer locals -/
theorem g_sub (L' : List (Nat × gSV)) (ks : List Nat) (e : ks.filterMap (fun k => L[k]?) = L') (kk : gG X V nL pc L' st M) : gG X V nL pc L st M := by
  subst e
  intro hL hS hM ls H locs hl hP hV
  refine kk (fun q hq => ?_) hS hM ls H locs ?_ hP hV
  · obtain ⟨k, -, hk⟩ := List.mem_filterMap.mp hq
    exact hL q (List.mem_of_getElem? hk)
  · refine lv_sub hl ks ?_
    unfold lv_pick
    rw [List.map_filterMap]
    apply congrArg (fun f => List.filterMap f ks)
    funext k
    rw [List.getElem?_map]
-- arithmetic
theorem g_iadd (C : gC X V l cc nL own fr lo) {a b : Int} (d : decode cc pc = .ok (.iadd, 1)) (hr : gR (a + b)) (k : gG X V nL (pc + 1) L (gI (a + b) :: st) M) : gG X V nL pc L (gI b :: gI a :: st) M := by
  intro hL hS hM ls H locs hl hP hV
  have k := k hL (gok_n hr (gok_t (gok_t hS))) hM ls H locs hl hP hV
  refine lv_iadd C.1 C.2.1 d ?_
  rw [show g32 (gI a).2 + g32 (gI b).2 = g32 (a + b) from (Int32.ofInt_add a b).symm]
  exact k
theorem g_isub (C : gC X V l cc nL own fr lo) {a b : Int} (d : decode cc pc = .ok (.isub, 1)) (hr : gR (a - b)) (k : gG X V nL (pc + 1) L (gI (a - b) :: st) M) : gG X V nL pc L (gI b :: gI a :: st) M := by
  intro hL hS hM ls H locs hl hP hV
  have k := k hL (gok_n hr (gok_t (gok_t hS))) hM ls H locs hl hP hV
  refine lv_isub C.1 C.2.1 d ?_
  rw [show g32 (gI a).2 - g32 (gI b).2 = g32 (a - b) from (Int32.ofInt_sub a b).symm]
  exact k
theorem g_imul (C : gC X V l cc nL own fr lo) {a b : Int} (d : decode cc pc = .ok (.imul, 1)) (hr : gR (a * b)) (k : gG X V nL (pc + 1) L (gI (a * b) :: st) M) : gG X V nL pc L (gI b :: gI a :: st) M := by
  intro hL hS hM ls H locs hl hP hV
  have k := k hL (gok_n hr (gok_t (gok_t hS))) hM ls H locs hl hP hV
  refine lv_imul C.1 C.2.1 d ?_
  rw [show g32 (gI a).2 * g32 (gI b).2 = g32 (a * b) from (Int32.ofInt_mul a b).symm]
  exact k
end GI
