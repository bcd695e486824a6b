/-! THE CONSTRUCTORS: cells come one behind the other from 'base' on -/
theorem aAOA_spec {ty : FieldType} {A : Array Value} {U : State} (h : (Cond.arrayOver (.array ty)).before A U = true) : ∃ comp c k, U.vm.findClass (FieldType.array ty).toString = some comp ∧ (U.vm.classes.findIdx? fun (x : Class) => match x.kind with | .array component _ => component == comp | _ => false) = some c ∧ U.vm.classes[c]? = some k ∧ k.kind = .array comp (.array ty) ∧ U.vm.findClass ("[" ++ (FieldType.array ty).toString) = some c := by
  unfold Cond.before Cond.holds at h
  simp only [Cond.value, beq_iff_eq] at h
  cases hc : U.vm.findClass (FieldType.array ty).toString with
  | none => simp [hc] at h
  | some comp =>
    rw [hc, Option.bind_some] at h
    obtain ⟨c, hi, h⟩ := Option.bind_eq_some_iff.mp h
    obtain ⟨k, hk, hb⟩ := Option.map_eq_some_iff.mp h
    have hp := (Array.findIdx?_eq_some_iff_getElem.mp hi)
    obtain ⟨hlt, hp, -⟩ := hp
    have hkk : U.vm.classes[c] = k := (Array.getElem?_eq_some_iff.mp hk).2
    rw [hkk] at hp
    cases hkind : k.kind with
    | array component ty' =>
      rw [hkind] at hb hp
      simp at hb hp
      exact ⟨comp, c, k, rfl, hi, hk, by rw [hkind, hp, hb.1], hb.2⟩
    | _ => rw [hkind] at hb; simp at hb
theorem va_AOA.moved {ty : FieldType} {u U : State} (hvm : u.vm.Alike U.vm) (h : va_AOA ty u) : va_AOA ty U := by
  obtain ⟨comp, c, k, h1, h2, h3, h4, h5⟩ := aAOA_spec h
  obtain ⟨k', hk', he⟩ := hvm.2.2 _ _ h3
  have hi : (U.vm.classes.findIdx? fun (x : Class) => match x.kind with | .array component _ => component == comp | _ => false) = some c := by
    rw [hvm.findIdx?_eqK _ (fun _ => rfl)]
    exact h2
  have hkind : k'.kind = .array comp (.array ty) := by rw [he]; exact h4
  have f1 : U.vm.findClass (FieldType.array ty).toString = some comp := by rw [hvm.findClass]; exact h1
  have f2 : U.vm.findClass ("[" ++ (FieldType.array ty).toString) = some c := by rw [hvm.findClass]; exact h5
  unfold va_AOA Cond.before Cond.holds
  simp only [Cond.value]
  rw [f1, Option.bind_some]
  refine (congrArg (fun o : Option Nat => (o.bind (fun c => (U.vm.classes[c]?).map fun (k : Class) => match k.kind with | .array _ ty' => decide (ty' = FieldType.array ty) && decide (U.vm.findClass ("[" ++ (FieldType.array ty).toString) = some c) | _ => false) == some true)) hi).trans ?_
  simp [hk', hkind, f2]
def aA (base : Nat) : Nat → Prop := fun q => base ≤ q
def aS (D : va_G) (base : Nat) (ws : va_W) (H : Heap) : Prop := va_P D vwCl ws H ∧ (∀ (i : Nat) (q : Nat × va_E), ws[i]? = some q → q.1 = base + i) ∧ H.size = base + ws.length
theorem aS.D {D : va_G} {base : Nat} {ws : va_W} {H : Heap} (h : aS D base ws H) : va_D (aA base) ws := ⟨fun i j p q hi hj e => by have h1 := h.2.1 i p hi; have h2 := h.2.1 j q hj; omega, fun k q hk => by have h1 := h.2.1 k q hk; show base ≤ q.1; omega⟩
theorem aget {pre own : va_W} {j : Nat} {q : Nat × va_E} (h : own[j]? = some q) : (pre ++ own)[pre.length + j]? = some q := by
  rw [List.getElem?_append_right (by omega), show pre.length + j - pre.length = j by omega]
  exact h
theorem aset {pre own : va_W} {j : Nat} {x : Nat × va_E} : (pre ++ own).set (pre.length + j) x = pre ++ own.set j x := by
  refine (List.set_append ..).trans ?_
  rw [if_neg (by omega), show pre.length + j - pre.length = j by omega]
theorem aS_set {D : va_G} {base : Nat} {pre own : va_W} {H H1 : Heap} {j : Nat} {a : Nat} {e0 e : va_E} (h : aS D base (pre ++ own) H) (hj : own[j]? = some (a, e0)) (hP : va_P D vwCl ((pre ++ own).set (pre.length + j) (a, e)) H1) (hz : H1.size = H.size) : aS D base (pre ++ own.set j (a, e)) H1 := by
  rw [aset] at hP
  refine ⟨hP, fun i q hi => ?_, ?_⟩
  · rw [← aset] at hi
    by_cases hij : i = pre.length + j
    · subst hij
      rw [List.getElem?_set] at hi
      split at hi
      · split at hi
        · cases hi
          have := h.2.1 _ _ (aget (pre := pre) hj)
          exact this
        · cases hi
      · exact h.2.1 _ _ hi
    · rw [List.getElem?_set_ne (fun q => hij q.symm)] at hi
      exact h.2.1 _ _ hi
  · rw [hz, h.2.2, List.length_append, List.length_append, List.length_set]
theorem aS_new {D : va_G} {base : Nat} {ws : va_W} {H H1 : Heap} {e : va_E} (h : aS D base ws H) (hP : va_P D vwCl (ws ++ [(H.size, e)]) H1) (hz : H1.size = H.size + 1) : aS D base (ws ++ [(base + ws.length, e)]) H1 := by
  have hs := h.2.2
  rw [hs] at hP hz
  refine ⟨hP, fun i q hi => ?_, ?_⟩
  · by_cases hl : i < ws.length
    · rw [List.getElem?_append_left hl] at hi
      exact h.2.1 i q hi
    · rw [List.getElem?_append_right (by omega)] at hi
      have h0 : i - ws.length < 1 := (List.getElem?_eq_some_iff.mp hi).1
      rw [show i - ws.length = 0 by omega] at hi
      cases hi
      show base + ws.length = base + i
      omega
  · rw [hz, List.length_append]
    rfl
def aE (U : State) : Prop := va_Nw (.methodLinkNest "BunchNotes$Slot" 16 ⟨"BunchNotes", "blankNotes", "()[LBunchNotes$Note;"⟩ "BunchNotes") U ∧ va_Nw (.methodLinkNest "BunchNotes" 71 ⟨"BunchNotes$Telling", "<init>", "()V"⟩ "BunchNotes") U ∧ va_Nw (.methodLinkNest "BunchNotes" 78 ⟨"BunchNotes$Peak", "<init>", "()V"⟩ "BunchNotes") U ∧ va_AO "BunchNotes$Net" U ∧ va_AO "BunchNotes$Note" U ∧ va_AO "BunchNotes$Slot" U ∧ va_AOA .int U
theorem aE_pass {s U : State} (h : aE s) (hW : s.WarmedH U.vm) : aE U := by
  obtain ⟨n0, n1, n2, o1, o2, o3, o4⟩ := h
  exact ⟨n0.warmM hW, n1.warmM hW, n2.warmM hW, o1.moved hW.alike, o2.moved hW.alike, o3.moved hW.alike, o4.moved hW.alike⟩
theorem aE_same {s U : State} (h : aE s) (hv : s.vm = U.vm) : aE U := by
  have ha : s.vm.Alike U.vm := by rw [hv]; exact Vm.Alike.refl _
  obtain ⟨n0, n1, n2, o1, o2, o3, o4⟩ := h
  exact ⟨n0.same rfl hv, n1.same rfl hv, n2.same rfl hv, o1.moved ha, o2.moved ha, o3.moved ha, o4.moved ha⟩
def aPre (V : gW) (base : Nat) (ws : va_W) (U : State) : Prop := aS V.1 base ws U.heap ∧ va_K V.1 vwCl (gtys V) U ∧ aE U ∧ base ≤ U.heap.size
theorem aPre_blind {V : gW} {base : Nat} {ws : va_W} {av : List Value} : FrameBlind (va_Pc av (aPre V base ws)) := fun a U g mk q => ⟨q.1, q.2.1, va_K.moved (u := U) (U := U.calling g mk a) (Vm.Alike.refl U.vm) q.2.2.1, aE_same (s := U) (U := U.calling g mk a) q.2.2.2.1 rfl, q.2.2.2.2⟩
/-- a constructor's contract, and blankNotes' -/
def aMv (l : Launch) (V : gW) (base : Nat) (y : MethodName) (cc : ByteArray) (ml fr lo mc ms : Nat) (av : List Value) (ws1 ws2 : va_W) : Prop :=
  Met l y (gws' y cc ml none) { frames := fr, cells := mc, slots := ms, locals := lo } (va_Pc av (aPre V base ws1)) (va_Qv (fun _ : Unit => True) (fun _ t => aS V.1 base ws2 t.heap) (aA base)) mc ms (aA base)
def aMr (l : Launch) (V : gW) (base : Nat) (y : MethodName) (cc : ByteArray) (ml fr lo mc ms : Nat) (rt : FieldType) (av : List Value) (ws1 ws2 : va_W) (a : Nat) : Prop :=
  Met l y (gws' y cc ml (some rt)) { frames := fr, cells := mc, slots := ms, locals := lo } (va_Pc av (aPre V base ws1)) (va_Qr (fun _ : Unit => True) (fun _ b t => b = a ∧ aS V.1 base ws2 t.heap) (aA base)) mc ms (aA base)
def aC (p : Program) (R : Room) (s : State) (m : MethodId) (args : Array Value) (c : Code) (V : gW) (base : Nat) (cc : ByteArray) (nL : Nat) (own : String) (fr lo mc ms : Nat) : Prop :=
  p.tables.exec = Jvm.exec ∧ c.code = cc ∧ c.maxLocals = nL ∧ s.vm.findClass own = some m.cls ∧ (∀ w ∈ lw_good, w.before args s = true) ∧ va_K V.1 vwCl (gtys V) s ∧ aE s ∧ base ≤ s.heap.size ∧ R.frames = fr ∧ R.locals = lo ∧ R.cells = mc ∧ R.slots = ms
section AW
variable {p : Program} {l : Launch} {e : Env} {R : Room} {s : State} {m : MethodId} {args : Array Value} {below : List Frame} {meth : Method} {c : Code} {H : Heap} {locs : List Loc} {cells slots : Nat} {Q : State → Prop}
variable {cc : ByteArray} {pc : Nat} {ls : Array Slot} {rest : List Value} {V : gW} {base nL fr lo mc ms : Nat} {own : String} {pre ow : va_W} {a : Nat}
theorem a_A (C : aC p R s m args c V base cc nL own fr lo mc ms) : ∀ q, s.heap.size ≤ q → aA base q := fun q h => Nat.le_trans C.2.2.2.2.2.2.2.1 h
theorem a_new (C : aC p R s m args c V base cc nL own fr lo mc ms) {Cn : String} {T : u_T} {N ci i n : Nat} (hin : ∀ w ∈ u_ws Cn T N, w ∈ lw_good) (ty : Nat → FieldType) (hty : ∀ k, k < N → parseFieldDescriptor (T k).2.2.1 = some (ty k)) (hw1 : Cond.classLink own i Cn ∈ lw_good) (hw2 : Cond.instantiable Cn N ∈ lw_good) (hw3 : Cond.initialized Cn ∈ lw_good) (hP : aS V.1 base (pre ++ ow) H) (ha : a = base + pre.length) (hn : ow.length = n) (hS : va_S (aA base) s.heap H locs) (hc : vwCl[ci]? = some (Cn, T, N)) {fs : List Value} (hfs : ∀ j, j < N → defaultValue (ty j) = vp_V fs j) (hcells : cells + 1 ≤ mc) (hslots : slots + N ≤ ms) (hdg : decode cc pc = .ok (.new i, 3))
    (kk : ∀ H1 : Heap, aS V.1 base (pre ++ (ow ++ [(a + n, .inr (ci, fs))])) H1 → va_S (aA base) s.heap H1 locs → W p l e R s m args below meth c H1 locs (cells + 1) (slots + N) Q (F0 m (pc + 3) ls (.ref (a + n) :: rest))) : W p l e R s m args below meth c H locs cells slots Q (F0 m pc ls rest) := by
  obtain ⟨hx, hb, -, hown, hts, hK, -, -, -, -, hrc, hrs⟩ := id C
  have hKn := hK.1 ci _ hc
  have hsz : H.size = a + n := by rw [hP.2.2, List.length_append, ha, hn]; omega
  refine W.newcK hx hb hown (hts _ hw1) (hts _ hw2) (hts _ hw3) rfl hdg (by rw [hrc]; exact hcells) (by rw [hrs]; exact hslots) hKn.2.1 rfl fun H1 kC hkC e1 z1 o1 => ?_
  have hk : ∀ (k : Nat) (x : Nat × va_E), (pre ++ ow)[k]? = some x → H1[x.1]? = H[x.1]? := fun k x hx => o1 x.1 ((hP.1 k x hx).lt)
  have hP2 : va_P V.1 vwCl ((pre ++ ow) ++ [(H.size, .inr (ci, fs))]) H1 := (hP.1.kept hk).app (fun k x hx => by
    have hz : k < 1 := (List.getElem?_eq_some_iff.mp hx).1
    rw [show k = 0 by omega] at hx
    cases hx
    exact ⟨_, hc, (u_born ty hts hin hKn hkC e1 hty).to hfs⟩)
  have hS2 : va_S (aA base) s.heap H1 locs := ⟨Nat.le_trans hS.1 (by omega), fun x h1 h2 => (o1 x (Nat.lt_of_lt_of_le h1 hS.1)).trans (hS.2.1 x h1 h2), hS.2.2⟩
  have h9 := aS_new hP hP2 z1
  rw [← hP.2.2, hsz, List.append_assoc] at h9
  rw [hsz]
  exact kk H1 h9 hS2
theorem a_arr (C : aC p R s m args c V base cc nL own fr lo mc ms) (t0 : Nat) {ty : FieldType} {cA : ClassId} (ht : (gtys V)[t0]? = some (cA, ty)) (hra : va_RA s cA ty → s.vm.findClass ("[" ++ ty.toString) = some cA) {atype : ArrayType} (hty : newarray.typeOf atype = ty) (hw : Cond.arrayClass ty ∈ lw_good) {z : Int} {N n : Nat} (hz : z = (N : Int)) (hN : N ≤ 2000) (hP : aS V.1 base (pre ++ ow) H) (ha : a = base + pre.length) (hn : ow.length = n) (hS : va_S (aA base) s.heap H locs) (hdv : defaultValue ty = .int 0) (hcb : componentBytes ty ≤ 8) (hcells : cells + 1 ≤ mc) (hslots : slots + N ≤ ms) (hdg : decode cc pc = .ok (.newarray atype, 2))
    (kk : ∀ H1 : Heap, aS V.1 base (pre ++ (ow ++ [(a + n, .inl (cA, N, .inl (fun _ => 0)))])) H1 → va_S (aA base) s.heap H1 locs → W p l e R s m args below meth c H1 locs (cells + 1) (slots + N) Q (F0 m (pc + 2) ls (.ref (a + n) :: rest))) : W p l e R s m args below meth c H locs cells slots Q (F0 m pc ls (.int (g32 z) :: rest)) := by
  obtain ⟨hx, hb, -, hown, hts, hK, -, -, -, -, hrc, hrs⟩ := id C
  subst hty
  subst hz
  have hr : gR (N : Int) := ⟨by omega, by omega⟩
  have hsz : H.size = a + n := by rw [hP.2.2, List.length_append, ha, hn]; omega
  refine va_newaK hx hb (hts _ hw) rfl hdg rfl (fun h => by have := (g32_lt hr gR_0).mp h; omega) (by rw [g32_nat hr, Int.toNat_natCast]) (Nat.le_trans (Nat.mul_le_mul hN hcb) (Nat.le_of_ble_eq_true rfl)) (by rw [hrc]; exact hcells) (by rw [hrs]; exact hslots) rfl fun H1 cB e1 z1 o1 hAr hNm => ?_
  have hcc : cB = cA := Option.some.inj (hNm.symm.trans (hra (hK.2 t0 _ ht).2))
  subst hcc
  have hk : ∀ (k : Nat) (x : Nat × va_E), (pre ++ ow)[k]? = some x → H1[x.1]? = H[x.1]? := fun k x hx => o1 x.1 ((hP.1 k x hx).lt)
  have hP2 : va_P V.1 vwCl ((pre ++ ow) ++ [(H.size, .inl (cB, N, .inl (fun _ => 0)))]) H1 := (hP.1.kept hk).app (fun k x hx => by
    have hz : k < 1 := (List.getElem?_eq_some_iff.mp hx).1
    rw [show k = 0 by omega] at hx
    cases hx
    show H1[H.size]? = some (vp_cell _ _)
    rw [vp_cell_i, e1, hdv])
  have hS2 : va_S (aA base) s.heap H1 locs := ⟨Nat.le_trans hS.1 (by omega), fun x h1 h2 => (o1 x (Nat.lt_of_lt_of_le h1 hS.1)).trans (hS.2.1 x h1 h2), hS.2.2⟩
  have h9 := aS_new hP hP2 z1
  rw [← hP.2.2, hsz, List.append_assoc] at h9
  have g := kk H1 h9 hS2
  show W _ _ _ _ _ _ _ _ _ _ _ _ _ _ _ (F0 m (pc + 2) ls (.ref H.size :: rest))
  rw [hsz]
  exact g
theorem a_arrQ (C : aC p R s m args c V base cc nL own fr lo mc ms) (t0 : Nat) {Cn : String} {cA : ClassId} (ht : (gtys V)[t0]? = some (cA, .object Cn)) {i : Nat} (hw : Cond.classLink own i Cn ∈ lw_good) (hov : va_AO Cn s) {z : Int} {N n : Nat} (hz : z = (N : Int)) (hN : N ≤ 2000) (hP : aS V.1 base (pre ++ ow) H) (ha : a = base + pre.length) (hn : ow.length = n) (hS : va_S (aA base) s.heap H locs) (hcells : cells + 1 ≤ mc) (hslots : slots + N ≤ ms) (hdg : decode cc pc = .ok (.anewarray i, 3))
    (kk : ∀ H1 : Heap, aS V.1 base (pre ++ (ow ++ [(a + n, .inl (cA, N, .inr (.inr (.inr (.inr (fun _ => none))))))])) H1 → va_S (aA base) s.heap H1 locs → W p l e R s m args below meth c H1 locs (cells + 1) (slots + N) Q (F0 m (pc + 3) ls (.ref (a + n) :: rest))) : W p l e R s m args below meth c H locs cells slots Q (F0 m pc ls (.int (g32 z) :: rest)) := by
  obtain ⟨hx, hb, -, hown, hts, hK, -, -, -, -, hrc, hrs⟩ := id C
  subst hz
  have hr : gR (N : Int) := ⟨by omega, by omega⟩
  have hsz : H.size = a + n := by rw [hP.2.2, List.length_append, ha, hn]; omega
  have eN : (g32 (N : Int)).toNatClampNeg = N := by rw [g32_nat hr, Int.toNat_natCast]
  refine W.anew hx hb hown (hts _ hw) (va_AO.use hov) rfl hdg rfl (fun h => by have := (g32_lt hr gR_0).mp h; omega) (by rw [eN]; omega) (by rw [hrc]; exact hcells) (by rw [hrs, eN]; exact hslots) fun cB kA comp f1 f2 f3 f4 => ?_
  rw [eN]
  obtain ⟨kA', comp', k1, k2, k3, k4⟩ := (hK.2 t0 _ ht).2
  have hcc : cB = cA := Option.some.inj (f1.symm.trans k4)
  subst hcc
  generalize hH1 : H.push ({ cls := cB, slots := Array.replicate N .null, vm := .none } : Cell) = H1
  have z1 : H1.size = H.size + 1 := by rw [← hH1, Array.size_push]
  have e1 : H1[H.size]? = some (arrV cB N (fun _ => .null)) := by rw [← hH1, Array.getElem?_push_size, ← arrV_new]
  have o1 : ∀ q : Nat, q < H.size → H1[q]? = H[q]? := fun q hq => by rw [← hH1, Array.getElem?_push, if_neg (Nat.ne_of_lt hq)]
  have hk : ∀ (k : Nat) (x : Nat × va_E), (pre ++ ow)[k]? = some x → H1[x.1]? = H[x.1]? := fun k x hx => o1 x.1 ((hP.1 k x hx).lt)
  have hP2 : va_P V.1 vwCl ((pre ++ ow) ++ [(H.size, .inl (cB, N, .inr (.inr (.inr (.inr (fun _ => none))))))]) H1 := (hP.1.kept hk).app (fun k x hx => by
    have hz : k < 1 := (List.getElem?_eq_some_iff.mp hx).1
    rw [show k = 0 by omega] at hx
    cases hx
    show H1[H.size]? = some (vp_cell _ _)
    rw [vp_cell_q]
    exact e1)
  have hS2 : va_S (aA base) s.heap H1 locs := ⟨Nat.le_trans hS.1 (by omega), fun x h1 h2 => (o1 x (Nat.lt_of_lt_of_le h1 hS.1)).trans (hS.2.1 x h1 h2), hS.2.2⟩
  have h9 := aS_new hP hP2 z1
  rw [← hP.2.2, hsz, List.append_assoc] at h9
  have g := kk H1 h9 hS2
  show W _ _ _ _ _ _ _ _ _ _ _ _ _ _ _ (F0 m (pc + 3) ls (.ref H.size :: rest))
  rw [hsz]
  exact g
theorem a_put (C : aC p R s m args c V base cc nL own fr lo mc ms) {Cn : String} {T : u_T} {N ci i : Nat} (hin : ∀ w ∈ u_ws Cn T N, w ∈ lw_good) (ty0 : Nat → FieldType) (hty : ∀ k, k < N → parseFieldDescriptor (T k).2.2.1 = some (ty0 k)) (hnm : ∀ a, a < N → ∀ b, b < N → a ≠ b → (T a).2.1 ≠ (T b).2.1) (hP : aS V.1 base (pre ++ ow) H) (hS0 : va_S (aA base) s.heap H locs) (j : Nat) {fs : List Value} (he : ow[j]? = some (a, .inr (ci, fs))) (hc : vwCl[ci]? = some (Cn, T, N)) (k : Nat) (hk : k < N) (hw : Cond.fieldLink own i (T k).1 (T k).2.1 (T k).2.2.1 ∈ lw_good) (hfin : (T k).2.2.2 = false) {ty : FieldType} {v : Value} (hd : parseFieldDescriptor (T k).2.2.1 = some ty) (hn : narrow ty v = v) (hfit : fits ty v = true) (hl : k < fs.length) (hdg : decode cc pc = .ok (.putfield i, 3))
    (kk : ∀ (H1 : Heap) (locs1 : List Loc), aS V.1 base (pre ++ ow.set j (a, .inr (ci, fs.set k v))) H1 → va_S (aA base) s.heap H1 locs1 → W p l e R s m args below meth c H1 locs1 cells slots Q (F0 m (pc + 3) ls rest)) : W p l e R s m args below meth c H locs cells slots Q (F0 m pc ls (v :: .ref a :: rest)) := by
  obtain ⟨hx, hb, -, hown, hts, hK, -, -, -, -, hrc, hrs⟩ := id C
  have hD := hP.D
  have he2 := aget (pre := pre) he
  have hap := va_apart (own := own) hts hin ty0 hty hnm hK hc
  obtain ⟨r, h1, cell, q1, q2, q3, q4⟩ := hP.1 _ _ he2
  have hr : r = (Cn, T, N) := Option.some.inj (h1.symm.trans hc)
  subst hr
  obtain ⟨hS, hfc, kC, hkC, hkind⟩ := hK.1 ci _ hc
  obtain ⟨cf, kf, fi, f, hi, hsl⟩ := hS k hk
  have hlay := hts _ (hin _ (u_in_lay hk))
  unfold u_lay at hlay
  rw [if_neg (by rw [hfin]; decide)] at hlay
  have hst := (u_facts hfc hkC (u_lays hts hin hk) hi).1
  have h6 := u_store hfc hkC hkind hlay hi hd hn hfit
  refine W.putK hx hb (f := f) ⟨hown, hts _ hw, ⟨_, _, _, hi⟩, hst⟩ (by rw [q2]; exact h6) q1 q3 (by rw [hsl]; exact k2_hasslot (q4 k hk)) rfl rfl hdg fun H' e1 e2 e3 => ?_
  rw [hsl] at e1 ⊢
  exact kk H' _ (aS_set hP he (hP.1.set hD he2 ⟨_, hc, t_OB.to (V := updV (vp_V fs) k v) ⟨_, e1, q2, q3, t_set q4 hap hk v⟩ (fun j _ => vp_updV_set hl v j)⟩ e3) e2) (hS0.put e2 e3 (hD.2 _ _ he2))
theorem a_putF (C : aC p R s m args c V base cc nL own fr lo mc ms) {Cn : String} {T : u_T} {N ci i : Nat} (hin : ∀ w ∈ u_ws Cn T N, w ∈ lw_good) (ty0 : Nat → FieldType) (hty : ∀ k, k < N → parseFieldDescriptor (T k).2.2.1 = some (ty0 k)) (hnm : ∀ a, a < N → ∀ b, b < N → a ≠ b → (T a).2.1 ≠ (T b).2.1) (hP : aS V.1 base (pre ++ ow) H) (hS0 : va_S (aA base) s.heap H locs) (j : Nat) {fs : List Value} (he : ow[j]? = some (a, .inr (ci, fs))) (hc : vwCl[ci]? = some (Cn, T, N)) (k : Nat) (hk : k < N) (hw : Cond.fieldLink own i (T k).1 (T k).2.1 (T k).2.2.1 ∈ lw_good) (hfin : (T k).2.2.2 = true) (hin2 : meth.name = "<init>") (hdecl : (T k).1 = own) {ty : FieldType} {v : Value} (hd : parseFieldDescriptor (T k).2.2.1 = some ty) (hn : narrow ty v = v) (hfit : fits ty v = true) (hl : k < fs.length) (hdg : decode cc pc = .ok (.putfield i, 3))
    (kk : ∀ (H1 : Heap) (locs1 : List Loc), aS V.1 base (pre ++ ow.set j (a, .inr (ci, fs.set k v))) H1 → va_S (aA base) s.heap H1 locs1 → W p l e R s m args below meth c H1 locs1 cells slots Q (F0 m (pc + 3) ls rest)) : W p l e R s m args below meth c H locs cells slots Q (F0 m pc ls (v :: .ref a :: rest)) := by
  obtain ⟨hx, hb, -, hown, hts, hK, -, -, -, -, hrc, hrs⟩ := id C
  have hD := hP.D
  have he2 := aget (pre := pre) he
  have hap := va_apart (own := own) hts hin ty0 hty hnm hK hc
  obtain ⟨r, h1, cell, q1, q2, q3, q4⟩ := hP.1 _ _ he2
  have hr : r = (Cn, T, N) := Option.some.inj (h1.symm.trans hc)
  subst hr
  obtain ⟨hS, hfc, kC, hkC, hkind⟩ := hK.1 ci _ hc
  obtain ⟨cf, kf, fi, f, hi, hsl⟩ := hS k hk
  have hlay := hts _ (hin _ (u_in_lay hk))
  unfold u_lay at hlay
  rw [if_pos hfin] at hlay
  have hst := (u_facts hfc hkC (u_lays hts hin hk) hi).1
  have hcf : m.cls = cf := by
    obtain ⟨_, _, c', _, _, _, -, -, hf', -, -, -, hown2, -⟩ := Cond.laysFinal_spec hlay
    have e1 : c' = cf := by have := hi.symm.trans hf'; simp at this; exact this.1.symm
    rw [hdecl] at hown2
    rw [← e1]; exact Option.some.inj (hown.symm.trans hown2)
  have h6 := u_fits hfc hkC hkind (Or.inr hlay) hi hd hn hfit
  refine W.putFinK hx hb hown (hts _ hw) hi hst hcf hin2 (by rw [q2]; exact h6) q1 q3 (by rw [hsl]; exact k2_hasslot (q4 k hk)) rfl rfl hdg fun H' e1 e2 e3 => ?_
  rw [hsl] at e1 ⊢
  exact kk H' _ (aS_set hP he (hP.1.set hD he2 ⟨_, hc, t_OB.to (V := updV (vp_V fs) k v) ⟨_, e1, q2, q3, t_set q4 hap hk v⟩ (fun j _ => vp_updV_set hl v j)⟩ e3) e2) (hS0.put e2 e3 (hD.2 _ _ he2))
theorem a_iast (C : aC p R s m args c V base cc nL own fr lo mc ms) (hP : aS V.1 base (pre ++ ow) H) (hS : va_S (aA base) s.heap H locs) (j : Nat) {n : Nat} {f : Nat → Int32} (he : ow[j]? = some (a, .inl (V.2.1 1, n, .inl f))) {z : Int} {x : Int32} (hi : 0 ≤ z ∧ z < (n : Int) ∧ z < 2000) (hdg : decode cc pc = .ok (.iastore, 1))
    (kk : ∀ (H1 : Heap) (locs1 : List Loc), aS V.1 base (pre ++ ow.set j (a, .inl (V.2.1 1, n, .inl (upd f z.toNat x)))) H1 → va_S (aA base) s.heap H1 locs1 → W p l e R s m args below meth c H1 locs1 cells slots Q (F0 m (pc + 1) ls rest)) : W p l e R s m args below meth c H locs cells slots Q (F0 m pc ls (.int x :: .int (g32 z) :: .ref a :: rest)) := by
  obtain ⟨hx, hb, -, hown, hts, hK, -, -, -, -, hrc, hrs⟩ := id C
  have hD := hP.D
  have he2 := aget (pre := pre) he
  have hr : gR z := ⟨by omega, by omega⟩
  have hin := g32_in hi.1 hi.2.1 hr
  refine W.iast hx hb (hP.1 _ _ he2) ((hK.2 0 _ rfl).1 n (fun j => .int (f j))) (fun q => by cases q) (by show ¬ (g32 z < 0 ∨ (arrV _ _ _).slots.size ≤ _); rw [arrV_size]; exact hin) rfl rfl hdg fun H1 e z1 oq => ?_
  refine kk H1 _ (aS_set hP he (hP.1.set hD he2 ?_ oq) z1) (hS.put z1 oq (hD.2 _ _ he2))
  show H1[a]? = some (vp_cell _ _)
  rw [e]
  rw [vp_cell_i, vp_cell_i, arrV_store]
  congr 2
  funext q
  rw [g32_nat hr]
  by_cases hq : q = z.toNat
  · subst hq
    simp [updV, upd]
  · simp [updV, upd, hq]
theorem a_aast (C : aC p R s m args c V base cc nL own fr lo mc ms) (hP : aS V.1 base (pre ++ ow) H) (hS : va_S (aA base) s.heap H locs) (j t0 qk ci : Nat) {cA : ClassId} {r : vw_C} {n v : Nat} {vs : List Value} {f : Nat → Option Nat} (he : ow[j]? = some (a, .inl (cA, n, .inr (.inr (.inr (.inr f)))))) (ht : (gtys V)[t0]? = some (cA, .object r.1)) (hv : (pre ++ ow)[qk]? = some (v, .inr (ci, vs))) (hc : vwCl[ci]? = some r) {z : Int} (hi : 0 ≤ z ∧ z < (n : Int) ∧ z < 2000) (hdg : decode cc pc = .ok (.aastore, 1))
    (kk : ∀ (H1 : Heap) (locs1 : List Loc), aS V.1 base (pre ++ ow.set j (a, .inl (cA, n, .inr (.inr (.inr (.inr (va_up f z.toNat (some v)))))))) H1 → va_S (aA base) s.heap H1 locs1 → W p l e R s m args below meth c H1 locs1 cells slots Q (F0 m (pc + 1) ls rest)) : W p l e R s m args below meth c H locs cells slots Q (F0 m pc ls (.ref v :: .int (g32 z) :: .ref a :: rest)) := by
  obtain ⟨hx, hb, -, hown, hts, hK, -, -, -, -, hrc, hrs⟩ := id C
  have hD := hP.D
  have he2 := aget (pre := pre) he
  have hr : gR z := ⟨by omega, by omega⟩
  have hin := g32_in hi.1 hi.2.1 hr
  have hlt : (g32 z).toNatClampNeg < n := Nat.not_le.mp fun q => hin (Or.inr q)
  have h0 : ¬ g32 z < 0 := fun q => hin (Or.inl q)
  obtain ⟨r', hr', cellV, g1, g2, g3, -⟩ := hP.1 qk _ hv
  have hcls := (hK.1 ci r hc).2
  obtain ⟨kA, comp, k1, k2, k3, -⟩ := (hK.2 t0 _ ht).2
  have hcomp : comp = V.1.1 ci := Option.some.inj (k3.symm.trans hcls.1)
  subst hcomp
  obtain ⟨kC, hkC, -⟩ := hcls.2
  refine W.aast hx hb (hP.1 _ _ he2) (fun q h => by cases h) (fun h => by cases h) k1 k2 rfl hkC ⟨h0, by show _ < (arrV _ _ _).slots.size; rw [arrV_size]; exact hlt⟩ g1 (fun q h => by rw [g3] at h; cases h) (by rw [g2]; exact hkC) (by rw [g2]; exact va_assign hcls) rfl rfl hdg fun H1 e z1 oq => ?_
  refine kk H1 _ (aS_set hP he (hP.1.set hD he2 ?_ oq) z1) (hS.put z1 oq (hD.2 _ _ he2))
  show H1[a]? = some (vp_cell _ _)
  rw [e]
  rw [vp_cell_q, vp_cell_q, arrV_store]
  congr 2
  funext q
  rw [g32_nat hr]
  by_cases hq : q = z.toNat
  · subst hq
    simp [updV, va_up, va_rf]
  · simp [updV, va_up, hq]
theorem a_mna (C : aC p R s m args c V base cc nL own fr lo mc ms) {i : Nat} (hw : Cond.classLink own i ("[" ++ (FieldType.array .int).toString) ∈ lw_good) (hov : va_AOA .int s) (harr : Cond.arrayClass .int ∈ lw_good) (hcy : s.vm.findClass (FieldType.array .int).toString = some (V.2.1 1)) {n : Nat} (hP : aS V.1 base (pre ++ ow) H) (ha : a = base + pre.length) (hn : ow.length = n) (hS : va_S (aA base) s.heap H locs) (hcells : cells + 13 ≤ mc) (hslots : slots + 156 ≤ ms) (hdg : decode cc pc = .ok (.multianewarray i 2, 4))
    (kk : ∀ H1 : Heap, aS V.1 base (pre ++ (ow ++ ((a + n, .inl (V.2.1 6, 12, .inr (.inr (.inr (.inr (fun i => if i < 12 then some (a + n + 1 + i) else none)))))) :: (List.range 12).map (fun i => (a + n + 1 + i, .inl (V.2.1 1, 12, .inl (fun _ => 0))))))) H1 → va_S (aA base) s.heap H1 locs → W p l e R s m args below meth c H1 locs (cells + 1 + 12) (slots + 12 + 12 * 12) Q (F0 m (pc + 4) ls (.ref (a + n) :: rest))) : W p l e R s m args below meth c H locs cells slots Q (F0 m pc ls (.int (g32 12) :: .int (g32 12) :: rest)) := by
  obtain ⟨hx, hb, -, hown, hts, hK, -, -, -, -, hrc, hrs⟩ := id C
  have hsz : H.size = a + n := by rw [hP.2.2, List.length_append, ha, hn]; omega
  have e12 : (g32 12).toNatClampNeg = 12 := by decide +kernel
  intro T hT Xs
  obtain ⟨vm₁, cA, comp, -, fA, fC, hO, -, X', step⟩ := Xs.multianewarray2F hx hown (hts _ hw) (va_AOA.use hov) (hts _ harr) (g := F0 m pc ls (.int (g32 12) :: .int (g32 12) :: rest)) rfl (by rw [hb]; exact hdg) rfl (by decide +kernel) (by decide +kernel) (by rw [e12]; decide) (by rw [e12]; decide) (by rw [e12]; decide) rfl rfl (by rw [hrc, e12]; omega) (by rw [hrs, e12]; omega)
  rw [e12] at X' step
  have ec : some (V.2.1 1) = some comp := hcy.symm.trans fC
  cases ec
  have hcA : s.vm.findClass ("[" ++ (FieldType.array .int).toString) = some (V.2.1 6) := (hK.2 5 _ rfl).2
  have ec : some (V.2.1 6) = some cA := hcA.symm.trans fA
  cases ec
  generalize hF : Jvm.Free.Multi.fill (T.setVm vm₁) (V.2.1 6) (V.2.1 1) 12 12 (defaultValue .int) 12 = F at X' step
  have hTh : (T.setVm vm₁).heap = H := hT
  obtain ⟨f1, f2, -, -⟩ := Jvm.Free.Multi.fill_facts (T.setVm vm₁) (V.2.1 6) (V.2.1 1) 12 12 (defaultValue .int) 12
  rw [hF, hTh] at f1 f2
  have hold : ∀ x : Nat, x < H.size → F.heap[x]? = H[x]? := fun x hx => by
    have := Jvm.Free.Multi.fill_old (T.setVm vm₁) (V.2.1 6) (V.2.1 1) 12 12 (defaultValue .int) (a := x) (by rw [hTh]; exact hx) 12
    rw [hF, hTh] at this
    exact this
  have hin : ∀ c : ClassId, Jvm.Free.Multi.innerC c 12 (defaultValue .int) = vp_cell c (12, .inl (fun _ => 0)) := fun c => by
    rw [vp_cell_i]
    show ({ cls := c, slots := Array.replicate 12 (.int 0), vm := .none } : Cell) = _
    rw [arrV_new]
  have hrow : ∀ j : Nat, j < 12 → F.heap[H.size + 1 + j]? = some (vp_cell (V.2.1 1) (12, .inl (fun _ => 0))) := fun j hj => by
    have := Jvm.Free.Multi.fill_inner (T.setVm vm₁) (V.2.1 6) (V.2.1 1) 12 12 (defaultValue .int) 12 j hj
    rw [hF, hTh, hin] at this
    exact this
  have hout : Jvm.Free.Multi.outerC (V.2.1 6) 12 H.size 12 = vp_cell (V.2.1 6) (12, .inr (.inr (.inr (.inr (fun i => if i < 12 then some (H.size + 1 + i) else none))))) := by
    rw [vp_cell_q]
    exact vr_outer (V.2.1 6) 12 H.size 12
  rw [hout] at f2
  rw [hsz] at f1 f2 hrow
  have hl1 : (pre ++ ow).length = pre.length + n := by rw [List.length_append, hn]
  have hk : ∀ (k : Nat) (x : Nat × va_E), (pre ++ ow)[k]? = some x → F.heap[x.1]? = H[x.1]? := fun k x hx => hold x.1 ((hP.1 k x hx).lt)
  have hA : aS V.1 base (pre ++ (ow ++ ((a + n, .inl (V.2.1 6, 12, .inr (.inr (.inr (.inr (fun i => if i < 12 then some (a + n + 1 + i) else none)))))) :: (List.range 12).map (fun i => (a + n + 1 + i, .inl (V.2.1 1, 12, .inl (fun _ => 0))))))) F.heap := by
    rw [← List.append_assoc]
    refine ⟨(hP.1.kept hk).app (fun k x hx => ?_), fun k x hx => ?_, ?_⟩
    · cases k with
      | zero =>
        cases hx
        exact f2
      | succ k =>
        rw [List.getElem?_cons_succ, List.getElem?_map] at hx
        obtain ⟨j, hj, rfl⟩ := Option.map_eq_some_iff.mp hx
        have hj2 := List.mem_range.mp (List.mem_of_getElem? hj)
        exact hrow j hj2
    · by_cases hl : k < (pre ++ ow).length
      · rw [List.getElem?_append_left hl] at hx
        exact hP.2.1 k x hx
      · rw [List.getElem?_append_right (by omega)] at hx
        obtain ⟨d, hd⟩ : ∃ d, k = (pre ++ ow).length + d := ⟨k - (pre ++ ow).length, by omega⟩
        rw [hd, show (pre ++ ow).length + d - (pre ++ ow).length = d by omega] at hx
        cases d with
        | zero =>
          cases hx
          show a + n = base + k
          omega
        | succ d =>
          rw [List.getElem?_cons_succ, List.getElem?_map] at hx
          obtain ⟨j, hj, rfl⟩ := Option.map_eq_some_iff.mp hx
          have hj2 : j = d := by
            have := List.getElem?_eq_some_iff.mp hj
            obtain ⟨h1, h2⟩ := this
            rw [List.getElem_range] at h2
            exact h2.symm
          show a + n + 1 + j = base + k
          omega
    · rw [f1, List.length_append, hl1, List.length_cons, List.length_map, List.length_range]
      omega
  have hS2 : va_S (aA base) s.heap F.heap locs := ⟨by rw [f1]; have := hS.1; omega, fun x h1 h2 => (hold x (Nat.lt_of_lt_of_le h1 hS.1)).trans (hS.2.1 x h1 h2), hS.2.2⟩
  obtain ⟨t, a1, b1⟩ := kk F.heap hA hS2 F rfl X'
  refine ⟨t, step t ?_, b1⟩
  have e : T.heap.size = a + n := by rw [hT, hsz]
  rw [e]
  exact a1
/-- Object's constructor -/
theorem a_obj (C : aC p R s m args c V base cc nL own fr lo mc ms) {i : Nat} (hw : Cond.methodLink own i Lib.objectInit ∈ lw_good) (hfr : 1 ≤ fr) (hlo : (rest.map fun v => v.category).sum + 12 ≤ lo) (hsz : ls.size = nL) (hdg : decode cc pc = .ok (.invokespecial i, 3)) {b : Nat}
    (kk : W p l e R s m args below meth c H locs cells slots Q (F0 m (pc + 3) ls rest)) : W p l e R s m args below meth c H locs cells slots Q (F0 m pc ls (.ref b :: rest)) := by
  obtain ⟨hx, hb, hml, hown, hts, -, -, -, hrf, hrl, -, -⟩ := id C
  exact W.objInit hx hb hown (hts _ hw) (hts (.instanceMethod Lib.objectInit) wd_95) (hts (.code Lib.objectInit ⟨#[0xb1]⟩ 1 none) wd_96) rfl (by rw [hml]; exact hsz) rfl hdg (by rw [hrf]; exact hfr) (by rw [hrl]; show 2 * 0 + _ + 12 ≤ lo; omega) kk
theorem a_callI (C : aC p R s m args c V base cc nL own fr lo mc ms) {y : MethodName} {cc' : ByteArray} {ml fr' lo' mc' ms' i b : Nat} {ws1 ws2 : va_W} (hcode : Cond.code y cc' ml none ∈ lw_good) (hini : Cond.initialized y.cls ∈ lw_good) (hy : y.name = "<init>" ∧ y.cls ≠ "java/lang/invoke/MethodHandle" ∧ y.cls ≠ "java/lang/invoke/VarHandle" ∧ (parseMethodDescriptor y.desc).map (fun d => d.parameters.length) = some 0) (hinst : Cond.instanceMethod y ∈ lw_good) (hw : Cond.methodLink own i y ∈ lw_good) (hroom : fr' + 1 ≤ fr ∧ 8 + (ml + 11) + lo' ≤ lo) (hsz : ls.size = nL) (hst : (rest.map fun v => v.category).sum ≤ 8) (hmc : cells + mc' ≤ mc ∧ slots + ms' ≤ ms)
    (hP : aS V.1 base ws1 H) (hS : va_S (aA base) s.heap H locs) (hM : aMv l V base y cc' ml fr' lo' mc' ms' [.ref b] ws1 ws2) (hdg : decode cc pc = .ok (.invokespecial i, 3))
    (kk : ∀ (H1 : Heap) (locs1 : List Loc), aS V.1 base ws2 H1 → va_S (aA base) s.heap H1 locs1 → W p l e R s m args below meth c H1 locs1 (cells + mc') (slots + ms') Q (F0 m (pc + 3) ls rest)) : W p l e R s m args below meth c H locs cells slots Q (F0 m pc ls (.ref b :: rest)) := by
  obtain ⟨hx, hb, hml, hown, hts, hK, hE, hb0, hrf, hrl, hrc, hrs⟩ := id C
  unfold aMv at hM
  have cb : CallB R s args own i y cc' ml none (gws' y cc' ml none) { frames := fr', cells := mc', slots := ms', locals := lo' } mc' ms' 0 := callB_of 0 hts (g_goodIn hcode) rfl rfl rfl (hts _ hini) (hts _ hw) hy.2 (by rw [hrf, hrl]; exact hroom)
  refine va_callv (A1 := aA base) (va_runI (As := []) (rest := rest) ⟨hx, hb, hml, hown, hts⟩ hM ⟨cb, hy.1, hts _ hinst⟩ ⟨aPre_blind, fun U hU hW => ⟨rfl, by rw [hU]; exact hP, va_K.moved hW.alike hK, aE_pass hE hW, by rw [hU]; exact Nat.le_trans hb0 hS.1⟩⟩ rfl rfl hsz rfl (lv_room hst) hdg (by rw [hrc, hrs]; exact hmc)) hS (fun q _ h => h) (fun q h => h) (fun _ t H1 locs1 ht hvm hw2 hB hz1 hk1 hV1 => ?_)
  rw [ht] at hB
  exact kk H1 locs1 hB hV1
theorem a_callIN (C : aC p R s m args c V base cc nL own fr lo mc ms) {y : MethodName} {cc' : ByteArray} {ml fr' lo' mc' ms' i b : Nat} {host : String} {ws1 ws2 : va_W} (hcode : Cond.code y cc' ml none ∈ lw_good) (hini : Cond.initialized y.cls ∈ lw_good) (hy : y.name = "<init>" ∧ y.cls ≠ "java/lang/invoke/MethodHandle" ∧ y.cls ≠ "java/lang/invoke/VarHandle" ∧ (parseMethodDescriptor y.desc).map (fun d => d.parameters.length) = some 0) (hinst : Cond.instanceMethod y ∈ lw_good) (hw : va_Nw (.methodLinkNest own i y host) s) (hroom : fr' + 1 ≤ fr ∧ 8 + (ml + 11) + lo' ≤ lo) (hsz : ls.size = nL) (hst : (rest.map fun v => v.category).sum ≤ 8) (hmc : cells + mc' ≤ mc ∧ slots + ms' ≤ ms)
    (hP : aS V.1 base ws1 H) (hS : va_S (aA base) s.heap H locs) (hM : aMv l V base y cc' ml fr' lo' mc' ms' [.ref b] ws1 ws2) (hdg : decode cc pc = .ok (.invokespecial i, 3))
    (kk : ∀ (H1 : Heap) (locs1 : List Loc), aS V.1 base ws2 H1 → va_S (aA base) s.heap H1 locs1 → W p l e R s m args below meth c H1 locs1 (cells + mc') (slots + ms') Q (F0 m (pc + 3) ls rest)) : W p l e R s m args below meth c H locs cells slots Q (F0 m pc ls (.ref b :: rest)) := by
  obtain ⟨hx, hb, hml, hown, hts, hK, hE, hb0, hrf, hrl, hrc, hrs⟩ := id C
  unfold aMv at hM
  have cb : va_CN R s args own i y host cc' ml none (gws' y cc' ml none) { frames := fr', cells := mc', slots := ms', locals := lo' } mc' ms' 0 := va_cnB 0 hts (g_goodIn hcode) rfl rfl rfl hw (hts _ hini) hy.2 (by rw [hrf, hrl]; exact hroom)
  refine va_callv (A1 := aA base) (va_runIN (As := []) (rest := rest) ⟨hx, hb, hml, hown, hts⟩ hM ⟨cb, hy.1, hts _ hinst⟩ ⟨aPre_blind, fun U hU hW => ⟨rfl, by rw [hU]; exact hP, va_K.moved hW.alike hK, aE_pass hE hW, by rw [hU]; exact Nat.le_trans hb0 hS.1⟩⟩ rfl rfl hsz rfl (lv_room hst) hdg (by rw [hrc, hrs]; exact hmc)) hS (fun q _ h => h) (fun q h => h) (fun _ t H1 locs1 ht hvm hw2 hB hz1 hk1 hV1 => ?_)
  rw [ht] at hB
  exact kk H1 locs1 hB hV1
theorem a_callR (C : aC p R s m args c V base cc nL own fr lo mc ms) {y : MethodName} {cc' : ByteArray} {ml fr' lo' mc' ms' i b : Nat} {rt : FieldType} {ws1 ws2 : va_W} (hcode : Cond.code y cc' ml (some rt) ∈ lw_good) (hini : Cond.initialized y.cls ∈ lw_good) (hy : y.cls ≠ "java/lang/invoke/MethodHandle" ∧ y.cls ≠ "java/lang/invoke/VarHandle" ∧ (parseMethodDescriptor y.desc).map (fun d => d.parameters.length) = some 0) (hstat : Cond.static y ∈ lw_good) (hw : Cond.methodLink own i y ∈ lw_good) (hroom : fr' + 1 ≤ fr ∧ 8 + (ml + 11) + lo' ≤ lo) (hsz : ls.size = nL) (hst : (rest.map fun v => v.category).sum ≤ 8) (hmc : cells + mc' ≤ mc ∧ slots + ms' ≤ ms)
    (hP : aS V.1 base ws1 H) (hS : va_S (aA base) s.heap H locs) (hM : aMr l V base y cc' ml fr' lo' mc' ms' rt [] ws1 ws2 b) (hdg : decode cc pc = .ok (.invokestatic i, 3))
    (kk : ∀ (H1 : Heap) (locs1 : List Loc), aS V.1 base ws2 H1 → va_S (aA base) s.heap H1 locs1 → W p l e R s m args below meth c H1 locs1 (cells + mc') (slots + ms') Q (F0 m (pc + 3) ls (.ref b :: rest))) : W p l e R s m args below meth c H locs cells slots Q (F0 m pc ls rest) := by
  obtain ⟨hx, hb, hml, hown, hts, hK, hE, hb0, hrf, hrl, hrc, hrs⟩ := id C
  unfold aMr at hM
  have cb : CallB R s args own i y cc' ml (some rt) (gws' y cc' ml (some rt)) { frames := fr', cells := mc', slots := ms', locals := lo' } mc' ms' 0 := callB_of 0 hts (g_goodIn hcode) rfl rfl rfl (hts _ hini) (hts _ hw) hy (by rw [hrf, hrl]; exact hroom)
  refine va_callr (A1 := aA base) (va_runS (As := []) (rest := rest) ⟨hx, hb, hml, hown, hts⟩ hM ⟨cb, hts _ hstat⟩ ⟨aPre_blind, fun U hU hW => ⟨rfl, by rw [hU]; exact hP, va_K.moved hW.alike hK, aE_pass hE hW, by rw [hU]; exact Nat.le_trans hb0 hS.1⟩⟩ rfl rfl hsz rfl (lv_room hst) hdg (by rw [hrc, hrs]; exact hmc)) hS (fun q _ h => h) (fun q h => h) (fun _ ra t H1 locs1 ht hvm hw2 hB hz1 hk1 hV1 => ?_)
  obtain ⟨rfl, hB⟩ := hB
  rw [ht] at hB
  exact kk H1 locs1 hB hV1
theorem a_callRN (C : aC p R s m args c V base cc nL own fr lo mc ms) {y : MethodName} {cc' : ByteArray} {ml fr' lo' mc' ms' i b : Nat} {rt : FieldType} {host : String} {ws1 ws2 : va_W} (hcode : Cond.code y cc' ml (some rt) ∈ lw_good) (hini : Cond.initialized y.cls ∈ lw_good) (hy : y.cls ≠ "java/lang/invoke/MethodHandle" ∧ y.cls ≠ "java/lang/invoke/VarHandle" ∧ (parseMethodDescriptor y.desc).map (fun d => d.parameters.length) = some 0) (hstat : Cond.static y ∈ lw_good) (hw : va_Nw (.methodLinkNest own i y host) s) (hroom : fr' + 1 ≤ fr ∧ 8 + (ml + 11) + lo' ≤ lo) (hsz : ls.size = nL) (hst : (rest.map fun v => v.category).sum ≤ 8) (hmc : cells + mc' ≤ mc ∧ slots + ms' ≤ ms)
    (hP : aS V.1 base ws1 H) (hS : va_S (aA base) s.heap H locs) (hM : aMr l V base y cc' ml fr' lo' mc' ms' rt [] ws1 ws2 b) (hdg : decode cc pc = .ok (.invokestatic i, 3))
    (kk : ∀ (H1 : Heap) (locs1 : List Loc), aS V.1 base ws2 H1 → va_S (aA base) s.heap H1 locs1 → W p l e R s m args below meth c H1 locs1 (cells + mc') (slots + ms') Q (F0 m (pc + 3) ls (.ref b :: rest))) : W p l e R s m args below meth c H locs cells slots Q (F0 m pc ls rest) := by
  obtain ⟨hx, hb, hml, hown, hts, hK, hE, hb0, hrf, hrl, hrc, hrs⟩ := id C
  unfold aMr at hM
  have cb : va_CN R s args own i y host cc' ml (some rt) (gws' y cc' ml (some rt)) { frames := fr', cells := mc', slots := ms', locals := lo' } mc' ms' 0 := va_cnB 0 hts (g_goodIn hcode) rfl rfl rfl hw (hts _ hini) hy (by rw [hrf, hrl]; exact hroom)
  refine va_callr (A1 := aA base) (va_runSN (As := []) (rest := rest) ⟨hx, hb, hml, hown, hts⟩ hM ⟨cb, hts _ hstat, trivial⟩ ⟨aPre_blind, fun U hU hW => ⟨rfl, by rw [hU]; exact hP, va_K.moved hW.alike hK, aE_pass hE hW, by rw [hU]; exact Nat.le_trans hb0 hS.1⟩⟩ rfl rfl hsz rfl (lv_room hst) hdg (by rw [hrc, hrs]; exact hmc)) hS (fun q _ h => h) (fun q h => h) (fun _ ra t H1 locs1 ht hvm hw2 hB hz1 hk1 hV1 => ?_)
  obtain ⟨rfl, hB⟩ := hB
  rw [ht] at hB
  exact kk H1 locs1 hB hV1
end AW
