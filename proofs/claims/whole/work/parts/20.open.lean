-- ===== end of PART A; then your names; then what follows =====
/-! THE CLAIM OUT OF ONE WALK OF THE LAW'S BODY. Your part is whole_start (and what it stands on); all else here is the same for every law, but numbers. -/
def R_law : String := "BunchNotesLaw"
def lw_P (b : Addr) (xs : List Int32) (args : Array Value) (s : State) : Prop := args = #[.ref b] ∧ s.IntsAt b xs ∧ xs.length ≤ 2048 ∧ (Jvm.Cond.and given_1 narrow_1).before args s = true
def lw_Q (_ : Array Value) (s : State) (o : Outcome) (t : State) : Prop := o = .returned (some (.int 1)) ∧ Framed s o t [] 600000 7302250
def lw_Z (below : List Frame) (a : Array Value) (s : State) : State → Prop := fun t => ∃ o, t.status = .running ∧ Ended t below o ∧ lw_Q a s o t
/-- the law's own end, with 1 on the stack, nothing written that was there before, its room as the claim has it -/
theorem lw_ret {p : Program} {l : Launch} {e : Env} {s : State} {m : MethodId} {below : List Frame} {meth : Method} {c : Code} {b : Nat} (hx : p.tables.exec = Jvm.exec) (hb : c.code = code) (hr : meth.sig.returnType = ret) (hlocks : meth.locks = false) {pc : Nat} {H : Heap} {ls : Array Slot} (hdg : decode code pc = .ok (.ireturn, 1)) : W p l e room_1 s m #[Value.ref b] below meth c H [] 600000 7302250 (lw_Z below #[Value.ref b] s) (F0 m pc ls [.int 1]) := by
  intro T hT X
  obtain ⟨fs, hret, hrun, hended, hW, hframe⟩ := X.leave (v := some (.int 1)) (hlocks := hlocks) (fun h => by rw [hr] at h; cases h)
  have hmeth' : T.vm.method? m = some meth := X.method'
  refine ⟨T.setFrames fs, ?_, .returned (some (.int 1)), hrun, hended, rfl, ⟨_, rfl⟩, hW, hframe⟩
  jvm_step X.here [X.here.top, hx, hb, hdg, hmeth', hr, ret, narrow_b1]
  (try refine ⟨rfl, ?_⟩); (try refine ⟨rfl, ?_⟩)
  first | (intro acts; rw [hret _ acts rfl rfl rfl]) | rw [hret _ _ rfl rfl rfl]
  exact Steps.refl _
/-- what holds at the law's entry: the machine, the code, the tables' words (any of lw_tbl by 'hts w (by decide +kernel)'), the script of L ints xs at the cell b, what the Statement gives of the start (any of its parts by flat_of_before) -/
def lw_At (p : Program) (s : State) (m : MethodId) (meth : Method) (c : Code) (b L : Nat) (xs : Nat → Int32) : Prop :=
  p.tables.exec = Jvm.exec ∧ c.code = code ∧ meth.sig.returnType = ret ∧ c.maxLocals = 4 ∧ s.vm.findClass R_law = some m.cls ∧ (∀ w ∈ lw_tbl, w.before #[Value.ref b] s = true) ∧ va_X b L xs s s.heap ∧ b < s.heap.size ∧ meth.locks = false ∧ (Jvm.Cond.and given_1 narrow_1).before #[Value.ref b] s = true

theorem st_hts {p : Program} {s : State} {args : Array Value} (hts : ∀ w ∈ lw_tbl, w.before args s = true) : ∀ w ∈ lw_good, w.before args s = true := fun w hw => hts w (gtbl_in w hw)
theorem st_K {s : State} {args : Array Value} (hts : ∀ w ∈ lw_tbl, w.before args s = true) : ∃ (D : va_G) (cA : Nat → ClassId), (∀ (k : Nat) (q : vw_C), vwCl[k]? = some q → u_Kn s q.1 q.2.1 q.2.2 (D.1 k) (D.2 k)) ∧
    (ArrOfT s (cA 1) .int ∧ va_RA s (cA 1) .int) ∧ (ArrOfT s (cA 2) .boolean ∧ va_RA s (cA 2) .boolean) ∧ (ArrOfT s (cA 3) (.object "BunchNotes$Note") ∧ va_RA s (cA 3) (.object "BunchNotes$Note")) ∧ (ArrOfT s (cA 4) (.object "BunchNotes$Net") ∧ va_RA s (cA 4) (.object "BunchNotes$Net")) ∧ (ArrOfT s (cA 5) (.object "BunchNotes$Slot") ∧ va_RA s (cA 5) (.object "BunchNotes$Slot")) ∧ (ArrOfT s (cA 6) (.array .int) ∧ va_RA s (cA 6) (.array .int)) := by
  have hg : ∀ w ∈ lw_good, w.before args s = true := fun w hw => hts w (gtbl_in w hw)
  obtain ⟨c0, iS0, hKn0⟩ := u_known (C := RX0) (T := TX0) (N := 3) (n := 3) hg gin_0 (hg (.instantiable RX0 3) wd_235)
  obtain ⟨c1, iS1, hKn1⟩ := u_known (C := RX1) (T := TX1) (N := 6) (n := 6) hg gin_1 (hg (.instantiable RX1 6) wd_98)
  obtain ⟨c2, iS2, hKn2⟩ := u_known (C := RX2) (T := TX2) (N := 5) (n := 5) hg gin_2 (hg (.instantiable RX2 5) wd_188)
  obtain ⟨c3, iS3, hKn3⟩ := u_known (C := RX3) (T := TX3) (N := 3) (n := 3) hg gin_3 (hg (.instantiable RX3 3) wd_164)
  obtain ⟨c4, iS4, hKn4⟩ := u_known (C := RX4) (T := TX4) (N := 5) (n := 5) hg gin_4 (hg (.instantiable RX4 5) wd_312)
  obtain ⟨c5, iS5, hKn5⟩ := u_known (C := RX5) (T := TX5) (N := 3) (n := 3) hg gin_5 (hg (.instantiable RX5 3) wd_214)
  obtain ⟨c6, iS6, hKn6⟩ := u_known (C := RX6) (T := TX6) (N := 5) (n := 5) hg gin_6 (hg (.instantiable RX6 5) wd_285)
  obtain ⟨c7, iS7, hKn7⟩ := u_known (C := RX7) (T := TX7) (N := 7) (n := 7) hg gin_7 (hg (.instantiable RX7 7) wd_133)
  obtain ⟨c8, iS8, hKn8⟩ := u_known (C := RX8) (T := TX8) (N := 7) (n := 7) hg gin_8 (hg (.instantiable RX8 7) wd_253)
  obtain ⟨c9, iS9, hKn9⟩ := u_known (C := RX9) (T := TX9) (N := 11) (n := 11) hg gin_9 (hg (.instantiable RX9 11) wd_90)
  obtain ⟨c10, iS10, hKn10⟩ := u_known (C := RX10) (T := TX10) (N := 25) (n := 25) hg gin_10 (hg (.instantiable RX10 25) wd_850)
  obtain ⟨a1, b1, e1, f1, g1, h1⟩ := Cond.arrayClass_spec (hg (.arrayClass .int) wd_131)
  obtain ⟨a2, b2, e2, f2, g2, h2⟩ := Cond.arrayClass_spec (hg (.arrayClass .boolean) wd_931)
  obtain ⟨e3, a3, b3, i3, -, g3, h3, f3⟩ := Cond.arrayOver_spec (hts (.arrayOver (.object "BunchNotes$Note")) wd_187)
  obtain ⟨e4, a4, b4, i4, -, g4, h4, f4⟩ := Cond.arrayOver_spec (hts (.arrayOver (.object "BunchNotes$Net")) wd_170)
  obtain ⟨e5, a5, b5, i5, -, g5, h5, f5⟩ := Cond.arrayOver_spec (hts (.arrayOver (.object "BunchNotes$Slot")) wd_213)
  obtain ⟨e6, a6, b6, i6, -, g6, h6, f6⟩ := aAOA_spec (hts (.arrayOver (.array .int)) wd_241)
  refine ⟨(fun k => match k with | 0 => c0 | 1 => c1 | 2 => c2 | 3 => c3 | 4 => c4 | 5 => c5 | 6 => c6 | 7 => c7 | 8 => c8 | 9 => c9 | _ => c10, fun k => match k with | 0 => iS0 | 1 => iS1 | 2 => iS2 | 3 => iS3 | 4 => iS4 | 5 => iS5 | 6 => iS6 | 7 => iS7 | 8 => iS8 | 9 => iS9 | _ => iS10), fun k => match k with | 1 => a1 | 2 => a2 | 3 => a3 | 4 => a4 | 5 => a5 | _ => a6, ?_, ⟨fun n z => ⟨fun k h => (by cases h), b1, g1, e1, h1⟩, f1⟩, ⟨fun n z => ⟨fun k h => (by cases h), b2, g2, e2, h2⟩, f2⟩, ⟨fun n z => ⟨fun k h => (by cases h), b3, g3, e3, h3⟩, b3, e3, g3, h3, i3, f3⟩, ⟨fun n z => ⟨fun k h => (by cases h), b4, g4, e4, h4⟩, b4, e4, g4, h4, i4, f4⟩, ⟨fun n z => ⟨fun k h => (by cases h), b5, g5, e5, h5⟩, b5, e5, g5, h5, i5, f5⟩, ⟨fun n z => ⟨fun k h => (by cases h), b6, g6, e6, h6⟩, f6⟩⟩
  intro k q hq
  match k, hq with
  | 0, hq => cases hq; exact hKn0
  | 1, hq => cases hq; exact hKn1
  | 2, hq => cases hq; exact hKn2
  | 3, hq => cases hq; exact hKn3
  | 4, hq => cases hq; exact hKn4
  | 5, hq => cases hq; exact hKn5
  | 6, hq => cases hq; exact hKn6
  | 7, hq => cases hq; exact hKn7
  | 8, hq => cases hq; exact hKn8
  | 9, hq => cases hq; exact hKn9
  | 10, hq => cases hq; exact hKn10
  | k + 11, hq => simp [vwCl] at hq
set_option maxRecDepth 100000 in
set_option maxHeartbeats 4000000 in
theorem st_E {s : State} {args : Array Value} (hts : ∀ w ∈ lw_tbl, w.before args s = true) (hgv : (Jvm.Cond.and given_1 narrow_1).before args s = true) (D : va_G) (cA : Nat → ClassId) (ad : Int → Nat) : ∃ (k v : Nat → Nat), gE (D, cA, ad, aA s.heap.size, k, v) s := by
  have hs := flat_of_before _ hgv
  have hA : ∀ a : Nat, a < s.heap.size → ¬ aA s.heap.size a := fun a h q => Nat.lt_irrefl _ (Nat.lt_of_lt_of_le h q)
  obtain ⟨k, v, hS, hT⟩ := vk_Sof (args := args) (s := s) (N := 3) (tm := (fun i => match i with | 0 => Term.string "BunchNotes$Text" 46 | 1 => Term.string "BunchNotes$Text" 55 | _ => Term.string "BunchNotes$Text" 60)) (len := gsl) (byt := gsb) (A := aA s.heap.size)
    (by decide +kernel)
    (by
      intro i hi
      match i, hi with
      | 0, _ => exact hs _ (by decide +kernel)
      | 1, _ => exact hs _ (by decide +kernel)
      | 2, _ => exact hs _ (by decide +kernel)
      | i + 3, h => exact absurd h (by omega))
    (by
      intro i hi
      match i, hi with
      | 0, _ => exact hs _ (by decide +kernel)
      | 1, _ => exact hs _ (by decide +kernel)
      | 2, _ => exact hs _ (by decide +kernel)
      | i + 3, h => exact absurd h (by omega))
    (by
      intro i hi
      match i, hi with
      | 0, _ => exact hs _ (by decide +kernel)
      | 1, _ => exact hs _ (by decide +kernel)
      | 2, _ => exact hs _ (by decide +kernel)
      | i + 3, h => exact absurd h (by omega))
    (by
      intro i hi
      match i, hi with
      | 0, _ => exact hs _ (by decide +kernel)
      | 1, _ => exact hs _ (by decide +kernel)
      | 2, _ => exact hs _ (by decide +kernel)
      | i + 3, h => exact absurd h (by omega))
    (by
      intro i hi
      match i, hi with
      | 0, _ =>
        intro j hj
        match j, hj with
        | 0, _ => exact hs _ (by decide +kernel)
        | 1, _ => exact hs _ (by decide +kernel)
        | 2, _ => exact hs _ (by decide +kernel)
        | j + 3, h => exact absurd h (by show ¬ j + 3 < 3; omega)
      | 1, _ =>
        intro j hj
        match j, hj with
        | 0, _ => exact hs _ (by decide +kernel)
        | 1, _ => exact hs _ (by decide +kernel)
        | 2, _ => exact hs _ (by decide +kernel)
        | 3, _ => exact hs _ (by decide +kernel)
        | j + 4, h => exact absurd h (by show ¬ j + 4 < 4; omega)
      | 2, _ =>
        intro j hj
        match j, hj with
        | 0, _ => exact hs _ (by decide +kernel)
        | 1, _ => exact hs _ (by decide +kernel)
        | 2, _ => exact hs _ (by decide +kernel)
        | 3, _ => exact hs _ (by decide +kernel)
        | 4, _ => exact hs _ (by decide +kernel)
        | j + 5, h => exact absurd h (by show ¬ j + 5 < 5; omega)
      | i + 3, h => exact absurd h (by omega))
    (by
      intro i j hi hj hij
      match i, j, hi, hj, hij with
      | 0, 0, _, _, h => exact absurd rfl h
      | 0, 1, _, _, _ => exact Or.inl (hs _ (by decide +kernel))
      | 0, 2, _, _, _ => exact Or.inl (hs _ (by decide +kernel))
      | 1, 0, _, _, _ => exact Or.inr (hs _ (by decide +kernel))
      | 1, 1, _, _, h => exact absurd rfl h
      | 1, 2, _, _, _ => exact Or.inl (hs _ (by decide +kernel))
      | 2, 0, _, _, _ => exact Or.inr (hs _ (by decide +kernel))
      | 2, 1, _, _, _ => exact Or.inr (hs _ (by decide +kernel))
      | 2, 2, _, _, h => exact absurd rfl h
      | 0, j + 3, _, h, _ => exact absurd h (by omega)
      | 1, j + 3, _, h, _ => exact absurd h (by omega)
      | 2, j + 3, _, h, _ => exact absurd h (by omega)
      | i + 3, _, h, _, _ => exact absurd h (by omega)) hA
  refine ⟨k, v, va_Nw.of rfl (hts _ wd_496), va_Nw.of rfl (hts _ wd_611), vk_R.of (A := args) (hts _ wd_415) (hT 0 (by decide)), vk_R.of (A := args) (hts _ wd_483) (hT 1 (by decide)), vk_R.of (A := args) (hts _ wd_503) (hT 2 (by decide)), hS, va_Zof (hts (.laysStatic "java/lang/String" "COMPACT_STRINGS" "Z") wd_429) (hts (.initialized "java/lang/String") (gtbl_in _ wd_82)) (va_eqi (hs (.eq (.static "java/lang/String" "COMPACT_STRINGS" "Z") (.int 1)) (by decide +kernel))) hA, va_Zqof (hts (.laysStatic "jdk/internal/util/Preconditions" "SIOOBE_FORMATTER" "Ljava/util/function/BiFunction;") wd_445) (hts (.initialized "jdk/internal/util/Preconditions") (gtbl_in _ wd_84)) (hs _ (by decide +kernel)) hA⟩
theorem st_aE {s : State} {args : Array Value} (hts : ∀ w ∈ lw_tbl, w.before args s = true) : aE s := ⟨va_Nw.of rfl (hts _ wd_221), va_Nw.of rfl (hts _ wd_286), va_Nw.of rfl (hts _ wd_313), va_AO.of (hts _ wd_170), va_AO.of (hts _ wd_187), va_AO.of (hts _ wd_213), va_AOA.of (hts _ wd_241)⟩
set_option maxRecDepth 100000 in
set_option maxHeartbeats 4000000 in
theorem whole_open (hpure : ∀ (xs : Int → Int) (n : Int), (∀ i, gR (xs i)) → 0 ≤ n → n ≤ 2048 → wL_law xs n gM0) {p : Program} {e : Env} {s : State} {m : MethodId} {below : List Frame} {meth : Method} {c : Code} (l : Launch) (hflags : l.flags = flags0) {b L : Nat} {xs : Nat → Int32} (hL : L ≤ 2048) (C0 : lw_At p s m meth c b L xs) : W p l e room_1 s m #[Value.ref b] below meth c s.heap [] 0 0 (lw_Z below #[Value.ref b] s) (entryFrame m ([Value.ref b] : List Value).toArray 4) := by
  obtain ⟨hx, hb, hr, hml, hown, hts, hX, hbl, hlocks, hgv⟩ := id C0
  obtain ⟨D, cA, hKc, k1, k2, k3, k4, k5, k6⟩ := st_K hts
  obtain ⟨kk, vv, hE⟩ := st_E hts hgv D cA (fun c => s.heap.size + c.toNat)
  obtain ⟨V, hVe⟩ : ∃ V : gW, V = (D, cA, fun c => s.heap.size + c.toNat, aA s.heap.size, kk, vv) := ⟨_, rfl⟩
  rw [← hVe] at hE
  have hV : stV V s.heap.size := by rw [hVe]; rfl
  have hVA : gvA V = aA s.heap.size := by rw [hVe]
  have hK : va_K V.1 vwCl (gtys V) s := by
    rw [hVe]
    refine ⟨hKc, fun k q h => ?_⟩
    match k, h with
    | 0, h => cases h; exact k1
    | 1, h => cases h; exact k2
    | 2, h => cases h; exact k3
    | 3, h => cases h; exact k4
    | 4, h => cases h; exact k5
    | 5, h => cases h; exact k6
    | k + 6, h => simp [gtys] at h
  have hD : gD V := st_D hV hVA
  have C : aC p room_1 s m #[Value.ref b] c V s.heap.size cL_law 4 "BunchNotesLaw" 12 422 600000 7302250 := ⟨hx, hb, hml, hown, fun w hw => hts w (gtbl_in w hw), hK, st_aE hts, Nat.le_refl _, rfl, rfl, rfl, rfl⟩
  have hS : va_S (aA s.heap.size) s.heap s.heap [] := va_S.rf
  have hP : aS V.1 s.heap.size (([] : va_W) ++ ([] : va_W)) s.heap := ⟨fun k q h => by simp at h, fun i q h => by simp at h, rfl⟩
  have hl := lv_entry ([.ref b]) (n := 4) (Nat.le_of_ble_eq_true rfl)
  rw [lg_entry_eq]
  generalize (lg_sl ([.ref b]) ++ List.replicate (4 - (lg_sl ([.ref b])).length) Slot.unset).toArray = ls at hl ⊢
  have hl : lv_has ls 4 [(0, .ref b)] := hl
  obtain ⟨base, hbase⟩ : ∃ base, base = s.heap.size := ⟨_, rfl⟩
  rw [← hbase] at C hS hP hV hVA
  refine a_new (pre := []) (ow := []) (a := base) (ci := 9) (fs := abl_9) C gin_9 tyX9 tyX9_ok wd_89 wd_90 wd_70 hP rfl (n := 0) rfl hS rfl abl_9_ok (Nat.le_of_ble_eq_true rfl) (Nat.le_of_ble_eq_true rfl) dL_law_0 (fun H hP hS => ?_)
  refine lv_dup C.1 C.2.1 dL_law_3 rfl ?_
  refine a_callI (rest := [.ref (base + 0)]) C (hcode := wd_93) (hini := wd_70) (hy := ⟨rfl, by decide, by decide, by decide +kernel⟩) (hinst := wd_92) (hw := wd_91) ⟨by decide, by decide⟩ hl.1 (Nat.le_of_ble_eq_true rfl) ⟨Nat.le_of_ble_eq_true rfl, Nat.le_of_ble_eq_true rfl⟩ hP hS (kX9_init l V base [] base rfl) dL_law_4 (fun H locs hP hS => ?_)
  refine lv_astore_n (lv' := [(1, .ref base), (0, .ref b)]) C.1 C.2.1 dL_law_7 rfl hl (by decide) rfl (fun ls hl => ?_)
  have hP : aS V.1 base (bunchW V base ++ []) H := by rw [List.append_nil]; exact hP
  have hlen : base + 228 = base + (bunchW V base).length := rfl
  refine a_new (pre := bunchW V base) (ow := []) (a := base + 228) (ci := 10) (fs := abl_10) C gin_10 tyX10 tyX10_ok wd_849 wd_850 wd_80 hP hlen (n := 0) rfl hS rfl abl_10_ok (Nat.le_of_ble_eq_true rfl) (Nat.le_of_ble_eq_true rfl) dL_law_8 (fun H hP hS => ?_)
  refine lv_dup C.1 C.2.1 dL_law_11 rfl ?_
  refine a_callI (rest := [.ref (base + 228 + 0)]) C (hcode := wd_853) (hini := wd_80) (hy := ⟨rfl, by decide, by decide, by decide +kernel⟩) (hinst := wd_852) (hw := wd_851) ⟨by decide, by decide⟩ hl.1 (Nat.le_of_ble_eq_true rfl) ⟨Nat.le_of_ble_eq_true rfl, Nat.le_of_ble_eq_true rfl⟩ hP hS (kX10_init l V base (bunchW V base) (base + 228) hlen) dL_law_12 (fun H locs hP hS => ?_)
  refine lv_astore_n (lv' := [(2, .ref (base + 228)), (1, .ref base), (0, .ref b)]) C.1 C.2.1 dL_law_15 rfl hl (by decide) rfl (fun ls hl => ?_)
  have hW := st_world hV hP.1
  refine W.widen (k := 240) (n := 6733) (Nat.le_of_ble_eq_true rfl) (Nat.le_of_ble_eq_true rfl) ?_
  have hbA : ¬ gvA V b := by rw [hVA]; intro q; have q : base ≤ b := q; omega
  have CC : gC (p, l, e, room_1, s, m, #[Value.ref b], below, meth, c, lw_Z below #[Value.ref b] s, 240, 6733) V l cL_law 4 "BunchNotesLaw" 12 422 := ⟨hx, hb, hml, hown, fun w hw => hts w (gtbl_in w hw), hK, hD, rfl, rfl, rfl, Nat.le_of_ble_eq_true rfl, Nat.le_of_ble_eq_true rfl, hE⟩
  have e1 : g32 1 = 1 := by decide +kernel
  have hg := sL_law hD CC (b := b) (n' := L) (ys := xs) (n := (L : Int)) hX hbl hbA ⟨rfl, hL⟩ gM0 (fun pc Lx M d => by
    intro hL1 hS1 hM1 ls H locs hl hP hV1
    have hV1 : va_S (gvA V) s.heap H locs := hV1
    refine va_forget (fun q hq => ?_) ?_
    · have h9 := hV1.2.2 q hq
      rw [hVA] at h9
      have h9 : base ≤ q.base := h9
      show s.heap.size ≤ q.base
      omega
    · refine W.widen (k := 600000) (n := 7302250) (Nat.le_of_ble_eq_true rfl) (Nat.le_of_ble_eq_true rfl) ?_
      show W _ _ _ _ _ _ _ _ _ _ _ _ _ _ _ (F0 m pc ls [.int (g32 1)])
      rw [e1]
      exact lw_ret hx hb hr hlocks d) (hpure (gscr xs) (L : Int) (fun i => gR_toInt _) (by omega) (by omega))
  have hS2 : va_S (gvA V) s.heap H locs := by rw [hVA]; exact hS
  refine hg ?_ (fun _ h => by cases h) gM0_ok ls H locs ?_ hW hS2
  · intro q hq
    simp only [List.mem_cons, List.not_mem_nil, or_false] at hq
    rcases hq with rfl | rfl | rfl <;> trivial
  · have h3 := lv_sub hl (l' := [(0, .ref b), (1, .ref base), (2, .ref (base + 228))]) [2, 1, 0] rfl
    have e2 : (List.map (fun q : Nat × gSV => (q.1, grv V q.2)) [(0, gB (b : Int)), (1, gF 0), (2, gF 228)]) = [(0, .ref b), (1, .ref base), (2, .ref (base + 228))] := by
      show [(0, Value.ref b), (1, Value.ref (V.2.2.1 0)), (2, Value.ref (V.2.2.1 228))] = _
      rw [hV]
      rfl
    rw [e2]
    exact h3
