-- bits
theorem g32_bv (n : Nat) : (g32 (n : Int)).toBitVec = BitVec.ofNat 32 n := by
  show BitVec.ofInt 32 (n : Int) = _
  exact BitVec.ofInt_natCast ..
theorem g32_or (a b : Nat) : g32 (a : Int) ||| g32 (b : Int) = g32 ((a ||| b : Nat) : Int) := by
  apply Int32.toBitVec_inj.mp
  rw [Int32.toBitVec_or, g32_bv, g32_bv, g32_bv, BitVec.ofNat_or]
theorem g32_and (a b : Nat) : g32 (a : Int) &&& g32 (b : Int) = g32 ((a &&& b : Nat) : Int) := by
  apply Int32.toBitVec_inj.mp
  rw [Int32.toBitVec_and, g32_bv, g32_bv, g32_bv, BitVec.ofNat_and]
theorem g32_emod (a : Int) : g32 (a % 4294967296) = g32 a := by
  apply Int32.toBitVec_inj.mp
  show BitVec.ofInt 32 (a % 4294967296) = BitVec.ofInt 32 a
  apply BitVec.eq_of_toInt_eq
  rw [BitVec.toInt_ofInt, BitVec.toInt_ofInt]
  exact Int.emod_bmod ..
theorem g32_mask (a : Int) (k : Nat) (hk : k < 32) : g32 a &&& g32 ((2 ^ k - 1 : Nat) : Int) = g32 (a % ((2 ^ k : Nat) : Int)) := by
  have h0 : 0 ≤ a % 4294967296 := Int.emod_nonneg _ (by decide)
  obtain ⟨n, hn⟩ : ∃ n : Nat, a % 4294967296 = (n : Int) := ⟨(a % 4294967296).toNat, by omega⟩
  have hd : (((2 ^ k : Nat) : Int)) ∣ 4294967296 := by
    refine ⟨((2 ^ (32 - k) : Nat) : Int), ?_⟩
    rw [← Int.natCast_mul, ← Nat.pow_add, show k + (32 - k) = 32 by omega]
    rfl
  have e : a % ((2 ^ k : Nat) : Int) = ((n % 2 ^ k : Nat) : Int) := by
    rw [Int.natCast_emod, ← hn, Int.emod_emod_of_dvd _ hd]
  rw [← g32_emod a, hn, g32_and, e, Nat.and_two_pow_sub_one_eq_mod]
theorem g32_shl : ∀ n : Nat, n < 31 → g32 1 <<< (g32 (n : Int) &&& 31) = g32 ((2 ^ n : Nat) : Int) := by decide +kernel
theorem g32_cnt : ∀ n : Nat, n < 32 → ((g32 (n : Int) &&& 31).toBitVec.smod 32).toNat = n := by decide +kernel
theorem g32_shr (a n : Nat) (ha : a < 2147483648) (hn : n < 32) : g32 (a : Int) >>> (g32 (n : Int) &&& 31) = g32 ((a / 2 ^ n : Nat) : Int) := by
  have h1 : ((a / 2 ^ n : Nat) : Int) = (a : Int) / ((2 ^ n : Nat) : Int) := Int.natCast_ediv ..
  have h2 : a / 2 ^ n ≤ a := Nat.div_le_self ..
  apply Int32.toInt_inj.mp
  have hz : gR ((a / 2 ^ n : Nat) : Int) := by
    generalize a / 2 ^ n = q at h2
    exact ⟨by omega, by omega⟩
  rw [g32_toInt hz]
  show ((g32 (a : Int)).toBitVec.sshiftRight' _).toInt = _
  rw [BitVec.sshiftRight', BitVec.toInt_sshiftRight, g32_cnt n hn, Int.shiftRight_eq_div_pow]
  have h3 : (g32 (a : Int)).toBitVec.toInt = (a : Int) := g32_toInt ⟨by omega, by omega⟩
  rw [h3, h1]
theorem g32_ushr16 (a : Int) : ((g32 a).toUInt32 >>> ((g32 16).toUInt32 &&& Int32.toUInt32 31)).toInt32 = g32 (a % 4294967296 / 65536) := by
  have h0 : 0 ≤ a % 4294967296 := Int.emod_nonneg _ (by decide)
  have h9 : a % 4294967296 < 4294967296 := Int.emod_lt_of_pos _ (by decide)
  obtain ⟨n, hn⟩ : ∃ n : Nat, a % 4294967296 = (n : Int) := ⟨(a % 4294967296).toNat, by omega⟩
  rw [← g32_emod a, hn]
  have e : (n : Int) % 4294967296 / 65536 = ((n / 65536 : Nat) : Int) := by omega
  first | rw [e] | skip
  have e2 : (n : Int) / 65536 = ((n / 65536 : Nat) : Int) := by omega
  first | rw [e2] | skip
  apply Int32.toBitVec_inj.mp
  rw [g32_bv]
  show ((g32 (n : Int)).toBitVec >>> ((16#32 &&& 31#32) % 32)) = _
  rw [g32_bv]
  apply BitVec.eq_of_toNat_eq
  have e3 : BitVec.ofNat 32 n >>> ((16#32 &&& 31#32) % 32) = BitVec.ofNat 32 n >>> (16 : Nat) := rfl
  rw [e3, BitVec.toNat_ushiftRight, BitVec.toNat_ofNat, BitVec.toNat_ofNat, Nat.shiftRight_eq_div_pow]
  show n % 2 ^ 32 / 2 ^ 16 = n / 65536 % 2 ^ 32
  omega
theorem g32_div {a b : Int} (ha : gR a) (hb : gR b) (h0 : 0 ≤ a) (h1 : 0 < b) : g32 a / g32 b = g32 (a / b) := by
  apply Int32.toInt_inj.mp
  have hq : a / b ≤ a := Int.ediv_le_self _ h0
  have hq0 : 0 ≤ a / b := Int.ediv_nonneg h0 (by omega)
  have hr : gR (a / b) := ⟨by omega, by have := ha.2; omega⟩
  rw [Int32.toInt_div, g32_toInt ha, g32_toInt hb, g32_toInt hr, Int.tdiv_eq_ediv_of_nonneg h0]
  have := g32_toInt hr
  rw [g32, Int32.toInt_ofInt] at this
  exact this
theorem g32_rem {a b : Int} (ha : gR a) (hb : gR b) (h0 : 0 ≤ a) (h1 : 0 < b) : g32 a - g32 a / g32 b * g32 b = g32 (a % b) := by
  apply Int32.toInt_inj.mp
  rw [rem_toInt, g32_toInt ha, g32_toInt hb, Int.tmod_eq_emod_of_nonneg h0]
  have h2 := Int.emod_nonneg a (show b ≠ 0 by omega)
  have h3 := Int.emod_lt_of_pos a h1
  rw [g32_toInt ⟨by omega, by have := hb.2; omega⟩]
def gor (a b : Int) : Int := ((a.toNat ||| b.toNat : Nat) : Int)
def gand (a b : Int) : Int := ((a.toNat &&& b.toNat : Nat) : Int)
def gpw (k : Int) : Int := ((2 ^ k.toNat : Nat) : Int)
def gwr (z : Int) : Int := (g32 z).toInt
theorem gor_R {a b : Int} (ha : gR a) (hb : gR b) (h0 : 0 ≤ a) (h1 : 0 ≤ b) : gR (gor a b) := by
  have : a.toNat ||| b.toNat < 2 ^ 31 := Nat.or_lt_two_pow (by have := ha.2; omega) (by have := hb.2; omega)
  unfold gor
  exact ⟨by omega, by omega⟩
theorem gand_R {a b : Int} (ha : gR a) (h0 : 0 ≤ a) : gR (gand a b) := by
  have : a.toNat &&& b.toNat ≤ a.toNat := Nat.and_le_left
  have := ha.2
  unfold gand
  exact ⟨by omega, by omega⟩
theorem gpw_R : ∀ n : Nat, n < 31 → gR (gpw (n : Int)) := by
  intro n hn
  have : 2 ^ n < 2 ^ 31 := Nat.pow_lt_pow_right (by decide) hn
  unfold gpw
  rw [Int.toNat_natCast]
  generalize 2 ^ n = q at this
  exact ⟨by omega, by omega⟩
section GI2
variable {X : gX} {V : gW} {l : Launch} {cc : ByteArray} {nL : Nat} {own : String} {fr lo : Nat} {pc : Nat} {L : List (Nat × gSV)} {st : List gSV} {M : gMem}
theorem g_iaddW (C : gC X V l cc nL own fr lo) {a b : Int} (d : decode cc pc = .ok (.iadd, 1)) (k : gG X V nL (pc + 1) L (gI (gwr (a + b)) :: st) M) : gG X V nL pc L (gI b :: gI a :: st) M := by
  intro hL hS hM ls H locs hl hP hV
  have k := k hL (gok_n (gR_toInt _) (gok_t (gok_t hS))) hM ls H locs hl hP hV
  refine lv_iadd C.1 C.2.1 d ?_
  rw [show g32 (gI a).2 + g32 (gI b).2 = g32 (gwr (a + b)) from by rw [gwr, g32_of]; exact (Int32.ofInt_add a b).symm]
  exact k
theorem g_imulW (C : gC X V l cc nL own fr lo) {a b : Int} (d : decode cc pc = .ok (.imul, 1)) (k : gG X V nL (pc + 1) L (gI (gwr (a * b)) :: st) M) : gG X V nL pc L (gI b :: gI a :: st) M := by
  intro hL hS hM ls H locs hl hP hV
  have k := k hL (gok_n (gR_toInt _) (gok_t (gok_t hS))) hM ls H locs hl hP hV
  refine lv_imul C.1 C.2.1 d ?_
  rw [show g32 (gI a).2 * g32 (gI b).2 = g32 (gwr (a * b)) from by rw [gwr, g32_of]; exact (Int32.ofInt_mul a b).symm]
  exact k
theorem g_idiv (C : gC X V l cc nL own fr lo) {a b : Int} (d : decode cc pc = .ok (.idiv, 1)) (h : 0 ≤ a ∧ 0 < b) (k : gG X V nL (pc + 1) L (gI (a / b) :: st) M) : gG X V nL pc L (gI b :: gI a :: st) M := by
  intro hL hS hM ls H locs hl hP hV
  have hb : gR b := gok_c hS
  have ha : gR a := gok_c (gok_t hS)
  have hq : a / b ≤ a := Int.ediv_le_self _ h.1
  have hq0 : 0 ≤ a / b := Int.ediv_nonneg h.1 (by omega)
  have k := k hL (gok_n (show gR (a / b) from ⟨by omega, by have := ha.2; omega⟩) (gok_t (gok_t hS))) hM ls H locs hl hP hV
  refine lv_idiv (x := g32 a) (y := g32 b) C.1 C.2.1 d (fun e => ?_) ?_
  · have : b = 0 := (g32_inj hb gR_0).mp e
    omega
  · rw [g32_div ha hb h.1 h.2]
    exact k
theorem g_irem (C : gC X V l cc nL own fr lo) {a b : Int} (d : decode cc pc = .ok (.irem, 1)) (h : 0 ≤ a ∧ 0 < b) (k : gG X V nL (pc + 1) L (gI (a % b) :: st) M) : gG X V nL pc L (gI b :: gI a :: st) M := by
  intro hL hS hM ls H locs hl hP hV
  have hb : gR b := gok_c hS
  have ha : gR a := gok_c (gok_t hS)
  have h2 := Int.emod_nonneg a (show b ≠ 0 by omega)
  have h3 := Int.emod_lt_of_pos a h.2
  have k := k hL (gok_n (show gR (a % b) from ⟨by omega, by have := hb.2; omega⟩) (gok_t (gok_t hS))) hM ls H locs hl hP hV
  refine lv_irem (x := g32 a) (y := g32 b) C.1 C.2.1 d (fun e => ?_) ?_
  · have : b = 0 := (g32_inj hb gR_0).mp e
    omega
  · rw [g32_rem ha hb h.1 h.2]
    exact k
theorem g_ishl (C : gC X V l cc nL own fr lo) {b : Int} (d : decode cc pc = .ok (.ishl, 1)) (h : 0 ≤ b ∧ b < 31) (k : gG X V nL (pc + 1) L (gI (gpw b) :: st) M) : gG X V nL pc L (gI b :: gI 1 :: st) M := by
  intro hL hS hM ls H locs hl hP hV
  obtain ⟨n, rfl⟩ : ∃ n : Nat, b = (n : Int) := ⟨b.toNat, by omega⟩
  have k := k hL (gok_n (gpw_R n (by omega)) (gok_t (gok_t hS))) hM ls H locs hl hP hV
  refine lv_ishl (x := g32 1) (y := g32 (n : Int)) C.1 C.2.1 d ?_
  rw [g32_shl n (by omega)]
  exact k
theorem g_ishr (C : gC X V l cc nL own fr lo) {a b : Int} (d : decode cc pc = .ok (.ishr, 1)) (h : 0 ≤ a ∧ 0 ≤ b ∧ b < 32) (k : gG X V nL (pc + 1) L (gI (a / gpw b) :: st) M) : gG X V nL pc L (gI b :: gI a :: st) M := by
  intro hL hS hM ls H locs hl hP hV
  have ha : gR a := gok_c (gok_t hS)
  obtain ⟨n, rfl⟩ : ∃ n : Nat, b = (n : Int) := ⟨b.toNat, by omega⟩
  obtain ⟨x, rfl⟩ : ∃ x : Nat, a = (x : Int) := ⟨a.toNat, by omega⟩
  have hq : x / 2 ^ n ≤ x := Nat.div_le_self ..
  have e : (x : Int) / gpw (n : Int) = ((x / 2 ^ n : Nat) : Int) := by unfold gpw; rw [Int.toNat_natCast]; exact (Int.natCast_ediv ..).symm
  rw [e] at k
  have hz : gR ((x / 2 ^ n : Nat) : Int) := by
    have := ha.2
    generalize x / 2 ^ n = q at hq
    exact ⟨by omega, by omega⟩
  have k := k hL (gok_n hz (gok_t (gok_t hS))) hM ls H locs hl hP hV
  refine lv_ishr (x := g32 (x : Int)) (y := g32 (n : Int)) C.1 C.2.1 d ?_
  rw [g32_shr x n (by have := ha.2; omega) (by omega)]
  exact k
theorem g_iushr16 (C : gC X V l cc nL own fr lo) {a : Int} (d : decode cc pc = .ok (.iushr, 1)) (k : gG X V nL (pc + 1) L (gI (a % 4294967296 / 65536) :: st) M) : gG X V nL pc L (gI 16 :: gI a :: st) M := by
  intro hL hS hM ls H locs hl hP hV
  have k := k hL (gok_n (show gR (a % 4294967296 / 65536) from ⟨by omega, by omega⟩) (gok_t (gok_t hS))) hM ls H locs hl hP hV
  exact lv_iushr (x := g32 a) (y := g32 16) C.1 C.2.1 d (g32_ushr16 a) k
theorem g_ior (C : gC X V l cc nL own fr lo) {a b : Int} (d : decode cc pc = .ok (.ior, 1)) (h : 0 ≤ a ∧ 0 ≤ b) (k : gG X V nL (pc + 1) L (gI (gor a b) :: st) M) : gG X V nL pc L (gI b :: gI a :: st) M := by
  intro hL hS hM ls H locs hl hP hV
  have hb : gR b := gok_c hS
  have ha : gR a := gok_c (gok_t hS)
  have k := k hL (gok_n (gor_R ha hb h.1 h.2) (gok_t (gok_t hS))) hM ls H locs hl hP hV
  obtain ⟨n, rfl⟩ : ∃ n : Nat, b = (n : Int) := ⟨b.toNat, by omega⟩
  obtain ⟨x, rfl⟩ : ∃ x : Nat, a = (x : Int) := ⟨a.toNat, by omega⟩
  refine lv_ior (x := g32 (x : Int)) (y := g32 (n : Int)) C.1 C.2.1 d ?_
  rw [g32_or]
  exact k
theorem g_iand (C : gC X V l cc nL own fr lo) {a b : Int} (d : decode cc pc = .ok (.iand, 1)) (h : 0 ≤ a ∧ 0 ≤ b) (k : gG X V nL (pc + 1) L (gI (gand a b) :: st) M) : gG X V nL pc L (gI b :: gI a :: st) M := by
  intro hL hS hM ls H locs hl hP hV
  have ha : gR a := gok_c (gok_t hS)
  have k := k hL (gok_n (gand_R ha h.1) (gok_t (gok_t hS))) hM ls H locs hl hP hV
  obtain ⟨n, rfl⟩ : ∃ n : Nat, b = (n : Int) := ⟨b.toNat, by omega⟩
  obtain ⟨x, rfl⟩ : ∃ x : Nat, a = (x : Int) := ⟨a.toNat, by omega⟩
  refine lv_iand (x := g32 (x : Int)) (y := g32 (n : Int)) C.1 C.2.1 d ?_
  rw [g32_and]
  exact k
theorem g_iandM (C : gC X V l cc nL own fr lo) {a m : Int} (n : Nat) (p : Int) (d : decode cc pc = .ok (.iand, 1)) (hn : n < 31) (hm : m = ((2 ^ n - 1 : Nat) : Int)) (hp : p = ((2 ^ n : Nat) : Int)) (k : gG X V nL (pc + 1) L (gI (a % p) :: st) M) : gG X V nL pc L (gI m :: gI a :: st) M := by
  subst hm
  subst hp
  intro hL hS hM ls H locs hl hP hV
  have hp : 2 ^ n < 2 ^ 31 := Nat.pow_lt_pow_right (by decide) hn
  have h0 : 0 < 2 ^ n := Nat.pow_pos (by decide)
  have h2 := Int.emod_nonneg a (show ((2 ^ n : Nat) : Int) ≠ 0 by omega)
  have h3 := Int.emod_lt_of_pos a (show (0 : Int) < ((2 ^ n : Nat) : Int) by omega)
  have k := k hL (gok_n (show gR (a % ((2 ^ n : Nat) : Int)) from ⟨by omega, by omega⟩) (gok_t (gok_t hS))) hM ls H locs hl hP hV
  refine lv_iand (x := g32 a) (y := g32 ((2 ^ n - 1 : Nat) : Int)) C.1 C.2.1 d ?_
  rw [g32_mask a n (by omega)]
  exact k
-- longs
theorem g_i2l (C : gC X V l cc nL own fr lo) {a : Int} (d : decode cc pc = .ok (.i2l, 1)) (k : gG X V nL (pc + 1) L (gJ a :: st) M) : gG X V nL pc L (gI a :: st) M := by
  intro hL hS hM ls H locs hl hP hV
  have ha : gR a := gok_c hS
  have h1 := ha.1
  have h2 := ha.2
  have k := k hL (gok_n (show gOK (gJ a) from (show -9223372036854775808 ≤ a ∧ a < 9223372036854775808 from ⟨by omega, by omega⟩)) (gok_t hS)) hM ls H locs hl hP hV
  refine lv_i2l (x := g32 a) C.1 C.2.1 d ?_ k
  apply Int64.toInt_inj.mp
  rw [Int32.toInt_toInt64, g32_toInt ha]
  exact (Int64.toInt_ofInt_of_le (by omega) (by omega)).symm
theorem g_lcmp (C : gC X V l cc nL own fr lo) {a b : Int} (d : decode cc pc = .ok (.lcmp, 1)) (k : gG X V nL (pc + 1) L (gI (if a < b then -1 else if a = b then 0 else 1) :: st) M) : gG X V nL pc L (gJ b :: gJ a :: st) M := by
  intro hL hS hM ls H locs hl hP hV
  have hb : -9223372036854775808 ≤ b ∧ b < 9223372036854775808 := gok_c hS
  have ha : -9223372036854775808 ≤ a ∧ a < 9223372036854775808 := gok_c (gok_t hS)
  have eb : (Int64.ofInt b).toInt = b := Int64.toInt_ofInt_of_le (by have := hb.1; omega) (by have := hb.2; omega)
  have ea : (Int64.ofInt a).toInt = a := Int64.toInt_ofInt_of_le (by have := ha.1; omega) (by have := ha.2; omega)
  have k := k hL (gok_n (show gR (if a < b then -1 else if a = b then 0 else 1) from by split <;> (try split) <;> exact ⟨by decide, by decide⟩) (gok_t (gok_t hS))) hM ls H locs hl hP hV
  refine W.lcmp (x := Int64.ofInt a) (y := Int64.ofInt b) C.1 C.2.1 d ?_
  have e : lg_cmp (Int64.ofInt a) (Int64.ofInt b) = g32 (if a < b then -1 else if a = b then 0 else 1) := by
    unfold lg_cmp
    simp only [Int64.lt_iff_toInt_lt, ← Int64.toInt_inj, ea, eb]
    rcases Int.lt_trichotomy a b with h | h | h
    · simp [h, show ¬ a = b by omega, show ¬ b < a by omega]; first | rfl | decide
    · subst h; simp; first | rfl | decide
    · simp [h, show ¬ a = b by omega, show ¬ a < b by omega]; first | rfl | decide
  rw [e]
  exact k
-- the stack
theorem g_dup (C : gC X V l cc nL own fr lo) {q : gSV} (d : decode cc pc = .ok (.dup, 1)) (hq : q.1 ≠ 2) (k : gG X V nL (pc + 1) L (q :: q :: st) M) : gG X V nL pc L (q :: st) M :=
  fun hL hS hM ls H locs hl hP hV => lv_dup C.1 C.2.1 d (by rw [grv_cat, if_neg hq]) (k hL (gok_n (gok_c hS) hS) hM ls H locs hl hP hV)
theorem g_dup2 (C : gC X V l cc nL own fr lo) {q r : gSV} (d : decode cc pc = .ok (.dup2, 1)) (hq : q.1 ≠ 2) (hr : r.1 ≠ 2) (k : gG X V nL (pc + 1) L (q :: r :: q :: r :: st) M) : gG X V nL pc L (q :: r :: st) M :=
  fun hL hS hM ls H locs hl hP hV => lv_dup2_11 C.1 C.2.1 d (by rw [grv_cat, if_neg hq]) (by rw [grv_cat, if_neg hr]) (k hL (gok_n (gok_c hS) (gok_n (gok_c (gok_t hS)) hS)) hM ls H locs hl hP hV)
theorem g_pop (C : gC X V l cc nL own fr lo) {q : gSV} (d : decode cc pc = .ok (.pop, 1)) (hq : q.1 ≠ 2) (k : gG X V nL (pc + 1) L st M) : gG X V nL pc L (q :: st) M :=
  fun hL hS hM ls H locs hl hP hV => lv_pop C.1 C.2.1 d (by rw [grv_cat, if_neg hq]) (k hL (gok_t hS) hM ls H locs hl hP hV)
theorem g_goto (C : gC X V l cc nL own fr lo) {off : Int} {t : Nat} (d : decode cc pc = .ok (.goto off, 3)) (ht : (pc : Int) + off = (t : Int)) (k : gG X V nL t L st M) : gG X V nL pc L st M :=
  fun hL hS hM ls H locs hl hP hV => lv_goto C.1 C.2.1 d ht (k hL hS hM ls H locs hl hP hV)
theorem g_if_eq (C : gC X V l cc nL own fr lo) {a off : Int} {t : Nat} (d : decode cc pc = .ok (.ifCond .eq off, 3)) (ht : (pc : Int) + off = (t : Int)) (kt : a = 0 → gG X V nL t L st M) (kf : ¬ a = 0 → gG X V nL (pc + 3) L st M) : gG X V nL pc L (gI a :: st) M := by
  intro hL hS hM ls H locs hl hP hV
  have ha : gR a := gok_c hS
  exact lv_if_eq (x := g32 a) C.1 C.2.1 d ht (fun h => kt ((g32_inj ha gR_0).mp h) hL (gok_t hS) hM ls H locs hl hP hV) (fun h => kf (fun q => h ((g32_inj ha gR_0).mpr q)) hL (gok_t hS) hM ls H locs hl hP hV)
theorem g_if_ne (C : gC X V l cc nL own fr lo) {a off : Int} {t : Nat} (d : decode cc pc = .ok (.ifCond .ne off, 3)) (ht : (pc : Int) + off = (t : Int)) (kt : ¬ a = 0 → gG X V nL t L st M) (kf : a = 0 → gG X V nL (pc + 3) L st M) : gG X V nL pc L (gI a :: st) M := by
  intro hL hS hM ls H locs hl hP hV
  have ha : gR a := gok_c hS
  exact lv_if_ne (x := g32 a) C.1 C.2.1 d ht (fun h => kt ((not_congr (g32_inj ha gR_0)).mp h) hL (gok_t hS) hM ls H locs hl hP hV) (fun h => kf ((g32_inj ha gR_0).mp h) hL (gok_t hS) hM ls H locs hl hP hV)
theorem g_if_lt (C : gC X V l cc nL own fr lo) {a off : Int} {t : Nat} (d : decode cc pc = .ok (.ifCond .lt off, 3)) (ht : (pc : Int) + off = (t : Int)) (kt : a < 0 → gG X V nL t L st M) (kf : ¬ a < 0 → gG X V nL (pc + 3) L st M) : gG X V nL pc L (gI a :: st) M := by
  intro hL hS hM ls H locs hl hP hV
  have ha : gR a := gok_c hS
  exact lv_if_lt (x := g32 a) C.1 C.2.1 d ht (fun h => kt ((g32_lt ha gR_0).mp h) hL (gok_t hS) hM ls H locs hl hP hV) (fun h => kf (fun q => h ((g32_lt ha gR_0).mpr q)) hL (gok_t hS) hM ls H locs hl hP hV)
theorem g_if_ge (C : gC X V l cc nL own fr lo) {a off : Int} {t : Nat} (d : decode cc pc = .ok (.ifCond .ge off, 3)) (ht : (pc : Int) + off = (t : Int)) (kt : 0 ≤ a → gG X V nL t L st M) (kf : ¬ 0 ≤ a → gG X V nL (pc + 3) L st M) : gG X V nL pc L (gI a :: st) M := by
  intro hL hS hM ls H locs hl hP hV
  have ha : gR a := gok_c hS
  exact lv_if_ge (x := g32 a) C.1 C.2.1 d ht (fun h => kt ((g32_le gR_0 ha).mp h) hL (gok_t hS) hM ls H locs hl hP hV) (fun h => kf (fun q => h ((g32_le gR_0 ha).mpr q)) hL (gok_t hS) hM ls H locs hl hP hV)
theorem g_if_gt (C : gC X V l cc nL own fr lo) {a off : Int} {t : Nat} (d : decode cc pc = .ok (.ifCond .gt off, 3)) (ht : (pc : Int) + off = (t : Int)) (kt : 0 < a → gG X V nL t L st M) (kf : ¬ 0 < a → gG X V nL (pc + 3) L st M) : gG X V nL pc L (gI a :: st) M := by
  intro hL hS hM ls H locs hl hP hV
  have ha : gR a := gok_c hS
  exact lv_if_gt (x := g32 a) C.1 C.2.1 d ht (fun h => kt ((g32_lt gR_0 ha).mp h) hL (gok_t hS) hM ls H locs hl hP hV) (fun h => kf (fun q => h ((g32_lt gR_0 ha).mpr q)) hL (gok_t hS) hM ls H locs hl hP hV)
theorem g_if_le (C : gC X V l cc nL own fr lo) {a off : Int} {t : Nat} (d : decode cc pc = .ok (.ifCond .le off, 3)) (ht : (pc : Int) + off = (t : Int)) (kt : a ≤ 0 → gG X V nL t L st M) (kf : ¬ a ≤ 0 → gG X V nL (pc + 3) L st M) : gG X V nL pc L (gI a :: st) M := by
  intro hL hS hM ls H locs hl hP hV
  have ha : gR a := gok_c hS
  exact lv_if_le (x := g32 a) C.1 C.2.1 d ht (fun h => kt ((g32_le ha gR_0).mp h) hL (gok_t hS) hM ls H locs hl hP hV) (fun h => kf (fun q => h ((g32_le ha gR_0).mpr q)) hL (gok_t hS) hM ls H locs hl hP hV)
theorem g_ic_eq (C : gC X V l cc nL own fr lo) {a b off : Int} {t : Nat} (d : decode cc pc = .ok (.if_icmp .eq off, 3)) (ht : (pc : Int) + off = (t : Int)) (kt : a = b → gG X V nL t L st M) (kf : ¬ a = b → gG X V nL (pc + 3) L st M) : gG X V nL pc L (gI b :: gI a :: st) M := by
  intro hL hS hM ls H locs hl hP hV
  have hb : gR b := gok_c hS
  have ha : gR a := gok_c (gok_t hS)
  have hS := gok_t (gok_t hS)
  exact lv_icmp_eq (x := g32 a) (y := g32 b) C.1 C.2.1 d ht (fun h => kt ((g32_inj ha hb).mp h) hL hS hM ls H locs hl hP hV) (fun h => kf (fun q => h ((g32_inj ha hb).mpr q)) hL hS hM ls H locs hl hP hV)
theorem g_ic_ne (C : gC X V l cc nL own fr lo) {a b off : Int} {t : Nat} (d : decode cc pc = .ok (.if_icmp .ne off, 3)) (ht : (pc : Int) + off = (t : Int)) (kt : ¬ a = b → gG X V nL t L st M) (kf : a = b → gG X V nL (pc + 3) L st M) : gG X V nL pc L (gI b :: gI a :: st) M := by
  intro hL hS hM ls H locs hl hP hV
  have hb : gR b := gok_c hS
  have ha : gR a := gok_c (gok_t hS)
  have hS := gok_t (gok_t hS)
  exact lv_icmp_ne (x := g32 a) (y := g32 b) C.1 C.2.1 d ht (fun h => kt ((not_congr (g32_inj ha hb)).mp h) hL hS hM ls H locs hl hP hV) (fun h => kf ((g32_inj ha hb).mp h) hL hS hM ls H locs hl hP hV)
theorem g_ic_lt (C : gC X V l cc nL own fr lo) {a b off : Int} {t : Nat} (d : decode cc pc = .ok (.if_icmp .lt off, 3)) (ht : (pc : Int) + off = (t : Int)) (kt : a < b → gG X V nL t L st M) (kf : ¬ a < b → gG X V nL (pc + 3) L st M) : gG X V nL pc L (gI b :: gI a :: st) M := by
  intro hL hS hM ls H locs hl hP hV
  have hb : gR b := gok_c hS
  have ha : gR a := gok_c (gok_t hS)
  have hS := gok_t (gok_t hS)
  exact lv_icmp_lt (x := g32 a) (y := g32 b) C.1 C.2.1 d ht (fun h => kt ((g32_lt ha hb).mp h) hL hS hM ls H locs hl hP hV) (fun h => kf (fun q => h ((g32_lt ha hb).mpr q)) hL hS hM ls H locs hl hP hV)
theorem g_ic_ge (C : gC X V l cc nL own fr lo) {a b off : Int} {t : Nat} (d : decode cc pc = .ok (.if_icmp .ge off, 3)) (ht : (pc : Int) + off = (t : Int)) (kt : b ≤ a → gG X V nL t L st M) (kf : ¬ b ≤ a → gG X V nL (pc + 3) L st M) : gG X V nL pc L (gI b :: gI a :: st) M := by
  intro hL hS hM ls H locs hl hP hV
  have hb : gR b := gok_c hS
  have ha : gR a := gok_c (gok_t hS)
  have hS := gok_t (gok_t hS)
  exact lv_icmp_ge (x := g32 a) (y := g32 b) C.1 C.2.1 d ht (fun h => kt ((g32_le hb ha).mp h) hL hS hM ls H locs hl hP hV) (fun h => kf (fun q => h ((g32_le hb ha).mpr q)) hL hS hM ls H locs hl hP hV)
theorem g_ic_gt (C : gC X V l cc nL own fr lo) {a b off : Int} {t : Nat} (d : decode cc pc = .ok (.if_icmp .gt off, 3)) (ht : (pc : Int) + off = (t : Int)) (kt : b < a → gG X V nL t L st M) (kf : ¬ b < a → gG X V nL (pc + 3) L st M) : gG X V nL pc L (gI b :: gI a :: st) M := by
  intro hL hS hM ls H locs hl hP hV
  have hb : gR b := gok_c hS
  have ha : gR a := gok_c (gok_t hS)
  have hS := gok_t (gok_t hS)
  exact lv_icmp_gt (x := g32 a) (y := g32 b) C.1 C.2.1 d ht (fun h => kt ((g32_lt hb ha).mp h) hL hS hM ls H locs hl hP hV) (fun h => kf (fun q => h ((g32_lt hb ha).mpr q)) hL hS hM ls H locs hl hP hV)
theorem g_ic_le (C : gC X V l cc nL own fr lo) {a b off : Int} {t : Nat} (d : decode cc pc = .ok (.if_icmp .le off, 3)) (ht : (pc : Int) + off = (t : Int)) (kt : a ≤ b → gG X V nL t L st M) (kf : ¬ a ≤ b → gG X V nL (pc + 3) L st M) : gG X V nL pc L (gI b :: gI a :: st) M := by
  intro hL hS hM ls H locs hl hP hV
  have hb : gR b := gok_c hS
  have ha : gR a := gok_c (gok_t hS)
  have hS := gok_t (gok_t hS)
  exact lv_icmp_le (x := g32 a) (y := g32 b) C.1 C.2.1 d ht (fun h => kt ((g32_le ha hb).mp h) hL hS hM ls H locs hl hP hV) (fun h => kf (fun q => h ((g32_le ha hb).mpr q)) hL hS hM ls H locs hl hP hV)
theorem g_switch (C : gC X V l cc nL own fr lo) {dflt lo' hi : Int} {offs : Array Int} {len : Nat} {a : Int} (d : decode cc pc = .ok (.tableswitch dflt lo' hi offs, len)) {t : Nat} (ht : (pc : Int) + dflt = (t : Int)) (ko : (a < lo' ∨ hi < a) → gG X V nL t L st M)
    (ki : lo' ≤ a → a ≤ hi → ∃ (off : Int) (t : Nat), offs[(a - lo').toNat]? = some off ∧ (pc : Int) + off = (t : Int) ∧ gG X V nL t L st M) : gG X V nL pc L (gI a :: st) M := by
  intro hL hS hM ls H locs hl hP hV
  have ha : gR a := gok_c hS
  by_cases h : a < lo' ∨ hi < a
  · exact lv_tableOut (x := g32 a) C.1 C.2.1 d (by rw [g32_toInt ha]; exact h) ht (ko h hL (gok_t hS) hM ls H locs hl hP hV)
  · obtain ⟨off, t', h1, h2, h3⟩ := ki (by omega) (by omega)
    exact lv_tableIn (x := g32 a) C.1 C.2.1 d (by rw [g32_toInt ha]; omega) (by rw [g32_toInt ha]; omega) (by rw [g32_toInt ha]; exact h1) h2 (h3 hL (gok_t hS) hM ls H locs hl hP hV)
end GI2
