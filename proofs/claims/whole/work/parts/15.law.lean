theorem gRc_31 : gR 31 := ⟨by decide, by decide⟩
theorem gRb_31 : (Int8.ofInt 31).toInt32 = g32 31 := by decide +kernel
theorem gT_x : gT 0 9 := ⟨by decide, by decide, by decide +kernel⟩
theorem gT_m : gT 228 10 := ⟨by decide, by decide, by decide +kernel⟩
/-- the script as the law reads it -/
def gscr (xs : Nat → Int32) : Int → Int := fun i => (xs i.toNat).toInt
section GLW
variable {X : gX} {V : gW} {l : Launch} {cc : ByteArray} {nL : Nat} {own : String} {fr lo : Nat} {pc : Nat} {L : List (Nat × gSV)} {st : List gSV} {M : gMem} {b n' : Nat} {ys : Nat → Int32} {n : Int}
theorem g_scrlen (C : gC X V l cc nL own fr lo) (hX : va_X b n' ys (gxs X) (gxs X).heap) (hbl : b < (gxs X).heap.size) (hbA : ¬ gvA V b) (hn : n = (n' : Int) ∧ n' ≤ 2048) (d : decode cc pc = .ok (.arraylength, 1)) (kk : gG X V nL (pc + 1) L (gI n :: st) M) : gG X V nL pc L (gB (b : Int) :: st) M := by
  obtain ⟨rfl, h2⟩ := hn
  intro hL hS hM ls H locs hl hP hV
  have kk := kk hL (gok_n (show gR (n' : Int) from ⟨by omega, by omega⟩) (gok_t hS)) hM ls H locs hl hP hV
  refine va_slen C.1 C.2.1 hX hbl hbA hV d ?_
  rw [g32_ofNat]
  exact kk
theorem g_scrld (C : gC X V l cc nL own fr lo) (hX : va_X b n' ys (gxs X) (gxs X).heap) (hbl : b < (gxs X).heap.size) (hbA : ¬ gvA V b) (hn : n = (n' : Int) ∧ n' ≤ 2048) {i : Int} (hi : 0 ≤ i ∧ i < n) (d : decode cc pc = .ok (.iaload, 1)) (kk : gG X V nL (pc + 1) L (gI (gscr ys i) :: st) M) : gG X V nL pc L (gI i :: gB (b : Int) :: st) M := by
  obtain ⟨rfl, h2⟩ := hn
  intro hL hS hM ls H locs hl hP hV
  have hr : gR i := gok_c hS
  have kk := kk hL (gok_n (gR_toInt _) (gok_t (gok_t hS))) hM ls H locs hl hP hV
  refine va_sld (i := g32 i) C.1 C.2.1 hX hbl hbA hV (g32_in hi.1 hi.2 hr) d ?_
  have e : ys (g32 i).toNatClampNeg = g32 (gscr ys i) := by unfold gscr; rw [g32_of, g32_nat hr]
  rw [e]
  exact kk
end GLW
def wL_law (xs : Int → Int) (n : Int) (M0 : gMem) : Prop :=
  gL1 (fun rec3 (v1 : Int) (M2 : gMem) => gR (n - 4) ∧ (((n - 4) < v1 → True) ∧ (¬ (n - 4) < v1 → ((0 : Int) ≤ v1 ∧ v1 < n) ∧ (gK0 (fun P6 => (((xs v1) % 32) = 0 → gR (v1 + 1) ∧ (((0 : Int) ≤ (v1 + 1) ∧ (v1 + 1) < n) ∧ (wX9_type 0 (xs (v1 + 1)) (fun (r9 : Int) (M8 : gMem) => gR (v1 + 1) ∧ (((0 : Int) ≤ (v1 + 1) ∧ (v1 + 1) < n) ∧ (wX10_type 228 (xs (v1 + 1)) (fun (r11 : Int) (M10 : gMem) => (r9 = r11 → P6 M10) ∧ (¬ r9 = r11 → False)) M8))) M2))) ∧ (((xs v1) % 32) = 1 → wX9_erase 0 (fun (r14 : Int) (M13 : gMem) => wX10_erase 228 (fun (r16 : Int) (M15 : gMem) => (r14 = r16 → P6 M15) ∧ (¬ r14 = r16 → False)) M13) M2) ∧ (((xs v1) % 32) = 2 → wX9_fault 0 (fun (r19 : Int) (M18 : gMem) => wX10_fault 228 (fun (r21 : Int) (M20 : gMem) => (r19 = r21 → P6 M20) ∧ (¬ r19 = r21 → False)) M18) M2) ∧ (((xs v1) % 32) = 3 → wX9_net 0 (fun (r24 : Int) (M23 : gMem) => wX10_net 228 (fun (r26 : Int) (M25 : gMem) => (r24 = r26 → P6 M25) ∧ (¬ r24 = r26 → False)) M23) M2) ∧ (((xs v1) % 32) = 4 → gR (v1 + 1) ∧ (((0 : Int) ≤ (v1 + 1) ∧ (v1 + 1) < n) ∧ (gR (v1 + 2) ∧ (((0 : Int) ≤ (v1 + 2) ∧ (v1 + 2) < n) ∧ (wX9_link 0 (xs (v1 + 1)) (xs (v1 + 2)) (fun (r29 : Int) (M28 : gMem) => gR (v1 + 1) ∧ (((0 : Int) ≤ (v1 + 1) ∧ (v1 + 1) < n) ∧ (gR (v1 + 2) ∧ (((0 : Int) ≤ (v1 + 2) ∧ (v1 + 2) < n) ∧ (wX10_link 228 (xs (v1 + 1)) (xs (v1 + 2)) (fun (r31 : Int) (M30 : gMem) => (r29 = r31 → P6 M30) ∧ (¬ r29 = r31 → False)) M28))))) M2))))) ∧ (((xs v1) % 32) = 5 → gR (v1 + 1) ∧ (((0 : Int) ≤ (v1 + 1) ∧ (v1 + 1) < n) ∧ (wX9_level 0 (xs (v1 + 1)) (fun (r34 : Int) (M33 : gMem) => gR (v1 + 1) ∧ (((0 : Int) ≤ (v1 + 1) ∧ (v1 + 1) < n) ∧ (wX10_level 228 (xs (v1 + 1)) (fun (r36 : Int) (M35 : gMem) => (r34 = r36 → P6 M35) ∧ (¬ r34 = r36 → False)) M33))) M2))) ∧ (((xs v1) % 32) = 6 → gR (v1 + 1) ∧ (((0 : Int) ≤ (v1 + 1) ∧ (v1 + 1) < n) ∧ (gR (v1 + 2) ∧ (((0 : Int) ≤ (v1 + 2) ∧ (v1 + 2) < n) ∧ (gR (v1 + 3) ∧ (((0 : Int) ≤ (v1 + 3) ∧ (v1 + 3) < n) ∧ (wX9_join 0 (xs (v1 + 1)) (xs (v1 + 2)) (xs (v1 + 3)) (fun (r39 : Int) (M38 : gMem) => gR (v1 + 1) ∧ (((0 : Int) ≤ (v1 + 1) ∧ (v1 + 1) < n) ∧ (gR (v1 + 2) ∧ (((0 : Int) ≤ (v1 + 2) ∧ (v1 + 2) < n) ∧ (gR (v1 + 3) ∧ (((0 : Int) ≤ (v1 + 3) ∧ (v1 + 3) < n) ∧ (wX10_join 228 (xs (v1 + 1)) (xs (v1 + 2)) (xs (v1 + 3)) (fun (r41 : Int) (M40 : gMem) => (r39 = r41 → P6 M40) ∧ (¬ r39 = r41 → False)) M38))))))) M2))))))) ∧ (((xs v1) % 32) = 7 → gR (v1 + 1) ∧ (((0 : Int) ≤ (v1 + 1) ∧ (v1 + 1) < n) ∧ (gR (v1 + 2) ∧ (((0 : Int) ≤ (v1 + 2) ∧ (v1 + 2) < n) ∧ (wX9_cut 0 (xs (v1 + 1)) (xs (v1 + 2)) (fun (r44 : Int) (M43 : gMem) => gR (v1 + 1) ∧ (((0 : Int) ≤ (v1 + 1) ∧ (v1 + 1) < n) ∧ (gR (v1 + 2) ∧ (((0 : Int) ≤ (v1 + 2) ∧ (v1 + 2) < n) ∧ (wX10_cut 228 (xs (v1 + 1)) (xs (v1 + 2)) (fun (r46 : Int) (M45 : gMem) => (r44 = r46 → P6 M45) ∧ (¬ r44 = r46 → False)) M43))))) M2))))) ∧ (((xs v1) % 32) = 8 → gR (v1 + 1) ∧ (((0 : Int) ≤ (v1 + 1) ∧ (v1 + 1) < n) ∧ (gR (v1 + 2) ∧ (((0 : Int) ≤ (v1 + 2) ∧ (v1 + 2) < n) ∧ (wX9_lift 0 (xs (v1 + 1)) (xs (v1 + 2)) (fun (r49 : Int) (M48 : gMem) => gR (v1 + 1) ∧ (((0 : Int) ≤ (v1 + 1) ∧ (v1 + 1) < n) ∧ (gR (v1 + 2) ∧ (((0 : Int) ≤ (v1 + 2) ∧ (v1 + 2) < n) ∧ (wX10_lift 228 (xs (v1 + 1)) (xs (v1 + 2)) (fun (r51 : Int) (M50 : gMem) => (r49 = r51 → P6 M50) ∧ (¬ r49 = r51 → False)) M48))))) M2))))) ∧ (((xs v1) % 32) = 9 → gR (v1 + 1) ∧ (((0 : Int) ≤ (v1 + 1) ∧ (v1 + 1) < n) ∧ (wX9_draw 0 (xs (v1 + 1)) (fun (r54 : Int) (M53 : gMem) => gR (v1 + 1) ∧ (((0 : Int) ≤ (v1 + 1) ∧ (v1 + 1) < n) ∧ (wX10_draw 228 (xs (v1 + 1)) (fun (r56 : Int) (M55 : gMem) => (r54 = r56 → P6 M55) ∧ (¬ r54 = r56 → False)) M53))) M2))) ∧ (((xs v1) % 32) = 10 → gR (v1 + 1) ∧ (((0 : Int) ≤ (v1 + 1) ∧ (v1 + 1) < n) ∧ (wX9_thin 0 (xs (v1 + 1)) (fun (r59 : Int) (M58 : gMem) => gR (v1 + 1) ∧ (((0 : Int) ≤ (v1 + 1) ∧ (v1 + 1) < n) ∧ (wX10_thin 228 (xs (v1 + 1)) (fun (r61 : Int) (M60 : gMem) => (r59 = r61 → P6 M60) ∧ (¬ r59 = r61 → False)) M58))) M2))) ∧ (((xs v1) % 32) = 11 → wX9_undo 0 (fun (r64 : Int) (M63 : gMem) => wX10_undo 228 (fun (r66 : Int) (M65 : gMem) => (r64 = r66 → P6 M65) ∧ (¬ r64 = r66 → False)) M63) M2) ∧ (((xs v1) % 32) = 12 → gR (v1 + 1) ∧ (((0 : Int) ≤ (v1 + 1) ∧ (v1 + 1) < n) ∧ (wX9_keep 0 (xs (v1 + 1)) (fun (r69 : Int) (M68 : gMem) => gR (v1 + 1) ∧ (((0 : Int) ≤ (v1 + 1) ∧ (v1 + 1) < n) ∧ (wX10_keep 228 (xs (v1 + 1)) (fun (r71 : Int) (M70 : gMem) => (r69 = r71 → P6 M70) ∧ (¬ r69 = r71 → False)) M68))) M2))) ∧ (((xs v1) % 32) = 13 → gR (v1 + 1) ∧ (((0 : Int) ≤ (v1 + 1) ∧ (v1 + 1) < n) ∧ (wX9_back 0 (xs (v1 + 1)) (fun (r74 : Int) (M73 : gMem) => gR (v1 + 1) ∧ (((0 : Int) ≤ (v1 + 1) ∧ (v1 + 1) < n) ∧ (wX10_back 228 (xs (v1 + 1)) (fun (r76 : Int) (M75 : gMem) => (r74 = r76 → P6 M75) ∧ (¬ r74 = r76 → False)) M73))) M2))) ∧ (((xs v1) % 32) = 14 → gR (v1 + 1) ∧ (((0 : Int) ≤ (v1 + 1) ∧ (v1 + 1) < n) ∧ (gR (v1 + 2) ∧ (((0 : Int) ≤ (v1 + 2) ∧ (v1 + 2) < n) ∧ (wX9_distance 0 (xs (v1 + 1)) (xs (v1 + 2)) (fun (r79 : Int) (M78 : gMem) => gR (v1 + 1) ∧ (((0 : Int) ≤ (v1 + 1) ∧ (v1 + 1) < n) ∧ (gR (v1 + 2) ∧ (((0 : Int) ≤ (v1 + 2) ∧ (v1 + 2) < n) ∧ (wX10_distance 228 (xs (v1 + 1)) (xs (v1 + 2)) (fun (r81 : Int) (M80 : gMem) => (r79 = r81 → P6 M80) ∧ (¬ r79 = r81 → False)) M78))))) M2))))) ∧ (((xs v1) % 32) = 15 → gR (v1 + 1) ∧ (((0 : Int) ≤ (v1 + 1) ∧ (v1 + 1) < n) ∧ (gR (v1 + 2) ∧ (((0 : Int) ≤ (v1 + 2) ∧ (v1 + 2) < n) ∧ (gR (v1 + 3) ∧ (((0 : Int) ≤ (v1 + 3) ∧ (v1 + 3) < n) ∧ (wX9_nearest 0 (xs (v1 + 1)) (xs (v1 + 2)) (xs (v1 + 3)) (fun (r84 : Int) (M83 : gMem) => gR (v1 + 1) ∧ (((0 : Int) ≤ (v1 + 1) ∧ (v1 + 1) < n) ∧ (gR (v1 + 2) ∧ (((0 : Int) ≤ (v1 + 2) ∧ (v1 + 2) < n) ∧ (gR (v1 + 3) ∧ (((0 : Int) ≤ (v1 + 3) ∧ (v1 + 3) < n) ∧ (wX10_nearest 228 (xs (v1 + 1)) (xs (v1 + 2)) (xs (v1 + 3)) (fun (r86 : Int) (M85 : gMem) => (r84 = r86 → P6 M85) ∧ (¬ r84 = r86 → False)) M83))))))) M2))))))) ∧ (((xs v1) % 32) = 16 → gR (v1 + 1) ∧ (((0 : Int) ≤ (v1 + 1) ∧ (v1 + 1) < n) ∧ (gR (v1 + 2) ∧ (((0 : Int) ≤ (v1 + 2) ∧ (v1 + 2) < n) ∧ (wX9_bunch 0 (xs (v1 + 1)) (xs (v1 + 2)) (fun (r89 : Int) (M88 : gMem) => gR (v1 + 1) ∧ (((0 : Int) ≤ (v1 + 1) ∧ (v1 + 1) < n) ∧ (gR (v1 + 2) ∧ (((0 : Int) ≤ (v1 + 2) ∧ (v1 + 2) < n) ∧ (wX10_bunch 228 (xs (v1 + 1)) (xs (v1 + 2)) (fun (r91 : Int) (M90 : gMem) => (r89 = r91 → P6 M90) ∧ (¬ r89 = r91 → False)) M88))))) M2))))) ∧ (((xs v1) % 32) = 17 → gR (v1 + 1) ∧ (((0 : Int) ≤ (v1 + 1) ∧ (v1 + 1) < n) ∧ (gR (v1 + 2) ∧ (((0 : Int) ≤ (v1 + 2) ∧ (v1 + 2) < n) ∧ (wX9_next 0 (xs (v1 + 1)) (xs (v1 + 2)) (fun (r94 : Int) (M93 : gMem) => gR (v1 + 1) ∧ (((0 : Int) ≤ (v1 + 1) ∧ (v1 + 1) < n) ∧ (gR (v1 + 2) ∧ (((0 : Int) ≤ (v1 + 2) ∧ (v1 + 2) < n) ∧ (wX10_next 228 (xs (v1 + 1)) (xs (v1 + 2)) (fun (r96 : Int) (M95 : gMem) => (r94 = r96 → P6 M95) ∧ (¬ r94 = r96 → False)) M93))))) M2))))) ∧ (((xs v1) % 32) = 18 → gR (v1 + 1) ∧ (((0 : Int) ≤ (v1 + 1) ∧ (v1 + 1) < n) ∧ (gR (v1 + 2) ∧ (((0 : Int) ≤ (v1 + 2) ∧ (v1 + 2) < n) ∧ (wX9_thinned 0 (xs (v1 + 1)) (xs (v1 + 2)) (fun (r99 : Int) (M98 : gMem) => gR (v1 + 1) ∧ (((0 : Int) ≤ (v1 + 1) ∧ (v1 + 1) < n) ∧ (gR (v1 + 2) ∧ (((0 : Int) ≤ (v1 + 2) ∧ (v1 + 2) < n) ∧ (wX10_thinned 228 (xs (v1 + 1)) (xs (v1 + 2)) (fun (r101 : Int) (M100 : gMem) => (r99 = r101 → P6 M100) ∧ (¬ r99 = r101 → False)) M98))))) M2))))) ∧ (((xs v1) % 32) = 19 → gR (v1 + 1) ∧ (((0 : Int) ≤ (v1 + 1) ∧ (v1 + 1) < n) ∧ (gR (v1 + 2) ∧ (((0 : Int) ≤ (v1 + 2) ∧ (v1 + 2) < n) ∧ (wX9_worst 0 (xs (v1 + 1)) (xs (v1 + 2)) (fun (r104 : Int) (M103 : gMem) => gR (v1 + 1) ∧ (((0 : Int) ≤ (v1 + 1) ∧ (v1 + 1) < n) ∧ (gR (v1 + 2) ∧ (((0 : Int) ≤ (v1 + 2) ∧ (v1 + 2) < n) ∧ (wX10_worst 228 (xs (v1 + 1)) (xs (v1 + 2)) (fun (r106 : Int) (M105 : gMem) => (r104 = r106 → P6 M105) ∧ (¬ r104 = r106 → False)) M103))))) M2))))) ∧ (((xs v1) % 32) = 20 → gR (v1 + 1) ∧ (((0 : Int) ≤ (v1 + 1) ∧ (v1 + 1) < n) ∧ (wX9_note 0 (xs (v1 + 1)) (fun (r109 : Int) (M108 : gMem) => gR (v1 + 1) ∧ (((0 : Int) ≤ (v1 + 1) ∧ (v1 + 1) < n) ∧ (wX10_note 228 (xs (v1 + 1)) (fun (r111 : Int) (M110 : gMem) => (r109 = r111 → P6 M110) ∧ (¬ r109 = r111 → False)) M108))) M2))) ∧ (((xs v1) % 32) = 21 → wX9_mend 0 (fun (r114 : Int) (M113 : gMem) => wX10_mend 228 (fun (r116 : Int) (M115 : gMem) => (r114 = r116 → P6 M115) ∧ (¬ r114 = r116 → False)) M113) M2) ∧ (((xs v1) % 32) = 22 → gR (v1 + 1) ∧ (((0 : Int) ≤ (v1 + 1) ∧ (v1 + 1) < n) ∧ (wX9_tear 0 (xs (v1 + 1)) (fun (r119 : Int) (M118 : gMem) => gR (v1 + 1) ∧ (((0 : Int) ≤ (v1 + 1) ∧ (v1 + 1) < n) ∧ (wX10_tear 228 (xs (v1 + 1)) (fun (r121 : Int) (M120 : gMem) => (r119 = r121 → P6 M120) ∧ (¬ r119 = r121 → False)) M118))) M2))) ∧ (((xs v1) % 32) = 23 → gR (v1 + 1) ∧ (((0 : Int) ≤ (v1 + 1) ∧ (v1 + 1) < n) ∧ (gR (v1 + 2) ∧ (((0 : Int) ≤ (v1 + 2) ∧ (v1 + 2) < n) ∧ (wX9_noted 0 (xs (v1 + 1)) (xs (v1 + 2)) (fun (r124 : Int) (M123 : gMem) => gR (v1 + 1) ∧ (((0 : Int) ≤ (v1 + 1) ∧ (v1 + 1) < n) ∧ (gR (v1 + 2) ∧ (((0 : Int) ≤ (v1 + 2) ∧ (v1 + 2) < n) ∧ (wX10_noted 228 (xs (v1 + 1)) (xs (v1 + 2)) (fun (r126 : Int) (M125 : gMem) => (r124 = r126 → P6 M125) ∧ (¬ r124 = r126 → False)) M123))))) M2))))) ∧ (((xs v1) % 32) = 24 → gR (v1 + 1) ∧ (((0 : Int) ≤ (v1 + 1) ∧ (v1 + 1) < n) ∧ (gR (v1 + 2) ∧ (((0 : Int) ≤ (v1 + 2) ∧ (v1 + 2) < n) ∧ (wX9_notedFar 0 (xs (v1 + 1)) (xs (v1 + 2)) (fun (r129 : Int) (M128 : gMem) => gR (v1 + 1) ∧ (((0 : Int) ≤ (v1 + 1) ∧ (v1 + 1) < n) ∧ (gR (v1 + 2) ∧ (((0 : Int) ≤ (v1 + 2) ∧ (v1 + 2) < n) ∧ (wX10_notedFar 228 (xs (v1 + 1)) (xs (v1 + 2)) (fun (r131 : Int) (M130 : gMem) => (r129 = r131 → P6 M130) ∧ (¬ r129 = r131 → False)) M128))))) M2))))) ∧ (((xs v1) % 32) = 25 → gR (v1 + 1) ∧ (((0 : Int) ≤ (v1 + 1) ∧ (v1 + 1) < n) ∧ (gR (v1 + 2) ∧ (((0 : Int) ≤ (v1 + 2) ∧ (v1 + 2) < n) ∧ (gR (v1 + 3) ∧ (((0 : Int) ≤ (v1 + 3) ∧ (v1 + 3) < n) ∧ (wX9_told 0 (xs (v1 + 1)) (xs (v1 + 2)) (xs (v1 + 3)) (fun (r134 : Int) (M133 : gMem) => gR (v1 + 1) ∧ (((0 : Int) ≤ (v1 + 1) ∧ (v1 + 1) < n) ∧ (gR (v1 + 2) ∧ (((0 : Int) ≤ (v1 + 2) ∧ (v1 + 2) < n) ∧ (gR (v1 + 3) ∧ (((0 : Int) ≤ (v1 + 3) ∧ (v1 + 3) < n) ∧ (wX10_told 228 (xs (v1 + 1)) (xs (v1 + 2)) (xs (v1 + 3)) (fun (r136 : Int) (M135 : gMem) => (r134 = r136 → P6 M135) ∧ (¬ r134 = r136 → False)) M133))))))) M2))))))) ∧ (((xs v1) % 32) = 26 → gR (v1 + 1) ∧ (((0 : Int) ≤ (v1 + 1) ∧ (v1 + 1) < n) ∧ (gR (v1 + 2) ∧ (((0 : Int) ≤ (v1 + 2) ∧ (v1 + 2) < n) ∧ (gR (v1 + 3) ∧ (((0 : Int) ≤ (v1 + 3) ∧ (v1 + 3) < n) ∧ (wX9_why 0 (xs (v1 + 1)) (xs (v1 + 2)) (xs (v1 + 3)) (fun (r139 : Int) (M138 : gMem) => gR (v1 + 1) ∧ (((0 : Int) ≤ (v1 + 1) ∧ (v1 + 1) < n) ∧ (gR (v1 + 2) ∧ (((0 : Int) ≤ (v1 + 2) ∧ (v1 + 2) < n) ∧ (gR (v1 + 3) ∧ (((0 : Int) ≤ (v1 + 3) ∧ (v1 + 3) < n) ∧ (wX10_why 228 (xs (v1 + 1)) (xs (v1 + 2)) (xs (v1 + 3)) (fun (r141 : Int) (M140 : gMem) => (r139 = r141 → P6 M140) ∧ (¬ r139 = r141 → False)) M138))))))) M2))))))) ∧ (((xs v1) % 32) = 27 → gR (v1 + 1) ∧ (((0 : Int) ≤ (v1 + 1) ∧ (v1 + 1) < n) ∧ (gR (v1 + 2) ∧ (((0 : Int) ≤ (v1 + 2) ∧ (v1 + 2) < n) ∧ (gR (v1 + 3) ∧ (((0 : Int) ≤ (v1 + 3) ∧ (v1 + 3) < n) ∧ (wX9_route 0 (xs (v1 + 1)) (xs (v1 + 2)) (xs (v1 + 3)) (fun (r144 : Int) (M143 : gMem) => gR (v1 + 1) ∧ (((0 : Int) ≤ (v1 + 1) ∧ (v1 + 1) < n) ∧ (gR (v1 + 2) ∧ (((0 : Int) ≤ (v1 + 2) ∧ (v1 + 2) < n) ∧ (gR (v1 + 3) ∧ (((0 : Int) ≤ (v1 + 3) ∧ (v1 + 3) < n) ∧ (wX10_route 228 (xs (v1 + 1)) (xs (v1 + 2)) (xs (v1 + 3)) (fun (r146 : Int) (M145 : gMem) => (r144 = r146 → P6 M145) ∧ (¬ r144 = r146 → False)) M143))))))) M2))))))) ∧ (((xs v1) % 32) = 28 → gR (v1 + 1) ∧ (((0 : Int) ≤ (v1 + 1) ∧ (v1 + 1) < n) ∧ (wX9_pairs 0 (xs (v1 + 1)) (fun (r149 : Int) (M148 : gMem) => gR (v1 + 1) ∧ (((0 : Int) ≤ (v1 + 1) ∧ (v1 + 1) < n) ∧ (wX10_pairs 228 (xs (v1 + 1)) (fun (r151 : Int) (M150 : gMem) => (r149 = r151 → P6 M150) ∧ (¬ r149 = r151 → False)) M148))) M2))) ∧ (((xs v1) % 32) = 29 → gR (v1 + 1) ∧ (((0 : Int) ≤ (v1 + 1) ∧ (v1 + 1) < n) ∧ (wX9_count 0 (xs (v1 + 1)) (fun (r154 : Int) (M153 : gMem) => gR (v1 + 1) ∧ (((0 : Int) ≤ (v1 + 1) ∧ (v1 + 1) < n) ∧ (wX10_count 228 (xs (v1 + 1)) (fun (r156 : Int) (M155 : gMem) => (r154 = r156 → P6 M155) ∧ (¬ r154 = r156 → False)) M153))) M2))) ∧ ((((xs v1) % 32) < 0 ∨ (29 : Int) < ((xs v1) % 32)) → P6 M2)) (fun (M5 : gMem) => gR (v1 + 4) ∧ (rec3 (v1 + 4) M5)))))) 0 M0
set_option maxRecDepth 100000 in
set_option maxHeartbeats 4000000 in
theorem sL_law {X : gX} {V : gW} {l : Launch} (hD : gD V) (C : gC X V l cL_law 4 "BunchNotesLaw" 12 422) {b n' : Nat} {ys : Nat → Int32} {n : Int} (hX : va_X b n' ys (gxs X) (gxs X).heap) (hbl : b < (gxs X).heap.size) (hbA : ¬ gvA V b) (hn : n = (n' : Int) ∧ n' ≤ 2048) (M0 : gMem)
    (hret : ∀ (pc : Nat) (L : List (Nat × gSV)) (M : gMem), decode cL_law pc = .ok (.ireturn, 1) → gG X V 4 pc L [gI 1] M) (h : wL_law (gscr ys) n M0) : gG X V 4 16 [(0, gB (b : Int)), (1, gF 0), (2, gF 228)] [] M0 := by
  unfold wL_law at h
  refine g_iconst C dL_law_16 gRc_0 ?_
  refine g_istoren C [(3, gI 0), (0, gB (b : Int)), (1, gF 0), (2, gF 228)] dL_law_17 (by decide) rfl ?_
  refine g_sub [(0, gB (b : Int)), (1, gF 0), (2, gF 228), (3, gI 0)] [1, 2, 3, 0] rfl ?_
  refine gL1_go (Gd := fun (v1 : Int) (M2 : gMem) => gG X V 4 18 [(0, gB (b : Int)), (1, gF 0), (2, gF 228), (3, gI v1)] [] M2) (fun rec3 hrec3 v1 M2 h => ?_) h
  refine g_iloadn C dL_law_18 3 rfl ?_
  refine g_aloadnB C dL_law_19 0 rfl ?_
  refine g_scrlen C hX hbl hbA hn dL_law_20 ?_
  refine g_iconst C dL_law_21 gRc_4 ?_
  refine g_isub C dL_law_22 h.1 ?_
  replace h := h.2
  refine g_ic_gt (t := 1014) C dL_law_23 (by decide) (fun c4 => ?_) (fun c4 => ?_)
  · replace h := h.1 c4
    refine g_iconst C dL_law_1014 gRc_1 ?_
    exact hret _ _ _ dL_law_1015
  · replace h := h.2 c4
    refine g_aloadnB C dL_law_26 0 rfl ?_
    refine g_iloadn C dL_law_27 3 rfl ?_
    refine g_scrld C hX hbl hbA hn h.1 dL_law_28 ?_
    replace h := h.2
    refine g_bipush C dL_law_29 gRc_31 gRb_31 ?_
    refine g_iandM C 5 32 dL_law_31 (by decide) rfl rfl ?_
    obtain ⟨P6, h, hP6⟩ := h
    have J7 : ∀ (M5 : gMem), P6 M5 → gG X V 4 1008 [(0, gB (b : Int)), (1, gF 0), (2, gF 228), (3, gI v1)] [] M5 := by
      intro M5 h
      replace h := hP6 M5 h
      refine g_iinc C [(3, gI (v1 + 4)), (0, gB (b : Int)), (1, gF 0), (2, gF 228)] dL_law_1008 3 rfl (by decide) h.1 rfl ?_
      replace h := h.2
      refine g_goto (t := 18) C dL_law_1011 (by decide) ?_
      refine g_sub [(0, gB (b : Int)), (1, gF 0), (2, gF 228), (3, gI (v1 + 4))] [1, 2, 3, 0] rfl ?_
      exact hrec3 (v1 + 4) M5 h
    refine g_switch (t := 1008) C dL_law_32 (by decide) (fun c => ?_) (fun c1 c2 => ?_)
    · replace h := h.2.2.2.2.2.2.2.2.2.2.2.2.2.2.2.2.2.2.2.2.2.2.2.2.2.2.2.2.2.2 c
      exact J7 M2 h
    · obtain ⟨q158, eq158⟩ : ∃ q158 : Nat, ((gscr ys v1) % 32) = 0 + (q158 : Int) := ⟨(((gscr ys v1) % 32) - 0).toNat, by omega⟩
      match q158, eq158 with
      | 0, eq158 =>
        refine ⟨_, 168, by rw [eq158]; rfl, by decide, ?_⟩
        replace h := h.1 (by omega)
        refine g_aloadn C dL_law_168 1 rfl ?_
        refine g_aloadnB C dL_law_169 0 rfl ?_
        refine g_iloadn C dL_law_170 3 rfl ?_
        refine g_iconst C dL_law_171 gRc_1 ?_
        refine g_iadd C dL_law_172 h.1 ?_
        replace h := h.2
        refine g_scrld C hX hbl hbA hn h.1 dL_law_173 ?_
        replace h := h.2
        refine g_cVi (st := []) C dL_law_174 ykX9_type wd_372 ⟨by decide, by decide⟩ [gI (gscr ys (v1 + 1))] rfl (Nat.le_of_ble_eq_true rfl) gT_x (fun hM ho => sX9_type hD 0 (gscr ys (v1 + 1)) M2 _ gT_x h hM ho) (fun r9 M8 h => ?_)
        refine g_aloadn C dL_law_177 2 rfl ?_
        refine g_aloadnB C dL_law_178 0 rfl ?_
        refine g_iloadn C dL_law_179 3 rfl ?_
        refine g_iconst C dL_law_180 gRc_1 ?_
        refine g_iadd C dL_law_181 h.1 ?_
        replace h := h.2
        refine g_scrld C hX hbl hbA hn h.1 dL_law_182 ?_
        replace h := h.2
        refine g_cVi (st := [gI r9]) C dL_law_183 ykX10_type wd_932 ⟨by decide, by decide⟩ [gI (gscr ys (v1 + 1))] rfl (Nat.le_of_ble_eq_true rfl) gT_m (fun hM ho => sX10_type hD 228 (gscr ys (v1 + 1)) M8 _ gT_m h hM ho) (fun r11 M10 h => ?_)
        refine g_ic_eq (t := 1008) C dL_law_186 (by decide) (fun c12 => ?_) (fun c12 => ?_)
        · replace h := h.1 c12
          exact J7 M10 h
        · replace h := h.2 c12
          refine g_iconst C dL_law_189 gRc_0 ?_
          exact h.elim
      | 1, eq158 =>
        refine ⟨_, 191, by rw [eq158]; rfl, by decide, ?_⟩
        replace h := h.2.1 (by omega)
        refine g_aloadn C dL_law_191 1 rfl ?_
        refine g_cVi (st := []) C dL_law_192 ykX9_erase wd_380 ⟨by decide, by decide⟩ [] rfl (Nat.le_of_ble_eq_true rfl) gT_x (fun hM ho => sX9_erase hD 0 M2 _ gT_x h hM ho) (fun r14 M13 h => ?_)
        refine g_aloadn C dL_law_195 2 rfl ?_
        refine g_cVi (st := [gI r14]) C dL_law_196 ykX10_erase wd_940 ⟨by decide, by decide⟩ [] rfl (Nat.le_of_ble_eq_true rfl) gT_m (fun hM ho => sX10_erase hD 228 M13 _ gT_m h hM ho) (fun r16 M15 h => ?_)
        refine g_ic_eq (t := 1008) C dL_law_199 (by decide) (fun c17 => ?_) (fun c17 => ?_)
        · replace h := h.1 c17
          exact J7 M15 h
        · replace h := h.2 c17
          refine g_iconst C dL_law_202 gRc_0 ?_
          exact h.elim
      | 2, eq158 =>
        refine ⟨_, 204, by rw [eq158]; rfl, by decide, ?_⟩
        replace h := h.2.2.1 (by omega)
        refine g_aloadn C dL_law_204 1 rfl ?_
        refine g_cVi (st := []) C dL_law_205 ykX9_fault wd_384 ⟨by decide, by decide⟩ [] rfl (Nat.le_of_ble_eq_true rfl) gT_x (fun hM ho => sX9_fault hD 0 M2 _ gT_x h hM ho) (fun r19 M18 h => ?_)
        refine g_aloadn C dL_law_208 2 rfl ?_
        refine g_cVi (st := [gI r19]) C dL_law_209 ykX10_fault wd_944 ⟨by decide, by decide⟩ [] rfl (Nat.le_of_ble_eq_true rfl) gT_m (fun hM ho => sX10_fault hD 228 M18 _ gT_m h hM ho) (fun r21 M20 h => ?_)
        refine g_ic_eq (t := 1008) C dL_law_212 (by decide) (fun c22 => ?_) (fun c22 => ?_)
        · replace h := h.1 c22
          exact J7 M20 h
        · replace h := h.2 c22
          refine g_iconst C dL_law_215 gRc_0 ?_
          exact h.elim
      | 3, eq158 =>
        refine ⟨_, 217, by rw [eq158]; rfl, by decide, ?_⟩
        replace h := h.2.2.2.1 (by omega)
        refine g_aloadn C dL_law_217 1 rfl ?_
        refine g_cVi (st := []) C dL_law_218 ykX9_net wd_517 ⟨by decide, by decide⟩ [] rfl (Nat.le_of_ble_eq_true rfl) gT_x (fun hM ho => sX9_net hD 0 M2 _ gT_x h hM ho) (fun r24 M23 h => ?_)
        refine g_aloadn C dL_law_221 2 rfl ?_
        refine g_cVi (st := [gI r24]) C dL_law_222 ykX10_net wd_1006 ⟨by decide, by decide⟩ [] rfl (Nat.le_of_ble_eq_true rfl) gT_m (fun hM ho => sX10_net hD 228 M23 _ gT_m h hM ho) (fun r26 M25 h => ?_)
        refine g_ic_eq (t := 1008) C dL_law_225 (by decide) (fun c27 => ?_) (fun c27 => ?_)
        · replace h := h.1 c27
          exact J7 M25 h
        · replace h := h.2 c27
          refine g_iconst C dL_law_228 gRc_0 ?_
          exact h.elim
      | 4, eq158 =>
        refine ⟨_, 230, by rw [eq158]; rfl, by decide, ?_⟩
        replace h := h.2.2.2.2.1 (by omega)
        refine g_aloadn C dL_law_230 1 rfl ?_
        refine g_aloadnB C dL_law_231 0 rfl ?_
        refine g_iloadn C dL_law_232 3 rfl ?_
        refine g_iconst C dL_law_233 gRc_1 ?_
        refine g_iadd C dL_law_234 h.1 ?_
        replace h := h.2
        refine g_scrld C hX hbl hbA hn h.1 dL_law_235 ?_
        replace h := h.2
        refine g_aloadnB C dL_law_236 0 rfl ?_
        refine g_iloadn C dL_law_237 3 rfl ?_
        refine g_iconst C dL_law_238 gRc_2 ?_
        refine g_iadd C dL_law_239 h.1 ?_
        replace h := h.2
        refine g_scrld C hX hbl hbA hn h.1 dL_law_240 ?_
        replace h := h.2
        refine g_cVi (st := []) C dL_law_241 ykX9_link wd_529 ⟨by decide, by decide⟩ [gI (gscr ys (v1 + 1)), gI (gscr ys (v1 + 2))] rfl (Nat.le_of_ble_eq_true rfl) gT_x (fun hM ho => sX9_link hD 0 (gscr ys (v1 + 1)) (gscr ys (v1 + 2)) M2 _ gT_x h hM ho) (fun r29 M28 h => ?_)
        refine g_aloadn C dL_law_244 2 rfl ?_
        refine g_aloadnB C dL_law_245 0 rfl ?_
        refine g_iloadn C dL_law_246 3 rfl ?_
        refine g_iconst C dL_law_247 gRc_1 ?_
        refine g_iadd C dL_law_248 h.1 ?_
        replace h := h.2
        refine g_scrld C hX hbl hbA hn h.1 dL_law_249 ?_
        replace h := h.2
        refine g_aloadnB C dL_law_250 0 rfl ?_
        refine g_iloadn C dL_law_251 3 rfl ?_
        refine g_iconst C dL_law_252 gRc_2 ?_
        refine g_iadd C dL_law_253 h.1 ?_
        replace h := h.2
        refine g_scrld C hX hbl hbA hn h.1 dL_law_254 ?_
        replace h := h.2
        refine g_cVi (st := [gI r29]) C dL_law_255 ykX10_link wd_1010 ⟨by decide, by decide⟩ [gI (gscr ys (v1 + 1)), gI (gscr ys (v1 + 2))] rfl (Nat.le_of_ble_eq_true rfl) gT_m (fun hM ho => sX10_link hD 228 (gscr ys (v1 + 1)) (gscr ys (v1 + 2)) M28 _ gT_m h hM ho) (fun r31 M30 h => ?_)
        refine g_ic_eq (t := 1008) C dL_law_258 (by decide) (fun c32 => ?_) (fun c32 => ?_)
        · replace h := h.1 c32
          exact J7 M30 h
        · replace h := h.2 c32
          refine g_iconst C dL_law_261 gRc_0 ?_
          exact h.elim
      | 5, eq158 =>
        refine ⟨_, 263, by rw [eq158]; rfl, by decide, ?_⟩
        replace h := h.2.2.2.2.2.1 (by omega)
        refine g_aloadn C dL_law_263 1 rfl ?_
        refine g_aloadnB C dL_law_264 0 rfl ?_
        refine g_iloadn C dL_law_265 3 rfl ?_
        refine g_iconst C dL_law_266 gRc_1 ?_
        refine g_iadd C dL_law_267 h.1 ?_
        replace h := h.2
        refine g_scrld C hX hbl hbA hn h.1 dL_law_268 ?_
        replace h := h.2
        refine g_cVi (st := []) C dL_law_269 ykX9_level wd_541 ⟨by decide, by decide⟩ [gI (gscr ys (v1 + 1))] rfl (Nat.le_of_ble_eq_true rfl) gT_x (fun hM ho => sX9_level hD 0 (gscr ys (v1 + 1)) M2 _ gT_x h hM ho) (fun r34 M33 h => ?_)
        refine g_aloadn C dL_law_272 2 rfl ?_
        refine g_aloadnB C dL_law_273 0 rfl ?_
        refine g_iloadn C dL_law_274 3 rfl ?_
        refine g_iconst C dL_law_275 gRc_1 ?_
        refine g_iadd C dL_law_276 h.1 ?_
        replace h := h.2
        refine g_scrld C hX hbl hbA hn h.1 dL_law_277 ?_
        replace h := h.2
        refine g_cVi (st := [gI r34]) C dL_law_278 ykX10_level wd_1018 ⟨by decide, by decide⟩ [gI (gscr ys (v1 + 1))] rfl (Nat.le_of_ble_eq_true rfl) gT_m (fun hM ho => sX10_level hD 228 (gscr ys (v1 + 1)) M33 _ gT_m h hM ho) (fun r36 M35 h => ?_)
        refine g_ic_eq (t := 1008) C dL_law_281 (by decide) (fun c37 => ?_) (fun c37 => ?_)
        · replace h := h.1 c37
          exact J7 M35 h
        · replace h := h.2 c37
          refine g_iconst C dL_law_284 gRc_0 ?_
          exact h.elim
      | 6, eq158 =>
        refine ⟨_, 286, by rw [eq158]; rfl, by decide, ?_⟩
        replace h := h.2.2.2.2.2.2.1 (by omega)
        refine g_aloadn C dL_law_286 1 rfl ?_
        refine g_aloadnB C dL_law_287 0 rfl ?_
        refine g_iloadn C dL_law_288 3 rfl ?_
        refine g_iconst C dL_law_289 gRc_1 ?_
        refine g_iadd C dL_law_290 h.1 ?_
        replace h := h.2
        refine g_scrld C hX hbl hbA hn h.1 dL_law_291 ?_
        replace h := h.2
        refine g_aloadnB C dL_law_292 0 rfl ?_
        refine g_iloadn C dL_law_293 3 rfl ?_
        refine g_iconst C dL_law_294 gRc_2 ?_
        refine g_iadd C dL_law_295 h.1 ?_
        replace h := h.2
        refine g_scrld C hX hbl hbA hn h.1 dL_law_296 ?_
        replace h := h.2
        refine g_aloadnB C dL_law_297 0 rfl ?_
        refine g_iloadn C dL_law_298 3 rfl ?_
        refine g_iconst C dL_law_299 gRc_3 ?_
        refine g_iadd C dL_law_300 h.1 ?_
        replace h := h.2
        refine g_scrld C hX hbl hbA hn h.1 dL_law_301 ?_
        replace h := h.2
        refine g_cVi (st := []) C dL_law_302 ykX9_join wd_550 ⟨by decide, by decide⟩ [gI (gscr ys (v1 + 1)), gI (gscr ys (v1 + 2)), gI (gscr ys (v1 + 3))] rfl (Nat.le_of_ble_eq_true rfl) gT_x (fun hM ho => sX9_join hD 0 (gscr ys (v1 + 1)) (gscr ys (v1 + 2)) (gscr ys (v1 + 3)) M2 _ gT_x h hM ho) (fun r39 M38 h => ?_)
        refine g_aloadn C dL_law_305 2 rfl ?_
        refine g_aloadnB C dL_law_306 0 rfl ?_
        refine g_iloadn C dL_law_307 3 rfl ?_
        refine g_iconst C dL_law_308 gRc_1 ?_
        refine g_iadd C dL_law_309 h.1 ?_
        replace h := h.2
        refine g_scrld C hX hbl hbA hn h.1 dL_law_310 ?_
        replace h := h.2
        refine g_aloadnB C dL_law_311 0 rfl ?_
        refine g_iloadn C dL_law_312 3 rfl ?_
        refine g_iconst C dL_law_313 gRc_2 ?_
        refine g_iadd C dL_law_314 h.1 ?_
        replace h := h.2
        refine g_scrld C hX hbl hbA hn h.1 dL_law_315 ?_
        replace h := h.2
        refine g_aloadnB C dL_law_316 0 rfl ?_
        refine g_iloadn C dL_law_317 3 rfl ?_
        refine g_iconst C dL_law_318 gRc_3 ?_
        refine g_iadd C dL_law_319 h.1 ?_
        replace h := h.2
        refine g_scrld C hX hbl hbA hn h.1 dL_law_320 ?_
        replace h := h.2
        refine g_cVi (st := [gI r39]) C dL_law_321 ykX10_join wd_1092 ⟨by decide, by decide⟩ [gI (gscr ys (v1 + 1)), gI (gscr ys (v1 + 2)), gI (gscr ys (v1 + 3))] rfl (Nat.le_of_ble_eq_true rfl) gT_m (fun hM ho => sX10_join hD 228 (gscr ys (v1 + 1)) (gscr ys (v1 + 2)) (gscr ys (v1 + 3)) M38 _ gT_m h hM ho) (fun r41 M40 h => ?_)
        refine g_ic_eq (t := 1008) C dL_law_324 (by decide) (fun c42 => ?_) (fun c42 => ?_)
        · replace h := h.1 c42
          exact J7 M40 h
        · replace h := h.2 c42
          refine g_iconst C dL_law_327 gRc_0 ?_
          exact h.elim
      | 7, eq158 =>
        refine ⟨_, 329, by rw [eq158]; rfl, by decide, ?_⟩
        replace h := h.2.2.2.2.2.2.2.1 (by omega)
        refine g_aloadn C dL_law_329 1 rfl ?_
        refine g_aloadnB C dL_law_330 0 rfl ?_
        refine g_iloadn C dL_law_331 3 rfl ?_
        refine g_iconst C dL_law_332 gRc_1 ?_
        refine g_iadd C dL_law_333 h.1 ?_
        replace h := h.2
        refine g_scrld C hX hbl hbA hn h.1 dL_law_334 ?_
        replace h := h.2
        refine g_aloadnB C dL_law_335 0 rfl ?_
        refine g_iloadn C dL_law_336 3 rfl ?_
        refine g_iconst C dL_law_337 gRc_2 ?_
        refine g_iadd C dL_law_338 h.1 ?_
        replace h := h.2
        refine g_scrld C hX hbl hbA hn h.1 dL_law_339 ?_
        replace h := h.2
        refine g_cVi (st := []) C dL_law_340 ykX9_cut wd_568 ⟨by decide, by decide⟩ [gI (gscr ys (v1 + 1)), gI (gscr ys (v1 + 2))] rfl (Nat.le_of_ble_eq_true rfl) gT_x (fun hM ho => sX9_cut hD 0 (gscr ys (v1 + 1)) (gscr ys (v1 + 2)) M2 _ gT_x h hM ho) (fun r44 M43 h => ?_)
        refine g_aloadn C dL_law_343 2 rfl ?_
        refine g_aloadnB C dL_law_344 0 rfl ?_
        refine g_iloadn C dL_law_345 3 rfl ?_
        refine g_iconst C dL_law_346 gRc_1 ?_
        refine g_iadd C dL_law_347 h.1 ?_
        replace h := h.2
        refine g_scrld C hX hbl hbA hn h.1 dL_law_348 ?_
        replace h := h.2
        refine g_aloadnB C dL_law_349 0 rfl ?_
        refine g_iloadn C dL_law_350 3 rfl ?_
        refine g_iconst C dL_law_351 gRc_2 ?_
        refine g_iadd C dL_law_352 h.1 ?_
        replace h := h.2
        refine g_scrld C hX hbl hbA hn h.1 dL_law_353 ?_
        replace h := h.2
        refine g_cVi (st := [gI r44]) C dL_law_354 ykX10_cut wd_1105 ⟨by decide, by decide⟩ [gI (gscr ys (v1 + 1)), gI (gscr ys (v1 + 2))] rfl (Nat.le_of_ble_eq_true rfl) gT_m (fun hM ho => sX10_cut hD 228 (gscr ys (v1 + 1)) (gscr ys (v1 + 2)) M43 _ gT_m h hM ho) (fun r46 M45 h => ?_)
        refine g_ic_eq (t := 1008) C dL_law_357 (by decide) (fun c47 => ?_) (fun c47 => ?_)
        · replace h := h.1 c47
          exact J7 M45 h
        · replace h := h.2 c47
          refine g_iconst C dL_law_360 gRc_0 ?_
          exact h.elim
      | 8, eq158 =>
        refine ⟨_, 362, by rw [eq158]; rfl, by decide, ?_⟩
        replace h := h.2.2.2.2.2.2.2.2.1 (by omega)
        refine g_aloadn C dL_law_362 1 rfl ?_
        refine g_aloadnB C dL_law_363 0 rfl ?_
        refine g_iloadn C dL_law_364 3 rfl ?_
        refine g_iconst C dL_law_365 gRc_1 ?_
        refine g_iadd C dL_law_366 h.1 ?_
        replace h := h.2
        refine g_scrld C hX hbl hbA hn h.1 dL_law_367 ?_
        replace h := h.2
        refine g_aloadnB C dL_law_368 0 rfl ?_
        refine g_iloadn C dL_law_369 3 rfl ?_
        refine g_iconst C dL_law_370 gRc_2 ?_
        refine g_iadd C dL_law_371 h.1 ?_
        replace h := h.2
        refine g_scrld C hX hbl hbA hn h.1 dL_law_372 ?_
        replace h := h.2
        refine g_cVi (st := []) C dL_law_373 ykX9_lift wd_572 ⟨by decide, by decide⟩ [gI (gscr ys (v1 + 1)), gI (gscr ys (v1 + 2))] rfl (Nat.le_of_ble_eq_true rfl) gT_x (fun hM ho => sX9_lift hD 0 (gscr ys (v1 + 1)) (gscr ys (v1 + 2)) M2 _ gT_x h hM ho) (fun r49 M48 h => ?_)
        refine g_aloadn C dL_law_376 2 rfl ?_
        refine g_aloadnB C dL_law_377 0 rfl ?_
        refine g_iloadn C dL_law_378 3 rfl ?_
        refine g_iconst C dL_law_379 gRc_1 ?_
        refine g_iadd C dL_law_380 h.1 ?_
        replace h := h.2
        refine g_scrld C hX hbl hbA hn h.1 dL_law_381 ?_
        replace h := h.2
        refine g_aloadnB C dL_law_382 0 rfl ?_
        refine g_iloadn C dL_law_383 3 rfl ?_
        refine g_iconst C dL_law_384 gRc_2 ?_
        refine g_iadd C dL_law_385 h.1 ?_
        replace h := h.2
        refine g_scrld C hX hbl hbA hn h.1 dL_law_386 ?_
        replace h := h.2
        refine g_cVi (st := [gI r49]) C dL_law_387 ykX10_lift wd_1109 ⟨by decide, by decide⟩ [gI (gscr ys (v1 + 1)), gI (gscr ys (v1 + 2))] rfl (Nat.le_of_ble_eq_true rfl) gT_m (fun hM ho => sX10_lift hD 228 (gscr ys (v1 + 1)) (gscr ys (v1 + 2)) M48 _ gT_m h hM ho) (fun r51 M50 h => ?_)
        refine g_ic_eq (t := 1008) C dL_law_390 (by decide) (fun c52 => ?_) (fun c52 => ?_)
        · replace h := h.1 c52
          exact J7 M50 h
        · replace h := h.2 c52
          refine g_iconst C dL_law_393 gRc_0 ?_
          exact h.elim
      | 9, eq158 =>
        refine ⟨_, 395, by rw [eq158]; rfl, by decide, ?_⟩
        replace h := h.2.2.2.2.2.2.2.2.2.1 (by omega)
        refine g_aloadn C dL_law_395 1 rfl ?_
        refine g_aloadnB C dL_law_396 0 rfl ?_
        refine g_iloadn C dL_law_397 3 rfl ?_
        refine g_iconst C dL_law_398 gRc_1 ?_
        refine g_iadd C dL_law_399 h.1 ?_
        replace h := h.2
        refine g_scrld C hX hbl hbA hn h.1 dL_law_400 ?_
        replace h := h.2
        refine g_cVi (st := []) C dL_law_401 ykX9_draw wd_577 ⟨by decide, by decide⟩ [gI (gscr ys (v1 + 1))] rfl (Nat.le_of_ble_eq_true rfl) gT_x (fun hM ho => sX9_draw hD 0 (gscr ys (v1 + 1)) M2 _ gT_x h hM ho) (fun r54 M53 h => ?_)
        refine g_aloadn C dL_law_404 2 rfl ?_
        refine g_aloadnB C dL_law_405 0 rfl ?_
        refine g_iloadn C dL_law_406 3 rfl ?_
        refine g_iconst C dL_law_407 gRc_1 ?_
        refine g_iadd C dL_law_408 h.1 ?_
        replace h := h.2
        refine g_scrld C hX hbl hbA hn h.1 dL_law_409 ?_
        replace h := h.2
        refine g_cVi (st := [gI r54]) C dL_law_410 ykX10_draw wd_1113 ⟨by decide, by decide⟩ [gI (gscr ys (v1 + 1))] rfl (Nat.le_of_ble_eq_true rfl) gT_m (fun hM ho => sX10_draw hD 228 (gscr ys (v1 + 1)) M53 _ gT_m h hM ho) (fun r56 M55 h => ?_)
        refine g_ic_eq (t := 1008) C dL_law_413 (by decide) (fun c57 => ?_) (fun c57 => ?_)
        · replace h := h.1 c57
          exact J7 M55 h
        · replace h := h.2 c57
          refine g_iconst C dL_law_416 gRc_0 ?_
          exact h.elim
      | 10, eq158 =>
        refine ⟨_, 418, by rw [eq158]; rfl, by decide, ?_⟩
        replace h := h.2.2.2.2.2.2.2.2.2.2.1 (by omega)
        refine g_aloadn C dL_law_418 1 rfl ?_
        refine g_aloadnB C dL_law_419 0 rfl ?_
        refine g_iloadn C dL_law_420 3 rfl ?_
        refine g_iconst C dL_law_421 gRc_1 ?_
        refine g_iadd C dL_law_422 h.1 ?_
        replace h := h.2
        refine g_scrld C hX hbl hbA hn h.1 dL_law_423 ?_
        replace h := h.2
        refine g_cVi (st := []) C dL_law_424 ykX9_thin wd_590 ⟨by decide, by decide⟩ [gI (gscr ys (v1 + 1))] rfl (Nat.le_of_ble_eq_true rfl) gT_x (fun hM ho => sX9_thin hD 0 (gscr ys (v1 + 1)) M2 _ gT_x h hM ho) (fun r59 M58 h => ?_)
        refine g_aloadn C dL_law_427 2 rfl ?_
        refine g_aloadnB C dL_law_428 0 rfl ?_
        refine g_iloadn C dL_law_429 3 rfl ?_
        refine g_iconst C dL_law_430 gRc_1 ?_
        refine g_iadd C dL_law_431 h.1 ?_
        replace h := h.2
        refine g_scrld C hX hbl hbA hn h.1 dL_law_432 ?_
        replace h := h.2
        refine g_cVi (st := [gI r59]) C dL_law_433 ykX10_thin wd_1118 ⟨by decide, by decide⟩ [gI (gscr ys (v1 + 1))] rfl (Nat.le_of_ble_eq_true rfl) gT_m (fun hM ho => sX10_thin hD 228 (gscr ys (v1 + 1)) M58 _ gT_m h hM ho) (fun r61 M60 h => ?_)
        refine g_ic_eq (t := 1008) C dL_law_436 (by decide) (fun c62 => ?_) (fun c62 => ?_)
        · replace h := h.1 c62
          exact J7 M60 h
        · replace h := h.2 c62
          refine g_iconst C dL_law_439 gRc_0 ?_
          exact h.elim
      | 11, eq158 =>
        refine ⟨_, 441, by rw [eq158]; rfl, by decide, ?_⟩
        replace h := h.2.2.2.2.2.2.2.2.2.2.2.1 (by omega)
        refine g_aloadn C dL_law_441 1 rfl ?_
        refine g_cVi (st := []) C dL_law_442 ykX9_undo wd_640 ⟨by decide, by decide⟩ [] rfl (Nat.le_of_ble_eq_true rfl) gT_x (fun hM ho => sX9_undo hD 0 M2 _ gT_x h hM ho) (fun r64 M63 h => ?_)
        refine g_aloadn C dL_law_445 2 rfl ?_
        refine g_cVi (st := [gI r64]) C dL_law_446 ykX10_undo wd_1122 ⟨by decide, by decide⟩ [] rfl (Nat.le_of_ble_eq_true rfl) gT_m (fun hM ho => sX10_undo hD 228 M63 _ gT_m h hM ho) (fun r66 M65 h => ?_)
        refine g_ic_eq (t := 1008) C dL_law_449 (by decide) (fun c67 => ?_) (fun c67 => ?_)
        · replace h := h.1 c67
          exact J7 M65 h
        · replace h := h.2 c67
          refine g_iconst C dL_law_452 gRc_0 ?_
          exact h.elim
      | 12, eq158 =>
        refine ⟨_, 454, by rw [eq158]; rfl, by decide, ?_⟩
        replace h := h.2.2.2.2.2.2.2.2.2.2.2.2.1 (by omega)
        refine g_aloadn C dL_law_454 1 rfl ?_
        refine g_aloadnB C dL_law_455 0 rfl ?_
        refine g_iloadn C dL_law_456 3 rfl ?_
        refine g_iconst C dL_law_457 gRc_1 ?_
        refine g_iadd C dL_law_458 h.1 ?_
        replace h := h.2
        refine g_scrld C hX hbl hbA hn h.1 dL_law_459 ?_
        replace h := h.2
        refine g_cVi (st := []) C dL_law_460 ykX9_keep wd_648 ⟨by decide, by decide⟩ [gI (gscr ys (v1 + 1))] rfl (Nat.le_of_ble_eq_true rfl) gT_x (fun hM ho => sX9_keep hD 0 (gscr ys (v1 + 1)) M2 _ gT_x h hM ho) (fun r69 M68 h => ?_)
        refine g_aloadn C dL_law_463 2 rfl ?_
        refine g_aloadnB C dL_law_464 0 rfl ?_
        refine g_iloadn C dL_law_465 3 rfl ?_
        refine g_iconst C dL_law_466 gRc_1 ?_
        refine g_iadd C dL_law_467 h.1 ?_
        replace h := h.2
        refine g_scrld C hX hbl hbA hn h.1 dL_law_468 ?_
        replace h := h.2
        refine g_cVi (st := [gI r69]) C dL_law_469 ykX10_keep wd_1126 ⟨by decide, by decide⟩ [gI (gscr ys (v1 + 1))] rfl (Nat.le_of_ble_eq_true rfl) gT_m (fun hM ho => sX10_keep hD 228 (gscr ys (v1 + 1)) M68 _ gT_m h hM ho) (fun r71 M70 h => ?_)
        refine g_ic_eq (t := 1008) C dL_law_472 (by decide) (fun c72 => ?_) (fun c72 => ?_)
        · replace h := h.1 c72
          exact J7 M70 h
        · replace h := h.2 c72
          refine g_iconst C dL_law_475 gRc_0 ?_
          exact h.elim
      | 13, eq158 =>
        refine ⟨_, 477, by rw [eq158]; rfl, by decide, ?_⟩
        replace h := h.2.2.2.2.2.2.2.2.2.2.2.2.2.1 (by omega)
        refine g_aloadn C dL_law_477 1 rfl ?_
        refine g_aloadnB C dL_law_478 0 rfl ?_
        refine g_iloadn C dL_law_479 3 rfl ?_
        refine g_iconst C dL_law_480 gRc_1 ?_
        refine g_iadd C dL_law_481 h.1 ?_
        replace h := h.2
        refine g_scrld C hX hbl hbA hn h.1 dL_law_482 ?_
        replace h := h.2
        refine g_cVi (st := []) C dL_law_483 ykX9_back wd_664 ⟨by decide, by decide⟩ [gI (gscr ys (v1 + 1))] rfl (Nat.le_of_ble_eq_true rfl) gT_x (fun hM ho => sX9_back hD 0 (gscr ys (v1 + 1)) M2 _ gT_x h hM ho) (fun r74 M73 h => ?_)
        refine g_aloadn C dL_law_486 2 rfl ?_
        refine g_aloadnB C dL_law_487 0 rfl ?_
        refine g_iloadn C dL_law_488 3 rfl ?_
        refine g_iconst C dL_law_489 gRc_1 ?_
        refine g_iadd C dL_law_490 h.1 ?_
        replace h := h.2
        refine g_scrld C hX hbl hbA hn h.1 dL_law_491 ?_
        replace h := h.2
        refine g_cVi (st := [gI r74]) C dL_law_492 ykX10_back wd_1138 ⟨by decide, by decide⟩ [gI (gscr ys (v1 + 1))] rfl (Nat.le_of_ble_eq_true rfl) gT_m (fun hM ho => sX10_back hD 228 (gscr ys (v1 + 1)) M73 _ gT_m h hM ho) (fun r76 M75 h => ?_)
        refine g_ic_eq (t := 1008) C dL_law_495 (by decide) (fun c77 => ?_) (fun c77 => ?_)
        · replace h := h.1 c77
          exact J7 M75 h
        · replace h := h.2 c77
          refine g_iconst C dL_law_498 gRc_0 ?_
          exact h.elim
      | 14, eq158 =>
        refine ⟨_, 500, by rw [eq158]; rfl, by decide, ?_⟩
        replace h := h.2.2.2.2.2.2.2.2.2.2.2.2.2.2.1 (by omega)
        refine g_aloadn C dL_law_500 1 rfl ?_
        refine g_aloadnB C dL_law_501 0 rfl ?_
        refine g_iloadn C dL_law_502 3 rfl ?_
        refine g_iconst C dL_law_503 gRc_1 ?_
        refine g_iadd C dL_law_504 h.1 ?_
        replace h := h.2
        refine g_scrld C hX hbl hbA hn h.1 dL_law_505 ?_
        replace h := h.2
        refine g_aloadnB C dL_law_506 0 rfl ?_
        refine g_iloadn C dL_law_507 3 rfl ?_
        refine g_iconst C dL_law_508 gRc_2 ?_
        refine g_iadd C dL_law_509 h.1 ?_
        replace h := h.2
        refine g_scrld C hX hbl hbA hn h.1 dL_law_510 ?_
        replace h := h.2
        refine g_cVi (st := []) C dL_law_511 ykX9_distance wd_668 ⟨by decide, by decide⟩ [gI (gscr ys (v1 + 1)), gI (gscr ys (v1 + 2))] rfl (Nat.le_of_ble_eq_true rfl) gT_x (fun hM ho => sX9_distance hD 0 (gscr ys (v1 + 1)) (gscr ys (v1 + 2)) M2 _ gT_x h hM ho) (fun r79 M78 h => ?_)
        refine g_aloadn C dL_law_514 2 rfl ?_
        refine g_aloadnB C dL_law_515 0 rfl ?_
        refine g_iloadn C dL_law_516 3 rfl ?_
        refine g_iconst C dL_law_517 gRc_1 ?_
        refine g_iadd C dL_law_518 h.1 ?_
        replace h := h.2
        refine g_scrld C hX hbl hbA hn h.1 dL_law_519 ?_
        replace h := h.2
        refine g_aloadnB C dL_law_520 0 rfl ?_
        refine g_iloadn C dL_law_521 3 rfl ?_
        refine g_iconst C dL_law_522 gRc_2 ?_
        refine g_iadd C dL_law_523 h.1 ?_
        replace h := h.2
        refine g_scrld C hX hbl hbA hn h.1 dL_law_524 ?_
        replace h := h.2
        refine g_cVi (st := [gI r79]) C dL_law_525 ykX10_distance wd_1026 ⟨by decide, by decide⟩ [gI (gscr ys (v1 + 1)), gI (gscr ys (v1 + 2))] rfl (Nat.le_of_ble_eq_true rfl) gT_m (fun hM ho => sX10_distance hD 228 (gscr ys (v1 + 1)) (gscr ys (v1 + 2)) M78 _ gT_m h hM ho) (fun r81 M80 h => ?_)
        refine g_ic_eq (t := 1008) C dL_law_528 (by decide) (fun c82 => ?_) (fun c82 => ?_)
        · replace h := h.1 c82
          exact J7 M80 h
        · replace h := h.2 c82
          refine g_iconst C dL_law_531 gRc_0 ?_
          exact h.elim
      | 15, eq158 =>
        refine ⟨_, 533, by rw [eq158]; rfl, by decide, ?_⟩
        replace h := h.2.2.2.2.2.2.2.2.2.2.2.2.2.2.2.1 (by omega)
        refine g_aloadn C dL_law_533 1 rfl ?_
        refine g_aloadnB C dL_law_534 0 rfl ?_
        refine g_iloadn C dL_law_535 3 rfl ?_
        refine g_iconst C dL_law_536 gRc_1 ?_
        refine g_iadd C dL_law_537 h.1 ?_
        replace h := h.2
        refine g_scrld C hX hbl hbA hn h.1 dL_law_538 ?_
        replace h := h.2
        refine g_aloadnB C dL_law_539 0 rfl ?_
        refine g_iloadn C dL_law_540 3 rfl ?_
        refine g_iconst C dL_law_541 gRc_2 ?_
        refine g_iadd C dL_law_542 h.1 ?_
        replace h := h.2
        refine g_scrld C hX hbl hbA hn h.1 dL_law_543 ?_
        replace h := h.2
        refine g_aloadnB C dL_law_544 0 rfl ?_
        refine g_iloadn C dL_law_545 3 rfl ?_
        refine g_iconst C dL_law_546 gRc_3 ?_
        refine g_iadd C dL_law_547 h.1 ?_
        replace h := h.2
        refine g_scrld C hX hbl hbA hn h.1 dL_law_548 ?_
        replace h := h.2
        refine g_cVi (st := []) C dL_law_549 ykX9_nearest wd_680 ⟨by decide, by decide⟩ [gI (gscr ys (v1 + 1)), gI (gscr ys (v1 + 2)), gI (gscr ys (v1 + 3))] rfl (Nat.le_of_ble_eq_true rfl) gT_x (fun hM ho => sX9_nearest hD 0 (gscr ys (v1 + 1)) (gscr ys (v1 + 2)) (gscr ys (v1 + 3)) M2 _ gT_x h hM ho) (fun r84 M83 h => ?_)
        refine g_aloadn C dL_law_552 2 rfl ?_
        refine g_aloadnB C dL_law_553 0 rfl ?_
        refine g_iloadn C dL_law_554 3 rfl ?_
        refine g_iconst C dL_law_555 gRc_1 ?_
        refine g_iadd C dL_law_556 h.1 ?_
        replace h := h.2
        refine g_scrld C hX hbl hbA hn h.1 dL_law_557 ?_
        replace h := h.2
        refine g_aloadnB C dL_law_558 0 rfl ?_
        refine g_iloadn C dL_law_559 3 rfl ?_
        refine g_iconst C dL_law_560 gRc_2 ?_
        refine g_iadd C dL_law_561 h.1 ?_
        replace h := h.2
        refine g_scrld C hX hbl hbA hn h.1 dL_law_562 ?_
        replace h := h.2
        refine g_aloadnB C dL_law_563 0 rfl ?_
        refine g_iloadn C dL_law_564 3 rfl ?_
        refine g_iconst C dL_law_565 gRc_3 ?_
        refine g_iadd C dL_law_566 h.1 ?_
        replace h := h.2
        refine g_scrld C hX hbl hbA hn h.1 dL_law_567 ?_
        replace h := h.2
        refine g_cVi (st := [gI r84]) C dL_law_568 ykX10_nearest wd_1039 ⟨by decide, by decide⟩ [gI (gscr ys (v1 + 1)), gI (gscr ys (v1 + 2)), gI (gscr ys (v1 + 3))] rfl (Nat.le_of_ble_eq_true rfl) gT_m (fun hM ho => sX10_nearest hD 228 (gscr ys (v1 + 1)) (gscr ys (v1 + 2)) (gscr ys (v1 + 3)) M83 _ gT_m h hM ho) (fun r86 M85 h => ?_)
        refine g_ic_eq (t := 1008) C dL_law_571 (by decide) (fun c87 => ?_) (fun c87 => ?_)
        · replace h := h.1 c87
          exact J7 M85 h
        · replace h := h.2 c87
          refine g_iconst C dL_law_574 gRc_0 ?_
          exact h.elim
      | 16, eq158 =>
        refine ⟨_, 576, by rw [eq158]; rfl, by decide, ?_⟩
        replace h := h.2.2.2.2.2.2.2.2.2.2.2.2.2.2.2.2.1 (by omega)
        refine g_aloadn C dL_law_576 1 rfl ?_
        refine g_aloadnB C dL_law_577 0 rfl ?_
        refine g_iloadn C dL_law_578 3 rfl ?_
        refine g_iconst C dL_law_579 gRc_1 ?_
        refine g_iadd C dL_law_580 h.1 ?_
        replace h := h.2
        refine g_scrld C hX hbl hbA hn h.1 dL_law_581 ?_
        replace h := h.2
        refine g_aloadnB C dL_law_582 0 rfl ?_
        refine g_iloadn C dL_law_583 3 rfl ?_
        refine g_iconst C dL_law_584 gRc_2 ?_
        refine g_iadd C dL_law_585 h.1 ?_
        replace h := h.2
        refine g_scrld C hX hbl hbA hn h.1 dL_law_586 ?_
        replace h := h.2
        refine g_cVi (st := []) C dL_law_587 ykX9_bunch wd_711 ⟨by decide, by decide⟩ [gI (gscr ys (v1 + 1)), gI (gscr ys (v1 + 2))] rfl (Nat.le_of_ble_eq_true rfl) gT_x (fun hM ho => sX9_bunch hD 0 (gscr ys (v1 + 1)) (gscr ys (v1 + 2)) M2 _ gT_x h hM ho) (fun r89 M88 h => ?_)
        refine g_aloadn C dL_law_590 2 rfl ?_
        refine g_aloadnB C dL_law_591 0 rfl ?_
        refine g_iloadn C dL_law_592 3 rfl ?_
        refine g_iconst C dL_law_593 gRc_1 ?_
        refine g_iadd C dL_law_594 h.1 ?_
        replace h := h.2
        refine g_scrld C hX hbl hbA hn h.1 dL_law_595 ?_
        replace h := h.2
        refine g_aloadnB C dL_law_596 0 rfl ?_
        refine g_iloadn C dL_law_597 3 rfl ?_
        refine g_iconst C dL_law_598 gRc_2 ?_
        refine g_iadd C dL_law_599 h.1 ?_
        replace h := h.2
        refine g_scrld C hX hbl hbA hn h.1 dL_law_600 ?_
        replace h := h.2
        refine g_cVi (st := [gI r89]) C dL_law_601 ykX10_bunch wd_1048 ⟨by decide, by decide⟩ [gI (gscr ys (v1 + 1)), gI (gscr ys (v1 + 2))] rfl (Nat.le_of_ble_eq_true rfl) gT_m (fun hM ho => sX10_bunch hD 228 (gscr ys (v1 + 1)) (gscr ys (v1 + 2)) M88 _ gT_m h hM ho) (fun r91 M90 h => ?_)
        refine g_ic_eq (t := 1008) C dL_law_604 (by decide) (fun c92 => ?_) (fun c92 => ?_)
        · replace h := h.1 c92
          exact J7 M90 h
        · replace h := h.2 c92
          refine g_iconst C dL_law_607 gRc_0 ?_
          exact h.elim
      | 17, eq158 =>
        refine ⟨_, 609, by rw [eq158]; rfl, by decide, ?_⟩
        replace h := h.2.2.2.2.2.2.2.2.2.2.2.2.2.2.2.2.2.1 (by omega)
        refine g_aloadn C dL_law_609 1 rfl ?_
        refine g_aloadnB C dL_law_610 0 rfl ?_
        refine g_iloadn C dL_law_611 3 rfl ?_
        refine g_iconst C dL_law_612 gRc_1 ?_
        refine g_iadd C dL_law_613 h.1 ?_
        replace h := h.2
        refine g_scrld C hX hbl hbA hn h.1 dL_law_614 ?_
        replace h := h.2
        refine g_aloadnB C dL_law_615 0 rfl ?_
        refine g_iloadn C dL_law_616 3 rfl ?_
        refine g_iconst C dL_law_617 gRc_2 ?_
        refine g_iadd C dL_law_618 h.1 ?_
        replace h := h.2
        refine g_scrld C hX hbl hbA hn h.1 dL_law_619 ?_
        replace h := h.2
        refine g_cVi (st := []) C dL_law_620 ykX9_next wd_727 ⟨by decide, by decide⟩ [gI (gscr ys (v1 + 1)), gI (gscr ys (v1 + 2))] rfl (Nat.le_of_ble_eq_true rfl) gT_x (fun hM ho => sX9_next hD 0 (gscr ys (v1 + 1)) (gscr ys (v1 + 2)) M2 _ gT_x h hM ho) (fun r94 M93 h => ?_)
        refine g_aloadn C dL_law_623 2 rfl ?_
        refine g_aloadnB C dL_law_624 0 rfl ?_
        refine g_iloadn C dL_law_625 3 rfl ?_
        refine g_iconst C dL_law_626 gRc_1 ?_
        refine g_iadd C dL_law_627 h.1 ?_
        replace h := h.2
        refine g_scrld C hX hbl hbA hn h.1 dL_law_628 ?_
        replace h := h.2
        refine g_aloadnB C dL_law_629 0 rfl ?_
        refine g_iloadn C dL_law_630 3 rfl ?_
        refine g_iconst C dL_law_631 gRc_2 ?_
        refine g_iadd C dL_law_632 h.1 ?_
        replace h := h.2
        refine g_scrld C hX hbl hbA hn h.1 dL_law_633 ?_
        replace h := h.2
        refine g_cVi (st := [gI r94]) C dL_law_634 ykX10_next wd_1060 ⟨by decide, by decide⟩ [gI (gscr ys (v1 + 1)), gI (gscr ys (v1 + 2))] rfl (Nat.le_of_ble_eq_true rfl) gT_m (fun hM ho => sX10_next hD 228 (gscr ys (v1 + 1)) (gscr ys (v1 + 2)) M93 _ gT_m h hM ho) (fun r96 M95 h => ?_)
        refine g_ic_eq (t := 1008) C dL_law_637 (by decide) (fun c97 => ?_) (fun c97 => ?_)
        · replace h := h.1 c97
          exact J7 M95 h
        · replace h := h.2 c97
          refine g_iconst C dL_law_640 gRc_0 ?_
          exact h.elim
      | 18, eq158 =>
        refine ⟨_, 642, by rw [eq158]; rfl, by decide, ?_⟩
        replace h := h.2.2.2.2.2.2.2.2.2.2.2.2.2.2.2.2.2.2.1 (by omega)
        refine g_aloadn C dL_law_642 1 rfl ?_
        refine g_aloadnB C dL_law_643 0 rfl ?_
        refine g_iloadn C dL_law_644 3 rfl ?_
        refine g_iconst C dL_law_645 gRc_1 ?_
        refine g_iadd C dL_law_646 h.1 ?_
        replace h := h.2
        refine g_scrld C hX hbl hbA hn h.1 dL_law_647 ?_
        replace h := h.2
        refine g_aloadnB C dL_law_648 0 rfl ?_
        refine g_iloadn C dL_law_649 3 rfl ?_
        refine g_iconst C dL_law_650 gRc_2 ?_
        refine g_iadd C dL_law_651 h.1 ?_
        replace h := h.2
        refine g_scrld C hX hbl hbA hn h.1 dL_law_652 ?_
        replace h := h.2
        refine g_cVi (st := []) C dL_law_653 ykX9_thinned wd_735 ⟨by decide, by decide⟩ [gI (gscr ys (v1 + 1)), gI (gscr ys (v1 + 2))] rfl (Nat.le_of_ble_eq_true rfl) gT_x (fun hM ho => sX9_thinned hD 0 (gscr ys (v1 + 1)) (gscr ys (v1 + 2)) M2 _ gT_x h hM ho) (fun r99 M98 h => ?_)
        refine g_aloadn C dL_law_656 2 rfl ?_
        refine g_aloadnB C dL_law_657 0 rfl ?_
        refine g_iloadn C dL_law_658 3 rfl ?_
        refine g_iconst C dL_law_659 gRc_1 ?_
        refine g_iadd C dL_law_660 h.1 ?_
        replace h := h.2
        refine g_scrld C hX hbl hbA hn h.1 dL_law_661 ?_
        replace h := h.2
        refine g_aloadnB C dL_law_662 0 rfl ?_
        refine g_iloadn C dL_law_663 3 rfl ?_
        refine g_iconst C dL_law_664 gRc_2 ?_
        refine g_iadd C dL_law_665 h.1 ?_
        replace h := h.2
        refine g_scrld C hX hbl hbA hn h.1 dL_law_666 ?_
        replace h := h.2
        refine g_cVi (st := [gI r99]) C dL_law_667 ykX10_thinned wd_1072 ⟨by decide, by decide⟩ [gI (gscr ys (v1 + 1)), gI (gscr ys (v1 + 2))] rfl (Nat.le_of_ble_eq_true rfl) gT_m (fun hM ho => sX10_thinned hD 228 (gscr ys (v1 + 1)) (gscr ys (v1 + 2)) M98 _ gT_m h hM ho) (fun r101 M100 h => ?_)
        refine g_ic_eq (t := 1008) C dL_law_670 (by decide) (fun c102 => ?_) (fun c102 => ?_)
        · replace h := h.1 c102
          exact J7 M100 h
        · replace h := h.2 c102
          refine g_iconst C dL_law_673 gRc_0 ?_
          exact h.elim
      | 19, eq158 =>
        refine ⟨_, 675, by rw [eq158]; rfl, by decide, ?_⟩
        replace h := h.2.2.2.2.2.2.2.2.2.2.2.2.2.2.2.2.2.2.2.1 (by omega)
        refine g_aloadn C dL_law_675 1 rfl ?_
        refine g_aloadnB C dL_law_676 0 rfl ?_
        refine g_iloadn C dL_law_677 3 rfl ?_
        refine g_iconst C dL_law_678 gRc_1 ?_
        refine g_iadd C dL_law_679 h.1 ?_
        replace h := h.2
        refine g_scrld C hX hbl hbA hn h.1 dL_law_680 ?_
        replace h := h.2
        refine g_aloadnB C dL_law_681 0 rfl ?_
        refine g_iloadn C dL_law_682 3 rfl ?_
        refine g_iconst C dL_law_683 gRc_2 ?_
        refine g_iadd C dL_law_684 h.1 ?_
        replace h := h.2
        refine g_scrld C hX hbl hbA hn h.1 dL_law_685 ?_
        replace h := h.2
        refine g_cVi (st := []) C dL_law_686 ykX9_worst wd_739 ⟨by decide, by decide⟩ [gI (gscr ys (v1 + 1)), gI (gscr ys (v1 + 2))] rfl (Nat.le_of_ble_eq_true rfl) gT_x (fun hM ho => sX9_worst hD 0 (gscr ys (v1 + 1)) (gscr ys (v1 + 2)) M2 _ gT_x h hM ho) (fun r104 M103 h => ?_)
        refine g_aloadn C dL_law_689 2 rfl ?_
        refine g_aloadnB C dL_law_690 0 rfl ?_
        refine g_iloadn C dL_law_691 3 rfl ?_
        refine g_iconst C dL_law_692 gRc_1 ?_
        refine g_iadd C dL_law_693 h.1 ?_
        replace h := h.2
        refine g_scrld C hX hbl hbA hn h.1 dL_law_694 ?_
        replace h := h.2
        refine g_aloadnB C dL_law_695 0 rfl ?_
        refine g_iloadn C dL_law_696 3 rfl ?_
        refine g_iconst C dL_law_697 gRc_2 ?_
        refine g_iadd C dL_law_698 h.1 ?_
        replace h := h.2
        refine g_scrld C hX hbl hbA hn h.1 dL_law_699 ?_
        replace h := h.2
        refine g_cVi (st := [gI r104]) C dL_law_700 ykX10_worst wd_1085 ⟨by decide, by decide⟩ [gI (gscr ys (v1 + 1)), gI (gscr ys (v1 + 2))] rfl (Nat.le_of_ble_eq_true rfl) gT_m (fun hM ho => sX10_worst hD 228 (gscr ys (v1 + 1)) (gscr ys (v1 + 2)) M103 _ gT_m h hM ho) (fun r106 M105 h => ?_)
        refine g_ic_eq (t := 1008) C dL_law_703 (by decide) (fun c107 => ?_) (fun c107 => ?_)
        · replace h := h.1 c107
          exact J7 M105 h
        · replace h := h.2 c107
          refine g_iconst C dL_law_706 gRc_0 ?_
          exact h.elim
      | 20, eq158 =>
        refine ⟨_, 708, by rw [eq158]; rfl, by decide, ?_⟩
        replace h := h.2.2.2.2.2.2.2.2.2.2.2.2.2.2.2.2.2.2.2.2.1 (by omega)
        refine g_aloadn C dL_law_708 1 rfl ?_
        refine g_aloadnB C dL_law_709 0 rfl ?_
        refine g_iloadn C dL_law_710 3 rfl ?_
        refine g_iconst C dL_law_711 gRc_1 ?_
        refine g_iadd C dL_law_712 h.1 ?_
        replace h := h.2
        refine g_scrld C hX hbl hbA hn h.1 dL_law_713 ?_
        replace h := h.2
        refine g_cVi (st := []) C dL_law_714 ykX9_note wd_758 ⟨by decide, by decide⟩ [gI (gscr ys (v1 + 1))] rfl (Nat.le_of_ble_eq_true rfl) gT_x (fun hM ho => sX9_note hD 0 (gscr ys (v1 + 1)) M2 _ gT_x h hM ho) (fun r109 M108 h => ?_)
        refine g_aloadn C dL_law_717 2 rfl ?_
        refine g_aloadnB C dL_law_718 0 rfl ?_
        refine g_iloadn C dL_law_719 3 rfl ?_
        refine g_iconst C dL_law_720 gRc_1 ?_
        refine g_iadd C dL_law_721 h.1 ?_
        replace h := h.2
        refine g_scrld C hX hbl hbA hn h.1 dL_law_722 ?_
        replace h := h.2
        refine g_cVi (st := [gI r109]) C dL_law_723 ykX10_note wd_1142 ⟨by decide, by decide⟩ [gI (gscr ys (v1 + 1))] rfl (Nat.le_of_ble_eq_true rfl) gT_m (fun hM ho => sX10_note hD 228 (gscr ys (v1 + 1)) M108 _ gT_m h hM ho) (fun r111 M110 h => ?_)
        refine g_ic_eq (t := 1008) C dL_law_726 (by decide) (fun c112 => ?_) (fun c112 => ?_)
        · replace h := h.1 c112
          exact J7 M110 h
        · replace h := h.2 c112
          refine g_iconst C dL_law_729 gRc_0 ?_
          exact h.elim
      | 21, eq158 =>
        refine ⟨_, 731, by rw [eq158]; rfl, by decide, ?_⟩
        replace h := h.2.2.2.2.2.2.2.2.2.2.2.2.2.2.2.2.2.2.2.2.2.1 (by omega)
        refine g_aloadn C dL_law_731 1 rfl ?_
        refine g_cVi (st := []) C dL_law_732 ykX9_mend wd_768 ⟨by decide, by decide⟩ [] rfl (Nat.le_of_ble_eq_true rfl) gT_x (fun hM ho => sX9_mend hD 0 M2 _ gT_x h hM ho) (fun r114 M113 h => ?_)
        refine g_aloadn C dL_law_735 2 rfl ?_
        refine g_cVi (st := [gI r114]) C dL_law_736 ykX10_mend wd_1160 ⟨by decide, by decide⟩ [] rfl (Nat.le_of_ble_eq_true rfl) gT_m (fun hM ho => sX10_mend hD 228 M113 _ gT_m h hM ho) (fun r116 M115 h => ?_)
        refine g_ic_eq (t := 1008) C dL_law_739 (by decide) (fun c117 => ?_) (fun c117 => ?_)
        · replace h := h.1 c117
          exact J7 M115 h
        · replace h := h.2 c117
          refine g_iconst C dL_law_742 gRc_0 ?_
          exact h.elim
      | 22, eq158 =>
        refine ⟨_, 744, by rw [eq158]; rfl, by decide, ?_⟩
        replace h := h.2.2.2.2.2.2.2.2.2.2.2.2.2.2.2.2.2.2.2.2.2.2.1 (by omega)
        refine g_aloadn C dL_law_744 1 rfl ?_
        refine g_aloadnB C dL_law_745 0 rfl ?_
        refine g_iloadn C dL_law_746 3 rfl ?_
        refine g_iconst C dL_law_747 gRc_1 ?_
        refine g_iadd C dL_law_748 h.1 ?_
        replace h := h.2
        refine g_scrld C hX hbl hbA hn h.1 dL_law_749 ?_
        replace h := h.2
        refine g_cVi (st := []) C dL_law_750 ykX9_tear wd_780 ⟨by decide, by decide⟩ [gI (gscr ys (v1 + 1))] rfl (Nat.le_of_ble_eq_true rfl) gT_x (fun hM ho => sX9_tear hD 0 (gscr ys (v1 + 1)) M2 _ gT_x h hM ho) (fun r119 M118 h => ?_)
        refine g_aloadn C dL_law_753 2 rfl ?_
        refine g_aloadnB C dL_law_754 0 rfl ?_
        refine g_iloadn C dL_law_755 3 rfl ?_
        refine g_iconst C dL_law_756 gRc_1 ?_
        refine g_iadd C dL_law_757 h.1 ?_
        replace h := h.2
        refine g_scrld C hX hbl hbA hn h.1 dL_law_758 ?_
        replace h := h.2
        refine g_cVi (st := [gI r119]) C dL_law_759 ykX10_tear wd_1168 ⟨by decide, by decide⟩ [gI (gscr ys (v1 + 1))] rfl (Nat.le_of_ble_eq_true rfl) gT_m (fun hM ho => sX10_tear hD 228 (gscr ys (v1 + 1)) M118 _ gT_m h hM ho) (fun r121 M120 h => ?_)
        refine g_ic_eq (t := 1008) C dL_law_762 (by decide) (fun c122 => ?_) (fun c122 => ?_)
        · replace h := h.1 c122
          exact J7 M120 h
        · replace h := h.2 c122
          refine g_iconst C dL_law_765 gRc_0 ?_
          exact h.elim
      | 23, eq158 =>
        refine ⟨_, 767, by rw [eq158]; rfl, by decide, ?_⟩
        replace h := h.2.2.2.2.2.2.2.2.2.2.2.2.2.2.2.2.2.2.2.2.2.2.2.1 (by omega)
        refine g_aloadn C dL_law_767 1 rfl ?_
        refine g_aloadnB C dL_law_768 0 rfl ?_
        refine g_iloadn C dL_law_769 3 rfl ?_
        refine g_iconst C dL_law_770 gRc_1 ?_
        refine g_iadd C dL_law_771 h.1 ?_
        replace h := h.2
        refine g_scrld C hX hbl hbA hn h.1 dL_law_772 ?_
        replace h := h.2
        refine g_aloadnB C dL_law_773 0 rfl ?_
        refine g_iloadn C dL_law_774 3 rfl ?_
        refine g_iconst C dL_law_775 gRc_2 ?_
        refine g_iadd C dL_law_776 h.1 ?_
        replace h := h.2
        refine g_scrld C hX hbl hbA hn h.1 dL_law_777 ?_
        replace h := h.2
        refine g_cVi (st := []) C dL_law_778 ykX9_noted wd_784 ⟨by decide, by decide⟩ [gI (gscr ys (v1 + 1)), gI (gscr ys (v1 + 2))] rfl (Nat.le_of_ble_eq_true rfl) gT_x (fun hM ho => sX9_noted hD 0 (gscr ys (v1 + 1)) (gscr ys (v1 + 2)) M2 _ gT_x h hM ho) (fun r124 M123 h => ?_)
        refine g_aloadn C dL_law_781 2 rfl ?_
        refine g_aloadnB C dL_law_782 0 rfl ?_
        refine g_iloadn C dL_law_783 3 rfl ?_
        refine g_iconst C dL_law_784 gRc_1 ?_
        refine g_iadd C dL_law_785 h.1 ?_
        replace h := h.2
        refine g_scrld C hX hbl hbA hn h.1 dL_law_786 ?_
        replace h := h.2
        refine g_aloadnB C dL_law_787 0 rfl ?_
        refine g_iloadn C dL_law_788 3 rfl ?_
        refine g_iconst C dL_law_789 gRc_2 ?_
        refine g_iadd C dL_law_790 h.1 ?_
        replace h := h.2
        refine g_scrld C hX hbl hbA hn h.1 dL_law_791 ?_
        replace h := h.2
        refine g_cVi (st := [gI r124]) C dL_law_792 ykX10_noted wd_1172 ⟨by decide, by decide⟩ [gI (gscr ys (v1 + 1)), gI (gscr ys (v1 + 2))] rfl (Nat.le_of_ble_eq_true rfl) gT_m (fun hM ho => sX10_noted hD 228 (gscr ys (v1 + 1)) (gscr ys (v1 + 2)) M123 _ gT_m h hM ho) (fun r126 M125 h => ?_)
        refine g_ic_eq (t := 1008) C dL_law_795 (by decide) (fun c127 => ?_) (fun c127 => ?_)
        · replace h := h.1 c127
          exact J7 M125 h
        · replace h := h.2 c127
          refine g_iconst C dL_law_798 gRc_0 ?_
          exact h.elim
      | 24, eq158 =>
        refine ⟨_, 800, by rw [eq158]; rfl, by decide, ?_⟩
        replace h := h.2.2.2.2.2.2.2.2.2.2.2.2.2.2.2.2.2.2.2.2.2.2.2.2.1 (by omega)
        refine g_aloadn C dL_law_800 1 rfl ?_
        refine g_aloadnB C dL_law_801 0 rfl ?_
        refine g_iloadn C dL_law_802 3 rfl ?_
        refine g_iconst C dL_law_803 gRc_1 ?_
        refine g_iadd C dL_law_804 h.1 ?_
        replace h := h.2
        refine g_scrld C hX hbl hbA hn h.1 dL_law_805 ?_
        replace h := h.2
        refine g_aloadnB C dL_law_806 0 rfl ?_
        refine g_iloadn C dL_law_807 3 rfl ?_
        refine g_iconst C dL_law_808 gRc_2 ?_
        refine g_iadd C dL_law_809 h.1 ?_
        replace h := h.2
        refine g_scrld C hX hbl hbA hn h.1 dL_law_810 ?_
        replace h := h.2
        refine g_cVi (st := []) C dL_law_811 ykX9_notedFar wd_788 ⟨by decide, by decide⟩ [gI (gscr ys (v1 + 1)), gI (gscr ys (v1 + 2))] rfl (Nat.le_of_ble_eq_true rfl) gT_x (fun hM ho => sX9_notedFar hD 0 (gscr ys (v1 + 1)) (gscr ys (v1 + 2)) M2 _ gT_x h hM ho) (fun r129 M128 h => ?_)
        refine g_aloadn C dL_law_814 2 rfl ?_
        refine g_aloadnB C dL_law_815 0 rfl ?_
        refine g_iloadn C dL_law_816 3 rfl ?_
        refine g_iconst C dL_law_817 gRc_1 ?_
        refine g_iadd C dL_law_818 h.1 ?_
        replace h := h.2
        refine g_scrld C hX hbl hbA hn h.1 dL_law_819 ?_
        replace h := h.2
        refine g_aloadnB C dL_law_820 0 rfl ?_
        refine g_iloadn C dL_law_821 3 rfl ?_
        refine g_iconst C dL_law_822 gRc_2 ?_
        refine g_iadd C dL_law_823 h.1 ?_
        replace h := h.2
        refine g_scrld C hX hbl hbA hn h.1 dL_law_824 ?_
        replace h := h.2
        refine g_cVi (st := [gI r129]) C dL_law_825 ykX10_notedFar wd_1177 ⟨by decide, by decide⟩ [gI (gscr ys (v1 + 1)), gI (gscr ys (v1 + 2))] rfl (Nat.le_of_ble_eq_true rfl) gT_m (fun hM ho => sX10_notedFar hD 228 (gscr ys (v1 + 1)) (gscr ys (v1 + 2)) M128 _ gT_m h hM ho) (fun r131 M130 h => ?_)
        refine g_ic_eq (t := 1008) C dL_law_828 (by decide) (fun c132 => ?_) (fun c132 => ?_)
        · replace h := h.1 c132
          exact J7 M130 h
        · replace h := h.2 c132
          refine g_iconst C dL_law_831 gRc_0 ?_
          exact h.elim
      | 25, eq158 =>
        refine ⟨_, 833, by rw [eq158]; rfl, by decide, ?_⟩
        replace h := h.2.2.2.2.2.2.2.2.2.2.2.2.2.2.2.2.2.2.2.2.2.2.2.2.2.1 (by omega)
        refine g_aloadn C dL_law_833 1 rfl ?_
        refine g_aloadnB C dL_law_834 0 rfl ?_
        refine g_iloadn C dL_law_835 3 rfl ?_
        refine g_iconst C dL_law_836 gRc_1 ?_
        refine g_iadd C dL_law_837 h.1 ?_
        replace h := h.2
        refine g_scrld C hX hbl hbA hn h.1 dL_law_838 ?_
        replace h := h.2
        refine g_aloadnB C dL_law_839 0 rfl ?_
        refine g_iloadn C dL_law_840 3 rfl ?_
        refine g_iconst C dL_law_841 gRc_2 ?_
        refine g_iadd C dL_law_842 h.1 ?_
        replace h := h.2
        refine g_scrld C hX hbl hbA hn h.1 dL_law_843 ?_
        replace h := h.2
        refine g_aloadnB C dL_law_844 0 rfl ?_
        refine g_iloadn C dL_law_845 3 rfl ?_
        refine g_iconst C dL_law_846 gRc_3 ?_
        refine g_iadd C dL_law_847 h.1 ?_
        replace h := h.2
        refine g_scrld C hX hbl hbA hn h.1 dL_law_848 ?_
        replace h := h.2
        refine g_cVi (st := []) C dL_law_849 ykX9_told wd_793 ⟨by decide, by decide⟩ [gI (gscr ys (v1 + 1)), gI (gscr ys (v1 + 2)), gI (gscr ys (v1 + 3))] rfl (Nat.le_of_ble_eq_true rfl) gT_x (fun hM ho => sX9_told hD 0 (gscr ys (v1 + 1)) (gscr ys (v1 + 2)) (gscr ys (v1 + 3)) M2 _ gT_x h hM ho) (fun r134 M133 h => ?_)
        refine g_aloadn C dL_law_852 2 rfl ?_
        refine g_aloadnB C dL_law_853 0 rfl ?_
        refine g_iloadn C dL_law_854 3 rfl ?_
        refine g_iconst C dL_law_855 gRc_1 ?_
        refine g_iadd C dL_law_856 h.1 ?_
        replace h := h.2
        refine g_scrld C hX hbl hbA hn h.1 dL_law_857 ?_
        replace h := h.2
        refine g_aloadnB C dL_law_858 0 rfl ?_
        refine g_iloadn C dL_law_859 3 rfl ?_
        refine g_iconst C dL_law_860 gRc_2 ?_
        refine g_iadd C dL_law_861 h.1 ?_
        replace h := h.2
        refine g_scrld C hX hbl hbA hn h.1 dL_law_862 ?_
        replace h := h.2
        refine g_aloadnB C dL_law_863 0 rfl ?_
        refine g_iloadn C dL_law_864 3 rfl ?_
        refine g_iconst C dL_law_865 gRc_3 ?_
        refine g_iadd C dL_law_866 h.1 ?_
        replace h := h.2
        refine g_scrld C hX hbl hbA hn h.1 dL_law_867 ?_
        replace h := h.2
        refine g_cVi (st := [gI r134]) C dL_law_868 ykX10_told wd_1181 ⟨by decide, by decide⟩ [gI (gscr ys (v1 + 1)), gI (gscr ys (v1 + 2)), gI (gscr ys (v1 + 3))] rfl (Nat.le_of_ble_eq_true rfl) gT_m (fun hM ho => sX10_told hD 228 (gscr ys (v1 + 1)) (gscr ys (v1 + 2)) (gscr ys (v1 + 3)) M133 _ gT_m h hM ho) (fun r136 M135 h => ?_)
        refine g_ic_eq (t := 1008) C dL_law_871 (by decide) (fun c137 => ?_) (fun c137 => ?_)
        · replace h := h.1 c137
          exact J7 M135 h
        · replace h := h.2 c137
          refine g_iconst C dL_law_874 gRc_0 ?_
          exact h.elim
      | 26, eq158 =>
        refine ⟨_, 876, by rw [eq158]; rfl, by decide, ?_⟩
        replace h := h.2.2.2.2.2.2.2.2.2.2.2.2.2.2.2.2.2.2.2.2.2.2.2.2.2.2.1 (by omega)
        refine g_aloadn C dL_law_876 1 rfl ?_
        refine g_aloadnB C dL_law_877 0 rfl ?_
        refine g_iloadn C dL_law_878 3 rfl ?_
        refine g_iconst C dL_law_879 gRc_1 ?_
        refine g_iadd C dL_law_880 h.1 ?_
        replace h := h.2
        refine g_scrld C hX hbl hbA hn h.1 dL_law_881 ?_
        replace h := h.2
        refine g_aloadnB C dL_law_882 0 rfl ?_
        refine g_iloadn C dL_law_883 3 rfl ?_
        refine g_iconst C dL_law_884 gRc_2 ?_
        refine g_iadd C dL_law_885 h.1 ?_
        replace h := h.2
        refine g_scrld C hX hbl hbA hn h.1 dL_law_886 ?_
        replace h := h.2
        refine g_aloadnB C dL_law_887 0 rfl ?_
        refine g_iloadn C dL_law_888 3 rfl ?_
        refine g_iconst C dL_law_889 gRc_3 ?_
        refine g_iadd C dL_law_890 h.1 ?_
        replace h := h.2
        refine g_scrld C hX hbl hbA hn h.1 dL_law_891 ?_
        replace h := h.2
        refine g_cVi (st := []) C dL_law_892 ykX9_why wd_809 ⟨by decide, by decide⟩ [gI (gscr ys (v1 + 1)), gI (gscr ys (v1 + 2)), gI (gscr ys (v1 + 3))] rfl (Nat.le_of_ble_eq_true rfl) gT_x (fun hM ho => sX9_why hD 0 (gscr ys (v1 + 1)) (gscr ys (v1 + 2)) (gscr ys (v1 + 3)) M2 _ gT_x h hM ho) (fun r139 M138 h => ?_)
        refine g_aloadn C dL_law_895 2 rfl ?_
        refine g_aloadnB C dL_law_896 0 rfl ?_
        refine g_iloadn C dL_law_897 3 rfl ?_
        refine g_iconst C dL_law_898 gRc_1 ?_
        refine g_iadd C dL_law_899 h.1 ?_
        replace h := h.2
        refine g_scrld C hX hbl hbA hn h.1 dL_law_900 ?_
        replace h := h.2
        refine g_aloadnB C dL_law_901 0 rfl ?_
        refine g_iloadn C dL_law_902 3 rfl ?_
        refine g_iconst C dL_law_903 gRc_2 ?_
        refine g_iadd C dL_law_904 h.1 ?_
        replace h := h.2
        refine g_scrld C hX hbl hbA hn h.1 dL_law_905 ?_
        replace h := h.2
        refine g_aloadnB C dL_law_906 0 rfl ?_
        refine g_iloadn C dL_law_907 3 rfl ?_
        refine g_iconst C dL_law_908 gRc_3 ?_
        refine g_iadd C dL_law_909 h.1 ?_
        replace h := h.2
        refine g_scrld C hX hbl hbA hn h.1 dL_law_910 ?_
        replace h := h.2
        refine g_cVi (st := [gI r139]) C dL_law_911 ykX10_why wd_1193 ⟨by decide, by decide⟩ [gI (gscr ys (v1 + 1)), gI (gscr ys (v1 + 2)), gI (gscr ys (v1 + 3))] rfl (Nat.le_of_ble_eq_true rfl) gT_m (fun hM ho => sX10_why hD 228 (gscr ys (v1 + 1)) (gscr ys (v1 + 2)) (gscr ys (v1 + 3)) M138 _ gT_m h hM ho) (fun r141 M140 h => ?_)
        refine g_ic_eq (t := 1008) C dL_law_914 (by decide) (fun c142 => ?_) (fun c142 => ?_)
        · replace h := h.1 c142
          exact J7 M140 h
        · replace h := h.2 c142
          refine g_iconst C dL_law_917 gRc_0 ?_
          exact h.elim
      | 27, eq158 =>
        refine ⟨_, 919, by rw [eq158]; rfl, by decide, ?_⟩
        replace h := h.2.2.2.2.2.2.2.2.2.2.2.2.2.2.2.2.2.2.2.2.2.2.2.2.2.2.2.1 (by omega)
        refine g_aloadn C dL_law_919 1 rfl ?_
        refine g_aloadnB C dL_law_920 0 rfl ?_
        refine g_iloadn C dL_law_921 3 rfl ?_
        refine g_iconst C dL_law_922 gRc_1 ?_
        refine g_iadd C dL_law_923 h.1 ?_
        replace h := h.2
        refine g_scrld C hX hbl hbA hn h.1 dL_law_924 ?_
        replace h := h.2
        refine g_aloadnB C dL_law_925 0 rfl ?_
        refine g_iloadn C dL_law_926 3 rfl ?_
        refine g_iconst C dL_law_927 gRc_2 ?_
        refine g_iadd C dL_law_928 h.1 ?_
        replace h := h.2
        refine g_scrld C hX hbl hbA hn h.1 dL_law_929 ?_
        replace h := h.2
        refine g_aloadnB C dL_law_930 0 rfl ?_
        refine g_iloadn C dL_law_931 3 rfl ?_
        refine g_iconst C dL_law_932 gRc_3 ?_
        refine g_iadd C dL_law_933 h.1 ?_
        replace h := h.2
        refine g_scrld C hX hbl hbA hn h.1 dL_law_934 ?_
        replace h := h.2
        refine g_cVi (st := []) C dL_law_935 ykX9_route wd_813 ⟨by decide, by decide⟩ [gI (gscr ys (v1 + 1)), gI (gscr ys (v1 + 2)), gI (gscr ys (v1 + 3))] rfl (Nat.le_of_ble_eq_true rfl) gT_x (fun hM ho => sX9_route hD 0 (gscr ys (v1 + 1)) (gscr ys (v1 + 2)) (gscr ys (v1 + 3)) M2 _ gT_x h hM ho) (fun r144 M143 h => ?_)
        refine g_aloadn C dL_law_938 2 rfl ?_
        refine g_aloadnB C dL_law_939 0 rfl ?_
        refine g_iloadn C dL_law_940 3 rfl ?_
        refine g_iconst C dL_law_941 gRc_1 ?_
        refine g_iadd C dL_law_942 h.1 ?_
        replace h := h.2
        refine g_scrld C hX hbl hbA hn h.1 dL_law_943 ?_
        replace h := h.2
        refine g_aloadnB C dL_law_944 0 rfl ?_
        refine g_iloadn C dL_law_945 3 rfl ?_
        refine g_iconst C dL_law_946 gRc_2 ?_
        refine g_iadd C dL_law_947 h.1 ?_
        replace h := h.2
        refine g_scrld C hX hbl hbA hn h.1 dL_law_948 ?_
        replace h := h.2
        refine g_aloadnB C dL_law_949 0 rfl ?_
        refine g_iloadn C dL_law_950 3 rfl ?_
        refine g_iconst C dL_law_951 gRc_3 ?_
        refine g_iadd C dL_law_952 h.1 ?_
        replace h := h.2
        refine g_scrld C hX hbl hbA hn h.1 dL_law_953 ?_
        replace h := h.2
        refine g_cVi (st := [gI r144]) C dL_law_954 ykX10_route wd_1197 ⟨by decide, by decide⟩ [gI (gscr ys (v1 + 1)), gI (gscr ys (v1 + 2)), gI (gscr ys (v1 + 3))] rfl (Nat.le_of_ble_eq_true rfl) gT_m (fun hM ho => sX10_route hD 228 (gscr ys (v1 + 1)) (gscr ys (v1 + 2)) (gscr ys (v1 + 3)) M143 _ gT_m h hM ho) (fun r146 M145 h => ?_)
        refine g_ic_eq (t := 1008) C dL_law_957 (by decide) (fun c147 => ?_) (fun c147 => ?_)
        · replace h := h.1 c147
          exact J7 M145 h
        · replace h := h.2 c147
          refine g_iconst C dL_law_960 gRc_0 ?_
          exact h.elim
      | 28, eq158 =>
        refine ⟨_, 962, by rw [eq158]; rfl, by decide, ?_⟩
        replace h := h.2.2.2.2.2.2.2.2.2.2.2.2.2.2.2.2.2.2.2.2.2.2.2.2.2.2.2.2.1 (by omega)
        refine g_aloadn C dL_law_962 1 rfl ?_
        refine g_aloadnB C dL_law_963 0 rfl ?_
        refine g_iloadn C dL_law_964 3 rfl ?_
        refine g_iconst C dL_law_965 gRc_1 ?_
        refine g_iadd C dL_law_966 h.1 ?_
        replace h := h.2
        refine g_scrld C hX hbl hbA hn h.1 dL_law_967 ?_
        replace h := h.2
        refine g_cVi (st := []) C dL_law_968 ykX9_pairs wd_825 ⟨by decide, by decide⟩ [gI (gscr ys (v1 + 1))] rfl (Nat.le_of_ble_eq_true rfl) gT_x (fun hM ho => sX9_pairs hD 0 (gscr ys (v1 + 1)) M2 _ gT_x h hM ho) (fun r149 M148 h => ?_)
        refine g_aloadn C dL_law_971 2 rfl ?_
        refine g_aloadnB C dL_law_972 0 rfl ?_
        refine g_iloadn C dL_law_973 3 rfl ?_
        refine g_iconst C dL_law_974 gRc_1 ?_
        refine g_iadd C dL_law_975 h.1 ?_
        replace h := h.2
        refine g_scrld C hX hbl hbA hn h.1 dL_law_976 ?_
        replace h := h.2
        refine g_cVi (st := [gI r149]) C dL_law_977 ykX10_pairs wd_1201 ⟨by decide, by decide⟩ [gI (gscr ys (v1 + 1))] rfl (Nat.le_of_ble_eq_true rfl) gT_m (fun hM ho => sX10_pairs hD 228 (gscr ys (v1 + 1)) M148 _ gT_m h hM ho) (fun r151 M150 h => ?_)
        refine g_ic_eq (t := 1008) C dL_law_980 (by decide) (fun c152 => ?_) (fun c152 => ?_)
        · replace h := h.1 c152
          exact J7 M150 h
        · replace h := h.2 c152
          refine g_iconst C dL_law_983 gRc_0 ?_
          exact h.elim
      | 29, eq158 =>
        refine ⟨_, 985, by rw [eq158]; rfl, by decide, ?_⟩
        replace h := h.2.2.2.2.2.2.2.2.2.2.2.2.2.2.2.2.2.2.2.2.2.2.2.2.2.2.2.2.2.1 (by omega)
        refine g_aloadn C dL_law_985 1 rfl ?_
        refine g_aloadnB C dL_law_986 0 rfl ?_
        refine g_iloadn C dL_law_987 3 rfl ?_
        refine g_iconst C dL_law_988 gRc_1 ?_
        refine g_iadd C dL_law_989 h.1 ?_
        replace h := h.2
        refine g_scrld C hX hbl hbA hn h.1 dL_law_990 ?_
        replace h := h.2
        refine g_cVi (st := []) C dL_law_991 ykX9_count wd_833 ⟨by decide, by decide⟩ [gI (gscr ys (v1 + 1))] rfl (Nat.le_of_ble_eq_true rfl) gT_x (fun hM ho => sX9_count hD 0 (gscr ys (v1 + 1)) M2 _ gT_x h hM ho) (fun r154 M153 h => ?_)
        refine g_aloadn C dL_law_994 2 rfl ?_
        refine g_aloadnB C dL_law_995 0 rfl ?_
        refine g_iloadn C dL_law_996 3 rfl ?_
        refine g_iconst C dL_law_997 gRc_1 ?_
        refine g_iadd C dL_law_998 h.1 ?_
        replace h := h.2
        refine g_scrld C hX hbl hbA hn h.1 dL_law_999 ?_
        replace h := h.2
        refine g_cVi (st := [gI r154]) C dL_law_1000 ykX10_count wd_1206 ⟨by decide, by decide⟩ [gI (gscr ys (v1 + 1))] rfl (Nat.le_of_ble_eq_true rfl) gT_m (fun hM ho => sX10_count hD 228 (gscr ys (v1 + 1)) M153 _ gT_m h hM ho) (fun r156 M155 h => ?_)
        refine g_ic_eq (t := 1008) C dL_law_1003 (by decide) (fun c157 => ?_) (fun c157 => ?_)
        · replace h := h.1 c157
          exact J7 M155 h
        · replace h := h.2 c157
          refine g_iconst C dL_law_1006 gRc_0 ?_
          exact h.elim
      | q158 + 30, eq158 => exact absurd eq158 (by omega)
