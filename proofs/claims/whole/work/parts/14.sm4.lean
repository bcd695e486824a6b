set_option maxRecDepth 100000 in
set_option maxHeartbeats 4000000 in
theorem sX10_route {l : Launch} {V : gW} (hD : gD V) (c0 a1 a2 a3 : Int) (M0 : gMem) (K : Int → gMem → Prop) (hT0 : gT c0 10) (h : wX10_route c0 a1 a2 a3 K M0) (hM : gOM M0) (ho : ∀ q ∈ ([gI a1, gI a2, gI a3] : List gSV), gOK q) : gMi l V yX10_route cX10_route 7 (some .int) 2 49 [gF c0, gI a1, gI a2, gI a3] M0 K := by
  refine gMi_of hD (by decide) (Nat.le_of_ble_eq_true rfl) [(0, gF c0), (1, gI a1), (2, gI a2), (3, gI a3)] rfl (gok_L rfl (gok_n (q := gF c0) trivial ho)) hM (fun X C hR => ?_)
  unfold wX10_route at h
  refine g_aloadn C dX10_route_0 0 rfl ?_
  refine g_iloadn C dX10_route_1 1 rfl ?_
  refine g_cVi (st := []) C dX10_route_2 ykX10_isNode wd_1022 ⟨by decide, by decide⟩ [gI a1] rfl (Nat.le_of_ble_eq_true rfl) hT0 (fun hM ho => sX10_isNode hD c0 a1 M0 _ hT0 h hM ho) (fun r2 M1 h => ?_)
  obtain ⟨P4, h, hP4⟩ := h
  have J5 : ∀ (M3 : gMem), P4 M3 → gG X V 7 16 [] [] M3 := by
    intro M3 h
    replace h := hP4 M3 h
    refine g_bipush C dX10_route_16 gRc_m2 gRb_m2 ?_
    exact g_iret C hR dX10_route_18 h
  refine g_if_eq (t := 16) C dX10_route_5 (by decide) (fun c6 => ?_) (fun c6 => ?_)
  · replace h := h.1 c6
    refine g_sub [] [] rfl ?_
    exact J5 M1 h
  · replace h := h.2 c6
    refine g_aloadn C dX10_route_8 0 rfl ?_
    refine g_iloadn C dX10_route_9 2 rfl ?_
    refine g_cVi (st := []) C dX10_route_10 ykX10_isNode wd_1022 ⟨by decide, by decide⟩ [gI a2] rfl (Nat.le_of_ble_eq_true rfl) hT0 (fun hM ho => sX10_isNode hD c0 a2 M1 _ hT0 h hM ho) (fun r8 M7 h => ?_)
    refine g_if_ne (t := 19) C dX10_route_13 (by decide) (fun c9 => ?_) (fun c9 => ?_)
    · replace h := h.1 c9
      refine g_aloadn C dX10_route_19 0 rfl ?_
      refine g_iconst C dX10_route_20 gRc_0 ?_
      refine g_cVv (st := []) C dX10_route_21 ykX10_finds wd_1030 ⟨by decide, by decide⟩ [gI 0] rfl (Nat.le_of_ble_eq_true rfl) hT0 (fun hM ho => sX10_finds hD c0 0 M7 _ hT0 h hM ho) (fun M10 h => ?_)
      refine g_aloadn C dX10_route_24 0 rfl ?_
      refine g_iloadn C dX10_route_25 1 rfl ?_
      refine g_iloadn C dX10_route_26 2 rfl ?_
      refine g_cVi (st := []) C dX10_route_27 ykX10_tells wd_1185 ⟨by decide, by decide⟩ [gI a1, gI a2] rfl (Nat.le_of_ble_eq_true rfl) hT0 (fun hM ho => sX10_tells hD c0 a1 a2 M10 _ hT0 h hM ho) (fun r12 M11 h => ?_)
      obtain ⟨P14, h, hP14⟩ := h
      have J15 : ∀ (M13 : gMem), P14 M13 → gG X V 7 57 [] [] M13 := by
        intro M13 h
        replace h := hP14 M13 h
        refine g_bipush C dX10_route_57 gRc_m4 gRb_m4 ?_
        exact g_iret C hR dX10_route_59 h
      refine g_if_eq (t := 57) C dX10_route_30 (by decide) (fun c16 => ?_) (fun c16 => ?_)
      · replace h := h.1 c16
        refine g_sub [] [] rfl ?_
        exact J15 M11 h
      · replace h := h.2 c16
        refine g_aloadn C dX10_route_33 0 rfl ?_
        refine g_iloadn C dX10_route_34 1 rfl ?_
        refine g_aloadn C dX10_route_35 0 rfl ?_
        refine gf_10_21 C dX10_route_36 wd_876 hT0 ?_
        refine g_cVi (st := []) C dX10_route_39 ykX10_isWay wd_1035 ⟨by decide, by decide⟩ [gI a1, gI (M11 c0 21)] rfl (Nat.le_of_ble_eq_true rfl) hT0 (fun hM ho => sX10_isWay hD c0 a1 (M11 c0 21) M11 _ hT0 h hM ho) (fun r18 M17 h => ?_)
        refine g_if_eq (t := 57) C dX10_route_42 (by decide) (fun c19 => ?_) (fun c19 => ?_)
        · replace h := h.1 c19
          refine g_sub [] [] rfl ?_
          exact J15 M17 h
        · replace h := h.2 c19
          refine g_aloadn C dX10_route_45 0 rfl ?_
          refine g_aloadn C dX10_route_46 0 rfl ?_
          refine gf_10_21 C dX10_route_47 wd_876 hT0 ?_
          refine g_iloadn C dX10_route_50 2 rfl ?_
          refine g_cVi (st := []) C dX10_route_51 ykX10_isWay wd_1035 ⟨by decide, by decide⟩ [gI (M17 c0 21), gI a2] rfl (Nat.le_of_ble_eq_true rfl) hT0 (fun hM ho => sX10_isWay hD c0 (M17 c0 21) a2 M17 _ hT0 h hM ho) (fun r21 M20 h => ?_)
          refine g_if_ne (t := 60) C dX10_route_54 (by decide) (fun c22 => ?_) (fun c22 => ?_)
          · replace h := h.1 c22
            refine g_iloadn C dX10_route_60 3 rfl ?_
            refine g_if_ge (t := 66) C dX10_route_61 (by decide) (fun c23 => ?_) (fun c23 => ?_)
            · replace h := h.1 c23
              refine g_iloadn C dX10_route_66 1 rfl ?_
              refine g_istore C [(4, gI a1), (0, gF c0), (1, gI a1), (2, gI a2), (3, gI a3)] dX10_route_67 (by decide) rfl ?_
              refine g_iload C dX10_route_69 0 rfl ?_
              refine g_aloadn C dX10_route_71 1 rfl ?_
              refine gf_10_21 C dX10_route_72 wd_876 hT0 ?_
              obtain ⟨P26, h, hP26⟩ := h
              have J27 : ∀ (x24 : Int) (M25 : gMem), P26 x24 M25 → gG X V 7 83 [(0, gF c0), (2, gI a2), (3, gI a3), (4, gI a1)] [gI x24] M25 := by
                intro x24 M25 h
                replace h := hP26 x24 M25 h
                refine g_istore C [(5, gI x24), (0, gF c0), (2, gI a2), (3, gI a3), (4, gI a1)] dX10_route_83 (by decide) rfl ?_
                refine g_iconst C dX10_route_85 gRc_0 ?_
                refine g_istore C [(6, gI 0), (5, gI x24), (0, gF c0), (2, gI a2), (3, gI a3), (4, gI a1)] dX10_route_86 (by decide) rfl ?_
                refine g_sub [(0, gF c0), (2, gI a2), (3, gI a3), (4, gI a1), (5, gI x24), (6, gI 0)] [2, 3, 4, 5, 1, 0] rfl ?_
                refine gL3_go (Gd := fun (v28 : Int) (v29 : Int) (v30 : Int) (M31 : gMem) => gG X V 7 88 [(0, gF c0), (2, gI a2), (3, gI a3), (4, gI v28), (5, gI v29), (6, gI v30)] [] M31) (fun rec32 hrec32 v28 v29 v30 M31 h => ?_) h
                refine g_iload C dX10_route_88 5 rfl ?_
                refine g_iloadn C dX10_route_90 2 rfl ?_
                refine g_ic_ge (t := 155) C dX10_route_91 (by decide) (fun c33 => ?_) (fun c33 => ?_)
                · replace h := h.1 c33
                  refine g_iload C dX10_route_155 3 rfl ?_
                  exact g_iret C hR dX10_route_157 h
                · replace h := h.2 c33
                  refine g_iload C dX10_route_94 4 rfl ?_
                  obtain ⟨P35, h, hP35⟩ := h
                  have J36 : ∀ (M34 : gMem), P35 M34 → gG X V 7 107 [(0, gF c0), (2, gI a2), (3, gI a3), (4, gI v28), (5, gI v29), (6, gI v30)] [] M34 := by
                    intro M34 h
                    replace h := hP35 M34 h
                    refine g_aloadn C dX10_route_107 0 rfl ?_
                    refine g_iload C dX10_route_108 3 rfl ?_
                    refine g_iload C dX10_route_110 4 rfl ?_
                    obtain ⟨P39, h, hP39⟩ := h
                    have J40 : ∀ (x37 : Int) (M38 : gMem), P39 x37 M38 → gG X V 7 123 [(0, gF c0), (2, gI a2), (3, gI a3), (5, gI v29), (6, gI v30)] [gI x37, gI v28, gF c0] M38 := by
                      intro x37 M38 h
                      replace h := hP39 x37 M38 h
                      refine g_cVi (st := []) C dX10_route_123 ykX10_nextOf wd_1064 ⟨by decide, by decide⟩ [gI v28, gI x37] rfl (Nat.le_of_ble_eq_true rfl) hT0 (fun hM ho => sX10_nextOf hD c0 v28 x37 M38 _ hT0 h hM ho) (fun r42 M41 h => ?_)
                      refine g_istore C [(4, gI r42), (0, gF c0), (2, gI a2), (3, gI a3), (5, gI v29), (6, gI v30)] dX10_route_126 (by decide) rfl ?_
                      refine g_iload C dX10_route_128 4 rfl ?_
                      obtain ⟨P45, h, hP45⟩ := h
                      have J46 : ∀ (x43 : Int) (M44 : gMem), P45 x43 M44 → gG X V 7 147 [(0, gF c0), (2, gI a2), (3, gI a3), (4, gI r42), (6, gI v30)] [gI x43] M44 := by
                        intro x43 M44 h
                        replace h := hP45 x43 M44 h
                        refine g_istore C [(5, gI x43), (0, gF c0), (2, gI a2), (3, gI a3), (4, gI r42), (6, gI v30)] dX10_route_147 (by decide) rfl ?_
                        refine g_iinc C [(6, gI (v30 + 1)), (5, gI x43), (0, gF c0), (2, gI a2), (3, gI a3), (4, gI r42)] dX10_route_149 5 rfl (by decide) h.1 rfl ?_
                        replace h := h.2
                        refine g_goto (t := 88) C dX10_route_152 (by decide) ?_
                        refine g_sub [(0, gF c0), (2, gI a2), (3, gI a3), (4, gI r42), (5, gI x43), (6, gI (v30 + 1))] [2, 3, 4, 5, 1, 0] rfl ?_
                        exact hrec32 r42 x43 (v30 + 1) M44 h
                      obtain ⟨P48, h, hP48⟩ := h
                      have J49 : ∀ (M47 : gMem), P48 M47 → gG X V 7 142 [(0, gF c0), (2, gI a2), (3, gI a3), (4, gI r42), (6, gI v30)] [] M47 := by
                        intro M47 h
                        replace h := hP48 M47 h
                        refine g_iconst C dX10_route_142 gRc_1 ?_
                        refine g_goto (t := 147) C dX10_route_143 (by decide) ?_
                        exact J46 1 M47 h
                      refine g_if_ne (t := 142) C dX10_route_130 (by decide) (fun c50 => ?_) (fun c50 => ?_)
                      · replace h := h.1 c50
                        refine g_sub [(0, gF c0), (2, gI a2), (3, gI a3), (4, gI r42), (6, gI v30)] [1, 2, 3, 0, 5] rfl ?_
                        exact J49 M41 h
                      · replace h := h.2 c50
                        refine g_iload C dX10_route_133 0 rfl ?_
                        refine g_aloadn C dX10_route_135 1 rfl ?_
                        refine gf_10_21 C dX10_route_136 wd_876 hT0 ?_
                        refine g_ic_ne (t := 146) C dX10_route_139 (by decide) (fun c51 => ?_) (fun c51 => ?_)
                        · replace h := h.1 c51
                          refine g_iconst C dX10_route_146 gRc_0 ?_
                          refine g_sub [(0, gF c0), (2, gI a2), (3, gI a3), (4, gI r42), (6, gI v30)] [1, 2, 3, 0, 5] rfl ?_
                          exact J46 0 M41 h
                        · replace h := h.2 c51
                          refine g_sub [(0, gF c0), (2, gI a2), (3, gI a3), (4, gI r42), (6, gI v30)] [1, 2, 3, 0, 5] rfl ?_
                          exact J49 M41 h
                    refine g_if_eq (t := 119) C dX10_route_112 (by decide) (fun c52 => ?_) (fun c52 => ?_)
                    · replace h := h.1 c52
                      refine g_aloadn C dX10_route_119 0 rfl ?_
                      refine gf_10_21 C dX10_route_120 wd_876 hT0 ?_
                      refine g_sub [(0, gF c0), (2, gI a2), (3, gI a3), (5, gI v29), (6, gI v30)] [0, 1, 2, 4, 5] rfl ?_
                      exact J40 (M34 c0 21) M34 h
                    · replace h := h.2 c52
                      refine g_iloadn C dX10_route_115 1 rfl ?_
                      refine g_goto (t := 123) C dX10_route_116 (by decide) ?_
                      refine g_sub [(0, gF c0), (2, gI a2), (3, gI a3), (5, gI v29), (6, gI v30)] [0, 1, 2, 4, 5] rfl ?_
                      exact J40 a2 M34 h
                  refine g_if_eq (t := 107) C dX10_route_96 (by decide) (fun c53 => ?_) (fun c53 => ?_)
                  · replace h := h.1 c53
                    exact J36 M31 h
                  · replace h := h.2 c53
                    refine g_iload C dX10_route_99 3 rfl ?_
                    refine g_iloadn C dX10_route_101 1 rfl ?_
                    refine g_ic_ne (t := 107) C dX10_route_102 (by decide) (fun c54 => ?_) (fun c54 => ?_)
                    · replace h := h.1 c54
                      exact J36 M31 h
                    · replace h := h.2 c54
                      refine g_iconst C dX10_route_105 gRc_m1 ?_
                      exact g_iret C hR dX10_route_106 h
              refine g_ic_ne (t := 82) C dX10_route_75 (by decide) (fun c55 => ?_) (fun c55 => ?_)
              · replace h := h.1 c55
                refine g_iconst C dX10_route_82 gRc_0 ?_
                refine g_sub [(0, gF c0), (2, gI a2), (3, gI a3), (4, gI a1)] [1, 3, 4, 0] rfl ?_
                exact J27 0 M20 h
              · replace h := h.2 c55
                refine g_iconst C dX10_route_78 gRc_1 ?_
                refine g_goto (t := 83) C dX10_route_79 (by decide) ?_
                refine g_sub [(0, gF c0), (2, gI a2), (3, gI a3), (4, gI a1)] [1, 3, 4, 0] rfl ?_
                exact J27 1 M20 h
            · replace h := h.2 c23
              refine g_iconst C dX10_route_64 gRc_m1 ?_
              exact g_iret C hR dX10_route_65 h
          · replace h := h.2 c22
            refine g_sub [] [] rfl ?_
            exact J15 M20 h
    · replace h := h.2 c9
      refine g_sub [] [] rfl ?_
      exact J5 M7 h

set_option maxRecDepth 100000 in
set_option maxHeartbeats 4000000 in
theorem sX10_pairs {l : Launch} {V : gW} (hD : gD V) (c0 a1 : Int) (M0 : gMem) (K : Int → gMem → Prop) (hT0 : gT c0 10) (h : wX10_pairs c0 a1 K M0) (hM : gOM M0) (ho : ∀ q ∈ ([gI a1] : List gSV), gOK q) : gMi l V yX10_pairs cX10_pairs 11 (some .int) 2 49 [gF c0, gI a1] M0 K := by
  refine gMi_of hD (by decide) (Nat.le_of_ble_eq_true rfl) [(0, gF c0), (1, gI a1)] rfl (gok_L rfl (gok_n (q := gF c0) trivial ho)) hM (fun X C hR => ?_)
  unfold wX10_pairs at h
  refine g_iloadn C dX10_pairs_0 1 rfl ?_
  refine g_i2l C dX10_pairs_1 ?_
  refine g_lconst C dX10_pairs_2 (by decide) (show gOK (gJ 0) from ⟨by decide, by decide⟩) ?_
  refine g_ldc2 C dX10_pairs_3 wd_1205 (by decide) (show gOK (gJ 3) from ⟨by decide, by decide⟩) ?_
  refine g_cSi (st := []) C dX10_pairs_6 ykX10_in wd_937 ⟨by decide, by decide⟩ [gJ a1, gJ 0, gJ 3] rfl (Nat.le_of_ble_eq_true rfl) (fun hM ho => sX10_in hD a1 0 3 M0 _  h hM ho) (fun r2 M1 h => ?_)
  refine g_if_ne (t := 15) C dX10_pairs_9 (by decide) (fun c3 => ?_) (fun c3 => ?_)
  · replace h := h.1 c3
    refine g_aloadn C dX10_pairs_15 0 rfl ?_
    refine g_iconst C dX10_pairs_16 gRc_0 ?_
    refine g_cVv (st := []) C dX10_pairs_17 ykX10_finds wd_1030 ⟨by decide, by decide⟩ [gI 0] rfl (Nat.le_of_ble_eq_true rfl) hT0 (fun hM ho => sX10_finds hD c0 0 M1 _ hT0 h hM ho) (fun M4 h => ?_)
    refine g_iconst C dX10_pairs_20 gRc_m1 ?_
    refine g_istoren C [(2, gI (-1)), (0, gF c0), (1, gI a1)] dX10_pairs_21 (by decide) rfl ?_
    refine g_iconst C dX10_pairs_22 gRc_m1 ?_
    refine g_istoren C [(3, gI (-1)), (2, gI (-1)), (0, gF c0), (1, gI a1)] dX10_pairs_23 (by decide) rfl ?_
    refine g_iconst C dX10_pairs_24 gRc_m1 ?_
    refine g_istore C [(4, gI (-1)), (3, gI (-1)), (2, gI (-1)), (0, gF c0), (1, gI a1)] dX10_pairs_25 (by decide) rfl ?_
    refine g_iconst C dX10_pairs_27 gRc_1 ?_
    refine g_istore C [(5, gI 1), (4, gI (-1)), (3, gI (-1)), (2, gI (-1)), (0, gF c0), (1, gI a1)] dX10_pairs_28 (by decide) rfl ?_
    refine g_iconst C dX10_pairs_30 gRc_0 ?_
    refine g_istore C [(6, gI 0), (5, gI 1), (4, gI (-1)), (3, gI (-1)), (2, gI (-1)), (0, gF c0), (1, gI a1)] dX10_pairs_31 (by decide) rfl ?_
    refine g_iconst C dX10_pairs_33 gRc_0 ?_
    refine g_istore C [(7, gI 0), (6, gI 0), (5, gI 1), (4, gI (-1)), (3, gI (-1)), (2, gI (-1)), (0, gF c0), (1, gI a1)] dX10_pairs_34 (by decide) rfl ?_
    refine g_iconst C dX10_pairs_36 gRc_0 ?_
    refine g_istore C [(8, gI 0), (7, gI 0), (6, gI 0), (5, gI 1), (4, gI (-1)), (3, gI (-1)), (2, gI (-1)), (0, gF c0), (1, gI a1)] dX10_pairs_37 (by decide) rfl ?_
    refine g_sub [(0, gF c0), (1, gI a1), (2, gI (-1)), (3, gI (-1)), (4, gI (-1)), (5, gI 1), (6, gI 0), (7, gI 0), (8, gI 0)] [7, 8, 6, 5, 4, 3, 2, 1, 0] rfl ?_
    refine gL7_go (Gd := fun (v5 : Int) (v6 : Int) (v7 : Int) (v8 : Int) (v9 : Int) (v10 : Int) (v11 : Int) (M12 : gMem) => gG X V 11 39 [(0, gF c0), (1, gI a1), (2, gI v5), (3, gI v6), (4, gI v7), (5, gI v8), (6, gI v9), (7, gI v10), (8, gI v11)] [] M12) (fun rec13 hrec13 v5 v6 v7 v8 v9 v10 v11 M12 h => ?_) h
    refine g_iload C dX10_pairs_39 8 rfl ?_
    refine g_aloadn C dX10_pairs_41 0 rfl ?_
    refine gf_10_2 C dX10_pairs_42 wd_857 hT0 ?_
    refine g_ic_ge (t := 163) C dX10_pairs_45 (by decide) (fun c14 => ?_) (fun c14 => ?_)
    · replace h := h.1 c14
      refine g_iloadn C dX10_pairs_163 1 rfl ?_
      obtain ⟨P17, h, hP17⟩ := h
      have J18 : ∀ (x15 : Int) (M16 : gMem), P17 x15 M16 → gG X V 11 192 [] [gI x15] M16 := by
        intro x15 M16 h
        replace h := hP17 x15 M16 h
        exact g_iret C hR dX10_pairs_192 h
      refine g_if_ne (t := 171) C dX10_pairs_164 (by decide) (fun c19 => ?_) (fun c19 => ?_)
      · replace h := h.1 c19
        refine g_iloadn C dX10_pairs_171 1 rfl ?_
        refine g_iconst C dX10_pairs_172 gRc_1 ?_
        refine g_ic_ne (t := 180) C dX10_pairs_173 (by decide) (fun c20 => ?_) (fun c20 => ?_)
        · replace h := h.1 c20
          refine g_iloadn C dX10_pairs_180 1 rfl ?_
          refine g_iconst C dX10_pairs_181 gRc_2 ?_
          refine g_ic_ne (t := 190) C dX10_pairs_182 (by decide) (fun c21 => ?_) (fun c21 => ?_)
          · replace h := h.1 c21
            refine g_iload C dX10_pairs_190 7 rfl ?_
            refine g_sub [] [] rfl ?_
            exact J18 v10 M12 h
          · replace h := h.2 c21
            refine g_iload C dX10_pairs_185 6 rfl ?_
            refine g_goto (t := 192) C dX10_pairs_187 (by decide) ?_
            refine g_sub [] [] rfl ?_
            exact J18 v9 M12 h
        · replace h := h.2 c20
          refine g_iloadn C dX10_pairs_176 3 rfl ?_
          refine g_goto (t := 192) C dX10_pairs_177 (by decide) ?_
          refine g_sub [] [] rfl ?_
          exact J18 v6 M12 h
      · replace h := h.2 c19
        refine g_iloadn C dX10_pairs_167 2 rfl ?_
        refine g_goto (t := 192) C dX10_pairs_168 (by decide) ?_
        refine g_sub [] [] rfl ?_
        exact J18 v5 M12 h
    · replace h := h.2 c14
      refine g_iload C dX10_pairs_48 8 rfl ?_
      refine g_iconst C dX10_pairs_50 gRc_1 ?_
      refine g_iadd C dX10_pairs_51 h.1 ?_
      replace h := h.2
      obtain ⟨v22, ev22⟩ : ∃ x : Int, x = (v11 + 1) := ⟨_, rfl⟩
      refine g_nm ev22 ?_
      replace h := h v22 ev22
      refine g_istore C [(9, gI v22), (0, gF c0), (1, gI a1), (2, gI v5), (3, gI v6), (4, gI v7), (5, gI v8), (6, gI v9), (7, gI v10), (8, gI v11)] dX10_pairs_52 (by decide) rfl ?_
      refine g_sub [(0, gF c0), (1, gI a1), (2, gI v5), (3, gI v6), (4, gI v7), (5, gI v8), (6, gI v9), (7, gI v10), (8, gI v11), (9, gI v22)] [1, 2, 3, 4, 5, 6, 7, 8, 9, 0] rfl ?_
      refine gL7_go (Gd := fun (v23 : Int) (v24 : Int) (v25 : Int) (v26 : Int) (v27 : Int) (v28 : Int) (v29 : Int) (M30 : gMem) => gG X V 11 54 [(0, gF c0), (1, gI a1), (2, gI v23), (3, gI v24), (4, gI v25), (5, gI v26), (6, gI v27), (7, gI v28), (8, gI v11), (9, gI v29)] [] M30) (fun rec31 hrec31 v23 v24 v25 v26 v27 v28 v29 M30 h => ?_) h
      refine g_iload C dX10_pairs_54 9 rfl ?_
      refine g_aloadn C dX10_pairs_56 0 rfl ?_
      refine gf_10_2 C dX10_pairs_57 wd_857 hT0 ?_
      refine g_ic_ge (t := 157) C dX10_pairs_60 (by decide) (fun c32 => ?_) (fun c32 => ?_)
      · replace h := h.1 c32
        refine g_iinc C [(8, gI (v11 + 1)), (0, gF c0), (1, gI a1), (2, gI v23), (3, gI v24), (4, gI v25), (5, gI v26), (6, gI v27), (7, gI v28), (9, gI v29)] dX10_pairs_157 8 rfl (by decide) h.1 rfl ?_
        replace h := h.2
        refine g_goto (t := 39) C dX10_pairs_160 (by decide) ?_
        refine g_sub [(0, gF c0), (1, gI a1), (2, gI v23), (3, gI v24), (4, gI v25), (5, gI v26), (6, gI v27), (7, gI v28), (8, gI (v11 + 1))] [1, 2, 3, 4, 5, 6, 7, 8, 0] rfl ?_
        exact hrec13 v23 v24 v25 v26 v27 v28 (v11 + 1) M30 h
      · replace h := h.2 c32
        refine g_aloadn C dX10_pairs_63 0 rfl ?_
        refine gf_10_16 C dX10_pairs_64 wd_871 hT0 ?_
        refine g_bipush C dX10_pairs_67 gRc_12 gRb_12 ?_
        refine g_iload C dX10_pairs_69 8 rfl ?_
        refine g_imul C dX10_pairs_71 h.1 ?_
        replace h := h.2
        refine g_iload C dX10_pairs_72 9 rfl ?_
        refine g_iadd C dX10_pairs_74 h.1 ?_
        replace h := h.2
        refine g_iald C dX10_pairs_75 (gt_10_16 hT0) gce_10144 h.1 ?_
        replace h := h.2
        obtain ⟨v33, ev33⟩ : ∃ x : Int, x = (M30 (c0 + 8) ((12 * v11) + v29)) := ⟨_, rfl⟩
        refine g_nm ev33 ?_
        replace h := h v33 ev33
        refine g_istore C [(10, gI v33), (0, gF c0), (1, gI a1), (2, gI v23), (3, gI v24), (4, gI v25), (5, gI v26), (6, gI v27), (7, gI v28), (8, gI v11), (9, gI v29)] dX10_pairs_76 (by decide) rfl ?_
        refine g_aloadn C dX10_pairs_78 1 rfl ?_
        refine g_iload C dX10_pairs_79 9 rfl ?_
        refine g_iload C dX10_pairs_81 10 rfl ?_
        refine g_cVi (st := []) C dX10_pairs_83 ykX10_isWay wd_1035 ⟨by decide, by decide⟩ [gI v11, gI v29] rfl (Nat.le_of_ble_eq_true rfl) hT0 (fun hM ho => sX10_isWay hD c0 v11 v29 M30 _ hT0 h hM ho) (fun r35 M34 h => ?_)
        obtain ⟨P43, h, hP43⟩ := h
        have J44 : ∀ (v36 : Int) (v37 : Int) (v38 : Int) (v39 : Int) (v40 : Int) (v41 : Int) (M42 : gMem), P43 v36 v37 v38 v39 v40 v41 M42 → gG X V 11 151 [(0, gF c0), (1, gI a1), (2, gI v36), (3, gI v37), (4, gI v38), (5, gI v39), (6, gI v40), (7, gI v41), (8, gI v11), (9, gI v29)] [] M42 := by
          intro v36 v37 v38 v39 v40 v41 M42 h
          replace h := hP43 v36 v37 v38 v39 v40 v41 M42 h
          refine g_iinc C [(9, gI (v29 + 1)), (0, gF c0), (1, gI a1), (2, gI v36), (3, gI v37), (4, gI v38), (5, gI v39), (6, gI v40), (7, gI v41), (8, gI v11)] dX10_pairs_151 9 rfl (by decide) h.1 rfl ?_
          replace h := h.2
          refine g_goto (t := 54) C dX10_pairs_154 (by decide) ?_
          refine g_sub [(0, gF c0), (1, gI a1), (2, gI v36), (3, gI v37), (4, gI v38), (5, gI v39), (6, gI v40), (7, gI v41), (8, gI v11), (9, gI (v29 + 1))] [1, 2, 3, 4, 5, 6, 7, 8, 9, 0] rfl ?_
          exact hrec31 v36 v37 v38 v39 v40 v41 (v29 + 1) M42 h
        obtain ⟨P46, h, hP46⟩ := h
        have J47 : ∀ (M45 : gMem), P46 M45 → gG X V 11 137 [(0, gF c0), (1, gI a1), (2, gI v23), (3, gI v24), (4, gI v25), (5, gI v26), (6, gI v27), (7, gI v28), (8, gI v11), (9, gI v29)] [] M45 := by
          intro M45 h
          replace h := hP46 M45 h
          refine g_aloadn C dX10_pairs_137 0 rfl ?_
          refine g_iload C dX10_pairs_138 8 rfl ?_
          refine g_iload C dX10_pairs_140 9 rfl ?_
          refine g_cVi (st := []) C dX10_pairs_142 ykX10_isWay wd_1035 ⟨by decide, by decide⟩ [gI v11, gI v29] rfl (Nat.le_of_ble_eq_true rfl) hT0 (fun hM ho => sX10_isWay hD c0 v11 v29 M45 _ hT0 h hM ho) (fun r49 M48 h => ?_)
          refine g_if_eq (t := 151) C dX10_pairs_145 (by decide) (fun c50 => ?_) (fun c50 => ?_)
          · replace h := h.1 c50
            exact J44 v23 v24 v25 v26 v27 v28 M48 h
          · replace h := h.2 c50
            refine g_iinc C [(7, gI (v28 + 1)), (0, gF c0), (1, gI a1), (2, gI v23), (3, gI v24), (4, gI v25), (5, gI v26), (6, gI v27), (8, gI v11), (9, gI v29)] dX10_pairs_148 7 rfl (by decide) h.1 rfl ?_
            replace h := h.2
            refine g_sub [(0, gF c0), (1, gI a1), (2, gI v23), (3, gI v24), (4, gI v25), (5, gI v26), (6, gI v27), (7, gI (v28 + 1)), (8, gI v11), (9, gI v29)] [1, 2, 3, 4, 5, 6, 7, 0, 8, 9] rfl ?_
            exact J44 v23 v24 v25 v26 v27 (v28 + 1) M48 h
        refine g_if_eq (t := 137) C dX10_pairs_86 (by decide) (fun c51 => ?_) (fun c51 => ?_)
        · replace h := h.1 c51
          refine g_sub [(0, gF c0), (1, gI a1), (2, gI v23), (3, gI v24), (4, gI v25), (5, gI v26), (6, gI v27), (7, gI v28), (8, gI v11), (9, gI v29)] [1, 2, 3, 4, 5, 6, 7, 8, 9, 10] rfl ?_
          exact J47 M34 h
        · replace h := h.2 c51
          refine g_aloadn C dX10_pairs_89 1 rfl ?_
          refine g_iload C dX10_pairs_90 9 rfl ?_
          refine g_iload C dX10_pairs_92 10 rfl ?_
          refine g_cVi (st := []) C dX10_pairs_94 ykX10_tells wd_1185 ⟨by decide, by decide⟩ [gI v11, gI v29] rfl (Nat.le_of_ble_eq_true rfl) hT0 (fun hM ho => sX10_tells hD c0 v11 v29 M34 _ hT0 h hM ho) (fun r53 M52 h => ?_)
          refine g_if_eq (t := 137) C dX10_pairs_97 (by decide) (fun c54 => ?_) (fun c54 => ?_)
          · replace h := h.1 c54
            refine g_sub [(0, gF c0), (1, gI a1), (2, gI v23), (3, gI v24), (4, gI v25), (5, gI v26), (6, gI v27), (7, gI v28), (8, gI v11), (9, gI v29)] [1, 2, 3, 4, 5, 6, 7, 8, 9, 10] rfl ?_
            exact J47 M52 h
          · replace h := h.2 c54
            refine g_iinc C [(6, gI (v27 + 1)), (10, gI v33), (0, gF c0), (1, gI a1), (2, gI v23), (3, gI v24), (4, gI v25), (5, gI v26), (7, gI v28), (8, gI v11), (9, gI v29)] dX10_pairs_100 7 rfl (by decide) h.1 rfl ?_
            replace h := h.2
            refine g_aloadn C dX10_pairs_103 2 rfl ?_
            refine gf_10_20 C dX10_pairs_104 wd_875 hT0 ?_
            refine g_iload C dX10_pairs_107 7 rfl ?_
            refine g_imul C dX10_pairs_109 h.1 ?_
            replace h := h.2
            refine g_iload C dX10_pairs_110 6 rfl ?_
            refine g_iload C dX10_pairs_112 1 rfl ?_
            refine g_imul C dX10_pairs_114 h.1 ?_
            replace h := h.2
            refine g_ic_le (t := 151) C dX10_pairs_115 (by decide) (fun c55 => ?_) (fun c55 => ?_)
            · replace h := h.1 c55
              refine g_sub [(0, gF c0), (1, gI a1), (2, gI v23), (3, gI v24), (4, gI v25), (5, gI v26), (6, gI (v27 + 1)), (7, gI v28), (8, gI v11), (9, gI v29)] [2, 3, 4, 5, 6, 7, 0, 8, 9, 10] rfl ?_
              exact J44 v23 v24 v25 v26 (v27 + 1) v28 M52 h
            · replace h := h.2 c55
              refine g_aloadn C dX10_pairs_118 2 rfl ?_
              refine gf_10_20 C dX10_pairs_119 wd_875 hT0 ?_
              obtain ⟨v56, ev56⟩ : ∃ x : Int, x = (M52 c0 20) := ⟨_, rfl⟩
              refine g_nm ev56 ?_
              replace h := h v56 ev56
              refine g_istore C [(4, gI v56), (6, gI (v27 + 1)), (10, gI v33), (0, gF c0), (1, gI a1), (2, gI v23), (3, gI v24), (5, gI v26), (7, gI v28), (8, gI v11), (9, gI v29)] dX10_pairs_122 (by decide) rfl ?_
              refine g_iload C dX10_pairs_124 2 rfl ?_
              refine g_istore C [(5, gI v33), (4, gI v56), (6, gI (v27 + 1)), (10, gI v33), (0, gF c0), (1, gI a1), (2, gI v23), (3, gI v24), (7, gI v28), (8, gI v11), (9, gI v29)] dX10_pairs_126 (by decide) rfl ?_
              refine g_iload C dX10_pairs_128 9 rfl ?_
              refine g_istoren C [(2, gI v11), (5, gI v33), (4, gI v56), (6, gI (v27 + 1)), (10, gI v33), (0, gF c0), (1, gI a1), (3, gI v24), (7, gI v28), (8, gI v11), (9, gI v29)] dX10_pairs_130 (by decide) rfl ?_
              refine g_iload C dX10_pairs_131 10 rfl ?_
              refine g_istoren C [(3, gI v29), (2, gI v11), (5, gI v33), (4, gI v56), (6, gI (v27 + 1)), (10, gI v33), (0, gF c0), (1, gI a1), (7, gI v28), (8, gI v11), (9, gI v29)] dX10_pairs_133 (by decide) rfl ?_
              refine g_goto (t := 151) C dX10_pairs_134 (by decide) ?_
              refine g_sub [(0, gF c0), (1, gI a1), (2, gI v11), (3, gI v29), (4, gI v56), (5, gI v33), (6, gI (v27 + 1)), (7, gI v28), (8, gI v11), (9, gI v29)] [6, 7, 1, 0, 3, 2, 4, 8, 9, 10] rfl ?_
              exact J44 v11 v29 v56 v33 (v27 + 1) v28 M52 h
  · replace h := h.2 c3
    refine g_bipush C dX10_pairs_12 gRc_m3 gRb_m3 ?_
    exact g_iret C hR dX10_pairs_14 h

set_option maxRecDepth 100000 in
set_option maxHeartbeats 4000000 in
theorem sX10_parts {l : Launch} {V : gW} (hD : gD V) (c0 : Int) (M0 : gMem) (K : Int → gMem → Prop) (hT0 : gT c0 10) (h : wX10_parts c0 K M0) (hM : gOM M0) (ho : ∀ q ∈ ([] : List gSV), gOK q) : gMi l V yX10_parts cX10_parts 5 (some .int) 1 25 [gF c0] M0 K := by
  refine gMi_of hD (by decide) (Nat.le_of_ble_eq_true rfl) [(0, gF c0)] rfl (gok_L rfl (gok_n (q := gF c0) trivial ho)) hM (fun X C hR => ?_)
  unfold wX10_parts at h
  refine g_aloadn C dX10_parts_0 0 rfl ?_
  refine g_iconst C dX10_parts_1 gRc_0 ?_
  refine g_cVv (st := []) C dX10_parts_2 ykX10_finds wd_1030 ⟨by decide, by decide⟩ [gI 0] rfl (Nat.le_of_ble_eq_true rfl) hT0 (fun hM ho => sX10_finds hD c0 0 M0 _ hT0 h hM ho) (fun M1 h => ?_)
  refine g_iconst C dX10_parts_5 gRc_0 ?_
  refine g_istoren C [(1, gI 0), (0, gF c0)] dX10_parts_6 (by decide) rfl ?_
  refine g_iconst C dX10_parts_7 gRc_0 ?_
  refine g_istoren C [(2, gI 0), (1, gI 0), (0, gF c0)] dX10_parts_8 (by decide) rfl ?_
  refine g_sub [(0, gF c0), (1, gI 0), (2, gI 0)] [2, 1, 0] rfl ?_
  refine gL2_go (Gd := fun (v2 : Int) (v3 : Int) (M4 : gMem) => gG X V 5 9 [(0, gF c0), (1, gI v2), (2, gI v3)] [] M4) (fun rec5 hrec5 v2 v3 M4 h => ?_) h
  refine g_iloadn C dX10_parts_9 2 rfl ?_
  refine g_aloadn C dX10_parts_10 0 rfl ?_
  refine gf_10_2 C dX10_parts_11 wd_857 hT0 ?_
  refine g_ic_ge (t := 72) C dX10_parts_14 (by decide) (fun c6 => ?_) (fun c6 => ?_)
  · replace h := h.1 c6
    refine g_iloadn C dX10_parts_72 1 rfl ?_
    exact g_iret C hR dX10_parts_73 h
  · replace h := h.2 c6
    refine g_iconst C dX10_parts_17 gRc_1 ?_
    refine g_istoren C [(3, gI 1), (0, gF c0), (1, gI v2), (2, gI v3)] dX10_parts_18 (by decide) rfl ?_
    refine g_iconst C dX10_parts_19 gRc_0 ?_
    refine g_istore C [(4, gI 0), (3, gI 1), (0, gF c0), (1, gI v2), (2, gI v3)] dX10_parts_20 (by decide) rfl ?_
    refine g_sub [(0, gF c0), (1, gI v2), (2, gI v3), (3, gI 1), (4, gI 0)] [2, 3, 4, 1, 0] rfl ?_
    refine gL2_go (Gd := fun (v7 : Int) (v8 : Int) (M9 : gMem) => gG X V 5 22 [(0, gF c0), (1, gI v2), (2, gI v3), (3, gI v7), (4, gI v8)] [] M9) (fun rec10 hrec10 v7 v8 M9 h => ?_) h
    refine g_iload C dX10_parts_22 4 rfl ?_
    refine g_iloadn C dX10_parts_24 2 rfl ?_
    refine g_ic_ge (t := 54) C dX10_parts_25 (by decide) (fun c11 => ?_) (fun c11 => ?_)
    · replace h := h.1 c11
      refine g_iloadn C dX10_parts_54 1 rfl ?_
      refine g_iloadn C dX10_parts_55 3 rfl ?_
      obtain ⟨P14, h, hP14⟩ := h
      have J15 : ∀ (x12 : Int) (M13 : gMem), P14 x12 M13 → gG X V 5 64 [(0, gF c0), (2, gI v3)] [gI x12, gI v2] M13 := by
        intro x12 M13 h
        replace h := hP14 x12 M13 h
        refine g_iadd C dX10_parts_64 h.1 ?_
        replace h := h.2
        obtain ⟨v16, ev16⟩ : ∃ x : Int, x = (v2 + x12) := ⟨_, rfl⟩
        refine g_nm ev16 ?_
        replace h := h v16 ev16
        refine g_istoren C [(1, gI v16), (0, gF c0), (2, gI v3)] dX10_parts_65 (by decide) rfl ?_
        refine g_iinc C [(2, gI (v3 + 1)), (1, gI v16), (0, gF c0)] dX10_parts_66 2 rfl (by decide) h.1 rfl ?_
        replace h := h.2
        refine g_goto (t := 9) C dX10_parts_69 (by decide) ?_
        refine g_sub [(0, gF c0), (1, gI v16), (2, gI (v3 + 1))] [2, 1, 0] rfl ?_
        exact hrec5 v16 (v3 + 1) M13 h
      refine g_if_eq (t := 63) C dX10_parts_56 (by decide) (fun c17 => ?_) (fun c17 => ?_)
      · replace h := h.1 c17
        refine g_iconst C dX10_parts_63 gRc_0 ?_
        refine g_sub [(0, gF c0), (2, gI v3)] [0, 2] rfl ?_
        exact J15 0 M9 h
      · replace h := h.2 c17
        refine g_iconst C dX10_parts_59 gRc_1 ?_
        refine g_goto (t := 64) C dX10_parts_60 (by decide) ?_
        refine g_sub [(0, gF c0), (2, gI v3)] [0, 2] rfl ?_
        exact J15 1 M9 h
    · replace h := h.2 c11
      refine g_iloadn C dX10_parts_28 3 rfl ?_
      obtain ⟨P20, h, hP20⟩ := h
      have J21 : ∀ (x18 : Int) (M19 : gMem), P20 x18 M19 → gG X V 5 47 [(0, gF c0), (1, gI v2), (2, gI v3), (4, gI v8)] [gI x18] M19 := by
        intro x18 M19 h
        replace h := hP20 x18 M19 h
        refine g_istoren C [(3, gI x18), (0, gF c0), (1, gI v2), (2, gI v3), (4, gI v8)] dX10_parts_47 (by decide) rfl ?_
        refine g_iinc C [(4, gI (v8 + 1)), (3, gI x18), (0, gF c0), (1, gI v2), (2, gI v3)] dX10_parts_48 4 rfl (by decide) h.1 rfl ?_
        replace h := h.2
        refine g_goto (t := 22) C dX10_parts_51 (by decide) ?_
        refine g_sub [(0, gF c0), (1, gI v2), (2, gI v3), (3, gI x18), (4, gI (v8 + 1))] [2, 3, 4, 1, 0] rfl ?_
        exact hrec10 x18 (v8 + 1) M19 h
      obtain ⟨P23, h, hP23⟩ := h
      have J24 : ∀ (M22 : gMem), P23 M22 → gG X V 5 46 [(0, gF c0), (1, gI v2), (2, gI v3), (4, gI v8)] [] M22 := by
        intro M22 h
        replace h := hP23 M22 h
        refine g_iconst C dX10_parts_46 gRc_0 ?_
        exact J21 0 M22 h
      refine g_if_eq (t := 46) C dX10_parts_29 (by decide) (fun c25 => ?_) (fun c25 => ?_)
      · replace h := h.1 c25
        refine g_sub [(0, gF c0), (1, gI v2), (2, gI v3), (4, gI v8)] [0, 1, 2, 4] rfl ?_
        exact J24 M9 h
      · replace h := h.2 c25
        refine g_aloadn C dX10_parts_32 0 rfl ?_
        refine g_iloadn C dX10_parts_33 2 rfl ?_
        refine g_iload C dX10_parts_34 4 rfl ?_
        refine g_cVi (st := []) C dX10_parts_36 ykX10_isWay wd_1035 ⟨by decide, by decide⟩ [gI v3, gI v8] rfl (Nat.le_of_ble_eq_true rfl) hT0 (fun hM ho => sX10_isWay hD c0 v3 v8 M9 _ hT0 h hM ho) (fun r27 M26 h => ?_)
        refine g_if_ne (t := 46) C dX10_parts_39 (by decide) (fun c28 => ?_) (fun c28 => ?_)
        · replace h := h.1 c28
          refine g_sub [(0, gF c0), (1, gI v2), (2, gI v3), (4, gI v8)] [0, 1, 2, 4] rfl ?_
          exact J24 M26 h
        · replace h := h.2 c28
          refine g_iconst C dX10_parts_42 gRc_1 ?_
          refine g_goto (t := 47) C dX10_parts_43 (by decide) ?_
          refine g_sub [(0, gF c0), (1, gI v2), (2, gI v3), (4, gI v8)] [0, 1, 2, 4] rfl ?_
          exact J21 1 M26 h

set_option maxRecDepth 100000 in
set_option maxHeartbeats 4000000 in
theorem sX10_freshNotes {l : Launch} {V : gW} (hD : gD V) (c0 : Int) (M0 : gMem) (K : Int → gMem → Prop) (hT0 : gT c0 10) (h : wX10_freshNotes c0 K M0) (hM : gOM M0) (ho : ∀ q ∈ ([] : List gSV), gOK q) : gMi l V yX10_freshNotes cX10_freshNotes 3 (some .int) 6 138 [gF c0] M0 K := by
  refine gMi_of hD (by decide) (Nat.le_of_ble_eq_true rfl) [(0, gF c0)] rfl (gok_L rfl (gok_n (q := gF c0) trivial ho)) hM (fun X C hR => ?_)
  unfold wX10_freshNotes at h
  refine g_aloadn C dX10_freshNotes_0 0 rfl ?_
  refine g_iconst C dX10_freshNotes_1 gRc_0 ?_
  refine g_cVv (st := []) C dX10_freshNotes_2 ykX10_finds wd_1030 ⟨by decide, by decide⟩ [gI 0] rfl (Nat.le_of_ble_eq_true rfl) hT0 (fun hM ho => sX10_finds hD c0 0 M0 _ hT0 h hM ho) (fun M1 h => ?_)
  refine g_iconst C dX10_freshNotes_5 gRc_0 ?_
  refine g_istoren C [(1, gI 0), (0, gF c0)] dX10_freshNotes_6 (by decide) rfl ?_
  refine g_iconst C dX10_freshNotes_7 gRc_0 ?_
  refine g_istoren C [(2, gI 0), (1, gI 0), (0, gF c0)] dX10_freshNotes_8 (by decide) rfl ?_
  refine g_sub [(0, gF c0), (1, gI 0), (2, gI 0)] [2, 1, 0] rfl ?_
  refine gL2_go (Gd := fun (v2 : Int) (v3 : Int) (M4 : gMem) => gG X V 3 9 [(0, gF c0), (1, gI v2), (2, gI v3)] [] M4) (fun rec5 hrec5 v2 v3 M4 h => ?_) h
  refine g_iloadn C dX10_freshNotes_9 2 rfl ?_
  refine g_aloadn C dX10_freshNotes_10 0 rfl ?_
  refine gf_10_2 C dX10_freshNotes_11 wd_857 hT0 ?_
  refine g_ic_ge (t := 39) C dX10_freshNotes_14 (by decide) (fun c6 => ?_) (fun c6 => ?_)
  · replace h := h.1 c6
    refine g_iloadn C dX10_freshNotes_39 1 rfl ?_
    exact g_iret C hR dX10_freshNotes_40 h
  · replace h := h.2 c6
    refine g_iloadn C dX10_freshNotes_17 1 rfl ?_
    refine g_aloadn C dX10_freshNotes_18 0 rfl ?_
    refine g_iloadn C dX10_freshNotes_19 2 rfl ?_
    refine g_cVi (st := [gI v2]) C dX10_freshNotes_20 ykX10_isFresh wd_1164 ⟨by decide, by decide⟩ [gI v3] rfl (Nat.le_of_ble_eq_true rfl) hT0 (fun hM ho => sX10_isFresh hD c0 v3 M4 _ hT0 h hM ho) (fun r8 M7 h => ?_)
    obtain ⟨P11, h, hP11⟩ := h
    have J12 : ∀ (x9 : Int) (M10 : gMem), P11 x9 M10 → gG X V 3 31 [(0, gF c0), (2, gI v3)] [gI x9, gI v2] M10 := by
      intro x9 M10 h
      replace h := hP11 x9 M10 h
      refine g_iadd C dX10_freshNotes_31 h.1 ?_
      replace h := h.2
      obtain ⟨v13, ev13⟩ : ∃ x : Int, x = (v2 + x9) := ⟨_, rfl⟩
      refine g_nm ev13 ?_
      replace h := h v13 ev13
      refine g_istoren C [(1, gI v13), (0, gF c0), (2, gI v3)] dX10_freshNotes_32 (by decide) rfl ?_
      refine g_iinc C [(2, gI (v3 + 1)), (1, gI v13), (0, gF c0)] dX10_freshNotes_33 2 rfl (by decide) h.1 rfl ?_
      replace h := h.2
      refine g_goto (t := 9) C dX10_freshNotes_36 (by decide) ?_
      refine g_sub [(0, gF c0), (1, gI v13), (2, gI (v3 + 1))] [2, 1, 0] rfl ?_
      exact hrec5 v13 (v3 + 1) M10 h
    refine g_if_eq (t := 30) C dX10_freshNotes_23 (by decide) (fun c14 => ?_) (fun c14 => ?_)
    · replace h := h.1 c14
      refine g_iconst C dX10_freshNotes_30 gRc_0 ?_
      refine g_sub [(0, gF c0), (2, gI v3)] [0, 2] rfl ?_
      exact J12 0 M7 h
    · replace h := h.2 c14
      refine g_iconst C dX10_freshNotes_26 gRc_1 ?_
      refine g_goto (t := 31) C dX10_freshNotes_27 (by decide) ?_
      refine g_sub [(0, gF c0), (2, gI v3)] [0, 2] rfl ?_
      exact J12 1 M7 h

set_option maxRecDepth 100000 in
set_option maxHeartbeats 4000000 in
theorem sX10_inBunches {l : Launch} {V : gW} (hD : gD V) (c0 : Int) (M0 : gMem) (K : Int → gMem → Prop) (hT0 : gT c0 10) (h : wX10_inBunches c0 K M0) (hM : gOM M0) (ho : ∀ q ∈ ([] : List gSV), gOK q) : gMi l V yX10_inBunches cX10_inBunches 3 (some .int) 1 22 [gF c0] M0 K := by
  refine gMi_of hD (by decide) (Nat.le_of_ble_eq_true rfl) [(0, gF c0)] rfl (gok_L rfl (gok_n (q := gF c0) trivial ho)) hM (fun X C hR => ?_)
  unfold wX10_inBunches at h
  refine g_iconst C dX10_inBunches_0 gRc_0 ?_
  refine g_istoren C [(1, gI 0), (0, gF c0)] dX10_inBunches_1 (by decide) rfl ?_
  refine g_iconst C dX10_inBunches_2 gRc_0 ?_
  refine g_istoren C [(2, gI 0), (1, gI 0), (0, gF c0)] dX10_inBunches_3 (by decide) rfl ?_
  refine g_sub [(0, gF c0), (1, gI 0), (2, gI 0)] [2, 1, 0] rfl ?_
  refine gL2_go (Gd := fun (v1 : Int) (v2 : Int) (M3 : gMem) => gG X V 3 4 [(0, gF c0), (1, gI v1), (2, gI v2)] [] M3) (fun rec4 hrec4 v1 v2 M3 h => ?_) h
  refine g_iloadn C dX10_inBunches_4 2 rfl ?_
  refine g_aloadn C dX10_inBunches_5 0 rfl ?_
  refine gf_10_2 C dX10_inBunches_6 wd_857 hT0 ?_
  refine g_ic_ge (t := 48) C dX10_inBunches_9 (by decide) (fun c5 => ?_) (fun c5 => ?_)
  · replace h := h.1 c5
    refine g_iloadn C dX10_inBunches_48 1 rfl ?_
    exact g_iret C hR dX10_inBunches_49 h
  · replace h := h.2 c5
    refine g_iloadn C dX10_inBunches_12 1 rfl ?_
    refine g_aloadn C dX10_inBunches_13 0 rfl ?_
    refine g_iloadn C dX10_inBunches_14 2 rfl ?_
    refine g_cVi (st := [gI v1]) C dX10_inBunches_15 ykX10_isWritten wd_1134 ⟨by decide, by decide⟩ [gI v2] rfl (Nat.le_of_ble_eq_true rfl) hT0 (fun hM ho => sX10_isWritten hD c0 v2 M3 _ hT0 h hM ho) (fun r7 M6 h => ?_)
    obtain ⟨P10, h, hP10⟩ := h
    have J11 : ∀ (x8 : Int) (M9 : gMem), P10 x8 M9 → gG X V 3 40 [(0, gF c0), (2, gI v2)] [gI x8, gI v1] M9 := by
      intro x8 M9 h
      replace h := hP10 x8 M9 h
      refine g_iadd C dX10_inBunches_40 h.1 ?_
      replace h := h.2
      obtain ⟨v12, ev12⟩ : ∃ x : Int, x = (v1 + x8) := ⟨_, rfl⟩
      refine g_nm ev12 ?_
      replace h := h v12 ev12
      refine g_istoren C [(1, gI v12), (0, gF c0), (2, gI v2)] dX10_inBunches_41 (by decide) rfl ?_
      refine g_iinc C [(2, gI (v2 + 1)), (1, gI v12), (0, gF c0)] dX10_inBunches_42 2 rfl (by decide) h.1 rfl ?_
      replace h := h.2
      refine g_goto (t := 4) C dX10_inBunches_45 (by decide) ?_
      refine g_sub [(0, gF c0), (1, gI v12), (2, gI (v2 + 1))] [2, 1, 0] rfl ?_
      exact hrec4 v12 (v2 + 1) M9 h
    refine g_if_eq (t := 39) C dX10_inBunches_18 (by decide) (fun c13 => ?_) (fun c13 => ?_)
    · replace h := h.1 c13
      refine g_iconst C dX10_inBunches_39 gRc_0 ?_
      refine g_sub [(0, gF c0), (2, gI v2)] [0, 2] rfl ?_
      exact J11 0 M6 h
    · replace h := h.2 c13
      refine g_aloadn C dX10_inBunches_21 0 rfl ?_
      refine gf_10_3 C dX10_inBunches_22 wd_858 hT0 ?_
      refine g_bipush C dX10_inBunches_25 gRc_20 gRb_20 ?_
      refine g_iloadn C dX10_inBunches_27 2 rfl ?_
      refine g_imul C dX10_inBunches_28 h.1 ?_
      replace h := h.2
      refine g_bipush C dX10_inBunches_29 gRc_7 gRb_7 ?_
      refine g_iadd C dX10_inBunches_31 h.1 ?_
      replace h := h.2
      refine g_iald C dX10_inBunches_32 (gt_10_3 hT0) gce_10720 h.1 ?_
      replace h := h.2
      refine g_cSi (st := [gI v1]) C dX10_inBunches_33 ykX10_ones wd_1157 ⟨by decide, by decide⟩ [gI (M6 (c0 + 2) ((20 * v2) + 7))] rfl (Nat.le_of_ble_eq_true rfl) (fun hM ho => sX10_ones hD (M6 (c0 + 2) ((20 * v2) + 7)) M6 _  h hM ho) (fun r15 M14 h => ?_)
      refine g_goto (t := 40) C dX10_inBunches_36 (by decide) ?_
      refine g_sub [(0, gF c0), (2, gI v2)] [0, 2] rfl ?_
      exact J11 r15 M14 h

set_option maxRecDepth 100000 in
set_option maxHeartbeats 4000000 in
theorem sX10_ofLevel {l : Launch} {V : gW} (hD : gD V) (c0 a1 : Int) (M0 : gMem) (K : Int → gMem → Prop) (hT0 : gT c0 10) (h : wX10_ofLevel c0 a1 K M0) (hM : gOM M0) (ho : ∀ q ∈ ([gI a1] : List gSV), gOK q) : gMi l V yX10_ofLevel cX10_ofLevel 4 (some .int) 0 0 [gF c0, gI a1] M0 K := by
  refine gMi_of hD (by decide) (Nat.le_of_ble_eq_true rfl) [(0, gF c0), (1, gI a1)] rfl (gok_L rfl (gok_n (q := gF c0) trivial ho)) hM (fun X C hR => ?_)
  unfold wX10_ofLevel at h
  refine g_iconst C dX10_ofLevel_0 gRc_0 ?_
  refine g_istoren C [(2, gI 0), (0, gF c0), (1, gI a1)] dX10_ofLevel_1 (by decide) rfl ?_
  refine g_iconst C dX10_ofLevel_2 gRc_0 ?_
  refine g_istoren C [(3, gI 0), (2, gI 0), (0, gF c0), (1, gI a1)] dX10_ofLevel_3 (by decide) rfl ?_
  refine g_sub [(0, gF c0), (1, gI a1), (2, gI 0), (3, gI 0)] [2, 3, 1, 0] rfl ?_
  refine gL2_go (Gd := fun (v1 : Int) (v2 : Int) (M3 : gMem) => gG X V 4 4 [(0, gF c0), (1, gI a1), (2, gI v1), (3, gI v2)] [] M3) (fun rec4 hrec4 v1 v2 M3 h => ?_) h
  refine g_iloadn C dX10_ofLevel_4 3 rfl ?_
  refine g_aloadn C dX10_ofLevel_5 0 rfl ?_
  refine gf_10_2 C dX10_ofLevel_6 wd_857 hT0 ?_
  refine g_ic_ge (t := 40) C dX10_ofLevel_9 (by decide) (fun c5 => ?_) (fun c5 => ?_)
  · replace h := h.1 c5
    refine g_iloadn C dX10_ofLevel_40 2 rfl ?_
    exact g_iret C hR dX10_ofLevel_41 h
  · replace h := h.2 c5
    refine g_iloadn C dX10_ofLevel_12 2 rfl ?_
    refine g_aloadn C dX10_ofLevel_13 0 rfl ?_
    refine gf_10_0 C dX10_ofLevel_14 wd_855 hT0 ?_
    refine g_sipush C dX10_ofLevel_17 gRc_144 gRs_144 ?_
    refine g_iloadn C dX10_ofLevel_20 3 rfl ?_
    refine g_iadd C dX10_ofLevel_21 h.1 ?_
    replace h := h.2
    refine g_iald C dX10_ofLevel_22 (gt_10_0 hT0) gce_11727 h.1 ?_
    replace h := h.2
    refine g_iloadn C dX10_ofLevel_23 1 rfl ?_
    obtain ⟨P8, h, hP8⟩ := h
    have J9 : ∀ (x6 : Int) (M7 : gMem), P8 x6 M7 → gG X V 4 32 [(0, gF c0), (1, gI a1), (3, gI v2)] [gI x6, gI v1] M7 := by
      intro x6 M7 h
      replace h := hP8 x6 M7 h
      refine g_iadd C dX10_ofLevel_32 h.1 ?_
      replace h := h.2
      obtain ⟨v10, ev10⟩ : ∃ x : Int, x = (v1 + x6) := ⟨_, rfl⟩
      refine g_nm ev10 ?_
      replace h := h v10 ev10
      refine g_istoren C [(2, gI v10), (0, gF c0), (1, gI a1), (3, gI v2)] dX10_ofLevel_33 (by decide) rfl ?_
      refine g_iinc C [(3, gI (v2 + 1)), (2, gI v10), (0, gF c0), (1, gI a1)] dX10_ofLevel_34 3 rfl (by decide) h.1 rfl ?_
      replace h := h.2
      refine g_goto (t := 4) C dX10_ofLevel_37 (by decide) ?_
      refine g_sub [(0, gF c0), (1, gI a1), (2, gI v10), (3, gI (v2 + 1))] [2, 3, 1, 0] rfl ?_
      exact hrec4 v10 (v2 + 1) M7 h
    refine g_ic_ne (t := 31) C dX10_ofLevel_24 (by decide) (fun c11 => ?_) (fun c11 => ?_)
    · replace h := h.1 c11
      refine g_iconst C dX10_ofLevel_31 gRc_0 ?_
      refine g_sub [(0, gF c0), (1, gI a1), (3, gI v2)] [0, 1, 3] rfl ?_
      exact J9 0 M3 h
    · replace h := h.2 c11
      refine g_iconst C dX10_ofLevel_27 gRc_1 ?_
      refine g_goto (t := 32) C dX10_ofLevel_28 (by decide) ?_
      refine g_sub [(0, gF c0), (1, gI a1), (3, gI v2)] [0, 1, 3] rfl ?_
      exact J9 1 M3 h

set_option maxRecDepth 100000 in
set_option maxHeartbeats 4000000 in
theorem sX10_count {l : Launch} {V : gW} (hD : gD V) (c0 a1 : Int) (M0 : gMem) (K : Int → gMem → Prop) (hT0 : gT c0 10) (h : wX10_count c0 a1 K M0) (hM : gOM M0) (ho : ∀ q ∈ ([gI a1] : List gSV), gOK q) : gMi l V yX10_count cX10_count 2 (some .int) 7 160 [gF c0, gI a1] M0 K := by
  refine gMi_of hD (by decide) (Nat.le_of_ble_eq_true rfl) [(0, gF c0), (1, gI a1)] rfl (gok_L rfl (gok_n (q := gF c0) trivial ho)) hM (fun X C hR => ?_)
  unfold wX10_count at h
  refine g_iloadn C dX10_count_0 1 rfl ?_
  obtain ⟨P2, h, hP2⟩ := h
  have J3 : ∀ (M1 : gMem), P2 M1 → gG X V 2 113 [(0, gF c0), (1, gI a1)] [] M1 := by
    intro M1 h
    replace h := hP2 M1 h
    refine g_aloadn C dX10_count_113 0 rfl ?_
    refine g_iloadn C dX10_count_114 1 rfl ?_
    refine g_bipush C dX10_count_115 gRc_9 gRb_9 ?_
    refine g_isub C dX10_count_117 h.1 ?_
    replace h := h.2
    refine g_cVi (st := []) C dX10_count_118 ykX10_ofLevel wd_1222 ⟨by decide, by decide⟩ [gI (a1 - 9)] rfl (Nat.le_of_ble_eq_true rfl) hT0 (fun hM ho => sX10_ofLevel hD c0 (a1 - 9) M1 _ hT0 h hM ho) (fun r5 M4 h => ?_)
    exact g_iret C hR dX10_count_121 h
  refine g_switch (t := 122) C dX10_count_1 (by decide) (fun c => ?_) (fun c1 c2 => ?_)
  · replace h := h.2.2.2.2.2.2.2.2.2.2.2.2 c
    refine g_bipush C dX10_count_122 gRc_m3 gRb_m3 ?_
    exact g_iret C hR dX10_count_124 h
  · obtain ⟨q16, eq16⟩ : ∃ q16 : Nat, a1 = 0 + (q16 : Int) := ⟨(a1 - 0).toNat, by omega⟩
    match q16, eq16 with
    | 0, eq16 =>
      refine ⟨_, 64, by rw [eq16]; rfl, by decide, ?_⟩
      replace h := h.1 (by omega)
      refine g_aloadn C dX10_count_64 0 rfl ?_
      refine gf_10_2 C dX10_count_65 wd_857 hT0 ?_
      exact g_iret C hR dX10_count_68 h
    | 1, eq16 =>
      refine ⟨_, 69, by rw [eq16]; rfl, by decide, ?_⟩
      replace h := h.2.1 (by omega)
      refine g_aloadn C dX10_count_69 0 rfl ?_
      refine g_cVi (st := []) C dX10_count_70 ykX10_links wd_952 ⟨by decide, by decide⟩ [] rfl (Nat.le_of_ble_eq_true rfl) hT0 (fun hM ho => sX10_links hD c0 M0 _ hT0 h hM ho) (fun r7 M6 h => ?_)
      exact g_iret C hR dX10_count_73 h
    | 2, eq16 =>
      refine ⟨_, 74, by rw [eq16]; rfl, by decide, ?_⟩
      replace h := h.2.2.1 (by omega)
      refine g_aloadn C dX10_count_74 0 rfl ?_
      refine g_cVi (st := []) C dX10_count_75 ykX10_parts wd_1210 ⟨by decide, by decide⟩ [] rfl (Nat.le_of_ble_eq_true rfl) hT0 (fun hM ho => sX10_parts hD c0 M0 _ hT0 h hM ho) (fun r9 M8 h => ?_)
      exact g_iret C hR dX10_count_78 h
    | 3, eq16 =>
      refine ⟨_, 79, by rw [eq16]; rfl, by decide, ?_⟩
      replace h := h.2.2.2.1 (by omega)
      refine g_aloadn C dX10_count_79 0 rfl ?_
      refine g_cVi (st := []) C dX10_count_80 ykX10_written wd_1130 ⟨by decide, by decide⟩ [] rfl (Nat.le_of_ble_eq_true rfl) hT0 (fun hM ho => sX10_written hD c0 M0 _ hT0 h hM ho) (fun r11 M10 h => ?_)
      exact g_iret C hR dX10_count_83 h
    | 4, eq16 =>
      refine ⟨_, 84, by rw [eq16]; rfl, by decide, ?_⟩
      replace h := h.2.2.2.2.1 (by omega)
      refine g_aloadn C dX10_count_84 0 rfl ?_
      refine g_cVi (st := []) C dX10_count_85 ykX10_freshNotes wd_1214 ⟨by decide, by decide⟩ [] rfl (Nat.le_of_ble_eq_true rfl) hT0 (fun hM ho => sX10_freshNotes hD c0 M0 _ hT0 h hM ho) (fun r13 M12 h => ?_)
      exact g_iret C hR dX10_count_88 h
    | 5, eq16 =>
      refine ⟨_, 89, by rw [eq16]; rfl, by decide, ?_⟩
      replace h := h.2.2.2.2.2.1 (by omega)
      refine g_aloadn C dX10_count_89 0 rfl ?_
      refine g_cVi (st := []) C dX10_count_90 ykX10_inBunches wd_1218 ⟨by decide, by decide⟩ [] rfl (Nat.le_of_ble_eq_true rfl) hT0 (fun hM ho => sX10_inBunches hD c0 M0 _ hT0 h hM ho) (fun r15 M14 h => ?_)
      exact g_iret C hR dX10_count_93 h
    | 6, eq16 =>
      refine ⟨_, 94, by rw [eq16]; rfl, by decide, ?_⟩
      replace h := h.2.2.2.2.2.2.1 (by omega)
      refine g_aloadn C dX10_count_94 0 rfl ?_
      refine gf_10_1 C dX10_count_95 wd_856 hT0 ?_
      exact g_iret C hR dX10_count_98 h
    | 7, eq16 =>
      refine ⟨_, 99, by rw [eq16]; rfl, by decide, ?_⟩
      replace h := h.2.2.2.2.2.2.2.1 (by omega)
      refine g_aloadn C dX10_count_99 0 rfl ?_
      refine gf_10_6 C dX10_count_100 wd_861 hT0 ?_
      exact g_iret C hR dX10_count_103 h
    | 8, eq16 =>
      refine ⟨_, 104, by rw [eq16]; rfl, by decide, ?_⟩
      replace h := h.2.2.2.2.2.2.2.2.1 (by omega)
      refine g_aloadn C dX10_count_104 0 rfl ?_
      refine gf_10_0 C dX10_count_105 wd_855 hT0 ?_
      refine g_sipush C dX10_count_108 gRc_156 gRs_156 ?_
      refine g_iald C dX10_count_111 (gt_10_0 hT0) gce_11727 h.1 ?_
      replace h := h.2
      exact g_iret C hR dX10_count_112 h
    | 9, eq16 =>
      refine ⟨_, 113, by rw [eq16]; rfl, by decide, ?_⟩
      replace h := h.2.2.2.2.2.2.2.2.2.1 (by omega)
      exact J3 M0 h
    | 10, eq16 =>
      refine ⟨_, 113, by rw [eq16]; rfl, by decide, ?_⟩
      replace h := h.2.2.2.2.2.2.2.2.2.2.1 (by omega)
      exact J3 M0 h
    | 11, eq16 =>
      refine ⟨_, 113, by rw [eq16]; rfl, by decide, ?_⟩
      replace h := h.2.2.2.2.2.2.2.2.2.2.2.1 (by omega)
      exact J3 M0 h
    | q16 + 12, eq16 => exact absurd eq16 (by omega)
