set_option maxRecDepth 100000 in
set_option maxHeartbeats 4000000 in
theorem sX10_readsClause {l : Launch} {V : gW} (hD : gD V) (c0 : Int) (M0 : gMem) (K : Int → gMem → Prop) (hT0 : gT c0 10) (h : wX10_readsClause c0 K M0) (hM : gOM M0) (ho : ∀ q ∈ ([] : List gSV), gOK q) : gMi l V yX10_readsClause cX10_readsClause 3 (some .boolean) 5 114 [gF c0] M0 K := by
  refine gMi_of hD (by decide) (Nat.le_of_ble_eq_true rfl) [(0, gF c0)] rfl (gok_L rfl (gok_n (q := gF c0) trivial ho)) hM (fun X C hR => ?_)
  unfold wX10_readsClause at h
  refine g_aloadn C dX10_readsClause_0 0 rfl ?_
  refine g_cVi (st := []) C dX10_readsClause_1 ykX10_wordHere wd_974 ⟨by decide, by decide⟩ [] rfl (Nat.le_of_ble_eq_true rfl) hT0 (fun hM ho => sX10_wordHere hD c0 M0 _ hT0 h hM ho) (fun r2 M1 h => ?_)
  refine g_istoren C [(1, gI r2), (0, gF c0)] dX10_readsClause_4 (by decide) rfl ?_
  refine g_iloadn C dX10_readsClause_5 0 rfl ?_
  refine g_iconst C dX10_readsClause_6 gRc_m1 ?_
  refine g_ic_ne (t := 12) C dX10_readsClause_7 (by decide) (fun c3 => ?_) (fun c3 => ?_)
  · replace h := h.1 c3
    refine g_aloadn C dX10_readsClause_12 1 rfl ?_
    refine g_cVv (st := []) C dX10_readsClause_13 ykX10_nextToken wd_956 ⟨by decide, by decide⟩ [] rfl (Nat.le_of_ble_eq_true rfl) hT0 (fun hM ho => sX10_nextToken hD c0 M1 _ hT0 h hM ho) (fun M4 h => ?_)
    refine g_iloadn C dX10_readsClause_16 0 rfl ?_
    obtain ⟨P7, h, hP7⟩ := h
    have J8 : ∀ (x5 : Int) (M6 : gMem), P7 x5 M6 → gG X V 3 107 [(0, gF c0), (1, gI r2)] [gI x5] M6 := by
      intro x5 M6 h
      replace h := hP7 x5 M6 h
      refine g_istoren C [(2, gI x5), (0, gF c0), (1, gI r2)] dX10_readsClause_107 (by decide) rfl ?_
      refine g_iloadn C dX10_readsClause_108 0 rfl ?_
      refine g_if_ne (t := 114) C dX10_readsClause_109 (by decide) (fun c9 => ?_) (fun c9 => ?_)
      · replace h := h.1 c9
        refine g_iloadn C dX10_readsClause_114 2 rfl ?_
        obtain ⟨P11, h, hP11⟩ := h
        have J12 : ∀ (M10 : gMem), P11 M10 → gG X V 3 134 [(0, gF c0), (1, gI r2)] [] M10 := by
          intro M10 h
          replace h := hP11 M10 h
          refine g_aloadn C dX10_readsClause_134 0 rfl ?_
          refine gf_10_13 C dX10_readsClause_135 wd_868 hT0 ?_
          obtain ⟨P14, h, hP14⟩ := h
          have J15 : ∀ (M13 : gMem), P14 M13 → gG X V 3 146 [] [] M13 := by
            intro M13 h
            replace h := hP14 M13 h
            refine g_iconst C dX10_readsClause_146 gRc_1 ?_
            exact g_zret C hR dX10_readsClause_147 (Or.inr rfl) h
          refine g_if_eq (t := 146) C dX10_readsClause_138 (by decide) (fun c16 => ?_) (fun c16 => ?_)
          · replace h := h.1 c16
            refine g_sub [] [] rfl ?_
            exact J15 M10 h
          · replace h := h.2 c16
            refine g_aloadn C dX10_readsClause_141 0 rfl ?_
            refine g_iloadn C dX10_readsClause_142 1 rfl ?_
            refine g_cVv (st := []) C dX10_readsClause_143 ykX10_does wd_998 ⟨by decide, by decide⟩ [gI r2] rfl (Nat.le_of_ble_eq_true rfl) hT0 (fun hM ho => sX10_does hD c0 r2 M10 _ hT0 h hM ho) (fun M17 h => ?_)
            refine g_sub [] [] rfl ?_
            exact J15 M17 h
        refine g_if_ne (t := 125) C dX10_readsClause_115 (by decide) (fun c18 => ?_) (fun c18 => ?_)
        · replace h := h.1 c18
          refine g_iloadn C dX10_readsClause_125 2 rfl ?_
          refine g_iconst C dX10_readsClause_126 gRc_1 ?_
          refine g_ic_ne (t := 134) C dX10_readsClause_127 (by decide) (fun c19 => ?_) (fun c19 => ?_)
          · replace h := h.1 c19
            refine g_sub [(0, gF c0), (1, gI r2)] [1, 2] rfl ?_
            exact J12 M6 h
          · replace h := h.2 c19
            refine g_aloadn C dX10_readsClause_130 1 rfl ?_
            refine g_cVv (st := []) C dX10_readsClause_131 ykX10_tellsLink wd_994 ⟨by decide, by decide⟩ [] rfl (Nat.le_of_ble_eq_true rfl) hT0 (fun hM ho => sX10_tellsLink hD c0 M6 _ hT0 h hM ho) (fun M20 h => ?_)
            refine g_sub [(0, gF c0), (1, gI r2)] [1, 2] rfl ?_
            exact J12 M20 h
        · replace h := h.2 c18
          refine g_aloadn C dX10_readsClause_118 1 rfl ?_
          refine g_cVv (st := []) C dX10_readsClause_119 ykX10_tellsNet wd_990 ⟨by decide, by decide⟩ [] rfl (Nat.le_of_ble_eq_true rfl) hT0 (fun hM ho => sX10_tellsNet hD c0 M6 _ hT0 h hM ho) (fun M21 h => ?_)
          refine g_goto (t := 134) C dX10_readsClause_122 (by decide) ?_
          refine g_sub [(0, gF c0), (1, gI r2)] [1, 2] rfl ?_
          exact J12 M21 h
      · replace h := h.2 c9
        refine g_iconst C dX10_readsClause_112 gRc_0 ?_
        exact g_zret C hR dX10_readsClause_113 (Or.inl rfl) h
    refine g_if_ne (t := 31) C dX10_readsClause_17 (by decide) (fun c22 => ?_) (fun c22 => ?_)
    · replace h := h.1 c22
      refine g_iloadn C dX10_readsClause_31 0 rfl ?_
      refine g_iconst C dX10_readsClause_32 gRc_1 ?_
      refine g_ic_ne (t := 77) C dX10_readsClause_33 (by decide) (fun c23 => ?_) (fun c23 => ?_)
      · replace h := h.1 c23
        refine g_aloadn C dX10_readsClause_77 1 rfl ?_
        refine g_iconst C dX10_readsClause_78 gRc_0 ?_
        refine g_iconst C dX10_readsClause_79 gRc_0 ?_
        refine g_aloadn C dX10_readsClause_80 1 rfl ?_
        refine gf_10_9 C dX10_readsClause_81 wd_864 hT0 ?_
        refine g_iconst C dX10_readsClause_84 gRc_1 ?_
        refine g_isub C dX10_readsClause_85 h.1 ?_
        replace h := h.2
        refine g_cVi (st := []) C dX10_readsClause_86 ykX10_number wd_978 ⟨by decide, by decide⟩ [gI 0, gI 0, gI ((M4 c0 9) - 1)] rfl (Nat.le_of_ble_eq_true rfl) hT0 (fun hM ho => sX10_number hD c0 0 0 ((M4 c0 9) - 1) M4 _ hT0 h hM ho) (fun r25 M24 h => ?_)
        obtain ⟨P27, h, hP27⟩ := h
        have J28 : ∀ (M26 : gMem), P27 M26 → gG X V 3 106 [(0, gF c0), (1, gI r2)] [] M26 := by
          intro M26 h
          replace h := hP27 M26 h
          refine g_iconst C dX10_readsClause_106 gRc_0 ?_
          exact J8 0 M26 h
        refine g_if_eq (t := 106) C dX10_readsClause_89 (by decide) (fun c29 => ?_) (fun c29 => ?_)
        · replace h := h.1 c29
          refine g_sub [(0, gF c0), (1, gI r2)] [1, 0] rfl ?_
          exact J28 M24 h
        · replace h := h.2 c29
          refine g_aloadn C dX10_readsClause_92 1 rfl ?_
          refine g_iconst C dX10_readsClause_93 gRc_1 ?_
          refine g_iconst C dX10_readsClause_94 gRc_0 ?_
          refine g_iconst C dX10_readsClause_95 gRc_2 ?_
          refine g_cVi (st := []) C dX10_readsClause_96 ykX10_number wd_978 ⟨by decide, by decide⟩ [gI 1, gI 0, gI 2] rfl (Nat.le_of_ble_eq_true rfl) hT0 (fun hM ho => sX10_number hD c0 1 0 2 M24 _ hT0 h hM ho) (fun r31 M30 h => ?_)
          refine g_if_eq (t := 106) C dX10_readsClause_99 (by decide) (fun c32 => ?_) (fun c32 => ?_)
          · replace h := h.1 c32
            refine g_sub [(0, gF c0), (1, gI r2)] [1, 0] rfl ?_
            exact J28 M30 h
          · replace h := h.2 c32
            refine g_iconst C dX10_readsClause_102 gRc_1 ?_
            refine g_goto (t := 107) C dX10_readsClause_103 (by decide) ?_
            refine g_sub [(0, gF c0), (1, gI r2)] [1, 0] rfl ?_
            exact J8 1 M30 h
      · replace h := h.2 c23
        refine g_aloadn C dX10_readsClause_36 1 rfl ?_
        refine g_iconst C dX10_readsClause_37 gRc_0 ?_
        refine g_iconst C dX10_readsClause_38 gRc_0 ?_
        refine g_aloadn C dX10_readsClause_39 1 rfl ?_
        refine gf_10_9 C dX10_readsClause_40 wd_864 hT0 ?_
        refine g_iconst C dX10_readsClause_43 gRc_1 ?_
        refine g_isub C dX10_readsClause_44 h.1 ?_
        replace h := h.2
        refine g_cVi (st := []) C dX10_readsClause_45 ykX10_number wd_978 ⟨by decide, by decide⟩ [gI 0, gI 0, gI ((M4 c0 9) - 1)] rfl (Nat.le_of_ble_eq_true rfl) hT0 (fun hM ho => sX10_number hD c0 0 0 ((M4 c0 9) - 1) M4 _ hT0 h hM ho) (fun r34 M33 h => ?_)
        obtain ⟨P36, h, hP36⟩ := h
        have J37 : ∀ (M35 : gMem), P36 M35 → gG X V 3 73 [(0, gF c0), (1, gI r2)] [] M35 := by
          intro M35 h
          replace h := hP36 M35 h
          refine g_iconst C dX10_readsClause_73 gRc_0 ?_
          refine g_goto (t := 107) C dX10_readsClause_74 (by decide) ?_
          exact J8 0 M35 h
        refine g_if_eq (t := 73) C dX10_readsClause_48 (by decide) (fun c38 => ?_) (fun c38 => ?_)
        · replace h := h.1 c38
          refine g_sub [(0, gF c0), (1, gI r2)] [1, 0] rfl ?_
          exact J37 M33 h
        · replace h := h.2 c38
          refine g_aloadn C dX10_readsClause_51 1 rfl ?_
          refine g_cVi (st := []) C dX10_readsClause_52 ykX10_otherNode wd_986 ⟨by decide, by decide⟩ [] rfl (Nat.le_of_ble_eq_true rfl) hT0 (fun hM ho => sX10_otherNode hD c0 M33 _ hT0 h hM ho) (fun r40 M39 h => ?_)
          refine g_if_eq (t := 73) C dX10_readsClause_55 (by decide) (fun c41 => ?_) (fun c41 => ?_)
          · replace h := h.1 c41
            refine g_sub [(0, gF c0), (1, gI r2)] [1, 0] rfl ?_
            exact J37 M39 h
          · replace h := h.2 c41
            refine g_aloadn C dX10_readsClause_58 1 rfl ?_
            refine g_iconst C dX10_readsClause_59 gRc_2 ?_
            refine g_iconst C dX10_readsClause_60 gRc_1 ?_
            refine g_bipush C dX10_readsClause_61 gRc_99 gRb_99 ?_
            refine g_cVi (st := []) C dX10_readsClause_63 ykX10_number wd_978 ⟨by decide, by decide⟩ [gI 2, gI 1, gI 99] rfl (Nat.le_of_ble_eq_true rfl) hT0 (fun hM ho => sX10_number hD c0 2 1 99 M39 _ hT0 h hM ho) (fun r43 M42 h => ?_)
            refine g_if_eq (t := 73) C dX10_readsClause_66 (by decide) (fun c44 => ?_) (fun c44 => ?_)
            · replace h := h.1 c44
              refine g_sub [(0, gF c0), (1, gI r2)] [1, 0] rfl ?_
              exact J37 M42 h
            · replace h := h.2 c44
              refine g_iconst C dX10_readsClause_69 gRc_1 ?_
              refine g_goto (t := 107) C dX10_readsClause_70 (by decide) ?_
              refine g_sub [(0, gF c0), (1, gI r2)] [1, 0] rfl ?_
              exact J8 1 M42 h
    · replace h := h.2 c22
      refine g_aloadn C dX10_readsClause_20 1 rfl ?_
      refine g_iconst C dX10_readsClause_21 gRc_0 ?_
      refine g_iconst C dX10_readsClause_22 gRc_2 ?_
      refine g_bipush C dX10_readsClause_23 gRc_12 gRb_12 ?_
      refine g_cVi (st := []) C dX10_readsClause_25 ykX10_number wd_978 ⟨by decide, by decide⟩ [gI 0, gI 2, gI 12] rfl (Nat.le_of_ble_eq_true rfl) hT0 (fun hM ho => sX10_number hD c0 0 2 12 M4 _ hT0 h hM ho) (fun r46 M45 h => ?_)
      refine g_goto (t := 107) C dX10_readsClause_28 (by decide) ?_
      refine g_sub [(0, gF c0), (1, gI r2)] [1, 0] rfl ?_
      exact J8 r46 M45 h
  · replace h := h.2 c3
    refine g_iconst C dX10_readsClause_10 gRc_0 ?_
    exact g_zret C hR dX10_readsClause_11 (Or.inl rfl) h

set_option maxRecDepth 100000 in
set_option maxHeartbeats 4000000 in
theorem sX10_reads {l : Launch} {V : gW} (hD : gD V) (c0 a1 : Int) (M0 : gMem) (K : Int → gMem → Prop) (hT0 : gT c0 10) (h : wX10_reads c0 a1 K M0) (hM : gOM M0) (ho : ∀ q ∈ ([gI a1] : List gSV), gOK q) : gMi l V yX10_reads cX10_reads 3 (some .boolean) 6 136 [gF c0, gI a1] M0 K := by
  refine gMi_of hD (by decide) (Nat.le_of_ble_eq_true rfl) [(0, gF c0), (1, gI a1)] rfl (gok_L rfl (gok_n (q := gF c0) trivial ho)) hM (fun X C hR => ?_)
  unfold wX10_reads at h
  refine g_aloadn C dX10_reads_0 0 rfl ?_
  refine g_iloadn C dX10_reads_1 1 rfl ?_
  refine gp_10_13 C dX10_reads_2 wd_868 hT0 h.1 ?_
  replace h := h.2
  obtain ⟨M1, eM1⟩ : ∃ x : gMem, x = gup M0 c0 13 a1 := ⟨_, rfl⟩
  refine g_nmM eM1 ?_
  replace h := h M1 eM1
  refine g_aloadn C dX10_reads_5 0 rfl ?_
  refine g_iconst C dX10_reads_6 gRc_0 ?_
  refine gp_10_8 C dX10_reads_7 wd_863 hT0 ?_
  obtain ⟨M2, eM2⟩ : ∃ x : gMem, x = gup M1 c0 8 0 := ⟨_, rfl⟩
  refine g_nmM eM2 ?_
  replace h := h M2 eM2
  refine g_aloadn C dX10_reads_10 0 rfl ?_
  refine g_iconst C dX10_reads_11 gRc_1 ?_
  refine gp_10_12 C dX10_reads_12 wd_867 hT0 ?_
  obtain ⟨M3, eM3⟩ : ∃ x : gMem, x = gup M2 c0 12 1 := ⟨_, rfl⟩
  refine g_nmM eM3 ?_
  replace h := h M3 eM3
  refine g_aloadn C dX10_reads_15 0 rfl ?_
  refine g_aloadn C dX10_reads_16 0 rfl ?_
  refine gf_10_2 C dX10_reads_17 wd_857 hT0 ?_
  refine gp_10_9 C dX10_reads_20 wd_864 hT0 ?_
  obtain ⟨M4, eM4⟩ : ∃ x : gMem, x = gup M3 c0 9 (M3 c0 2) := ⟨_, rfl⟩
  refine g_nmM eM4 ?_
  replace h := h M4 eM4
  refine g_aloadn C dX10_reads_23 0 rfl ?_
  refine g_aloadn C dX10_reads_24 0 rfl ?_
  refine g_cVi (st := [gF c0]) C dX10_reads_25 ykX10_links wd_952 ⟨by decide, by decide⟩ [] rfl (Nat.le_of_ble_eq_true rfl) hT0 (fun hM ho => sX10_links hD c0 M4 _ hT0 h hM ho) (fun r6 M5 h => ?_)
  refine gp_10_11 C dX10_reads_28 wd_866 hT0 ?_
  obtain ⟨M7, eM7⟩ : ∃ x : gMem, x = gup M5 c0 11 r6 := ⟨_, rfl⟩
  refine g_nmM eM7 ?_
  replace h := h M7 eM7
  refine g_iconst C dX10_reads_31 gRc_0 ?_
  refine g_istoren C [(2, gI 0), (0, gF c0), (1, gI a1)] dX10_reads_32 (by decide) rfl ?_
  refine g_sub [(0, gF c0), (2, gI 0)] [1, 0] rfl ?_
  refine gL1_go (Gd := fun (v8 : Int) (M9 : gMem) => gG X V 3 33 [(0, gF c0), (2, gI v8)] [] M9) (fun rec10 hrec10 v8 M9 h => ?_) h
  refine g_iloadn C dX10_reads_33 1 rfl ?_
  refine g_sipush C dX10_reads_34 gRc_144 gRs_144 ?_
  refine g_ic_ge (t := 66) C dX10_reads_37 (by decide) (fun c11 => ?_) (fun c11 => ?_)
  · replace h := h.1 c11
    refine g_aloadn C dX10_reads_66 0 rfl ?_
    refine g_cVv (st := []) C dX10_reads_67 ykX10_nextToken wd_956 ⟨by decide, by decide⟩ [] rfl (Nat.le_of_ble_eq_true rfl) hT0 (fun hM ho => sX10_nextToken hD c0 M9 _ hT0 h hM ho) (fun M12 h => ?_)
    refine g_aloadn C dX10_reads_70 0 rfl ?_
    refine g_cVi (st := []) C dX10_reads_71 ykX10_readsClause wd_970 ⟨by decide, by decide⟩ [] rfl (Nat.le_of_ble_eq_true rfl) hT0 (fun hM ho => sX10_readsClause hD c0 M12 _ hT0 h hM ho) (fun r14 M13 h => ?_)
    refine g_istoren C [(2, gI r14), (0, gF c0)] dX10_reads_74 (by decide) rfl ?_
    refine g_sub [(0, gF c0), (2, gI r14)] [1, 0] rfl ?_
    refine gL1_go (Gd := fun (v15 : Int) (M16 : gMem) => gG X V 3 75 [(0, gF c0), (2, gI v15)] [] M16) (fun rec17 hrec17 v15 M16 h => ?_) h
    refine g_iloadn C dX10_reads_75 1 rfl ?_
    obtain ⟨P19, h, hP19⟩ := h
    have J20 : ∀ (M18 : gMem), P19 M18 → gG X V 3 145 [(2, gI v15)] [] M18 := by
      intro M18 h
      replace h := hP19 M18 h
      refine g_iloadn C dX10_reads_145 0 rfl ?_
      exact g_zret C hR dX10_reads_146 h.1 h.2
    refine g_if_eq (t := 145) C dX10_reads_76 (by decide) (fun c21 => ?_) (fun c21 => ?_)
    · replace h := h.1 c21
      refine g_sub [(2, gI v15)] [1] rfl ?_
      exact J20 M16 h
    · replace h := h.2 c21
      refine g_aloadn C dX10_reads_79 0 rfl ?_
      refine gf_10_7 C dX10_reads_80 wd_862 hT0 ?_
      refine g_aloadn C dX10_reads_83 0 rfl ?_
      refine gf_10_6 C dX10_reads_84 wd_861 hT0 ?_
      refine g_ic_ge (t := 145) C dX10_reads_87 (by decide) (fun c22 => ?_) (fun c22 => ?_)
      · replace h := h.1 c22
        refine g_sub [(2, gI v15)] [1] rfl ?_
        exact J20 M16 h
      · replace h := h.2 c22
        refine g_aloadn C dX10_reads_90 0 rfl ?_
        refine gf_10_12 C dX10_reads_91 wd_867 hT0 ?_
        refine g_bipush C dX10_reads_94 gRc_24 gRb_24 ?_
        obtain ⟨P25, h, hP25⟩ := h
        have J26 : ∀ (x23 : Int) (M24 : gMem), P25 x23 M24 → gG X V 3 118 [(0, gF c0)] [gI x23] M24 := by
          intro x23 M24 h
          replace h := hP25 x23 M24 h
          refine g_istoren C [(2, gI x23), (0, gF c0)] dX10_reads_118 (by decide) rfl ?_
          refine g_iloadn C dX10_reads_119 0 rfl ?_
          refine g_if_eq (t := 75) C dX10_reads_120 (by decide) (fun c27 => ?_) (fun c27 => ?_)
          · replace h := h.1 c27
            refine g_sub [(0, gF c0), (2, gI x23)] [1, 0] rfl ?_
            exact hrec17 x23 M24 h
          · replace h := h.2 c27
            refine g_aloadn C dX10_reads_123 1 rfl ?_
            refine g_cVv (st := []) C dX10_reads_124 ykX10_nextToken wd_956 ⟨by decide, by decide⟩ [] rfl (Nat.le_of_ble_eq_true rfl) hT0 (fun hM ho => sX10_nextToken hD c0 M24 _ hT0 h hM ho) (fun M28 h => ?_)
            refine g_aloadn C dX10_reads_127 1 rfl ?_
            refine g_cVi (st := []) C dX10_reads_128 ykX10_readsClause wd_970 ⟨by decide, by decide⟩ [] rfl (Nat.le_of_ble_eq_true rfl) hT0 (fun hM ho => sX10_readsClause hD c0 M28 _ hT0 h hM ho) (fun r30 M29 h => ?_)
            refine g_istoren C [(2, gI r30), (0, gF c0)] dX10_reads_131 (by decide) rfl ?_
            refine g_aloadn C dX10_reads_132 1 rfl ?_
            refine g_dup C dX10_reads_133 (fun e => by cases e) ?_
            refine gf_10_12 C dX10_reads_134 wd_867 hT0 ?_
            refine g_iconst C dX10_reads_137 gRc_1 ?_
            refine g_iadd C dX10_reads_138 h.1 ?_
            replace h := h.2
            refine gp_10_12 C dX10_reads_139 wd_867 hT0 ?_
            obtain ⟨M31, eM31⟩ : ∃ x : gMem, x = gup M29 c0 12 ((M29 c0 12) + 1) := ⟨_, rfl⟩
            refine g_nmM eM31 ?_
            replace h := h M31 eM31
            refine g_goto (t := 75) C dX10_reads_142 (by decide) ?_
            refine g_sub [(0, gF c0), (2, gI r30)] [1, 0] rfl ?_
            exact hrec17 r30 M31 h
        obtain ⟨P33, h, hP33⟩ := h
        have J34 : ∀ (M32 : gMem), P33 M32 → gG X V 3 117 [(0, gF c0)] [] M32 := by
          intro M32 h
          replace h := hP33 M32 h
          refine g_iconst C dX10_reads_117 gRc_0 ?_
          exact J26 0 M32 h
        refine g_ic_ge (t := 117) C dX10_reads_96 (by decide) (fun c35 => ?_) (fun c35 => ?_)
        · replace h := h.1 c35
          refine g_sub [(0, gF c0)] [0] rfl ?_
          exact J34 M16 h
        · replace h := h.2 c35
          refine g_aloadn C dX10_reads_99 0 rfl ?_
          refine gf_10_5 C dX10_reads_100 wd_860 hT0 ?_
          refine g_aloadn C dX10_reads_103 0 rfl ?_
          refine gf_10_7 C dX10_reads_104 wd_862 hT0 ?_
          refine g_iald C dX10_reads_107 (gt_10_5 hT0) gce_10200 h.1 ?_
          replace h := h.2
          refine g_bipush C dX10_reads_108 gRc_59 gRb_59 ?_
          refine g_ic_ne (t := 117) C dX10_reads_110 (by decide) (fun c36 => ?_) (fun c36 => ?_)
          · replace h := h.1 c36
            refine g_sub [(0, gF c0)] [0] rfl ?_
            exact J34 M16 h
          · replace h := h.2 c36
            refine g_iconst C dX10_reads_113 gRc_1 ?_
            refine g_goto (t := 118) C dX10_reads_114 (by decide) ?_
            refine g_sub [(0, gF c0)] [0] rfl ?_
            exact J26 1 M16 h
  · replace h := h.2 c11
    refine g_aloadn C dX10_reads_40 0 rfl ?_
    refine gf_10_10 C dX10_reads_41 wd_865 hT0 ?_
    refine g_iloadn C dX10_reads_44 1 rfl ?_
    refine g_aloadn C dX10_reads_45 0 rfl ?_
    refine gf_10_0 C dX10_reads_46 wd_855 hT0 ?_
    refine g_iloadn C dX10_reads_49 1 rfl ?_
    refine g_iald C dX10_reads_50 (gt_10_0 hT0) gce_11727 h.1 ?_
    replace h := h.2
    obtain ⟨P39, h, hP39⟩ := h
    have J40 : ∀ (x37 : Int) (M38 : gMem), P39 x37 M38 → gG X V 3 59 [(0, gF c0), (2, gI v8)] [gI x37, gI v8, gF (c0 + 5)] M38 := by
      intro x37 M38 h
      replace h := hP39 x37 M38 h
      refine g_zast C dX10_reads_59 (gt_10_10 hT0) gce_20144 h.1 h.2.1 ?_
      replace h := h.2.2
      obtain ⟨M41, eM41⟩ : ∃ x : gMem, x = gup M38 (c0 + 5) v8 x37 := ⟨_, rfl⟩
      refine g_nmM eM41 ?_
      replace h := h M41 eM41
      refine g_iinc C [(2, gI (v8 + 1)), (0, gF c0)] dX10_reads_60 1 rfl (by decide) h.1 rfl ?_
      replace h := h.2
      refine g_goto (t := 33) C dX10_reads_63 (by decide) ?_
      refine g_sub [(0, gF c0), (2, gI (v8 + 1))] [1, 0] rfl ?_
      exact hrec10 (v8 + 1) M41 h
    refine g_if_le (t := 58) C dX10_reads_51 (by decide) (fun c42 => ?_) (fun c42 => ?_)
    · replace h := h.1 c42
      refine g_iconst C dX10_reads_58 gRc_0 ?_
      exact J40 0 M9 h
    · replace h := h.2 c42
      refine g_iconst C dX10_reads_54 gRc_1 ?_
      refine g_goto (t := 59) C dX10_reads_55 (by decide) ?_
      exact J40 1 M9 h

set_option maxRecDepth 100000 in
set_option maxHeartbeats 4000000 in
theorem sX10_fault {l : Launch} {V : gW} (hD : gD V) (c0 : Int) (M0 : gMem) (K : Int → gMem → Prop) (hT0 : gT c0 10) (h : wX10_fault c0 K M0) (hM : gOM M0) (ho : ∀ q ∈ ([] : List gSV), gOK q) : gMi l V yX10_fault cX10_fault 1 (some .int) 7 158 [gF c0] M0 K := by
  refine gMi_of hD (by decide) (Nat.le_of_ble_eq_true rfl) [(0, gF c0)] rfl (gok_L rfl (gok_n (q := gF c0) trivial ho)) hM (fun X C hR => ?_)
  unfold wX10_fault at h
  refine g_aloadn C dX10_fault_0 0 rfl ?_
  refine g_iconst C dX10_fault_1 gRc_0 ?_
  refine g_cVi (st := []) C dX10_fault_2 ykX10_reads wd_948 ⟨by decide, by decide⟩ [gI 0] rfl (Nat.le_of_ble_eq_true rfl) hT0 (fun hM ho => sX10_reads hD c0 0 M0 _ hT0 h hM ho) (fun r2 M1 h => ?_)
  obtain ⟨P5, h, hP5⟩ := h
  have J6 : ∀ (x3 : Int) (M4 : gMem), P5 x3 M4 → gG X V 1 16 [] [gI x3] M4 := by
    intro x3 M4 h
    replace h := hP5 x3 M4 h
    exact g_iret C hR dX10_fault_16 h
  refine g_if_eq (t := 12) C dX10_fault_5 (by decide) (fun c7 => ?_) (fun c7 => ?_)
  · replace h := h.1 c7
    refine g_aloadn C dX10_fault_12 0 rfl ?_
    refine gf_10_7 C dX10_fault_13 wd_862 hT0 ?_
    refine g_sub [] [] rfl ?_
    exact J6 (M1 c0 7) M1 h
  · replace h := h.2 c7
    refine g_iconst C dX10_fault_8 gRc_m1 ?_
    refine g_goto (t := 16) C dX10_fault_9 (by decide) ?_
    refine g_sub [] [] rfl ?_
    exact J6 (-1) M1 h

set_option maxRecDepth 100000 in
set_option maxHeartbeats 4000000 in
theorem sX10_net {l : Launch} {V : gW} (hD : gD V) (c0 : Int) (M0 : gMem) (K : Int → gMem → Prop) (hT0 : gT c0 10) (h : wX10_net c0 K M0) (hM : gOM M0) (ho : ∀ q ∈ ([] : List gSV), gOK q) : gMi l V yX10_net cX10_net 1 (some .int) 7 158 [gF c0] M0 K := by
  refine gMi_of hD (by decide) (Nat.le_of_ble_eq_true rfl) [(0, gF c0)] rfl (gok_L rfl (gok_n (q := gF c0) trivial ho)) hM (fun X C hR => ?_)
  unfold wX10_net at h
  refine g_aloadn C dX10_net_0 0 rfl ?_
  refine g_iconst C dX10_net_1 gRc_0 ?_
  refine g_cVi (st := []) C dX10_net_2 ykX10_reads wd_948 ⟨by decide, by decide⟩ [gI 0] rfl (Nat.le_of_ble_eq_true rfl) hT0 (fun hM ho => sX10_reads hD c0 0 M0 _ hT0 h hM ho) (fun r2 M1 h => ?_)
  refine g_if_ne (t := 11) C dX10_net_5 (by decide) (fun c3 => ?_) (fun c3 => ?_)
  · replace h := h.1 c3
    refine g_aloadn C dX10_net_11 0 rfl ?_
    refine g_iconst C dX10_net_12 gRc_1 ?_
    refine g_cVi (st := []) C dX10_net_13 ykX10_reads wd_948 ⟨by decide, by decide⟩ [gI 1] rfl (Nat.le_of_ble_eq_true rfl) hT0 (fun hM ho => sX10_reads hD c0 1 M1 _ hT0 h hM ho) (fun r5 M4 h => ?_)
    refine g_pop C dX10_net_16 (fun e => by cases e) ?_
    refine g_aloadn C dX10_net_17 0 rfl ?_
    refine g_iconst C dX10_net_18 gRc_0 ?_
    refine gp_10_6 C dX10_net_19 wd_861 hT0 ?_
    obtain ⟨M6, eM6⟩ : ∃ x : gMem, x = gup M4 c0 6 0 := ⟨_, rfl⟩
    refine g_nmM eM6 ?_
    replace h := h M6 eM6
    refine g_aloadn C dX10_net_22 0 rfl ?_
    refine g_iconst C dX10_net_23 gRc_0 ?_
    refine gp_10_1 C dX10_net_24 wd_856 hT0 ?_
    obtain ⟨M7, eM7⟩ : ∃ x : gMem, x = gup M6 c0 1 0 := ⟨_, rfl⟩
    refine g_nmM eM7 ?_
    replace h := h M7 eM7
    refine g_aloadn C dX10_net_27 0 rfl ?_
    refine gf_10_4 C dX10_net_28 wd_859 hT0 ?_
    refine g_iconst C dX10_net_31 gRc_0 ?_
    refine g_iconst C dX10_net_32 gRc_0 ?_
    refine g_zast C dX10_net_33 (gt_10_4 hT0) gce_20002 h.1 (Or.inl rfl) ?_
    replace h := h.2
    obtain ⟨M8, eM8⟩ : ∃ x : gMem, x = gup M7 (c0 + 3) 0 0 := ⟨_, rfl⟩
    refine g_nmM eM8 ?_
    replace h := h M8 eM8
    refine g_aloadn C dX10_net_34 0 rfl ?_
    refine gf_10_4 C dX10_net_35 wd_859 hT0 ?_
    refine g_iconst C dX10_net_38 gRc_1 ?_
    refine g_iconst C dX10_net_39 gRc_0 ?_
    refine g_zast C dX10_net_40 (gt_10_4 hT0) gce_20002 h.1 (Or.inl rfl) ?_
    replace h := h.2
    obtain ⟨M9, eM9⟩ : ∃ x : gMem, x = gup M8 (c0 + 3) 1 0 := ⟨_, rfl⟩
    refine g_nmM eM9 ?_
    replace h := h M9 eM9
    refine g_aloadn C dX10_net_41 0 rfl ?_
    refine gf_10_12 C dX10_net_42 wd_867 hT0 ?_
    exact g_iret C hR dX10_net_45 h
  · replace h := h.2 c3
    refine g_bipush C dX10_net_8 gRc_m4 gRb_m4 ?_
    exact g_iret C hR dX10_net_10 h

set_option maxRecDepth 100000 in
set_option maxHeartbeats 4000000 in
theorem sX10_link {l : Launch} {V : gW} (hD : gD V) (c0 a1 a2 : Int) (M0 : gMem) (K : Int → gMem → Prop) (hT0 : gT c0 10) (h : wX10_link c0 a1 a2 K M0) (hM : gOM M0) (ho : ∀ q ∈ ([gI a1, gI a2] : List gSV), gOK q) : gMi l V yX10_link cX10_link 4 (some .int) 1 23 [gF c0, gI a1, gI a2] M0 K := by
  refine gMi_of hD (by decide) (Nat.le_of_ble_eq_true rfl) [(0, gF c0), (1, gI a1), (2, gI a2)] rfl (gok_L rfl (gok_n (q := gF c0) trivial ho)) hM (fun X C hR => ?_)
  unfold wX10_link at h
  refine g_aloadn C dX10_link_0 0 rfl ?_
  refine g_iloadn C dX10_link_1 1 rfl ?_
  refine g_cVi (st := []) C dX10_link_2 ykX10_pairOf wd_1014 ⟨by decide, by decide⟩ [gI a1] rfl (Nat.le_of_ble_eq_true rfl) hT0 (fun hM ho => sX10_pairOf hD c0 a1 M0 _ hT0 h hM ho) (fun r2 M1 h => ?_)
  refine g_istoren C [(3, gI r2), (0, gF c0), (1, gI a1), (2, gI a2)] dX10_link_5 (by decide) rfl ?_
  refine g_iloadn C dX10_link_6 0 rfl ?_
  refine g_if_ge (t := 13) C dX10_link_7 (by decide) (fun c3 => ?_) (fun c3 => ?_)
  · replace h := h.1 c3
    refine g_iloadn C dX10_link_13 3 rfl ?_
    refine g_switch (t := 57) C dX10_link_14 (by decide) (fun c => ?_) (fun c1 c2 => ?_)
    · replace h := h.2.2.2 c
      refine g_bipush C dX10_link_57 gRc_m3 gRb_m3 ?_
      exact g_iret C hR dX10_link_59 h
    · obtain ⟨q4, eq4⟩ : ∃ q4 : Nat, a2 = 0 + (q4 : Int) := ⟨(a2 - 0).toNat, by omega⟩
      match q4, eq4 with
      | 0, eq4 =>
        refine ⟨_, 40, by rw [eq4]; rfl, by decide, ?_⟩
        replace h := h.1 (by omega)
        refine g_iloadn C dX10_link_40 0 rfl ?_
        refine g_bipush C dX10_link_41 gRc_12 gRb_12 ?_
        refine g_idiv C dX10_link_43 h.1 ?_
        replace h := h.2
        exact g_iret C hR dX10_link_44 h
      | 1, eq4 =>
        refine ⟨_, 45, by rw [eq4]; rfl, by decide, ?_⟩
        replace h := h.2.1 (by omega)
        refine g_iloadn C dX10_link_45 0 rfl ?_
        refine g_bipush C dX10_link_46 gRc_12 gRb_12 ?_
        refine g_irem C dX10_link_48 h.1 ?_
        replace h := h.2
        exact g_iret C hR dX10_link_49 h
      | 2, eq4 =>
        refine ⟨_, 50, by rw [eq4]; rfl, by decide, ?_⟩
        replace h := h.2.2.1 (by omega)
        refine g_aloadn C dX10_link_50 1 rfl ?_
        refine gf_10_0 C dX10_link_51 wd_855 hT0 ?_
        refine g_iloadn C dX10_link_54 0 rfl ?_
        refine g_iald C dX10_link_55 (gt_10_0 hT0) gce_11727 h.1 ?_
        replace h := h.2
        exact g_iret C hR dX10_link_56 h
      | q4 + 3, eq4 => exact absurd eq4 (by omega)
  · replace h := h.2 c3
    refine g_bipush C dX10_link_10 gRc_m2 gRb_m2 ?_
    exact g_iret C hR dX10_link_12 h

set_option maxRecDepth 100000 in
set_option maxHeartbeats 4000000 in
theorem sX10_level {l : Launch} {V : gW} (hD : gD V) (c0 a1 : Int) (M0 : gMem) (K : Int → gMem → Prop) (hT0 : gT c0 10) (h : wX10_level c0 a1 K M0) (hM : gOM M0) (ho : ∀ q ∈ ([gI a1] : List gSV), gOK q) : gMi l V yX10_level cX10_level 2 (some .int) 2 46 [gF c0, gI a1] M0 K := by
  refine gMi_of hD (by decide) (Nat.le_of_ble_eq_true rfl) [(0, gF c0), (1, gI a1)] rfl (gok_L rfl (gok_n (q := gF c0) trivial ho)) hM (fun X C hR => ?_)
  unfold wX10_level at h
  refine g_aloadn C dX10_level_0 0 rfl ?_
  refine g_iloadn C dX10_level_1 1 rfl ?_
  refine g_cVi (st := []) C dX10_level_2 ykX10_isNode wd_1022 ⟨by decide, by decide⟩ [gI a1] rfl (Nat.le_of_ble_eq_true rfl) hT0 (fun hM ho => sX10_isNode hD c0 a1 M0 _ hT0 h hM ho) (fun r2 M1 h => ?_)
  obtain ⟨P5, h, hP5⟩ := h
  have J6 : ∀ (x3 : Int) (M4 : gMem), P5 x3 M4 → gG X V 2 23 [] [gI x3] M4 := by
    intro x3 M4 h
    replace h := hP5 x3 M4 h
    exact g_iret C hR dX10_level_23 h
  refine g_if_eq (t := 21) C dX10_level_5 (by decide) (fun c7 => ?_) (fun c7 => ?_)
  · replace h := h.1 c7
    refine g_bipush C dX10_level_21 gRc_m2 gRb_m2 ?_
    refine g_sub [] [] rfl ?_
    exact J6 (-2) M1 h
  · replace h := h.2 c7
    refine g_aloadn C dX10_level_8 0 rfl ?_
    refine gf_10_0 C dX10_level_9 wd_855 hT0 ?_
    refine g_sipush C dX10_level_12 gRc_144 gRs_144 ?_
    refine g_iloadn C dX10_level_15 1 rfl ?_
    refine g_iadd C dX10_level_16 h.1 ?_
    replace h := h.2
    refine g_iald C dX10_level_17 (gt_10_0 hT0) gce_11727 h.1 ?_
    replace h := h.2
    refine g_goto (t := 23) C dX10_level_18 (by decide) ?_
    refine g_sub [] [] rfl ?_
    exact J6 (M1 (c0 + 1) (144 + a1)) M1 h

set_option maxRecDepth 100000 in
set_option maxHeartbeats 4000000 in
theorem sX10_finds {l : Launch} {V : gW} (hD : gD V) (c0 a1 : Int) (M0 : gMem) (K : gMem → Prop) (hT0 : gT c0 10) (h : wX10_finds c0 a1 K M0) (hM : gOM M0) (ho : ∀ q ∈ ([gI a1] : List gSV), gOK q) : gMv l V yX10_finds cX10_finds 6 0 0 [gF c0, gI a1] M0 K := by
  refine gMv_of hD (by decide) (Nat.le_of_ble_eq_true rfl) [(0, gF c0), (1, gI a1)] rfl (gok_L rfl (gok_n (q := gF c0) trivial ho)) hM (fun X C hR => ?_)
  unfold wX10_finds at h
  refine g_iconst C dX10_finds_0 gRc_0 ?_
  refine g_istoren C [(2, gI 0), (0, gF c0), (1, gI a1)] dX10_finds_1 (by decide) rfl ?_
  refine g_sub [(0, gF c0), (1, gI a1), (2, gI 0)] [1, 2, 0] rfl ?_
  refine gL1_go (Gd := fun (v1 : Int) (M2 : gMem) => gG X V 6 2 [(0, gF c0), (1, gI a1), (2, gI v1)] [] M2) (fun rec3 hrec3 v1 M2 h => ?_) h
  refine g_iloadn C dX10_finds_2 2 rfl ?_
  refine g_sipush C dX10_finds_3 gRc_144 gRs_144 ?_
  refine g_ic_ge (t := 79) C dX10_finds_6 (by decide) (fun c4 => ?_) (fun c4 => ?_)
  · replace h := h.1 c4
    refine g_iconst C dX10_finds_79 gRc_0 ?_
    refine g_istoren C [(2, gI 0), (0, gF c0), (1, gI a1)] dX10_finds_80 (by decide) rfl ?_
    refine g_sub [(0, gF c0), (2, gI 0)] [1, 0] rfl ?_
    refine gL1_go (Gd := fun (v5 : Int) (M6 : gMem) => gG X V 6 81 [(0, gF c0), (2, gI v5)] [] M6) (fun rec7 hrec7 v5 M6 h => ?_) h
    refine g_iloadn C dX10_finds_81 1 rfl ?_
    refine g_aloadn C dX10_finds_82 0 rfl ?_
    refine gf_10_2 C dX10_finds_83 wd_857 hT0 ?_
    refine g_ic_ge (t := 201) C dX10_finds_86 (by decide) (fun c8 => ?_) (fun c8 => ?_)
    · replace h := h.1 c8
      exact g_vret C hR dX10_finds_201 h
    · replace h := h.2 c8
      refine g_iconst C dX10_finds_89 gRc_0 ?_
      refine g_istoren C [(3, gI 0), (0, gF c0), (2, gI v5)] dX10_finds_90 (by decide) rfl ?_
      refine g_sub [(0, gF c0), (2, gI v5), (3, gI 0)] [1, 2, 0] rfl ?_
      refine gL1_go (Gd := fun (v9 : Int) (M10 : gMem) => gG X V 6 91 [(0, gF c0), (2, gI v5), (3, gI v9)] [] M10) (fun rec11 hrec11 v9 M10 h => ?_) h
      refine g_iloadn C dX10_finds_91 2 rfl ?_
      refine g_aloadn C dX10_finds_92 0 rfl ?_
      refine gf_10_2 C dX10_finds_93 wd_857 hT0 ?_
      refine g_ic_ge (t := 195) C dX10_finds_96 (by decide) (fun c12 => ?_) (fun c12 => ?_)
      · replace h := h.1 c12
        refine g_iinc C [(2, gI (v5 + 1)), (0, gF c0), (3, gI v9)] dX10_finds_195 1 rfl (by decide) h.1 rfl ?_
        replace h := h.2
        refine g_goto (t := 81) C dX10_finds_198 (by decide) ?_
        refine g_sub [(0, gF c0), (2, gI (v5 + 1))] [1, 0] rfl ?_
        exact hrec7 (v5 + 1) M10 h
      · replace h := h.2 c12
        refine g_iconst C dX10_finds_99 gRc_0 ?_
        refine g_istore C [(4, gI 0), (0, gF c0), (2, gI v5), (3, gI v9)] dX10_finds_100 (by decide) rfl ?_
        refine g_sub [(0, gF c0), (2, gI v5), (3, gI v9), (4, gI 0)] [1, 2, 3, 0] rfl ?_
        refine gL1_go (Gd := fun (v13 : Int) (M14 : gMem) => gG X V 6 102 [(0, gF c0), (2, gI v5), (3, gI v9), (4, gI v13)] [] M14) (fun rec15 hrec15 v13 M14 h => ?_) h
        refine g_iload C dX10_finds_102 3 rfl ?_
        refine g_aloadn C dX10_finds_104 0 rfl ?_
        refine gf_10_2 C dX10_finds_105 wd_857 hT0 ?_
        refine g_ic_ge (t := 189) C dX10_finds_108 (by decide) (fun c16 => ?_) (fun c16 => ?_)
        · replace h := h.1 c16
          refine g_iinc C [(3, gI (v9 + 1)), (0, gF c0), (2, gI v5), (4, gI v13)] dX10_finds_189 2 rfl (by decide) h.1 rfl ?_
          replace h := h.2
          refine g_goto (t := 91) C dX10_finds_192 (by decide) ?_
          refine g_sub [(0, gF c0), (2, gI v5), (3, gI (v9 + 1))] [1, 2, 0] rfl ?_
          exact hrec11 (v9 + 1) M14 h
        · replace h := h.2 c16
          refine g_aloadn C dX10_finds_111 0 rfl ?_
          refine gf_10_16 C dX10_finds_112 wd_871 hT0 ?_
          refine g_bipush C dX10_finds_115 gRc_12 gRb_12 ?_
          refine g_iloadn C dX10_finds_117 2 rfl ?_
          refine g_imul C dX10_finds_118 h.1 ?_
          replace h := h.2
          refine g_iloadn C dX10_finds_119 1 rfl ?_
          refine g_iadd C dX10_finds_120 h.1 ?_
          replace h := h.2
          refine g_iald C dX10_finds_121 (gt_10_16 hT0) gce_10144 h.1 ?_
          replace h := h.2
          refine g_aloadn C dX10_finds_122 0 rfl ?_
          refine gf_10_16 C dX10_finds_123 wd_871 hT0 ?_
          refine g_bipush C dX10_finds_126 gRc_12 gRb_12 ?_
          refine g_iloadn C dX10_finds_128 1 rfl ?_
          refine g_imul C dX10_finds_129 h.1 ?_
          replace h := h.2
          refine g_iload C dX10_finds_130 3 rfl ?_
          refine g_iadd C dX10_finds_132 h.1 ?_
          replace h := h.2
          refine g_iald C dX10_finds_133 (gt_10_16 hT0) gce_10144 h.1 ?_
          replace h := h.2
          refine g_iadd C dX10_finds_134 h.1 ?_
          replace h := h.2
          obtain ⟨v17, ev17⟩ : ∃ x : Int, x = ((M14 (c0 + 8) ((12 * v9) + v5)) + (M14 (c0 + 8) ((12 * v5) + v13))) := ⟨_, rfl⟩
          refine g_nm ev17 ?_
          replace h := h v17 ev17
          refine g_istore C [(5, gI v17), (0, gF c0), (2, gI v5), (3, gI v9), (4, gI v13)] dX10_finds_135 (by decide) rfl ?_
          refine g_aloadn C dX10_finds_137 1 rfl ?_
          refine gf_10_16 C dX10_finds_138 wd_871 hT0 ?_
          refine g_bipush C dX10_finds_141 gRc_12 gRb_12 ?_
          refine g_iloadn C dX10_finds_143 3 rfl ?_
          refine g_imul C dX10_finds_144 h.1 ?_
          replace h := h.2
          refine g_iload C dX10_finds_145 4 rfl ?_
          refine g_iadd C dX10_finds_147 h.1 ?_
          replace h := h.2
          refine g_iload C dX10_finds_148 0 rfl ?_
          refine g_aloadn C dX10_finds_150 1 rfl ?_
          refine gf_10_16 C dX10_finds_151 wd_871 hT0 ?_
          refine g_bipush C dX10_finds_154 gRc_12 gRb_12 ?_
          refine g_iloadn C dX10_finds_156 3 rfl ?_
          refine g_imul C dX10_finds_157 h.1 ?_
          replace h := h.2
          refine g_iload C dX10_finds_158 4 rfl ?_
          refine g_iadd C dX10_finds_160 h.1 ?_
          replace h := h.2
          refine g_iald C dX10_finds_161 (gt_10_16 hT0) gce_10144 h.1 ?_
          replace h := h.2
          obtain ⟨P20, h, hP20⟩ := h
          have J21 : ∀ (x18 : Int) (M19 : gMem), P20 x18 M19 → gG X V 6 182 [(0, gF c0), (2, gI v5), (3, gI v9), (4, gI v13)] [gI x18, gI ((12 * v9) + v13), gF (c0 + 8)] M19 := by
            intro x18 M19 h
            replace h := hP20 x18 M19 h
            refine g_iast C dX10_finds_182 (gt_10_16 hT0) gce_10144 h.1 ?_
            replace h := h.2
            obtain ⟨M22, eM22⟩ : ∃ x : gMem, x = gup M19 (c0 + 8) ((12 * v9) + v13) x18 := ⟨_, rfl⟩
            refine g_nmM eM22 ?_
            replace h := h M22 eM22
            refine g_iinc C [(4, gI (v13 + 1)), (0, gF c0), (2, gI v5), (3, gI v9)] dX10_finds_183 3 rfl (by decide) h.1 rfl ?_
            replace h := h.2
            refine g_goto (t := 102) C dX10_finds_186 (by decide) ?_
            refine g_sub [(0, gF c0), (2, gI v5), (3, gI v9), (4, gI (v13 + 1))] [1, 2, 3, 0] rfl ?_
            exact hrec15 (v13 + 1) M22 h
          refine g_ic_ge (t := 170) C dX10_finds_162 (by decide) (fun c23 => ?_) (fun c23 => ?_)
          · replace h := h.1 c23
            refine g_aloadn C dX10_finds_170 1 rfl ?_
            refine gf_10_16 C dX10_finds_171 wd_871 hT0 ?_
            refine g_bipush C dX10_finds_174 gRc_12 gRb_12 ?_
            refine g_iloadn C dX10_finds_176 3 rfl ?_
            refine g_imul C dX10_finds_177 h.1 ?_
            replace h := h.2
            refine g_iload C dX10_finds_178 4 rfl ?_
            refine g_iadd C dX10_finds_180 h.1 ?_
            replace h := h.2
            refine g_iald C dX10_finds_181 (gt_10_16 hT0) gce_10144 h.1 ?_
            replace h := h.2
            refine g_sub [(0, gF c0), (2, gI v5), (3, gI v9), (4, gI v13)] [1, 2, 3, 4] rfl ?_
            exact J21 (M14 (c0 + 8) ((12 * v9) + v13)) M14 h
          · replace h := h.2 c23
            refine g_iload C dX10_finds_165 0 rfl ?_
            refine g_goto (t := 182) C dX10_finds_167 (by decide) ?_
            refine g_sub [(0, gF c0), (2, gI v5), (3, gI v9), (4, gI v13)] [1, 2, 3, 4] rfl ?_
            exact J21 v17 M14 h
  · replace h := h.2 c4
    refine g_aloadn C dX10_finds_9 0 rfl ?_
    refine gf_10_0 C dX10_finds_10 wd_855 hT0 ?_
    refine g_iloadn C dX10_finds_13 2 rfl ?_
    refine g_iald C dX10_finds_14 (gt_10_0 hT0) gce_11727 h.1 ?_
    replace h := h.2
    obtain ⟨P26, h, hP26⟩ := h
    have J27 : ∀ (x24 : Int) (M25 : gMem), P26 x24 M25 → gG X V 6 36 [(0, gF c0), (1, gI a1), (2, gI v1)] [gI x24] M25 := by
      intro x24 M25 h
      replace h := hP26 x24 M25 h
      refine g_istoren C [(3, gI x24), (0, gF c0), (1, gI a1), (2, gI v1)] dX10_finds_36 (by decide) rfl ?_
      refine g_aloadn C dX10_finds_37 1 rfl ?_
      refine gf_10_16 C dX10_finds_38 wd_871 hT0 ?_
      refine g_iloadn C dX10_finds_41 3 rfl ?_
      refine g_iloadn C dX10_finds_42 3 rfl ?_
      refine g_bipush C dX10_finds_43 gRc_12 gRb_12 ?_
      refine g_idiv C dX10_finds_45 h.1 ?_
      replace h := h.2
      refine g_iloadn C dX10_finds_46 3 rfl ?_
      refine g_bipush C dX10_finds_47 gRc_12 gRb_12 ?_
      refine g_irem C dX10_finds_49 h.1 ?_
      replace h := h.2
      obtain ⟨P30, h, hP30⟩ := h
      have J31 : ∀ (x28 : Int) (M29 : gMem), P30 x28 M29 → gG X V 6 72 [(0, gF c0), (1, gI a1), (2, gI v1)] [gI x28, gI v1, gF (c0 + 8)] M29 := by
        intro x28 M29 h
        replace h := hP30 x28 M29 h
        refine g_iast C dX10_finds_72 (gt_10_16 hT0) gce_10144 h.1 ?_
        replace h := h.2
        obtain ⟨M32, eM32⟩ : ∃ x : gMem, x = gup M29 (c0 + 8) v1 x28 := ⟨_, rfl⟩
        refine g_nmM eM32 ?_
        replace h := h M32 eM32
        refine g_iinc C [(2, gI (v1 + 1)), (0, gF c0), (1, gI a1)] dX10_finds_73 2 rfl (by decide) h.1 rfl ?_
        replace h := h.2
        refine g_goto (t := 2) C dX10_finds_76 (by decide) ?_
        refine g_sub [(0, gF c0), (1, gI a1), (2, gI (v1 + 1))] [1, 2, 0] rfl ?_
        exact hrec3 (v1 + 1) M32 h
      refine g_ic_ne (t := 57) C dX10_finds_50 (by decide) (fun c33 => ?_) (fun c33 => ?_)
      · replace h := h.1 c33
        refine g_iloadn C dX10_finds_57 0 rfl ?_
        refine g_if_eq (t := 70) C dX10_finds_58 (by decide) (fun c34 => ?_) (fun c34 => ?_)
        · replace h := h.1 c34
          refine g_ldc C dX10_finds_70 wd_1034 gRc_100000 rfl ?_
          refine g_sub [(0, gF c0), (1, gI a1), (2, gI v1)] [1, 2, 3] rfl ?_
          exact J31 100000 M25 h
        · replace h := h.2 c34
          refine g_aloadn C dX10_finds_61 1 rfl ?_
          refine gf_10_0 C dX10_finds_62 wd_855 hT0 ?_
          refine g_iloadn C dX10_finds_65 3 rfl ?_
          refine g_iald C dX10_finds_66 (gt_10_0 hT0) gce_11727 h.1 ?_
          replace h := h.2
          refine g_goto (t := 72) C dX10_finds_67 (by decide) ?_
          refine g_sub [(0, gF c0), (1, gI a1), (2, gI v1)] [1, 2, 3] rfl ?_
          exact J31 (M25 (c0 + 1) v1) M25 h
      · replace h := h.2 c33
        refine g_iconst C dX10_finds_53 gRc_0 ?_
        refine g_goto (t := 72) C dX10_finds_54 (by decide) ?_
        refine g_sub [(0, gF c0), (1, gI a1), (2, gI v1)] [1, 2, 3] rfl ?_
        exact J31 0 M25 h
    obtain ⟨P36, h, hP36⟩ := h
    have J37 : ∀ (M35 : gMem), P36 M35 → gG X V 6 35 [(0, gF c0), (1, gI a1), (2, gI v1)] [] M35 := by
      intro M35 h
      replace h := hP36 M35 h
      refine g_iconst C dX10_finds_35 gRc_0 ?_
      exact J27 0 M35 h
    refine g_if_le (t := 35) C dX10_finds_15 (by decide) (fun c38 => ?_) (fun c38 => ?_)
    · replace h := h.1 c38
      exact J37 M2 h
    · replace h := h.2 c38
      refine g_iloadn C dX10_finds_18 1 rfl ?_
      obtain ⟨P40, h, hP40⟩ := h
      have J41 : ∀ (M39 : gMem), P40 M39 → gG X V 6 31 [(0, gF c0), (1, gI a1), (2, gI v1)] [] M39 := by
        intro M39 h
        replace h := hP40 M39 h
        refine g_iconst C dX10_finds_31 gRc_1 ?_
        refine g_goto (t := 36) C dX10_finds_32 (by decide) ?_
        exact J27 1 M39 h
      refine g_if_eq (t := 31) C dX10_finds_19 (by decide) (fun c42 => ?_) (fun c42 => ?_)
      · replace h := h.1 c42
        exact J41 M2 h
      · replace h := h.2 c42
        refine g_aloadn C dX10_finds_22 0 rfl ?_
        refine gf_10_17 C dX10_finds_23 wd_872 hT0 ?_
        refine g_iloadn C dX10_finds_26 2 rfl ?_
        refine g_zald C dX10_finds_27 (gt_10_17 hT0) gce_20144 h.1 ?_
        replace h := h.2
        refine g_if_eq (t := 35) C dX10_finds_28 (by decide) (fun c43 => ?_) (fun c43 => ?_)
        · replace h := h.1 c43
          exact J37 M2 h
        · replace h := h.2 c43
          exact J41 M2 h

set_option maxRecDepth 100000 in
set_option maxHeartbeats 4000000 in
theorem sX10_isWay {l : Launch} {V : gW} (hD : gD V) (c0 a1 a2 : Int) (M0 : gMem) (K : Int → gMem → Prop) (hT0 : gT c0 10) (h : wX10_isWay c0 a1 a2 K M0) (hM : gOM M0) (ho : ∀ q ∈ ([gI a1, gI a2] : List gSV), gOK q) : gMi l V yX10_isWay cX10_isWay 3 (some .boolean) 0 0 [gF c0, gI a1, gI a2] M0 K := by
  refine gMi_of hD (by decide) (Nat.le_of_ble_eq_true rfl) [(0, gF c0), (1, gI a1), (2, gI a2)] rfl (gok_L rfl (gok_n (q := gF c0) trivial ho)) hM (fun X C hR => ?_)
  unfold wX10_isWay at h
  refine g_aloadn C dX10_isWay_0 0 rfl ?_
  refine gf_10_16 C dX10_isWay_1 wd_871 hT0 ?_
  refine g_bipush C dX10_isWay_4 gRc_12 gRb_12 ?_
  refine g_iloadn C dX10_isWay_6 1 rfl ?_
  refine g_imul C dX10_isWay_7 h.1 ?_
  replace h := h.2
  refine g_iloadn C dX10_isWay_8 2 rfl ?_
  refine g_iadd C dX10_isWay_9 h.1 ?_
  replace h := h.2
  refine g_iald C dX10_isWay_10 (gt_10_16 hT0) gce_10144 h.1 ?_
  replace h := h.2
  refine g_ldc C dX10_isWay_11 wd_1034 gRc_100000 rfl ?_
  obtain ⟨P3, h, hP3⟩ := h
  have J4 : ∀ (x1 : Int) (M2 : gMem), P3 x1 M2 → gG X V 3 21 [] [gI x1] M2 := by
    intro x1 M2 h
    replace h := hP3 x1 M2 h
    exact g_zret C hR dX10_isWay_21 h.1 h.2
  refine g_ic_ge (t := 20) C dX10_isWay_13 (by decide) (fun c5 => ?_) (fun c5 => ?_)
  · replace h := h.1 c5
    refine g_iconst C dX10_isWay_20 gRc_0 ?_
    refine g_sub [] [] rfl ?_
    exact J4 0 M0 h
  · replace h := h.2 c5
    refine g_iconst C dX10_isWay_16 gRc_1 ?_
    refine g_goto (t := 21) C dX10_isWay_17 (by decide) ?_
    refine g_sub [] [] rfl ?_
    exact J4 1 M0 h

set_option maxRecDepth 100000 in
set_option maxHeartbeats 4000000 in
theorem sX10_distance {l : Launch} {V : gW} (hD : gD V) (c0 a1 a2 : Int) (M0 : gMem) (K : Int → gMem → Prop) (hT0 : gT c0 10) (h : wX10_distance c0 a1 a2 K M0) (hM : gOM M0) (ho : ∀ q ∈ ([gI a1, gI a2] : List gSV), gOK q) : gMi l V yX10_distance cX10_distance 3 (some .int) 2 46 [gF c0, gI a1, gI a2] M0 K := by
  refine gMi_of hD (by decide) (Nat.le_of_ble_eq_true rfl) [(0, gF c0), (1, gI a1), (2, gI a2)] rfl (gok_L rfl (gok_n (q := gF c0) trivial ho)) hM (fun X C hR => ?_)
  unfold wX10_distance at h
  refine g_aloadn C dX10_distance_0 0 rfl ?_
  refine g_iloadn C dX10_distance_1 1 rfl ?_
  refine g_cVi (st := []) C dX10_distance_2 ykX10_isNode wd_1022 ⟨by decide, by decide⟩ [gI a1] rfl (Nat.le_of_ble_eq_true rfl) hT0 (fun hM ho => sX10_isNode hD c0 a1 M0 _ hT0 h hM ho) (fun r2 M1 h => ?_)
  obtain ⟨P4, h, hP4⟩ := h
  have J5 : ∀ (M3 : gMem), P4 M3 → gG X V 3 16 [] [] M3 := by
    intro M3 h
    replace h := hP4 M3 h
    refine g_bipush C dX10_distance_16 gRc_m2 gRb_m2 ?_
    exact g_iret C hR dX10_distance_18 h
  refine g_if_eq (t := 16) C dX10_distance_5 (by decide) (fun c6 => ?_) (fun c6 => ?_)
  · replace h := h.1 c6
    refine g_sub [] [] rfl ?_
    exact J5 M1 h
  · replace h := h.2 c6
    refine g_aloadn C dX10_distance_8 0 rfl ?_
    refine g_iloadn C dX10_distance_9 2 rfl ?_
    refine g_cVi (st := []) C dX10_distance_10 ykX10_isNode wd_1022 ⟨by decide, by decide⟩ [gI a2] rfl (Nat.le_of_ble_eq_true rfl) hT0 (fun hM ho => sX10_isNode hD c0 a2 M1 _ hT0 h hM ho) (fun r8 M7 h => ?_)
    refine g_if_ne (t := 19) C dX10_distance_13 (by decide) (fun c9 => ?_) (fun c9 => ?_)
    · replace h := h.1 c9
      refine g_aloadn C dX10_distance_19 0 rfl ?_
      refine g_iconst C dX10_distance_20 gRc_0 ?_
      refine g_cVv (st := []) C dX10_distance_21 ykX10_finds wd_1030 ⟨by decide, by decide⟩ [gI 0] rfl (Nat.le_of_ble_eq_true rfl) hT0 (fun hM ho => sX10_finds hD c0 0 M7 _ hT0 h hM ho) (fun M10 h => ?_)
      refine g_aloadn C dX10_distance_24 0 rfl ?_
      refine g_iloadn C dX10_distance_25 1 rfl ?_
      refine g_iloadn C dX10_distance_26 2 rfl ?_
      refine g_cVi (st := []) C dX10_distance_27 ykX10_isWay wd_1035 ⟨by decide, by decide⟩ [gI a1, gI a2] rfl (Nat.le_of_ble_eq_true rfl) hT0 (fun hM ho => sX10_isWay hD c0 a1 a2 M10 _ hT0 h hM ho) (fun r12 M11 h => ?_)
      obtain ⟨P15, h, hP15⟩ := h
      have J16 : ∀ (x13 : Int) (M14 : gMem), P15 x13 M14 → gG X V 3 48 [] [gI x13] M14 := by
        intro x13 M14 h
        replace h := hP15 x13 M14 h
        exact g_iret C hR dX10_distance_48 h
      refine g_if_eq (t := 47) C dX10_distance_30 (by decide) (fun c17 => ?_) (fun c17 => ?_)
      · replace h := h.1 c17
        refine g_iconst C dX10_distance_47 gRc_m1 ?_
        refine g_sub [] [] rfl ?_
        exact J16 (-1) M11 h
      · replace h := h.2 c17
        refine g_aloadn C dX10_distance_33 0 rfl ?_
        refine gf_10_16 C dX10_distance_34 wd_871 hT0 ?_
        refine g_bipush C dX10_distance_37 gRc_12 gRb_12 ?_
        refine g_iloadn C dX10_distance_39 1 rfl ?_
        refine g_imul C dX10_distance_40 h.1 ?_
        replace h := h.2
        refine g_iloadn C dX10_distance_41 2 rfl ?_
        refine g_iadd C dX10_distance_42 h.1 ?_
        replace h := h.2
        refine g_iald C dX10_distance_43 (gt_10_16 hT0) gce_10144 h.1 ?_
        replace h := h.2
        refine g_goto (t := 48) C dX10_distance_44 (by decide) ?_
        refine g_sub [] [] rfl ?_
        exact J16 (M11 (c0 + 8) ((12 * a1) + a2)) M11 h
    · replace h := h.2 c9
      refine g_sub [] [] rfl ?_
      exact J5 M7 h

set_option maxRecDepth 100000 in
set_option maxHeartbeats 4000000 in
theorem sX10_nearestOf {l : Launch} {V : gW} (hD : gD V) (c0 a1 a2 : Int) (M0 : gMem) (K : Int → gMem → Prop) (hT0 : gT c0 10) (h : wX10_nearestOf c0 a1 a2 K M0) (hM : gOM M0) (ho : ∀ q ∈ ([gI a1, gI a2] : List gSV), gOK q) : gMi l V yX10_nearestOf cX10_nearestOf 5 (some .int) 1 22 [gF c0, gI a1, gI a2] M0 K := by
  refine gMi_of hD (by decide) (Nat.le_of_ble_eq_true rfl) [(0, gF c0), (1, gI a1), (2, gI a2)] rfl (gok_L rfl (gok_n (q := gF c0) trivial ho)) hM (fun X C hR => ?_)
  unfold wX10_nearestOf at h
  refine g_iconst C dX10_nearestOf_0 gRc_m1 ?_
  refine g_istoren C [(3, gI (-1)), (0, gF c0), (1, gI a1), (2, gI a2)] dX10_nearestOf_1 (by decide) rfl ?_
  refine g_iconst C dX10_nearestOf_2 gRc_0 ?_
  refine g_istore C [(4, gI 0), (3, gI (-1)), (0, gF c0), (1, gI a1), (2, gI a2)] dX10_nearestOf_3 (by decide) rfl ?_
  refine g_sub [(0, gF c0), (1, gI a1), (2, gI a2), (3, gI (-1)), (4, gI 0)] [2, 3, 4, 1, 0] rfl ?_
  refine gL2_go (Gd := fun (v1 : Int) (v2 : Int) (M3 : gMem) => gG X V 5 5 [(0, gF c0), (1, gI a1), (2, gI a2), (3, gI v1), (4, gI v2)] [] M3) (fun rec4 hrec4 v1 v2 M3 h => ?_) h
  refine g_iload C dX10_nearestOf_5 4 rfl ?_
  refine g_aloadn C dX10_nearestOf_7 0 rfl ?_
  refine gf_10_2 C dX10_nearestOf_8 wd_857 hT0 ?_
  refine g_ic_ge (t := 79) C dX10_nearestOf_11 (by decide) (fun c5 => ?_) (fun c5 => ?_)
  · replace h := h.1 c5
    refine g_iloadn C dX10_nearestOf_79 3 rfl ?_
    exact g_iret C hR dX10_nearestOf_80 h
  · replace h := h.2 c5
    refine g_aloadn C dX10_nearestOf_14 0 rfl ?_
    refine gf_10_0 C dX10_nearestOf_15 wd_855 hT0 ?_
    refine g_sipush C dX10_nearestOf_18 gRc_144 gRs_144 ?_
    refine g_iload C dX10_nearestOf_21 4 rfl ?_
    refine g_iadd C dX10_nearestOf_23 h.1 ?_
    replace h := h.2
    refine g_iald C dX10_nearestOf_24 (gt_10_0 hT0) gce_11727 h.1 ?_
    replace h := h.2
    refine g_iloadn C dX10_nearestOf_25 2 rfl ?_
    obtain ⟨P8, h, hP8⟩ := h
    have J9 : ∀ (v6 : Int) (M7 : gMem), P8 v6 M7 → gG X V 5 73 [(0, gF c0), (1, gI a1), (2, gI a2), (3, gI v6), (4, gI v2)] [] M7 := by
      intro v6 M7 h
      replace h := hP8 v6 M7 h
      refine g_iinc C [(4, gI (v2 + 1)), (0, gF c0), (1, gI a1), (2, gI a2), (3, gI v6)] dX10_nearestOf_73 4 rfl (by decide) h.1 rfl ?_
      replace h := h.2
      refine g_goto (t := 5) C dX10_nearestOf_76 (by decide) ?_
      refine g_sub [(0, gF c0), (1, gI a1), (2, gI a2), (3, gI v6), (4, gI (v2 + 1))] [1, 2, 3, 4, 0] rfl ?_
      exact hrec4 v6 (v2 + 1) M7 h
    refine g_ic_lt (t := 73) C dX10_nearestOf_26 (by decide) (fun c10 => ?_) (fun c10 => ?_)
    · replace h := h.1 c10
      exact J9 v1 M3 h
    · replace h := h.2 c10
      refine g_aloadn C dX10_nearestOf_29 0 rfl ?_
      refine g_iloadn C dX10_nearestOf_30 1 rfl ?_
      refine g_iload C dX10_nearestOf_31 4 rfl ?_
      refine g_cVi (st := []) C dX10_nearestOf_33 ykX10_isWay wd_1035 ⟨by decide, by decide⟩ [gI a1, gI v2] rfl (Nat.le_of_ble_eq_true rfl) hT0 (fun hM ho => sX10_isWay hD c0 a1 v2 M3 _ hT0 h hM ho) (fun r12 M11 h => ?_)
      refine g_if_eq (t := 73) C dX10_nearestOf_36 (by decide) (fun c13 => ?_) (fun c13 => ?_)
      · replace h := h.1 c13
        exact J9 v1 M11 h
      · replace h := h.2 c13
        refine g_iloadn C dX10_nearestOf_39 3 rfl ?_
        refine g_iconst C dX10_nearestOf_40 gRc_m1 ?_
        obtain ⟨P15, h, hP15⟩ := h
        have J16 : ∀ (M14 : gMem), P15 M14 → gG X V 5 70 [(0, gF c0), (1, gI a1), (2, gI a2), (4, gI v2)] [] M14 := by
          intro M14 h
          replace h := hP15 M14 h
          refine g_iload C dX10_nearestOf_70 3 rfl ?_
          refine g_istoren C [(3, gI v2), (0, gF c0), (1, gI a1), (2, gI a2), (4, gI v2)] dX10_nearestOf_72 (by decide) rfl ?_
          refine g_sub [(0, gF c0), (1, gI a1), (2, gI a2), (3, gI v2), (4, gI v2)] [1, 2, 3, 0, 4] rfl ?_
          exact J9 v2 M14 h
        refine g_ic_eq (t := 70) C dX10_nearestOf_41 (by decide) (fun c17 => ?_) (fun c17 => ?_)
        · replace h := h.1 c17
          refine g_sub [(0, gF c0), (1, gI a1), (2, gI a2), (4, gI v2)] [0, 1, 2, 4] rfl ?_
          exact J16 M11 h
        · replace h := h.2 c17
          refine g_aloadn C dX10_nearestOf_44 0 rfl ?_
          refine gf_10_16 C dX10_nearestOf_45 wd_871 hT0 ?_
          refine g_bipush C dX10_nearestOf_48 gRc_12 gRb_12 ?_
          refine g_iloadn C dX10_nearestOf_50 1 rfl ?_
          refine g_imul C dX10_nearestOf_51 h.1 ?_
          replace h := h.2
          refine g_iload C dX10_nearestOf_52 4 rfl ?_
          refine g_iadd C dX10_nearestOf_54 h.1 ?_
          replace h := h.2
          refine g_iald C dX10_nearestOf_55 (gt_10_16 hT0) gce_10144 h.1 ?_
          replace h := h.2
          refine g_aloadn C dX10_nearestOf_56 0 rfl ?_
          refine gf_10_16 C dX10_nearestOf_57 wd_871 hT0 ?_
          refine g_bipush C dX10_nearestOf_60 gRc_12 gRb_12 ?_
          refine g_iloadn C dX10_nearestOf_62 1 rfl ?_
          refine g_imul C dX10_nearestOf_63 h.1 ?_
          replace h := h.2
          refine g_iloadn C dX10_nearestOf_64 3 rfl ?_
          refine g_iadd C dX10_nearestOf_65 h.1 ?_
          replace h := h.2
          refine g_iald C dX10_nearestOf_66 (gt_10_16 hT0) gce_10144 h.1 ?_
          replace h := h.2
          refine g_ic_ge (t := 73) C dX10_nearestOf_67 (by decide) (fun c18 => ?_) (fun c18 => ?_)
          · replace h := h.1 c18
            exact J9 v1 M11 h
          · replace h := h.2 c18
            refine g_sub [(0, gF c0), (1, gI a1), (2, gI a2), (4, gI v2)] [0, 1, 2, 4] rfl ?_
            exact J16 M11 h

set_option maxRecDepth 100000 in
set_option maxHeartbeats 4000000 in
theorem sX10_isInBunch {l : Launch} {V : gW} (hD : gD V) (c0 a1 a2 : Int) (M0 : gMem) (K : Int → gMem → Prop) (hT0 : gT c0 10) (h : wX10_isInBunch c0 a1 a2 K M0) (hM : gOM M0) (ho : ∀ q ∈ ([gI a1, gI a2] : List gSV), gOK q) : gMi l V yX10_isInBunch cX10_isInBunch 4 (some .boolean) 2 46 [gF c0, gI a1, gI a2] M0 K := by
  refine gMi_of hD (by decide) (Nat.le_of_ble_eq_true rfl) [(0, gF c0), (1, gI a1), (2, gI a2)] rfl (gok_L rfl (gok_n (q := gF c0) trivial ho)) hM (fun X C hR => ?_)
  unfold wX10_isInBunch at h
  refine g_aloadn C dX10_isInBunch_0 0 rfl ?_
  refine g_iloadn C dX10_isInBunch_1 1 rfl ?_
  refine g_aloadn C dX10_isInBunch_2 0 rfl ?_
  refine gf_10_0 C dX10_isInBunch_3 wd_855 hT0 ?_
  refine g_sipush C dX10_isInBunch_6 gRc_144 gRs_144 ?_
  refine g_iloadn C dX10_isInBunch_9 2 rfl ?_
  refine g_iadd C dX10_isInBunch_10 h.1 ?_
  replace h := h.2
  refine g_iald C dX10_isInBunch_11 (gt_10_0 hT0) gce_11727 h.1 ?_
  replace h := h.2
  refine g_iconst C dX10_isInBunch_12 gRc_1 ?_
  refine g_iadd C dX10_isInBunch_13 h.1 ?_
  replace h := h.2
  refine g_cVi (st := []) C dX10_isInBunch_14 ykX10_nearestOf wd_1044 ⟨by decide, by decide⟩ [gI a1, gI ((M0 (c0 + 1) (144 + a2)) + 1)] rfl (Nat.le_of_ble_eq_true rfl) hT0 (fun hM ho => sX10_nearestOf hD c0 a1 ((M0 (c0 + 1) (144 + a2)) + 1) M0 _ hT0 h hM ho) (fun r2 M1 h => ?_)
  refine g_istoren C [(3, gI r2), (0, gF c0), (1, gI a1), (2, gI a2)] dX10_isInBunch_17 (by decide) rfl ?_
  refine g_aloadn C dX10_isInBunch_18 1 rfl ?_
  refine g_iloadn C dX10_isInBunch_19 2 rfl ?_
  refine g_iloadn C dX10_isInBunch_20 3 rfl ?_
  refine g_cVi (st := []) C dX10_isInBunch_21 ykX10_isWay wd_1035 ⟨by decide, by decide⟩ [gI a1, gI a2] rfl (Nat.le_of_ble_eq_true rfl) hT0 (fun hM ho => sX10_isWay hD c0 a1 a2 M1 _ hT0 h hM ho) (fun r4 M3 h => ?_)
  obtain ⟨P7, h, hP7⟩ := h
  have J8 : ∀ (x5 : Int) (M6 : gMem), P7 x5 M6 → gG X V 4 62 [] [gI x5] M6 := by
    intro x5 M6 h
    replace h := hP7 x5 M6 h
    exact g_zret C hR dX10_isInBunch_62 h.1 h.2
  obtain ⟨P10, h, hP10⟩ := h
  have J11 : ∀ (M9 : gMem), P10 M9 → gG X V 4 61 [] [] M9 := by
    intro M9 h
    replace h := hP10 M9 h
    refine g_iconst C dX10_isInBunch_61 gRc_0 ?_
    exact J8 0 M9 h
  refine g_if_eq (t := 61) C dX10_isInBunch_24 (by decide) (fun c12 => ?_) (fun c12 => ?_)
  · replace h := h.1 c12
    refine g_sub [] [] rfl ?_
    exact J11 M3 h
  · replace h := h.2 c12
    refine g_iloadn C dX10_isInBunch_27 0 rfl ?_
    refine g_iconst C dX10_isInBunch_28 gRc_m1 ?_
    obtain ⟨P14, h, hP14⟩ := h
    have J15 : ∀ (M13 : gMem), P14 M13 → gG X V 4 57 [] [] M13 := by
      intro M13 h
      replace h := hP14 M13 h
      refine g_iconst C dX10_isInBunch_57 gRc_1 ?_
      refine g_goto (t := 62) C dX10_isInBunch_58 (by decide) ?_
      exact J8 1 M13 h
    refine g_ic_eq (t := 57) C dX10_isInBunch_29 (by decide) (fun c16 => ?_) (fun c16 => ?_)
    · replace h := h.1 c16
      refine g_sub [] [] rfl ?_
      exact J15 M3 h
    · replace h := h.2 c16
      refine g_aloadn C dX10_isInBunch_32 1 rfl ?_
      refine gf_10_16 C dX10_isInBunch_33 wd_871 hT0 ?_
      refine g_bipush C dX10_isInBunch_36 gRc_12 gRb_12 ?_
      refine g_iloadn C dX10_isInBunch_38 2 rfl ?_
      refine g_imul C dX10_isInBunch_39 h.1 ?_
      replace h := h.2
      refine g_iloadn C dX10_isInBunch_40 3 rfl ?_
      refine g_iadd C dX10_isInBunch_41 h.1 ?_
      replace h := h.2
      refine g_iald C dX10_isInBunch_42 (gt_10_16 hT0) gce_10144 h.1 ?_
      replace h := h.2
      refine g_aloadn C dX10_isInBunch_43 1 rfl ?_
      refine gf_10_16 C dX10_isInBunch_44 wd_871 hT0 ?_
      refine g_bipush C dX10_isInBunch_47 gRc_12 gRb_12 ?_
      refine g_iloadn C dX10_isInBunch_49 2 rfl ?_
      refine g_imul C dX10_isInBunch_50 h.1 ?_
      replace h := h.2
      refine g_iloadn C dX10_isInBunch_51 0 rfl ?_
      refine g_iadd C dX10_isInBunch_52 h.1 ?_
      replace h := h.2
      refine g_iald C dX10_isInBunch_53 (gt_10_16 hT0) gce_10144 h.1 ?_
      replace h := h.2
      refine g_ic_ge (t := 61) C dX10_isInBunch_54 (by decide) (fun c17 => ?_) (fun c17 => ?_)
      · replace h := h.1 c17
        refine g_sub [] [] rfl ?_
        exact J11 M3 h
      · replace h := h.2 c17
        refine g_sub [] [] rfl ?_
        exact J15 M3 h

set_option maxRecDepth 100000 in
set_option maxHeartbeats 4000000 in
theorem sX10_bunchOf {l : Launch} {V : gW} (hD : gD V) (c0 a1 : Int) (M0 : gMem) (K : Int → gMem → Prop) (hT0 : gT c0 10) (h : wX10_bunchOf c0 a1 K M0) (hM : gOM M0) (ho : ∀ q ∈ ([gI a1] : List gSV), gOK q) : gMi l V yX10_bunchOf cX10_bunchOf 4 (some .int) 3 69 [gF c0, gI a1] M0 K := by
  refine gMi_of hD (by decide) (Nat.le_of_ble_eq_true rfl) [(0, gF c0), (1, gI a1)] rfl (gok_L rfl (gok_n (q := gF c0) trivial ho)) hM (fun X C hR => ?_)
  unfold wX10_bunchOf at h
  refine g_iconst C dX10_bunchOf_0 gRc_0 ?_
  refine g_istoren C [(2, gI 0), (0, gF c0), (1, gI a1)] dX10_bunchOf_1 (by decide) rfl ?_
  refine g_iconst C dX10_bunchOf_2 gRc_0 ?_
  refine g_istoren C [(3, gI 0), (2, gI 0), (0, gF c0), (1, gI a1)] dX10_bunchOf_3 (by decide) rfl ?_
  refine g_sub [(0, gF c0), (1, gI a1), (2, gI 0), (3, gI 0)] [2, 3, 1, 0] rfl ?_
  refine gL2_go (Gd := fun (v1 : Int) (v2 : Int) (M3 : gMem) => gG X V 4 4 [(0, gF c0), (1, gI a1), (2, gI v1), (3, gI v2)] [] M3) (fun rec4 hrec4 v1 v2 M3 h => ?_) h
  refine g_iloadn C dX10_bunchOf_4 3 rfl ?_
  refine g_aloadn C dX10_bunchOf_5 0 rfl ?_
  refine gf_10_2 C dX10_bunchOf_6 wd_857 hT0 ?_
  refine g_ic_ge (t := 37) C dX10_bunchOf_9 (by decide) (fun c5 => ?_) (fun c5 => ?_)
  · replace h := h.1 c5
    refine g_iloadn C dX10_bunchOf_37 2 rfl ?_
    exact g_iret C hR dX10_bunchOf_38 h
  · replace h := h.2 c5
    refine g_iloadn C dX10_bunchOf_12 2 rfl ?_
    refine g_aloadn C dX10_bunchOf_13 0 rfl ?_
    refine g_iloadn C dX10_bunchOf_14 1 rfl ?_
    refine g_iloadn C dX10_bunchOf_15 3 rfl ?_
    refine g_cVi (st := [gI v1]) C dX10_bunchOf_16 ykX10_isInBunch wd_1056 ⟨by decide, by decide⟩ [gI a1, gI v2] rfl (Nat.le_of_ble_eq_true rfl) hT0 (fun hM ho => sX10_isInBunch hD c0 a1 v2 M3 _ hT0 h hM ho) (fun r7 M6 h => ?_)
    obtain ⟨P10, h, hP10⟩ := h
    have J11 : ∀ (x8 : Int) (M9 : gMem), P10 x8 M9 → gG X V 4 29 [(0, gF c0), (1, gI a1), (3, gI v2)] [gI x8, gI v1] M9 := by
      intro x8 M9 h
      replace h := hP10 x8 M9 h
      refine g_ior C dX10_bunchOf_29 h.1 ?_
      replace h := h.2
      obtain ⟨v12, ev12⟩ : ∃ x : Int, x = gor v1 x8 := ⟨_, rfl⟩
      refine g_nm ev12 ?_
      replace h := h v12 ev12
      refine g_istoren C [(2, gI v12), (0, gF c0), (1, gI a1), (3, gI v2)] dX10_bunchOf_30 (by decide) rfl ?_
      refine g_iinc C [(3, gI (v2 + 1)), (2, gI v12), (0, gF c0), (1, gI a1)] dX10_bunchOf_31 3 rfl (by decide) h.1 rfl ?_
      replace h := h.2
      refine g_goto (t := 4) C dX10_bunchOf_34 (by decide) ?_
      refine g_sub [(0, gF c0), (1, gI a1), (2, gI v12), (3, gI (v2 + 1))] [2, 3, 1, 0] rfl ?_
      exact hrec4 v12 (v2 + 1) M9 h
    refine g_if_eq (t := 28) C dX10_bunchOf_19 (by decide) (fun c13 => ?_) (fun c13 => ?_)
    · replace h := h.1 c13
      refine g_iconst C dX10_bunchOf_28 gRc_0 ?_
      refine g_sub [(0, gF c0), (1, gI a1), (3, gI v2)] [0, 1, 3] rfl ?_
      exact J11 0 M6 h
    · replace h := h.2 c13
      refine g_iconst C dX10_bunchOf_22 gRc_1 ?_
      refine g_iloadn C dX10_bunchOf_23 3 rfl ?_
      refine g_ishl C dX10_bunchOf_24 h.1 ?_
      replace h := h.2
      refine g_goto (t := 29) C dX10_bunchOf_25 (by decide) ?_
      refine g_sub [(0, gF c0), (1, gI a1), (3, gI v2)] [0, 1, 3] rfl ?_
      exact J11 (gpw v2) M6 h

set_option maxRecDepth 100000 in
set_option maxHeartbeats 4000000 in
theorem sX10_nearest {l : Launch} {V : gW} (hD : gD V) (c0 a1 a2 a3 : Int) (M0 : gMem) (K : Int → gMem → Prop) (hT0 : gT c0 10) (h : wX10_nearest c0 a1 a2 a3 K M0) (hM : gOM M0) (ho : ∀ q ∈ ([gI a1, gI a2, gI a3] : List gSV), gOK q) : gMi l V yX10_nearest cX10_nearest 5 (some .int) 2 46 [gF c0, gI a1, gI a2, gI a3] M0 K := by
  refine gMi_of hD (by decide) (Nat.le_of_ble_eq_true rfl) [(0, gF c0), (1, gI a1), (2, gI a2), (3, gI a3)] rfl (gok_L rfl (gok_n (q := gF c0) trivial ho)) hM (fun X C hR => ?_)
  unfold wX10_nearest at h
  refine g_aloadn C dX10_nearest_0 0 rfl ?_
  refine g_iloadn C dX10_nearest_1 1 rfl ?_
  refine g_cVi (st := []) C dX10_nearest_2 ykX10_isNode wd_1022 ⟨by decide, by decide⟩ [gI a1] rfl (Nat.le_of_ble_eq_true rfl) hT0 (fun hM ho => sX10_isNode hD c0 a1 M0 _ hT0 h hM ho) (fun r2 M1 h => ?_)
  refine g_if_ne (t := 11) C dX10_nearest_5 (by decide) (fun c3 => ?_) (fun c3 => ?_)
  · replace h := h.1 c3
    refine g_iloadn C dX10_nearest_11 2 rfl ?_
    refine g_i2l C dX10_nearest_12 ?_
    refine g_lconst C dX10_nearest_13 (by decide) (show gOK (gJ 0) from ⟨by decide, by decide⟩) ?_
    refine g_ldc2 C dX10_nearest_14 wd_1043 (by decide) (show gOK (gJ 2) from ⟨by decide, by decide⟩) ?_
    refine g_cSi (st := []) C dX10_nearest_17 ykX10_in wd_937 ⟨by decide, by decide⟩ [gJ a2, gJ 0, gJ 2] rfl (Nat.le_of_ble_eq_true rfl) (fun hM ho => sX10_in hD a2 0 2 M1 _  h hM ho) (fun r5 M4 h => ?_)
    obtain ⟨P7, h, hP7⟩ := h
    have J8 : ∀ (M6 : gMem), P7 M6 → gG X V 5 33 [] [] M6 := by
      intro M6 h
      replace h := hP7 M6 h
      refine g_bipush C dX10_nearest_33 gRc_m3 gRb_m3 ?_
      exact g_iret C hR dX10_nearest_35 h
    refine g_if_eq (t := 33) C dX10_nearest_20 (by decide) (fun c9 => ?_) (fun c9 => ?_)
    · replace h := h.1 c9
      refine g_sub [] [] rfl ?_
      exact J8 M4 h
    · replace h := h.2 c9
      refine g_iloadn C dX10_nearest_23 3 rfl ?_
      refine g_i2l C dX10_nearest_24 ?_
      refine g_lconst C dX10_nearest_25 (by decide) (show gOK (gJ 0) from ⟨by decide, by decide⟩) ?_
      refine g_lconst C dX10_nearest_26 (by decide) (show gOK (gJ 1) from ⟨by decide, by decide⟩) ?_
      refine g_cSi (st := []) C dX10_nearest_27 ykX10_in wd_937 ⟨by decide, by decide⟩ [gJ a3, gJ 0, gJ 1] rfl (Nat.le_of_ble_eq_true rfl) (fun hM ho => sX10_in hD a3 0 1 M4 _  h hM ho) (fun r11 M10 h => ?_)
      refine g_if_ne (t := 36) C dX10_nearest_30 (by decide) (fun c12 => ?_) (fun c12 => ?_)
      · replace h := h.1 c12
        refine g_aloadn C dX10_nearest_36 0 rfl ?_
        refine g_iconst C dX10_nearest_37 gRc_0 ?_
        refine g_cVv (st := []) C dX10_nearest_38 ykX10_finds wd_1030 ⟨by decide, by decide⟩ [gI 0] rfl (Nat.le_of_ble_eq_true rfl) hT0 (fun hM ho => sX10_finds hD c0 0 M10 _ hT0 h hM ho) (fun M13 h => ?_)
        refine g_aloadn C dX10_nearest_41 0 rfl ?_
        refine g_iloadn C dX10_nearest_42 1 rfl ?_
        refine g_iloadn C dX10_nearest_43 2 rfl ?_
        refine g_cVi (st := []) C dX10_nearest_44 ykX10_nearestOf wd_1044 ⟨by decide, by decide⟩ [gI a1, gI a2] rfl (Nat.le_of_ble_eq_true rfl) hT0 (fun hM ho => sX10_nearestOf hD c0 a1 a2 M13 _ hT0 h hM ho) (fun r15 M14 h => ?_)
        refine g_istore C [(4, gI r15), (0, gF c0), (1, gI a1), (2, gI a2), (3, gI a3)] dX10_nearest_47 (by decide) rfl ?_
        refine g_iload C dX10_nearest_49 0 rfl ?_
        refine g_iconst C dX10_nearest_51 gRc_m1 ?_
        obtain ⟨P18, h, hP18⟩ := h
        have J19 : ∀ (x16 : Int) (M17 : gMem), P18 x16 M17 → gG X V 5 76 [] [gI x16] M17 := by
          intro x16 M17 h
          replace h := hP18 x16 M17 h
          exact g_iret C hR dX10_nearest_76 h
        obtain ⟨P21, h, hP21⟩ := h
        have J22 : ∀ (M20 : gMem), P21 M20 → gG X V 5 59 [(4, gI r15)] [] M20 := by
          intro M20 h
          replace h := hP21 M20 h
          refine g_iload C dX10_nearest_59 0 rfl ?_
          refine g_goto (t := 76) C dX10_nearest_61 (by decide) ?_
          refine g_sub [] [] rfl ?_
          exact J19 r15 M20 h
        refine g_ic_eq (t := 59) C dX10_nearest_52 (by decide) (fun c23 => ?_) (fun c23 => ?_)
        · replace h := h.1 c23
          refine g_sub [(4, gI r15)] [0] rfl ?_
          exact J22 M14 h
        · replace h := h.2 c23
          refine g_iloadn C dX10_nearest_55 4 rfl ?_
          refine g_if_ne (t := 64) C dX10_nearest_56 (by decide) (fun c24 => ?_) (fun c24 => ?_)
          · replace h := h.1 c24
            refine g_aloadn C dX10_nearest_64 1 rfl ?_
            refine gf_10_16 C dX10_nearest_65 wd_871 hT0 ?_
            refine g_bipush C dX10_nearest_68 gRc_12 gRb_12 ?_
            refine g_iloadn C dX10_nearest_70 2 rfl ?_
            refine g_imul C dX10_nearest_71 h.1 ?_
            replace h := h.2
            refine g_iload C dX10_nearest_72 0 rfl ?_
            refine g_iadd C dX10_nearest_74 h.1 ?_
            replace h := h.2
            refine g_iald C dX10_nearest_75 (gt_10_16 hT0) gce_10144 h.1 ?_
            replace h := h.2
            refine g_sub [] [] rfl ?_
            exact J19 (M14 (c0 + 8) ((12 * a1) + r15)) M14 h
          · replace h := h.2 c24
            refine g_sub [(4, gI r15)] [0] rfl ?_
            exact J22 M14 h
      · replace h := h.2 c12
        refine g_sub [] [] rfl ?_
        exact J8 M10 h
  · replace h := h.2 c3
    refine g_bipush C dX10_nearest_8 gRc_m2 gRb_m2 ?_
    exact g_iret C hR dX10_nearest_10 h

set_option maxRecDepth 100000 in
set_option maxHeartbeats 4000000 in
theorem sX10_bunch {l : Launch} {V : gW} (hD : gD V) (c0 a1 a2 : Int) (M0 : gMem) (K : Int → gMem → Prop) (hT0 : gT c0 10) (h : wX10_bunch c0 a1 a2 K M0) (hM : gOM M0) (ho : ∀ q ∈ ([gI a1, gI a2] : List gSV), gOK q) : gMi l V yX10_bunch cX10_bunch 5 (some .int) 4 92 [gF c0, gI a1, gI a2] M0 K := by
  refine gMi_of hD (by decide) (Nat.le_of_ble_eq_true rfl) [(0, gF c0), (1, gI a1), (2, gI a2)] rfl (gok_L rfl (gok_n (q := gF c0) trivial ho)) hM (fun X C hR => ?_)
  unfold wX10_bunch at h
  refine g_aloadn C dX10_bunch_0 0 rfl ?_
  refine g_iloadn C dX10_bunch_1 1 rfl ?_
  refine g_cVi (st := []) C dX10_bunch_2 ykX10_isNode wd_1022 ⟨by decide, by decide⟩ [gI a1] rfl (Nat.le_of_ble_eq_true rfl) hT0 (fun hM ho => sX10_isNode hD c0 a1 M0 _ hT0 h hM ho) (fun r2 M1 h => ?_)
  refine g_if_ne (t := 11) C dX10_bunch_5 (by decide) (fun c3 => ?_) (fun c3 => ?_)
  · replace h := h.1 c3
    refine g_iloadn C dX10_bunch_11 2 rfl ?_
    refine g_i2l C dX10_bunch_12 ?_
    refine g_lconst C dX10_bunch_13 (by decide) (show gOK (gJ 0) from ⟨by decide, by decide⟩) ?_
    refine g_lconst C dX10_bunch_14 (by decide) (show gOK (gJ 1) from ⟨by decide, by decide⟩) ?_
    refine g_cSi (st := []) C dX10_bunch_15 ykX10_in wd_937 ⟨by decide, by decide⟩ [gJ a2, gJ 0, gJ 1] rfl (Nat.le_of_ble_eq_true rfl) (fun hM ho => sX10_in hD a2 0 1 M1 _  h hM ho) (fun r5 M4 h => ?_)
    refine g_if_ne (t := 24) C dX10_bunch_18 (by decide) (fun c6 => ?_) (fun c6 => ?_)
    · replace h := h.1 c6
      refine g_aloadn C dX10_bunch_24 0 rfl ?_
      refine g_iconst C dX10_bunch_25 gRc_0 ?_
      refine g_cVv (st := []) C dX10_bunch_26 ykX10_finds wd_1030 ⟨by decide, by decide⟩ [gI 0] rfl (Nat.le_of_ble_eq_true rfl) hT0 (fun hM ho => sX10_finds hD c0 0 M4 _ hT0 h hM ho) (fun M7 h => ?_)
      refine g_iloadn C dX10_bunch_29 2 rfl ?_
      refine g_if_ne (t := 39) C dX10_bunch_30 (by decide) (fun c8 => ?_) (fun c8 => ?_)
      · replace h := h.1 c8
        refine g_iconst C dX10_bunch_39 gRc_0 ?_
        refine g_istoren C [(3, gI 0), (0, gF c0), (1, gI a1), (2, gI a2)] dX10_bunch_40 (by decide) rfl ?_
        refine g_iconst C dX10_bunch_41 gRc_0 ?_
        refine g_istore C [(4, gI 0), (3, gI 0), (0, gF c0), (1, gI a1), (2, gI a2)] dX10_bunch_42 (by decide) rfl ?_
        refine g_sub [(0, gF c0), (1, gI a1), (3, gI 0), (4, gI 0)] [2, 3, 1, 0] rfl ?_
        refine gL2_go (Gd := fun (v9 : Int) (v10 : Int) (M11 : gMem) => gG X V 5 44 [(0, gF c0), (1, gI a1), (3, gI v9), (4, gI v10)] [] M11) (fun rec12 hrec12 v9 v10 M11 h => ?_) h
        refine g_iload C dX10_bunch_44 3 rfl ?_
        refine g_aloadn C dX10_bunch_46 0 rfl ?_
        refine gf_10_2 C dX10_bunch_47 wd_857 hT0 ?_
        refine g_ic_ge (t := 80) C dX10_bunch_50 (by decide) (fun c13 => ?_) (fun c13 => ?_)
        · replace h := h.1 c13
          refine g_iloadn C dX10_bunch_80 2 rfl ?_
          exact g_iret C hR dX10_bunch_81 h
        · replace h := h.2 c13
          refine g_iloadn C dX10_bunch_53 2 rfl ?_
          refine g_aloadn C dX10_bunch_54 0 rfl ?_
          refine g_iload C dX10_bunch_55 3 rfl ?_
          refine g_iloadn C dX10_bunch_57 1 rfl ?_
          refine g_cVi (st := [gI v9]) C dX10_bunch_58 ykX10_isInBunch wd_1056 ⟨by decide, by decide⟩ [gI v10, gI a1] rfl (Nat.le_of_ble_eq_true rfl) hT0 (fun hM ho => sX10_isInBunch hD c0 v10 a1 M11 _ hT0 h hM ho) (fun r15 M14 h => ?_)
          obtain ⟨P18, h, hP18⟩ := h
          have J19 : ∀ (x16 : Int) (M17 : gMem), P18 x16 M17 → gG X V 5 72 [(0, gF c0), (1, gI a1), (4, gI v10)] [gI x16, gI v9] M17 := by
            intro x16 M17 h
            replace h := hP18 x16 M17 h
            refine g_ior C dX10_bunch_72 h.1 ?_
            replace h := h.2
            obtain ⟨v20, ev20⟩ : ∃ x : Int, x = gor v9 x16 := ⟨_, rfl⟩
            refine g_nm ev20 ?_
            replace h := h v20 ev20
            refine g_istoren C [(3, gI v20), (0, gF c0), (1, gI a1), (4, gI v10)] dX10_bunch_73 (by decide) rfl ?_
            refine g_iinc C [(4, gI (v10 + 1)), (3, gI v20), (0, gF c0), (1, gI a1)] dX10_bunch_74 3 rfl (by decide) h.1 rfl ?_
            replace h := h.2
            refine g_goto (t := 44) C dX10_bunch_77 (by decide) ?_
            refine g_sub [(0, gF c0), (1, gI a1), (3, gI v20), (4, gI (v10 + 1))] [2, 3, 1, 0] rfl ?_
            exact hrec12 v20 (v10 + 1) M17 h
          refine g_if_eq (t := 71) C dX10_bunch_61 (by decide) (fun c21 => ?_) (fun c21 => ?_)
          · replace h := h.1 c21
            refine g_iconst C dX10_bunch_71 gRc_0 ?_
            refine g_sub [(0, gF c0), (1, gI a1), (4, gI v10)] [0, 1, 3] rfl ?_
            exact J19 0 M14 h
          · replace h := h.2 c21
            refine g_iconst C dX10_bunch_64 gRc_1 ?_
            refine g_iload C dX10_bunch_65 3 rfl ?_
            refine g_ishl C dX10_bunch_67 h.1 ?_
            replace h := h.2
            refine g_goto (t := 72) C dX10_bunch_68 (by decide) ?_
            refine g_sub [(0, gF c0), (1, gI a1), (4, gI v10)] [0, 1, 3] rfl ?_
            exact J19 (gpw v10) M14 h
      · replace h := h.2 c8
        refine g_aloadn C dX10_bunch_33 0 rfl ?_
        refine g_iloadn C dX10_bunch_34 1 rfl ?_
        refine g_cVi (st := []) C dX10_bunch_35 ykX10_bunchOf wd_1052 ⟨by decide, by decide⟩ [gI a1] rfl (Nat.le_of_ble_eq_true rfl) hT0 (fun hM ho => sX10_bunchOf hD c0 a1 M7 _ hT0 h hM ho) (fun r23 M22 h => ?_)
        exact g_iret C hR dX10_bunch_38 h
    · replace h := h.2 c6
      refine g_bipush C dX10_bunch_21 gRc_m3 gRb_m3 ?_
      exact g_iret C hR dX10_bunch_23 h
  · replace h := h.2 c3
    refine g_bipush C dX10_bunch_8 gRc_m2 gRb_m2 ?_
    exact g_iret C hR dX10_bunch_10 h
