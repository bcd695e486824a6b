set_option maxRecDepth 100000 in
set_option maxHeartbeats 4000000 in
theorem sX8_take {l : Launch} {V : gW} (hD : gD V) (c0 a1 a2 a3 : Int) (M0 : gMem) (K : gMem → Prop) (hT0 : gT c0 8) (h : wX8_take c0 a1 a2 a3 K M0) (hM : gOM M0) (ho : ∀ q ∈ ([gI a1, gI a2, gI a3] : List gSV), gOK q) : gMv l V yX8_take cX8_take 4 2 69 [gF c0, gI a1, gI a2, gI a3] M0 K := by
  refine gMv_of hD (by decide) (Nat.le_of_ble_eq_true rfl) [(0, gF c0), (1, gI a1), (2, gI a2), (3, gI a3)] rfl (gok_L rfl (gok_n (q := gF c0) trivial ho)) hM (fun X C hR => ?_)
  unfold wX8_take at h
  refine g_iloadn C dX8_take_0 1 rfl ?_
  obtain ⟨P2, h, hP2⟩ := h
  have J3 : ∀ (M1 : gMem), P2 M1 → gG X V 4 20 [] [] M1 := by
    intro M1 h
    replace h := hP2 M1 h
    exact g_vret C hR dX8_take_20 h
  refine g_if_lt (t := 20) C dX8_take_1 (by decide) (fun c4 => ?_) (fun c4 => ?_)
  · replace h := h.1 c4
    refine g_sub [] [] rfl ?_
    exact J3 M0 h
  · replace h := h.2 c4
    refine g_iloadn C dX8_take_4 1 rfl ?_
    refine g_bipush C dX8_take_5 gRc_12 gRb_12 ?_
    refine g_ic_ge (t := 20) C dX8_take_7 (by decide) (fun c5 => ?_) (fun c5 => ?_)
    · replace h := h.1 c5
      refine g_sub [] [] rfl ?_
      exact J3 M0 h
    · replace h := h.2 c5
      refine g_iloadn C dX8_take_10 2 rfl ?_
      refine g_if_lt (t := 20) C dX8_take_11 (by decide) (fun c6 => ?_) (fun c6 => ?_)
      · replace h := h.1 c6
        refine g_sub [] [] rfl ?_
        exact J3 M0 h
      · replace h := h.2 c6
        refine g_iloadn C dX8_take_14 2 rfl ?_
        refine g_bipush C dX8_take_15 gRc_12 gRb_12 ?_
        refine g_ic_lt (t := 21) C dX8_take_17 (by decide) (fun c7 => ?_) (fun c7 => ?_)
        · replace h := h.1 c7
          refine g_aloadn C dX8_take_21 0 rfl ?_
          refine gf_8_6 C dX8_take_22 wd_268 hT0 ?_
          refine g_iloadn C dX8_take_25 1 rfl ?_
          refine g_dup2 C dX8_take_26 (fun e => by cases e) (fun e => by cases e) ?_
          refine g_iald C dX8_take_27 (gt_8_6 hT0) gce_10012 h.1 ?_
          replace h := h.2
          refine g_iconst C dX8_take_28 gRc_1 ?_
          refine g_iloadn C dX8_take_29 2 rfl ?_
          refine g_ishl C dX8_take_30 h.1 ?_
          replace h := h.2
          refine g_ior C dX8_take_31 h.1 ?_
          replace h := h.2
          refine g_iast C dX8_take_32 (gt_8_6 hT0) gce_10012 h.1 ?_
          replace h := h.2
          obtain ⟨M8, eM8⟩ : ∃ x : gMem, x = gup M0 (c0 + 16) a1 (gor (M0 (c0 + 16) a1) (gpw a2)) := ⟨_, rfl⟩
          refine g_nmM eM8 ?_
          replace h := h M8 eM8
          refine g_aloadn C dX8_take_33 0 rfl ?_
          refine gf_8_6 C dX8_take_34 wd_268 hT0 ?_
          refine g_iloadn C dX8_take_37 2 rfl ?_
          refine g_dup2 C dX8_take_38 (fun e => by cases e) (fun e => by cases e) ?_
          refine g_iald C dX8_take_39 (gt_8_6 hT0) gce_10012 h.1 ?_
          replace h := h.2
          refine g_iconst C dX8_take_40 gRc_1 ?_
          refine g_iloadn C dX8_take_41 1 rfl ?_
          refine g_ishl C dX8_take_42 h.1 ?_
          replace h := h.2
          refine g_ior C dX8_take_43 h.1 ?_
          replace h := h.2
          refine g_iast C dX8_take_44 (gt_8_6 hT0) gce_10012 h.1 ?_
          replace h := h.2
          obtain ⟨M9, eM9⟩ : ∃ x : gMem, x = gup M8 (c0 + 16) a2 (gor (M8 (c0 + 16) a2) (gpw a1)) := ⟨_, rfl⟩
          refine g_nmM eM9 ?_
          replace h := h M9 eM9
          refine g_aloadn C dX8_take_45 0 rfl ?_
          refine gf_8_1 C dX8_take_46 wd_262 hT0 ?_
          refine g_iloadn C dX8_take_49 1 rfl ?_
          refine g_iloadn C dX8_take_50 2 rfl ?_
          refine g_iloadn C dX8_take_51 3 rfl ?_
          refine g_cVv (st := []) C dX8_take_52 ykX0_add wd_632 ⟨by decide, by decide⟩ [gI a1, gI a2, gI a3] rfl (Nat.le_of_ble_eq_true rfl) (gt_8_1 hT0) (fun hM ho => sX0_add hD (c0 + 1) a1 a2 a3 M9 _ (gt_8_1 hT0) h hM ho) (fun M10 h => ?_)
          refine g_aloadn C dX8_take_55 0 rfl ?_
          refine g_dup C dX8_take_56 (fun e => by cases e) ?_
          refine gf_8_0 C dX8_take_57 wd_260 hT0 ?_
          refine g_iconst C dX8_take_60 gRc_1 ?_
          refine g_iadd C dX8_take_61 h.1 ?_
          replace h := h.2
          refine gp_8_0 C dX8_take_62 wd_260 hT0 ?_
          obtain ⟨M11, eM11⟩ : ∃ x : gMem, x = gup M10 c0 0 ((M10 c0 0) + 1) := ⟨_, rfl⟩
          refine g_nmM eM11 ?_
          replace h := h M11 eM11
          exact g_vret C hR dX8_take_65 h
        · replace h := h.2 c7
          refine g_sub [] [] rfl ?_
          exact J3 M0 h

set_option maxRecDepth 100000 in
set_option maxHeartbeats 4000000 in
theorem sX8_follow {l : Launch} {V : gW} (hD : gD V) (c0 a1 a2 : Int) (M0 : gMem) (K : gMem → Prop) (hT0 : gT c0 8) (hT1 : gT a1 1) (h : wX8_follow c0 a1 a2 K M0) (hM : gOM M0) (ho : ∀ q ∈ ([gF a1, gI a2] : List gSV), gOK q) : gMv l V yX8_follow cX8_follow 8 5 113 [gF c0, gF a1, gI a2] M0 K := by
  refine gMv_of hD (by decide) (Nat.le_of_ble_eq_true rfl) [(0, gF c0), (1, gF a1), (2, gI a2)] rfl (gok_L rfl (gok_n (q := gF c0) trivial ho)) hM (fun X C hR => ?_)
  unfold wX8_follow at h
  refine g_aloadn C dX8_follow_0 0 rfl ?_
  refine gf_8_2 C dX8_follow_1 wd_264 hT0 ?_
  refine g_aloadn C dX8_follow_4 1 rfl ?_
  refine gf_1_3 C dX8_follow_5 wd_115 hT1 ?_
  obtain ⟨P2, h, hP2⟩ := h
  have J3 : ∀ (M1 : gMem), P2 M1 → gG X V 8 20 [(0, gF c0), (1, gF a1), (2, gI a2)] [] M1 := by
    intro M1 h
    replace h := hP2 M1 h
    refine g_aloadn C dX8_follow_20 0 rfl ?_
    refine g_aloadn C dX8_follow_21 1 rfl ?_
    refine g_cVv (st := []) C dX8_follow_22 ykX8_sortLinks wd_598 ⟨by decide, by decide⟩ [gF a1] rfl (Nat.le_of_ble_eq_true rfl) hT0 (fun hM ho => sX8_sortLinks hD c0 a1 M1 _ hT0 hT1 h hM ho) (fun M4 h => ?_)
    refine g_aloadn C dX8_follow_25 0 rfl ?_
    refine g_aloadn C dX8_follow_26 1 rfl ?_
    refine gf_1_0 C dX8_follow_27 wd_105 hT1 ?_
    refine g_cVv (st := []) C dX8_follow_30 ykX8_clear wd_612 ⟨by decide, by decide⟩ [gI (M4 a1 0)] rfl (Nat.le_of_ble_eq_true rfl) hT0 (fun hM ho => sX8_clear hD c0 (M4 a1 0) M4 _ hT0 h hM ho) (fun M5 h => ?_)
    refine g_iconst C dX8_follow_33 gRc_0 ?_
    refine g_istoren C [(3, gI 0), (0, gF c0), (1, gF a1), (2, gI a2)] dX8_follow_34 (by decide) rfl ?_
    refine g_sub [(0, gF c0), (1, gF a1), (2, gI a2), (3, gI 0)] [1, 2, 3, 0] rfl ?_
    refine gL1_go (Gd := fun (v6 : Int) (M7 : gMem) => gG X V 8 35 [(0, gF c0), (1, gF a1), (2, gI a2), (3, gI v6)] [] M7) (fun rec8 hrec8 v6 M7 h => ?_) h
    refine g_iloadn C dX8_follow_35 3 rfl ?_
    refine g_aloadn C dX8_follow_36 0 rfl ?_
    refine gf_8_4 C dX8_follow_37 wd_266 hT0 ?_
    refine g_ic_ge (t := 119) C dX8_follow_40 (by decide) (fun c9 => ?_) (fun c9 => ?_)
    · replace h := h.1 c9
      refine g_aloadn C dX8_follow_119 0 rfl ?_
      refine g_aloadn C dX8_follow_120 1 rfl ?_
      refine gf_1_3 C dX8_follow_121 wd_115 hT1 ?_
      refine gp_8_2 C dX8_follow_124 wd_264 hT0 ?_
      obtain ⟨M10, eM10⟩ : ∃ x : gMem, x = gup M7 c0 2 (M7 a1 3) := ⟨_, rfl⟩
      refine g_nmM eM10 ?_
      replace h := h M10 eM10
      refine g_aloadn C dX8_follow_127 0 rfl ?_
      refine g_iloadn C dX8_follow_128 2 rfl ?_
      refine gp_8_3 C dX8_follow_129 wd_265 hT0 ?_
      obtain ⟨M11, eM11⟩ : ∃ x : gMem, x = gup M10 c0 3 a2 := ⟨_, rfl⟩
      refine g_nmM eM11 ?_
      replace h := h M11 eM11
      exact g_vret C hR dX8_follow_132 h
    · replace h := h.2 c9
      refine g_aloadn C dX8_follow_43 0 rfl ?_
      refine gf_8_5 C dX8_follow_44 wd_267 hT0 ?_
      refine g_iloadn C dX8_follow_47 3 rfl ?_
      refine g_iald C dX8_follow_48 (gt_8_5 hT0) gce_10030 h.1 ?_
      replace h := h.2
      refine g_bipush C dX8_follow_49 gRc_12 gRb_12 ?_
      refine g_idiv C dX8_follow_51 h.1 ?_
      replace h := h.2
      obtain ⟨v12, ev12⟩ : ∃ x : Int, x = ((M7 (c0 + 15) v6) / 12) := ⟨_, rfl⟩
      refine g_nm ev12 ?_
      replace h := h v12 ev12
      refine g_istore C [(4, gI v12), (0, gF c0), (1, gF a1), (2, gI a2), (3, gI v6)] dX8_follow_52 (by decide) rfl ?_
      refine g_aloadn C dX8_follow_54 1 rfl ?_
      refine gf_8_5 C dX8_follow_55 wd_267 hT0 ?_
      refine g_iloadn C dX8_follow_58 4 rfl ?_
      refine g_iald C dX8_follow_59 (gt_8_5 hT0) gce_10030 h.1 ?_
      replace h := h.2
      refine g_bipush C dX8_follow_60 gRc_12 gRb_12 ?_
      refine g_irem C dX8_follow_62 h.1 ?_
      replace h := h.2
      obtain ⟨v13, ev13⟩ : ∃ x : Int, x = ((M7 (c0 + 15) v6) % 12) := ⟨_, rfl⟩
      refine g_nm ev13 ?_
      replace h := h v13 ev13
      refine g_istore C [(5, gI v13), (4, gI v12), (0, gF c0), (1, gF a1), (2, gI a2), (3, gI v6)] dX8_follow_63 (by decide) rfl ?_
      refine g_aloadn C dX8_follow_65 3 rfl ?_
      refine g_iload C dX8_follow_66 1 rfl ?_
      refine g_iload C dX8_follow_68 0 rfl ?_
      refine g_cVi (st := []) C dX8_follow_70 ykX1_lengthOf wd_602 ⟨by decide, by decide⟩ [gI v12, gI v13] rfl (Nat.le_of_ble_eq_true rfl) hT1 (fun hM ho => sX1_lengthOf hD a1 v12 v13 M7 _ hT1 h hM ho) (fun r15 M14 h => ?_)
      refine g_istore C [(6, gI r15), (5, gI v13), (4, gI v12), (0, gF c0), (1, gF a1), (2, gI a2), (3, gI v6)] dX8_follow_73 (by decide) rfl ?_
      refine g_aloadn C dX8_follow_75 3 rfl ?_
      refine gf_8_1 C dX8_follow_76 wd_262 hT0 ?_
      refine g_iload C dX8_follow_79 2 rfl ?_
      refine g_iload C dX8_follow_81 1 rfl ?_
      refine g_cVi (st := []) C dX8_follow_83 ykX0_between wd_624 ⟨by decide, by decide⟩ [gI v12, gI v13] rfl (Nat.le_of_ble_eq_true rfl) (gt_8_1 hT0) (fun hM ho => sX0_between hD (c0 + 1) v12 v13 M14 _ (gt_8_1 hT0) h hM ho) (fun r17 M16 h => ?_)
      refine g_istore C [(7, gI r17), (6, gI r15), (5, gI v13), (4, gI v12), (0, gF c0), (1, gF a1), (2, gI a2), (3, gI v6)] dX8_follow_86 (by decide) rfl ?_
      refine g_iload C dX8_follow_88 0 rfl ?_
      refine g_iconst C dX8_follow_90 gRc_m1 ?_
      obtain ⟨P19, h, hP19⟩ := h
      have J20 : ∀ (M18 : gMem), P19 M18 → gG X V 8 113 [(0, gF c0), (1, gF a1), (2, gI a2), (3, gI v6)] [] M18 := by
        intro M18 h
        replace h := hP19 M18 h
        refine g_iinc C [(3, gI (v6 + 1)), (0, gF c0), (1, gF a1), (2, gI a2)] dX8_follow_113 3 rfl (by decide) h.1 rfl ?_
        replace h := h.2
        refine g_goto (t := 35) C dX8_follow_116 (by decide) ?_
        refine g_sub [(0, gF c0), (1, gF a1), (2, gI a2), (3, gI (v6 + 1))] [1, 2, 3, 0] rfl ?_
        exact hrec8 (v6 + 1) M18 h
      obtain ⟨P22, h, hP22⟩ := h
      have J23 : ∀ (M21 : gMem), P22 M21 → gG X V 8 103 [(0, gF c0), (1, gF a1), (2, gI a2), (3, gI v6), (4, gI v12), (5, gI v13), (6, gI r15)] [] M21 := by
        intro M21 h
        replace h := hP22 M21 h
        refine g_aloadn C dX8_follow_103 0 rfl ?_
        refine g_iload C dX8_follow_104 4 rfl ?_
        refine g_iload C dX8_follow_106 5 rfl ?_
        refine g_iload C dX8_follow_108 6 rfl ?_
        refine g_cVv (st := []) C dX8_follow_110 ykX8_take wd_628 ⟨by decide, by decide⟩ [gI v12, gI v13, gI r15] rfl (Nat.le_of_ble_eq_true rfl) hT0 (fun hM ho => sX8_take hD c0 v12 v13 r15 M21 _ hT0 h hM ho) (fun M24 h => ?_)
        refine g_sub [(0, gF c0), (1, gF a1), (2, gI a2), (3, gI v6)] [0, 1, 2, 3] rfl ?_
        exact J20 M24 h
      refine g_ic_eq (t := 103) C dX8_follow_91 (by decide) (fun c25 => ?_) (fun c25 => ?_)
      · replace h := h.1 c25
        refine g_sub [(0, gF c0), (1, gF a1), (2, gI a2), (3, gI v6), (4, gI v12), (5, gI v13), (6, gI r15)] [4, 5, 6, 7, 3, 2, 1] rfl ?_
        exact J23 M16 h
      · replace h := h.2 c25
        refine g_iload C dX8_follow_94 0 rfl ?_
        refine g_iloadn C dX8_follow_96 6 rfl ?_
        refine g_iload C dX8_follow_97 1 rfl ?_
        refine g_imul C dX8_follow_99 h.1 ?_
        replace h := h.2
        refine g_ic_le (t := 113) C dX8_follow_100 (by decide) (fun c26 => ?_) (fun c26 => ?_)
        · replace h := h.1 c26
          refine g_sub [(0, gF c0), (1, gF a1), (2, gI a2), (3, gI v6)] [4, 5, 6, 7] rfl ?_
          exact J20 M16 h
        · replace h := h.2 c26
          refine g_sub [(0, gF c0), (1, gF a1), (2, gI a2), (3, gI v6), (4, gI v12), (5, gI v13), (6, gI r15)] [4, 5, 6, 7, 3, 2, 1] rfl ?_
          exact J23 M16 h
  refine g_ic_ne (t := 20) C dX8_follow_8 (by decide) (fun c27 => ?_) (fun c27 => ?_)
  · replace h := h.1 c27
    exact J3 M0 h
  · replace h := h.2 c27
    refine g_aloadn C dX8_follow_11 0 rfl ?_
    refine gf_8_3 C dX8_follow_12 wd_265 hT0 ?_
    refine g_iloadn C dX8_follow_15 2 rfl ?_
    refine g_ic_ne (t := 20) C dX8_follow_16 (by decide) (fun c28 => ?_) (fun c28 => ?_)
    · replace h := h.1 c28
      exact J3 M0 h
    · replace h := h.2 c28
      exact g_vret C hR dX8_follow_19 h

set_option maxRecDepth 100000 in
set_option maxHeartbeats 4000000 in
theorem sX8_takes {l : Launch} {V : gW} (hD : gD V) (c0 a1 a2 : Int) (M0 : gMem) (K : Int → gMem → Prop) (hT0 : gT c0 8) (h : wX8_takes c0 a1 a2 K M0) (hM : gOM M0) (ho : ∀ q ∈ ([gI a1, gI a2] : List gSV), gOK q) : gMi l V yX8_takes cX8_takes 3 (some .boolean) 0 0 [gF c0, gI a1, gI a2] M0 K := by
  refine gMi_of hD (by decide) (Nat.le_of_ble_eq_true rfl) [(0, gF c0), (1, gI a1), (2, gI a2)] rfl (gok_L rfl (gok_n (q := gF c0) trivial ho)) hM (fun X C hR => ?_)
  unfold wX8_takes at h
  refine g_iloadn C dX8_takes_0 1 rfl ?_
  obtain ⟨P2, h, hP2⟩ := h
  have J3 : ∀ (M1 : gMem), P2 M1 → gG X V 3 20 [] [] M1 := by
    intro M1 h
    replace h := hP2 M1 h
    refine g_iconst C dX8_takes_20 gRc_0 ?_
    exact g_zret C hR dX8_takes_21 (Or.inl rfl) h
  refine g_if_lt (t := 20) C dX8_takes_1 (by decide) (fun c4 => ?_) (fun c4 => ?_)
  · replace h := h.1 c4
    refine g_sub [] [] rfl ?_
    exact J3 M0 h
  · replace h := h.2 c4
    refine g_iloadn C dX8_takes_4 1 rfl ?_
    refine g_bipush C dX8_takes_5 gRc_12 gRb_12 ?_
    refine g_ic_ge (t := 20) C dX8_takes_7 (by decide) (fun c5 => ?_) (fun c5 => ?_)
    · replace h := h.1 c5
      refine g_sub [] [] rfl ?_
      exact J3 M0 h
    · replace h := h.2 c5
      refine g_iloadn C dX8_takes_10 2 rfl ?_
      refine g_if_lt (t := 20) C dX8_takes_11 (by decide) (fun c6 => ?_) (fun c6 => ?_)
      · replace h := h.1 c6
        refine g_sub [] [] rfl ?_
        exact J3 M0 h
      · replace h := h.2 c6
        refine g_iloadn C dX8_takes_14 2 rfl ?_
        refine g_bipush C dX8_takes_15 gRc_12 gRb_12 ?_
        refine g_ic_lt (t := 22) C dX8_takes_17 (by decide) (fun c7 => ?_) (fun c7 => ?_)
        · replace h := h.1 c7
          refine g_aloadn C dX8_takes_22 0 rfl ?_
          refine gf_8_6 C dX8_takes_23 wd_268 hT0 ?_
          refine g_iloadn C dX8_takes_26 1 rfl ?_
          refine g_iald C dX8_takes_27 (gt_8_6 hT0) gce_10012 h.1 ?_
          replace h := h.2
          refine g_iconst C dX8_takes_28 gRc_1 ?_
          refine g_iloadn C dX8_takes_29 2 rfl ?_
          refine g_ishl C dX8_takes_30 h.1 ?_
          replace h := h.2
          refine g_iand C dX8_takes_31 h.1 ?_
          replace h := h.2
          obtain ⟨P10, h, hP10⟩ := h
          have J11 : ∀ (x8 : Int) (M9 : gMem), P10 x8 M9 → gG X V 3 40 [] [gI x8] M9 := by
            intro x8 M9 h
            replace h := hP10 x8 M9 h
            exact g_zret C hR dX8_takes_40 h.1 h.2
          refine g_if_eq (t := 39) C dX8_takes_32 (by decide) (fun c12 => ?_) (fun c12 => ?_)
          · replace h := h.1 c12
            refine g_iconst C dX8_takes_39 gRc_0 ?_
            refine g_sub [] [] rfl ?_
            exact J11 0 M0 h
          · replace h := h.2 c12
            refine g_iconst C dX8_takes_35 gRc_1 ?_
            refine g_goto (t := 40) C dX8_takes_36 (by decide) ?_
            refine g_sub [] [] rfl ?_
            exact J11 1 M0 h
        · replace h := h.2 c7
          refine g_sub [] [] rfl ?_
          exact J3 M0 h

set_option maxRecDepth 100000 in
set_option maxHeartbeats 4000000 in
theorem sX9_thin {l : Launch} {V : gW} (hD : gD V) (c0 a1 : Int) (M0 : gMem) (K : Int → gMem → Prop) (hT0 : gT c0 9) (h : wX9_thin c0 a1 K M0) (hM : gOM M0) (ho : ∀ q ∈ ([gI a1] : List gSV), gOK q) : gMi l V yX9_thin cX9_thin 4 (some .int) 6 140 [gF c0, gI a1] M0 K := by
  refine gMi_of hD (by decide) (Nat.le_of_ble_eq_true rfl) [(0, gF c0), (1, gI a1)] rfl (gok_L rfl (gok_n (q := gF c0) trivial ho)) hM (fun X C hR => ?_)
  unfold wX9_thin at h
  refine g_iloadn C dX9_thin_0 1 rfl ?_
  refine g_iconst C dX9_thin_1 gRc_1 ?_
  obtain ⟨P2, h, hP2⟩ := h
  have J3 : ∀ (M1 : gMem), P2 M1 → gG X V 4 11 [] [] M1 := by
    intro M1 h
    replace h := hP2 M1 h
    refine g_bipush C dX9_thin_11 gRc_m3 gRb_m3 ?_
    exact g_iret C hR dX9_thin_13 h
  refine g_ic_lt (t := 11) C dX9_thin_2 (by decide) (fun c4 => ?_) (fun c4 => ?_)
  · replace h := h.1 c4
    refine g_sub [] [] rfl ?_
    exact J3 M0 h
  · replace h := h.2 c4
    refine g_iloadn C dX9_thin_5 1 rfl ?_
    refine g_bipush C dX9_thin_6 gRc_9 gRb_9 ?_
    refine g_ic_le (t := 14) C dX9_thin_8 (by decide) (fun c5 => ?_) (fun c5 => ?_)
    · replace h := h.1 c5
      refine g_aloadn C dX9_thin_14 0 rfl ?_
      refine gf_9_3 C dX9_thin_15 wd_341 hT0 ?_
      refine g_aloadn C dX9_thin_18 0 rfl ?_
      refine gf_9_0 C dX9_thin_19 wd_338 hT0 ?_
      refine g_cVv (st := []) C dX9_thin_22 ykX3_push wd_559 ⟨by decide, by decide⟩ [gF (c0 + 1)] rfl (Nat.le_of_ble_eq_true rfl) (gt_9_3 hT0) (fun hM ho => sX3_push hD (c0 + 9) (c0 + 1) M0 _ (gt_9_3 hT0) (gt_9_0 hT0) h hM ho) (fun M6 h => ?_)
      refine g_aloadn C dX9_thin_25 0 rfl ?_
      refine gf_9_8 C dX9_thin_26 wd_346 hT0 ?_
      refine g_aloadn C dX9_thin_29 0 rfl ?_
      refine gf_9_0 C dX9_thin_30 wd_338 hT0 ?_
      refine g_iloadn C dX9_thin_33 1 rfl ?_
      refine g_cVv (st := []) C dX9_thin_34 ykX8_follow wd_594 ⟨by decide, by decide⟩ [gF (c0 + 1), gI a1] rfl (Nat.le_of_ble_eq_true rfl) (gt_9_8 hT0) (fun hM ho => sX8_follow hD (c0 + 209) (c0 + 1) a1 M6 _ (gt_9_8 hT0) (gt_9_0 hT0) h hM ho) (fun M7 h => ?_)
      refine g_iconst C dX9_thin_37 gRc_0 ?_
      refine g_istoren C [(2, gI 0), (0, gF c0), (1, gI a1)] dX9_thin_38 (by decide) rfl ?_
      refine g_sub [(0, gF c0), (2, gI 0)] [1, 0] rfl ?_
      refine gL1_go (Gd := fun (v8 : Int) (M9 : gMem) => gG X V 4 39 [(0, gF c0), (2, gI v8)] [] M9) (fun rec10 hrec10 v8 M9 h => ?_) h
      refine g_iloadn C dX9_thin_39 1 rfl ?_
      refine g_aloadn C dX9_thin_40 0 rfl ?_
      refine gf_9_0 C dX9_thin_41 wd_338 hT0 ?_
      refine gf_1_0 C dX9_thin_44 wd_108 (gt_9_0 hT0) ?_
      refine g_ic_ge (t := 99) C dX9_thin_47 (by decide) (fun c11 => ?_) (fun c11 => ?_)
      · replace h := h.1 c11
        refine g_aloadn C dX9_thin_99 0 rfl ?_
        refine gf_9_0 C dX9_thin_100 wd_338 hT0 ?_
        refine gf_1_1 C dX9_thin_103 wd_110 (gt_9_0 hT0) ?_
        exact g_iret C hR dX9_thin_106 h
      · replace h := h.2 c11
        refine g_iloadn C dX9_thin_50 1 rfl ?_
        refine g_iconst C dX9_thin_51 gRc_1 ?_
        refine g_iadd C dX9_thin_52 h.1 ?_
        replace h := h.2
        obtain ⟨v12, ev12⟩ : ∃ x : Int, x = (v8 + 1) := ⟨_, rfl⟩
        refine g_nm ev12 ?_
        replace h := h v12 ev12
        refine g_istoren C [(3, gI v12), (0, gF c0), (2, gI v8)] dX9_thin_53 (by decide) rfl ?_
        refine g_sub [(0, gF c0), (2, gI v8), (3, gI v12)] [1, 2, 0] rfl ?_
        refine gL1_go (Gd := fun (v13 : Int) (M14 : gMem) => gG X V 4 54 [(0, gF c0), (2, gI v8), (3, gI v13)] [] M14) (fun rec15 hrec15 v13 M14 h => ?_) h
        refine g_iloadn C dX9_thin_54 2 rfl ?_
        refine g_aloadn C dX9_thin_55 0 rfl ?_
        refine gf_9_0 C dX9_thin_56 wd_338 hT0 ?_
        refine gf_1_0 C dX9_thin_59 wd_108 (gt_9_0 hT0) ?_
        refine g_ic_ge (t := 93) C dX9_thin_62 (by decide) (fun c16 => ?_) (fun c16 => ?_)
        · replace h := h.1 c16
          refine g_iinc C [(2, gI (v8 + 1)), (0, gF c0), (3, gI v13)] dX9_thin_93 1 rfl (by decide) h.1 rfl ?_
          replace h := h.2
          refine g_goto (t := 39) C dX9_thin_96 (by decide) ?_
          refine g_sub [(0, gF c0), (2, gI (v8 + 1))] [1, 0] rfl ?_
          exact hrec10 (v8 + 1) M14 h
        · replace h := h.2 c16
          refine g_aloadn C dX9_thin_65 0 rfl ?_
          refine gf_9_8 C dX9_thin_66 wd_346 hT0 ?_
          refine g_iloadn C dX9_thin_69 1 rfl ?_
          refine g_iloadn C dX9_thin_70 2 rfl ?_
          refine g_cVi (st := []) C dX9_thin_71 ykX8_takes wd_636 ⟨by decide, by decide⟩ [gI v8, gI v13] rfl (Nat.le_of_ble_eq_true rfl) (gt_9_8 hT0) (fun hM ho => sX8_takes hD (c0 + 209) v8 v13 M14 _ (gt_9_8 hT0) h hM ho) (fun r18 M17 h => ?_)
          obtain ⟨P20, h, hP20⟩ := h
          have J21 : ∀ (M19 : gMem), P20 M19 → gG X V 4 87 [(0, gF c0), (2, gI v8), (3, gI v13)] [] M19 := by
            intro M19 h
            replace h := hP20 M19 h
            refine g_iinc C [(3, gI (v13 + 1)), (0, gF c0), (2, gI v8)] dX9_thin_87 2 rfl (by decide) h.1 rfl ?_
            replace h := h.2
            refine g_goto (t := 54) C dX9_thin_90 (by decide) ?_
            refine g_sub [(0, gF c0), (2, gI v8), (3, gI (v13 + 1))] [1, 2, 0] rfl ?_
            exact hrec15 (v13 + 1) M19 h
          refine g_if_ne (t := 87) C dX9_thin_74 (by decide) (fun c22 => ?_) (fun c22 => ?_)
          · replace h := h.1 c22
            exact J21 M17 h
          · replace h := h.2 c22
            refine g_aloadn C dX9_thin_77 0 rfl ?_
            refine gf_9_0 C dX9_thin_78 wd_338 hT0 ?_
            refine g_iloadn C dX9_thin_81 1 rfl ?_
            refine g_iloadn C dX9_thin_82 2 rfl ?_
            refine g_iconst C dX9_thin_83 gRc_0 ?_
            refine g_cVv (st := []) C dX9_thin_84 ykX1_setLength wd_567 ⟨by decide, by decide⟩ [gI v8, gI v13, gI 0] rfl (Nat.le_of_ble_eq_true rfl) (gt_9_0 hT0) (fun hM ho => sX1_setLength hD (c0 + 1) v8 v13 0 M17 _ (gt_9_0 hT0) h hM ho) (fun M23 h => ?_)
            exact J21 M23 h
    · replace h := h.2 c5
      refine g_sub [] [] rfl ?_
      exact J3 M0 h

set_option maxRecDepth 100000 in
set_option maxHeartbeats 4000000 in
theorem sX3_pop {l : Launch} {V : gW} (hD : gD V) (c0 a1 : Int) (M0 : gMem) (K : gMem → Prop) (hT0 : gT c0 3) (hT1 : gT a1 1) (h : wX3_pop c0 a1 K M0) (hM : gOM M0) (ho : ∀ q ∈ ([gF a1] : List gSV), gOK q) : gMv l V yX3_pop cX3_pop 2 2 81 [gF c0, gF a1] M0 K := by
  refine gMv_of hD (by decide) (Nat.le_of_ble_eq_true rfl) [(0, gF c0), (1, gF a1)] rfl (gok_L rfl (gok_n (q := gF c0) trivial ho)) hM (fun X C hR => ?_)
  unfold wX3_pop at h
  refine g_aloadn C dX3_pop_0 0 rfl ?_
  refine gf_3_0 C dX3_pop_1 wd_172 hT0 ?_
  refine g_if_ne (t := 8) C dX3_pop_4 (by decide) (fun c1 => ?_) (fun c1 => ?_)
  · replace h := h.1 c1
    refine g_aloadn C dX3_pop_8 0 rfl ?_
    refine g_aloadn C dX3_pop_9 0 rfl ?_
    refine gf_3_1 C dX3_pop_10 wd_174 hT0 ?_
    refine g_bipush C dX3_pop_13 gRc_8 gRb_8 ?_
    refine g_iadd C dX3_pop_15 h.1 ?_
    replace h := h.2
    refine g_iconst C dX3_pop_16 gRc_1 ?_
    refine g_isub C dX3_pop_17 h.1 ?_
    replace h := h.2
    refine g_bipush C dX3_pop_18 gRc_8 gRb_8 ?_
    refine g_irem C dX3_pop_20 h.1 ?_
    replace h := h.2
    refine gp_3_1 C dX3_pop_21 wd_174 hT0 ?_
    obtain ⟨M2, eM2⟩ : ∃ x : gMem, x = gup M0 c0 1 ((((M0 c0 1) + 8) - 1) % 8) := ⟨_, rfl⟩
    refine g_nmM eM2 ?_
    replace h := h M2 eM2
    refine g_aloadn C dX3_pop_24 0 rfl ?_
    refine g_dup C dX3_pop_25 (fun e => by cases e) ?_
    refine gf_3_0 C dX3_pop_26 wd_172 hT0 ?_
    refine g_iconst C dX3_pop_29 gRc_1 ?_
    refine g_isub C dX3_pop_30 h.1 ?_
    replace h := h.2
    refine gp_3_0 C dX3_pop_31 wd_172 hT0 ?_
    obtain ⟨M3, eM3⟩ : ∃ x : gMem, x = gup M2 c0 0 ((M2 c0 0) - 1) := ⟨_, rfl⟩
    refine g_nmM eM3 ?_
    replace h := h M3 eM3
    refine g_aloadn C dX3_pop_34 1 rfl ?_
    refine g_aloadn C dX3_pop_35 0 rfl ?_
    refine gf_3_2 C dX3_pop_36 wd_175 hT0 ?_
    refine g_aloadn C dX3_pop_39 0 rfl ?_
    refine gf_3_1 C dX3_pop_40 wd_174 hT0 ?_
    have hb4 := h.1
    replace h := h.2
    refine g_aald C dX3_pop_43 (gt_3_2 hT0) gce_40008 3 rfl (by decide) rfl hb4 ?_
    refine g_cVv (st := []) C dX3_pop_44 ykX1_copyFrom wd_563 ⟨by decide, by decide⟩ [gF ((c0 + 1) + 1 + 3 * (M3 c0 1))] rfl (Nat.le_of_ble_eq_true rfl) hT1 (fun hM ho => sX1_copyFrom hD a1 ((c0 + 1) + 1 + 3 * (M3 c0 1)) M3 _ hT1 (gta_40008 (gt_3_2 hT0) hb4) h hM ho) (fun M5 h => ?_)
    exact g_vret C hR dX3_pop_47 h
  · replace h := h.2 c1
    exact g_vret C hR dX3_pop_7 h

set_option maxRecDepth 100000 in
set_option maxHeartbeats 4000000 in
theorem sX9_undo {l : Launch} {V : gW} (hD : gD V) (c0 : Int) (M0 : gMem) (K : Int → gMem → Prop) (hT0 : gT c0 9) (h : wX9_undo c0 K M0) (hM : gOM M0) (ho : ∀ q ∈ ([] : List gSV), gOK q) : gMi l V yX9_undo cX9_undo 1 (some .int) 3 102 [gF c0] M0 K := by
  refine gMi_of hD (by decide) (Nat.le_of_ble_eq_true rfl) [(0, gF c0)] rfl (gok_L rfl (gok_n (q := gF c0) trivial ho)) hM (fun X C hR => ?_)
  unfold wX9_undo at h
  refine g_aloadn C dX9_undo_0 0 rfl ?_
  refine gf_9_3 C dX9_undo_1 wd_341 hT0 ?_
  refine gf_3_0 C dX9_undo_4 wd_173 (gt_9_3 hT0) ?_
  refine g_if_ne (t := 13) C dX9_undo_7 (by decide) (fun c1 => ?_) (fun c1 => ?_)
  · replace h := h.1 c1
    refine g_aloadn C dX9_undo_13 0 rfl ?_
    refine gf_9_3 C dX9_undo_14 wd_341 hT0 ?_
    refine g_aloadn C dX9_undo_17 0 rfl ?_
    refine gf_9_0 C dX9_undo_18 wd_338 hT0 ?_
    refine g_cVv (st := []) C dX9_undo_21 ykX3_pop wd_644 ⟨by decide, by decide⟩ [gF (c0 + 1)] rfl (Nat.le_of_ble_eq_true rfl) (gt_9_3 hT0) (fun hM ho => sX3_pop hD (c0 + 9) (c0 + 1) M0 _ (gt_9_3 hT0) (gt_9_0 hT0) h hM ho) (fun M2 h => ?_)
    refine g_aloadn C dX9_undo_24 0 rfl ?_
    refine gf_9_3 C dX9_undo_25 wd_341 hT0 ?_
    refine gf_3_0 C dX9_undo_28 wd_173 (gt_9_3 hT0) ?_
    exact g_iret C hR dX9_undo_31 h
  · replace h := h.2 c1
    refine g_bipush C dX9_undo_10 gRc_m4 gRb_m4 ?_
    exact g_iret C hR dX9_undo_12 h

set_option maxRecDepth 100000 in
set_option maxHeartbeats 4000000 in
theorem sX2_copyFrom {l : Launch} {V : gW} (hD : gD V) (c0 a1 : Int) (M0 : gMem) (K : gMem → Prop) (hT0 : gT c0 2) (hT1 : gT a1 2) (h : wX2_copyFrom c0 a1 K M0) (hM : gOM M0) (ho : ∀ q ∈ ([gF a1] : List gSV), gOK q) : gMv l V yX2_copyFrom cX2_copyFrom 2 1 60 [gF c0, gF a1] M0 K := by
  refine gMv_of hD (by decide) (Nat.le_of_ble_eq_true rfl) [(0, gF c0), (1, gF a1)] rfl (gok_L rfl (gok_n (q := gF c0) trivial ho)) hM (fun X C hR => ?_)
  unfold wX2_copyFrom at h
  refine g_aloadn C dX2_copyFrom_0 0 rfl ?_
  refine g_aloadn C dX2_copyFrom_1 1 rfl ?_
  refine gf_2_0 C dX2_copyFrom_2 wd_194 hT1 ?_
  refine gp_2_0 C dX2_copyFrom_5 wd_194 hT0 h.1 ?_
  replace h := h.2
  obtain ⟨M1, eM1⟩ : ∃ x : gMem, x = gup M0 c0 0 (M0 a1 0) := ⟨_, rfl⟩
  refine g_nmM eM1 ?_
  replace h := h M1 eM1
  refine g_aloadn C dX2_copyFrom_8 0 rfl ?_
  refine g_aloadn C dX2_copyFrom_9 1 rfl ?_
  refine gf_2_1 C dX2_copyFrom_10 wd_196 hT1 ?_
  refine gp_2_1 C dX2_copyFrom_13 wd_196 hT0 ?_
  obtain ⟨M2, eM2⟩ : ∃ x : gMem, x = gup M1 c0 1 (M1 a1 1) := ⟨_, rfl⟩
  refine g_nmM eM2 ?_
  replace h := h M2 eM2
  refine g_aloadn C dX2_copyFrom_16 1 rfl ?_
  refine gf_2_2 C dX2_copyFrom_17 wd_198 hT1 ?_
  refine g_iconst C dX2_copyFrom_20 gRc_0 ?_
  refine g_aloadn C dX2_copyFrom_21 0 rfl ?_
  refine gf_2_2 C dX2_copyFrom_22 wd_198 hT0 ?_
  refine g_iconst C dX2_copyFrom_25 gRc_0 ?_
  refine g_iconst C dX2_copyFrom_26 gRc_3 ?_
  refine g_copy C dX2_copyFrom_27 wd_659 gcpy_n gcpy_s gcpy_i ⟨by decide, Nat.le_of_ble_eq_true rfl⟩ (gt_2_2 hT1) gce_10003 (gt_2_2 hT0) gce_10003 h.1 ?_
  replace h := h.2
  obtain ⟨M3, eM3⟩ : ∃ x : gMem, x = gcp M2 (a1 + 1) (c0 + 1) 3 := ⟨_, rfl⟩
  refine g_nmM eM3 ?_
  replace h := h M3 eM3
  refine g_aloadn C dX2_copyFrom_30 1 rfl ?_
  refine gf_2_3 C dX2_copyFrom_31 wd_199 hT1 ?_
  refine g_iconst C dX2_copyFrom_34 gRc_0 ?_
  refine g_aloadn C dX2_copyFrom_35 0 rfl ?_
  refine gf_2_3 C dX2_copyFrom_36 wd_199 hT0 ?_
  refine g_iconst C dX2_copyFrom_39 gRc_0 ?_
  refine g_iconst C dX2_copyFrom_40 gRc_3 ?_
  refine g_copy C dX2_copyFrom_41 wd_659 gcpy_n gcpy_s gcpy_i ⟨by decide, Nat.le_of_ble_eq_true rfl⟩ (gt_2_3 hT1) gce_10003 (gt_2_3 hT0) gce_10003 h.1 ?_
  replace h := h.2
  obtain ⟨M4, eM4⟩ : ∃ x : gMem, x = gcp M3 (a1 + 2) (c0 + 2) 3 := ⟨_, rfl⟩
  refine g_nmM eM4 ?_
  replace h := h M4 eM4
  refine g_aloadn C dX2_copyFrom_44 1 rfl ?_
  refine gf_2_4 C dX2_copyFrom_45 wd_200 hT1 ?_
  refine g_iconst C dX2_copyFrom_48 gRc_0 ?_
  refine g_aloadn C dX2_copyFrom_49 0 rfl ?_
  refine gf_2_4 C dX2_copyFrom_50 wd_200 hT0 ?_
  refine g_iconst C dX2_copyFrom_53 gRc_0 ?_
  refine g_bipush C dX2_copyFrom_54 gRc_12 gRb_12 ?_
  refine g_copy C dX2_copyFrom_56 wd_659 gcpy_n gcpy_s gcpy_i ⟨by decide, Nat.le_of_ble_eq_true rfl⟩ (gt_2_4 hT1) gce_10012 (gt_2_4 hT0) gce_10012 h.1 ?_
  replace h := h.2
  obtain ⟨M5, eM5⟩ : ∃ x : gMem, x = gcp M4 (a1 + 3) (c0 + 3) 12 := ⟨_, rfl⟩
  refine g_nmM eM5 ?_
  replace h := h M5 eM5
  exact g_vret C hR dX2_copyFrom_59 h

set_option maxRecDepth 100000 in
set_option maxHeartbeats 4000000 in
theorem sX9_copyNotes {l : Launch} {V : gW} (hD : gD V) (a1 a2 : Int) (M0 : gMem) (K : gMem → Prop) (hT1 : gT a1 30012) (hT2 : gT a2 30012) (h : wX9_copyNotes a1 a2 K M0) (hM : gOM M0) (ho : ∀ q ∈ ([gF a1, gF a2] : List gSV), gOK q) : gMv l V yX9_copyNotes cX9_copyNotes 3 2 81 [gF a1, gF a2] M0 K := by
  refine gMv_of hD (by decide) (Nat.le_of_ble_eq_true rfl) [(0, gF a1), (1, gF a2)] rfl (gok_L rfl ho) hM (fun X C hR => ?_)
  unfold wX9_copyNotes at h
  refine g_iconst C dX9_copyNotes_0 gRc_0 ?_
  refine g_istoren C [(2, gI 0), (0, gF a1), (1, gF a2)] dX9_copyNotes_1 (by decide) rfl ?_
  refine g_sub [(0, gF a1), (1, gF a2), (2, gI 0)] [1, 2, 0] rfl ?_
  refine gL1_go (Gd := fun (v1 : Int) (M2 : gMem) => gG X V 3 2 [(0, gF a1), (1, gF a2), (2, gI v1)] [] M2) (fun rec3 hrec3 v1 M2 h => ?_) h
  refine g_iloadn C dX9_copyNotes_2 2 rfl ?_
  refine g_bipush C dX9_copyNotes_3 gRc_12 gRb_12 ?_
  refine g_ic_ge (t := 23) C dX9_copyNotes_5 (by decide) (fun c4 => ?_) (fun c4 => ?_)
  · replace h := h.1 c4
    exact g_vret C hR dX9_copyNotes_23 h
  · replace h := h.2 c4
    refine g_aloadn C dX9_copyNotes_8 1 rfl ?_
    refine g_iloadn C dX9_copyNotes_9 2 rfl ?_
    have hb5 := h.1
    replace h := h.2
    refine g_aald C dX9_copyNotes_10 hT2 gce_30012 2 rfl (by decide) rfl hb5 ?_
    refine g_aloadn C dX9_copyNotes_11 0 rfl ?_
    refine g_iloadn C dX9_copyNotes_12 2 rfl ?_
    have hb6 := h.1
    replace h := h.2
    refine g_aald C dX9_copyNotes_13 hT1 gce_30012 2 rfl (by decide) rfl hb6 ?_
    refine g_cVv (st := []) C dX9_copyNotes_14 ykX2_copyFrom wd_655 ⟨by decide, by decide⟩ [gF (a1 + 1 + 4 * v1)] rfl (Nat.le_of_ble_eq_true rfl) (gta_30012 hT2 hb5) (fun hM ho => sX2_copyFrom hD (a2 + 1 + 4 * v1) (a1 + 1 + 4 * v1) M2 _ (gta_30012 hT2 hb5) (gta_30012 hT1 hb6) h hM ho) (fun M7 h => ?_)
    refine g_iinc C [(2, gI (v1 + 1)), (0, gF a1), (1, gF a2)] dX9_copyNotes_17 2 rfl (by decide) h.1 rfl ?_
    replace h := h.2
    refine g_goto (t := 2) C dX9_copyNotes_20 (by decide) ?_
    refine g_sub [(0, gF a1), (1, gF a2), (2, gI (v1 + 1))] [1, 2, 0] rfl ?_
    exact hrec3 (v1 + 1) M7 h

set_option maxRecDepth 100000 in
set_option maxHeartbeats 4000000 in
theorem sX9_writtenNotes {l : Launch} {V : gW} (hD : gD V) (c0 : Int) (M0 : gMem) (K : Int → gMem → Prop) (hT0 : gT c0 9) (h : wX9_writtenNotes c0 K M0) (hM : gOM M0) (ho : ∀ q ∈ ([] : List gSV), gOK q) : gMi l V yX9_writtenNotes cX9_writtenNotes 3 (some .int) 0 0 [gF c0] M0 K := by
  refine gMi_of hD (by decide) (Nat.le_of_ble_eq_true rfl) [(0, gF c0)] rfl (gok_L rfl (gok_n (q := gF c0) trivial ho)) hM (fun X C hR => ?_)
  unfold wX9_writtenNotes at h
  refine g_iconst C dX9_writtenNotes_0 gRc_0 ?_
  refine g_istoren C [(1, gI 0), (0, gF c0)] dX9_writtenNotes_1 (by decide) rfl ?_
  refine g_iconst C dX9_writtenNotes_2 gRc_0 ?_
  refine g_istoren C [(2, gI 0), (1, gI 0), (0, gF c0)] dX9_writtenNotes_3 (by decide) rfl ?_
  refine g_sub [(0, gF c0), (1, gI 0), (2, gI 0)] [2, 1, 0] rfl ?_
  refine gL2_go (Gd := fun (v1 : Int) (v2 : Int) (M3 : gMem) => gG X V 3 4 [(0, gF c0), (1, gI v1), (2, gI v2)] [] M3) (fun rec4 hrec4 v1 v2 M3 h => ?_) h
  refine g_iloadn C dX9_writtenNotes_4 2 rfl ?_
  refine g_aloadn C dX9_writtenNotes_5 0 rfl ?_
  refine gf_9_0 C dX9_writtenNotes_6 wd_338 hT0 ?_
  refine gf_1_0 C dX9_writtenNotes_9 wd_108 (gt_9_0 hT0) ?_
  refine g_ic_ge (t := 36) C dX9_writtenNotes_12 (by decide) (fun c5 => ?_) (fun c5 => ?_)
  · replace h := h.1 c5
    refine g_iloadn C dX9_writtenNotes_36 1 rfl ?_
    exact g_iret C hR dX9_writtenNotes_37 h
  · replace h := h.2 c5
    refine g_aloadn C dX9_writtenNotes_15 0 rfl ?_
    refine gf_9_4 C dX9_writtenNotes_16 wd_342 hT0 ?_
    refine g_iloadn C dX9_writtenNotes_19 2 rfl ?_
    have hb6 := h.1
    replace h := h.2
    refine g_aald C dX9_writtenNotes_20 (gt_9_4 hT0) gce_30012 2 rfl (by decide) rfl hb6 ?_
    refine gf_2_0 C dX9_writtenNotes_21 wd_195 (gta_30012 (gt_9_4 hT0) hb6) ?_
    obtain ⟨P9, h, hP9⟩ := h
    have J10 : ∀ (v7 : Int) (M8 : gMem), P9 v7 M8 → gG X V 3 30 [(0, gF c0), (1, gI v7), (2, gI v2)] [] M8 := by
      intro v7 M8 h
      replace h := hP9 v7 M8 h
      refine g_iinc C [(2, gI (v2 + 1)), (0, gF c0), (1, gI v7)] dX9_writtenNotes_30 2 rfl (by decide) h.1 rfl ?_
      replace h := h.2
      refine g_goto (t := 4) C dX9_writtenNotes_33 (by decide) ?_
      refine g_sub [(0, gF c0), (1, gI v7), (2, gI (v2 + 1))] [1, 2, 0] rfl ?_
      exact hrec4 v7 (v2 + 1) M8 h
    refine g_if_eq (t := 30) C dX9_writtenNotes_24 (by decide) (fun c11 => ?_) (fun c11 => ?_)
    · replace h := h.1 c11
      exact J10 v1 M3 h
    · replace h := h.2 c11
      refine g_iinc C [(1, gI (v1 + 1)), (0, gF c0), (2, gI v2)] dX9_writtenNotes_27 1 rfl (by decide) h.1 rfl ?_
      replace h := h.2
      refine g_sub [(0, gF c0), (1, gI (v1 + 1)), (2, gI v2)] [1, 0, 2] rfl ?_
      exact J10 (v1 + 1) M3 h

set_option maxRecDepth 100000 in
set_option maxHeartbeats 4000000 in
theorem sX9_keep {l : Launch} {V : gW} (hD : gD V) (c0 a1 : Int) (M0 : gMem) (K : Int → gMem → Prop) (hT0 : gT c0 9) (h : wX9_keep c0 a1 K M0) (hM : gOM M0) (ho : ∀ q ∈ ([gI a1] : List gSV), gOK q) : gMi l V yX9_keep cX9_keep 2 (some .int) 3 103 [gF c0, gI a1] M0 K := by
  refine gMi_of hD (by decide) (Nat.le_of_ble_eq_true rfl) [(0, gF c0), (1, gI a1)] rfl (gok_L rfl (gok_n (q := gF c0) trivial ho)) hM (fun X C hR => ?_)
  unfold wX9_keep at h
  refine g_iloadn C dX9_keep_0 1 rfl ?_
  obtain ⟨P2, h, hP2⟩ := h
  have J3 : ∀ (M1 : gMem), P2 M1 → gG X V 2 9 [] [] M1 := by
    intro M1 h
    replace h := hP2 M1 h
    refine g_bipush C dX9_keep_9 gRc_m3 gRb_m3 ?_
    exact g_iret C hR dX9_keep_11 h
  refine g_if_lt (t := 9) C dX9_keep_1 (by decide) (fun c4 => ?_) (fun c4 => ?_)
  · replace h := h.1 c4
    refine g_sub [] [] rfl ?_
    exact J3 M0 h
  · replace h := h.2 c4
    refine g_iloadn C dX9_keep_4 1 rfl ?_
    refine g_iconst C dX9_keep_5 gRc_2 ?_
    refine g_ic_lt (t := 12) C dX9_keep_6 (by decide) (fun c5 => ?_) (fun c5 => ?_)
    · replace h := h.1 c5
      refine g_aloadn C dX9_keep_12 0 rfl ?_
      refine gf_9_6 C dX9_keep_13 wd_344 hT0 ?_
      refine g_iloadn C dX9_keep_16 1 rfl ?_
      have hb6 := h.1
      replace h := h.2
      refine g_aald C dX9_keep_17 (gt_9_6 hT0) gce_50002 4 rfl (by decide) rfl hb6 ?_
      refine g_iconst C dX9_keep_18 gRc_1 ?_
      refine gp_5_0 C dX9_keep_19 wd_222 (gta_50002 (gt_9_6 hT0) hb6) (Or.inr rfl) ?_
      obtain ⟨M7, eM7⟩ : ∃ x : gMem, x = gup M0 ((c0 + 88) + 1 + 53 * a1) 0 1 := ⟨_, rfl⟩
      refine g_nmM eM7 ?_
      replace h := h M7 eM7
      refine g_aloadn C dX9_keep_22 0 rfl ?_
      refine gf_9_6 C dX9_keep_23 wd_344 hT0 ?_
      refine g_iloadn C dX9_keep_26 1 rfl ?_
      have hb8 := h.1
      replace h := h.2
      refine g_aald C dX9_keep_27 (gt_9_6 hT0) gce_50002 4 rfl (by decide) rfl hb8 ?_
      refine gf_5_1 C dX9_keep_28 wd_224 (gta_50002 (gt_9_6 hT0) hb8) ?_
      refine g_aloadn C dX9_keep_31 0 rfl ?_
      refine gf_9_0 C dX9_keep_32 wd_338 hT0 ?_
      refine g_cVv (st := []) C dX9_keep_35 ykX1_copyFrom wd_392 ⟨by decide, by decide⟩ [gF (c0 + 1)] rfl (Nat.le_of_ble_eq_true rfl) (gt_5_1 (gta_50002 (gt_9_6 hT0) hb8)) (fun hM ho => sX1_copyFrom hD (((c0 + 88) + 1 + 53 * a1) + 1) (c0 + 1) M7 _ (gt_5_1 (gta_50002 (gt_9_6 hT0) hb8)) (gt_9_0 hT0) h hM ho) (fun M9 h => ?_)
      refine g_aloadn C dX9_keep_38 0 rfl ?_
      refine gf_9_4 C dX9_keep_39 wd_342 hT0 ?_
      refine g_aloadn C dX9_keep_42 0 rfl ?_
      refine gf_9_6 C dX9_keep_43 wd_344 hT0 ?_
      refine g_iloadn C dX9_keep_46 1 rfl ?_
      have hb10 := h.1
      replace h := h.2
      refine g_aald C dX9_keep_47 (gt_9_6 hT0) gce_50002 4 rfl (by decide) rfl hb10 ?_
      refine gf_5_2 C dX9_keep_48 wd_226 (gta_50002 (gt_9_6 hT0) hb10) ?_
      refine g_cSv (st := []) C dX9_keep_51 ykX9_copyNotes wd_652 ⟨by decide, by decide⟩ [gF (c0 + 35), gF (((c0 + 88) + 1 + 53 * a1) + 4)] rfl (Nat.le_of_ble_eq_true rfl) (fun hM ho => sX9_copyNotes hD (c0 + 35) (((c0 + 88) + 1 + 53 * a1) + 4) M9 _ (gt_9_4 hT0) (gt_5_2 (gta_50002 (gt_9_6 hT0) hb10)) h hM ho) (fun M11 h => ?_)
      refine g_aloadn C dX9_keep_54 0 rfl ?_
      refine g_cVi (st := []) C dX9_keep_55 ykX9_writtenNotes wd_660 ⟨by decide, by decide⟩ [] rfl (Nat.le_of_ble_eq_true rfl) hT0 (fun hM ho => sX9_writtenNotes hD c0 M11 _ hT0 h hM ho) (fun r13 M12 h => ?_)
      exact g_iret C hR dX9_keep_58 h
    · replace h := h.2 c5
      refine g_sub [] [] rfl ?_
      exact J3 M0 h

set_option maxRecDepth 100000 in
set_option maxHeartbeats 4000000 in
theorem sX9_back {l : Launch} {V : gW} (hD : gD V) (c0 a1 : Int) (M0 : gMem) (K : Int → gMem → Prop) (hT0 : gT c0 9) (h : wX9_back c0 a1 K M0) (hM : gOM M0) (ho : ∀ q ∈ ([gI a1] : List gSV), gOK q) : gMi l V yX9_back cX9_back 2 (some .int) 3 103 [gF c0, gI a1] M0 K := by
  refine gMi_of hD (by decide) (Nat.le_of_ble_eq_true rfl) [(0, gF c0), (1, gI a1)] rfl (gok_L rfl (gok_n (q := gF c0) trivial ho)) hM (fun X C hR => ?_)
  unfold wX9_back at h
  refine g_iloadn C dX9_back_0 1 rfl ?_
  obtain ⟨P2, h, hP2⟩ := h
  have J3 : ∀ (M1 : gMem), P2 M1 → gG X V 2 9 [] [] M1 := by
    intro M1 h
    replace h := hP2 M1 h
    refine g_bipush C dX9_back_9 gRc_m3 gRb_m3 ?_
    exact g_iret C hR dX9_back_11 h
  refine g_if_lt (t := 9) C dX9_back_1 (by decide) (fun c4 => ?_) (fun c4 => ?_)
  · replace h := h.1 c4
    refine g_sub [] [] rfl ?_
    exact J3 M0 h
  · replace h := h.2 c4
    refine g_iloadn C dX9_back_4 1 rfl ?_
    refine g_iconst C dX9_back_5 gRc_2 ?_
    refine g_ic_lt (t := 12) C dX9_back_6 (by decide) (fun c5 => ?_) (fun c5 => ?_)
    · replace h := h.1 c5
      refine g_aloadn C dX9_back_12 0 rfl ?_
      refine gf_9_6 C dX9_back_13 wd_344 hT0 ?_
      refine g_iloadn C dX9_back_16 1 rfl ?_
      have hb6 := h.1
      replace h := h.2
      refine g_aald C dX9_back_17 (gt_9_6 hT0) gce_50002 4 rfl (by decide) rfl hb6 ?_
      refine gf_5_0 C dX9_back_18 wd_222 (gta_50002 (gt_9_6 hT0) hb6) ?_
      refine g_if_ne (t := 27) C dX9_back_21 (by decide) (fun c7 => ?_) (fun c7 => ?_)
      · replace h := h.1 c7
        refine g_aloadn C dX9_back_27 0 rfl ?_
        refine gf_9_0 C dX9_back_28 wd_338 hT0 ?_
        refine g_aloadn C dX9_back_31 0 rfl ?_
        refine gf_9_6 C dX9_back_32 wd_344 hT0 ?_
        refine g_iloadn C dX9_back_35 1 rfl ?_
        have hb8 := h.1
        replace h := h.2
        refine g_aald C dX9_back_36 (gt_9_6 hT0) gce_50002 4 rfl (by decide) rfl hb8 ?_
        refine gf_5_1 C dX9_back_37 wd_224 (gta_50002 (gt_9_6 hT0) hb8) ?_
        refine g_cVv (st := []) C dX9_back_40 ykX1_copyFrom wd_392 ⟨by decide, by decide⟩ [gF (((c0 + 88) + 1 + 53 * a1) + 1)] rfl (Nat.le_of_ble_eq_true rfl) (gt_9_0 hT0) (fun hM ho => sX1_copyFrom hD (c0 + 1) (((c0 + 88) + 1 + 53 * a1) + 1) M0 _ (gt_9_0 hT0) (gt_5_1 (gta_50002 (gt_9_6 hT0) hb8)) h hM ho) (fun M9 h => ?_)
        refine g_aloadn C dX9_back_43 0 rfl ?_
        refine gf_9_6 C dX9_back_44 wd_344 hT0 ?_
        refine g_iloadn C dX9_back_47 1 rfl ?_
        have hb10 := h.1
        replace h := h.2
        refine g_aald C dX9_back_48 (gt_9_6 hT0) gce_50002 4 rfl (by decide) rfl hb10 ?_
        refine gf_5_2 C dX9_back_49 wd_226 (gta_50002 (gt_9_6 hT0) hb10) ?_
        refine g_aloadn C dX9_back_52 0 rfl ?_
        refine gf_9_4 C dX9_back_53 wd_342 hT0 ?_
        refine g_cSv (st := []) C dX9_back_56 ykX9_copyNotes wd_652 ⟨by decide, by decide⟩ [gF (((c0 + 88) + 1 + 53 * a1) + 4), gF (c0 + 35)] rfl (Nat.le_of_ble_eq_true rfl) (fun hM ho => sX9_copyNotes hD (((c0 + 88) + 1 + 53 * a1) + 4) (c0 + 35) M9 _ (gt_5_2 (gta_50002 (gt_9_6 hT0) hb10)) (gt_9_4 hT0) h hM ho) (fun M11 h => ?_)
        refine g_aloadn C dX9_back_59 0 rfl ?_
        refine gf_9_3 C dX9_back_60 wd_341 hT0 ?_
        refine g_iconst C dX9_back_63 gRc_0 ?_
        refine gp_3_0 C dX9_back_64 wd_173 (gt_9_3 hT0) ?_
        obtain ⟨M12, eM12⟩ : ∃ x : gMem, x = gup M11 (c0 + 9) 0 0 := ⟨_, rfl⟩
        refine g_nmM eM12 ?_
        replace h := h M12 eM12
        refine g_aloadn C dX9_back_67 0 rfl ?_
        refine g_cVi (st := []) C dX9_back_68 ykX9_writtenNotes wd_660 ⟨by decide, by decide⟩ [] rfl (Nat.le_of_ble_eq_true rfl) hT0 (fun hM ho => sX9_writtenNotes hD c0 M12 _ hT0 h hM ho) (fun r14 M13 h => ?_)
        exact g_iret C hR dX9_back_71 h
      · replace h := h.2 c7
        refine g_bipush C dX9_back_24 gRc_m4 gRb_m4 ?_
        exact g_iret C hR dX9_back_26 h
    · replace h := h.2 c5
      refine g_sub [] [] rfl ?_
      exact J3 M0 h

set_option maxRecDepth 100000 in
set_option maxHeartbeats 4000000 in
theorem sX0_follow {l : Launch} {V : gW} (hD : gD V) (c0 a1 : Int) (M0 : gMem) (K : gMem → Prop) (hT0 : gT c0 0) (hT1 : gT a1 1) (h : wX0_follow c0 a1 K M0) (hM : gOM M0) (ho : ∀ q ∈ ([gF a1] : List gSV), gOK q) : gMv l V yX0_follow cX0_follow 5 2 69 [gF c0, gF a1] M0 K := by
  refine gMv_of hD (by decide) (Nat.le_of_ble_eq_true rfl) [(0, gF c0), (1, gF a1)] rfl (gok_L rfl (gok_n (q := gF c0) trivial ho)) hM (fun X C hR => ?_)
  unfold wX0_follow at h
  refine g_aloadn C dX0_follow_0 0 rfl ?_
  refine gf_0_1 C dX0_follow_1 wd_243 hT0 ?_
  refine g_aloadn C dX0_follow_4 1 rfl ?_
  refine gf_1_3 C dX0_follow_5 wd_114 hT1 ?_
  refine g_ic_ne (t := 12) C dX0_follow_8 (by decide) (fun c1 => ?_) (fun c1 => ?_)
  · replace h := h.1 c1
    refine g_aloadn C dX0_follow_12 0 rfl ?_
    refine g_aloadn C dX0_follow_13 1 rfl ?_
    refine gf_1_0 C dX0_follow_14 wd_104 hT1 ?_
    refine g_cVv (st := []) C dX0_follow_17 ykX0_clear wd_676 ⟨by decide, by decide⟩ [gI (M0 a1 0)] rfl (Nat.le_of_ble_eq_true rfl) hT0 (fun hM ho => sX0_clear hD c0 (M0 a1 0) M0 _ hT0 h hM ho) (fun M2 h => ?_)
    refine g_iconst C dX0_follow_20 gRc_0 ?_
    refine g_istoren C [(2, gI 0), (0, gF c0), (1, gF a1)] dX0_follow_21 (by decide) rfl ?_
    refine g_sub [(0, gF c0), (1, gF a1), (2, gI 0)] [1, 2, 0] rfl ?_
    refine gL1_go (Gd := fun (v3 : Int) (M4 : gMem) => gG X V 5 22 [(0, gF c0), (1, gF a1), (2, gI v3)] [] M4) (fun rec5 hrec5 v3 M4 h => ?_) h
    refine g_iloadn C dX0_follow_22 2 rfl ?_
    refine g_aloadn C dX0_follow_23 0 rfl ?_
    refine gf_0_0 C dX0_follow_24 wd_242 hT0 ?_
    refine g_ic_ge (t := 75) C dX0_follow_27 (by decide) (fun c6 => ?_) (fun c6 => ?_)
    · replace h := h.1 c6
      refine g_aloadn C dX0_follow_75 0 rfl ?_
      refine g_aloadn C dX0_follow_76 1 rfl ?_
      refine gf_1_3 C dX0_follow_77 wd_114 hT1 ?_
      refine gp_0_1 C dX0_follow_80 wd_243 hT0 ?_
      obtain ⟨M7, eM7⟩ : ∃ x : gMem, x = gup M4 c0 1 (M4 a1 3) := ⟨_, rfl⟩
      refine g_nmM eM7 ?_
      replace h := h M7 eM7
      exact g_vret C hR dX0_follow_83 h
    · replace h := h.2 c6
      refine g_iloadn C dX0_follow_30 2 rfl ?_
      refine g_iconst C dX0_follow_31 gRc_1 ?_
      refine g_iadd C dX0_follow_32 h.1 ?_
      replace h := h.2
      obtain ⟨v8, ev8⟩ : ∃ x : Int, x = (v3 + 1) := ⟨_, rfl⟩
      refine g_nm ev8 ?_
      replace h := h v8 ev8
      refine g_istoren C [(3, gI v8), (0, gF c0), (1, gF a1), (2, gI v3)] dX0_follow_33 (by decide) rfl ?_
      refine g_sub [(0, gF c0), (1, gF a1), (2, gI v3), (3, gI v8)] [1, 2, 3, 0] rfl ?_
      refine gL1_go (Gd := fun (v9 : Int) (M10 : gMem) => gG X V 5 34 [(0, gF c0), (1, gF a1), (2, gI v3), (3, gI v9)] [] M10) (fun rec11 hrec11 v9 M10 h => ?_) h
      refine g_iloadn C dX0_follow_34 3 rfl ?_
      refine g_aloadn C dX0_follow_35 0 rfl ?_
      refine gf_0_0 C dX0_follow_36 wd_242 hT0 ?_
      refine g_ic_ge (t := 69) C dX0_follow_39 (by decide) (fun c12 => ?_) (fun c12 => ?_)
      · replace h := h.1 c12
        refine g_iinc C [(2, gI (v3 + 1)), (0, gF c0), (1, gF a1), (3, gI v9)] dX0_follow_69 2 rfl (by decide) h.1 rfl ?_
        replace h := h.2
        refine g_goto (t := 22) C dX0_follow_72 (by decide) ?_
        refine g_sub [(0, gF c0), (1, gF a1), (2, gI (v3 + 1))] [1, 2, 0] rfl ?_
        exact hrec5 (v3 + 1) M10 h
      · replace h := h.2 c12
        refine g_aloadn C dX0_follow_42 1 rfl ?_
        refine g_iloadn C dX0_follow_43 2 rfl ?_
        refine g_iloadn C dX0_follow_44 3 rfl ?_
        refine g_cVi (st := []) C dX0_follow_45 ykX1_lengthOf wd_677 ⟨by decide, by decide⟩ [gI v3, gI v9] rfl (Nat.le_of_ble_eq_true rfl) hT1 (fun hM ho => sX1_lengthOf hD a1 v3 v9 M10 _ hT1 h hM ho) (fun r14 M13 h => ?_)
        refine g_istore C [(4, gI r14), (0, gF c0), (1, gF a1), (2, gI v3), (3, gI v9)] dX0_follow_48 (by decide) rfl ?_
        refine g_iload C dX0_follow_50 0 rfl ?_
        obtain ⟨P16, h, hP16⟩ := h
        have J17 : ∀ (M15 : gMem), P16 M15 → gG X V 5 63 [(0, gF c0), (1, gF a1), (2, gI v3), (3, gI v9)] [] M15 := by
          intro M15 h
          replace h := hP16 M15 h
          refine g_iinc C [(3, gI (v9 + 1)), (0, gF c0), (1, gF a1), (2, gI v3)] dX0_follow_63 3 rfl (by decide) h.1 rfl ?_
          replace h := h.2
          refine g_goto (t := 34) C dX0_follow_66 (by decide) ?_
          refine g_sub [(0, gF c0), (1, gF a1), (2, gI v3), (3, gI (v9 + 1))] [1, 2, 3, 0] rfl ?_
          exact hrec11 (v9 + 1) M15 h
        refine g_if_le (t := 63) C dX0_follow_52 (by decide) (fun c18 => ?_) (fun c18 => ?_)
        · replace h := h.1 c18
          refine g_sub [(0, gF c0), (1, gF a1), (2, gI v3), (3, gI v9)] [1, 2, 3, 4] rfl ?_
          exact J17 M13 h
        · replace h := h.2 c18
          refine g_aloadn C dX0_follow_55 1 rfl ?_
          refine g_iloadn C dX0_follow_56 3 rfl ?_
          refine g_iloadn C dX0_follow_57 4 rfl ?_
          refine g_iload C dX0_follow_58 0 rfl ?_
          refine g_cVv (st := []) C dX0_follow_60 ykX0_add wd_678 ⟨by decide, by decide⟩ [gI v3, gI v9, gI r14] rfl (Nat.le_of_ble_eq_true rfl) hT0 (fun hM ho => sX0_add hD c0 v3 v9 r14 M13 _ hT0 h hM ho) (fun M19 h => ?_)
          refine g_sub [(0, gF c0), (1, gF a1), (2, gI v3), (3, gI v9)] [1, 2, 3, 4] rfl ?_
          exact J17 M19 h
  · replace h := h.2 c1
    exact g_vret C hR dX0_follow_11 h

set_option maxRecDepth 100000 in
set_option maxHeartbeats 4000000 in
theorem sX9_distance {l : Launch} {V : gW} (hD : gD V) (c0 a1 a2 : Int) (M0 : gMem) (K : Int → gMem → Prop) (hT0 : gT c0 9) (h : wX9_distance c0 a1 a2 K M0) (hM : gOM M0) (ho : ∀ q ∈ ([gI a1, gI a2] : List gSV), gOK q) : gMi l V yX9_distance cX9_distance 3 (some .int) 3 93 [gF c0, gI a1, gI a2] M0 K := by
  refine gMi_of hD (by decide) (Nat.le_of_ble_eq_true rfl) [(0, gF c0), (1, gI a1), (2, gI a2)] rfl (gok_L rfl (gok_n (q := gF c0) trivial ho)) hM (fun X C hR => ?_)
  unfold wX9_distance at h
  refine g_aloadn C dX9_distance_0 0 rfl ?_
  refine g_iloadn C dX9_distance_1 1 rfl ?_
  refine g_iloadn C dX9_distance_2 2 rfl ?_
  refine g_cVi (st := []) C dX9_distance_3 ykX9_bothThere wd_554 ⟨by decide, by decide⟩ [gI a1, gI a2] rfl (Nat.le_of_ble_eq_true rfl) hT0 (fun hM ho => sX9_bothThere hD c0 a1 a2 M0 _ hT0 h hM ho) (fun r2 M1 h => ?_)
  refine g_if_ne (t := 12) C dX9_distance_6 (by decide) (fun c3 => ?_) (fun c3 => ?_)
  · replace h := h.1 c3
    refine g_aloadn C dX9_distance_12 0 rfl ?_
    refine gf_9_7 C dX9_distance_13 wd_345 hT0 ?_
    refine g_aloadn C dX9_distance_16 0 rfl ?_
    refine gf_9_0 C dX9_distance_17 wd_338 hT0 ?_
    refine g_cVv (st := []) C dX9_distance_20 ykX0_follow wd_672 ⟨by decide, by decide⟩ [gF (c0 + 1)] rfl (Nat.le_of_ble_eq_true rfl) (gt_9_7 hT0) (fun hM ho => sX0_follow hD (c0 + 195) (c0 + 1) M1 _ (gt_9_7 hT0) (gt_9_0 hT0) h hM ho) (fun M4 h => ?_)
    refine g_aloadn C dX9_distance_23 0 rfl ?_
    refine gf_9_7 C dX9_distance_24 wd_345 hT0 ?_
    refine g_iloadn C dX9_distance_27 1 rfl ?_
    refine g_iloadn C dX9_distance_28 2 rfl ?_
    refine g_cVi (st := []) C dX9_distance_29 ykX0_between wd_679 ⟨by decide, by decide⟩ [gI a1, gI a2] rfl (Nat.le_of_ble_eq_true rfl) (gt_9_7 hT0) (fun hM ho => sX0_between hD (c0 + 195) a1 a2 M4 _ (gt_9_7 hT0) h hM ho) (fun r6 M5 h => ?_)
    exact g_iret C hR dX9_distance_32 h
  · replace h := h.2 c3
    refine g_bipush C dX9_distance_9 gRc_m2 gRb_m2 ?_
    exact g_iret C hR dX9_distance_11 h

set_option maxRecDepth 100000 in
set_option maxHeartbeats 4000000 in
theorem sX2_findNearest {l : Launch} {V : gW} (hD : gD V) (c0 a1 a2 a3 a4 : Int) (M0 : gMem) (K : gMem → Prop) (hT0 : gT c0 2) (hT1 : gT a1 1) (hT2 : gT a2 0) (h : wX2_findNearest c0 a1 a2 a3 a4 K M0) (hM : gOM M0) (ho : ∀ q ∈ ([gF a1, gF a2, gI a3, gI a4] : List gSV), gOK q) : gMv l V yX2_findNearest cX2_findNearest 7 1 22 [gF c0, gF a1, gF a2, gI a3, gI a4] M0 K := by
  refine gMv_of hD (by decide) (Nat.le_of_ble_eq_true rfl) [(0, gF c0), (1, gF a1), (2, gF a2), (3, gI a3), (4, gI a4)] rfl (gok_L rfl (gok_n (q := gF c0) trivial ho)) hM (fun X C hR => ?_)
  unfold wX2_findNearest at h
  refine g_aloadn C dX2_findNearest_0 0 rfl ?_
  refine gf_2_2 C dX2_findNearest_1 wd_198 hT0 ?_
  refine g_iload C dX2_findNearest_4 4 rfl ?_
  refine g_iconst C dX2_findNearest_6 gRc_m1 ?_
  refine g_iast C dX2_findNearest_7 (gt_2_2 hT0) gce_10003 h.1 ?_
  replace h := h.2
  obtain ⟨M1, eM1⟩ : ∃ x : gMem, x = gup M0 (c0 + 1) a4 (-1) := ⟨_, rfl⟩
  refine g_nmM eM1 ?_
  replace h := h M1 eM1
  refine g_aloadn C dX2_findNearest_8 0 rfl ?_
  refine gf_2_3 C dX2_findNearest_9 wd_199 hT0 ?_
  refine g_iload C dX2_findNearest_12 4 rfl ?_
  refine g_iconst C dX2_findNearest_14 gRc_m1 ?_
  refine g_iast C dX2_findNearest_15 (gt_2_3 hT0) gce_10003 h.1 ?_
  replace h := h.2
  obtain ⟨M2, eM2⟩ : ∃ x : gMem, x = gup M1 (c0 + 2) a4 (-1) := ⟨_, rfl⟩
  refine g_nmM eM2 ?_
  replace h := h M2 eM2
  refine g_iconst C dX2_findNearest_16 gRc_0 ?_
  refine g_istore C [(5, gI 0), (0, gF c0), (1, gF a1), (2, gF a2), (3, gI a3), (4, gI a4)] dX2_findNearest_17 (by decide) rfl ?_
  refine g_sub [(0, gF c0), (1, gF a1), (2, gF a2), (3, gI a3), (4, gI a4), (5, gI 0)] [1, 2, 3, 4, 5, 0] rfl ?_
  refine gL1_go (Gd := fun (v3 : Int) (M4 : gMem) => gG X V 7 19 [(0, gF c0), (1, gF a1), (2, gF a2), (3, gI a3), (4, gI a4), (5, gI v3)] [] M4) (fun rec5 hrec5 v3 M4 h => ?_) h
  refine g_iload C dX2_findNearest_19 5 rfl ?_
  refine g_aloadn C dX2_findNearest_21 1 rfl ?_
  refine gf_1_0 C dX2_findNearest_22 wd_107 hT1 ?_
  refine g_ic_ge (t := 104) C dX2_findNearest_25 (by decide) (fun c6 => ?_) (fun c6 => ?_)
  · replace h := h.1 c6
    exact g_vret C hR dX2_findNearest_104 h
  · replace h := h.2 c6
    refine g_aloadn C dX2_findNearest_28 2 rfl ?_
    refine g_iloadn C dX2_findNearest_29 3 rfl ?_
    refine g_iload C dX2_findNearest_30 5 rfl ?_
    refine g_cVi (st := []) C dX2_findNearest_32 ykX0_between wd_696 ⟨by decide, by decide⟩ [gI a3, gI v3] rfl (Nat.le_of_ble_eq_true rfl) hT2 (fun hM ho => sX0_between hD a2 a3 v3 M4 _ hT2 h hM ho) (fun r8 M7 h => ?_)
    refine g_istore C [(6, gI r8), (0, gF c0), (1, gF a1), (2, gF a2), (3, gI a3), (4, gI a4), (5, gI v3)] dX2_findNearest_35 (by decide) rfl ?_
    refine g_iload C dX2_findNearest_37 0 rfl ?_
    refine g_iconst C dX2_findNearest_39 gRc_m1 ?_
    obtain ⟨P10, h, hP10⟩ := h
    have J11 : ∀ (M9 : gMem), P10 M9 → gG X V 7 98 [(0, gF c0), (1, gF a1), (2, gF a2), (3, gI a3), (4, gI a4), (5, gI v3)] [] M9 := by
      intro M9 h
      replace h := hP10 M9 h
      refine g_iinc C [(5, gI (v3 + 1)), (0, gF c0), (1, gF a1), (2, gF a2), (3, gI a3), (4, gI a4)] dX2_findNearest_98 5 rfl (by decide) h.1 rfl ?_
      replace h := h.2
      refine g_goto (t := 19) C dX2_findNearest_101 (by decide) ?_
      refine g_sub [(0, gF c0), (1, gF a1), (2, gF a2), (3, gI a3), (4, gI a4), (5, gI (v3 + 1))] [1, 2, 3, 4, 5, 0] rfl ?_
      exact hrec5 (v3 + 1) M9 h
    refine g_ic_eq (t := 98) C dX2_findNearest_40 (by decide) (fun c12 => ?_) (fun c12 => ?_)
    · replace h := h.1 c12
      refine g_sub [(0, gF c0), (1, gF a1), (2, gF a2), (3, gI a3), (4, gI a4), (5, gI v3)] [1, 2, 3, 4, 5, 6] rfl ?_
      exact J11 M7 h
    · replace h := h.2 c12
      refine g_aloadn C dX2_findNearest_43 2 rfl ?_
      refine g_iload C dX2_findNearest_44 6 rfl ?_
      refine g_cVi (st := []) C dX2_findNearest_46 ykX1_levelOf wd_697 ⟨by decide, by decide⟩ [gI v3] rfl (Nat.le_of_ble_eq_true rfl) hT1 (fun hM ho => sX1_levelOf hD a1 v3 M7 _ hT1 h hM ho) (fun r14 M13 h => ?_)
      refine g_iload C dX2_findNearest_49 5 rfl ?_
      refine g_ic_ge (t := 57) C dX2_findNearest_51 (by decide) (fun c15 => ?_) (fun c15 => ?_)
      · replace h := h.1 c15
        refine g_aloadn C dX2_findNearest_57 1 rfl ?_
        refine gf_2_2 C dX2_findNearest_58 wd_198 hT0 ?_
        refine g_iload C dX2_findNearest_61 5 rfl ?_
        refine g_iald C dX2_findNearest_63 (gt_2_2 hT0) gce_10003 h.1 ?_
        replace h := h.2
        refine g_iconst C dX2_findNearest_64 gRc_m1 ?_
        obtain ⟨P17, h, hP17⟩ := h
        have J18 : ∀ (M16 : gMem), P17 M16 → gG X V 7 80 [(0, gF c0), (1, gF a1), (2, gF a2), (3, gI a3), (4, gI a4), (5, gI v3), (6, gI r8)] [] M16 := by
          intro M16 h
          replace h := hP17 M16 h
          refine g_aloadn C dX2_findNearest_80 0 rfl ?_
          refine gf_2_2 C dX2_findNearest_81 wd_198 hT0 ?_
          refine g_iload C dX2_findNearest_84 4 rfl ?_
          refine g_iload C dX2_findNearest_86 5 rfl ?_
          refine g_iast C dX2_findNearest_88 (gt_2_2 hT0) gce_10003 h.1 ?_
          replace h := h.2
          obtain ⟨M19, eM19⟩ : ∃ x : gMem, x = gup M16 (c0 + 1) a4 v3 := ⟨_, rfl⟩
          refine g_nmM eM19 ?_
          replace h := h M19 eM19
          refine g_aloadn C dX2_findNearest_89 0 rfl ?_
          refine gf_2_3 C dX2_findNearest_90 wd_199 hT0 ?_
          refine g_iload C dX2_findNearest_93 4 rfl ?_
          refine g_iload C dX2_findNearest_95 6 rfl ?_
          refine g_iast C dX2_findNearest_97 (gt_2_3 hT0) gce_10003 h.1 ?_
          replace h := h.2
          obtain ⟨M20, eM20⟩ : ∃ x : gMem, x = gup M19 (c0 + 2) a4 r8 := ⟨_, rfl⟩
          refine g_nmM eM20 ?_
          replace h := h M20 eM20
          refine g_sub [(0, gF c0), (1, gF a1), (2, gF a2), (3, gI a3), (4, gI a4), (5, gI v3)] [0, 1, 2, 3, 4, 5] rfl ?_
          exact J11 M20 h
        refine g_ic_eq (t := 80) C dX2_findNearest_65 (by decide) (fun c21 => ?_) (fun c21 => ?_)
        · replace h := h.1 c21
          refine g_sub [(0, gF c0), (1, gF a1), (2, gF a2), (3, gI a3), (4, gI a4), (5, gI v3), (6, gI r8)] [1, 2, 3, 4, 5, 6, 0] rfl ?_
          exact J18 M13 h
        · replace h := h.2 c21
          refine g_iload C dX2_findNearest_68 0 rfl ?_
          refine g_aloadn C dX2_findNearest_70 1 rfl ?_
          refine gf_2_3 C dX2_findNearest_71 wd_199 hT0 ?_
          refine g_iload C dX2_findNearest_74 5 rfl ?_
          refine g_iald C dX2_findNearest_76 (gt_2_3 hT0) gce_10003 h.1 ?_
          replace h := h.2
          refine g_ic_ge (t := 98) C dX2_findNearest_77 (by decide) (fun c22 => ?_) (fun c22 => ?_)
          · replace h := h.1 c22
            refine g_sub [(0, gF c0), (1, gF a1), (2, gF a2), (3, gI a3), (4, gI a4), (5, gI v3)] [1, 2, 3, 4, 5, 6] rfl ?_
            exact J11 M13 h
          · replace h := h.2 c22
            refine g_sub [(0, gF c0), (1, gF a1), (2, gF a2), (3, gI a3), (4, gI a4), (5, gI v3), (6, gI r8)] [1, 2, 3, 4, 5, 6, 0] rfl ?_
            exact J18 M13 h
      · replace h := h.2 c15
        refine g_goto (t := 98) C dX2_findNearest_54 (by decide) ?_
        refine g_sub [(0, gF c0), (1, gF a1), (2, gF a2), (3, gI a3), (4, gI a4), (5, gI v3)] [1, 2, 3, 4, 5, 6] rfl ?_
        exact J11 M13 h

set_option maxRecDepth 100000 in
set_option maxHeartbeats 4000000 in
theorem sX2_nearestFarAt {l : Launch} {V : gW} (hD : gD V) (c0 a1 : Int) (M0 : gMem) (K : Int → gMem → Prop) (hT0 : gT c0 2) (h : wX2_nearestFarAt c0 a1 K M0) (hM : gOM M0) (ho : ∀ q ∈ ([gI a1] : List gSV), gOK q) : gMi l V yX2_nearestFarAt cX2_nearestFarAt 2 (some .int) 0 0 [gF c0, gI a1] M0 K := by
  refine gMi_of hD (by decide) (Nat.le_of_ble_eq_true rfl) [(0, gF c0), (1, gI a1)] rfl (gok_L rfl (gok_n (q := gF c0) trivial ho)) hM (fun X C hR => ?_)
  unfold wX2_nearestFarAt at h
  refine g_iloadn C dX2_nearestFarAt_0 1 rfl ?_
  obtain ⟨P3, h, hP3⟩ := h
  have J4 : ∀ (x1 : Int) (M2 : gMem), P3 x1 M2 → gG X V 2 19 [] [gI x1] M2 := by
    intro x1 M2 h
    replace h := hP3 x1 M2 h
    exact g_iret C hR dX2_nearestFarAt_19 h
  obtain ⟨P6, h, hP6⟩ := h
  have J7 : ∀ (M5 : gMem), P6 M5 → gG X V 2 18 [] [] M5 := by
    intro M5 h
    replace h := hP6 M5 h
    refine g_iconst C dX2_nearestFarAt_18 gRc_m1 ?_
    exact J4 (-1) M5 h
  refine g_if_lt (t := 18) C dX2_nearestFarAt_1 (by decide) (fun c8 => ?_) (fun c8 => ?_)
  · replace h := h.1 c8
    refine g_sub [] [] rfl ?_
    exact J7 M0 h
  · replace h := h.2 c8
    refine g_iloadn C dX2_nearestFarAt_4 1 rfl ?_
    refine g_iconst C dX2_nearestFarAt_5 gRc_3 ?_
    refine g_ic_ge (t := 18) C dX2_nearestFarAt_6 (by decide) (fun c9 => ?_) (fun c9 => ?_)
    · replace h := h.1 c9
      refine g_sub [] [] rfl ?_
      exact J7 M0 h
    · replace h := h.2 c9
      refine g_aloadn C dX2_nearestFarAt_9 0 rfl ?_
      refine gf_2_3 C dX2_nearestFarAt_10 wd_199 hT0 ?_
      refine g_iloadn C dX2_nearestFarAt_13 1 rfl ?_
      refine g_iald C dX2_nearestFarAt_14 (gt_2_3 hT0) gce_10003 h.1 ?_
      replace h := h.2
      refine g_goto (t := 19) C dX2_nearestFarAt_15 (by decide) ?_
      refine g_sub [] [] rfl ?_
      exact J4 (M0 (c0 + 2) a1) M0 h

set_option maxRecDepth 100000 in
set_option maxHeartbeats 4000000 in
theorem sX2_isNear {l : Launch} {V : gW} (hD : gD V) (c0 a1 a2 : Int) (M0 : gMem) (K : Int → gMem → Prop) (hT0 : gT c0 2) (h : wX2_isNear c0 a1 a2 K M0) (hM : gOM M0) (ho : ∀ q ∈ ([gI a1, gI a2] : List gSV), gOK q) : gMi l V yX2_isNear cX2_isNear 4 (some .boolean) 1 21 [gF c0, gI a1, gI a2] M0 K := by
  refine gMi_of hD (by decide) (Nat.le_of_ble_eq_true rfl) [(0, gF c0), (1, gI a1), (2, gI a2)] rfl (gok_L rfl (gok_n (q := gF c0) trivial ho)) hM (fun X C hR => ?_)
  unfold wX2_isNear at h
  refine g_aloadn C dX2_isNear_0 0 rfl ?_
  refine g_iloadn C dX2_isNear_1 2 rfl ?_
  refine g_iconst C dX2_isNear_2 gRc_1 ?_
  refine g_iadd C dX2_isNear_3 h.1 ?_
  replace h := h.2
  refine g_cVi (st := []) C dX2_isNear_4 ykX2_nearestFarAt wd_702 ⟨by decide, by decide⟩ [gI (a2 + 1)] rfl (Nat.le_of_ble_eq_true rfl) hT0 (fun hM ho => sX2_nearestFarAt hD c0 (a2 + 1) M0 _ hT0 h hM ho) (fun r2 M1 h => ?_)
  refine g_istoren C [(3, gI r2), (0, gF c0), (1, gI a1), (2, gI a2)] dX2_isNear_7 (by decide) rfl ?_
  refine g_iloadn C dX2_isNear_8 0 rfl ?_
  refine g_iconst C dX2_isNear_9 gRc_m1 ?_
  obtain ⟨P5, h, hP5⟩ := h
  have J6 : ∀ (x3 : Int) (M4 : gMem), P5 x3 M4 → gG X V 4 23 [] [gI x3] M4 := by
    intro x3 M4 h
    replace h := hP5 x3 M4 h
    exact g_zret C hR dX2_isNear_23 h.1 h.2
  obtain ⟨P8, h, hP8⟩ := h
  have J9 : ∀ (M7 : gMem), P8 M7 → gG X V 4 18 [] [] M7 := by
    intro M7 h
    replace h := hP8 M7 h
    refine g_iconst C dX2_isNear_18 gRc_1 ?_
    refine g_goto (t := 23) C dX2_isNear_19 (by decide) ?_
    exact J6 1 M7 h
  refine g_ic_eq (t := 18) C dX2_isNear_10 (by decide) (fun c10 => ?_) (fun c10 => ?_)
  · replace h := h.1 c10
    refine g_sub [] [] rfl ?_
    exact J9 M1 h
  · replace h := h.2 c10
    refine g_iloadn C dX2_isNear_13 2 rfl ?_
    refine g_iloadn C dX2_isNear_14 0 rfl ?_
    refine g_ic_ge (t := 22) C dX2_isNear_15 (by decide) (fun c11 => ?_) (fun c11 => ?_)
    · replace h := h.1 c11
      refine g_iconst C dX2_isNear_22 gRc_0 ?_
      refine g_sub [] [] rfl ?_
      exact J6 0 M1 h
    · replace h := h.2 c11
      refine g_sub [] [] rfl ?_
      exact J9 M1 h

set_option maxRecDepth 100000 in
set_option maxHeartbeats 4000000 in
theorem sX2_write {l : Launch} {V : gW} (hD : gD V) (c0 a1 a2 a3 : Int) (M0 : gMem) (K : gMem → Prop) (hT0 : gT c0 2) (hT1 : gT a1 1) (hT2 : gT a2 0) (h : wX2_write c0 a1 a2 a3 K M0) (hM : gOM M0) (ho : ∀ q ∈ ([gF a1, gF a2, gI a3] : List gSV), gOK q) : gMv l V yX2_write cX2_write 6 2 48 [gF c0, gF a1, gF a2, gI a3] M0 K := by
  refine gMv_of hD (by decide) (Nat.le_of_ble_eq_true rfl) [(0, gF c0), (1, gF a1), (2, gF a2), (3, gI a3)] rfl (gok_L rfl (gok_n (q := gF c0) trivial ho)) hM (fun X C hR => ?_)
  unfold wX2_write at h
  refine g_aloadn C dX2_write_0 0 rfl ?_
  refine g_iconst C dX2_write_1 gRc_1 ?_
  refine gp_2_0 C dX2_write_2 wd_194 hT0 (Or.inr rfl) ?_
  obtain ⟨M1, eM1⟩ : ∃ x : gMem, x = gup M0 c0 0 1 := ⟨_, rfl⟩
  refine g_nmM eM1 ?_
  replace h := h M1 eM1
  refine g_iconst C dX2_write_5 gRc_0 ?_
  refine g_istore C [(4, gI 0), (0, gF c0), (1, gF a1), (2, gF a2), (3, gI a3)] dX2_write_6 (by decide) rfl ?_
  refine g_sub [(0, gF c0), (1, gF a1), (2, gF a2), (3, gI a3), (4, gI 0)] [1, 2, 3, 4, 0] rfl ?_
  refine gL1_go (Gd := fun (v2 : Int) (M3 : gMem) => gG X V 6 8 [(0, gF c0), (1, gF a1), (2, gF a2), (3, gI a3), (4, gI v2)] [] M3) (fun rec4 hrec4 v2 M3 h => ?_) h
  refine g_iload C dX2_write_8 4 rfl ?_
  refine g_iconst C dX2_write_10 gRc_3 ?_
  refine g_ic_ge (t := 29) C dX2_write_11 (by decide) (fun c5 => ?_) (fun c5 => ?_)
  · replace h := h.1 c5
    refine g_aloadn C dX2_write_29 0 rfl ?_
    refine g_iconst C dX2_write_30 gRc_0 ?_
    refine gp_2_1 C dX2_write_31 wd_196 hT0 ?_
    obtain ⟨M6, eM6⟩ : ∃ x : gMem, x = gup M3 c0 1 0 := ⟨_, rfl⟩
    refine g_nmM eM6 ?_
    replace h := h M6 eM6
    refine g_iconst C dX2_write_34 gRc_0 ?_
    refine g_istore C [(4, gI 0), (0, gF c0), (1, gF a1), (2, gF a2), (3, gI a3)] dX2_write_35 (by decide) rfl ?_
    refine g_sub [(0, gF c0), (1, gF a1), (2, gF a2), (3, gI a3), (4, gI 0)] [1, 2, 3, 4, 0] rfl ?_
    refine gL1_go (Gd := fun (v7 : Int) (M8 : gMem) => gG X V 6 37 [(0, gF c0), (1, gF a1), (2, gF a2), (3, gI a3), (4, gI v7)] [] M8) (fun rec9 hrec9 v7 M8 h => ?_) h
    refine g_iload C dX2_write_37 4 rfl ?_
    refine g_bipush C dX2_write_39 gRc_12 gRb_12 ?_
    refine g_ic_ge (t := 110) C dX2_write_41 (by decide) (fun c10 => ?_) (fun c10 => ?_)
    · replace h := h.1 c10
      exact g_vret C hR dX2_write_110 h
    · replace h := h.2 c10
      refine g_aloadn C dX2_write_44 0 rfl ?_
      refine gf_2_4 C dX2_write_45 wd_200 hT0 ?_
      refine g_iload C dX2_write_48 4 rfl ?_
      refine g_iconst C dX2_write_50 gRc_m1 ?_
      refine g_iast C dX2_write_51 (gt_2_4 hT0) gce_10012 h.1 ?_
      replace h := h.2
      obtain ⟨M11, eM11⟩ : ∃ x : gMem, x = gup M8 (c0 + 3) v7 (-1) := ⟨_, rfl⟩
      refine g_nmM eM11 ?_
      replace h := h M11 eM11
      refine g_aloadn C dX2_write_52 2 rfl ?_
      refine g_iloadn C dX2_write_53 3 rfl ?_
      refine g_iload C dX2_write_54 4 rfl ?_
      refine g_cVi (st := []) C dX2_write_56 ykX0_between wd_696 ⟨by decide, by decide⟩ [gI a3, gI v7] rfl (Nat.le_of_ble_eq_true rfl) hT2 (fun hM ho => sX0_between hD a2 a3 v7 M11 _ hT2 h hM ho) (fun r13 M12 h => ?_)
      refine g_istore C [(5, gI r13), (0, gF c0), (1, gF a1), (2, gF a2), (3, gI a3), (4, gI v7)] dX2_write_59 (by decide) rfl ?_
      refine g_iload C dX2_write_61 0 rfl ?_
      refine g_iconst C dX2_write_63 gRc_m1 ?_
      obtain ⟨P15, h, hP15⟩ := h
      have J16 : ∀ (M14 : gMem), P15 M14 → gG X V 6 104 [(0, gF c0), (1, gF a1), (2, gF a2), (3, gI a3), (4, gI v7)] [] M14 := by
        intro M14 h
        replace h := hP15 M14 h
        refine g_iinc C [(4, gI (v7 + 1)), (0, gF c0), (1, gF a1), (2, gF a2), (3, gI a3)] dX2_write_104 4 rfl (by decide) h.1 rfl ?_
        replace h := h.2
        refine g_goto (t := 37) C dX2_write_107 (by decide) ?_
        refine g_sub [(0, gF c0), (1, gF a1), (2, gF a2), (3, gI a3), (4, gI (v7 + 1))] [1, 2, 3, 4, 0] rfl ?_
        exact hrec9 (v7 + 1) M14 h
      refine g_ic_eq (t := 104) C dX2_write_64 (by decide) (fun c17 => ?_) (fun c17 => ?_)
      · replace h := h.1 c17
        refine g_sub [(0, gF c0), (1, gF a1), (2, gF a2), (3, gI a3), (4, gI v7)] [1, 2, 3, 4, 5] rfl ?_
        exact J16 M12 h
      · replace h := h.2 c17
        refine g_aloadn C dX2_write_67 1 rfl ?_
        refine g_iload C dX2_write_68 0 rfl ?_
        refine g_aloadn C dX2_write_70 2 rfl ?_
        refine g_iload C dX2_write_71 5 rfl ?_
        refine g_cVi (st := [gI r13, gF c0]) C dX2_write_73 ykX1_levelOf wd_697 ⟨by decide, by decide⟩ [gI v7] rfl (Nat.le_of_ble_eq_true rfl) hT1 (fun hM ho => sX1_levelOf hD a1 v7 M12 _ hT1 h hM ho) (fun r19 M18 h => ?_)
        refine g_cVi (st := []) C dX2_write_76 ykX2_isNear wd_698 ⟨by decide, by decide⟩ [gI r13, gI r19] rfl (Nat.le_of_ble_eq_true rfl) hT0 (fun hM ho => sX2_isNear hD c0 r13 r19 M18 _ hT0 h hM ho) (fun r21 M20 h => ?_)
        refine g_if_eq (t := 104) C dX2_write_79 (by decide) (fun c22 => ?_) (fun c22 => ?_)
        · replace h := h.1 c22
          refine g_sub [(0, gF c0), (1, gF a1), (2, gF a2), (3, gI a3), (4, gI v7)] [1, 2, 3, 4, 5] rfl ?_
          exact J16 M20 h
        · replace h := h.2 c22
          refine g_aloadn C dX2_write_82 1 rfl ?_
          refine gf_2_4 C dX2_write_83 wd_200 hT0 ?_
          refine g_iload C dX2_write_86 5 rfl ?_
          refine g_iload C dX2_write_88 0 rfl ?_
          refine g_iast C dX2_write_90 (gt_2_4 hT0) gce_10012 h.1 ?_
          replace h := h.2
          obtain ⟨M23, eM23⟩ : ∃ x : gMem, x = gup M20 (c0 + 3) v7 r13 := ⟨_, rfl⟩
          refine g_nmM eM23 ?_
          replace h := h M23 eM23
          refine g_aloadn C dX2_write_91 1 rfl ?_
          refine g_dup C dX2_write_92 (fun e => by cases e) ?_
          refine gf_2_1 C dX2_write_93 wd_196 hT0 ?_
          refine g_iconst C dX2_write_96 gRc_1 ?_
          refine g_iload C dX2_write_97 5 rfl ?_
          refine g_ishl C dX2_write_99 h.1 ?_
          replace h := h.2
          refine g_ior C dX2_write_100 h.1 ?_
          replace h := h.2
          refine gp_2_1 C dX2_write_101 wd_196 hT0 ?_
          obtain ⟨M24, eM24⟩ : ∃ x : gMem, x = gup M23 c0 1 (gor (M23 c0 1) (gpw v7)) := ⟨_, rfl⟩
          refine g_nmM eM24 ?_
          replace h := h M24 eM24
          refine g_sub [(0, gF c0), (1, gF a1), (2, gF a2), (3, gI a3), (4, gI v7)] [1, 2, 3, 4, 5] rfl ?_
          exact J16 M24 h
  · replace h := h.2 c5
    refine g_aloadn C dX2_write_14 0 rfl ?_
    refine g_aloadn C dX2_write_15 1 rfl ?_
    refine g_aloadn C dX2_write_16 2 rfl ?_
    refine g_iloadn C dX2_write_17 3 rfl ?_
    refine g_iload C dX2_write_18 4 rfl ?_
    refine g_cVv (st := []) C dX2_write_20 ykX2_findNearest wd_692 ⟨by decide, by decide⟩ [gF a1, gF a2, gI a3, gI v2] rfl (Nat.le_of_ble_eq_true rfl) hT0 (fun hM ho => sX2_findNearest hD c0 a1 a2 a3 v2 M3 _ hT0 hT1 hT2 h hM ho) (fun M25 h => ?_)
    refine g_iinc C [(4, gI (v2 + 1)), (0, gF c0), (1, gF a1), (2, gF a2), (3, gI a3)] dX2_write_23 4 rfl (by decide) h.1 rfl ?_
    replace h := h.2
    refine g_goto (t := 8) C dX2_write_26 (by decide) ?_
    refine g_sub [(0, gF c0), (1, gF a1), (2, gF a2), (3, gI a3), (4, gI (v2 + 1))] [1, 2, 3, 4, 0] rfl ?_
    exact hrec4 (v2 + 1) M25 h

set_option maxRecDepth 100000 in
set_option maxHeartbeats 4000000 in
theorem sX9_writeDraft {l : Launch} {V : gW} (hD : gD V) (c0 a1 : Int) (M0 : gMem) (K : gMem → Prop) (hT0 : gT c0 9) (h : wX9_writeDraft c0 a1 K M0) (hM : gOM M0) (ho : ∀ q ∈ ([gI a1] : List gSV), gOK q) : gMv l V yX9_writeDraft cX9_writeDraft 2 3 93 [gF c0, gI a1] M0 K := by
  refine gMv_of hD (by decide) (Nat.le_of_ble_eq_true rfl) [(0, gF c0), (1, gI a1)] rfl (gok_L rfl (gok_n (q := gF c0) trivial ho)) hM (fun X C hR => ?_)
  unfold wX9_writeDraft at h
  refine g_aloadn C dX9_writeDraft_0 0 rfl ?_
  refine gf_9_7 C dX9_writeDraft_1 wd_345 hT0 ?_
  refine g_aloadn C dX9_writeDraft_4 0 rfl ?_
  refine gf_9_0 C dX9_writeDraft_5 wd_338 hT0 ?_
  refine g_cVv (st := []) C dX9_writeDraft_8 ykX0_follow wd_672 ⟨by decide, by decide⟩ [gF (c0 + 1)] rfl (Nat.le_of_ble_eq_true rfl) (gt_9_7 hT0) (fun hM ho => sX0_follow hD (c0 + 195) (c0 + 1) M0 _ (gt_9_7 hT0) (gt_9_0 hT0) h hM ho) (fun M1 h => ?_)
  refine g_aloadn C dX9_writeDraft_11 0 rfl ?_
  refine gf_9_5 C dX9_writeDraft_12 wd_343 hT0 ?_
  refine g_aloadn C dX9_writeDraft_15 0 rfl ?_
  refine gf_9_0 C dX9_writeDraft_16 wd_338 hT0 ?_
  refine g_aloadn C dX9_writeDraft_19 0 rfl ?_
  refine gf_9_7 C dX9_writeDraft_20 wd_345 hT0 ?_
  refine g_iloadn C dX9_writeDraft_23 1 rfl ?_
  refine g_cVv (st := []) C dX9_writeDraft_24 ykX2_write wd_688 ⟨by decide, by decide⟩ [gF (c0 + 1), gF (c0 + 195), gI a1] rfl (Nat.le_of_ble_eq_true rfl) (gt_9_5 hT0) (fun hM ho => sX2_write hD (c0 + 84) (c0 + 1) (c0 + 195) a1 M1 _ (gt_9_5 hT0) (gt_9_0 hT0) (gt_9_7 hT0) h hM ho) (fun M2 h => ?_)
  exact g_vret C hR dX9_writeDraft_27 h

set_option maxRecDepth 100000 in
set_option maxHeartbeats 4000000 in
theorem sX2_nearestAt {l : Launch} {V : gW} (hD : gD V) (c0 a1 : Int) (M0 : gMem) (K : Int → gMem → Prop) (hT0 : gT c0 2) (h : wX2_nearestAt c0 a1 K M0) (hM : gOM M0) (ho : ∀ q ∈ ([gI a1] : List gSV), gOK q) : gMi l V yX2_nearestAt cX2_nearestAt 2 (some .int) 0 0 [gF c0, gI a1] M0 K := by
  refine gMi_of hD (by decide) (Nat.le_of_ble_eq_true rfl) [(0, gF c0), (1, gI a1)] rfl (gok_L rfl (gok_n (q := gF c0) trivial ho)) hM (fun X C hR => ?_)
  unfold wX2_nearestAt at h
  refine g_iloadn C dX2_nearestAt_0 1 rfl ?_
  obtain ⟨P3, h, hP3⟩ := h
  have J4 : ∀ (x1 : Int) (M2 : gMem), P3 x1 M2 → gG X V 2 19 [] [gI x1] M2 := by
    intro x1 M2 h
    replace h := hP3 x1 M2 h
    exact g_iret C hR dX2_nearestAt_19 h
  obtain ⟨P6, h, hP6⟩ := h
  have J7 : ∀ (M5 : gMem), P6 M5 → gG X V 2 18 [] [] M5 := by
    intro M5 h
    replace h := hP6 M5 h
    refine g_iconst C dX2_nearestAt_18 gRc_m1 ?_
    exact J4 (-1) M5 h
  refine g_if_lt (t := 18) C dX2_nearestAt_1 (by decide) (fun c8 => ?_) (fun c8 => ?_)
  · replace h := h.1 c8
    refine g_sub [] [] rfl ?_
    exact J7 M0 h
  · replace h := h.2 c8
    refine g_iloadn C dX2_nearestAt_4 1 rfl ?_
    refine g_iconst C dX2_nearestAt_5 gRc_3 ?_
    refine g_ic_ge (t := 18) C dX2_nearestAt_6 (by decide) (fun c9 => ?_) (fun c9 => ?_)
    · replace h := h.1 c9
      refine g_sub [] [] rfl ?_
      exact J7 M0 h
    · replace h := h.2 c9
      refine g_aloadn C dX2_nearestAt_9 0 rfl ?_
      refine gf_2_2 C dX2_nearestAt_10 wd_198 hT0 ?_
      refine g_iloadn C dX2_nearestAt_13 1 rfl ?_
      refine g_iald C dX2_nearestAt_14 (gt_2_2 hT0) gce_10003 h.1 ?_
      replace h := h.2
      refine g_goto (t := 19) C dX2_nearestAt_15 (by decide) ?_
      refine g_sub [] [] rfl ?_
      exact J4 (M0 (c0 + 1) a1) M0 h
