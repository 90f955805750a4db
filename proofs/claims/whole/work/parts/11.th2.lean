theorem t_AL_add3 {E : ev_E} (x0 : Option Nat) (x1 : Option Nat) (x2 : Option Nat) (x3 : Int) (h : ev_hs) : EvO E M_AL_add3 6 cvV 0 [some (va_rf x0), some (va_rf x1), some (va_rf x2), some (eI x3)] [] h (f_AL_add3 x0 x1 x2 x3 h) := by
  unfold f_AL_add3
  refine ev_jn (fun J => ∀ (u1_0 : Option Nat) (u1_1 : Option Nat) (u1_2 : Option Nat) (u1_3 : Int) (u1_h : ev_hs), EvO E M_AL_add3 6 cvV 11 [some (va_rf u1_0), some (va_rf u1_1), some (va_rf u1_2), some (eI u1_3)] [] u1_h (J u1_0 u1_1 u1_2 u1_3 u1_h)) ?_ (fun J11 hJ11 => ?_)
  · intro u1_0 u1_1 u1_2 u1_3 u1_h
    refine ev_aload2 12 d_AL_add3_11 rfl ?_
    refine ev_iload3 13 d_AL_add3_12 rfl ?_
    refine ev_aload1 14 d_AL_add3_13 rfl ?_
    refine ev_aastore (t := 52) 15 d_AL_add3_14 (by decide) ao_52 rfl (fun g2 => ?_)
    refine ev_aload0 16 d_AL_add3_15 rfl ?_
    refine ev_iload3 17 d_AL_add3_16 rfl ?_
    refine ev_iconst 18 d_AL_add3_17 rfl ?_
    refine ev_iadd 19 d_AL_add3_18 rfl ?_
    refine ev_pI 22 d_AL_add3_19 fw_AL_add_48 rfl rfl (fun g3 => ?_)
    exact ev_return d_AL_add3_22 rfl
  refine ev_iload3 1 d_AL_add3_0 rfl ?_
  refine ev_aload2 2 d_AL_add3_1 rfl ?_
  refine ev_alen (t := 52) 3 d_AL_add3_2 (by decide) rfl (fun z4 => ?_)
  refine ev_icmp_ne 11 6 d_AL_add3_3 (by decide) rfl ?_ ?_
  · exact ev_wk (hJ11 _ _ _ _ h) (ev_subS (ev_subS (ev_subS (ev_subS ev_sub0))))
  · refine ev_aload0 7 d_AL_add3_6 rfl ?_
    refine ev_cv0R (kk := 0) 10 d_AL_add3_7 cv_AL_129 (by decide) (by decide)  ev_sm0 (by decide) rfl (t_AL_grow0 _ h) (fun q6 g5 => ?_)
    refine ev_astore2 11 d_AL_add3_10 (by decide) rfl ?_
    exact ev_wk (hJ11 _ _ _ _ g5) (ev_subS (ev_subS (ev_subS (ev_subS ev_sub0))))
theorem t_AL_add1 {E : ev_E} (x0 : Option Nat) (x1 : Option Nat) (h : ev_hs) : EvO E M_AL_add1 7 cvI 0 [some (va_rf x0), some (va_rf x1)] [] h (f_AL_add1 x0 x1 h) := by
  unfold f_AL_add1
  refine ev_aload0 1 d_AL_add1_0 rfl ?_
  refine ev_dup 2 d_AL_add1_1 (va_rf_cat _) rfl ?_
  refine ev_gI 5 d_AL_add1_2 fl_AL_63 rfl rfl (fun z1 => ?_)
  refine ev_iconst 6 d_AL_add1_5 rfl ?_
  refine ev_iadd 7 d_AL_add1_6 rfl ?_
  refine ev_pI 10 d_AL_add1_7 fw_AL_add_63 rfl rfl (fun g2 => ?_)
  refine ev_aload0 11 d_AL_add1_10 rfl ?_
  refine ev_aload1 12 d_AL_add1_11 rfl ?_
  refine ev_aload0 13 d_AL_add1_12 rfl ?_
  refine ev_gR 16 d_AL_add1_13 fl_AL_9 rfl rfl (fun q3 => ?_)
  refine ev_aload0 17 d_AL_add1_16 rfl ?_
  refine ev_gI 20 d_AL_add1_17 fl_AL_48 rfl rfl (fun z4 => ?_)
  refine ev_cv3V (kk := 0) 23 d_AL_add1_20 cv_AL_131 (by decide) (by decide) (va_rf_cat _) (va_rf_cat _) rfl ev_sm0 (by decide) rfl (t_AL_add3 _ _ _ _ g2) (fun g5 => ?_)
  refine ev_iconst 24 d_AL_add1_23 rfl ?_
  exact ev_zreturn d_AL_add1_24 rfl
theorem t_Me_leaveMesh {E : ev_E} (x0 : Option Nat) (x1 : Option Nat) (x2 : Option Nat) (h : ev_hs) : EvO E M_Me_leaveMesh 8 cvV 0 [some (va_rf x0), some (va_rf x1), some (va_rf x2)] [] h (f_Me_leaveMesh x0 x1 x2 h) := by
  unfold f_Me_leaveMesh
  refine ev_aload1 1 d_Me_leaveMesh_0 rfl ?_
  refine ev_gI 4 d_Me_leaveMesh_1 fl_Me_106 rfl rfl (fun z1 => ?_)
  refine ev_if_eq 29 7 d_Me_leaveMesh_4 (by decide) rfl ?_ ?_
  · exact ev_return d_Me_leaveMesh_29 rfl
  · refine ev_aload2 8 d_Me_leaveMesh_7 rfl ?_
    refine ev_gR 11 d_Me_leaveMesh_8 fl_Me_110 rfl rfl (fun q2 => ?_)
    refine ev_aload1 12 d_Me_leaveMesh_11 rfl ?_
    refine ev_gR 15 d_Me_leaveMesh_12 fl_Me_113 rfl rfl (fun q3 => ?_)
    refine ev_cv1I (kk := 0) 18 d_Me_leaveMesh_15 cv_Me_41 (by decide) (by decide) (va_rf_cat _) ev_sm0 (by decide) rfl (t_AL_add1 _ _ h) (fun z5 g4 => ?_)
    refine ev_pop 19 d_Me_leaveMesh_18 rfl rfl ?_
    refine ev_aload0 20 d_Me_leaveMesh_19 rfl ?_
    refine ev_dup 21 d_Me_leaveMesh_20 (va_rf_cat _) rfl ?_
    refine ev_gI 24 d_Me_leaveMesh_21 fl_Me_54 rfl rfl (fun z6 => ?_)
    refine ev_iconst 25 d_Me_leaveMesh_24 rfl ?_
    refine ev_iadd 26 d_Me_leaveMesh_25 rfl ?_
    refine ev_pI 29 d_Me_leaveMesh_26 fw_Me_leaveMesh_54 rfl rfl (fun g7 => ?_)
    exact ev_return d_Me_leaveMesh_29 rfl
theorem t_Me_bufferBeyond {E : ev_E} (x0 : Option Nat) (x1 : Int) (x2 : Int) (x3 : Int) (h : ev_hs) : EvO E M_Me_bufferBeyond 2 cvR 0 [some (va_rf x0), some (eI x1), some (eI x2), some (eI x3)] [] h (f_Me_bufferBeyond x0 x1 x2 x3 h) := by
  unfold f_Me_bufferBeyond
  refine ev_iload2 1 d_Me_bufferBeyond_0 rfl ?_
  refine ev_peel (fun ee1 => ?_) (fun ne1 oe1 => ?_)
  · refine ev_tsIn 32 d_Me_bufferBeyond_1 ee1 (by decide) (by decide) (by decide) rfl (by decide) ?_
    refine ev_jn (fun J => ∀ (u2_s0 : Option Nat) (u2_h : ev_hs), EvO E M_Me_bufferBeyond 2 cvR 54 [none, none, none, none] [va_rf u2_s0] u2_h (J u2_s0 u2_h)) ?_ (fun J54 hJ54 => ?_)
    · intro u2_s0 u2_h
      exact ev_areturn d_Me_bufferBeyond_54 rfl (Or.inl ⟨_, rfl⟩)
    refine ev_iload1 33 d_Me_bufferBeyond_32 rfl ?_
    refine ev_iconst 34 d_Me_bufferBeyond_33 rfl ?_
    refine ev_icmp_ge 41 37 d_Me_bufferBeyond_34 (by decide) rfl ?_ ?_
    · refine ev_aload0 42 d_Me_bufferBeyond_41 rfl ?_
      refine ev_iload1 43 d_Me_bufferBeyond_42 rfl ?_
      refine ev_iconst 44 d_Me_bufferBeyond_43 rfl ?_
      refine ev_isub 45 d_Me_bufferBeyond_44 rfl ?_
      refine ev_iload3 46 d_Me_bufferBeyond_45 rfl ?_
      refine ev_cv2R (kk := 0) 49 d_Me_bufferBeyond_46 cv_Me_33 (by decide) (by decide) rfl rfl ev_sm0 (by decide) rfl (t_Me_laneOf _ _ _ h) (fun q4 g3 => ?_)
      refine ev_gR 52 d_Me_bufferBeyond_49 fl_Me_69 rfl rfl (fun q5 => ?_)
      refine ev_iconst 53 d_Me_bufferBeyond_52 rfl ?_
      refine ev_aaload (t := 56) 54 d_Me_bufferBeyond_53 (by decide) ⟨_, rfl⟩ rfl (fun q6 => ?_)
      exact ev_wk (hJ54 _ g3) (ev_subN (ev_subN (ev_subN (ev_subN ev_sub0))))
    · refine ev_null 38 d_Me_bufferBeyond_37 rfl ?_
      refine ev_goto 54 d_Me_bufferBeyond_38 (by decide) ?_
      exact ev_wk (hJ54 _ h) (ev_subN (ev_subN (ev_subN (ev_subN ev_sub0))))
  refine ev_peel (fun ee7 => ?_) (fun ne7 oe7 => ?_)
  · refine ev_tsIn 55 d_Me_bufferBeyond_1 ee7 (by decide) (by decide) (by decide) rfl (by decide) ?_
    refine ev_jn (fun J => ∀ (u8_s0 : Option Nat) (u8_h : ev_hs), EvO E M_Me_bufferBeyond 2 cvR 79 [none, none, none, none] [va_rf u8_s0] u8_h (J u8_s0 u8_h)) ?_ (fun J79 hJ79 => ?_)
    · intro u8_s0 u8_h
      exact ev_areturn d_Me_bufferBeyond_79 rfl (Or.inl ⟨_, rfl⟩)
    refine ev_iload1 56 d_Me_bufferBeyond_55 rfl ?_
    refine ev_iconst 57 d_Me_bufferBeyond_56 rfl ?_
    refine ev_irem 58 d_Me_bufferBeyond_57 rfl (fun z9 => ?_)
    refine ev_iconst 59 d_Me_bufferBeyond_58 rfl ?_
    refine ev_icmp_ne 66 62 d_Me_bufferBeyond_59 (by decide) rfl ?_ ?_
    · refine ev_aload0 67 d_Me_bufferBeyond_66 rfl ?_
      refine ev_iload1 68 d_Me_bufferBeyond_67 rfl ?_
      refine ev_iconst 69 d_Me_bufferBeyond_68 rfl ?_
      refine ev_iadd 70 d_Me_bufferBeyond_69 rfl ?_
      refine ev_iload3 71 d_Me_bufferBeyond_70 rfl ?_
      refine ev_cv2R (kk := 0) 74 d_Me_bufferBeyond_71 cv_Me_33 (by decide) (by decide) rfl rfl ev_sm0 (by decide) rfl (t_Me_laneOf _ _ _ h) (fun q11 g10 => ?_)
      refine ev_gR 77 d_Me_bufferBeyond_74 fl_Me_69 rfl rfl (fun q12 => ?_)
      refine ev_iconst 78 d_Me_bufferBeyond_77 rfl ?_
      refine ev_aaload (t := 56) 79 d_Me_bufferBeyond_78 (by decide) ⟨_, rfl⟩ rfl (fun q13 => ?_)
      exact ev_wk (hJ79 _ g10) (ev_subN (ev_subN (ev_subN (ev_subN ev_sub0))))
    · refine ev_null 63 d_Me_bufferBeyond_62 rfl ?_
      refine ev_goto 79 d_Me_bufferBeyond_63 (by decide) ?_
      exact ev_wk (hJ79 _ h) (ev_subN (ev_subN (ev_subN (ev_subN ev_sub0))))
  refine ev_peel (fun ee14 => ?_) (fun ne14 oe14 => ?_)
  · refine ev_tsIn 80 d_Me_bufferBeyond_1 ee14 (by decide) (by decide) (by decide) rfl (by decide) ?_
    refine ev_jn (fun J => ∀ (u15_s0 : Option Nat) (u15_h : ev_hs), EvO E M_Me_bufferBeyond 2 cvR 105 [none, none, none, none] [va_rf u15_s0] u15_h (J u15_s0 u15_h)) ?_ (fun J105 hJ105 => ?_)
    · intro u15_s0 u15_h
      exact ev_areturn d_Me_bufferBeyond_105 rfl (Or.inl ⟨_, rfl⟩)
    refine ev_iload1 81 d_Me_bufferBeyond_80 rfl ?_
    refine ev_iconst 82 d_Me_bufferBeyond_81 rfl ?_
    refine ev_iadd 83 d_Me_bufferBeyond_82 rfl ?_
    refine ev_bipush 85 d_Me_bufferBeyond_83 (by decide) rfl ?_
    refine ev_icmp_lt 92 88 d_Me_bufferBeyond_85 (by decide) rfl ?_ ?_
    · refine ev_aload0 93 d_Me_bufferBeyond_92 rfl ?_
      refine ev_iload1 94 d_Me_bufferBeyond_93 rfl ?_
      refine ev_iconst 95 d_Me_bufferBeyond_94 rfl ?_
      refine ev_iadd 96 d_Me_bufferBeyond_95 rfl ?_
      refine ev_iload3 97 d_Me_bufferBeyond_96 rfl ?_
      refine ev_cv2R (kk := 0) 100 d_Me_bufferBeyond_97 cv_Me_33 (by decide) (by decide) rfl rfl ev_sm0 (by decide) rfl (t_Me_laneOf _ _ _ h) (fun q17 g16 => ?_)
      refine ev_gR 103 d_Me_bufferBeyond_100 fl_Me_69 rfl rfl (fun q18 => ?_)
      refine ev_iconst 104 d_Me_bufferBeyond_103 rfl ?_
      refine ev_aaload (t := 56) 105 d_Me_bufferBeyond_104 (by decide) ⟨_, rfl⟩ rfl (fun q19 => ?_)
      exact ev_wk (hJ105 _ g16) (ev_subN (ev_subN (ev_subN (ev_subN ev_sub0))))
    · refine ev_null 89 d_Me_bufferBeyond_88 rfl ?_
      refine ev_goto 105 d_Me_bufferBeyond_89 (by decide) ?_
      exact ev_wk (hJ105 _ h) (ev_subN (ev_subN (ev_subN (ev_subN ev_sub0))))
  refine ev_peel (fun ee20 => ?_) (fun ne20 oe20 => ?_)
  · refine ev_tsIn 106 d_Me_bufferBeyond_1 ee20 (by decide) (by decide) (by decide) rfl (by decide) ?_
    refine ev_jn (fun J => ∀ (u21_s0 : Option Nat) (u21_h : ev_hs), EvO E M_Me_bufferBeyond 2 cvR 129 [none, none, none, none] [va_rf u21_s0] u21_h (J u21_s0 u21_h)) ?_ (fun J129 hJ129 => ?_)
    · intro u21_s0 u21_h
      exact ev_areturn d_Me_bufferBeyond_129 rfl (Or.inl ⟨_, rfl⟩)
    refine ev_iload1 107 d_Me_bufferBeyond_106 rfl ?_
    refine ev_iconst 108 d_Me_bufferBeyond_107 rfl ?_
    refine ev_irem 109 d_Me_bufferBeyond_108 rfl (fun z22 => ?_)
    refine ev_if_ne 116 112 d_Me_bufferBeyond_109 (by decide) rfl ?_ ?_
    · refine ev_aload0 117 d_Me_bufferBeyond_116 rfl ?_
      refine ev_iload1 118 d_Me_bufferBeyond_117 rfl ?_
      refine ev_iconst 119 d_Me_bufferBeyond_118 rfl ?_
      refine ev_isub 120 d_Me_bufferBeyond_119 rfl ?_
      refine ev_iload3 121 d_Me_bufferBeyond_120 rfl ?_
      refine ev_cv2R (kk := 0) 124 d_Me_bufferBeyond_121 cv_Me_33 (by decide) (by decide) rfl rfl ev_sm0 (by decide) rfl (t_Me_laneOf _ _ _ h) (fun q24 g23 => ?_)
      refine ev_gR 127 d_Me_bufferBeyond_124 fl_Me_69 rfl rfl (fun q25 => ?_)
      refine ev_iconst 128 d_Me_bufferBeyond_127 rfl ?_
      refine ev_aaload (t := 56) 129 d_Me_bufferBeyond_128 (by decide) ⟨_, rfl⟩ rfl (fun q26 => ?_)
      exact ev_wk (hJ129 _ g23) (ev_subN (ev_subN (ev_subN (ev_subN ev_sub0))))
    · refine ev_null 113 d_Me_bufferBeyond_112 rfl ?_
      refine ev_goto 129 d_Me_bufferBeyond_113 (by decide) ?_
      exact ev_wk (hJ129 _ h) (ev_subN (ev_subN (ev_subN (ev_subN ev_sub0))))
  refine ev_tsOut 130 d_Me_bufferBeyond_1 oe20 (by omega) (by decide) ?_
  refine ev_null 131 d_Me_bufferBeyond_130 rfl ?_
  exact ev_areturn d_Me_bufferBeyond_131 rfl (Or.inl ⟨_, rfl⟩)
theorem t_FB_dropFront_10 {E : ev_E} : ∀ (fu : Nat) (x0 : Option Nat) (x1 : Int) (h : ev_hs) (K38 : Option Nat → ev_hs → Option (ev_hs)) (hK38 : ∀ (w0 : Option Nat) (wh : ev_hs), EvO E M_FB_dropFront 1 cvV 38 [some (va_rf w0), none] [] wh (K38 w0 wh)) , EvO E M_FB_dropFront 1 cvV 10 [some (va_rf x0), some (eI x1)] [] h (f_FB_dropFront_10 fu x0 x1 h K38) := by
  intro fu
  induction fu with
  | zero => intros; exact ev_no
  | succ fu ih =>
    intro x0 x1 h K38 hK38
    rw [f_FB_dropFront_10]
    refine ev_iload1 11 d_FB_dropFront_10 rfl ?_
    refine ev_aload0 12 d_FB_dropFront_11 rfl ?_
    refine ev_gI 15 d_FB_dropFront_12 fl_FB_15 rfl rfl (fun z2 => ?_)
    refine ev_icmp_ge 38 18 d_FB_dropFront_15 (by decide) rfl ?_ ?_
    · exact ev_wk (hK38 _ h) (ev_subS (ev_subN ev_sub0))
    · refine ev_aload0 19 d_FB_dropFront_18 rfl ?_
      refine ev_gR 22 d_FB_dropFront_19 fl_FB_9 rfl rfl (fun q3 => ?_)
      refine ev_iload1 23 d_FB_dropFront_22 rfl ?_
      refine ev_iconst 24 d_FB_dropFront_23 rfl ?_
      refine ev_isub 25 d_FB_dropFront_24 rfl ?_
      refine ev_aload0 26 d_FB_dropFront_25 rfl ?_
      refine ev_gR 29 d_FB_dropFront_26 fl_FB_9 rfl rfl (fun q4 => ?_)
      refine ev_iload1 30 d_FB_dropFront_29 rfl ?_
      refine ev_aaload (t := 57) 31 d_FB_dropFront_30 (by decide) ⟨_, rfl⟩ rfl (fun q5 => ?_)
      refine ev_aastore (t := 57) 32 d_FB_dropFront_31 (by decide) ao_57 rfl (fun g6 => ?_)
      refine ev_iinc1 35 d_FB_dropFront_32 (by decide) rfl ?_
      refine ev_goto 10 d_FB_dropFront_35 (by decide) ?_
      exact ev_wk (ih _ _ g6 _ hK38) (ev_subS (ev_subS ev_sub0))
theorem t_FB_dropFront {E : ev_E} (x0 : Option Nat) (h : ev_hs) : EvO E M_FB_dropFront 1 cvV 0 [some (va_rf x0), none] [] h (f_FB_dropFront x0 h) := by
  unfold f_FB_dropFront
  refine ev_aload0 1 d_FB_dropFront_0 rfl ?_
  refine ev_gI 4 d_FB_dropFront_1 fl_FB_15 rfl rfl (fun z1 => ?_)
  refine ev_if_ne 8 7 d_FB_dropFront_4 (by decide) rfl ?_ ?_
  · refine ev_iconst 9 d_FB_dropFront_8 rfl ?_
    refine ev_istore1 10 d_FB_dropFront_9 (by decide) rfl ?_
    refine ev_wk (t_FB_dropFront_10 FU _ _ h _ ?_) (ev_subS (ev_subS ev_sub0))
    intro y7_0 y7_h
    refine ev_aload0 39 d_FB_dropFront_38 rfl ?_
    refine ev_dup 40 d_FB_dropFront_39 (va_rf_cat _) rfl ?_
    refine ev_gI 43 d_FB_dropFront_40 fl_FB_15 rfl rfl (fun z8 => ?_)
    refine ev_iconst 44 d_FB_dropFront_43 rfl ?_
    refine ev_isub 45 d_FB_dropFront_44 rfl ?_
    refine ev_pI 48 d_FB_dropFront_45 fw_FB_dropFront_15 rfl rfl (fun g9 => ?_)
    refine ev_aload0 49 d_FB_dropFront_48 rfl ?_
    refine ev_gR 52 d_FB_dropFront_49 fl_FB_9 rfl rfl (fun q10 => ?_)
    refine ev_aload0 53 d_FB_dropFront_52 rfl ?_
    refine ev_gI 56 d_FB_dropFront_53 fl_FB_15 rfl rfl (fun z11 => ?_)
    refine ev_null 57 d_FB_dropFront_56 rfl ?_
    refine ev_aastore (t := 57) 58 d_FB_dropFront_57 (by decide) ao_57 rfl (fun g12 => ?_)
    exact ev_return d_FB_dropFront_58 rfl
  · exact ev_return d_FB_dropFront_7 rfl
theorem t_La_dropFront {E : ev_E} (x0 : Option Nat) (x1 : Int) (x2 : Int) (h : ev_hs) : EvO E M_La_dropFront 2 cvV 0 [some (va_rf x0), some (eI x1), some (eI x2), none] [] h (f_La_dropFront x0 x1 x2 h) := by
  unfold f_La_dropFront
  refine ev_aload0 1 d_La_dropFront_0 rfl ?_
  refine ev_gR 4 d_La_dropFront_1 fl_La_23 rfl rfl (fun q1 => ?_)
  refine ev_iload1 5 d_La_dropFront_4 rfl ?_
  refine ev_aaload (t := 56) 6 d_La_dropFront_5 (by decide) ⟨_, rfl⟩ rfl (fun q2 => ?_)
  refine ev_cv0R (kk := 0) 9 d_La_dropFront_6 cv_La_73 (by decide) (by decide)  ev_sm0 (by decide) rfl (t_FB_front _ h) (fun q4 g3 => ?_)
  refine ev_astore3 10 d_La_dropFront_9 (by decide) rfl ?_
  refine ev_aload3 11 d_La_dropFront_10 rfl ?_
  refine ev_ifnull 48 14 d_La_dropFront_11 (by decide) rfl ?_ ?_
  · exact ev_return d_La_dropFront_48 rfl
  · refine ev_jn (fun J => ∀ (u5_s0 : Option Nat) (u5_s1 : Int) (u5_s2 : Int) (u5_h : ev_hs), EvO E M_La_dropFront 2 cvV 47 [none, none, none, none] [eI u5_s2, eI u5_s1, va_rf u5_s0] u5_h (J u5_s0 u5_s1 u5_s2 u5_h)) ?_ (fun J47 hJ47 => ?_)
    · intro u5_s0 u5_s1 u5_s2 u5_h
      refine ev_iastore 48 d_La_dropFront_47 rfl (fun g6 => ?_)
      exact ev_return d_La_dropFront_48 rfl
    refine ev_aload0 15 d_La_dropFront_14 rfl ?_
    refine ev_gR 18 d_La_dropFront_15 fl_La_23 rfl rfl (fun q7 => ?_)
    refine ev_iload1 19 d_La_dropFront_18 rfl ?_
    refine ev_aaload (t := 56) 20 d_La_dropFront_19 (by decide) ⟨_, rfl⟩ rfl (fun q8 => ?_)
    refine ev_cv0V (kk := 1) 23 d_La_dropFront_20 cv_La_91 (by decide) (by decide)  ev_sm0 (by decide) rfl (t_FB_dropFront _ g3) (fun g9 => ?_)
    refine ev_aload0 24 d_La_dropFront_23 rfl ?_
    refine ev_gR 27 d_La_dropFront_24 fl_La_31 rfl rfl (fun q10 => ?_)
    refine ev_iload2 28 d_La_dropFront_27 rfl ?_
    refine ev_iload1 29 d_La_dropFront_28 rfl ?_
    refine ev_iastore 30 d_La_dropFront_29 rfl (fun g11 => ?_)
    refine ev_aload0 31 d_La_dropFront_30 rfl ?_
    refine ev_gR 34 d_La_dropFront_31 fl_La_27 rfl rfl (fun q12 => ?_)
    refine ev_iload2 35 d_La_dropFront_34 rfl ?_
    refine ev_aload3 36 d_La_dropFront_35 rfl ?_
    refine ev_gI 39 d_La_dropFront_36 fl_La_66 rfl rfl (fun z13 => ?_)
    refine ev_if_eq 46 42 d_La_dropFront_39 (by decide) rfl ?_ ?_
    · refine ev_iload1 47 d_La_dropFront_46 rfl ?_
      exact ev_wk (hJ47 _ _ _ g11) (ev_subN (ev_subN (ev_subN (ev_subN ev_sub0))))
    · refine ev_iconst 43 d_La_dropFront_42 rfl ?_
      refine ev_goto 47 d_La_dropFront_43 (by decide) ?_
      exact ev_wk (hJ47 _ _ _ g11) (ev_subN (ev_subN (ev_subN (ev_subN ev_sub0))))
theorem t_Me_moveFlitOf {E : ev_E} (x0 : Option Nat) (x1 : Int) (x2 : Int) (x3 : Int) (x4 : Int) (h : ev_hs) : EvO E M_Me_moveFlitOf 9 cvI 0 [some (va_rf x0), some (eI x1), some (eI x2), some (eI x3), some (eI x4), none, none, none, none] [] h (f_Me_moveFlitOf x0 x1 x2 x3 x4 h) := by
  unfold f_Me_moveFlitOf
  refine ev_aload0 1 d_Me_moveFlitOf_0 rfl ?_
  refine ev_iload1 2 d_Me_moveFlitOf_1 rfl ?_
  refine ev_iload3 3 d_Me_moveFlitOf_2 rfl ?_
  refine ev_cv2R (kk := 0) 6 d_Me_moveFlitOf_3 cv_Me_33 (by decide) (by decide) rfl rfl ev_sm0 (by decide) rfl (t_Me_laneOf _ _ _ h) (fun q2 g1 => ?_)
  refine ev_astore5 8 d_Me_moveFlitOf_6 (by decide) rfl ?_
  refine ev_aload5 10 d_Me_moveFlitOf_8 rfl ?_
  refine ev_iload2 11 d_Me_moveFlitOf_10 rfl ?_
  refine ev_cv1I (kk := 3) 14 d_Me_moveFlitOf_11 cv_Me_65 (by decide) (by decide) rfl ev_sm0 (by decide) rfl (t_La_portFor _ _ g1) (fun z4 g3 => ?_)
  refine ev_istore6 16 d_Me_moveFlitOf_14 (by decide) rfl ?_
  refine ev_iload6 18 d_Me_moveFlitOf_16 rfl ?_
  refine ev_iconst 19 d_Me_moveFlitOf_18 rfl ?_
  refine ev_icmp_ne 24 22 d_Me_moveFlitOf_19 (by decide) rfl ?_ ?_
  · refine ev_jn (fun J => ∀ (u5_h : ev_hs), EvO E M_Me_moveFlitOf 9 cvI 52 [none, none, none, none, none, none, none, none, none] [] u5_h (J u5_h)) ?_ (fun J52 hJ52 => ?_)
    · intro u5_h
      refine ev_iconst 53 d_Me_moveFlitOf_52 rfl ?_
      exact ev_zreturn d_Me_moveFlitOf_53 rfl
    refine ev_aload5 26 d_Me_moveFlitOf_24 rfl ?_
    refine ev_gR 29 d_Me_moveFlitOf_26 fl_Me_69 rfl rfl (fun q6 => ?_)
    refine ev_iload6 31 d_Me_moveFlitOf_29 rfl ?_
    refine ev_aaload (t := 56) 32 d_Me_moveFlitOf_31 (by decide) ⟨_, rfl⟩ rfl (fun q7 => ?_)
    refine ev_cv0R (kk := 0) 35 d_Me_moveFlitOf_32 cv_Me_73 (by decide) (by decide)  ev_sm0 (by decide) rfl (t_FB_front _ g3) (fun q9 g8 => ?_)
    refine ev_astore7 37 d_Me_moveFlitOf_35 (by decide) rfl ?_
    refine ev_aload7 39 d_Me_moveFlitOf_37 rfl ?_
    refine ev_ifnull 52 42 d_Me_moveFlitOf_39 (by decide) rfl ?_ ?_
    · exact ev_wk (hJ52 g8) (ev_subN (ev_subN (ev_subN (ev_subN (ev_subN (ev_subN (ev_subN (ev_subN (ev_subN ev_sub0)))))))))
    · refine ev_aload7 44 d_Me_moveFlitOf_42 rfl ?_
      refine ev_gI 47 d_Me_moveFlitOf_44 fl_Me_79 rfl rfl (fun z10 => ?_)
      refine ev_iload4 49 d_Me_moveFlitOf_47 rfl ?_
      refine ev_icmp_ne 54 52 d_Me_moveFlitOf_49 (by decide) rfl ?_ ?_
      · refine ev_jn (fun J => ∀ (u11_2 : Int) (u11_5 : Option Nat) (u11_6 : Int) (u11_h : ev_hs), EvO E M_Me_moveFlitOf 9 cvI 113 [none, none, some (eI u11_2), none, none, some (va_rf u11_5), some (eI u11_6), none, none] [] u11_h (J u11_2 u11_5 u11_6 u11_h)) ?_ (fun J113 hJ113 => ?_)
        · intro u11_2 u11_5 u11_6 u11_h
          refine ev_aload5 115 d_Me_moveFlitOf_113 rfl ?_
          refine ev_iload6 117 d_Me_moveFlitOf_115 rfl ?_
          refine ev_iload2 118 d_Me_moveFlitOf_117 rfl ?_
          refine ev_cv2V (kk := 1) 121 d_Me_moveFlitOf_118 cv_Me_103 (by decide) (by decide) rfl rfl ev_sm0 (by decide) rfl (t_La_dropFront _ _ _ u11_h) (fun g12 => ?_)
          refine ev_iconst 122 d_Me_moveFlitOf_121 rfl ?_
          exact ev_zreturn d_Me_moveFlitOf_122 rfl
        refine ev_iload2 55 d_Me_moveFlitOf_54 rfl ?_
        refine ev_iconst 56 d_Me_moveFlitOf_55 rfl ?_
        refine ev_icmp_ne 70 59 d_Me_moveFlitOf_56 (by decide) rfl ?_ ?_
        · refine ev_jn (fun J => ∀ (u13_h : ev_hs), EvO E M_Me_moveFlitOf 9 cvI 92 [none, none, none, none, none, none, none, none, none] [] u13_h (J u13_h)) ?_ (fun J92 hJ92 => ?_)
          · intro u13_h
            refine ev_iconst 93 d_Me_moveFlitOf_92 rfl ?_
            exact ev_zreturn d_Me_moveFlitOf_93 rfl
          refine ev_aload0 71 d_Me_moveFlitOf_70 rfl ?_
          refine ev_iload1 72 d_Me_moveFlitOf_71 rfl ?_
          refine ev_iload2 73 d_Me_moveFlitOf_72 rfl ?_
          refine ev_iload3 74 d_Me_moveFlitOf_73 rfl ?_
          refine ev_cv3R (kk := 0) 77 d_Me_moveFlitOf_74 cv_Me_88 (by decide) (by decide) rfl rfl rfl ev_sm0 (by decide) rfl (t_Me_bufferBeyond _ _ _ _ g8) (fun q15 g14 => ?_)
          refine ev_astore8 79 d_Me_moveFlitOf_77 (by decide) rfl ?_
          refine ev_aload8 81 d_Me_moveFlitOf_79 rfl ?_
          refine ev_ifnull 92 84 d_Me_moveFlitOf_81 (by decide) rfl ?_ ?_
          · exact ev_wk (hJ92 g14) (ev_subN (ev_subN (ev_subN (ev_subN (ev_subN (ev_subN (ev_subN (ev_subN (ev_subN ev_sub0)))))))))
          · refine ev_aload8 86 d_Me_moveFlitOf_84 rfl ?_
            refine ev_cv0I (kk := 0) 89 d_Me_moveFlitOf_86 cv_Me_92 (by decide) (by decide)  ev_sm0 (by decide) rfl (t_FB_hasRoom _ g14) (fun z17 g16 => ?_)
            refine ev_if_ne 94 92 d_Me_moveFlitOf_89 (by decide) rfl ?_ ?_
            · refine ev_aload8 96 d_Me_moveFlitOf_94 rfl ?_
              refine ev_aload7 98 d_Me_moveFlitOf_96 rfl ?_
              refine ev_iload4 100 d_Me_moveFlitOf_98 rfl ?_
              refine ev_cv2V (kk := 0) 103 d_Me_moveFlitOf_100 cv_Me_96 (by decide) (by decide) (va_rf_cat _) rfl ev_sm0 (by decide) rfl (t_FB_put _ _ _ g16) (fun g18 => ?_)
              refine ev_aload0 104 d_Me_moveFlitOf_103 rfl ?_
              refine ev_dup 105 d_Me_moveFlitOf_104 (va_rf_cat _) rfl ?_
              refine ev_gI 108 d_Me_moveFlitOf_105 fl_Me_100 rfl rfl (fun z19 => ?_)
              refine ev_iconst 109 d_Me_moveFlitOf_108 rfl ?_
              refine ev_iadd 110 d_Me_moveFlitOf_109 rfl ?_
              refine ev_pI 113 d_Me_moveFlitOf_110 fw_Me_moveFlitOf_100 rfl rfl (fun g20 => ?_)
              exact ev_wk (hJ113 _ _ _ g20) (ev_subN (ev_subN (ev_subS (ev_subN (ev_subN (ev_subS (ev_subS (ev_subN (ev_subN ev_sub0)))))))))
            · exact ev_wk (hJ92 g16) (ev_subN (ev_subN (ev_subN (ev_subN (ev_subN (ev_subN (ev_subN (ev_subN (ev_subN ev_sub0)))))))))
        · refine ev_aload0 60 d_Me_moveFlitOf_59 rfl ?_
          refine ev_aload7 62 d_Me_moveFlitOf_60 rfl ?_
          refine ev_aload5 64 d_Me_moveFlitOf_62 rfl ?_
          refine ev_cv2V (kk := 0) 67 d_Me_moveFlitOf_64 cv_Me_84 (by decide) (by decide) (va_rf_cat _) (va_rf_cat _) ev_sm0 (by decide) rfl (t_Me_leaveMesh _ _ _ g8) (fun g21 => ?_)
          refine ev_goto 113 d_Me_moveFlitOf_67 (by decide) ?_
          exact ev_wk (hJ113 _ _ _ g21) (ev_subN (ev_subN (ev_subS (ev_subN (ev_subN (ev_subS (ev_subS (ev_subN (ev_subN ev_sub0)))))))))
      · exact ev_wk (hJ52 g8) (ev_subN (ev_subN (ev_subN (ev_subN (ev_subN (ev_subN (ev_subN (ev_subN (ev_subN ev_sub0)))))))))
  · refine ev_iconst 23 d_Me_moveFlitOf_22 rfl ?_
    exact ev_zreturn d_Me_moveFlitOf_23 rfl
theorem t_Me_moveOneFlit_6 {E : ev_E} : ∀ (fu : Nat) (x0 : Option Nat) (x1 : Int) (x2 : Int) (x3 : Int) (x4 : Int) (x5 : Int) (h : ev_hs), EvO E M_Me_moveOneFlit 10 cvV 6 [some (va_rf x0), some (eI x1), some (eI x2), some (eI x3), some (eI x4), some (eI x5)] [] h (f_Me_moveOneFlit_6 fu x0 x1 x2 x3 x4 x5 h) := by
  intro fu
  induction fu with
  | zero => intros; exact ev_no
  | succ fu ih =>
    intro x0 x1 x2 x3 x4 x5 h
    rw [f_Me_moveOneFlit_6]
    refine ev_iload5 8 d_Me_moveOneFlit_6 rfl ?_
    refine ev_if_lt 33 11 d_Me_moveOneFlit_8 (by decide) rfl ?_ ?_
    · exact ev_return d_Me_moveOneFlit_33 rfl
    · refine ev_iload4 13 d_Me_moveOneFlit_11 rfl ?_
      refine ev_if_ne 33 16 d_Me_moveOneFlit_13 (by decide) rfl ?_ ?_
      · exact ev_return d_Me_moveOneFlit_33 rfl
      · refine ev_aload0 17 d_Me_moveOneFlit_16 rfl ?_
        refine ev_iload1 18 d_Me_moveOneFlit_17 rfl ?_
        refine ev_iload2 19 d_Me_moveOneFlit_18 rfl ?_
        refine ev_iload5 21 d_Me_moveOneFlit_19 rfl ?_
        refine ev_iload3 22 d_Me_moveOneFlit_21 rfl ?_
        refine ev_cv4I (kk := 4) 25 d_Me_moveOneFlit_22 cv_Me_61 (by decide) (by decide) rfl rfl rfl rfl ev_sm0 (by decide) rfl (t_Me_moveFlitOf _ _ _ _ _ h) (fun z2 g1 => ?_)
        refine ev_istore4 27 d_Me_moveOneFlit_25 (by decide) rfl ?_
        refine ev_iinc5 30 d_Me_moveOneFlit_27 (by decide) rfl ?_
        refine ev_goto 6 d_Me_moveOneFlit_30 (by decide) ?_
        exact ev_wk (ih _ _ _ _ _ _ g1) (ev_subS (ev_subS (ev_subS (ev_subS (ev_subS (ev_subS ev_sub0))))))
theorem t_Me_moveOneFlit {E : ev_E} (x0 : Option Nat) (x1 : Int) (x2 : Int) (x3 : Int) (h : ev_hs) : EvO E M_Me_moveOneFlit 10 cvV 0 [some (va_rf x0), some (eI x1), some (eI x2), some (eI x3), none, none] [] h (f_Me_moveOneFlit x0 x1 x2 x3 h) := by
  unfold f_Me_moveOneFlit
  refine ev_iconst 1 d_Me_moveOneFlit_0 rfl ?_
  refine ev_istore4 3 d_Me_moveOneFlit_1 (by decide) rfl ?_
  refine ev_iconst 4 d_Me_moveOneFlit_3 rfl ?_
  refine ev_istore5 6 d_Me_moveOneFlit_4 (by decide) rfl ?_
  refine ev_wk (t_Me_moveOneFlit_6 FU _ _ _ _ _ _ h) (ev_subS (ev_subS (ev_subS (ev_subS (ev_subS (ev_subS ev_sub0))))))
theorem t_Me_moveFlits_22 {E : ev_E} : ∀ (fu : Nat) (x0 : Option Nat) (x1 : Int) (x2 : Int) (x3 : Int) (h : ev_hs) (K40 : Option Nat → Int → Int → ev_hs → Option (ev_hs)) (hK40 : ∀ (w0 : Option Nat) (w1 : Int) (w2 : Int) (wh : ev_hs), EvO E M_Me_moveFlits 11 cvV 40 [some (va_rf w0), some (eI w1), some (eI w2), none] [] wh (K40 w0 w1 w2 wh)) , EvO E M_Me_moveFlits 11 cvV 22 [some (va_rf x0), some (eI x1), some (eI x2), some (eI x3)] [] h (f_Me_moveFlits_22 fu x0 x1 x2 x3 h K40) := by
  intro fu
  induction fu with
  | zero => intros; exact ev_no
  | succ fu ih =>
    intro x0 x1 x2 x3 h K40 hK40
    rw [f_Me_moveFlits_22]
    refine ev_iload3 23 d_Me_moveFlits_22 rfl ?_
    refine ev_iconst 24 d_Me_moveFlits_23 rfl ?_
    refine ev_icmp_ge 40 27 d_Me_moveFlits_24 (by decide) rfl ?_ ?_
    · exact ev_wk (hK40 _ _ _ h) (ev_subS (ev_subS (ev_subS (ev_subN ev_sub0))))
    · refine ev_aload0 28 d_Me_moveFlits_27 rfl ?_
      refine ev_iload2 29 d_Me_moveFlits_28 rfl ?_
      refine ev_iload3 30 d_Me_moveFlits_29 rfl ?_
      refine ev_iload1 31 d_Me_moveFlits_30 rfl ?_
      refine ev_cv3V (kk := 2) 34 d_Me_moveFlits_31 cv_Me_57 (by decide) (by decide) rfl rfl rfl ev_sm0 (by decide) rfl (t_Me_moveOneFlit _ _ _ _ h) (fun g3 => ?_)
      refine ev_iinc3 37 d_Me_moveFlits_34 (by decide) rfl ?_
      refine ev_goto 22 d_Me_moveFlits_37 (by decide) ?_
      exact ev_wk (ih _ _ _ _ g3 _ hK40) (ev_subS (ev_subS (ev_subS (ev_subS ev_sub0))))
theorem t_Me_moveFlits_14 {E : ev_E} : ∀ (fu : Nat) (x0 : Option Nat) (x1 : Int) (x2 : Int) (h : ev_hs), EvO E M_Me_moveFlits 11 cvV 14 [some (va_rf x0), some (eI x1), some (eI x2), none] [] h (f_Me_moveFlits_14 fu x0 x1 x2 h) := by
  intro fu
  induction fu with
  | zero => intros; exact ev_no
  | succ fu ih =>
    intro x0 x1 x2 h
    rw [f_Me_moveFlits_14]
    refine ev_iload2 15 d_Me_moveFlits_14 rfl ?_
    refine ev_bipush 17 d_Me_moveFlits_15 (by decide) rfl ?_
    refine ev_icmp_ge 46 20 d_Me_moveFlits_17 (by decide) rfl ?_ ?_
    · exact ev_return d_Me_moveFlits_46 rfl
    · refine ev_iconst 21 d_Me_moveFlits_20 rfl ?_
      refine ev_istore3 22 d_Me_moveFlits_21 (by decide) rfl ?_
      refine ev_wk (t_Me_moveFlits_22 FU _ _ _ _ h _ ?_) (ev_subS (ev_subS (ev_subS (ev_subS ev_sub0))))
      intro y4_0 y4_1 y4_2 y4_h
      refine ev_iinc2 43 d_Me_moveFlits_40 (by decide) rfl ?_
      refine ev_goto 14 d_Me_moveFlits_43 (by decide) ?_
      exact ev_wk (ih _ _ _ y4_h) (ev_subS (ev_subS (ev_subS (ev_subN ev_sub0))))
theorem t_Me_moveFlits {E : ev_E} (x0 : Option Nat) (x1 : Int) (h : ev_hs) : EvO E M_Me_moveFlits 11 cvV 0 [some (va_rf x0), some (eI x1), none, none] [] h (f_Me_moveFlits x0 x1 h) := by
  unfold f_Me_moveFlits
  refine ev_aload0 1 d_Me_moveFlits_0 rfl ?_
  refine ev_gI 4 d_Me_moveFlits_1 fl_Me_47 rfl rfl (fun z1 => ?_)
  refine ev_aload0 5 d_Me_moveFlits_4 rfl ?_
  refine ev_gI 8 d_Me_moveFlits_5 fl_Me_54 rfl rfl (fun z2 => ?_)
  refine ev_icmp_ne 12 11 d_Me_moveFlits_8 (by decide) rfl ?_ ?_
  · refine ev_iconst 13 d_Me_moveFlits_12 rfl ?_
    refine ev_istore2 14 d_Me_moveFlits_13 (by decide) rfl ?_
    refine ev_wk (t_Me_moveFlits_14 FU _ _ _ h) (ev_subS (ev_subS (ev_subS (ev_subN ev_sub0))))
  · exact ev_return d_Me_moveFlits_11 rfl
theorem t_AL_size {E : ev_E} (x0 : Option Nat) (h : ev_hs) : EvO E M_AL_size 1 cvI 0 [some (va_rf x0)] [] h (f_AL_size x0 h) := by
  unfold f_AL_size
  refine ev_aload0 1 d_AL_size_0 rfl ?_
  refine ev_gI 4 d_AL_size_1 fl_AL_48 rfl rfl (fun z1 => ?_)
  exact ev_ireturn d_AL_size_4 rfl
theorem t_Pa_isForHome {E : ev_E} (x0 : Option Nat) (h : ev_hs) : EvO E M_Pa_isForHome 1 cvI 0 [some (va_rf x0)] [] h (f_Pa_isForHome x0 h) := by
  unfold f_Pa_isForHome
  refine ev_jn (fun J => ∀ (u1_s0 : Int) (u1_h : ev_hs), EvO E M_Pa_isForHome 1 cvI 22 [none] [eI u1_s0] u1_h (J u1_s0 u1_h)) ?_ (fun J22 hJ22 => ?_)
  · intro u1_s0 u1_h
    exact ev_zreturn d_Pa_isForHome_22 rfl
  refine ev_jn (fun J => ∀ (u2_h : ev_hs), EvO E M_Pa_isForHome 1 cvI 17 [none] [] u2_h (J u2_h)) ?_ (fun J17 hJ17 => ?_)
  · intro u2_h
    refine ev_iconst 18 d_Pa_isForHome_17 rfl ?_
    refine ev_goto 22 d_Pa_isForHome_18 (by decide) ?_
    exact ev_wk (hJ22 _ u2_h) (ev_subN ev_sub0)
  refine ev_aload0 1 d_Pa_isForHome_0 rfl ?_
  refine ev_gI 4 d_Pa_isForHome_1 fl_Pa_9 rfl rfl (fun z3 => ?_)
  refine ev_iconst 5 d_Pa_isForHome_4 rfl ?_
  refine ev_icmp_le 17 8 d_Pa_isForHome_5 (by decide) rfl ?_ ?_
  · exact ev_wk (hJ17 h) (ev_subN ev_sub0)
  · refine ev_aload0 9 d_Pa_isForHome_8 rfl ?_
    refine ev_gI 12 d_Pa_isForHome_9 fl_Pa_9 rfl rfl (fun z4 => ?_)
    refine ev_bipush 14 d_Pa_isForHome_12 (by decide) rfl ?_
    refine ev_icmp_ne 21 17 d_Pa_isForHome_14 (by decide) rfl ?_ ?_
    · refine ev_iconst 22 d_Pa_isForHome_21 rfl ?_
      exact ev_wk (hJ22 _ h) (ev_subN ev_sub0)
    · exact ev_wk (hJ17 h) (ev_subN ev_sub0)
theorem t_Ho_stalls {E : ev_E} (x0 : Option Nat) (x1 : Option Nat) (h : ev_hs) : EvO E M_Ho_stalls 1 cvI 0 [some (va_rf x0), some (va_rf x1)] [] h (f_Ho_stalls x0 x1 h) := by
  unfold f_Ho_stalls
  refine ev_jn (fun J => ∀ (u1_s0 : Int) (u1_h : ev_hs), EvO E M_Ho_stalls 1 cvI 28 [none, none] [eI u1_s0] u1_h (J u1_s0 u1_h)) ?_ (fun J28 hJ28 => ?_)
  · intro u1_s0 u1_h
    exact ev_zreturn d_Ho_stalls_28 rfl
  refine ev_jn (fun J => ∀ (u2_h : ev_hs), EvO E M_Ho_stalls 1 cvI 27 [none, none] [] u2_h (J u2_h)) ?_ (fun J27 hJ27 => ?_)
  · intro u2_h
    refine ev_iconst 28 d_Ho_stalls_27 rfl ?_
    exact ev_wk (hJ28 _ u2_h) (ev_subN (ev_subN ev_sub0))
  refine ev_aload0 1 d_Ho_stalls_0 rfl ?_
  refine ev_gI 4 d_Ho_stalls_1 fl_Ho_11 rfl rfl (fun z3 => ?_)
  refine ev_iconst 5 d_Ho_stalls_4 rfl ?_
  refine ev_icmp_ne 27 8 d_Ho_stalls_5 (by decide) rfl ?_ ?_
  · exact ev_wk (hJ27 h) (ev_subN (ev_subN ev_sub0))
  · refine ev_jn (fun J => ∀ (u4_h : ev_hs), EvO E M_Ho_stalls 1 cvI 23 [none, none] [] u4_h (J u4_h)) ?_ (fun J23 hJ23 => ?_)
    · intro u4_h
      refine ev_iconst 24 d_Ho_stalls_23 rfl ?_
      refine ev_goto 28 d_Ho_stalls_24 (by decide) ?_
      exact ev_wk (hJ28 _ u4_h) (ev_subN (ev_subN ev_sub0))
    refine ev_aload1 9 d_Ho_stalls_8 rfl ?_
    refine ev_gI 12 d_Ho_stalls_9 fl_Ho_32 rfl rfl (fun z5 => ?_)
    refine ev_if_eq 23 15 d_Ho_stalls_12 (by decide) rfl ?_ ?_
    · exact ev_wk (hJ23 h) (ev_subN (ev_subN ev_sub0))
    · refine ev_aload1 16 d_Ho_stalls_15 rfl ?_
      refine ev_gI 19 d_Ho_stalls_16 fl_Ho_32 rfl rfl (fun z6 => ?_)
      refine ev_iconst 20 d_Ho_stalls_19 rfl ?_
      refine ev_icmp_ne 27 23 d_Ho_stalls_20 (by decide) rfl ?_ ?_
      · exact ev_wk (hJ27 h) (ev_subN (ev_subN ev_sub0))
      · exact ev_wk (hJ23 h) (ev_subN (ev_subN ev_sub0))
theorem t_Ca_stalls {E : ev_E} (x0 : Option Nat) (x1 : Option Nat) (h : ev_hs) : EvO E M_Ca_stalls 1 cvI 0 [some (va_rf x0), some (va_rf x1), none] [] h (f_Ca_stalls x0 x1 h) := by
  unfold f_Ca_stalls
  refine ev_aload0 1 d_Ca_stalls_0 rfl ?_
  refine ev_gR 4 d_Ca_stalls_1 fl_Ca_9 rfl rfl (fun q1 => ?_)
  refine ev_aload1 5 d_Ca_stalls_4 rfl ?_
  refine ev_gI 8 d_Ca_stalls_5 fl_Ca_32 rfl rfl (fun z2 => ?_)
  refine ev_iaload 9 d_Ca_stalls_8 rfl (fun z3 => ?_)
  refine ev_istore2 10 d_Ca_stalls_9 (by decide) rfl ?_
  refine ev_aload1 11 d_Ca_stalls_10 rfl ?_
  refine ev_gI 14 d_Ca_stalls_11 fl_Ca_37 rfl rfl (fun z4 => ?_)
  refine ev_peel (fun ee5 => ?_) (fun ne5 oe5 => ?_)
  · refine ev_tsIn 62 d_Ca_stalls_14 ee5 (by decide) (by decide) (by decide) rfl (by decide) ?_
    refine ev_jn (fun J => ∀ (u6_s0 : Int) (u6_h : ev_hs), EvO E M_Ca_stalls 1 cvI 79 [none, none, none] [eI u6_s0] u6_h (J u6_s0 u6_h)) ?_ (fun J79 hJ79 => ?_)
    · intro u6_s0 u6_h
      exact ev_zreturn d_Ca_stalls_79 rfl
    refine ev_jn (fun J => ∀ (u7_h : ev_hs), EvO E M_Ca_stalls 1 cvI 78 [none, none, none] [] u7_h (J u7_h)) ?_ (fun J78 hJ78 => ?_)
    · intro u7_h
      refine ev_iconst 79 d_Ca_stalls_78 rfl ?_
      exact ev_wk (hJ79 _ u7_h) (ev_subN (ev_subN (ev_subN ev_sub0)))
    refine ev_iload2 63 d_Ca_stalls_62 rfl ?_
    refine ev_bipush 65 d_Ca_stalls_63 (by decide) rfl ?_
    refine ev_icmp_eq 78 68 d_Ca_stalls_65 (by decide) rfl ?_ ?_
    · exact ev_wk (hJ78 h) (ev_subN (ev_subN (ev_subN ev_sub0)))
    · refine ev_iload2 69 d_Ca_stalls_68 rfl ?_
      refine ev_bipush 71 d_Ca_stalls_69 (by decide) rfl ?_
      refine ev_icmp_eq 78 74 d_Ca_stalls_71 (by decide) rfl ?_ ?_
      · exact ev_wk (hJ78 h) (ev_subN (ev_subN (ev_subN ev_sub0)))
      · refine ev_iconst 75 d_Ca_stalls_74 rfl ?_
        refine ev_goto 79 d_Ca_stalls_75 (by decide) ?_
        exact ev_wk (hJ79 _ h) (ev_subN (ev_subN (ev_subN ev_sub0)))
  refine ev_peel (fun ee8 => ?_) (fun ne8 oe8 => ?_)
  · refine ev_tsIn 62 d_Ca_stalls_14 ee8 (by decide) (by decide) (by decide) rfl (by decide) ?_
    refine ev_jn (fun J => ∀ (u9_s0 : Int) (u9_h : ev_hs), EvO E M_Ca_stalls 1 cvI 79 [none, none, none] [eI u9_s0] u9_h (J u9_s0 u9_h)) ?_ (fun J79 hJ79 => ?_)
    · intro u9_s0 u9_h
      exact ev_zreturn d_Ca_stalls_79 rfl
    refine ev_jn (fun J => ∀ (u10_h : ev_hs), EvO E M_Ca_stalls 1 cvI 78 [none, none, none] [] u10_h (J u10_h)) ?_ (fun J78 hJ78 => ?_)
    · intro u10_h
      refine ev_iconst 79 d_Ca_stalls_78 rfl ?_
      exact ev_wk (hJ79 _ u10_h) (ev_subN (ev_subN (ev_subN ev_sub0)))
    refine ev_iload2 63 d_Ca_stalls_62 rfl ?_
    refine ev_bipush 65 d_Ca_stalls_63 (by decide) rfl ?_
    refine ev_icmp_eq 78 68 d_Ca_stalls_65 (by decide) rfl ?_ ?_
    · exact ev_wk (hJ78 h) (ev_subN (ev_subN (ev_subN ev_sub0)))
    · refine ev_iload2 69 d_Ca_stalls_68 rfl ?_
      refine ev_bipush 71 d_Ca_stalls_69 (by decide) rfl ?_
      refine ev_icmp_eq 78 74 d_Ca_stalls_71 (by decide) rfl ?_ ?_
      · exact ev_wk (hJ78 h) (ev_subN (ev_subN (ev_subN ev_sub0)))
      · refine ev_iconst 75 d_Ca_stalls_74 rfl ?_
        refine ev_goto 79 d_Ca_stalls_75 (by decide) ?_
        exact ev_wk (hJ79 _ h) (ev_subN (ev_subN (ev_subN ev_sub0)))
  refine ev_peel (fun ee11 => ?_) (fun ne11 oe11 => ?_)
  · refine ev_tsIn 40 d_Ca_stalls_14 ee11 (by decide) (by decide) (by decide) rfl (by decide) ?_
    refine ev_jn (fun J => ∀ (u12_s0 : Int) (u12_h : ev_hs), EvO E M_Ca_stalls 1 cvI 61 [none, none, none] [eI u12_s0] u12_h (J u12_s0 u12_h)) ?_ (fun J61 hJ61 => ?_)
    · intro u12_s0 u12_h
      exact ev_zreturn d_Ca_stalls_61 rfl
    refine ev_jn (fun J => ∀ (u13_h : ev_hs), EvO E M_Ca_stalls 1 cvI 60 [none, none, none] [] u13_h (J u13_h)) ?_ (fun J60 hJ60 => ?_)
    · intro u13_h
      refine ev_iconst 61 d_Ca_stalls_60 rfl ?_
      exact ev_wk (hJ61 _ u13_h) (ev_subN (ev_subN (ev_subN ev_sub0)))
    refine ev_iload2 41 d_Ca_stalls_40 rfl ?_
    refine ev_iconst 42 d_Ca_stalls_41 rfl ?_
    refine ev_icmp_eq 60 45 d_Ca_stalls_42 (by decide) rfl ?_ ?_
    · exact ev_wk (hJ60 h) (ev_subN (ev_subN (ev_subN ev_sub0)))
    · refine ev_iload2 46 d_Ca_stalls_45 rfl ?_
      refine ev_iconst 47 d_Ca_stalls_46 rfl ?_
      refine ev_icmp_eq 60 50 d_Ca_stalls_47 (by decide) rfl ?_ ?_
      · exact ev_wk (hJ60 h) (ev_subN (ev_subN (ev_subN ev_sub0)))
      · refine ev_iload2 51 d_Ca_stalls_50 rfl ?_
        refine ev_bipush 53 d_Ca_stalls_51 (by decide) rfl ?_
        refine ev_icmp_eq 60 56 d_Ca_stalls_53 (by decide) rfl ?_ ?_
        · exact ev_wk (hJ60 h) (ev_subN (ev_subN (ev_subN ev_sub0)))
        · refine ev_iconst 57 d_Ca_stalls_56 rfl ?_
          refine ev_goto 61 d_Ca_stalls_57 (by decide) ?_
          exact ev_wk (hJ61 _ h) (ev_subN (ev_subN (ev_subN ev_sub0)))
  refine ev_tsOut 80 d_Ca_stalls_14 oe11 (by omega) (by decide) ?_
  refine ev_iconst 81 d_Ca_stalls_80 rfl ?_
  exact ev_zreturn d_Ca_stalls_81 rfl
theorem t_No_stalls {E : ev_E} (x0 : Option Nat) (x1 : Option Nat) (h : ev_hs) : EvO E M_No_stalls 2 cvI 0 [some (va_rf x0), some (va_rf x1)] [] h (f_No_stalls x0 x1 h) := by
  unfold f_No_stalls
  refine ev_jn (fun J => ∀ (u1_s0 : Int) (u1_h : ev_hs), EvO E M_No_stalls 2 cvI 31 [none, none] [eI u1_s0] u1_h (J u1_s0 u1_h)) ?_ (fun J31 hJ31 => ?_)
  · intro u1_s0 u1_h
    exact ev_zreturn d_No_stalls_31 rfl
  refine ev_aload1 1 d_No_stalls_0 rfl ?_
  refine ev_cv0I (kk := 0) 4 d_No_stalls_1 cv_No_83 (by decide) (by decide)  ev_sm0 (by decide) rfl (t_Pa_isForHome _ h) (fun z3 g2 => ?_)
  refine ev_if_eq 23 7 d_No_stalls_4 (by decide) rfl ?_ ?_
  · refine ev_aload0 24 d_No_stalls_23 rfl ?_
    refine ev_gR 27 d_No_stalls_24 fl_No_28 rfl rfl (fun q4 => ?_)
    refine ev_aload1 28 d_No_stalls_27 rfl ?_
    refine ev_cv1I (kk := 1) 31 d_No_stalls_28 cv_No_90 (by decide) (by decide) (va_rf_cat _) ev_sm0 (by decide) rfl (t_Ca_stalls _ _ g2) (fun z6 g5 => ?_)
    exact ev_wk (hJ31 _ g5) (ev_subN (ev_subN ev_sub0))
  · refine ev_aload0 8 d_No_stalls_7 rfl ?_
    refine ev_gR 11 d_No_stalls_8 fl_No_19 rfl rfl (fun q7 => ?_)
    refine ev_aload1 12 d_No_stalls_11 rfl ?_
    refine ev_gI 15 d_No_stalls_12 fl_No_76 rfl rfl (fun z8 => ?_)
    refine ev_aaload (t := 53) 16 d_No_stalls_15 (by decide) ⟨_, rfl⟩ rfl (fun q9 => ?_)
    refine ev_aload1 17 d_No_stalls_16 rfl ?_
    refine ev_cv1I (kk := 0) 20 d_No_stalls_17 cv_No_87 (by decide) (by decide) (va_rf_cat _) ev_sm0 (by decide) rfl (t_Ho_stalls _ _ g2) (fun z11 g10 => ?_)
    refine ev_goto 31 d_No_stalls_20 (by decide) ?_
    exact ev_wk (hJ31 _ g10) (ev_subN (ev_subN ev_sub0))
theorem t_No_firstToTake_10 {E : ev_E} : ∀ (fu : Nat) (x0 : Option Nat) (x1 : Option Nat) (x2 : Int) (x3 : Int) (x4 : Int) (h : ev_hs), EvO E M_No_firstToTake 4 cvI 10 [some (va_rf x0), some (va_rf x1), some (eI x2), some (eI x3), some (eI x4), none, none] [] h (f_No_firstToTake_10 fu x0 x1 x2 x3 x4 h) := by
  intro fu
  induction fu with
  | zero => intros; exact ev_no
  | succ fu ih =>
    intro x0 x1 x2 x3 x4 h
    rw [f_No_firstToTake_10]
    refine ev_iload4 12 d_No_firstToTake_10 rfl ?_
    refine ev_iload3 13 d_No_firstToTake_12 rfl ?_
    refine ev_icmp_ge 66 16 d_No_firstToTake_13 (by decide) rfl ?_ ?_
    · refine ev_iconst 67 d_No_firstToTake_66 rfl ?_
      exact ev_ireturn d_No_firstToTake_67 rfl
    · refine ev_jn (fun J => ∀ (u3_0 : Option Nat) (u3_1 : Option Nat) (u3_2 : Int) (u3_3 : Int) (u3_4 : Int) (u3_6 : Int) (u3_h : ev_hs), EvO E M_No_firstToTake 4 cvI 55 [some (va_rf u3_0), some (va_rf u3_1), some (eI u3_2), some (eI u3_3), some (eI u3_4), none, some (eI u3_6)] [] u3_h (J u3_0 u3_1 u3_2 u3_3 u3_4 u3_6 u3_h)) ?_ (fun J55 hJ55 => ?_)
      · intro u3_0 u3_1 u3_2 u3_3 u3_4 u3_6 u3_h
        refine ev_iload2 56 d_No_firstToTake_55 rfl ?_
        refine ev_iload6 58 d_No_firstToTake_56 rfl ?_
        refine ev_ior 59 d_No_firstToTake_58 rfl ?_
        refine ev_istore2 60 d_No_firstToTake_59 (by decide) rfl ?_
        refine ev_iinc4 63 d_No_firstToTake_60 (by decide) rfl ?_
        refine ev_goto 10 d_No_firstToTake_63 (by decide) ?_
        exact ev_wk (ih _ _ _ _ _ u3_h) (ev_subS (ev_subS (ev_subS (ev_subS (ev_subS (ev_subN (ev_subN ev_sub0)))))))
      refine ev_aload1 17 d_No_firstToTake_16 rfl ?_
      refine ev_iload4 19 d_No_firstToTake_17 rfl ?_
      refine ev_cv1R (kk := 0) 22 d_No_firstToTake_19 cv_No_73 (by decide) (by decide) rfl ev_sm0 (by decide) rfl (t_AL_get _ _ h) (fun q5 g4 => ?_)
      refine ev_checkcastO 25 d_No_firstToTake_22 (ck_10).1 w_488 rfl ?_
      refine ev_astore5 27 d_No_firstToTake_25 (by decide) rfl ?_
      refine ev_iconst 28 d_No_firstToTake_27 rfl ?_
      refine ev_aload5 30 d_No_firstToTake_28 rfl ?_
      refine ev_gI 33 d_No_firstToTake_30 fl_No_76 rfl rfl (fun z6 => ?_)
      refine ev_ishl 34 d_No_firstToTake_33 rfl ?_
      refine ev_istore6 36 d_No_firstToTake_34 (by decide) rfl ?_
      refine ev_iload2 37 d_No_firstToTake_36 rfl ?_
      refine ev_iload6 39 d_No_firstToTake_37 rfl ?_
      refine ev_iand 40 d_No_firstToTake_39 rfl ?_
      refine ev_if_ne 55 43 d_No_firstToTake_40 (by decide) rfl ?_ ?_
      · exact ev_wk (hJ55 _ _ _ _ _ _ g4) (ev_subS (ev_subS (ev_subS (ev_subS (ev_subS (ev_subN (ev_subS ev_sub0)))))))
      · refine ev_aload0 44 d_No_firstToTake_43 rfl ?_
        refine ev_aload5 46 d_No_firstToTake_44 rfl ?_
        refine ev_cv1I (kk := 0) 49 d_No_firstToTake_46 cv_No_79 (by decide) (by decide) (va_rf_cat _) ev_sm0 (by decide) rfl (t_No_stalls _ _ g4) (fun z8 g7 => ?_)
        refine ev_if_ne 55 52 d_No_firstToTake_49 (by decide) rfl ?_ ?_
        · exact ev_wk (hJ55 _ _ _ _ _ _ g7) (ev_subS (ev_subS (ev_subS (ev_subS (ev_subS (ev_subN (ev_subS ev_sub0)))))))
        · refine ev_iload4 54 d_No_firstToTake_52 rfl ?_
          exact ev_ireturn d_No_firstToTake_54 rfl
theorem t_No_firstToTake {E : ev_E} (x0 : Option Nat) (x1 : Option Nat) (h : ev_hs) : EvO E M_No_firstToTake 4 cvI 0 [some (va_rf x0), some (va_rf x1), none, none, none, none, none] [] h (f_No_firstToTake x0 x1 h) := by
  unfold f_No_firstToTake
  refine ev_iconst 1 d_No_firstToTake_0 rfl ?_
  refine ev_istore2 2 d_No_firstToTake_1 (by decide) rfl ?_
  refine ev_aload1 3 d_No_firstToTake_2 rfl ?_
  refine ev_cv0I (kk := 0) 6 d_No_firstToTake_3 cv_No_69 (by decide) (by decide)  ev_sm0 (by decide) rfl (t_AL_size _ h) (fun z2 g1 => ?_)
  refine ev_istore3 7 d_No_firstToTake_6 (by decide) rfl ?_
  refine ev_iconst 8 d_No_firstToTake_7 rfl ?_
  refine ev_istore4 10 d_No_firstToTake_8 (by decide) rfl ?_
  refine ev_wk (t_No_firstToTake_10 FU _ _ _ _ _ g1) (ev_subS (ev_subS (ev_subS (ev_subS (ev_subS (ev_subN (ev_subN ev_sub0)))))))
theorem t_Pa_init {E : ev_E} (x0 : Option Nat) (x1 : Int) (x2 : Int) (x3 : Int) (x4 : Int) (x5 : Int) (x6 : Int) (x7 : Int) (h : ev_hs) : EvO E M_Pa_init 2 cvV 0 [some (va_rf x0), some (eI x1), some (eI x2), some (eI x3), some (eI x4), some (eI x5), some (eI x6), some (eI x7), none] [] h (f_Pa_init x0 x1 x2 x3 x4 x5 x6 x7 h) := by
  unfold f_Pa_init
  refine ev_jn (fun J => ∀ (u1_0 : Option Nat) (u1_7 : Int) (u1_s0 : Int) (u1_h : ev_hs), EvO E M_Pa_init 2 cvV 59 [some (va_rf u1_0), none, none, none, none, none, none, some (eI u1_7), none] [eI u1_s0] u1_h (J u1_0 u1_7 u1_s0 u1_h)) ?_ (fun J59 hJ59 => ?_)
  · intro u1_0 u1_7 u1_s0 u1_h
    refine ev_jn (fun J => ∀ (u2_s0 : Option Nat) (u2_s1 : Int) (u2_h : ev_hs), EvO E M_Pa_init 2 cvV 73 [none, none, none, none, none, none, none, none, none] [eI u2_s1, va_rf u2_s0] u2_h (J u2_s0 u2_s1 u2_h)) ?_ (fun J73 hJ73 => ?_)
    · intro u2_s0 u2_s1 u2_h
      refine ev_pI 76 d_Pa_init_73 fw_Pa_i_30 rfl rfl (fun g3 => ?_)
      exact ev_return d_Pa_init_76 rfl
    refine ev_istore8 61 d_Pa_init_59 (by decide) rfl ?_
    refine ev_aload0 62 d_Pa_init_61 rfl ?_
    refine ev_iload8 64 d_Pa_init_62 rfl ?_
    refine ev_if_eq 72 67 d_Pa_init_64 (by decide) rfl ?_ ?_
    · refine ev_iconst 73 d_Pa_init_72 rfl ?_
      exact ev_wk (hJ73 _ _ u1_h) (ev_subN (ev_subN (ev_subN (ev_subN (ev_subN (ev_subN (ev_subN (ev_subN (ev_subN ev_sub0)))))))))
    · refine ev_iload7 69 d_Pa_init_67 rfl ?_
      refine ev_goto 73 d_Pa_init_69 (by decide) ?_
      exact ev_wk (hJ73 _ _ u1_h) (ev_subN (ev_subN (ev_subN (ev_subN (ev_subN (ev_subN (ev_subN (ev_subN (ev_subN ev_sub0)))))))))
  refine ev_jn (fun J => ∀ (u4_0 : Option Nat) (u4_7 : Int) (u4_h : ev_hs), EvO E M_Pa_init 2 cvV 54 [some (va_rf u4_0), none, none, none, none, none, none, some (eI u4_7), none] [] u4_h (J u4_0 u4_7 u4_h)) ?_ (fun J54 hJ54 => ?_)
  · intro u4_0 u4_7 u4_h
    refine ev_iconst 55 d_Pa_init_54 rfl ?_
    refine ev_goto 59 d_Pa_init_55 (by decide) ?_
    exact ev_wk (hJ59 _ _ _ u4_h) (ev_subS (ev_subN (ev_subN (ev_subN (ev_subN (ev_subN (ev_subN (ev_subS (ev_subN ev_sub0)))))))))
  refine ev_aload0 1 d_Pa_init_0 rfl ?_
  refine ev_objInit 4 d_Pa_init_1 w_527 w_28 w_29 (by decide) ev_sm0 (by decide) rfl ?_
  refine ev_aload0 5 d_Pa_init_4 rfl ?_
  refine ev_iload1 6 d_Pa_init_5 rfl ?_
  refine ev_pI 9 d_Pa_init_6 fw_Pa_i_9 rfl rfl (fun g5 => ?_)
  refine ev_aload0 10 d_Pa_init_9 rfl ?_
  refine ev_iload2 11 d_Pa_init_10 rfl ?_
  refine ev_pI 14 d_Pa_init_11 fw_Pa_i_15 rfl rfl (fun g6 => ?_)
  refine ev_aload0 15 d_Pa_init_14 rfl ?_
  refine ev_iload3 16 d_Pa_init_15 rfl ?_
  refine ev_pI 19 d_Pa_init_16 fw_Pa_i_18 rfl rfl (fun g7 => ?_)
  refine ev_aload0 20 d_Pa_init_19 rfl ?_
  refine ev_iload4 22 d_Pa_init_20 rfl ?_
  refine ev_pI 25 d_Pa_init_22 fw_Pa_i_21 rfl rfl (fun g8 => ?_)
  refine ev_aload0 26 d_Pa_init_25 rfl ?_
  refine ev_iload5 28 d_Pa_init_26 rfl ?_
  refine ev_pI 31 d_Pa_init_28 fw_Pa_i_24 rfl rfl (fun g9 => ?_)
  refine ev_aload0 32 d_Pa_init_31 rfl ?_
  refine ev_iload6 34 d_Pa_init_32 rfl ?_
  refine ev_pI 37 d_Pa_init_34 fw_Pa_i_27 rfl rfl (fun g10 => ?_)
  refine ev_iload1 38 d_Pa_init_37 rfl ?_
  refine ev_iconst 39 d_Pa_init_38 rfl ?_
  refine ev_icmp_eq 54 42 d_Pa_init_39 (by decide) rfl ?_ ?_
  · exact ev_wk (hJ54 _ _ g10) (ev_subS (ev_subN (ev_subN (ev_subN (ev_subN (ev_subN (ev_subN (ev_subS (ev_subN ev_sub0)))))))))
  · refine ev_iload1 43 d_Pa_init_42 rfl ?_
    refine ev_bipush 45 d_Pa_init_43 (by decide) rfl ?_
    refine ev_icmp_eq 54 48 d_Pa_init_45 (by decide) rfl ?_ ?_
    · exact ev_wk (hJ54 _ _ g10) (ev_subS (ev_subN (ev_subN (ev_subN (ev_subN (ev_subN (ev_subN (ev_subS (ev_subN ev_sub0)))))))))
    · refine ev_iload1 49 d_Pa_init_48 rfl ?_
      refine ev_bipush 51 d_Pa_init_49 (by decide) rfl ?_
      refine ev_icmp_ne 58 54 d_Pa_init_51 (by decide) rfl ?_ ?_
      · refine ev_iconst 59 d_Pa_init_58 rfl ?_
        exact ev_wk (hJ59 _ _ _ g10) (ev_subS (ev_subN (ev_subN (ev_subN (ev_subN (ev_subN (ev_subN (ev_subS (ev_subN ev_sub0)))))))))
      · exact ev_wk (hJ54 _ _ g10) (ev_subS (ev_subN (ev_subN (ev_subN (ev_subN (ev_subN (ev_subN (ev_subS (ev_subN ev_sub0)))))))))
theorem t_Pa_channel {E : ev_E} (x0 : Option Nat) (h : ev_hs) : EvO E M_Pa_channel 1 cvI 0 [some (va_rf x0)] [] h (f_Pa_channel x0 h) := by
  unfold f_Pa_channel
  refine ev_aload0 1 d_Pa_channel_0 rfl ?_
  refine ev_gI 4 d_Pa_channel_1 fl_Pa_9 rfl rfl (fun z1 => ?_)
  refine ev_iconst 5 d_Pa_channel_4 rfl ?_
  refine ev_icmp_gt 10 8 d_Pa_channel_5 (by decide) rfl ?_ ?_
  · refine ev_jn (fun J => ∀ (u2_s0 : Int) (u2_h : ev_hs), EvO E M_Pa_channel 1 cvI 24 [none] [eI u2_s0] u2_h (J u2_s0 u2_h)) ?_ (fun J24 hJ24 => ?_)
    · intro u2_s0 u2_h
      exact ev_ireturn d_Pa_channel_24 rfl
    refine ev_aload0 11 d_Pa_channel_10 rfl ?_
    refine ev_gI 14 d_Pa_channel_11 fl_Pa_9 rfl rfl (fun z3 => ?_)
    refine ev_bipush 16 d_Pa_channel_14 (by decide) rfl ?_
    refine ev_icmp_gt 23 19 d_Pa_channel_16 (by decide) rfl ?_ ?_
    · refine ev_iconst 24 d_Pa_channel_23 rfl ?_
      exact ev_wk (hJ24 _ h) (ev_subN ev_sub0)
    · refine ev_iconst 20 d_Pa_channel_19 rfl ?_
      refine ev_goto 24 d_Pa_channel_20 (by decide) ?_
      exact ev_wk (hJ24 _ h) (ev_subN ev_sub0)
  · refine ev_iconst 9 d_Pa_channel_8 rfl ?_
    exact ev_ireturn d_Pa_channel_9 rfl
theorem t_Me_send {E : ev_E} (x0 : Option Nat) (x1 : Int) (x2 : Int) (x3 : Int) (x4 : Int) (x5 : Int) (x6 : Int) (x7 : Int) (h : ev_hs) : EvO E M_Me_send 8 cvV 0 [some (va_rf x0), some (eI x1), some (eI x2), some (eI x3), some (eI x4), some (eI x5), some (eI x6), some (eI x7), none] [] h (f_Me_send x0 x1 x2 x3 x4 x5 x6 x7 h) := by
  unfold f_Me_send
  refine ev_new 3 d_Me_send_0 ck_10 w_522 w_523 w_20 rfl (fun q1 g2 => ?_)
  refine ev_dup 4 d_Me_send_3 (va_rf_cat _) rfl ?_
  refine ev_iload2 5 d_Me_send_4 rfl ?_
  refine ev_iload3 6 d_Me_send_5 rfl ?_
  refine ev_iload4 8 d_Me_send_6 rfl ?_
  refine ev_iload5 10 d_Me_send_8 rfl ?_
  refine ev_iload6 12 d_Me_send_10 rfl ?_
  refine ev_iload7 14 d_Me_send_12 rfl ?_
  refine ev_aload0 15 d_Me_send_14 rfl ?_
  refine ev_gI 18 d_Me_send_15 fl_Me_17 rfl rfl (fun z3 => ?_)
  refine ev_ci7V (kk := 1) 21 d_Me_send_18 ci_Me_26 (by decide) (by decide) rfl rfl rfl rfl rfl rfl rfl (ev_smc (va_rf_cat _) ev_sm0) (by decide) rfl (t_Pa_init _ _ _ _ _ _ _ _ g2) (fun g4 => ?_)
  refine ev_astore8 23 d_Me_send_21 (by decide) rfl ?_
  refine ev_aload0 24 d_Me_send_23 rfl ?_
  refine ev_iload1 25 d_Me_send_24 rfl ?_
  refine ev_aload8 27 d_Me_send_25 rfl ?_
  refine ev_cv0I (kk := 0) 30 d_Me_send_27 cv_Me_29 (by decide) (by decide)  (ev_smc rfl (ev_smc (va_rf_cat _) ev_sm0)) (by decide) rfl (t_Pa_channel _ g4) (fun z6 g5 => ?_)
  refine ev_cv2R (kk := 0) 33 d_Me_send_30 cv_Me_33 (by decide) (by decide) rfl rfl ev_sm0 (by decide) rfl (t_Me_laneOf _ _ _ g5) (fun q8 g7 => ?_)
  refine ev_gR 36 d_Me_send_33 fl_Me_37 rfl rfl (fun q9 => ?_)
  refine ev_aload8 38 d_Me_send_36 rfl ?_
  refine ev_cv1I (kk := 0) 41 d_Me_send_38 cv_Me_41 (by decide) (by decide) (va_rf_cat _) ev_sm0 (by decide) rfl (t_AL_add1 _ _ g7) (fun z11 g10 => ?_)
  refine ev_pop 42 d_Me_send_41 rfl rfl ?_
  refine ev_aload0 43 d_Me_send_42 rfl ?_
  refine ev_dup 44 d_Me_send_43 (va_rf_cat _) rfl ?_
  refine ev_gI 47 d_Me_send_44 fl_Me_47 rfl rfl (fun z12 => ?_)
  refine ev_iconst 48 d_Me_send_47 rfl ?_
  refine ev_iadd 49 d_Me_send_48 rfl ?_
  refine ev_pI 52 d_Me_send_49 fw_Me_send_47 rfl rfl (fun g13 => ?_)
  exact ev_return d_Me_send_52 rfl
theorem t_Ho_takeGets {E : ev_E} (x0 : Option Nat) (x1 : Int) (h : ev_hs) : EvO E M_Ho_takeGets 9 cvV 0 [some (va_rf x0), some (eI x1)] [] h (f_Ho_takeGets x0 x1 h) := by
  unfold f_Ho_takeGets
  refine ev_aload0 1 d_Ho_takeGets_0 rfl ?_
  refine ev_gI 4 d_Ho_takeGets_1 fl_Ho_11 rfl rfl (fun z1 => ?_)
  refine ev_iconst 5 d_Ho_takeGets_4 rfl ?_
  refine ev_icmp_ne 63 8 d_Ho_takeGets_5 (by decide) rfl ?_ ?_
  · refine ev_aload0 64 d_Ho_takeGets_63 rfl ?_
    refine ev_gR 67 d_Ho_takeGets_64 fl_Ho_28 rfl rfl (fun q2 => ?_)
    refine ev_aload0 68 d_Ho_takeGets_67 rfl ?_
    refine ev_gI 71 d_Ho_takeGets_68 fl_Ho_25 rfl rfl (fun z3 => ?_)
    refine ev_bipush 73 d_Ho_takeGets_71 (by decide) rfl ?_
    refine ev_aload0 74 d_Ho_takeGets_73 rfl ?_
    refine ev_gI 77 d_Ho_takeGets_74 fl_Ho_18 rfl rfl (fun z4 => ?_)
    refine ev_iload1 78 d_Ho_takeGets_77 rfl ?_
    refine ev_iload1 79 d_Ho_takeGets_78 rfl ?_
    refine ev_aload0 80 d_Ho_takeGets_79 rfl ?_
    refine ev_gI 83 d_Ho_takeGets_80 fl_Ho_57 rfl rfl (fun z5 => ?_)
    refine ev_iconst 84 d_Ho_takeGets_83 rfl ?_
    refine ev_cv7V (kk := 1) 87 d_Ho_takeGets_84 cv_Ho_58 (by decide) (by decide) rfl rfl rfl rfl rfl rfl rfl ev_sm0 (by decide) rfl (t_Me_send _ _ _ _ _ _ _ _ h) (fun g6 => ?_)
    refine ev_aload0 88 d_Ho_takeGets_87 rfl ?_
    refine ev_dup 89 d_Ho_takeGets_88 (va_rf_cat _) rfl ?_
    refine ev_gI 92 d_Ho_takeGets_89 fl_Ho_64 rfl rfl (fun z7 => ?_)
    refine ev_iconst 93 d_Ho_takeGets_92 rfl ?_
    refine ev_iload1 94 d_Ho_takeGets_93 rfl ?_
    refine ev_ishl 95 d_Ho_takeGets_94 rfl ?_
    refine ev_ior 96 d_Ho_takeGets_95 rfl ?_
    refine ev_pI 99 d_Ho_takeGets_96 fw_Ho_takeGets_64 rfl rfl (fun g8 => ?_)
    refine ev_aload0 100 d_Ho_takeGets_99 rfl ?_
    refine ev_iconst 101 d_Ho_takeGets_100 rfl ?_
    refine ev_pI 104 d_Ho_takeGets_101 fw_Ho_takeGets_11 rfl rfl (fun g9 => ?_)
    exact ev_return d_Ho_takeGets_104 rfl
  · refine ev_aload0 9 d_Ho_takeGets_8 rfl ?_
    refine ev_gR 12 d_Ho_takeGets_9 fl_Ho_28 rfl rfl (fun q10 => ?_)
    refine ev_aload0 13 d_Ho_takeGets_12 rfl ?_
    refine ev_gI 16 d_Ho_takeGets_13 fl_Ho_25 rfl rfl (fun z11 => ?_)
    refine ev_iconst 17 d_Ho_takeGets_16 rfl ?_
    refine ev_aload0 18 d_Ho_takeGets_17 rfl ?_
    refine ev_gI 21 d_Ho_takeGets_18 fl_Ho_18 rfl rfl (fun z12 => ?_)
    refine ev_aload0 22 d_Ho_takeGets_21 rfl ?_
    refine ev_gI 25 d_Ho_takeGets_22 fl_Ho_15 rfl rfl (fun z13 => ?_)
    refine ev_iload1 26 d_Ho_takeGets_25 rfl ?_
    refine ev_iconst 27 d_Ho_takeGets_26 rfl ?_
    refine ev_iconst 28 d_Ho_takeGets_27 rfl ?_
    refine ev_cv7V (kk := 1) 31 d_Ho_takeGets_28 cv_Ho_58 (by decide) (by decide) rfl rfl rfl rfl rfl rfl rfl ev_sm0 (by decide) rfl (t_Me_send _ _ _ _ _ _ _ _ h) (fun g14 => ?_)
    refine ev_aload0 32 d_Ho_takeGets_31 rfl ?_
    refine ev_dup 33 d_Ho_takeGets_32 (va_rf_cat _) rfl ?_
    refine ev_gI 36 d_Ho_takeGets_33 fl_Ho_64 rfl rfl (fun z15 => ?_)
    refine ev_iconst 37 d_Ho_takeGets_36 rfl ?_
    refine ev_aload0 38 d_Ho_takeGets_37 rfl ?_
    refine ev_gI 41 d_Ho_takeGets_38 fl_Ho_15 rfl rfl (fun z16 => ?_)
    refine ev_ishl 42 d_Ho_takeGets_41 rfl ?_
    refine ev_iconst 43 d_Ho_takeGets_42 rfl ?_
    refine ev_iload1 44 d_Ho_takeGets_43 rfl ?_
    refine ev_ishl 45 d_Ho_takeGets_44 rfl ?_
    refine ev_ior 46 d_Ho_takeGets_45 rfl ?_
    refine ev_ior 47 d_Ho_takeGets_46 rfl ?_
    refine ev_pI 50 d_Ho_takeGets_47 fw_Ho_takeGets_64 rfl rfl (fun g17 => ?_)
    refine ev_aload0 51 d_Ho_takeGets_50 rfl ?_
    refine ev_iconst 52 d_Ho_takeGets_51 rfl ?_
    refine ev_pI 55 d_Ho_takeGets_52 fw_Ho_takeGets_15 rfl rfl (fun g18 => ?_)
    refine ev_aload0 56 d_Ho_takeGets_55 rfl ?_
    refine ev_iconst 57 d_Ho_takeGets_56 rfl ?_
    refine ev_pI 60 d_Ho_takeGets_57 fw_Ho_takeGets_11 rfl rfl (fun g19 => ?_)
    refine ev_goto 104 d_Ho_takeGets_60 (by decide) ?_
    exact ev_return d_Ho_takeGets_104 rfl
theorem t_In_bitCount {E : ev_E} (x0 : Int) (h : ev_hs) : EvO E M_In_bitCount 1 cvI 0 [some (eI x0)] [] h (f_In_bitCount x0 h) := by
  unfold f_In_bitCount
  refine ev_iload0 1 d_In_bitCount_0 rfl ?_
  refine ev_iload0 2 d_In_bitCount_1 rfl ?_
  refine ev_iconst 3 d_In_bitCount_2 rfl ?_
  refine ev_iushr 4 d_In_bitCount_3 rfl ?_
  refine ev_ldcw (z := 1431655765) 7 d_In_bitCount_4 w_572 rfl ?_
  refine ev_iand 8 d_In_bitCount_7 rfl ?_
  refine ev_isub 9 d_In_bitCount_8 rfl ?_
  refine ev_istore0 10 d_In_bitCount_9 (by decide) rfl ?_
  refine ev_iload0 11 d_In_bitCount_10 rfl ?_
  refine ev_ldcw (z := 858993459) 14 d_In_bitCount_11 w_573 rfl ?_
  refine ev_iand 15 d_In_bitCount_14 rfl ?_
  refine ev_iload0 16 d_In_bitCount_15 rfl ?_
  refine ev_iconst 17 d_In_bitCount_16 rfl ?_
  refine ev_iushr 18 d_In_bitCount_17 rfl ?_
  refine ev_ldcw (z := 858993459) 21 d_In_bitCount_18 w_573 rfl ?_
  refine ev_iand 22 d_In_bitCount_21 rfl ?_
  refine ev_iadd 23 d_In_bitCount_22 rfl ?_
  refine ev_istore0 24 d_In_bitCount_23 (by decide) rfl ?_
  refine ev_iload0 25 d_In_bitCount_24 rfl ?_
  refine ev_iload0 26 d_In_bitCount_25 rfl ?_
  refine ev_iconst 27 d_In_bitCount_26 rfl ?_
  refine ev_iushr 28 d_In_bitCount_27 rfl ?_
  refine ev_iadd 29 d_In_bitCount_28 rfl ?_
  refine ev_ldcw (z := 252645135) 32 d_In_bitCount_29 w_574 rfl ?_
  refine ev_iand 33 d_In_bitCount_32 rfl ?_
  refine ev_istore0 34 d_In_bitCount_33 (by decide) rfl ?_
  refine ev_iload0 35 d_In_bitCount_34 rfl ?_
  refine ev_iload0 36 d_In_bitCount_35 rfl ?_
  refine ev_bipush 38 d_In_bitCount_36 (by decide) rfl ?_
  refine ev_iushr 39 d_In_bitCount_38 rfl ?_
  refine ev_iadd 40 d_In_bitCount_39 rfl ?_
  refine ev_istore0 41 d_In_bitCount_40 (by decide) rfl ?_
  refine ev_iload0 42 d_In_bitCount_41 rfl ?_
  refine ev_iload0 43 d_In_bitCount_42 rfl ?_
  refine ev_bipush 45 d_In_bitCount_43 (by decide) rfl ?_
  refine ev_iushr 46 d_In_bitCount_45 rfl ?_
  refine ev_iadd 47 d_In_bitCount_46 rfl ?_
  refine ev_istore0 48 d_In_bitCount_47 (by decide) rfl ?_
  refine ev_iload0 49 d_In_bitCount_48 rfl ?_
  refine ev_bipush 51 d_In_bitCount_49 (by decide) rfl ?_
  refine ev_iand 52 d_In_bitCount_51 rfl ?_
  exact ev_ireturn d_In_bitCount_52 rfl
theorem t_Ho_takeGetm_74 {E : ev_E} : ∀ (fu : Nat) (x0 : Option Nat) (x1 : Int) (x2 : Int) (x3 : Int) (h : ev_hs) (K115 : Option Nat → Int → ev_hs → Option (ev_hs)) (hK115 : ∀ (w0 : Option Nat) (w1 : Int) (wh : ev_hs), EvO E M_Ho_takeGetm 9 cvV 115 [some (va_rf w0), some (eI w1), none, none] [] wh (K115 w0 w1 wh)) , EvO E M_Ho_takeGetm 9 cvV 74 [some (va_rf x0), some (eI x1), some (eI x2), some (eI x3)] [] h (f_Ho_takeGetm_74 fu x0 x1 x2 x3 h K115) := by
  intro fu
  induction fu with
  | zero => intros; exact ev_no
  | succ fu ih =>
    intro x0 x1 x2 x3 h K115 hK115
    rw [f_Ho_takeGetm_74]
    refine ev_iload3 75 d_Ho_takeGetm_74 rfl ?_
    refine ev_bipush 77 d_Ho_takeGetm_75 (by decide) rfl ?_
    refine ev_icmp_ge 115 80 d_Ho_takeGetm_77 (by decide) rfl ?_ ?_
    · exact ev_wk (hK115 _ _ h) (ev_subS (ev_subS (ev_subN (ev_subN ev_sub0))))
    · refine ev_jn (fun J => ∀ (u12_0 : Option Nat) (u12_1 : Int) (u12_2 : Int) (u12_3 : Int) (u12_h : ev_hs), EvO E M_Ho_takeGetm 9 cvV 109 [some (va_rf u12_0), some (eI u12_1), some (eI u12_2), some (eI u12_3)] [] u12_h (J u12_0 u12_1 u12_2 u12_3 u12_h)) ?_ (fun J109 hJ109 => ?_)
      · intro u12_0 u12_1 u12_2 u12_3 u12_h
        refine ev_iinc3 112 d_Ho_takeGetm_109 (by decide) rfl ?_
        refine ev_goto 74 d_Ho_takeGetm_112 (by decide) ?_
        exact ev_wk (ih _ _ _ _ u12_h _ hK115) (ev_subS (ev_subS (ev_subS (ev_subS ev_sub0))))
      refine ev_iload2 81 d_Ho_takeGetm_80 rfl ?_
      refine ev_iconst 82 d_Ho_takeGetm_81 rfl ?_
      refine ev_iload3 83 d_Ho_takeGetm_82 rfl ?_
      refine ev_ishl 84 d_Ho_takeGetm_83 rfl ?_
      refine ev_iand 85 d_Ho_takeGetm_84 rfl ?_
      refine ev_if_eq 109 88 d_Ho_takeGetm_85 (by decide) rfl ?_ ?_
      · exact ev_wk (hJ109 _ _ _ _ h) (ev_subS (ev_subS (ev_subS (ev_subS ev_sub0))))
      · refine ev_aload0 89 d_Ho_takeGetm_88 rfl ?_
        refine ev_gR 92 d_Ho_takeGetm_89 fl_Ho_28 rfl rfl (fun q13 => ?_)
        refine ev_aload0 93 d_Ho_takeGetm_92 rfl ?_
        refine ev_gI 96 d_Ho_takeGetm_93 fl_Ho_25 rfl rfl (fun z14 => ?_)
        refine ev_bipush 98 d_Ho_takeGetm_96 (by decide) rfl ?_
        refine ev_aload0 99 d_Ho_takeGetm_98 rfl ?_
        refine ev_gI 102 d_Ho_takeGetm_99 fl_Ho_18 rfl rfl (fun z15 => ?_)
        refine ev_iload3 103 d_Ho_takeGetm_102 rfl ?_
        refine ev_iload1 104 d_Ho_takeGetm_103 rfl ?_
        refine ev_iconst 105 d_Ho_takeGetm_104 rfl ?_
        refine ev_iconst 106 d_Ho_takeGetm_105 rfl ?_
        refine ev_cv7V (kk := 1) 109 d_Ho_takeGetm_106 cv_Ho_58 (by decide) (by decide) rfl rfl rfl rfl rfl rfl rfl ev_sm0 (by decide) rfl (t_Me_send _ _ _ _ _ _ _ _ h) (fun g16 => ?_)
        exact ev_wk (hJ109 _ _ _ _ g16) (ev_subS (ev_subS (ev_subS (ev_subS ev_sub0))))
theorem t_Ho_takeGetm {E : ev_E} (x0 : Option Nat) (x1 : Int) (h : ev_hs) : EvO E M_Ho_takeGetm 9 cvV 0 [some (va_rf x0), some (eI x1), none, none] [] h (f_Ho_takeGetm x0 x1 h) := by
  unfold f_Ho_takeGetm
  refine ev_jn (fun J => ∀ (u1_0 : Option Nat) (u1_1 : Int) (u1_h : ev_hs), EvO E M_Ho_takeGetm 9 cvV 125 [some (va_rf u1_0), some (eI u1_1), none, none] [] u1_h (J u1_0 u1_1 u1_h)) ?_ (fun J125 hJ125 => ?_)
  · intro u1_0 u1_1 u1_h
    refine ev_aload0 126 d_Ho_takeGetm_125 rfl ?_
    refine ev_iload1 127 d_Ho_takeGetm_126 rfl ?_
    refine ev_pI 130 d_Ho_takeGetm_127 fw_Ho_takeGetm_15 rfl rfl (fun g2 => ?_)
    exact ev_return d_Ho_takeGetm_130 rfl
  refine ev_aload0 1 d_Ho_takeGetm_0 rfl ?_
  refine ev_gI 4 d_Ho_takeGetm_1 fl_Ho_11 rfl rfl (fun z3 => ?_)
  refine ev_iconst 5 d_Ho_takeGetm_4 rfl ?_
  refine ev_icmp_ne 34 8 d_Ho_takeGetm_5 (by decide) rfl ?_ ?_
  · refine ev_aload0 35 d_Ho_takeGetm_34 rfl ?_
    refine ev_gI 38 d_Ho_takeGetm_35 fl_Ho_64 rfl rfl (fun z4 => ?_)
    refine ev_iconst 39 d_Ho_takeGetm_38 rfl ?_
    refine ev_iload1 40 d_Ho_takeGetm_39 rfl ?_
    refine ev_ishl 41 d_Ho_takeGetm_40 rfl ?_
    refine ev_iconst 42 d_Ho_takeGetm_41 rfl ?_
    refine ev_ixor 43 d_Ho_takeGetm_42 rfl ?_
    refine ev_iand 44 d_Ho_takeGetm_43 rfl ?_
    refine ev_istore2 45 d_Ho_takeGetm_44 (by decide) rfl ?_
    refine ev_aload0 46 d_Ho_takeGetm_45 rfl ?_
    refine ev_gR 49 d_Ho_takeGetm_46 fl_Ho_28 rfl rfl (fun q5 => ?_)
    refine ev_aload0 50 d_Ho_takeGetm_49 rfl ?_
    refine ev_gI 53 d_Ho_takeGetm_50 fl_Ho_25 rfl rfl (fun z6 => ?_)
    refine ev_bipush 55 d_Ho_takeGetm_53 (by decide) rfl ?_
    refine ev_aload0 56 d_Ho_takeGetm_55 rfl ?_
    refine ev_gI 59 d_Ho_takeGetm_56 fl_Ho_18 rfl rfl (fun z7 => ?_)
    refine ev_iload1 60 d_Ho_takeGetm_59 rfl ?_
    refine ev_iload1 61 d_Ho_takeGetm_60 rfl ?_
    refine ev_aload0 62 d_Ho_takeGetm_61 rfl ?_
    refine ev_gI 65 d_Ho_takeGetm_62 fl_Ho_57 rfl rfl (fun z8 => ?_)
    refine ev_iload2 66 d_Ho_takeGetm_65 rfl ?_
    refine ev_cs1I (kk := 0) 69 d_Ho_takeGetm_66 cs_Ho_67 (by decide) (by decide) rfl (ev_smc rfl (ev_smc rfl (ev_smc rfl (ev_smc rfl (ev_smc rfl (ev_smc rfl (ev_smc (va_rf_cat _) ev_sm0))))))) (by decide) rfl (t_In_bitCount _ h) (fun z10 g9 => ?_)
    refine ev_cv7V (kk := 1) 72 d_Ho_takeGetm_69 cv_Ho_58 (by decide) (by decide) rfl rfl rfl rfl rfl rfl rfl ev_sm0 (by decide) rfl (t_Me_send _ _ _ _ _ _ _ _ g9) (fun g11 => ?_)
    refine ev_iconst 73 d_Ho_takeGetm_72 rfl ?_
    refine ev_istore3 74 d_Ho_takeGetm_73 (by decide) rfl ?_
    refine ev_wk (t_Ho_takeGetm_74 FU _ _ _ _ g11 _ ?_) (ev_subS (ev_subS (ev_subS (ev_subS ev_sub0))))
    intro y17_0 y17_1 y17_h
    refine ev_aload0 116 d_Ho_takeGetm_115 rfl ?_
    refine ev_iconst 117 d_Ho_takeGetm_116 rfl ?_
    refine ev_pI 120 d_Ho_takeGetm_117 fw_Ho_takeGetm_64 rfl rfl (fun g18 => ?_)
    refine ev_aload0 121 d_Ho_takeGetm_120 rfl ?_
    refine ev_iconst 122 d_Ho_takeGetm_121 rfl ?_
    refine ev_pI 125 d_Ho_takeGetm_122 fw_Ho_takeGetm_11 rfl rfl (fun g19 => ?_)
    exact ev_wk (hJ125 _ _ g19) (ev_subS (ev_subS (ev_subN (ev_subN ev_sub0))))
  · refine ev_aload0 9 d_Ho_takeGetm_8 rfl ?_
    refine ev_gR 12 d_Ho_takeGetm_9 fl_Ho_28 rfl rfl (fun q20 => ?_)
    refine ev_aload0 13 d_Ho_takeGetm_12 rfl ?_
    refine ev_gI 16 d_Ho_takeGetm_13 fl_Ho_25 rfl rfl (fun z21 => ?_)
    refine ev_iconst 17 d_Ho_takeGetm_16 rfl ?_
    refine ev_aload0 18 d_Ho_takeGetm_17 rfl ?_
    refine ev_gI 21 d_Ho_takeGetm_18 fl_Ho_18 rfl rfl (fun z22 => ?_)
    refine ev_aload0 22 d_Ho_takeGetm_21 rfl ?_
    refine ev_gI 25 d_Ho_takeGetm_22 fl_Ho_15 rfl rfl (fun z23 => ?_)
    refine ev_iload1 26 d_Ho_takeGetm_25 rfl ?_
    refine ev_iconst 27 d_Ho_takeGetm_26 rfl ?_
    refine ev_iconst 28 d_Ho_takeGetm_27 rfl ?_
    refine ev_cv7V (kk := 1) 31 d_Ho_takeGetm_28 cv_Ho_58 (by decide) (by decide) rfl rfl rfl rfl rfl rfl rfl ev_sm0 (by decide) rfl (t_Me_send _ _ _ _ _ _ _ _ h) (fun g24 => ?_)
    refine ev_goto 125 d_Ho_takeGetm_31 (by decide) ?_
    exact ev_wk (hJ125 _ _ g24) (ev_subS (ev_subS (ev_subN (ev_subN ev_sub0))))
theorem t_Ho_dropSharer {E : ev_E} (x0 : Option Nat) (x1 : Int) (h : ev_hs) : EvO E M_Ho_dropSharer 1 cvV 0 [some (va_rf x0), some (eI x1)] [] h (f_Ho_dropSharer x0 x1 h) := by
  unfold f_Ho_dropSharer
  refine ev_aload0 1 d_Ho_dropSharer_0 rfl ?_
  refine ev_dup 2 d_Ho_dropSharer_1 (va_rf_cat _) rfl ?_
  refine ev_gI 5 d_Ho_dropSharer_2 fl_Ho_64 rfl rfl (fun z1 => ?_)
  refine ev_iconst 6 d_Ho_dropSharer_5 rfl ?_
  refine ev_iload1 7 d_Ho_dropSharer_6 rfl ?_
  refine ev_ishl 8 d_Ho_dropSharer_7 rfl ?_
  refine ev_iconst 9 d_Ho_dropSharer_8 rfl ?_
  refine ev_ixor 10 d_Ho_dropSharer_9 rfl ?_
  refine ev_iand 11 d_Ho_dropSharer_10 rfl ?_
  refine ev_pI 14 d_Ho_dropSharer_11 fw_Ho_dropSharer_64 rfl rfl (fun g2 => ?_)
  refine ev_aload0 15 d_Ho_dropSharer_14 rfl ?_
  refine ev_gI 18 d_Ho_dropSharer_15 fl_Ho_11 rfl rfl (fun z3 => ?_)
  refine ev_iconst 19 d_Ho_dropSharer_18 rfl ?_
  refine ev_icmp_ne 34 22 d_Ho_dropSharer_19 (by decide) rfl ?_ ?_
  · exact ev_return d_Ho_dropSharer_34 rfl
  · refine ev_aload0 23 d_Ho_dropSharer_22 rfl ?_
    refine ev_gI 26 d_Ho_dropSharer_23 fl_Ho_64 rfl rfl (fun z4 => ?_)
    refine ev_if_ne 34 29 d_Ho_dropSharer_26 (by decide) rfl ?_ ?_
    · exact ev_return d_Ho_dropSharer_34 rfl
    · refine ev_aload0 30 d_Ho_dropSharer_29 rfl ?_
      refine ev_iconst 31 d_Ho_dropSharer_30 rfl ?_
      refine ev_pI 34 d_Ho_dropSharer_31 fw_Ho_dropSharer_11 rfl rfl (fun g5 => ?_)
      exact ev_return d_Ho_dropSharer_34 rfl
theorem t_Ho_takePuts {E : ev_E} (x0 : Option Nat) (x1 : Int) (h : ev_hs) : EvO E M_Ho_takePuts 9 cvV 0 [some (va_rf x0), some (eI x1)] [] h (f_Ho_takePuts x0 x1 h) := by
  unfold f_Ho_takePuts
  refine ev_aload0 1 d_Ho_takePuts_0 rfl ?_
  refine ev_iload1 2 d_Ho_takePuts_1 rfl ?_
  refine ev_cv1V (kk := 0) 5 d_Ho_takePuts_2 cv_Ho_72 (by decide) (by decide) rfl ev_sm0 (by decide) rfl (t_Ho_dropSharer _ _ h) (fun g1 => ?_)
  refine ev_aload0 6 d_Ho_takePuts_5 rfl ?_
  refine ev_gR 9 d_Ho_takePuts_6 fl_Ho_28 rfl rfl (fun q2 => ?_)
  refine ev_aload0 10 d_Ho_takePuts_9 rfl ?_
  refine ev_gI 13 d_Ho_takePuts_10 fl_Ho_25 rfl rfl (fun z3 => ?_)
  refine ev_bipush 15 d_Ho_takePuts_13 (by decide) rfl ?_
  refine ev_aload0 16 d_Ho_takePuts_15 rfl ?_
  refine ev_gI 19 d_Ho_takePuts_16 fl_Ho_18 rfl rfl (fun z4 => ?_)
  refine ev_iload1 20 d_Ho_takePuts_19 rfl ?_
  refine ev_iload1 21 d_Ho_takePuts_20 rfl ?_
  refine ev_iconst 22 d_Ho_takePuts_21 rfl ?_
  refine ev_iconst 23 d_Ho_takePuts_22 rfl ?_
  refine ev_cv7V (kk := 1) 26 d_Ho_takePuts_23 cv_Ho_58 (by decide) (by decide) rfl rfl rfl rfl rfl rfl rfl ev_sm0 (by decide) rfl (t_Me_send _ _ _ _ _ _ _ _ g1) (fun g5 => ?_)
  exact ev_return d_Ho_takePuts_26 rfl
theorem t_Ho_takePutm {E : ev_E} (x0 : Option Nat) (x1 : Int) (x2 : Int) (h : ev_hs) : EvO E M_Ho_takePutm 9 cvV 0 [some (va_rf x0), some (eI x1), some (eI x2)] [] h (f_Ho_takePutm x0 x1 x2 h) := by
  unfold f_Ho_takePutm
  refine ev_jn (fun J => ∀ (u1_0 : Option Nat) (u1_1 : Int) (u1_h : ev_hs), EvO E M_Ho_takePutm 9 cvV 39 [some (va_rf u1_0), some (eI u1_1), none] [] u1_h (J u1_0 u1_1 u1_h)) ?_ (fun J39 hJ39 => ?_)
  · intro u1_0 u1_1 u1_h
    refine ev_aload0 40 d_Ho_takePutm_39 rfl ?_
    refine ev_gR 43 d_Ho_takePutm_40 fl_Ho_28 rfl rfl (fun q2 => ?_)
    refine ev_aload0 44 d_Ho_takePutm_43 rfl ?_
    refine ev_gI 47 d_Ho_takePutm_44 fl_Ho_25 rfl rfl (fun z3 => ?_)
    refine ev_bipush 49 d_Ho_takePutm_47 (by decide) rfl ?_
    refine ev_aload0 50 d_Ho_takePutm_49 rfl ?_
    refine ev_gI 53 d_Ho_takePutm_50 fl_Ho_18 rfl rfl (fun z4 => ?_)
    refine ev_iload1 54 d_Ho_takePutm_53 rfl ?_
    refine ev_iload1 55 d_Ho_takePutm_54 rfl ?_
    refine ev_iconst 56 d_Ho_takePutm_55 rfl ?_
    refine ev_iconst 57 d_Ho_takePutm_56 rfl ?_
    refine ev_cv7V (kk := 1) 60 d_Ho_takePutm_57 cv_Ho_58 (by decide) (by decide) rfl rfl rfl rfl rfl rfl rfl ev_sm0 (by decide) rfl (t_Me_send _ _ _ _ _ _ _ _ u1_h) (fun g5 => ?_)
    exact ev_return d_Ho_takePutm_60 rfl
  refine ev_jn (fun J => ∀ (u6_0 : Option Nat) (u6_1 : Int) (u6_h : ev_hs), EvO E M_Ho_takePutm 9 cvV 34 [some (va_rf u6_0), some (eI u6_1), none] [] u6_h (J u6_0 u6_1 u6_h)) ?_ (fun J34 hJ34 => ?_)
  · intro u6_0 u6_1 u6_h
    refine ev_aload0 35 d_Ho_takePutm_34 rfl ?_
    refine ev_iload1 36 d_Ho_takePutm_35 rfl ?_
    refine ev_cv1V (kk := 0) 39 d_Ho_takePutm_36 cv_Ho_72 (by decide) (by decide) rfl ev_sm0 (by decide) rfl (t_Ho_dropSharer _ _ u6_h) (fun g7 => ?_)
    exact ev_wk (hJ39 _ _ g7) (ev_subS (ev_subS (ev_subN ev_sub0)))
  refine ev_aload0 1 d_Ho_takePutm_0 rfl ?_
  refine ev_gI 4 d_Ho_takePutm_1 fl_Ho_11 rfl rfl (fun z8 => ?_)
  refine ev_iconst 5 d_Ho_takePutm_4 rfl ?_
  refine ev_icmp_ne 34 8 d_Ho_takePutm_5 (by decide) rfl ?_ ?_
  · exact ev_wk (hJ34 _ _ h) (ev_subS (ev_subS (ev_subN ev_sub0)))
  · refine ev_aload0 9 d_Ho_takePutm_8 rfl ?_
    refine ev_gI 12 d_Ho_takePutm_9 fl_Ho_15 rfl rfl (fun z9 => ?_)
    refine ev_iload1 13 d_Ho_takePutm_12 rfl ?_
    refine ev_icmp_ne 34 16 d_Ho_takePutm_13 (by decide) rfl ?_ ?_
    · exact ev_wk (hJ34 _ _ h) (ev_subS (ev_subS (ev_subN ev_sub0)))
    · refine ev_aload0 17 d_Ho_takePutm_16 rfl ?_
      refine ev_iload2 18 d_Ho_takePutm_17 rfl ?_
      refine ev_pI 21 d_Ho_takePutm_18 fw_Ho_takePutm_57 rfl rfl (fun g10 => ?_)
      refine ev_aload0 22 d_Ho_takePutm_21 rfl ?_
      refine ev_iconst 23 d_Ho_takePutm_22 rfl ?_
      refine ev_pI 26 d_Ho_takePutm_23 fw_Ho_takePutm_15 rfl rfl (fun g11 => ?_)
      refine ev_aload0 27 d_Ho_takePutm_26 rfl ?_
      refine ev_iconst 28 d_Ho_takePutm_27 rfl ?_
      refine ev_pI 31 d_Ho_takePutm_28 fw_Ho_takePutm_11 rfl rfl (fun g12 => ?_)
      refine ev_goto 39 d_Ho_takePutm_31 (by decide) ?_
      exact ev_wk (hJ39 _ _ g12) (ev_subS (ev_subS (ev_subN ev_sub0)))
theorem t_Ho_take {E : ev_E} (x0 : Option Nat) (x1 : Option Nat) (h : ev_hs) : EvO E M_Ho_take 10 cvV 0 [some (va_rf x0), some (va_rf x1)] [] h (f_Ho_take x0 x1 h) := by
  unfold f_Ho_take
  refine ev_aload1 1 d_Ho_take_0 rfl ?_
  refine ev_gI 4 d_Ho_take_1 fl_Ho_32 rfl rfl (fun z1 => ?_)
  refine ev_peel (fun ee2 => ?_) (fun ne2 oe2 => ?_)
  · refine ev_tsIn 64 d_Ho_take_4 ee2 (by decide) (by decide) (by decide) rfl (by decide) ?_
    refine ev_aload0 65 d_Ho_take_64 rfl ?_
    refine ev_aload1 66 d_Ho_take_65 rfl ?_
    refine ev_gI 69 d_Ho_take_66 fl_Ho_37 rfl rfl (fun z3 => ?_)
    refine ev_cv1V (kk := 0) 72 d_Ho_take_69 cv_Ho_40 (by decide) (by decide) rfl ev_sm0 (by decide) rfl (t_Ho_takeGets _ _ h) (fun g4 => ?_)
    refine ev_goto 143 d_Ho_take_72 (by decide) ?_
    exact ev_return d_Ho_take_143 rfl
  refine ev_peel (fun ee5 => ?_) (fun ne5 oe5 => ?_)
  · refine ev_tsIn 75 d_Ho_take_4 ee5 (by decide) (by decide) (by decide) rfl (by decide) ?_
    refine ev_aload0 76 d_Ho_take_75 rfl ?_
    refine ev_aload1 77 d_Ho_take_76 rfl ?_
    refine ev_gI 80 d_Ho_take_77 fl_Ho_37 rfl rfl (fun z6 => ?_)
    refine ev_cv1V (kk := 2) 83 d_Ho_take_80 cv_Ho_44 (by decide) (by decide) rfl ev_sm0 (by decide) rfl (t_Ho_takeGetm _ _ h) (fun g7 => ?_)
    refine ev_goto 143 d_Ho_take_83 (by decide) ?_
    exact ev_return d_Ho_take_143 rfl
  refine ev_peel (fun ee8 => ?_) (fun ne8 oe8 => ?_)
  · refine ev_tsIn 86 d_Ho_take_4 ee8 (by decide) (by decide) (by decide) rfl (by decide) ?_
    refine ev_aload0 87 d_Ho_take_86 rfl ?_
    refine ev_aload1 88 d_Ho_take_87 rfl ?_
    refine ev_gI 91 d_Ho_take_88 fl_Ho_37 rfl rfl (fun z9 => ?_)
    refine ev_cv1V (kk := 0) 94 d_Ho_take_91 cv_Ho_47 (by decide) (by decide) rfl ev_sm0 (by decide) rfl (t_Ho_takePuts _ _ h) (fun g10 => ?_)
    refine ev_goto 143 d_Ho_take_94 (by decide) ?_
    exact ev_return d_Ho_take_143 rfl
  refine ev_peel (fun ee11 => ?_) (fun ne11 oe11 => ?_)
  · refine ev_tsIn 97 d_Ho_take_4 ee11 (by decide) (by decide) (by decide) rfl (by decide) ?_
    refine ev_aload0 98 d_Ho_take_97 rfl ?_
    refine ev_aload1 99 d_Ho_take_98 rfl ?_
    refine ev_gI 102 d_Ho_take_99 fl_Ho_37 rfl rfl (fun z12 => ?_)
    refine ev_aload1 103 d_Ho_take_102 rfl ?_
    refine ev_gI 106 d_Ho_take_103 fl_Ho_50 rfl rfl (fun z13 => ?_)
    refine ev_cv2V (kk := 0) 109 d_Ho_take_106 cv_Ho_53 (by decide) (by decide) rfl rfl ev_sm0 (by decide) rfl (t_Ho_takePutm _ _ _ h) (fun g14 => ?_)
    refine ev_goto 143 d_Ho_take_109 (by decide) ?_
    exact ev_return d_Ho_take_143 rfl
  refine ev_peel (fun ee15 => ?_) (fun ne15 oe15 => ?_)
  · refine ev_tsIn 143 d_Ho_take_4 ee15 (by decide) (by decide) (by decide) rfl (by decide) ?_
    exact ev_return d_Ho_take_143 rfl
  refine ev_peel (fun ee16 => ?_) (fun ne16 oe16 => ?_)
  · refine ev_tsIn 143 d_Ho_take_4 ee16 (by decide) (by decide) (by decide) rfl (by decide) ?_
    exact ev_return d_Ho_take_143 rfl
  refine ev_peel (fun ee17 => ?_) (fun ne17 oe17 => ?_)
  · refine ev_tsIn 143 d_Ho_take_4 ee17 (by decide) (by decide) (by decide) rfl (by decide) ?_
    exact ev_return d_Ho_take_143 rfl
  refine ev_peel (fun ee18 => ?_) (fun ne18 oe18 => ?_)
  · refine ev_tsIn 143 d_Ho_take_4 ee18 (by decide) (by decide) (by decide) rfl (by decide) ?_
    exact ev_return d_Ho_take_143 rfl
  refine ev_peel (fun ee19 => ?_) (fun ne19 oe19 => ?_)
  · refine ev_tsIn 143 d_Ho_take_4 ee19 (by decide) (by decide) (by decide) rfl (by decide) ?_
    exact ev_return d_Ho_take_143 rfl
  refine ev_peel (fun ee20 => ?_) (fun ne20 oe20 => ?_)
  · refine ev_tsIn 143 d_Ho_take_4 ee20 (by decide) (by decide) (by decide) rfl (by decide) ?_
    exact ev_return d_Ho_take_143 rfl
  refine ev_peel (fun ee21 => ?_) (fun ne21 oe21 => ?_)
  · refine ev_tsIn 112 d_Ho_take_4 ee21 (by decide) (by decide) (by decide) rfl (by decide) ?_
    refine ev_jn (fun J => ∀ (u22_s0 : Option Nat) (u22_s1 : Int) (u22_h : ev_hs), EvO E M_Ho_take 10 cvV 137 [none, none] [eI u22_s1, va_rf u22_s0] u22_h (J u22_s0 u22_s1 u22_h)) ?_ (fun J137 hJ137 => ?_)
    · intro u22_s0 u22_s1 u22_h
      refine ev_pI 140 d_Ho_take_137 fw_Ho_take_11 rfl rfl (fun g23 => ?_)
      refine ev_goto 143 d_Ho_take_140 (by decide) ?_
      exact ev_return d_Ho_take_143 rfl
    refine ev_aload0 113 d_Ho_take_112 rfl ?_
    refine ev_aload1 114 d_Ho_take_113 rfl ?_
    refine ev_gI 117 d_Ho_take_114 fl_Ho_50 rfl rfl (fun z24 => ?_)
    refine ev_pI 120 d_Ho_take_117 fw_Ho_take_57 rfl rfl (fun g25 => ?_)
    refine ev_aload0 121 d_Ho_take_120 rfl ?_
    refine ev_aload0 122 d_Ho_take_121 rfl ?_
    refine ev_gI 125 d_Ho_take_122 fl_Ho_11 rfl rfl (fun z26 => ?_)
    refine ev_iconst 126 d_Ho_take_125 rfl ?_
    refine ev_icmp_ne 133 129 d_Ho_take_126 (by decide) rfl ?_ ?_
    · refine ev_aload0 134 d_Ho_take_133 rfl ?_
      refine ev_gI 137 d_Ho_take_134 fl_Ho_11 rfl rfl (fun z27 => ?_)
      exact ev_wk (hJ137 _ _ g25) (ev_subN (ev_subN ev_sub0))
    · refine ev_iconst 130 d_Ho_take_129 rfl ?_
      refine ev_goto 137 d_Ho_take_130 (by decide) ?_
      exact ev_wk (hJ137 _ _ g25) (ev_subN (ev_subN ev_sub0))
  refine ev_tsOut 143 d_Ho_take_4 oe21 (by omega) (by decide) ?_
  exact ev_return d_Ho_take_143 rfl
theorem t_Ca_takeData {E : ev_E} (x0 : Option Nat) (x1 : Option Nat) (h : ev_hs) : EvO E M_Ca_takeData 1 cvI 0 [some (va_rf x0), some (va_rf x1), none, none] [] h (f_Ca_takeData x0 x1 h) := by
  unfold f_Ca_takeData
  refine ev_jn (fun J => ∀ (u1_0 : Option Nat) (u1_2 : Int) (u1_s0 : Int) (u1_h : ev_hs), EvO E M_Ca_takeData 1 cvI 42 [some (va_rf u1_0), none, some (eI u1_2), none] [eI u1_s0] u1_h (J u1_0 u1_2 u1_s0 u1_h)) ?_ (fun J42 hJ42 => ?_)
  · intro u1_0 u1_2 u1_s0 u1_h
    refine ev_istore3 43 d_Ca_takeData_42 (by decide) rfl ?_
    refine ev_aload0 44 d_Ca_takeData_43 rfl ?_
    refine ev_gR 47 d_Ca_takeData_44 fl_Ca_9 rfl rfl (fun q2 => ?_)
    refine ev_iload2 48 d_Ca_takeData_47 rfl ?_
    refine ev_iaload 49 d_Ca_takeData_48 rfl (fun z3 => ?_)
    refine ev_peel (fun ee4 => ?_) (fun ne4 oe4 => ?_)
    · refine ev_tsIn 84 d_Ca_takeData_49 ee4 (by decide) (by decide) (by decide) rfl (by decide) ?_
      refine ev_aload0 85 d_Ca_takeData_84 rfl ?_
      refine ev_gR 88 d_Ca_takeData_85 fl_Ca_9 rfl rfl (fun q5 => ?_)
      refine ev_iload2 89 d_Ca_takeData_88 rfl ?_
      refine ev_iconst 90 d_Ca_takeData_89 rfl ?_
      refine ev_iastore 91 d_Ca_takeData_90 rfl (fun g6 => ?_)
      refine ev_iconst 92 d_Ca_takeData_91 rfl ?_
      exact ev_zreturn d_Ca_takeData_92 rfl
    refine ev_peel (fun ee7 => ?_) (fun ne7 oe7 => ?_)
    · refine ev_tsIn 93 d_Ca_takeData_49 ee7 (by decide) (by decide) (by decide) rfl (by decide) ?_
      refine ev_jn (fun J => ∀ (u8_3 : Int) (u8_s0 : Option Nat) (u8_s1 : Int) (u8_s2 : Int) (u8_h : ev_hs), EvO E M_Ca_takeData 1 cvI 108 [none, none, none, some (eI u8_3)] [eI u8_s2, eI u8_s1, va_rf u8_s0] u8_h (J u8_3 u8_s0 u8_s1 u8_s2 u8_h)) ?_ (fun J108 hJ108 => ?_)
      · intro u8_3 u8_s0 u8_s1 u8_s2 u8_h
        refine ev_iastore 109 d_Ca_takeData_108 rfl (fun g9 => ?_)
        refine ev_iload3 110 d_Ca_takeData_109 rfl ?_
        exact ev_zreturn d_Ca_takeData_110 rfl
      refine ev_aload0 94 d_Ca_takeData_93 rfl ?_
      refine ev_gR 97 d_Ca_takeData_94 fl_Ca_9 rfl rfl (fun q10 => ?_)
      refine ev_iload2 98 d_Ca_takeData_97 rfl ?_
      refine ev_iload3 99 d_Ca_takeData_98 rfl ?_
      refine ev_if_eq 107 102 d_Ca_takeData_99 (by decide) rfl ?_ ?_
      · refine ev_iconst 108 d_Ca_takeData_107 rfl ?_
        exact ev_wk (hJ108 _ _ _ _ u1_h) (ev_subN (ev_subN (ev_subN (ev_subS ev_sub0))))
      · refine ev_bipush 104 d_Ca_takeData_102 (by decide) rfl ?_
        refine ev_goto 108 d_Ca_takeData_104 (by decide) ?_
        exact ev_wk (hJ108 _ _ _ _ u1_h) (ev_subN (ev_subN (ev_subN (ev_subS ev_sub0))))
    refine ev_peel (fun ee11 => ?_) (fun ne11 oe11 => ?_)
    · refine ev_tsIn 130 d_Ca_takeData_49 ee11 (by decide) (by decide) (by decide) rfl (by decide) ?_
      refine ev_iconst 131 d_Ca_takeData_130 rfl ?_
      exact ev_zreturn d_Ca_takeData_131 rfl
    refine ev_peel (fun ee12 => ?_) (fun ne12 oe12 => ?_)
    · refine ev_tsIn 130 d_Ca_takeData_49 ee12 (by decide) (by decide) (by decide) rfl (by decide) ?_
      refine ev_iconst 131 d_Ca_takeData_130 rfl ?_
      exact ev_zreturn d_Ca_takeData_131 rfl
    refine ev_peel (fun ee13 => ?_) (fun ne13 oe13 => ?_)
    · refine ev_tsIn 111 d_Ca_takeData_49 ee13 (by decide) (by decide) (by decide) rfl (by decide) ?_
      refine ev_jn (fun J => ∀ (u14_3 : Int) (u14_s0 : Option Nat) (u14_s1 : Int) (u14_s2 : Int) (u14_h : ev_hs), EvO E M_Ca_takeData 1 cvI 127 [none, none, none, some (eI u14_3)] [eI u14_s2, eI u14_s1, va_rf u14_s0] u14_h (J u14_3 u14_s0 u14_s1 u14_s2 u14_h)) ?_ (fun J127 hJ127 => ?_)
      · intro u14_3 u14_s0 u14_s1 u14_s2 u14_h
        refine ev_iastore 128 d_Ca_takeData_127 rfl (fun g15 => ?_)
        refine ev_iload3 129 d_Ca_takeData_128 rfl ?_
        exact ev_zreturn d_Ca_takeData_129 rfl
      refine ev_aload0 112 d_Ca_takeData_111 rfl ?_
      refine ev_gR 115 d_Ca_takeData_112 fl_Ca_9 rfl rfl (fun q16 => ?_)
      refine ev_iload2 116 d_Ca_takeData_115 rfl ?_
      refine ev_iload3 117 d_Ca_takeData_116 rfl ?_
      refine ev_if_eq 125 120 d_Ca_takeData_117 (by decide) rfl ?_ ?_
      · refine ev_bipush 127 d_Ca_takeData_125 (by decide) rfl ?_
        exact ev_wk (hJ127 _ _ _ _ u1_h) (ev_subN (ev_subN (ev_subN (ev_subS ev_sub0))))
      · refine ev_bipush 122 d_Ca_takeData_120 (by decide) rfl ?_
        refine ev_goto 127 d_Ca_takeData_122 (by decide) ?_
        exact ev_wk (hJ127 _ _ _ _ u1_h) (ev_subN (ev_subN (ev_subN (ev_subS ev_sub0))))
    refine ev_tsOut 130 d_Ca_takeData_49 oe13 (by omega) (by decide) ?_
    refine ev_iconst 131 d_Ca_takeData_130 rfl ?_
    exact ev_zreturn d_Ca_takeData_131 rfl
  refine ev_aload1 1 d_Ca_takeData_0 rfl ?_
  refine ev_gI 4 d_Ca_takeData_1 fl_Ca_32 rfl rfl (fun z17 => ?_)
  refine ev_istore2 5 d_Ca_takeData_4 (by decide) rfl ?_
  refine ev_aload0 6 d_Ca_takeData_5 rfl ?_
  refine ev_gR 9 d_Ca_takeData_6 fl_Ca_18 rfl rfl (fun q18 => ?_)
  refine ev_iload2 10 d_Ca_takeData_9 rfl ?_
  refine ev_dup2 11 d_Ca_takeData_10 rfl (va_rf_cat _) rfl ?_
  refine ev_iaload 12 d_Ca_takeData_11 rfl (fun z19 => ?_)
  refine ev_aload1 13 d_Ca_takeData_12 rfl ?_
  refine ev_gI 16 d_Ca_takeData_13 fl_Ca_67 rfl rfl (fun z20 => ?_)
  refine ev_iadd 17 d_Ca_takeData_16 rfl ?_
  refine ev_iastore 18 d_Ca_takeData_17 rfl (fun g21 => ?_)
  refine ev_aload0 19 d_Ca_takeData_18 rfl ?_
  refine ev_gR 22 d_Ca_takeData_19 fl_Ca_15 rfl rfl (fun q22 => ?_)
  refine ev_iload2 23 d_Ca_takeData_22 rfl ?_
  refine ev_aload1 24 d_Ca_takeData_23 rfl ?_
  refine ev_gI 27 d_Ca_takeData_24 fl_Ca_70 rfl rfl (fun z23 => ?_)
  refine ev_iastore 28 d_Ca_takeData_27 rfl (fun g24 => ?_)
  refine ev_aload0 29 d_Ca_takeData_28 rfl ?_
  refine ev_gR 32 d_Ca_takeData_29 fl_Ca_18 rfl rfl (fun q25 => ?_)
  refine ev_iload2 33 d_Ca_takeData_32 rfl ?_
  refine ev_iaload 34 d_Ca_takeData_33 rfl (fun z26 => ?_)
  refine ev_if_ne 41 37 d_Ca_takeData_34 (by decide) rfl ?_ ?_
  · refine ev_iconst 42 d_Ca_takeData_41 rfl ?_
    exact ev_wk (hJ42 _ _ _ g24) (ev_subS (ev_subN (ev_subS (ev_subN ev_sub0))))
  · refine ev_iconst 38 d_Ca_takeData_37 rfl ?_
    refine ev_goto 42 d_Ca_takeData_38 (by decide) ?_
    exact ev_wk (hJ42 _ _ _ g24) (ev_subS (ev_subN (ev_subS (ev_subN ev_sub0))))
theorem t_Ca_takeAck {E : ev_E} (x0 : Option Nat) (x1 : Int) (h : ev_hs) : EvO E M_Ca_takeAck 1 cvI 0 [some (va_rf x0), some (eI x1), none] [] h (f_Ca_takeAck x0 x1 h) := by
  unfold f_Ca_takeAck
  refine ev_jn (fun J => ∀ (u1_0 : Option Nat) (u1_1 : Int) (u1_s0 : Int) (u1_h : ev_hs), EvO E M_Ca_takeAck 1 cvI 36 [some (va_rf u1_0), some (eI u1_1), none] [eI u1_s0] u1_h (J u1_0 u1_1 u1_s0 u1_h)) ?_ (fun J36 hJ36 => ?_)
  · intro u1_0 u1_1 u1_s0 u1_h
    refine ev_jn (fun J => ∀ (u2_h : ev_hs), EvO E M_Ca_takeAck 1 cvI 50 [none, none, none] [] u2_h (J u2_h)) ?_ (fun J50 hJ50 => ?_)
    · intro u2_h
      refine ev_iconst 51 d_Ca_takeAck_50 rfl ?_
      exact ev_zreturn d_Ca_takeAck_51 rfl
    refine ev_istore2 37 d_Ca_takeAck_36 (by decide) rfl ?_
    refine ev_iload2 38 d_Ca_takeAck_37 rfl ?_
    refine ev_if_eq 50 41 d_Ca_takeAck_38 (by decide) rfl ?_ ?_
    · exact ev_wk (hJ50 u1_h) (ev_subN (ev_subN (ev_subN ev_sub0)))
    · refine ev_aload0 42 d_Ca_takeAck_41 rfl ?_
      refine ev_gR 45 d_Ca_takeAck_42 fl_Ca_18 rfl rfl (fun q3 => ?_)
      refine ev_iload1 46 d_Ca_takeAck_45 rfl ?_
      refine ev_iaload 47 d_Ca_takeAck_46 rfl (fun z4 => ?_)
      refine ev_if_eq 52 50 d_Ca_takeAck_47 (by decide) rfl ?_ ?_
      · refine ev_aload0 53 d_Ca_takeAck_52 rfl ?_
        refine ev_gR 56 d_Ca_takeAck_53 fl_Ca_9 rfl rfl (fun q5 => ?_)
        refine ev_iload1 57 d_Ca_takeAck_56 rfl ?_
        refine ev_bipush 59 d_Ca_takeAck_57 (by decide) rfl ?_
        refine ev_iastore 60 d_Ca_takeAck_59 rfl (fun g6 => ?_)
        refine ev_iconst 61 d_Ca_takeAck_60 rfl ?_
        exact ev_zreturn d_Ca_takeAck_61 rfl
      · exact ev_wk (hJ50 u1_h) (ev_subN (ev_subN (ev_subN ev_sub0)))
  refine ev_jn (fun J => ∀ (u7_0 : Option Nat) (u7_1 : Int) (u7_h : ev_hs), EvO E M_Ca_takeAck 1 cvI 31 [some (va_rf u7_0), some (eI u7_1), none] [] u7_h (J u7_0 u7_1 u7_h)) ?_ (fun J31 hJ31 => ?_)
  · intro u7_0 u7_1 u7_h
    refine ev_iconst 32 d_Ca_takeAck_31 rfl ?_
    refine ev_goto 36 d_Ca_takeAck_32 (by decide) ?_
    exact ev_wk (hJ36 _ _ _ u7_h) (ev_subS (ev_subS (ev_subN ev_sub0)))
  refine ev_aload0 1 d_Ca_takeAck_0 rfl ?_
  refine ev_gR 4 d_Ca_takeAck_1 fl_Ca_18 rfl rfl (fun q8 => ?_)
  refine ev_iload1 5 d_Ca_takeAck_4 rfl ?_
  refine ev_dup2 6 d_Ca_takeAck_5 rfl (va_rf_cat _) rfl ?_
  refine ev_iaload 7 d_Ca_takeAck_6 rfl (fun z9 => ?_)
  refine ev_iconst 8 d_Ca_takeAck_7 rfl ?_
  refine ev_isub 9 d_Ca_takeAck_8 rfl ?_
  refine ev_iastore 10 d_Ca_takeAck_9 rfl (fun g10 => ?_)
  refine ev_aload0 11 d_Ca_takeAck_10 rfl ?_
  refine ev_gR 14 d_Ca_takeAck_11 fl_Ca_9 rfl rfl (fun q11 => ?_)
  refine ev_iload1 15 d_Ca_takeAck_14 rfl ?_
  refine ev_iaload 16 d_Ca_takeAck_15 rfl (fun z12 => ?_)
  refine ev_iconst 17 d_Ca_takeAck_16 rfl ?_
  refine ev_icmp_eq 31 20 d_Ca_takeAck_17 (by decide) rfl ?_ ?_
  · exact ev_wk (hJ31 _ _ g10) (ev_subS (ev_subS (ev_subN ev_sub0)))
  · refine ev_aload0 21 d_Ca_takeAck_20 rfl ?_
    refine ev_gR 24 d_Ca_takeAck_21 fl_Ca_9 rfl rfl (fun q13 => ?_)
    refine ev_iload1 25 d_Ca_takeAck_24 rfl ?_
    refine ev_iaload 26 d_Ca_takeAck_25 rfl (fun z14 => ?_)
    refine ev_bipush 28 d_Ca_takeAck_26 (by decide) rfl ?_
    refine ev_icmp_ne 35 31 d_Ca_takeAck_28 (by decide) rfl ?_ ?_
    · refine ev_iconst 36 d_Ca_takeAck_35 rfl ?_
      exact ev_wk (hJ36 _ _ _ g10) (ev_subS (ev_subS (ev_subN ev_sub0)))
    · exact ev_wk (hJ31 _ _ g10) (ev_subS (ev_subS (ev_subN ev_sub0)))
theorem t_Ca_become {E : ev_E} (x0 : Option Nat) (x1 : Int) (x2 : Int) (h : ev_hs) : EvO E M_Ca_become 1 cvV 0 [some (va_rf x0), some (eI x1), some (eI x2)] [] h (f_Ca_become x0 x1 x2 h) := by
  unfold f_Ca_become
  refine ev_aload0 1 d_Ca_become_0 rfl ?_
  refine ev_gR 4 d_Ca_become_1 fl_Ca_9 rfl rfl (fun q1 => ?_)
  refine ev_iload1 5 d_Ca_become_4 rfl ?_
  refine ev_iload2 6 d_Ca_become_5 rfl ?_
  refine ev_iastore 7 d_Ca_become_6 rfl (fun g2 => ?_)
  refine ev_iload2 8 d_Ca_become_7 rfl ?_
  refine ev_if_ne 18 11 d_Ca_become_8 (by decide) rfl ?_ ?_
  · exact ev_return d_Ca_become_18 rfl
  · refine ev_aload0 12 d_Ca_become_11 rfl ?_
    refine ev_gR 15 d_Ca_become_12 fl_Ca_15 rfl rfl (fun q3 => ?_)
    refine ev_iload1 16 d_Ca_become_15 rfl ?_
    refine ev_iconst 17 d_Ca_become_16 rfl ?_
    refine ev_iastore 18 d_Ca_become_17 rfl (fun g4 => ?_)
    exact ev_return d_Ca_become_18 rfl
theorem t_Ca_takeInv {E : ev_E} (x0 : Option Nat) (x1 : Option Nat) (h : ev_hs) : EvO E M_Ca_takeInv 9 cvV 0 [some (va_rf x0), some (va_rf x1), none] [] h (f_Ca_takeInv x0 x1 h) := by
  unfold f_Ca_takeInv
  refine ev_jn (fun J => ∀ (u1_0 : Option Nat) (u1_1 : Option Nat) (u1_2 : Int) (u1_h : ev_hs), EvO E M_Ca_takeInv 9 cvV 45 [some (va_rf u1_0), some (va_rf u1_1), some (eI u1_2)] [] u1_h (J u1_0 u1_1 u1_2 u1_h)) ?_ (fun J45 hJ45 => ?_)
  · intro u1_0 u1_1 u1_2 u1_h
    refine ev_aload0 46 d_Ca_takeInv_45 rfl ?_
    refine ev_gR 49 d_Ca_takeInv_46 fl_Ca_28 rfl rfl (fun q2 => ?_)
    refine ev_aload0 50 d_Ca_takeInv_49 rfl ?_
    refine ev_gI 53 d_Ca_takeInv_50 fl_Ca_24 rfl rfl (fun z3 => ?_)
    refine ev_bipush 55 d_Ca_takeInv_53 (by decide) rfl ?_
    refine ev_iload2 56 d_Ca_takeInv_55 rfl ?_
    refine ev_aload1 57 d_Ca_takeInv_56 rfl ?_
    refine ev_gI 60 d_Ca_takeInv_57 fl_Ca_56 rfl rfl (fun z4 => ?_)
    refine ev_aload1 61 d_Ca_takeInv_60 rfl ?_
    refine ev_gI 64 d_Ca_takeInv_61 fl_Ca_56 rfl rfl (fun z5 => ?_)
    refine ev_iconst 65 d_Ca_takeInv_64 rfl ?_
    refine ev_iconst 66 d_Ca_takeInv_65 rfl ?_
    refine ev_cv7V (kk := 1) 69 d_Ca_takeInv_66 cv_Ca_73 (by decide) (by decide) rfl rfl rfl rfl rfl rfl rfl ev_sm0 (by decide) rfl (t_Me_send _ _ _ _ _ _ _ _ u1_h) (fun g6 => ?_)
    exact ev_return d_Ca_takeInv_69 rfl
  refine ev_aload1 1 d_Ca_takeInv_0 rfl ?_
  refine ev_gI 4 d_Ca_takeInv_1 fl_Ca_32 rfl rfl (fun z7 => ?_)
  refine ev_istore2 5 d_Ca_takeInv_4 (by decide) rfl ?_
  refine ev_aload0 6 d_Ca_takeInv_5 rfl ?_
  refine ev_gR 9 d_Ca_takeInv_6 fl_Ca_9 rfl rfl (fun q8 => ?_)
  refine ev_iload2 10 d_Ca_takeInv_9 rfl ?_
  refine ev_iaload 11 d_Ca_takeInv_10 rfl (fun z9 => ?_)
  refine ev_iconst 12 d_Ca_takeInv_11 rfl ?_
  refine ev_icmp_ne 24 15 d_Ca_takeInv_12 (by decide) rfl ?_ ?_
  · refine ev_jn (fun J => ∀ (u10_0 : Option Nat) (u10_1 : Option Nat) (u10_2 : Int) (u10_s0 : Option Nat) (u10_s1 : Int) (u10_s2 : Int) (u10_h : ev_hs), EvO E M_Ca_takeInv 9 cvV 42 [some (va_rf u10_0), some (va_rf u10_1), some (eI u10_2)] [eI u10_s2, eI u10_s1, va_rf u10_s0] u10_h (J u10_0 u10_1 u10_2 u10_s0 u10_s1 u10_s2 u10_h)) ?_ (fun J42 hJ42 => ?_)
    · intro u10_0 u10_1 u10_2 u10_s0 u10_s1 u10_s2 u10_h
      refine ev_cv2V (kk := 0) 45 d_Ca_takeInv_42 cv_Ca_52 (by decide) (by decide) rfl rfl ev_sm0 (by decide) rfl (t_Ca_become _ _ _ u10_h) (fun g11 => ?_)
      exact ev_wk (hJ45 _ _ _ g11) (ev_subS (ev_subS (ev_subS ev_sub0)))
    refine ev_aload0 25 d_Ca_takeInv_24 rfl ?_
    refine ev_iload2 26 d_Ca_takeInv_25 rfl ?_
    refine ev_aload0 27 d_Ca_takeInv_26 rfl ?_
    refine ev_gR 30 d_Ca_takeInv_27 fl_Ca_9 rfl rfl (fun q12 => ?_)
    refine ev_iload2 31 d_Ca_takeInv_30 rfl ?_
    refine ev_iaload 32 d_Ca_takeInv_31 rfl (fun z13 => ?_)
    refine ev_iconst 33 d_Ca_takeInv_32 rfl ?_
    refine ev_icmp_ne 40 36 d_Ca_takeInv_33 (by decide) rfl ?_ ?_
    · refine ev_bipush 42 d_Ca_takeInv_40 (by decide) rfl ?_
      exact ev_wk (hJ42 _ _ _ _ _ _ h) (ev_subS (ev_subS (ev_subS ev_sub0)))
    · refine ev_iconst 37 d_Ca_takeInv_36 rfl ?_
      refine ev_goto 42 d_Ca_takeInv_37 (by decide) ?_
      exact ev_wk (hJ42 _ _ _ _ _ _ h) (ev_subS (ev_subS (ev_subS ev_sub0)))
  · refine ev_aload0 16 d_Ca_takeInv_15 rfl ?_
    refine ev_iload2 17 d_Ca_takeInv_16 rfl ?_
    refine ev_iconst 18 d_Ca_takeInv_17 rfl ?_
    refine ev_cv2V (kk := 0) 21 d_Ca_takeInv_18 cv_Ca_52 (by decide) (by decide) rfl rfl ev_sm0 (by decide) rfl (t_Ca_become _ _ _ h) (fun g14 => ?_)
    refine ev_goto 45 d_Ca_takeInv_21 (by decide) ?_
    exact ev_wk (hJ45 _ _ _ g14) (ev_subS (ev_subS (ev_subS ev_sub0)))
theorem t_Ca_giveData {E : ev_E} (x0 : Option Nat) (x1 : Int) (x2 : Int) (x3 : Int) (h : ev_hs) : EvO E M_Ca_giveData 9 cvV 0 [some (va_rf x0), some (eI x1), some (eI x2), some (eI x3)] [] h (f_Ca_giveData x0 x1 x2 x3 h) := by
  unfold f_Ca_giveData
  refine ev_aload0 1 d_Ca_giveData_0 rfl ?_
  refine ev_gR 4 d_Ca_giveData_1 fl_Ca_28 rfl rfl (fun q1 => ?_)
  refine ev_aload0 5 d_Ca_giveData_4 rfl ?_
  refine ev_gI 8 d_Ca_giveData_5 fl_Ca_24 rfl rfl (fun z2 => ?_)
  refine ev_iload1 9 d_Ca_giveData_8 rfl ?_
  refine ev_iload2 10 d_Ca_giveData_9 rfl ?_
  refine ev_iload3 11 d_Ca_giveData_10 rfl ?_
  refine ev_iload3 12 d_Ca_giveData_11 rfl ?_
  refine ev_aload0 13 d_Ca_giveData_12 rfl ?_
  refine ev_gR 16 d_Ca_giveData_13 fl_Ca_15 rfl rfl (fun q3 => ?_)
  refine ev_iload2 17 d_Ca_giveData_16 rfl ?_
  refine ev_iaload 18 d_Ca_giveData_17 rfl (fun z4 => ?_)
  refine ev_iconst 19 d_Ca_giveData_18 rfl ?_
  refine ev_cv7V (kk := 1) 22 d_Ca_giveData_19 cv_Ca_73 (by decide) (by decide) rfl rfl rfl rfl rfl rfl rfl ev_sm0 (by decide) rfl (t_Me_send _ _ _ _ _ _ _ _ h) (fun g5 => ?_)
  exact ev_return d_Ca_giveData_22 rfl
theorem t_Ca_take {E : ev_E} (x0 : Option Nat) (x1 : Option Nat) (h : ev_hs) : EvO E M_Ca_take 10 cvI 0 [some (va_rf x0), some (va_rf x1), none] [] h (f_Ca_take x0 x1 h) := by
  unfold f_Ca_take
  refine ev_aload1 1 d_Ca_take_0 rfl ?_
  refine ev_gI 4 d_Ca_take_1 fl_Ca_32 rfl rfl (fun z1 => ?_)
  refine ev_istore2 5 d_Ca_take_4 (by decide) rfl ?_
  refine ev_aload1 6 d_Ca_take_5 rfl ?_
  refine ev_gI 9 d_Ca_take_6 fl_Ca_37 rfl rfl (fun z2 => ?_)
  refine ev_peel (fun ee3 => ?_) (fun ne3 oe3 => ?_)
  · refine ev_tsIn 67 d_Ca_take_9 ee3 (by decide) (by decide) (by decide) rfl (by decide) ?_
    refine ev_jn (fun J => ∀ (u4_0 : Option Nat) (u4_1 : Option Nat) (u4_2 : Int) (u4_s0 : Option Nat) (u4_s1 : Int) (u4_s2 : Int) (u4_h : ev_hs), EvO E M_Ca_take 10 cvI 86 [some (va_rf u4_0), some (va_rf u4_1), some (eI u4_2)] [eI u4_s2, eI u4_s1, va_rf u4_s0] u4_h (J u4_0 u4_1 u4_2 u4_s0 u4_s1 u4_s2 u4_h)) ?_ (fun J86 hJ86 => ?_)
    · intro u4_0 u4_1 u4_2 u4_s0 u4_s1 u4_s2 u4_h
      refine ev_cv2V (kk := 0) 89 d_Ca_take_86 cv_Ca_52 (by decide) (by decide) rfl rfl ev_sm0 (by decide) rfl (t_Ca_become _ _ _ u4_h) (fun g5 => ?_)
      refine ev_aload0 90 d_Ca_take_89 rfl ?_
      refine ev_bipush 92 d_Ca_take_90 (by decide) rfl ?_
      refine ev_iload2 93 d_Ca_take_92 rfl ?_
      refine ev_aload1 94 d_Ca_take_93 rfl ?_
      refine ev_gI 97 d_Ca_take_94 fl_Ca_56 rfl rfl (fun z6 => ?_)
      refine ev_cv3V (kk := 0) 100 d_Ca_take_97 cv_Ca_59 (by decide) (by decide) rfl rfl rfl ev_sm0 (by decide) rfl (t_Ca_giveData _ _ _ _ g5) (fun g7 => ?_)
      refine ev_aload0 101 d_Ca_take_100 rfl ?_
      refine ev_bipush 103 d_Ca_take_101 (by decide) rfl ?_
      refine ev_iload2 104 d_Ca_take_103 rfl ?_
      refine ev_iload2 105 d_Ca_take_104 rfl ?_
      refine ev_cn1I (kk := 0) 108 d_Ca_take_105 cn_Ca_63 (by decide) (by decide) rfl (ev_smc rfl (ev_smc rfl (ev_smc (va_rf_cat _) ev_sm0))) (by decide) rfl (t_ML_homeOf _ g7) (fun z9 g8 => ?_)
      refine ev_cv3V (kk := 0) 111 d_Ca_take_108 cv_Ca_59 (by decide) (by decide) rfl rfl rfl ev_sm0 (by decide) rfl (t_Ca_giveData _ _ _ _ g8) (fun g10 => ?_)
      refine ev_iconst 112 d_Ca_take_111 rfl ?_
      exact ev_zreturn d_Ca_take_112 rfl
    refine ev_aload0 68 d_Ca_take_67 rfl ?_
    refine ev_iload2 69 d_Ca_take_68 rfl ?_
    refine ev_aload0 70 d_Ca_take_69 rfl ?_
    refine ev_gR 73 d_Ca_take_70 fl_Ca_9 rfl rfl (fun q11 => ?_)
    refine ev_iload2 74 d_Ca_take_73 rfl ?_
    refine ev_iaload 75 d_Ca_take_74 rfl (fun z12 => ?_)
    refine ev_bipush 77 d_Ca_take_75 (by decide) rfl ?_
    refine ev_icmp_ne 84 80 d_Ca_take_77 (by decide) rfl ?_ ?_
    · refine ev_bipush 86 d_Ca_take_84 (by decide) rfl ?_
      exact ev_wk (hJ86 _ _ _ _ _ _ h) (ev_subS (ev_subS (ev_subS ev_sub0)))
    · refine ev_iconst 81 d_Ca_take_80 rfl ?_
      refine ev_goto 86 d_Ca_take_81 (by decide) ?_
      exact ev_wk (hJ86 _ _ _ _ _ _ h) (ev_subS (ev_subS (ev_subS ev_sub0)))
  refine ev_peel (fun ee13 => ?_) (fun ne13 oe13 => ?_)
  · refine ev_tsIn 113 d_Ca_take_9 ee13 (by decide) (by decide) (by decide) rfl (by decide) ?_
    refine ev_jn (fun J => ∀ (u14_s0 : Option Nat) (u14_s1 : Int) (u14_s2 : Int) (u14_h : ev_hs), EvO E M_Ca_take 10 cvI 143 [none, none, none] [eI u14_s2, eI u14_s1, va_rf u14_s0] u14_h (J u14_s0 u14_s1 u14_s2 u14_h)) ?_ (fun J143 hJ143 => ?_)
    · intro u14_s0 u14_s1 u14_s2 u14_h
      refine ev_cv2V (kk := 0) 146 d_Ca_take_143 cv_Ca_52 (by decide) (by decide) rfl rfl ev_sm0 (by decide) rfl (t_Ca_become _ _ _ u14_h) (fun g15 => ?_)
      refine ev_iconst 147 d_Ca_take_146 rfl ?_
      exact ev_zreturn d_Ca_take_147 rfl
    refine ev_aload0 114 d_Ca_take_113 rfl ?_
    refine ev_bipush 116 d_Ca_take_114 (by decide) rfl ?_
    refine ev_iload2 117 d_Ca_take_116 rfl ?_
    refine ev_aload1 118 d_Ca_take_117 rfl ?_
    refine ev_gI 121 d_Ca_take_118 fl_Ca_56 rfl rfl (fun z16 => ?_)
    refine ev_cv3V (kk := 0) 124 d_Ca_take_121 cv_Ca_59 (by decide) (by decide) rfl rfl rfl ev_sm0 (by decide) rfl (t_Ca_giveData _ _ _ _ h) (fun g17 => ?_)
    refine ev_aload0 125 d_Ca_take_124 rfl ?_
    refine ev_iload2 126 d_Ca_take_125 rfl ?_
    refine ev_aload0 127 d_Ca_take_126 rfl ?_
    refine ev_gR 130 d_Ca_take_127 fl_Ca_9 rfl rfl (fun q18 => ?_)
    refine ev_iload2 131 d_Ca_take_130 rfl ?_
    refine ev_iaload 132 d_Ca_take_131 rfl (fun z19 => ?_)
    refine ev_bipush 134 d_Ca_take_132 (by decide) rfl ?_
    refine ev_icmp_ne 141 137 d_Ca_take_134 (by decide) rfl ?_ ?_
    · refine ev_bipush 143 d_Ca_take_141 (by decide) rfl ?_
      exact ev_wk (hJ143 _ _ _ g17) (ev_subN (ev_subN (ev_subN ev_sub0)))
    · refine ev_iconst 138 d_Ca_take_137 rfl ?_
      refine ev_goto 143 d_Ca_take_138 (by decide) ?_
      exact ev_wk (hJ143 _ _ _ g17) (ev_subN (ev_subN (ev_subN ev_sub0)))
  refine ev_peel (fun ee20 => ?_) (fun ne20 oe20 => ?_)
  · refine ev_tsIn 60 d_Ca_take_9 ee20 (by decide) (by decide) (by decide) rfl (by decide) ?_
    refine ev_aload0 61 d_Ca_take_60 rfl ?_
    refine ev_aload1 62 d_Ca_take_61 rfl ?_
    refine ev_cv1V (kk := 1) 65 d_Ca_take_62 cv_Ca_48 (by decide) (by decide) (va_rf_cat _) ev_sm0 (by decide) rfl (t_Ca_takeInv _ _ h) (fun g21 => ?_)
    refine ev_iconst 66 d_Ca_take_65 rfl ?_
    exact ev_zreturn d_Ca_take_66 rfl
  refine ev_peel (fun ee22 => ?_) (fun ne22 oe22 => ?_)
  · refine ev_tsIn 148 d_Ca_take_9 ee22 (by decide) (by decide) (by decide) rfl (by decide) ?_
    refine ev_aload0 149 d_Ca_take_148 rfl ?_
    refine ev_iload2 150 d_Ca_take_149 rfl ?_
    refine ev_iconst 151 d_Ca_take_150 rfl ?_
    refine ev_cv2V (kk := 0) 154 d_Ca_take_151 cv_Ca_52 (by decide) (by decide) rfl rfl ev_sm0 (by decide) rfl (t_Ca_become _ _ _ h) (fun g23 => ?_)
    refine ev_iconst 155 d_Ca_take_154 rfl ?_
    exact ev_zreturn d_Ca_take_155 rfl
  refine ev_peel (fun ee24 => ?_) (fun ne24 oe24 => ?_)
  · refine ev_tsIn 48 d_Ca_take_9 ee24 (by decide) (by decide) (by decide) rfl (by decide) ?_
    refine ev_aload0 49 d_Ca_take_48 rfl ?_
    refine ev_aload1 50 d_Ca_take_49 rfl ?_
    refine ev_cv1I (kk := 2) 53 d_Ca_take_50 cv_Ca_40 (by decide) (by decide) (va_rf_cat _) ev_sm0 (by decide) rfl (t_Ca_takeData _ _ h) (fun z26 g25 => ?_)
    exact ev_zreturn d_Ca_take_53 rfl
  refine ev_peel (fun ee27 => ?_) (fun ne27 oe27 => ?_)
  · refine ev_tsIn 54 d_Ca_take_9 ee27 (by decide) (by decide) (by decide) rfl (by decide) ?_
    refine ev_aload0 55 d_Ca_take_54 rfl ?_
    refine ev_iload2 56 d_Ca_take_55 rfl ?_
    refine ev_cv1I (kk := 1) 59 d_Ca_take_56 cv_Ca_44 (by decide) (by decide) rfl ev_sm0 (by decide) rfl (t_Ca_takeAck _ _ h) (fun z29 g28 => ?_)
    exact ev_zreturn d_Ca_take_59 rfl
  refine ev_tsOut 156 d_Ca_take_9 oe27 (by omega) (by decide) ?_
  refine ev_iconst 157 d_Ca_take_156 rfl ?_
  exact ev_zreturn d_Ca_take_157 rfl
