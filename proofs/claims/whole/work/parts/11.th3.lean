theorem t_Co_finishPresent {E : ev_E} (x0 : Option Nat) (x1 : Int) (h : ev_hs) : EvO E M_Co_finishPresent 1 cvV 0 [some (va_rf x0), some (eI x1), none, none] [] h (f_Co_finishPresent x0 x1 h) := by
  unfold f_Co_finishPresent
  refine ev_aload0 1 d_Co_finishPresent_0 rfl ?_
  refine ev_gI 4 d_Co_finishPresent_1 fl_Co_35 rfl rfl (fun z1 => ?_)
  refine ev_aload0 5 d_Co_finishPresent_4 rfl ?_
  refine ev_gI 8 d_Co_finishPresent_5 fl_Co_31 rfl rfl (fun z2 => ?_)
  refine ev_icmp_lt 12 11 d_Co_finishPresent_8 (by decide) rfl ?_ ?_
  · refine ev_jn (fun J => ∀ (u3_0 : Option Nat) (u3_1 : Int) (u3_2 : Int) (u3_3 : Int) (u3_s0 : Option Nat) (u3_s1 : Int) (u3_s2 : Int) (u3_h : ev_hs), EvO E M_Co_finishPresent 1 cvV 58 [some (va_rf u3_0), some (eI u3_1), some (eI u3_2), some (eI u3_3)] [eI u3_s2, eI u3_s1, va_rf u3_s0] u3_h (J u3_0 u3_1 u3_2 u3_3 u3_s0 u3_s1 u3_s2 u3_h)) ?_ (fun J58 hJ58 => ?_)
    · intro u3_0 u3_1 u3_2 u3_3 u3_s0 u3_s1 u3_s2 u3_h
      refine ev_jn (fun J => ∀ (u4_0 : Option Nat) (u4_1 : Int) (u4_2 : Int) (u4_h : ev_hs), EvO E M_Co_finishPresent 1 cvV 81 [some (va_rf u4_0), some (eI u4_1), some (eI u4_2), none] [] u4_h (J u4_0 u4_1 u4_2 u4_h)) ?_ (fun J81 hJ81 => ?_)
      · intro u4_0 u4_1 u4_2 u4_h
        refine ev_aload0 82 d_Co_finishPresent_81 rfl ?_
        refine ev_gR 85 d_Co_finishPresent_82 fl_Co_27 rfl rfl (fun q5 => ?_)
        refine ev_gR 88 d_Co_finishPresent_85 fl_Co_66 rfl rfl (fun q6 => ?_)
        refine ev_iload2 89 d_Co_finishPresent_88 rfl ?_
        refine ev_iload1 90 d_Co_finishPresent_89 rfl ?_
        refine ev_iastore 91 d_Co_finishPresent_90 rfl (fun g7 => ?_)
        refine ev_aload0 92 d_Co_finishPresent_91 rfl ?_
        refine ev_dup 93 d_Co_finishPresent_92 (va_rf_cat _) rfl ?_
        refine ev_gI 96 d_Co_finishPresent_93 fl_Co_35 rfl rfl (fun z8 => ?_)
        refine ev_iconst 97 d_Co_finishPresent_96 rfl ?_
        refine ev_iadd 98 d_Co_finishPresent_97 rfl ?_
        refine ev_pI 101 d_Co_finishPresent_98 fw_Co_finishPresent_35 rfl rfl (fun g9 => ?_)
        refine ev_aload0 102 d_Co_finishPresent_101 rfl ?_
        refine ev_iload1 103 d_Co_finishPresent_102 rfl ?_
        refine ev_pI 106 d_Co_finishPresent_103 fw_Co_finishPresent_38 rfl rfl (fun g10 => ?_)
        exact ev_return d_Co_finishPresent_106 rfl
      refine ev_iastore 59 d_Co_finishPresent_58 rfl (fun g11 => ?_)
      refine ev_iload3 60 d_Co_finishPresent_59 rfl ?_
      refine ev_if_eq 81 63 d_Co_finishPresent_60 (by decide) rfl ?_ ?_
      · exact ev_wk (hJ81 _ _ _ g11) (ev_subS (ev_subS (ev_subS (ev_subN ev_sub0))))
      · refine ev_aload0 64 d_Co_finishPresent_63 rfl ?_
        refine ev_gR 67 d_Co_finishPresent_64 fl_Co_27 rfl rfl (fun q12 => ?_)
        refine ev_gR 70 d_Co_finishPresent_67 fl_Co_65 rfl rfl (fun q13 => ?_)
        refine ev_iload2 71 d_Co_finishPresent_70 rfl ?_
        refine ev_aload0 72 d_Co_finishPresent_71 rfl ?_
        refine ev_gR 75 d_Co_finishPresent_72 fl_Co_18 rfl rfl (fun q14 => ?_)
        refine ev_aload0 76 d_Co_finishPresent_75 rfl ?_
        refine ev_gI 79 d_Co_finishPresent_76 fl_Co_35 rfl rfl (fun z15 => ?_)
        refine ev_iaload 80 d_Co_finishPresent_79 rfl (fun z16 => ?_)
        refine ev_iastore 81 d_Co_finishPresent_80 rfl (fun g17 => ?_)
        exact ev_wk (hJ81 _ _ _ g17) (ev_subS (ev_subS (ev_subS (ev_subN ev_sub0))))
    refine ev_aload0 13 d_Co_finishPresent_12 rfl ?_
    refine ev_gR 16 d_Co_finishPresent_13 fl_Co_15 rfl rfl (fun q18 => ?_)
    refine ev_aload0 17 d_Co_finishPresent_16 rfl ?_
    refine ev_gI 20 d_Co_finishPresent_17 fl_Co_35 rfl rfl (fun z19 => ?_)
    refine ev_iaload 21 d_Co_finishPresent_20 rfl (fun z20 => ?_)
    refine ev_istore2 22 d_Co_finishPresent_21 (by decide) rfl ?_
    refine ev_aload0 23 d_Co_finishPresent_22 rfl ?_
    refine ev_gR 26 d_Co_finishPresent_23 fl_Co_9 rfl rfl (fun q21 => ?_)
    refine ev_aload0 27 d_Co_finishPresent_26 rfl ?_
    refine ev_gI 30 d_Co_finishPresent_27 fl_Co_35 rfl rfl (fun z22 => ?_)
    refine ev_iaload 31 d_Co_finishPresent_30 rfl (fun z23 => ?_)
    refine ev_istore3 32 d_Co_finishPresent_31 (by decide) rfl ?_
    refine ev_aload0 33 d_Co_finishPresent_32 rfl ?_
    refine ev_gR 36 d_Co_finishPresent_33 fl_Co_24 rfl rfl (fun q24 => ?_)
    refine ev_aload0 37 d_Co_finishPresent_36 rfl ?_
    refine ev_gI 40 d_Co_finishPresent_37 fl_Co_35 rfl rfl (fun z25 => ?_)
    refine ev_iload3 41 d_Co_finishPresent_40 rfl ?_
    refine ev_iconst 42 d_Co_finishPresent_41 rfl ?_
    refine ev_icmp_ne 49 45 d_Co_finishPresent_42 (by decide) rfl ?_ ?_
    · refine ev_aload0 50 d_Co_finishPresent_49 rfl ?_
      refine ev_gR 53 d_Co_finishPresent_50 fl_Co_27 rfl rfl (fun q26 => ?_)
      refine ev_gR 56 d_Co_finishPresent_53 fl_Co_65 rfl rfl (fun q27 => ?_)
      refine ev_iload2 57 d_Co_finishPresent_56 rfl ?_
      refine ev_iaload 58 d_Co_finishPresent_57 rfl (fun z28 => ?_)
      exact ev_wk (hJ58 _ _ _ _ _ _ _ h) (ev_subS (ev_subS (ev_subS (ev_subS ev_sub0))))
    · refine ev_iconst 46 d_Co_finishPresent_45 rfl ?_
      refine ev_goto 58 d_Co_finishPresent_46 (by decide) ?_
      exact ev_wk (hJ58 _ _ _ _ _ _ _ h) (ev_subS (ev_subS (ev_subS (ev_subS ev_sub0))))
  · exact ev_return d_Co_finishPresent_11 rfl
theorem t_No_take {E : ev_E} (x0 : Option Nat) (x1 : Option Nat) (x2 : Int) (h : ev_hs) : EvO E M_No_take 11 cvV 0 [some (va_rf x0), some (va_rf x1), some (eI x2)] [] h (f_No_take x0 x1 x2 h) := by
  unfold f_No_take
  refine ev_aload1 1 d_No_take_0 rfl ?_
  refine ev_cv0I (kk := 0) 4 d_No_take_1 cv_No_83 (by decide) (by decide)  ev_sm0 (by decide) rfl (t_Pa_isForHome _ h) (fun z2 g1 => ?_)
  refine ev_if_eq 23 7 d_No_take_4 (by decide) rfl ?_ ?_
  · refine ev_aload0 24 d_No_take_23 rfl ?_
    refine ev_gR 27 d_No_take_24 fl_No_28 rfl rfl (fun q3 => ?_)
    refine ev_aload1 28 d_No_take_27 rfl ?_
    refine ev_cv1I (kk := 1) 31 d_No_take_28 cv_No_94 (by decide) (by decide) (va_rf_cat _) ev_sm0 (by decide) rfl (t_Ca_take _ _ g1) (fun z5 g4 => ?_)
    refine ev_if_eq 42 34 d_No_take_31 (by decide) rfl ?_ ?_
    · exact ev_return d_No_take_42 rfl
    · refine ev_aload0 35 d_No_take_34 rfl ?_
      refine ev_gR 38 d_No_take_35 fl_No_37 rfl rfl (fun q6 => ?_)
      refine ev_iload2 39 d_No_take_38 rfl ?_
      refine ev_cv1V (kk := 2) 42 d_No_take_39 cv_No_96 (by decide) (by decide) rfl ev_sm0 (by decide) rfl (t_Co_finishPresent _ _ g4) (fun g7 => ?_)
      exact ev_return d_No_take_42 rfl
  · refine ev_aload0 8 d_No_take_7 rfl ?_
    refine ev_gR 11 d_No_take_8 fl_No_19 rfl rfl (fun q8 => ?_)
    refine ev_aload1 12 d_No_take_11 rfl ?_
    refine ev_gI 15 d_No_take_12 fl_No_76 rfl rfl (fun z9 => ?_)
    refine ev_aaload (t := 53) 16 d_No_take_15 (by decide) ⟨_, rfl⟩ rfl (fun q10 => ?_)
    refine ev_aload1 17 d_No_take_16 rfl ?_
    refine ev_cv1V (kk := 0) 20 d_No_take_17 cv_No_91 (by decide) (by decide) (va_rf_cat _) ev_sm0 (by decide) rfl (t_Ho_take _ _ g1) (fun g11 => ?_)
    refine ev_goto 42 d_No_take_20 (by decide) ?_
    exact ev_return d_No_take_42 rfl
theorem t_No_takePackets_2 {E : ev_E} : ∀ (fu : Nat) (x0 : Option Nat) (x1 : Int) (x2 : Int) (h : ev_hs), EvO E M_No_takePackets 12 cvV 2 [some (va_rf x0), some (eI x1), some (eI x2), none, none] [] h (f_No_takePackets_2 fu x0 x1 x2 h) := by
  intro fu
  induction fu with
  | zero => intros; exact ev_no
  | succ fu ih =>
    intro x0 x1 x2 h
    rw [f_No_takePackets_2]
    refine ev_iload2 3 d_No_takePackets_2 rfl ?_
    refine ev_if_lt 55 6 d_No_takePackets_3 (by decide) rfl ?_ ?_
    · exact ev_return d_No_takePackets_55 rfl
    · refine ev_jn (fun J => ∀ (u1_0 : Option Nat) (u1_1 : Int) (u1_2 : Int) (u1_h : ev_hs), EvO E M_No_takePackets 12 cvV 49 [some (va_rf u1_0), some (eI u1_1), some (eI u1_2), none, none] [] u1_h (J u1_0 u1_1 u1_2 u1_h)) ?_ (fun J49 hJ49 => ?_)
      · intro u1_0 u1_1 u1_2 u1_h
        refine ev_iinc2 52 d_No_takePackets_49 (by decide) rfl ?_
        refine ev_goto 2 d_No_takePackets_52 (by decide) ?_
        exact ev_wk (ih _ _ _ u1_h) (ev_subS (ev_subS (ev_subS (ev_subN (ev_subN ev_sub0)))))
      refine ev_aload0 7 d_No_takePackets_6 rfl ?_
      refine ev_gR 10 d_No_takePackets_7 fl_No_15 rfl rfl (fun q2 => ?_)
      refine ev_aload0 11 d_No_takePackets_10 rfl ?_
      refine ev_gI 14 d_No_takePackets_11 fl_No_9 rfl rfl (fun z3 => ?_)
      refine ev_iload2 15 d_No_takePackets_14 rfl ?_
      refine ev_cv2R (kk := 0) 18 d_No_takePackets_15 cv_No_41 (by decide) (by decide) rfl rfl ev_sm0 (by decide) rfl (t_Me_laneOf _ _ _ h) (fun q5 g4 => ?_)
      refine ev_gR 21 d_No_takePackets_18 fl_No_47 rfl rfl (fun q6 => ?_)
      refine ev_astore3 22 d_No_takePackets_21 (by decide) rfl ?_
      refine ev_aload0 23 d_No_takePackets_22 rfl ?_
      refine ev_aload3 24 d_No_takePackets_23 rfl ?_
      refine ev_cv1I (kk := 5) 27 d_No_takePackets_24 cv_No_53 (by decide) (by decide) (va_rf_cat _) ev_sm0 (by decide) rfl (t_No_firstToTake _ _ g4) (fun z8 g7 => ?_)
      refine ev_istore4 29 d_No_takePackets_27 (by decide) rfl ?_
      refine ev_iload4 31 d_No_takePackets_29 rfl ?_
      refine ev_iconst 32 d_No_takePackets_31 rfl ?_
      refine ev_icmp_eq 49 35 d_No_takePackets_32 (by decide) rfl ?_ ?_
      · exact ev_wk (hJ49 _ _ _ g7) (ev_subS (ev_subS (ev_subS (ev_subN (ev_subN ev_sub0)))))
      · refine ev_aload0 36 d_No_takePackets_35 rfl ?_
        refine ev_aload3 37 d_No_takePackets_36 rfl ?_
        refine ev_iload4 39 d_No_takePackets_37 rfl ?_
        refine ev_cv1R (kk := 2) 42 d_No_takePackets_39 cv_No_57 (by decide) (by decide) rfl (ev_smc (va_rf_cat _) ev_sm0) (by decide) rfl (t_AL_remove _ _ g7) (fun q10 g9 => ?_)
        refine ev_checkcastO 45 d_No_takePackets_42 (ck_10).1 w_488 rfl ?_
        refine ev_iload1 46 d_No_takePackets_45 rfl ?_
        refine ev_cv2V (kk := 0) 49 d_No_takePackets_46 cv_No_65 (by decide) (by decide) (va_rf_cat _) rfl ev_sm0 (by decide) rfl (t_No_take _ _ _ g9) (fun g11 => ?_)
        exact ev_wk (hJ49 _ _ _ g11) (ev_subS (ev_subS (ev_subS (ev_subN (ev_subN ev_sub0)))))
theorem t_No_takePackets {E : ev_E} (x0 : Option Nat) (x1 : Int) (h : ev_hs) : EvO E M_No_takePackets 12 cvV 0 [some (va_rf x0), some (eI x1), none, none, none] [] h (f_No_takePackets x0 x1 h) := by
  unfold f_No_takePackets
  refine ev_iconst 1 d_No_takePackets_0 rfl ?_
  refine ev_istore2 2 d_No_takePackets_1 (by decide) rfl ?_
  refine ev_wk (t_No_takePackets_2 FU _ _ _ h) (ev_subS (ev_subS (ev_subS (ev_subN (ev_subN ev_sub0)))))
theorem t_Ca_ask {E : ev_E} (x0 : Option Nat) (x1 : Int) (x2 : Int) (x3 : Int) (h : ev_hs) : EvO E M_Ca_ask 9 cvV 0 [some (va_rf x0), some (eI x1), some (eI x2), some (eI x3)] [] h (f_Ca_ask x0 x1 x2 x3 h) := by
  unfold f_Ca_ask
  refine ev_aload0 1 d_Ca_ask_0 rfl ?_
  refine ev_gR 4 d_Ca_ask_1 fl_Ca_28 rfl rfl (fun q1 => ?_)
  refine ev_aload0 5 d_Ca_ask_4 rfl ?_
  refine ev_gI 8 d_Ca_ask_5 fl_Ca_24 rfl rfl (fun z2 => ?_)
  refine ev_iload1 9 d_Ca_ask_8 rfl ?_
  refine ev_iload2 10 d_Ca_ask_9 rfl ?_
  refine ev_iload2 11 d_Ca_ask_10 rfl ?_
  refine ev_cn1I (kk := 0) 14 d_Ca_ask_11 cn_Ca_63 (by decide) (by decide) rfl (ev_smc rfl (ev_smc rfl (ev_smc rfl (ev_smc (va_rf_cat _) ev_sm0)))) (by decide) rfl (t_ML_homeOf _ h) (fun z4 g3 => ?_)
  refine ev_aload0 15 d_Ca_ask_14 rfl ?_
  refine ev_gI 18 d_Ca_ask_15 fl_Ca_24 rfl rfl (fun z5 => ?_)
  refine ev_aload0 19 d_Ca_ask_18 rfl ?_
  refine ev_gR 22 d_Ca_ask_19 fl_Ca_15 rfl rfl (fun q6 => ?_)
  refine ev_iload2 23 d_Ca_ask_22 rfl ?_
  refine ev_iaload 24 d_Ca_ask_23 rfl (fun z7 => ?_)
  refine ev_iconst 25 d_Ca_ask_24 rfl ?_
  refine ev_cv7V (kk := 1) 28 d_Ca_ask_25 cv_Ca_73 (by decide) (by decide) rfl rfl rfl rfl rfl rfl rfl ev_sm0 (by decide) rfl (t_Me_send _ _ _ _ _ _ _ _ g3) (fun g8 => ?_)
  refine ev_aload0 29 d_Ca_ask_28 rfl ?_
  refine ev_gR 32 d_Ca_ask_29 fl_Ca_9 rfl rfl (fun q9 => ?_)
  refine ev_iload2 33 d_Ca_ask_32 rfl ?_
  refine ev_iload3 34 d_Ca_ask_33 rfl ?_
  refine ev_iastore 35 d_Ca_ask_34 rfl (fun g10 => ?_)
  exact ev_return d_Ca_ask_35 rfl
theorem t_Ca_hasRoomFor_6 {E : ev_E} : ∀ (fu : Nat) (x0 : Option Nat) (x2 : Int) (x3 : Int) (h : ev_hs) (K35 : Int → ev_hs → Option (Int × ev_hs)) (hK35 : ∀ (w2 : Int) (wh : ev_hs), EvO E M_Ca_hasRoomFor 1 cvI 35 [none, none, some (eI w2), none] [] wh (K35 w2 wh)) , EvO E M_Ca_hasRoomFor 1 cvI 6 [some (va_rf x0), none, some (eI x2), some (eI x3)] [] h (f_Ca_hasRoomFor_6 fu x0 x2 x3 h K35) := by
  intro fu
  induction fu with
  | zero => intros; exact ev_no
  | succ fu ih =>
    intro x0 x2 x3 h K35 hK35
    rw [f_Ca_hasRoomFor_6]
    refine ev_iload3 7 d_Ca_hasRoomFor_6 rfl ?_
    refine ev_bipush 9 d_Ca_hasRoomFor_7 (by decide) rfl ?_
    refine ev_icmp_ge 35 12 d_Ca_hasRoomFor_9 (by decide) rfl ?_ ?_
    · exact ev_wk (hK35 _ h) (ev_subN (ev_subN (ev_subS (ev_subN ev_sub0))))
    · refine ev_jn (fun J => ∀ (u2_0 : Option Nat) (u2_3 : Int) (u2_s0 : Int) (u2_s1 : Int) (u2_h : ev_hs), EvO E M_Ca_hasRoomFor 1 cvI 27 [some (va_rf u2_0), none, none, some (eI u2_3)] [eI u2_s1, eI u2_s0] u2_h (J u2_0 u2_3 u2_s0 u2_s1 u2_h)) ?_ (fun J27 hJ27 => ?_)
      · intro u2_0 u2_3 u2_s0 u2_s1 u2_h
        refine ev_iadd 28 d_Ca_hasRoomFor_27 rfl ?_
        refine ev_istore2 29 d_Ca_hasRoomFor_28 (by decide) rfl ?_
        refine ev_iinc3 32 d_Ca_hasRoomFor_29 (by decide) rfl ?_
        refine ev_goto 6 d_Ca_hasRoomFor_32 (by decide) ?_
        exact ev_wk (ih _ _ _ u2_h _ hK35) (ev_subS (ev_subN (ev_subS (ev_subS ev_sub0))))
      refine ev_iload2 13 d_Ca_hasRoomFor_12 rfl ?_
      refine ev_aload0 14 d_Ca_hasRoomFor_13 rfl ?_
      refine ev_gR 17 d_Ca_hasRoomFor_14 fl_Ca_9 rfl rfl (fun q3 => ?_)
      refine ev_iload3 18 d_Ca_hasRoomFor_17 rfl ?_
      refine ev_iaload 19 d_Ca_hasRoomFor_18 rfl (fun z4 => ?_)
      refine ev_if_ne 26 22 d_Ca_hasRoomFor_19 (by decide) rfl ?_ ?_
      · refine ev_iconst 27 d_Ca_hasRoomFor_26 rfl ?_
        exact ev_wk (hJ27 _ _ _ _ h) (ev_subS (ev_subN (ev_subN (ev_subS ev_sub0))))
      · refine ev_iconst 23 d_Ca_hasRoomFor_22 rfl ?_
        refine ev_goto 27 d_Ca_hasRoomFor_23 (by decide) ?_
        exact ev_wk (hJ27 _ _ _ _ h) (ev_subS (ev_subN (ev_subN (ev_subS ev_sub0))))
theorem t_Ca_hasRoomFor {E : ev_E} (x0 : Option Nat) (x1 : Int) (h : ev_hs) : EvO E M_Ca_hasRoomFor 1 cvI 0 [some (va_rf x0), some (eI x1), none, none] [] h (f_Ca_hasRoomFor x0 x1 h) := by
  unfold f_Ca_hasRoomFor
  refine ev_iconst 1 d_Ca_hasRoomFor_0 rfl ?_
  refine ev_istore2 2 d_Ca_hasRoomFor_1 (by decide) rfl ?_
  refine ev_iload1 3 d_Ca_hasRoomFor_2 rfl ?_
  refine ev_iconst 4 d_Ca_hasRoomFor_3 rfl ?_
  refine ev_irem 5 d_Ca_hasRoomFor_4 rfl (fun z1 => ?_)
  refine ev_istore3 6 d_Ca_hasRoomFor_5 (by decide) rfl ?_
  refine ev_wk (t_Ca_hasRoomFor_6 FU _ _ _ h _ ?_) (ev_subS (ev_subN (ev_subS (ev_subS ev_sub0))))
  intro y5_2 y5_h
  refine ev_jn (fun J => ∀ (u6_s0 : Int) (u6_h : ev_hs), EvO E M_Ca_hasRoomFor 1 cvI 45 [none, none, none, none] [eI u6_s0] u6_h (J u6_s0 u6_h)) ?_ (fun J45 hJ45 => ?_)
  · intro u6_s0 u6_h
    exact ev_zreturn d_Ca_hasRoomFor_45 rfl
  refine ev_iload2 36 d_Ca_hasRoomFor_35 rfl ?_
  refine ev_iconst 37 d_Ca_hasRoomFor_36 rfl ?_
  refine ev_icmp_ge 44 40 d_Ca_hasRoomFor_37 (by decide) rfl ?_ ?_
  · refine ev_iconst 45 d_Ca_hasRoomFor_44 rfl ?_
    exact ev_wk (hJ45 _ y5_h) (ev_subN (ev_subN (ev_subN (ev_subN ev_sub0))))
  · refine ev_iconst 41 d_Ca_hasRoomFor_40 rfl ?_
    refine ev_goto 45 d_Ca_hasRoomFor_41 (by decide) ?_
    exact ev_wk (hJ45 _ y5_h) (ev_subN (ev_subN (ev_subN (ev_subN ev_sub0))))
theorem t_Ca_makeRoomFor_6 {E : ev_E} : ∀ (fu : Nat) (x0 : Option Nat) (x2 : Int) (x3 : Int) (h : ev_hs) (K107 : Option Nat → Int → ev_hs → Option (ev_hs)) (hK107 : ∀ (w0 : Option Nat) (w2 : Int) (wh : ev_hs), EvO E M_Ca_makeRoomFor 10 cvV 107 [some (va_rf w0), none, some (eI w2), none, none] [] wh (K107 w0 w2 wh)) , EvO E M_Ca_makeRoomFor 10 cvV 6 [some (va_rf x0), none, some (eI x2), some (eI x3), none] [] h (f_Ca_makeRoomFor_6 fu x0 x2 x3 h K107) := by
  intro fu
  induction fu with
  | zero => intros; exact ev_no
  | succ fu ih =>
    intro x0 x2 x3 h K107 hK107
    rw [f_Ca_makeRoomFor_6]
    refine ev_iload3 7 d_Ca_makeRoomFor_6 rfl ?_
    refine ev_bipush 9 d_Ca_makeRoomFor_7 (by decide) rfl ?_
    refine ev_icmp_ge 107 12 d_Ca_makeRoomFor_9 (by decide) rfl ?_ ?_
    · exact ev_wk (hK107 _ _ h) (ev_subS (ev_subN (ev_subS (ev_subN (ev_subN ev_sub0)))))
    · refine ev_aload0 13 d_Ca_makeRoomFor_12 rfl ?_
      refine ev_gR 16 d_Ca_makeRoomFor_13 fl_Ca_9 rfl rfl (fun q2 => ?_)
      refine ev_iload3 17 d_Ca_makeRoomFor_16 rfl ?_
      refine ev_iaload 18 d_Ca_makeRoomFor_17 rfl (fun z3 => ?_)
      refine ev_bipush 20 d_Ca_makeRoomFor_18 (by decide) rfl ?_
      refine ev_icmp_eq 45 23 d_Ca_makeRoomFor_20 (by decide) rfl ?_ ?_
      · exact ev_return d_Ca_makeRoomFor_45 rfl
      · refine ev_aload0 24 d_Ca_makeRoomFor_23 rfl ?_
        refine ev_gR 27 d_Ca_makeRoomFor_24 fl_Ca_9 rfl rfl (fun q4 => ?_)
        refine ev_iload3 28 d_Ca_makeRoomFor_27 rfl ?_
        refine ev_iaload 29 d_Ca_makeRoomFor_28 rfl (fun z5 => ?_)
        refine ev_bipush 31 d_Ca_makeRoomFor_29 (by decide) rfl ?_
        refine ev_icmp_eq 45 34 d_Ca_makeRoomFor_31 (by decide) rfl ?_ ?_
        · exact ev_return d_Ca_makeRoomFor_45 rfl
        · refine ev_aload0 35 d_Ca_makeRoomFor_34 rfl ?_
          refine ev_gR 38 d_Ca_makeRoomFor_35 fl_Ca_9 rfl rfl (fun q6 => ?_)
          refine ev_iload3 39 d_Ca_makeRoomFor_38 rfl ?_
          refine ev_iaload 40 d_Ca_makeRoomFor_39 rfl (fun z7 => ?_)
          refine ev_bipush 42 d_Ca_makeRoomFor_40 (by decide) rfl ?_
          refine ev_icmp_ne 46 45 d_Ca_makeRoomFor_42 (by decide) rfl ?_ ?_
          · refine ev_jn (fun J => ∀ (u8_0 : Option Nat) (u8_2 : Int) (u8_3 : Int) (u8_s0 : Int) (u8_h : ev_hs), EvO E M_Ca_makeRoomFor 10 cvV 72 [some (va_rf u8_0), none, some (eI u8_2), some (eI u8_3), none] [eI u8_s0] u8_h (J u8_0 u8_2 u8_3 u8_s0 u8_h)) ?_ (fun J72 hJ72 => ?_)
            · intro u8_0 u8_2 u8_3 u8_s0 u8_h
              refine ev_jn (fun J => ∀ (u9_0 : Option Nat) (u9_2 : Int) (u9_3 : Int) (u9_h : ev_hs), EvO E M_Ca_makeRoomFor 10 cvV 101 [some (va_rf u9_0), none, some (eI u9_2), some (eI u9_3), none] [] u9_h (J u9_0 u9_2 u9_3 u9_h)) ?_ (fun J101 hJ101 => ?_)
              · intro u9_0 u9_2 u9_3 u9_h
                refine ev_iinc3 104 d_Ca_makeRoomFor_101 (by decide) rfl ?_
                refine ev_goto 6 d_Ca_makeRoomFor_104 (by decide) ?_
                exact ev_wk (ih _ _ _ u9_h _ hK107) (ev_subS (ev_subN (ev_subS (ev_subS (ev_subN ev_sub0)))))
              refine ev_istore4 74 d_Ca_makeRoomFor_72 (by decide) rfl ?_
              refine ev_iload4 76 d_Ca_makeRoomFor_74 rfl ?_
              refine ev_if_eq 101 79 d_Ca_makeRoomFor_76 (by decide) rfl ?_ ?_
              · exact ev_wk (hJ101 _ _ _ u8_h) (ev_subS (ev_subN (ev_subS (ev_subS (ev_subN ev_sub0)))))
              · refine ev_jn (fun J => ∀ (u10_0 : Option Nat) (u10_3 : Int) (u10_h : ev_hs), EvO E M_Ca_makeRoomFor 10 cvV 99 [some (va_rf u10_0), none, none, some (eI u10_3), none] [] u10_h (J u10_0 u10_3 u10_h)) ?_ (fun J99 hJ99 => ?_)
                · intro u10_0 u10_3 u10_h
                  refine ev_iload3 100 d_Ca_makeRoomFor_99 rfl ?_
                  refine ev_istore2 101 d_Ca_makeRoomFor_100 (by decide) rfl ?_
                  exact ev_wk (hJ101 _ _ _ u10_h) (ev_subS (ev_subN (ev_subS (ev_subS (ev_subN ev_sub0)))))
                refine ev_iload2 80 d_Ca_makeRoomFor_79 rfl ?_
                refine ev_iconst 81 d_Ca_makeRoomFor_80 rfl ?_
                refine ev_icmp_eq 99 84 d_Ca_makeRoomFor_81 (by decide) rfl ?_ ?_
                · exact ev_wk (hJ99 _ _ u8_h) (ev_subS (ev_subN (ev_subN (ev_subS (ev_subN ev_sub0)))))
                · refine ev_aload0 85 d_Ca_makeRoomFor_84 rfl ?_
                  refine ev_gR 88 d_Ca_makeRoomFor_85 fl_Ca_21 rfl rfl (fun q11 => ?_)
                  refine ev_iload3 89 d_Ca_makeRoomFor_88 rfl ?_
                  refine ev_iaload 90 d_Ca_makeRoomFor_89 rfl (fun z12 => ?_)
                  refine ev_aload0 91 d_Ca_makeRoomFor_90 rfl ?_
                  refine ev_gR 94 d_Ca_makeRoomFor_91 fl_Ca_21 rfl rfl (fun q13 => ?_)
                  refine ev_iload2 95 d_Ca_makeRoomFor_94 rfl ?_
                  refine ev_iaload 96 d_Ca_makeRoomFor_95 rfl (fun z14 => ?_)
                  refine ev_icmp_ge 101 99 d_Ca_makeRoomFor_96 (by decide) rfl ?_ ?_
                  · exact ev_wk (hJ101 _ _ _ u8_h) (ev_subS (ev_subN (ev_subS (ev_subS (ev_subN ev_sub0)))))
                  · exact ev_wk (hJ99 _ _ u8_h) (ev_subS (ev_subN (ev_subN (ev_subS (ev_subN ev_sub0)))))
            refine ev_jn (fun J => ∀ (u15_0 : Option Nat) (u15_2 : Int) (u15_3 : Int) (u15_h : ev_hs), EvO E M_Ca_makeRoomFor 10 cvV 67 [some (va_rf u15_0), none, some (eI u15_2), some (eI u15_3), none] [] u15_h (J u15_0 u15_2 u15_3 u15_h)) ?_ (fun J67 hJ67 => ?_)
            · intro u15_0 u15_2 u15_3 u15_h
              refine ev_iconst 68 d_Ca_makeRoomFor_67 rfl ?_
              refine ev_goto 72 d_Ca_makeRoomFor_68 (by decide) ?_
              exact ev_wk (hJ72 _ _ _ _ u15_h) (ev_subS (ev_subN (ev_subS (ev_subS (ev_subN ev_sub0)))))
            refine ev_aload0 47 d_Ca_makeRoomFor_46 rfl ?_
            refine ev_gR 50 d_Ca_makeRoomFor_47 fl_Ca_9 rfl rfl (fun q16 => ?_)
            refine ev_iload3 51 d_Ca_makeRoomFor_50 rfl ?_
            refine ev_iaload 52 d_Ca_makeRoomFor_51 rfl (fun z17 => ?_)
            refine ev_iconst 53 d_Ca_makeRoomFor_52 rfl ?_
            refine ev_icmp_eq 67 56 d_Ca_makeRoomFor_53 (by decide) rfl ?_ ?_
            · exact ev_wk (hJ67 _ _ _ h) (ev_subS (ev_subN (ev_subS (ev_subS (ev_subN ev_sub0)))))
            · refine ev_aload0 57 d_Ca_makeRoomFor_56 rfl ?_
              refine ev_gR 60 d_Ca_makeRoomFor_57 fl_Ca_9 rfl rfl (fun q18 => ?_)
              refine ev_iload3 61 d_Ca_makeRoomFor_60 rfl ?_
              refine ev_iaload 62 d_Ca_makeRoomFor_61 rfl (fun z19 => ?_)
              refine ev_bipush 64 d_Ca_makeRoomFor_62 (by decide) rfl ?_
              refine ev_icmp_ne 71 67 d_Ca_makeRoomFor_64 (by decide) rfl ?_ ?_
              · refine ev_iconst 72 d_Ca_makeRoomFor_71 rfl ?_
                exact ev_wk (hJ72 _ _ _ _ h) (ev_subS (ev_subN (ev_subS (ev_subS (ev_subN ev_sub0)))))
              · exact ev_wk (hJ67 _ _ _ h) (ev_subS (ev_subN (ev_subS (ev_subS (ev_subN ev_sub0)))))
          · exact ev_return d_Ca_makeRoomFor_45 rfl
theorem t_Ca_makeRoomFor {E : ev_E} (x0 : Option Nat) (x1 : Int) (h : ev_hs) : EvO E M_Ca_makeRoomFor 10 cvV 0 [some (va_rf x0), some (eI x1), none, none, none] [] h (f_Ca_makeRoomFor x0 x1 h) := by
  unfold f_Ca_makeRoomFor
  refine ev_iconst 1 d_Ca_makeRoomFor_0 rfl ?_
  refine ev_istore2 2 d_Ca_makeRoomFor_1 (by decide) rfl ?_
  refine ev_iload1 3 d_Ca_makeRoomFor_2 rfl ?_
  refine ev_iconst 4 d_Ca_makeRoomFor_3 rfl ?_
  refine ev_irem 5 d_Ca_makeRoomFor_4 rfl (fun z1 => ?_)
  refine ev_istore3 6 d_Ca_makeRoomFor_5 (by decide) rfl ?_
  refine ev_wk (t_Ca_makeRoomFor_6 FU _ _ _ h _ ?_) (ev_subS (ev_subN (ev_subS (ev_subS (ev_subN ev_sub0)))))
  intro y20_0 y20_2 y20_h
  refine ev_iload2 108 d_Ca_makeRoomFor_107 rfl ?_
  refine ev_iconst 109 d_Ca_makeRoomFor_108 rfl ?_
  refine ev_icmp_ne 113 112 d_Ca_makeRoomFor_109 (by decide) rfl ?_ ?_
  · refine ev_aload0 114 d_Ca_makeRoomFor_113 rfl ?_
    refine ev_gR 117 d_Ca_makeRoomFor_114 fl_Ca_9 rfl rfl (fun q21 => ?_)
    refine ev_iload2 118 d_Ca_makeRoomFor_117 rfl ?_
    refine ev_iaload 119 d_Ca_makeRoomFor_118 rfl (fun z22 => ?_)
    refine ev_iconst 120 d_Ca_makeRoomFor_119 rfl ?_
    refine ev_icmp_ne 134 123 d_Ca_makeRoomFor_120 (by decide) rfl ?_ ?_
    · refine ev_aload0 135 d_Ca_makeRoomFor_134 rfl ?_
      refine ev_iconst 136 d_Ca_makeRoomFor_135 rfl ?_
      refine ev_iload2 137 d_Ca_makeRoomFor_136 rfl ?_
      refine ev_bipush 139 d_Ca_makeRoomFor_137 (by decide) rfl ?_
      refine ev_cv3V (kk := 0) 142 d_Ca_makeRoomFor_139 cv_Ca_79 (by decide) (by decide) rfl rfl rfl ev_sm0 (by decide) rfl (t_Ca_ask _ _ _ _ y20_h) (fun g23 => ?_)
      exact ev_return d_Ca_makeRoomFor_142 rfl
    · refine ev_aload0 124 d_Ca_makeRoomFor_123 rfl ?_
      refine ev_iconst 125 d_Ca_makeRoomFor_124 rfl ?_
      refine ev_iload2 126 d_Ca_makeRoomFor_125 rfl ?_
      refine ev_bipush 128 d_Ca_makeRoomFor_126 (by decide) rfl ?_
      refine ev_cv3V (kk := 0) 131 d_Ca_makeRoomFor_128 cv_Ca_79 (by decide) (by decide) rfl rfl rfl ev_sm0 (by decide) rfl (t_Ca_ask _ _ _ _ y20_h) (fun g24 => ?_)
      refine ev_goto 142 d_Ca_makeRoomFor_131 (by decide) ?_
      exact ev_return d_Ca_makeRoomFor_142 rfl
  · exact ev_return d_Ca_makeRoomFor_112 rfl
theorem t_Co_fetch {E : ev_E} (x0 : Option Nat) (x1 : Int) (x2 : Int) (h : ev_hs) : EvO E M_Co_fetch 11 cvV 0 [some (va_rf x0), some (eI x1), some (eI x2)] [] h (f_Co_fetch x0 x1 x2 h) := by
  unfold f_Co_fetch
  refine ev_aload0 1 d_Co_fetch_0 rfl ?_
  refine ev_gR 4 d_Co_fetch_1 fl_Co_27 rfl rfl (fun q1 => ?_)
  refine ev_iload1 5 d_Co_fetch_4 rfl ?_
  refine ev_cv1I (kk := 2) 8 d_Co_fetch_5 cv_Co_58 (by decide) (by decide) rfl ev_sm0 (by decide) rfl (t_Ca_hasRoomFor _ _ h) (fun z3 g2 => ?_)
  refine ev_if_ne 22 11 d_Co_fetch_8 (by decide) rfl ?_ ?_
  · refine ev_iload2 23 d_Co_fetch_22 rfl ?_
    refine ev_if_eq 39 26 d_Co_fetch_23 (by decide) rfl ?_ ?_
    · refine ev_aload0 40 d_Co_fetch_39 rfl ?_
      refine ev_gR 43 d_Co_fetch_40 fl_Co_27 rfl rfl (fun q4 => ?_)
      refine ev_iconst 44 d_Co_fetch_43 rfl ?_
      refine ev_iload1 45 d_Co_fetch_44 rfl ?_
      refine ev_iconst 46 d_Co_fetch_45 rfl ?_
      refine ev_cv3V (kk := 0) 49 d_Co_fetch_46 cv_Co_50 (by decide) (by decide) rfl rfl rfl ev_sm0 (by decide) rfl (t_Ca_ask _ _ _ _ g2) (fun g5 => ?_)
      exact ev_return d_Co_fetch_49 rfl
    · refine ev_aload0 27 d_Co_fetch_26 rfl ?_
      refine ev_gR 30 d_Co_fetch_27 fl_Co_27 rfl rfl (fun q6 => ?_)
      refine ev_iconst 31 d_Co_fetch_30 rfl ?_
      refine ev_iload1 32 d_Co_fetch_31 rfl ?_
      refine ev_iconst 33 d_Co_fetch_32 rfl ?_
      refine ev_cv3V (kk := 0) 36 d_Co_fetch_33 cv_Co_50 (by decide) (by decide) rfl rfl rfl ev_sm0 (by decide) rfl (t_Ca_ask _ _ _ _ g2) (fun g7 => ?_)
      refine ev_goto 49 d_Co_fetch_36 (by decide) ?_
      exact ev_return d_Co_fetch_49 rfl
  · refine ev_aload0 12 d_Co_fetch_11 rfl ?_
    refine ev_gR 15 d_Co_fetch_12 fl_Co_27 rfl rfl (fun q8 => ?_)
    refine ev_iload1 16 d_Co_fetch_15 rfl ?_
    refine ev_cv1V (kk := 3) 19 d_Co_fetch_16 cv_Co_62 (by decide) (by decide) rfl ev_sm0 (by decide) rfl (t_Ca_makeRoomFor _ _ g2) (fun g9 => ?_)
    refine ev_goto 49 d_Co_fetch_19 (by decide) ?_
    exact ev_return d_Co_fetch_49 rfl
theorem t_Co_act {E : ev_E} (x0 : Option Nat) (x1 : Int) (h : ev_hs) : EvO E M_Co_act 12 cvV 0 [some (va_rf x0), some (eI x1), none, none, none] [] h (f_Co_act x0 x1 h) := by
  unfold f_Co_act
  refine ev_aload0 1 d_Co_act_0 rfl ?_
  refine ev_gI 4 d_Co_act_1 fl_Co_35 rfl rfl (fun z1 => ?_)
  refine ev_aload0 5 d_Co_act_4 rfl ?_
  refine ev_gI 8 d_Co_act_5 fl_Co_31 rfl rfl (fun z2 => ?_)
  refine ev_icmp_ge 19 11 d_Co_act_8 (by decide) rfl ?_ ?_
  · exact ev_return d_Co_act_19 rfl
  · refine ev_aload0 12 d_Co_act_11 rfl ?_
    refine ev_gI 15 d_Co_act_12 fl_Co_38 rfl rfl (fun z3 => ?_)
    refine ev_iload1 16 d_Co_act_15 rfl ?_
    refine ev_icmp_ne 20 19 d_Co_act_16 (by decide) rfl ?_ ?_
    · refine ev_aload0 21 d_Co_act_20 rfl ?_
      refine ev_gR 24 d_Co_act_21 fl_Co_21 rfl rfl (fun q4 => ?_)
      refine ev_aload0 25 d_Co_act_24 rfl ?_
      refine ev_gI 28 d_Co_act_25 fl_Co_35 rfl rfl (fun z5 => ?_)
      refine ev_iaload 29 d_Co_act_28 rfl (fun z6 => ?_)
      refine ev_if_le 46 32 d_Co_act_29 (by decide) rfl ?_ ?_
      · refine ev_jn (fun J => ∀ (u7_0 : Option Nat) (u7_1 : Int) (u7_2 : Int) (u7_s0 : Int) (u7_h : ev_hs), EvO E M_Co_act 12 cvV 73 [some (va_rf u7_0), some (eI u7_1), some (eI u7_2), none, none] [eI u7_s0] u7_h (J u7_0 u7_1 u7_2 u7_s0 u7_h)) ?_ (fun J73 hJ73 => ?_)
        · intro u7_0 u7_1 u7_2 u7_s0 u7_h
          refine ev_jn (fun J => ∀ (u8_0 : Option Nat) (u8_1 : Int) (u8_h : ev_hs), EvO E M_Co_act 12 cvV 102 [some (va_rf u8_0), some (eI u8_1), none, none, none] [] u8_h (J u8_0 u8_1 u8_h)) ?_ (fun J102 hJ102 => ?_)
          · intro u8_0 u8_1 u8_h
            refine ev_aload0 103 d_Co_act_102 rfl ?_
            refine ev_iload1 104 d_Co_act_103 rfl ?_
            refine ev_cv1V (kk := 2) 107 d_Co_act_104 cv_Co_46 (by decide) (by decide) rfl ev_sm0 (by decide) rfl (t_Co_finishPresent _ _ u8_h) (fun g9 => ?_)
            refine ev_goto 140 d_Co_act_107 (by decide) ?_
            exact ev_return d_Co_act_140 rfl
          refine ev_istore3 74 d_Co_act_73 (by decide) rfl ?_
          refine ev_aload0 75 d_Co_act_74 rfl ?_
          refine ev_gR 78 d_Co_act_75 fl_Co_27 rfl rfl (fun q10 => ?_)
          refine ev_gR 81 d_Co_act_78 fl_Co_41 rfl rfl (fun q11 => ?_)
          refine ev_iload2 82 d_Co_act_81 rfl ?_
          refine ev_iaload 83 d_Co_act_82 rfl (fun z12 => ?_)
          refine ev_istore4 85 d_Co_act_83 (by decide) rfl ?_
          refine ev_iload4 87 d_Co_act_85 rfl ?_
          refine ev_bipush 89 d_Co_act_87 (by decide) rfl ?_
          refine ev_icmp_eq 102 92 d_Co_act_89 (by decide) rfl ?_ ?_
          · exact ev_wk (hJ102 _ _ u7_h) (ev_subS (ev_subS (ev_subN (ev_subN (ev_subN ev_sub0)))))
          · refine ev_jn (fun J => ∀ (u13_0 : Option Nat) (u13_2 : Int) (u13_3 : Int) (u13_4 : Int) (u13_h : ev_hs), EvO E M_Co_act 12 cvV 110 [some (va_rf u13_0), none, some (eI u13_2), some (eI u13_3), some (eI u13_4)] [] u13_h (J u13_0 u13_2 u13_3 u13_4 u13_h)) ?_ (fun J110 hJ110 => ?_)
            · intro u13_0 u13_2 u13_3 u13_4 u13_h
              refine ev_iload4 112 d_Co_act_110 rfl ?_
              refine ev_iconst 113 d_Co_act_112 rfl ?_
              refine ev_icmp_ne 129 116 d_Co_act_113 (by decide) rfl ?_ ?_
              · refine ev_iload4 131 d_Co_act_129 rfl ?_
                refine ev_if_ne 140 134 d_Co_act_131 (by decide) rfl ?_ ?_
                · exact ev_return d_Co_act_140 rfl
                · refine ev_aload0 135 d_Co_act_134 rfl ?_
                  refine ev_iload2 136 d_Co_act_135 rfl ?_
                  refine ev_iload3 137 d_Co_act_136 rfl ?_
                  refine ev_cv2V (kk := 0) 140 d_Co_act_137 cv_Co_54 (by decide) (by decide) rfl rfl ev_sm0 (by decide) rfl (t_Co_fetch _ _ _ u13_h) (fun g14 => ?_)
                  exact ev_return d_Co_act_140 rfl
              · refine ev_aload0 117 d_Co_act_116 rfl ?_
                refine ev_gR 120 d_Co_act_117 fl_Co_27 rfl rfl (fun q15 => ?_)
                refine ev_iconst 121 d_Co_act_120 rfl ?_
                refine ev_iload2 122 d_Co_act_121 rfl ?_
                refine ev_iconst 123 d_Co_act_122 rfl ?_
                refine ev_cv3V (kk := 0) 126 d_Co_act_123 cv_Co_50 (by decide) (by decide) rfl rfl rfl ev_sm0 (by decide) rfl (t_Ca_ask _ _ _ _ u13_h) (fun g16 => ?_)
                refine ev_goto 140 d_Co_act_126 (by decide) ?_
                exact ev_return d_Co_act_140 rfl
            refine ev_iload4 94 d_Co_act_92 rfl ?_
            refine ev_iconst 95 d_Co_act_94 rfl ?_
            refine ev_icmp_ne 110 98 d_Co_act_95 (by decide) rfl ?_ ?_
            · exact ev_wk (hJ110 _ _ _ _ u7_h) (ev_subS (ev_subN (ev_subS (ev_subS (ev_subS ev_sub0)))))
            · refine ev_iload3 99 d_Co_act_98 rfl ?_
              refine ev_if_eq 110 102 d_Co_act_99 (by decide) rfl ?_ ?_
              · exact ev_wk (hJ110 _ _ _ _ u7_h) (ev_subS (ev_subN (ev_subS (ev_subS (ev_subS ev_sub0)))))
              · exact ev_wk (hJ102 _ _ u7_h) (ev_subS (ev_subS (ev_subN (ev_subN (ev_subN ev_sub0)))))
        refine ev_aload0 47 d_Co_act_46 rfl ?_
        refine ev_gR 50 d_Co_act_47 fl_Co_15 rfl rfl (fun q17 => ?_)
        refine ev_aload0 51 d_Co_act_50 rfl ?_
        refine ev_gI 54 d_Co_act_51 fl_Co_35 rfl rfl (fun z18 => ?_)
        refine ev_iaload 55 d_Co_act_54 rfl (fun z19 => ?_)
        refine ev_istore2 56 d_Co_act_55 (by decide) rfl ?_
        refine ev_aload0 57 d_Co_act_56 rfl ?_
        refine ev_gR 60 d_Co_act_57 fl_Co_9 rfl rfl (fun q20 => ?_)
        refine ev_aload0 61 d_Co_act_60 rfl ?_
        refine ev_gI 64 d_Co_act_61 fl_Co_35 rfl rfl (fun z21 => ?_)
        refine ev_iaload 65 d_Co_act_64 rfl (fun z22 => ?_)
        refine ev_if_ne 72 68 d_Co_act_65 (by decide) rfl ?_ ?_
        · refine ev_iconst 73 d_Co_act_72 rfl ?_
          exact ev_wk (hJ73 _ _ _ _ h) (ev_subS (ev_subS (ev_subS (ev_subN (ev_subN ev_sub0)))))
        · refine ev_iconst 69 d_Co_act_68 rfl ?_
          refine ev_goto 73 d_Co_act_69 (by decide) ?_
          exact ev_wk (hJ73 _ _ _ _ h) (ev_subS (ev_subS (ev_subS (ev_subN (ev_subN ev_sub0)))))
      · refine ev_aload0 33 d_Co_act_32 rfl ?_
        refine ev_gR 36 d_Co_act_33 fl_Co_21 rfl rfl (fun q23 => ?_)
        refine ev_aload0 37 d_Co_act_36 rfl ?_
        refine ev_gI 40 d_Co_act_37 fl_Co_35 rfl rfl (fun z24 => ?_)
        refine ev_dup2 41 d_Co_act_40 rfl (va_rf_cat _) rfl ?_
        refine ev_iaload 42 d_Co_act_41 rfl (fun z25 => ?_)
        refine ev_iconst 43 d_Co_act_42 rfl ?_
        refine ev_isub 44 d_Co_act_43 rfl ?_
        refine ev_iastore 45 d_Co_act_44 rfl (fun g26 => ?_)
        exact ev_return d_Co_act_45 rfl
    · exact ev_return d_Co_act_19 rfl
theorem t_ML_run_52 {E : ev_E} : ∀ (fu : Nat) (x0 : Option Nat) (x1 : Int) (x2 : Int) (x3 : Int) (h : ev_hs) (K77 : Option Nat → Int → Int → ev_hs → Option (Int × ev_hs)) (hK77 : ∀ (w0 : Option Nat) (w1 : Int) (w2 : Int) (wh : ev_hs), EvO E M_ML_run 13 cvI 77 [some (va_rf w0), some (eI w1), some (eI w2), none] [] wh (K77 w0 w1 w2 wh)) , EvO E M_ML_run 13 cvI 52 [some (va_rf x0), some (eI x1), some (eI x2), some (eI x3)] [] h (f_ML_run_52 fu x0 x1 x2 x3 h K77) := by
  intro fu
  induction fu with
  | zero => intros; exact ev_no
  | succ fu ih =>
    intro x0 x1 x2 x3 h K77 hK77
    rw [f_ML_run_52]
    refine ev_iload3 53 d_ML_run_52 rfl ?_
    refine ev_bipush 55 d_ML_run_53 (by decide) rfl ?_
    refine ev_icmp_ge 77 58 d_ML_run_55 (by decide) rfl ?_ ?_
    · exact ev_wk (hK77 _ _ _ h) (ev_subS (ev_subS (ev_subS (ev_subN ev_sub0))))
    · refine ev_aload0 59 d_ML_run_58 rfl ?_
      refine ev_gR 62 d_ML_run_59 fl_ML_33 rfl rfl (fun q12 => ?_)
      refine ev_iload3 63 d_ML_run_62 rfl ?_
      refine ev_aaload (t := 54) 64 d_ML_run_63 (by decide) ⟨_, rfl⟩ rfl (fun q13 => ?_)
      refine ev_aload0 65 d_ML_run_64 rfl ?_
      refine ev_gI 68 d_ML_run_65 fl_ML_54 rfl rfl (fun z14 => ?_)
      refine ev_cv1V (kk := 3) 71 d_ML_run_68 cv_ML_65 (by decide) (by decide) rfl ev_sm0 (by decide) rfl (t_No_takePackets _ _ h) (fun g15 => ?_)
      refine ev_iinc3 74 d_ML_run_71 (by decide) rfl ?_
      refine ev_goto 52 d_ML_run_74 (by decide) ?_
      exact ev_wk (ih _ _ _ _ g15 _ hK77) (ev_subS (ev_subS (ev_subS (ev_subS ev_sub0))))
theorem t_ML_run_79 {E : ev_E} : ∀ (fu : Nat) (x0 : Option Nat) (x1 : Int) (x2 : Int) (x3 : Int) (h : ev_hs) (K107 : Option Nat → Int → Int → ev_hs → Option (Int × ev_hs)) (hK107 : ∀ (w0 : Option Nat) (w1 : Int) (w2 : Int) (wh : ev_hs), EvO E M_ML_run 13 cvI 107 [some (va_rf w0), some (eI w1), some (eI w2), none] [] wh (K107 w0 w1 w2 wh)) , EvO E M_ML_run 13 cvI 79 [some (va_rf x0), some (eI x1), some (eI x2), some (eI x3)] [] h (f_ML_run_79 fu x0 x1 x2 x3 h K107) := by
  intro fu
  induction fu with
  | zero => intros; exact ev_no
  | succ fu ih =>
    intro x0 x1 x2 x3 h K107 hK107
    rw [f_ML_run_79]
    refine ev_iload3 80 d_ML_run_79 rfl ?_
    refine ev_bipush 82 d_ML_run_80 (by decide) rfl ?_
    refine ev_icmp_ge 107 85 d_ML_run_82 (by decide) rfl ?_ ?_
    · exact ev_wk (hK107 _ _ _ h) (ev_subS (ev_subS (ev_subS (ev_subN ev_sub0))))
    · refine ev_aload0 86 d_ML_run_85 rfl ?_
      refine ev_gR 89 d_ML_run_86 fl_ML_33 rfl rfl (fun q17 => ?_)
      refine ev_iload3 90 d_ML_run_89 rfl ?_
      refine ev_aaload (t := 54) 91 d_ML_run_90 (by decide) ⟨_, rfl⟩ rfl (fun q18 => ?_)
      refine ev_gR 94 d_ML_run_91 fl_ML_44 rfl rfl (fun q19 => ?_)
      refine ev_aload0 95 d_ML_run_94 rfl ?_
      refine ev_gI 98 d_ML_run_95 fl_ML_54 rfl rfl (fun z20 => ?_)
      refine ev_cv1V (kk := 3) 101 d_ML_run_98 cv_ML_68 (by decide) (by decide) rfl ev_sm0 (by decide) rfl (t_Co_act _ _ h) (fun g21 => ?_)
      refine ev_iinc3 104 d_ML_run_101 (by decide) rfl ?_
      refine ev_goto 79 d_ML_run_104 (by decide) ?_
      exact ev_wk (ih _ _ _ _ g21 _ hK107) (ev_subS (ev_subS (ev_subS (ev_subS ev_sub0))))
theorem t_ML_run_13 {E : ev_E} : ∀ (fu : Nat) (x0 : Option Nat) (x1 : Int) (x2 : Int) (h : ev_hs), EvO E M_ML_run 13 cvI 13 [some (va_rf x0), some (eI x1), some (eI x2), none] [] h (f_ML_run_13 fu x0 x1 x2 h) := by
  intro fu
  induction fu with
  | zero => intros; exact ev_no
  | succ fu ih =>
    intro x0 x1 x2 h
    rw [f_ML_run_13]
    refine ev_iload2 14 d_ML_run_13 rfl ?_
    refine ev_iload1 15 d_ML_run_14 rfl ?_
    refine ev_icmp_ge 113 18 d_ML_run_15 (by decide) rfl ?_ ?_
    · refine ev_aload0 114 d_ML_run_113 rfl ?_
      refine ev_gI 117 d_ML_run_114 fl_ML_54 rfl rfl (fun z3 => ?_)
      exact ev_ireturn d_ML_run_117 rfl
    · refine ev_aload0 19 d_ML_run_18 rfl ?_
      refine ev_dup 20 d_ML_run_19 (va_rf_cat _) rfl ?_
      refine ev_gI 23 d_ML_run_20 fl_ML_54 rfl rfl (fun z4 => ?_)
      refine ev_iconst 24 d_ML_run_23 rfl ?_
      refine ev_iadd 25 d_ML_run_24 rfl ?_
      refine ev_pI 28 d_ML_run_25 fw_ML_run_54 rfl rfl (fun g5 => ?_)
      refine ev_aload0 29 d_ML_run_28 rfl ?_
      refine ev_gR 32 d_ML_run_29 fl_ML_18 rfl rfl (fun q6 => ?_)
      refine ev_aload0 33 d_ML_run_32 rfl ?_
      refine ev_gI 36 d_ML_run_33 fl_ML_54 rfl rfl (fun z7 => ?_)
      refine ev_cv1V (kk := 1) 39 d_ML_run_36 cv_ML_58 (by decide) (by decide) rfl ev_sm0 (by decide) rfl (t_Me_enterFlits _ _ g5) (fun g8 => ?_)
      refine ev_aload0 40 d_ML_run_39 rfl ?_
      refine ev_gR 43 d_ML_run_40 fl_ML_18 rfl rfl (fun q9 => ?_)
      refine ev_aload0 44 d_ML_run_43 rfl ?_
      refine ev_gI 47 d_ML_run_44 fl_ML_54 rfl rfl (fun z10 => ?_)
      refine ev_cv1V (kk := 2) 50 d_ML_run_47 cv_ML_62 (by decide) (by decide) rfl ev_sm0 (by decide) rfl (t_Me_moveFlits _ _ g8) (fun g11 => ?_)
      refine ev_iconst 51 d_ML_run_50 rfl ?_
      refine ev_istore3 52 d_ML_run_51 (by decide) rfl ?_
      refine ev_wk (t_ML_run_52 FU _ _ _ _ g11 _ ?_) (ev_subS (ev_subS (ev_subS (ev_subS ev_sub0))))
      intro y16_0 y16_1 y16_2 y16_h
      refine ev_iconst 78 d_ML_run_77 rfl ?_
      refine ev_istore3 79 d_ML_run_78 (by decide) rfl ?_
      refine ev_wk (t_ML_run_79 FU _ _ _ _ y16_h _ ?_) (ev_subS (ev_subS (ev_subS (ev_subS ev_sub0))))
      intro y22_0 y22_1 y22_2 y22_h
      refine ev_iinc2 110 d_ML_run_107 (by decide) rfl ?_
      refine ev_goto 13 d_ML_run_110 (by decide) ?_
      exact ev_wk (ih _ _ _ y22_h) (ev_subS (ev_subS (ev_subS (ev_subN ev_sub0))))
theorem t_ML_run {E : ev_E} (x0 : Option Nat) (x1 : Int) (h : ev_hs) : EvO E M_ML_run 13 cvI 0 [some (va_rf x0), some (eI x1), none, none] [] h (f_ML_run x0 x1 h) := by
  unfold f_ML_run
  refine ev_iload1 1 d_ML_run_0 rfl ?_
  refine ev_bipush 3 d_ML_run_1 (by decide) rfl ?_
  refine ev_cs2I (kk := 0) 6 d_ML_run_3 cs_ML_40 (by decide) (by decide) rfl rfl ev_sm0 (by decide) rfl (t_ML_isBelow _ _ h) (fun z2 g1 => ?_)
  refine ev_if_ne 11 9 d_ML_run_6 (by decide) rfl ?_ ?_
  · refine ev_iconst 12 d_ML_run_11 rfl ?_
    refine ev_istore2 13 d_ML_run_12 (by decide) rfl ?_
    refine ev_wk (t_ML_run_13 FU _ _ _ g1) (ev_subS (ev_subS (ev_subS (ev_subN ev_sub0))))
  · refine ev_iconst 10 d_ML_run_9 rfl ?_
    exact ev_ireturn d_ML_run_10 rfl
theorem t_Mo_append {E : ev_E} (x0 : Option Nat) (x1 : Int) (x2 : Int) (x3 : Int) (h : ev_hs) : EvO E M_Mo_append 1 cvV 0 [some (va_rf x0), some (eI x1), some (eI x2), some (eI x3), none] [] h (f_Mo_append x0 x1 x2 x3 h) := by
  unfold f_Mo_append
  refine ev_iconst 1 d_Mo_append_0 rfl ?_
  refine ev_iload1 2 d_Mo_append_1 rfl ?_
  refine ev_imul 3 d_Mo_append_2 rfl ?_
  refine ev_aload0 4 d_Mo_append_3 rfl ?_
  refine ev_gR 7 d_Mo_append_4 fl_Mo_59 rfl rfl (fun q1 => ?_)
  refine ev_iload1 8 d_Mo_append_7 rfl ?_
  refine ev_iaload 9 d_Mo_append_8 rfl (fun z2 => ?_)
  refine ev_iadd 10 d_Mo_append_9 rfl ?_
  refine ev_istore4 12 d_Mo_append_10 (by decide) rfl ?_
  refine ev_aload0 13 d_Mo_append_12 rfl ?_
  refine ev_gR 16 d_Mo_append_13 fl_Mo_50 rfl rfl (fun q3 => ?_)
  refine ev_iload4 18 d_Mo_append_16 rfl ?_
  refine ev_iload2 19 d_Mo_append_18 rfl ?_
  refine ev_iastore 20 d_Mo_append_19 rfl (fun g4 => ?_)
  refine ev_aload0 21 d_Mo_append_20 rfl ?_
  refine ev_gR 24 d_Mo_append_21 fl_Mo_53 rfl rfl (fun q5 => ?_)
  refine ev_iload4 26 d_Mo_append_24 rfl ?_
  refine ev_iload3 27 d_Mo_append_26 rfl ?_
  refine ev_iastore 28 d_Mo_append_27 rfl (fun g6 => ?_)
  refine ev_aload0 29 d_Mo_append_28 rfl ?_
  refine ev_gR 32 d_Mo_append_29 fl_Mo_56 rfl rfl (fun q7 => ?_)
  refine ev_iload4 34 d_Mo_append_32 rfl ?_
  refine ev_aload0 35 d_Mo_append_34 rfl ?_
  refine ev_gI 38 d_Mo_append_35 fl_Mo_130 rfl rfl (fun z8 => ?_)
  refine ev_iastore 39 d_Mo_append_38 rfl (fun g9 => ?_)
  refine ev_aload0 40 d_Mo_append_39 rfl ?_
  refine ev_gR 43 d_Mo_append_40 fl_Mo_59 rfl rfl (fun q10 => ?_)
  refine ev_iload1 44 d_Mo_append_43 rfl ?_
  refine ev_dup2 45 d_Mo_append_44 rfl (va_rf_cat _) rfl ?_
  refine ev_iaload 46 d_Mo_append_45 rfl (fun z11 => ?_)
  refine ev_iconst 47 d_Mo_append_46 rfl ?_
  refine ev_iadd 48 d_Mo_append_47 rfl ?_
  refine ev_iastore 49 d_Mo_append_48 rfl (fun g12 => ?_)
  exact ev_return d_Mo_append_49 rfl
theorem t_Mo_sizeOf {E : ev_E} (x0 : Option Nat) (x1 : Int) (h : ev_hs) : EvO E M_Mo_sizeOf 1 cvI 0 [some (va_rf x0), some (eI x1)] [] h (f_Mo_sizeOf x0 x1 h) := by
  unfold f_Mo_sizeOf
  refine ev_jn (fun J => ∀ (u1_s0 : Int) (u1_h : ev_hs), EvO E M_Mo_sizeOf 1 cvI 40 [none, none] [eI u1_s0] u1_h (J u1_s0 u1_h)) ?_ (fun J40 hJ40 => ?_)
  · intro u1_s0 u1_h
    exact ev_ireturn d_Mo_sizeOf_40 rfl
  refine ev_jn (fun J => ∀ (u2_0 : Option Nat) (u2_h : ev_hs), EvO E M_Mo_sizeOf 1 cvI 32 [some (va_rf u2_0), none] [] u2_h (J u2_0 u2_h)) ?_ (fun J32 hJ32 => ?_)
  · intro u2_0 u2_h
    refine ev_aload0 33 d_Mo_sizeOf_32 rfl ?_
    refine ev_gI 36 d_Mo_sizeOf_33 fl_Mo_120 rfl rfl (fun z3 => ?_)
    refine ev_goto 40 d_Mo_sizeOf_36 (by decide) ?_
    exact ev_wk (hJ40 _ u2_h) (ev_subN (ev_subN ev_sub0))
  refine ev_aload0 1 d_Mo_sizeOf_0 rfl ?_
  refine ev_gR 4 d_Mo_sizeOf_1 fl_Mo_13 rfl rfl (fun q4 => ?_)
  refine ev_iload1 5 d_Mo_sizeOf_4 rfl ?_
  refine ev_iaload 6 d_Mo_sizeOf_5 rfl (fun z5 => ?_)
  refine ev_iconst 7 d_Mo_sizeOf_6 rfl ?_
  refine ev_icmp_eq 32 10 d_Mo_sizeOf_7 (by decide) rfl ?_ ?_
  · exact ev_wk (hJ32 _ h) (ev_subS (ev_subN ev_sub0))
  · refine ev_aload0 11 d_Mo_sizeOf_10 rfl ?_
    refine ev_gR 14 d_Mo_sizeOf_11 fl_Mo_13 rfl rfl (fun q6 => ?_)
    refine ev_iload1 15 d_Mo_sizeOf_14 rfl ?_
    refine ev_iaload 16 d_Mo_sizeOf_15 rfl (fun z7 => ?_)
    refine ev_bipush 18 d_Mo_sizeOf_16 (by decide) rfl ?_
    refine ev_icmp_eq 32 21 d_Mo_sizeOf_18 (by decide) rfl ?_ ?_
    · exact ev_wk (hJ32 _ h) (ev_subS (ev_subN ev_sub0))
    · refine ev_aload0 22 d_Mo_sizeOf_21 rfl ?_
      refine ev_gR 25 d_Mo_sizeOf_22 fl_Mo_13 rfl rfl (fun q8 => ?_)
      refine ev_iload1 26 d_Mo_sizeOf_25 rfl ?_
      refine ev_iaload 27 d_Mo_sizeOf_26 rfl (fun z9 => ?_)
      refine ev_bipush 29 d_Mo_sizeOf_27 (by decide) rfl ?_
      refine ev_icmp_ne 39 32 d_Mo_sizeOf_29 (by decide) rfl ?_ ?_
      · refine ev_iconst 40 d_Mo_sizeOf_39 rfl ?_
        exact ev_wk (hJ40 _ h) (ev_subN (ev_subN ev_sub0))
      · exact ev_wk (hJ32 _ h) (ev_subS (ev_subN ev_sub0))
theorem t_Mo_inject_116 {E : ev_E} : ∀ (fu : Nat) (x0 : Option Nat) (x3 : Int) (x6 : Int) (h : ev_hs), EvO E M_Mo_inject 2 cvV 116 [some (va_rf x0), none, none, some (eI x3), none, none, some (eI x6)] [] h (f_Mo_inject_116 fu x0 x3 x6 h) := by
  intro fu
  induction fu with
  | zero => intros; exact ev_no
  | succ fu ih =>
    intro x0 x3 x6 h
    rw [f_Mo_inject_116]
    refine ev_iload6 118 d_Mo_inject_116 rfl ?_
    refine ev_sipush 121 d_Mo_inject_118 (by decide) rfl ?_
    refine ev_iload3 122 d_Mo_inject_121 rfl ?_
    refine ev_imul 123 d_Mo_inject_122 rfl ?_
    refine ev_aload0 124 d_Mo_inject_123 rfl ?_
    refine ev_gR 127 d_Mo_inject_124 fl_Mo_38 rfl rfl (fun q23 => ?_)
    refine ev_iload3 128 d_Mo_inject_127 rfl ?_
    refine ev_iaload 129 d_Mo_inject_128 rfl (fun z24 => ?_)
    refine ev_iadd 130 d_Mo_inject_129 rfl ?_
    refine ev_icmp_ge 155 133 d_Mo_inject_130 (by decide) rfl ?_ ?_
    · exact ev_return d_Mo_inject_155 rfl
    · refine ev_aload0 134 d_Mo_inject_133 rfl ?_
      refine ev_gR 137 d_Mo_inject_134 fl_Mo_35 rfl rfl (fun q25 => ?_)
      refine ev_iload6 139 d_Mo_inject_137 rfl ?_
      refine ev_aload0 140 d_Mo_inject_139 rfl ?_
      refine ev_gR 143 d_Mo_inject_140 fl_Mo_35 rfl rfl (fun q26 => ?_)
      refine ev_iload6 145 d_Mo_inject_143 rfl ?_
      refine ev_iconst 146 d_Mo_inject_145 rfl ?_
      refine ev_iadd 147 d_Mo_inject_146 rfl ?_
      refine ev_iaload 148 d_Mo_inject_147 rfl (fun z27 => ?_)
      refine ev_iastore 149 d_Mo_inject_148 rfl (fun g28 => ?_)
      refine ev_iinc6 152 d_Mo_inject_149 (by decide) rfl ?_
      refine ev_goto 116 d_Mo_inject_152 (by decide) ?_
      exact ev_wk (ih _ _ _ g28) (ev_subS (ev_subN (ev_subN (ev_subS (ev_subN (ev_subN (ev_subS ev_sub0)))))))
theorem t_Mo_inject {E : ev_E} (x0 : Option Nat) (x1 : Int) (x2 : Int) (h : ev_hs) : EvO E M_Mo_inject 2 cvV 0 [some (va_rf x0), some (eI x1), some (eI x2), none, none, none, none] [] h (f_Mo_inject x0 x1 x2 h) := by
  unfold f_Mo_inject
  refine ev_iconst 1 d_Mo_inject_0 rfl ?_
  refine ev_iload1 2 d_Mo_inject_1 rfl ?_
  refine ev_imul 3 d_Mo_inject_2 rfl ?_
  refine ev_iload2 4 d_Mo_inject_3 rfl ?_
  refine ev_iadd 5 d_Mo_inject_4 rfl ?_
  refine ev_istore3 6 d_Mo_inject_5 (by decide) rfl ?_
  refine ev_bipush 8 d_Mo_inject_6 (by decide) rfl ?_
  refine ev_iload1 9 d_Mo_inject_8 rfl ?_
  refine ev_imul 10 d_Mo_inject_9 rfl ?_
  refine ev_bipush 12 d_Mo_inject_10 (by decide) rfl ?_
  refine ev_iadd 13 d_Mo_inject_12 rfl ?_
  refine ev_iload2 14 d_Mo_inject_13 rfl ?_
  refine ev_iadd 15 d_Mo_inject_14 rfl ?_
  refine ev_istore4 17 d_Mo_inject_15 (by decide) rfl ?_
  refine ev_aload0 18 d_Mo_inject_17 rfl ?_
  refine ev_gR 21 d_Mo_inject_18 fl_Mo_38 rfl rfl (fun q1 => ?_)
  refine ev_iload3 22 d_Mo_inject_21 rfl ?_
  refine ev_iaload 23 d_Mo_inject_22 rfl (fun z2 => ?_)
  refine ev_if_eq 40 26 d_Mo_inject_23 (by decide) rfl ?_ ?_
  · exact ev_return d_Mo_inject_40 rfl
  · refine ev_aload0 27 d_Mo_inject_26 rfl ?_
    refine ev_gR 30 d_Mo_inject_27 fl_Mo_59 rfl rfl (fun q3 => ?_)
    refine ev_iload4 32 d_Mo_inject_30 rfl ?_
    refine ev_iaload 33 d_Mo_inject_32 rfl (fun z4 => ?_)
    refine ev_aload0 34 d_Mo_inject_33 rfl ?_
    refine ev_gI 37 d_Mo_inject_34 fl_Mo_116 rfl rfl (fun z5 => ?_)
    refine ev_icmp_ne 41 40 d_Mo_inject_37 (by decide) rfl ?_ ?_
    · refine ev_aload0 42 d_Mo_inject_41 rfl ?_
      refine ev_gR 45 d_Mo_inject_42 fl_Mo_35 rfl rfl (fun q6 => ?_)
      refine ev_sipush 48 d_Mo_inject_45 (by decide) rfl ?_
      refine ev_iload3 49 d_Mo_inject_48 rfl ?_
      refine ev_imul 50 d_Mo_inject_49 rfl ?_
      refine ev_iaload 51 d_Mo_inject_50 rfl (fun z7 => ?_)
      refine ev_istore5 53 d_Mo_inject_51 (by decide) rfl ?_
      refine ev_aload0 54 d_Mo_inject_53 rfl ?_
      refine ev_iload4 56 d_Mo_inject_54 rfl ?_
      refine ev_iload5 58 d_Mo_inject_56 rfl ?_
      refine ev_aload0 59 d_Mo_inject_58 rfl ?_
      refine ev_gR 62 d_Mo_inject_59 fl_Mo_41 rfl rfl (fun q8 => ?_)
      refine ev_iload3 63 d_Mo_inject_62 rfl ?_
      refine ev_iaload 64 d_Mo_inject_63 rfl (fun z9 => ?_)
      refine ev_cv3V (kk := 1) 67 d_Mo_inject_64 cv_Mo_133 (by decide) (by decide) rfl rfl rfl ev_sm0 (by decide) rfl (t_Mo_append _ _ _ _ h) (fun g10 => ?_)
      refine ev_aload0 68 d_Mo_inject_67 rfl ?_
      refine ev_gR 71 d_Mo_inject_68 fl_Mo_41 rfl rfl (fun q11 => ?_)
      refine ev_iload3 72 d_Mo_inject_71 rfl ?_
      refine ev_dup2 73 d_Mo_inject_72 rfl (va_rf_cat _) rfl ?_
      refine ev_iaload 74 d_Mo_inject_73 rfl (fun z12 => ?_)
      refine ev_iconst 75 d_Mo_inject_74 rfl ?_
      refine ev_iadd 76 d_Mo_inject_75 rfl ?_
      refine ev_iastore 77 d_Mo_inject_76 rfl (fun g13 => ?_)
      refine ev_aload0 78 d_Mo_inject_77 rfl ?_
      refine ev_gR 81 d_Mo_inject_78 fl_Mo_41 rfl rfl (fun q14 => ?_)
      refine ev_iload3 82 d_Mo_inject_81 rfl ?_
      refine ev_iaload 83 d_Mo_inject_82 rfl (fun z15 => ?_)
      refine ev_aload0 84 d_Mo_inject_83 rfl ?_
      refine ev_iload5 86 d_Mo_inject_84 rfl ?_
      refine ev_cv1I (kk := 0) 89 d_Mo_inject_86 cv_Mo_137 (by decide) (by decide) rfl (ev_smc rfl ev_sm0) (by decide) rfl (t_Mo_sizeOf _ _ g13) (fun z17 g16 => ?_)
      refine ev_icmp_ne 155 92 d_Mo_inject_89 (by decide) rfl ?_ ?_
      · exact ev_return d_Mo_inject_155 rfl
      · refine ev_aload0 93 d_Mo_inject_92 rfl ?_
        refine ev_gR 96 d_Mo_inject_93 fl_Mo_41 rfl rfl (fun q18 => ?_)
        refine ev_iload3 97 d_Mo_inject_96 rfl ?_
        refine ev_iconst 98 d_Mo_inject_97 rfl ?_
        refine ev_iastore 99 d_Mo_inject_98 rfl (fun g19 => ?_)
        refine ev_aload0 100 d_Mo_inject_99 rfl ?_
        refine ev_gR 103 d_Mo_inject_100 fl_Mo_38 rfl rfl (fun q20 => ?_)
        refine ev_iload3 104 d_Mo_inject_103 rfl ?_
        refine ev_dup2 105 d_Mo_inject_104 rfl (va_rf_cat _) rfl ?_
        refine ev_iaload 106 d_Mo_inject_105 rfl (fun z21 => ?_)
        refine ev_iconst 107 d_Mo_inject_106 rfl ?_
        refine ev_isub 108 d_Mo_inject_107 rfl ?_
        refine ev_iastore 109 d_Mo_inject_108 rfl (fun g22 => ?_)
        refine ev_sipush 112 d_Mo_inject_109 (by decide) rfl ?_
        refine ev_iload3 113 d_Mo_inject_112 rfl ?_
        refine ev_imul 114 d_Mo_inject_113 rfl ?_
        refine ev_istore6 116 d_Mo_inject_114 (by decide) rfl ?_
        refine ev_wk (t_Mo_inject_116 FU _ _ _ g22) (ev_subS (ev_subN (ev_subN (ev_subS (ev_subN (ev_subN (ev_subS ev_sub0)))))))
    · exact ev_return d_Mo_inject_40 rfl
theorem t_Mo_way {E : ev_E} (x0 : Int) (x1 : Int) (h : ev_hs) : EvO E M_Mo_way 1 cvI 0 [some (eI x0), some (eI x1), none, none] [] h (f_Mo_way x0 x1 h) := by
  unfold f_Mo_way
  refine ev_jn (fun J => ∀ (u1_s0 : Int) (u1_h : ev_hs), EvO E M_Mo_way 1 cvI 49 [none, none, none, none] [eI u1_s0] u1_h (J u1_s0 u1_h)) ?_ (fun J49 hJ49 => ?_)
  · intro u1_s0 u1_h
    exact ev_ireturn d_Mo_way_49 rfl
  refine ev_iload1 1 d_Mo_way_0 rfl ?_
  refine ev_iconst 2 d_Mo_way_1 rfl ?_
  refine ev_irem 3 d_Mo_way_2 rfl (fun z2 => ?_)
  refine ev_iload0 4 d_Mo_way_3 rfl ?_
  refine ev_iconst 5 d_Mo_way_4 rfl ?_
  refine ev_irem 6 d_Mo_way_5 rfl (fun z3 => ?_)
  refine ev_isub 7 d_Mo_way_6 rfl ?_
  refine ev_istore2 8 d_Mo_way_7 (by decide) rfl ?_
  refine ev_iload1 9 d_Mo_way_8 rfl ?_
  refine ev_iconst 10 d_Mo_way_9 rfl ?_
  refine ev_idiv 11 d_Mo_way_10 rfl (fun z4 => ?_)
  refine ev_iload0 12 d_Mo_way_11 rfl ?_
  refine ev_iconst 13 d_Mo_way_12 rfl ?_
  refine ev_idiv 14 d_Mo_way_13 rfl (fun z5 => ?_)
  refine ev_isub 15 d_Mo_way_14 rfl ?_
  refine ev_istore3 16 d_Mo_way_15 (by decide) rfl ?_
  refine ev_iload2 17 d_Mo_way_16 rfl ?_
  refine ev_if_le 24 20 d_Mo_way_17 (by decide) rfl ?_ ?_
  · refine ev_iload2 25 d_Mo_way_24 rfl ?_
    refine ev_if_ge 32 28 d_Mo_way_25 (by decide) rfl ?_ ?_
    · refine ev_iload3 33 d_Mo_way_32 rfl ?_
      refine ev_if_le 40 36 d_Mo_way_33 (by decide) rfl ?_ ?_
      · refine ev_iload3 41 d_Mo_way_40 rfl ?_
        refine ev_if_ge 48 44 d_Mo_way_41 (by decide) rfl ?_ ?_
        · refine ev_iconst 49 d_Mo_way_48 rfl ?_
          exact ev_wk (hJ49 _ h) (ev_subN (ev_subN (ev_subN (ev_subN ev_sub0))))
        · refine ev_iconst 45 d_Mo_way_44 rfl ?_
          refine ev_goto 49 d_Mo_way_45 (by decide) ?_
          exact ev_wk (hJ49 _ h) (ev_subN (ev_subN (ev_subN (ev_subN ev_sub0))))
      · refine ev_iconst 37 d_Mo_way_36 rfl ?_
        refine ev_goto 49 d_Mo_way_37 (by decide) ?_
        exact ev_wk (hJ49 _ h) (ev_subN (ev_subN (ev_subN (ev_subN ev_sub0))))
    · refine ev_iconst 29 d_Mo_way_28 rfl ?_
      refine ev_goto 49 d_Mo_way_29 (by decide) ?_
      exact ev_wk (hJ49 _ h) (ev_subN (ev_subN (ev_subN (ev_subN ev_sub0))))
  · refine ev_iconst 21 d_Mo_way_20 rfl ?_
    refine ev_goto 49 d_Mo_way_21 (by decide) ?_
    exact ev_wk (hJ49 _ h) (ev_subN (ev_subN (ev_subN (ev_subN ev_sub0))))
theorem t_Mo_served_33 {E : ev_E} : ∀ (fu : Nat) (x0 : Option Nat) (x1 : Int) (x2 : Int) (x3 : Int) (x4 : Int) (x5 : Int) (h : ev_hs), EvO E M_Mo_served 2 cvI 33 [some (va_rf x0), some (eI x1), some (eI x2), some (eI x3), some (eI x4), some (eI x5), none, none, none] [] h (f_Mo_served_33 fu x0 x1 x2 x3 x4 x5 h) := by
  intro fu
  induction fu with
  | zero => intros; exact ev_no
  | succ fu ih =>
    intro x0 x1 x2 x3 x4 x5 h
    rw [f_Mo_served_33]
    refine ev_iload5 35 d_Mo_served_33 rfl ?_
    refine ev_iconst 36 d_Mo_served_35 rfl ?_
    refine ev_icmp_gt 121 39 d_Mo_served_36 (by decide) rfl ?_ ?_
    · refine ev_iconst 122 d_Mo_served_121 rfl ?_
      exact ev_ireturn d_Mo_served_122 rfl
    · refine ev_jn (fun J => ∀ (u3_0 : Option Nat) (u3_1 : Int) (u3_2 : Int) (u3_3 : Int) (u3_4 : Int) (u3_5 : Int) (u3_h : ev_hs), EvO E M_Mo_served 2 cvI 115 [some (va_rf u3_0), some (eI u3_1), some (eI u3_2), some (eI u3_3), some (eI u3_4), some (eI u3_5), none, none, none] [] u3_h (J u3_0 u3_1 u3_2 u3_3 u3_4 u3_5 u3_h)) ?_ (fun J115 hJ115 => ?_)
      · intro u3_0 u3_1 u3_2 u3_3 u3_4 u3_5 u3_h
        refine ev_iinc5 118 d_Mo_served_115 (by decide) rfl ?_
        refine ev_goto 33 d_Mo_served_118 (by decide) ?_
        exact ev_wk (ih _ _ _ _ _ _ u3_h) (ev_subS (ev_subS (ev_subS (ev_subS (ev_subS (ev_subS (ev_subN (ev_subN (ev_subN ev_sub0)))))))))
      refine ev_aload0 40 d_Mo_served_39 rfl ?_
      refine ev_gR 43 d_Mo_served_40 fl_Mo_65 rfl rfl (fun q4 => ?_)
      refine ev_iload4 45 d_Mo_served_43 rfl ?_
      refine ev_iaload 46 d_Mo_served_45 rfl (fun z5 => ?_)
      refine ev_iload5 48 d_Mo_served_46 rfl ?_
      refine ev_iadd 49 d_Mo_served_48 rfl ?_
      refine ev_iconst 50 d_Mo_served_49 rfl ?_
      refine ev_irem 51 d_Mo_served_50 rfl (fun z6 => ?_)
      refine ev_istore6 53 d_Mo_served_51 (by decide) rfl ?_
      refine ev_bipush 55 d_Mo_served_53 (by decide) rfl ?_
      refine ev_iload1 56 d_Mo_served_55 rfl ?_
      refine ev_imul 57 d_Mo_served_56 rfl ?_
      refine ev_iconst 58 d_Mo_served_57 rfl ?_
      refine ev_iload6 60 d_Mo_served_58 rfl ?_
      refine ev_imul 61 d_Mo_served_60 rfl ?_
      refine ev_iadd 62 d_Mo_served_61 rfl ?_
      refine ev_iload3 63 d_Mo_served_62 rfl ?_
      refine ev_iadd 64 d_Mo_served_63 rfl ?_
      refine ev_istore7 66 d_Mo_served_64 (by decide) rfl ?_
      refine ev_iconst 67 d_Mo_served_66 rfl ?_
      refine ev_iload7 69 d_Mo_served_67 rfl ?_
      refine ev_imul 70 d_Mo_served_69 rfl ?_
      refine ev_istore8 72 d_Mo_served_70 (by decide) rfl ?_
      refine ev_aload0 73 d_Mo_served_72 rfl ?_
      refine ev_gR 76 d_Mo_served_73 fl_Mo_59 rfl rfl (fun q7 => ?_)
      refine ev_iload7 78 d_Mo_served_76 rfl ?_
      refine ev_iaload 79 d_Mo_served_78 rfl (fun z8 => ?_)
      refine ev_if_le 115 82 d_Mo_served_79 (by decide) rfl ?_ ?_
      · exact ev_wk (hJ115 _ _ _ _ _ _ h) (ev_subS (ev_subS (ev_subS (ev_subS (ev_subS (ev_subS (ev_subN (ev_subN (ev_subN ev_sub0)))))))))
      · refine ev_aload0 83 d_Mo_served_82 rfl ?_
        refine ev_gR 86 d_Mo_served_83 fl_Mo_53 rfl rfl (fun q9 => ?_)
        refine ev_iload8 88 d_Mo_served_86 rfl ?_
        refine ev_iaload 89 d_Mo_served_88 rfl (fun z10 => ?_)
        refine ev_if_ne 115 92 d_Mo_served_89 (by decide) rfl ?_ ?_
        · exact ev_wk (hJ115 _ _ _ _ _ _ h) (ev_subS (ev_subS (ev_subS (ev_subS (ev_subS (ev_subS (ev_subN (ev_subN (ev_subN ev_sub0)))))))))
        · refine ev_iload1 93 d_Mo_served_92 rfl ?_
          refine ev_aload0 94 d_Mo_served_93 rfl ?_
          refine ev_gR 97 d_Mo_served_94 fl_Mo_20 rfl rfl (fun q11 => ?_)
          refine ev_aload0 98 d_Mo_served_97 rfl ?_
          refine ev_gR 101 d_Mo_served_98 fl_Mo_50 rfl rfl (fun q12 => ?_)
          refine ev_iload8 103 d_Mo_served_101 rfl ?_
          refine ev_iaload 104 d_Mo_served_103 rfl (fun z13 => ?_)
          refine ev_iaload 105 d_Mo_served_104 rfl (fun z14 => ?_)
          refine ev_cs2I (kk := 2) 108 d_Mo_served_105 cs_Mo_140 (by decide) (by decide) rfl rfl ev_sm0 (by decide) rfl (t_Mo_way _ _ h) (fun z16 g15 => ?_)
          refine ev_iload2 109 d_Mo_served_108 rfl ?_
          refine ev_icmp_ne 115 112 d_Mo_served_109 (by decide) rfl ?_ ?_
          · exact ev_wk (hJ115 _ _ _ _ _ _ g15) (ev_subS (ev_subS (ev_subS (ev_subS (ev_subS (ev_subS (ev_subN (ev_subN (ev_subN ev_sub0)))))))))
          · refine ev_iload6 114 d_Mo_served_112 rfl ?_
            exact ev_ireturn d_Mo_served_114 rfl
theorem t_Mo_served {E : ev_E} (x0 : Option Nat) (x1 : Int) (x2 : Int) (x3 : Int) (h : ev_hs) : EvO E M_Mo_served 2 cvI 0 [some (va_rf x0), some (eI x1), some (eI x2), some (eI x3), none, none, none, none, none] [] h (f_Mo_served x0 x1 x2 x3 h) := by
  unfold f_Mo_served
  refine ev_bipush 2 d_Mo_served_0 (by decide) rfl ?_
  refine ev_iload1 3 d_Mo_served_2 rfl ?_
  refine ev_imul 4 d_Mo_served_3 rfl ?_
  refine ev_iconst 5 d_Mo_served_4 rfl ?_
  refine ev_iload2 6 d_Mo_served_5 rfl ?_
  refine ev_imul 7 d_Mo_served_6 rfl ?_
  refine ev_iadd 8 d_Mo_served_7 rfl ?_
  refine ev_iload3 9 d_Mo_served_8 rfl ?_
  refine ev_iadd 10 d_Mo_served_9 rfl ?_
  refine ev_istore4 12 d_Mo_served_10 (by decide) rfl ?_
  refine ev_aload0 13 d_Mo_served_12 rfl ?_
  refine ev_gR 16 d_Mo_served_13 fl_Mo_62 rfl rfl (fun q1 => ?_)
  refine ev_iload4 18 d_Mo_served_16 rfl ?_
  refine ev_iaload 19 d_Mo_served_18 rfl (fun z2 => ?_)
  refine ev_if_lt 30 22 d_Mo_served_19 (by decide) rfl ?_ ?_
  · refine ev_iconst 31 d_Mo_served_30 rfl ?_
    refine ev_istore5 33 d_Mo_served_31 (by decide) rfl ?_
    refine ev_wk (t_Mo_served_33 FU _ _ _ _ _ _ h) (ev_subS (ev_subS (ev_subS (ev_subS (ev_subS (ev_subS (ev_subN (ev_subN (ev_subN ev_sub0)))))))))
  · refine ev_aload0 23 d_Mo_served_22 rfl ?_
    refine ev_gR 26 d_Mo_served_23 fl_Mo_62 rfl rfl (fun q17 => ?_)
    refine ev_iload4 28 d_Mo_served_26 rfl ?_
    refine ev_iaload 29 d_Mo_served_28 rfl (fun z18 => ?_)
    exact ev_ireturn d_Mo_served_29 rfl
theorem t_Mo_neighbour {E : ev_E} (x0 : Int) (x1 : Int) (h : ev_hs) : EvO E M_Mo_neighbour 1 cvI 0 [some (eI x0), some (eI x1)] [] h (f_Mo_neighbour x0 x1 h) := by
  unfold f_Mo_neighbour
  refine ev_jn (fun J => ∀ (u1_s0 : Int) (u1_h : ev_hs), EvO E M_Mo_neighbour 1 cvI 35 [none, none] [eI u1_s0] u1_h (J u1_s0 u1_h)) ?_ (fun J35 hJ35 => ?_)
  · intro u1_s0 u1_h
    exact ev_ireturn d_Mo_neighbour_35 rfl
  refine ev_iload1 1 d_Mo_neighbour_0 rfl ?_
  refine ev_if_ne 10 4 d_Mo_neighbour_1 (by decide) rfl ?_ ?_
  · refine ev_iload1 11 d_Mo_neighbour_10 rfl ?_
    refine ev_iconst 12 d_Mo_neighbour_11 rfl ?_
    refine ev_icmp_ne 21 15 d_Mo_neighbour_12 (by decide) rfl ?_ ?_
    · refine ev_iload1 22 d_Mo_neighbour_21 rfl ?_
      refine ev_iconst 23 d_Mo_neighbour_22 rfl ?_
      refine ev_icmp_ne 32 26 d_Mo_neighbour_23 (by decide) rfl ?_ ?_
      · refine ev_iload0 33 d_Mo_neighbour_32 rfl ?_
        refine ev_iconst 34 d_Mo_neighbour_33 rfl ?_
        refine ev_isub 35 d_Mo_neighbour_34 rfl ?_
        exact ev_wk (hJ35 _ h) (ev_subN (ev_subN ev_sub0))
      · refine ev_iload0 27 d_Mo_neighbour_26 rfl ?_
        refine ev_iconst 28 d_Mo_neighbour_27 rfl ?_
        refine ev_iadd 29 d_Mo_neighbour_28 rfl ?_
        refine ev_goto 35 d_Mo_neighbour_29 (by decide) ?_
        exact ev_wk (hJ35 _ h) (ev_subN (ev_subN ev_sub0))
    · refine ev_iload0 16 d_Mo_neighbour_15 rfl ?_
      refine ev_iconst 17 d_Mo_neighbour_16 rfl ?_
      refine ev_iadd 18 d_Mo_neighbour_17 rfl ?_
      refine ev_goto 35 d_Mo_neighbour_18 (by decide) ?_
      exact ev_wk (hJ35 _ h) (ev_subN (ev_subN ev_sub0))
  · refine ev_iload0 5 d_Mo_neighbour_4 rfl ?_
    refine ev_iconst 6 d_Mo_neighbour_5 rfl ?_
    refine ev_isub 7 d_Mo_neighbour_6 rfl ?_
    refine ev_goto 35 d_Mo_neighbour_7 (by decide) ?_
    exact ev_wk (hJ35 _ h) (ev_subN (ev_subN ev_sub0))
theorem t_Mo_removeFront_14 {E : ev_E} : ∀ (fu : Nat) (x0 : Option Nat) (x1 : Int) (x2 : Int) (h : ev_hs), EvO E M_Mo_removeFront 1 cvV 14 [some (va_rf x0), some (eI x1), some (eI x2)] [] h (f_Mo_removeFront_14 fu x0 x1 x2 h) := by
  intro fu
  induction fu with
  | zero => intros; exact ev_no
  | succ fu ih =>
    intro x0 x1 x2 h
    rw [f_Mo_removeFront_14]
    refine ev_iload2 15 d_Mo_removeFront_14 rfl ?_
    refine ev_iconst 16 d_Mo_removeFront_15 rfl ?_
    refine ev_iload1 17 d_Mo_removeFront_16 rfl ?_
    refine ev_imul 18 d_Mo_removeFront_17 rfl ?_
    refine ev_aload0 19 d_Mo_removeFront_18 rfl ?_
    refine ev_gR 22 d_Mo_removeFront_19 fl_Mo_59 rfl rfl (fun q4 => ?_)
    refine ev_iload1 23 d_Mo_removeFront_22 rfl ?_
    refine ev_iaload 24 d_Mo_removeFront_23 rfl (fun z5 => ?_)
    refine ev_iadd 25 d_Mo_removeFront_24 rfl ?_
    refine ev_icmp_ge 76 28 d_Mo_removeFront_25 (by decide) rfl ?_ ?_
    · exact ev_return d_Mo_removeFront_76 rfl
    · refine ev_aload0 29 d_Mo_removeFront_28 rfl ?_
      refine ev_gR 32 d_Mo_removeFront_29 fl_Mo_50 rfl rfl (fun q6 => ?_)
      refine ev_iload2 33 d_Mo_removeFront_32 rfl ?_
      refine ev_aload0 34 d_Mo_removeFront_33 rfl ?_
      refine ev_gR 37 d_Mo_removeFront_34 fl_Mo_50 rfl rfl (fun q7 => ?_)
      refine ev_iload2 38 d_Mo_removeFront_37 rfl ?_
      refine ev_iconst 39 d_Mo_removeFront_38 rfl ?_
      refine ev_iadd 40 d_Mo_removeFront_39 rfl ?_
      refine ev_iaload 41 d_Mo_removeFront_40 rfl (fun z8 => ?_)
      refine ev_iastore 42 d_Mo_removeFront_41 rfl (fun g9 => ?_)
      refine ev_aload0 43 d_Mo_removeFront_42 rfl ?_
      refine ev_gR 46 d_Mo_removeFront_43 fl_Mo_53 rfl rfl (fun q10 => ?_)
      refine ev_iload2 47 d_Mo_removeFront_46 rfl ?_
      refine ev_aload0 48 d_Mo_removeFront_47 rfl ?_
      refine ev_gR 51 d_Mo_removeFront_48 fl_Mo_53 rfl rfl (fun q11 => ?_)
      refine ev_iload2 52 d_Mo_removeFront_51 rfl ?_
      refine ev_iconst 53 d_Mo_removeFront_52 rfl ?_
      refine ev_iadd 54 d_Mo_removeFront_53 rfl ?_
      refine ev_iaload 55 d_Mo_removeFront_54 rfl (fun z12 => ?_)
      refine ev_iastore 56 d_Mo_removeFront_55 rfl (fun g13 => ?_)
      refine ev_aload0 57 d_Mo_removeFront_56 rfl ?_
      refine ev_gR 60 d_Mo_removeFront_57 fl_Mo_56 rfl rfl (fun q14 => ?_)
      refine ev_iload2 61 d_Mo_removeFront_60 rfl ?_
      refine ev_aload0 62 d_Mo_removeFront_61 rfl ?_
      refine ev_gR 65 d_Mo_removeFront_62 fl_Mo_56 rfl rfl (fun q15 => ?_)
      refine ev_iload2 66 d_Mo_removeFront_65 rfl ?_
      refine ev_iconst 67 d_Mo_removeFront_66 rfl ?_
      refine ev_iadd 68 d_Mo_removeFront_67 rfl ?_
      refine ev_iaload 69 d_Mo_removeFront_68 rfl (fun z16 => ?_)
      refine ev_iastore 70 d_Mo_removeFront_69 rfl (fun g17 => ?_)
      refine ev_iinc2 73 d_Mo_removeFront_70 (by decide) rfl ?_
      refine ev_goto 14 d_Mo_removeFront_73 (by decide) ?_
      exact ev_wk (ih _ _ _ g17) (ev_subS (ev_subS (ev_subS ev_sub0)))
theorem t_Mo_removeFront {E : ev_E} (x0 : Option Nat) (x1 : Int) (h : ev_hs) : EvO E M_Mo_removeFront 1 cvV 0 [some (va_rf x0), some (eI x1), none] [] h (f_Mo_removeFront x0 x1 h) := by
  unfold f_Mo_removeFront
  refine ev_aload0 1 d_Mo_removeFront_0 rfl ?_
  refine ev_gR 4 d_Mo_removeFront_1 fl_Mo_59 rfl rfl (fun q1 => ?_)
  refine ev_iload1 5 d_Mo_removeFront_4 rfl ?_
  refine ev_dup2 6 d_Mo_removeFront_5 rfl (va_rf_cat _) rfl ?_
  refine ev_iaload 7 d_Mo_removeFront_6 rfl (fun z2 => ?_)
  refine ev_iconst 8 d_Mo_removeFront_7 rfl ?_
  refine ev_isub 9 d_Mo_removeFront_8 rfl ?_
  refine ev_iastore 10 d_Mo_removeFront_9 rfl (fun g3 => ?_)
  refine ev_iconst 11 d_Mo_removeFront_10 rfl ?_
  refine ev_iload1 12 d_Mo_removeFront_11 rfl ?_
  refine ev_imul 13 d_Mo_removeFront_12 rfl ?_
  refine ev_istore2 14 d_Mo_removeFront_13 (by decide) rfl ?_
  refine ev_wk (t_Mo_removeFront_14 FU _ _ _ g3) (ev_subS (ev_subS (ev_subS ev_sub0)))
theorem t_Mo_moves {E : ev_E} (x0 : Option Nat) (x1 : Int) (x2 : Int) (x3 : Int) (h : ev_hs) : EvO E M_Mo_moves 3 cvI 0 [some (va_rf x0), some (eI x1), some (eI x2), some (eI x3), none, none, none, none, none, none, none, none, none, none] [] h (f_Mo_moves x0 x1 x2 x3 h) := by
  unfold f_Mo_moves
  refine ev_aload0 1 d_Mo_moves_0 rfl ?_
  refine ev_iload1 2 d_Mo_moves_1 rfl ?_
  refine ev_iload2 3 d_Mo_moves_2 rfl ?_
  refine ev_iload3 4 d_Mo_moves_3 rfl ?_
  refine ev_cv3I (kk := 5) 7 d_Mo_moves_4 cv_Mo_144 (by decide) (by decide) rfl rfl rfl ev_sm0 (by decide) rfl (t_Mo_served _ _ _ _ h) (fun z2 g1 => ?_)
  refine ev_istore4 9 d_Mo_moves_7 (by decide) rfl ?_
  refine ev_iload4 11 d_Mo_moves_9 rfl ?_
  refine ev_if_ge 16 14 d_Mo_moves_11 (by decide) rfl ?_ ?_
  · refine ev_jn (fun J => ∀ (u3_h : ev_hs), EvO E M_Mo_moves 3 cvI 59 [none, none, none, none, none, none, none, none, none, none, none, none, none, none] [] u3_h (J u3_h)) ?_ (fun J59 hJ59 => ?_)
    · intro u3_h
      refine ev_iconst 60 d_Mo_moves_59 rfl ?_
      exact ev_zreturn d_Mo_moves_60 rfl
    refine ev_bipush 18 d_Mo_moves_16 (by decide) rfl ?_
    refine ev_iload1 19 d_Mo_moves_18 rfl ?_
    refine ev_imul 20 d_Mo_moves_19 rfl ?_
    refine ev_iconst 21 d_Mo_moves_20 rfl ?_
    refine ev_iload4 23 d_Mo_moves_21 rfl ?_
    refine ev_imul 24 d_Mo_moves_23 rfl ?_
    refine ev_iadd 25 d_Mo_moves_24 rfl ?_
    refine ev_iload3 26 d_Mo_moves_25 rfl ?_
    refine ev_iadd 27 d_Mo_moves_26 rfl ?_
    refine ev_istore5 29 d_Mo_moves_27 (by decide) rfl ?_
    refine ev_iconst 30 d_Mo_moves_29 rfl ?_
    refine ev_iload5 32 d_Mo_moves_30 rfl ?_
    refine ev_imul 33 d_Mo_moves_32 rfl ?_
    refine ev_istore6 35 d_Mo_moves_33 (by decide) rfl ?_
    refine ev_aload0 36 d_Mo_moves_35 rfl ?_
    refine ev_gR 39 d_Mo_moves_36 fl_Mo_59 rfl rfl (fun q4 => ?_)
    refine ev_iload5 41 d_Mo_moves_39 rfl ?_
    refine ev_iaload 42 d_Mo_moves_41 rfl (fun z5 => ?_)
    refine ev_if_eq 59 45 d_Mo_moves_42 (by decide) rfl ?_ ?_
    · exact ev_wk (hJ59 g1) (ev_subN (ev_subN (ev_subN (ev_subN (ev_subN (ev_subN (ev_subN (ev_subN (ev_subN (ev_subN (ev_subN (ev_subN (ev_subN (ev_subN ev_sub0))))))))))))))
    · refine ev_aload0 46 d_Mo_moves_45 rfl ?_
      refine ev_gR 49 d_Mo_moves_46 fl_Mo_56 rfl rfl (fun q6 => ?_)
      refine ev_iload6 51 d_Mo_moves_49 rfl ?_
      refine ev_iaload 52 d_Mo_moves_51 rfl (fun z7 => ?_)
      refine ev_aload0 53 d_Mo_moves_52 rfl ?_
      refine ev_gI 56 d_Mo_moves_53 fl_Mo_130 rfl rfl (fun z8 => ?_)
      refine ev_icmp_ne 61 59 d_Mo_moves_56 (by decide) rfl ?_ ?_
      · refine ev_jn (fun J => ∀ (u9_0 : Option Nat) (u9_1 : Int) (u9_2 : Int) (u9_3 : Int) (u9_4 : Int) (u9_5 : Int) (u9_6 : Int) (u9_s0 : Int) (u9_h : ev_hs), EvO E M_Mo_moves 3 cvI 92 [some (va_rf u9_0), some (eI u9_1), some (eI u9_2), some (eI u9_3), some (eI u9_4), some (eI u9_5), some (eI u9_6), none, none, none, none, none, none, none] [eI u9_s0] u9_h (J u9_0 u9_1 u9_2 u9_3 u9_4 u9_5 u9_6 u9_s0 u9_h)) ?_ (fun J92 hJ92 => ?_)
        · intro u9_0 u9_1 u9_2 u9_3 u9_4 u9_5 u9_6 u9_s0 u9_h
          refine ev_jn (fun J => ∀ (u10_0 : Option Nat) (u10_1 : Int) (u10_2 : Int) (u10_3 : Int) (u10_4 : Int) (u10_5 : Int) (u10_6 : Int) (u10_8 : Int) (u10_h : ev_hs), EvO E M_Mo_moves 3 cvI 115 [some (va_rf u10_0), some (eI u10_1), some (eI u10_2), some (eI u10_3), some (eI u10_4), some (eI u10_5), some (eI u10_6), none, some (eI u10_8), none, none, none, none, none] [] u10_h (J u10_0 u10_1 u10_2 u10_3 u10_4 u10_5 u10_6 u10_8 u10_h)) ?_ (fun J115 hJ115 => ?_)
          · intro u10_0 u10_1 u10_2 u10_3 u10_4 u10_5 u10_6 u10_8 u10_h
            refine ev_jn (fun J => ∀ (u11_0 : Option Nat) (u11_1 : Int) (u11_2 : Int) (u11_3 : Int) (u11_4 : Int) (u11_5 : Int) (u11_8 : Int) (u11_9 : Int) (u11_10 : Int) (u11_s0 : Int) (u11_h : ev_hs), EvO E M_Mo_moves 3 cvI 151 [some (va_rf u11_0), some (eI u11_1), some (eI u11_2), some (eI u11_3), some (eI u11_4), some (eI u11_5), none, none, some (eI u11_8), some (eI u11_9), some (eI u11_10), none, none, none] [eI u11_s0] u11_h (J u11_0 u11_1 u11_2 u11_3 u11_4 u11_5 u11_8 u11_9 u11_10 u11_s0 u11_h)) ?_ (fun J151 hJ151 => ?_)
            · intro u11_0 u11_1 u11_2 u11_3 u11_4 u11_5 u11_8 u11_9 u11_10 u11_s0 u11_h
              refine ev_jn (fun J => ∀ (u12_0 : Option Nat) (u12_1 : Int) (u12_3 : Int) (u12_8 : Int) (u12_9 : Int) (u12_10 : Int) (u12_11 : Int) (u12_s0 : Option Nat) (u12_s1 : Int) (u12_s2 : Int) (u12_h : ev_hs), EvO E M_Mo_moves 3 cvI 197 [some (va_rf u12_0), some (eI u12_1), none, some (eI u12_3), none, none, none, none, some (eI u12_8), some (eI u12_9), some (eI u12_10), some (eI u12_11), none, none] [eI u12_s2, eI u12_s1, va_rf u12_s0] u12_h (J u12_0 u12_1 u12_3 u12_8 u12_9 u12_10 u12_11 u12_s0 u12_s1 u12_s2 u12_h)) ?_ (fun J197 hJ197 => ?_)
              · intro u12_0 u12_1 u12_3 u12_8 u12_9 u12_10 u12_11 u12_s0 u12_s1 u12_s2 u12_h
                refine ev_jn (fun J => ∀ (u13_h : ev_hs), EvO E M_Mo_moves 3 cvI 280 [none, none, none, none, none, none, none, none, none, none, none, none, none, none] [] u13_h (J u13_h)) ?_ (fun J280 hJ280 => ?_)
                · intro u13_h
                  refine ev_iconst 281 d_Mo_moves_280 rfl ?_
                  exact ev_zreturn d_Mo_moves_281 rfl
                refine ev_iastore 198 d_Mo_moves_197 rfl (fun g14 => ?_)
                refine ev_iload8 200 d_Mo_moves_198 rfl ?_
                refine ev_if_lt 226 203 d_Mo_moves_200 (by decide) rfl ?_ ?_
                · refine ev_iload11 228 d_Mo_moves_226 rfl ?_
                  refine ev_if_eq 280 231 d_Mo_moves_228 (by decide) rfl ?_ ?_
                  · exact ev_wk (hJ280 g14) (ev_subN (ev_subN (ev_subN (ev_subN (ev_subN (ev_subN (ev_subN (ev_subN (ev_subN (ev_subN (ev_subN (ev_subN (ev_subN (ev_subN ev_sub0))))))))))))))
                  · refine ev_iconst 232 d_Mo_moves_231 rfl ?_
                    refine ev_iload1 233 d_Mo_moves_232 rfl ?_
                    refine ev_imul 234 d_Mo_moves_233 rfl ?_
                    refine ev_iload3 235 d_Mo_moves_234 rfl ?_
                    refine ev_iadd 236 d_Mo_moves_235 rfl ?_
                    refine ev_istore13 238 d_Mo_moves_236 (by decide) rfl ?_
                    refine ev_aload0 239 d_Mo_moves_238 rfl ?_
                    refine ev_gR 242 d_Mo_moves_239 fl_Mo_44 rfl rfl (fun q15 => ?_)
                    refine ev_sipush 245 d_Mo_moves_242 (by decide) rfl ?_
                    refine ev_iload13 247 d_Mo_moves_245 rfl ?_
                    refine ev_imul 248 d_Mo_moves_247 rfl ?_
                    refine ev_aload0 249 d_Mo_moves_248 rfl ?_
                    refine ev_gR 252 d_Mo_moves_249 fl_Mo_47 rfl rfl (fun q16 => ?_)
                    refine ev_iload13 254 d_Mo_moves_252 rfl ?_
                    refine ev_iaload 255 d_Mo_moves_254 rfl (fun z17 => ?_)
                    refine ev_iadd 256 d_Mo_moves_255 rfl ?_
                    refine ev_iload9 258 d_Mo_moves_256 rfl ?_
                    refine ev_iastore 259 d_Mo_moves_258 rfl (fun g18 => ?_)
                    refine ev_aload0 260 d_Mo_moves_259 rfl ?_
                    refine ev_gR 263 d_Mo_moves_260 fl_Mo_47 rfl rfl (fun q19 => ?_)
                    refine ev_iload13 265 d_Mo_moves_263 rfl ?_
                    refine ev_dup2 266 d_Mo_moves_265 rfl (va_rf_cat _) rfl ?_
                    refine ev_iaload 267 d_Mo_moves_266 rfl (fun z20 => ?_)
                    refine ev_iconst 268 d_Mo_moves_267 rfl ?_
                    refine ev_iadd 269 d_Mo_moves_268 rfl ?_
                    refine ev_iastore 270 d_Mo_moves_269 rfl (fun g21 => ?_)
                    refine ev_aload0 271 d_Mo_moves_270 rfl ?_
                    refine ev_dup 272 d_Mo_moves_271 (va_rf_cat _) rfl ?_
                    refine ev_gI 275 d_Mo_moves_272 fl_Mo_158 rfl rfl (fun z22 => ?_)
                    refine ev_iconst 276 d_Mo_moves_275 rfl ?_
                    refine ev_iadd 277 d_Mo_moves_276 rfl ?_
                    refine ev_pI 280 d_Mo_moves_277 fw_Mo_moves_158 rfl rfl (fun g23 => ?_)
                    exact ev_wk (hJ280 g23) (ev_subN (ev_subN (ev_subN (ev_subN (ev_subN (ev_subN (ev_subN (ev_subN (ev_subN (ev_subN (ev_subN (ev_subN (ev_subN (ev_subN ev_sub0))))))))))))))
                · refine ev_aload0 204 d_Mo_moves_203 rfl ?_
                  refine ev_iload8 206 d_Mo_moves_204 rfl ?_
                  refine ev_iload9 208 d_Mo_moves_206 rfl ?_
                  refine ev_iload10 210 d_Mo_moves_208 rfl ?_
                  refine ev_cv3V (kk := 1) 213 d_Mo_moves_210 cv_Mo_133 (by decide) (by decide) rfl rfl rfl ev_sm0 (by decide) rfl (t_Mo_append _ _ _ _ g14) (fun g24 => ?_)
                  refine ev_aload0 214 d_Mo_moves_213 rfl ?_
                  refine ev_dup 215 d_Mo_moves_214 (va_rf_cat _) rfl ?_
                  refine ev_gI 218 d_Mo_moves_215 fl_Mo_155 rfl rfl (fun z25 => ?_)
                  refine ev_iconst 219 d_Mo_moves_218 rfl ?_
                  refine ev_iadd 220 d_Mo_moves_219 rfl ?_
                  refine ev_pI 223 d_Mo_moves_220 fw_Mo_moves_155 rfl rfl (fun g26 => ?_)
                  refine ev_goto 280 d_Mo_moves_223 (by decide) ?_
                  exact ev_wk (hJ280 g26) (ev_subN (ev_subN (ev_subN (ev_subN (ev_subN (ev_subN (ev_subN (ev_subN (ev_subN (ev_subN (ev_subN (ev_subN (ev_subN (ev_subN ev_sub0))))))))))))))
              refine ev_istore11 153 d_Mo_moves_151 (by decide) rfl ?_
              refine ev_bipush 155 d_Mo_moves_153 (by decide) rfl ?_
              refine ev_iload1 156 d_Mo_moves_155 rfl ?_
              refine ev_imul 157 d_Mo_moves_156 rfl ?_
              refine ev_iconst 158 d_Mo_moves_157 rfl ?_
              refine ev_iload2 159 d_Mo_moves_158 rfl ?_
              refine ev_imul 160 d_Mo_moves_159 rfl ?_
              refine ev_iadd 161 d_Mo_moves_160 rfl ?_
              refine ev_iload3 162 d_Mo_moves_161 rfl ?_
              refine ev_iadd 163 d_Mo_moves_162 rfl ?_
              refine ev_istore12 165 d_Mo_moves_163 (by decide) rfl ?_
              refine ev_aload0 166 d_Mo_moves_165 rfl ?_
              refine ev_iload5 168 d_Mo_moves_166 rfl ?_
              refine ev_cv1V (kk := 1) 171 d_Mo_moves_168 cv_Mo_151 (by decide) (by decide) rfl ev_sm0 (by decide) rfl (t_Mo_removeFront _ _ u11_h) (fun g27 => ?_)
              refine ev_aload0 172 d_Mo_moves_171 rfl ?_
              refine ev_gR 175 d_Mo_moves_172 fl_Mo_65 rfl rfl (fun q28 => ?_)
              refine ev_iload12 177 d_Mo_moves_175 rfl ?_
              refine ev_iload4 179 d_Mo_moves_177 rfl ?_
              refine ev_iastore 180 d_Mo_moves_179 rfl (fun g29 => ?_)
              refine ev_aload0 181 d_Mo_moves_180 rfl ?_
              refine ev_gR 184 d_Mo_moves_181 fl_Mo_62 rfl rfl (fun q30 => ?_)
              refine ev_iload12 186 d_Mo_moves_184 rfl ?_
              refine ev_iload11 188 d_Mo_moves_186 rfl ?_
              refine ev_if_eq 195 191 d_Mo_moves_188 (by decide) rfl ?_ ?_
              · refine ev_iload4 197 d_Mo_moves_195 rfl ?_
                exact ev_wk (hJ197 _ _ _ _ _ _ _ _ _ _ g29) (ev_subS (ev_subS (ev_subN (ev_subS (ev_subN (ev_subN (ev_subN (ev_subN (ev_subS (ev_subS (ev_subS (ev_subS (ev_subN (ev_subN ev_sub0))))))))))))))
              · refine ev_iconst 192 d_Mo_moves_191 rfl ?_
                refine ev_goto 197 d_Mo_moves_192 (by decide) ?_
                exact ev_wk (hJ197 _ _ _ _ _ _ _ _ _ _ g29) (ev_subS (ev_subS (ev_subN (ev_subS (ev_subN (ev_subN (ev_subN (ev_subN (ev_subS (ev_subS (ev_subS (ev_subS (ev_subN (ev_subN ev_sub0))))))))))))))
            refine ev_aload0 116 d_Mo_moves_115 rfl ?_
            refine ev_gR 119 d_Mo_moves_116 fl_Mo_50 rfl rfl (fun q31 => ?_)
            refine ev_iload6 121 d_Mo_moves_119 rfl ?_
            refine ev_iaload 122 d_Mo_moves_121 rfl (fun z32 => ?_)
            refine ev_istore9 124 d_Mo_moves_122 (by decide) rfl ?_
            refine ev_aload0 125 d_Mo_moves_124 rfl ?_
            refine ev_gR 128 d_Mo_moves_125 fl_Mo_53 rfl rfl (fun q33 => ?_)
            refine ev_iload6 130 d_Mo_moves_128 rfl ?_
            refine ev_iaload 131 d_Mo_moves_130 rfl (fun z34 => ?_)
            refine ev_istore10 133 d_Mo_moves_131 (by decide) rfl ?_
            refine ev_iload10 135 d_Mo_moves_133 rfl ?_
            refine ev_aload0 136 d_Mo_moves_135 rfl ?_
            refine ev_iload9 138 d_Mo_moves_136 rfl ?_
            refine ev_cv1I (kk := 0) 141 d_Mo_moves_138 cv_Mo_137 (by decide) (by decide) rfl (ev_smc rfl ev_sm0) (by decide) rfl (t_Mo_sizeOf _ _ u10_h) (fun z36 g35 => ?_)
            refine ev_iconst 142 d_Mo_moves_141 rfl ?_
            refine ev_isub 143 d_Mo_moves_142 rfl ?_
            refine ev_icmp_ne 150 146 d_Mo_moves_143 (by decide) rfl ?_ ?_
            · refine ev_iconst 151 d_Mo_moves_150 rfl ?_
              exact ev_wk (hJ151 _ _ _ _ _ _ _ _ _ _ g35) (ev_subS (ev_subS (ev_subS (ev_subS (ev_subS (ev_subS (ev_subN (ev_subN (ev_subS (ev_subS (ev_subS (ev_subN (ev_subN (ev_subN ev_sub0))))))))))))))
            · refine ev_iconst 147 d_Mo_moves_146 rfl ?_
              refine ev_goto 151 d_Mo_moves_147 (by decide) ?_
              exact ev_wk (hJ151 _ _ _ _ _ _ _ _ _ _ g35) (ev_subS (ev_subS (ev_subS (ev_subS (ev_subS (ev_subS (ev_subN (ev_subN (ev_subS (ev_subS (ev_subS (ev_subN (ev_subN (ev_subN ev_sub0))))))))))))))
          refine ev_istore8 94 d_Mo_moves_92 (by decide) rfl ?_
          refine ev_iload8 96 d_Mo_moves_94 rfl ?_
          refine ev_if_lt 115 99 d_Mo_moves_96 (by decide) rfl ?_ ?_
          · exact ev_wk (hJ115 _ _ _ _ _ _ _ _ u9_h) (ev_subS (ev_subS (ev_subS (ev_subS (ev_subS (ev_subS (ev_subS (ev_subN (ev_subS (ev_subN (ev_subN (ev_subN (ev_subN (ev_subN ev_sub0))))))))))))))
          · refine ev_aload0 100 d_Mo_moves_99 rfl ?_
            refine ev_gR 103 d_Mo_moves_100 fl_Mo_59 rfl rfl (fun q37 => ?_)
            refine ev_iload8 105 d_Mo_moves_103 rfl ?_
            refine ev_iaload 106 d_Mo_moves_105 rfl (fun z38 => ?_)
            refine ev_aload0 107 d_Mo_moves_106 rfl ?_
            refine ev_gI 110 d_Mo_moves_107 fl_Mo_116 rfl rfl (fun z39 => ?_)
            refine ev_icmp_ne 115 113 d_Mo_moves_110 (by decide) rfl ?_ ?_
            · exact ev_wk (hJ115 _ _ _ _ _ _ _ _ u9_h) (ev_subS (ev_subS (ev_subS (ev_subS (ev_subS (ev_subS (ev_subS (ev_subN (ev_subS (ev_subN (ev_subN (ev_subN (ev_subN (ev_subN ev_sub0))))))))))))))
            · refine ev_iconst 114 d_Mo_moves_113 rfl ?_
              exact ev_zreturn d_Mo_moves_114 rfl
        refine ev_iload2 62 d_Mo_moves_61 rfl ?_
        refine ev_iconst 63 d_Mo_moves_62 rfl ?_
        refine ev_iadd 64 d_Mo_moves_63 rfl ?_
        refine ev_iconst 65 d_Mo_moves_64 rfl ?_
        refine ev_irem 66 d_Mo_moves_65 rfl (fun z40 => ?_)
        refine ev_istore7 68 d_Mo_moves_66 (by decide) rfl ?_
        refine ev_iload2 69 d_Mo_moves_68 rfl ?_
        refine ev_iconst 70 d_Mo_moves_69 rfl ?_
        refine ev_icmp_ne 77 73 d_Mo_moves_70 (by decide) rfl ?_ ?_
        · refine ev_bipush 79 d_Mo_moves_77 (by decide) rfl ?_
          refine ev_iload1 80 d_Mo_moves_79 rfl ?_
          refine ev_iload2 81 d_Mo_moves_80 rfl ?_
          refine ev_cs2I (kk := 0) 84 d_Mo_moves_81 cs_Mo_148 (by decide) (by decide) rfl rfl (ev_smc rfl ev_sm0) (by decide) rfl (t_Mo_neighbour _ _ g1) (fun z42 g41 => ?_)
          refine ev_imul 85 d_Mo_moves_84 rfl ?_
          refine ev_iconst 86 d_Mo_moves_85 rfl ?_
          refine ev_iload7 88 d_Mo_moves_86 rfl ?_
          refine ev_imul 89 d_Mo_moves_88 rfl ?_
          refine ev_iadd 90 d_Mo_moves_89 rfl ?_
          refine ev_iload3 91 d_Mo_moves_90 rfl ?_
          refine ev_iadd 92 d_Mo_moves_91 rfl ?_
          exact ev_wk (hJ92 _ _ _ _ _ _ _ _ g41) (ev_subS (ev_subS (ev_subS (ev_subS (ev_subS (ev_subS (ev_subS (ev_subN (ev_subN (ev_subN (ev_subN (ev_subN (ev_subN (ev_subN ev_sub0))))))))))))))
        · refine ev_iconst 74 d_Mo_moves_73 rfl ?_
          refine ev_goto 92 d_Mo_moves_74 (by decide) ?_
          exact ev_wk (hJ92 _ _ _ _ _ _ _ _ g1) (ev_subS (ev_subS (ev_subS (ev_subS (ev_subS (ev_subS (ev_subS (ev_subN (ev_subN (ev_subN (ev_subN (ev_subN (ev_subN (ev_subN ev_sub0))))))))))))))
      · exact ev_wk (hJ59 g1) (ev_subN (ev_subN (ev_subN (ev_subN (ev_subN (ev_subN (ev_subN (ev_subN (ev_subN (ev_subN (ev_subN (ev_subN (ev_subN (ev_subN ev_sub0))))))))))))))
  · refine ev_iconst 15 d_Mo_moves_14 rfl ?_
    exact ev_zreturn d_Mo_moves_15 rfl
theorem t_Mo_isBehind_5 {E : ev_E} : ∀ (fu : Nat) (x0 : Option Nat) (x1 : Int) (x2 : Int) (x3 : Int) (x4 : Int) (h : ev_hs), EvO E M_Mo_isBehind 1 cvI 5 [some (va_rf x0), some (eI x1), some (eI x2), some (eI x3), some (eI x4)] [] h (f_Mo_isBehind_5 fu x0 x1 x2 x3 x4 h) := by
  intro fu
  induction fu with
  | zero => intros; exact ev_no
  | succ fu ih =>
    intro x0 x1 x2 x3 x4 h
    rw [f_Mo_isBehind_5]
    refine ev_iload4 7 d_Mo_isBehind_5 rfl ?_
    refine ev_iload2 8 d_Mo_isBehind_7 rfl ?_
    refine ev_icmp_ge 65 11 d_Mo_isBehind_8 (by decide) rfl ?_ ?_
    · refine ev_iload3 66 d_Mo_isBehind_65 rfl ?_
      exact ev_zreturn d_Mo_isBehind_66 rfl
    · refine ev_jn (fun J => ∀ (u1_0 : Option Nat) (u1_1 : Int) (u1_2 : Int) (u1_4 : Int) (u1_s0 : Int) (u1_h : ev_hs), EvO E M_Mo_isBehind 1 cvI 58 [some (va_rf u1_0), some (eI u1_1), some (eI u1_2), none, some (eI u1_4)] [eI u1_s0] u1_h (J u1_0 u1_1 u1_2 u1_4 u1_s0 u1_h)) ?_ (fun J58 hJ58 => ?_)
      · intro u1_0 u1_1 u1_2 u1_4 u1_s0 u1_h
        refine ev_istore3 59 d_Mo_isBehind_58 (by decide) rfl ?_
        refine ev_iinc4 62 d_Mo_isBehind_59 (by decide) rfl ?_
        refine ev_goto 5 d_Mo_isBehind_62 (by decide) ?_
        exact ev_wk (ih _ _ _ _ _ u1_h) (ev_subS (ev_subS (ev_subS (ev_subS (ev_subS ev_sub0)))))
      refine ev_jn (fun J => ∀ (u2_0 : Option Nat) (u2_1 : Int) (u2_2 : Int) (u2_4 : Int) (u2_h : ev_hs), EvO E M_Mo_isBehind 1 cvI 53 [some (va_rf u2_0), some (eI u2_1), some (eI u2_2), none, some (eI u2_4)] [] u2_h (J u2_0 u2_1 u2_2 u2_4 u2_h)) ?_ (fun J53 hJ53 => ?_)
      · intro u2_0 u2_1 u2_2 u2_4 u2_h
        refine ev_iconst 54 d_Mo_isBehind_53 rfl ?_
        refine ev_goto 58 d_Mo_isBehind_54 (by decide) ?_
        exact ev_wk (hJ58 _ _ _ _ _ u2_h) (ev_subS (ev_subS (ev_subS (ev_subN (ev_subS ev_sub0)))))
      refine ev_iload3 12 d_Mo_isBehind_11 rfl ?_
      refine ev_if_ne 53 15 d_Mo_isBehind_12 (by decide) rfl ?_ ?_
      · exact ev_wk (hJ53 _ _ _ _ h) (ev_subS (ev_subS (ev_subS (ev_subN (ev_subS ev_sub0)))))
      · refine ev_aload0 16 d_Mo_isBehind_15 rfl ?_
        refine ev_gR 19 d_Mo_isBehind_16 fl_Mo_17 rfl rfl (fun q3 => ?_)
        refine ev_aload0 20 d_Mo_isBehind_19 rfl ?_
        refine ev_gR 23 d_Mo_isBehind_20 fl_Mo_44 rfl rfl (fun q4 => ?_)
        refine ev_sipush 26 d_Mo_isBehind_23 (by decide) rfl ?_
        refine ev_iload1 27 d_Mo_isBehind_26 rfl ?_
        refine ev_imul 28 d_Mo_isBehind_27 rfl ?_
        refine ev_iload4 30 d_Mo_isBehind_28 rfl ?_
        refine ev_iadd 31 d_Mo_isBehind_30 rfl ?_
        refine ev_iaload 32 d_Mo_isBehind_31 rfl (fun z5 => ?_)
        refine ev_iaload 33 d_Mo_isBehind_32 rfl (fun z6 => ?_)
        refine ev_aload0 34 d_Mo_isBehind_33 rfl ?_
        refine ev_gR 37 d_Mo_isBehind_34 fl_Mo_17 rfl rfl (fun q7 => ?_)
        refine ev_aload0 38 d_Mo_isBehind_37 rfl ?_
        refine ev_gR 41 d_Mo_isBehind_38 fl_Mo_44 rfl rfl (fun q8 => ?_)
        refine ev_sipush 44 d_Mo_isBehind_41 (by decide) rfl ?_
        refine ev_iload1 45 d_Mo_isBehind_44 rfl ?_
        refine ev_imul 46 d_Mo_isBehind_45 rfl ?_
        refine ev_iload2 47 d_Mo_isBehind_46 rfl ?_
        refine ev_iadd 48 d_Mo_isBehind_47 rfl ?_
        refine ev_iaload 49 d_Mo_isBehind_48 rfl (fun z9 => ?_)
        refine ev_iaload 50 d_Mo_isBehind_49 rfl (fun z10 => ?_)
        refine ev_icmp_ne 57 53 d_Mo_isBehind_50 (by decide) rfl ?_ ?_
        · refine ev_iconst 58 d_Mo_isBehind_57 rfl ?_
          exact ev_wk (hJ58 _ _ _ _ _ h) (ev_subS (ev_subS (ev_subS (ev_subN (ev_subS ev_sub0)))))
        · exact ev_wk (hJ53 _ _ _ _ h) (ev_subS (ev_subS (ev_subS (ev_subN (ev_subS ev_sub0)))))
theorem t_Mo_isBehind {E : ev_E} (x0 : Option Nat) (x1 : Int) (x2 : Int) (h : ev_hs) : EvO E M_Mo_isBehind 1 cvI 0 [some (va_rf x0), some (eI x1), some (eI x2), none, none] [] h (f_Mo_isBehind x0 x1 x2 h) := by
  unfold f_Mo_isBehind
  refine ev_iconst 1 d_Mo_isBehind_0 rfl ?_
  refine ev_istore3 2 d_Mo_isBehind_1 (by decide) rfl ?_
  refine ev_iconst 3 d_Mo_isBehind_2 rfl ?_
  refine ev_istore4 5 d_Mo_isBehind_3 (by decide) rfl ?_
  refine ev_wk (t_Mo_isBehind_5 FU _ _ _ _ _ h) (ev_subS (ev_subS (ev_subS (ev_subS (ev_subS ev_sub0)))))
theorem t_Mo_channelOf {E : ev_E} (x0 : Int) (h : ev_hs) : EvO E M_Mo_channelOf 1 cvI 0 [some (eI x0)] [] h (f_Mo_channelOf x0 h) := by
  unfold f_Mo_channelOf
  refine ev_jn (fun J => ∀ (u1_s0 : Int) (u1_h : ev_hs), EvO E M_Mo_channelOf 1 cvI 20 [none] [eI u1_s0] u1_h (J u1_s0 u1_h)) ?_ (fun J20 hJ20 => ?_)
  · intro u1_s0 u1_h
    exact ev_ireturn d_Mo_channelOf_20 rfl
  refine ev_iload0 1 d_Mo_channelOf_0 rfl ?_
  refine ev_iconst 2 d_Mo_channelOf_1 rfl ?_
  refine ev_icmp_gt 9 5 d_Mo_channelOf_2 (by decide) rfl ?_ ?_
  · refine ev_iload0 10 d_Mo_channelOf_9 rfl ?_
    refine ev_bipush 12 d_Mo_channelOf_10 (by decide) rfl ?_
    refine ev_icmp_gt 19 15 d_Mo_channelOf_12 (by decide) rfl ?_ ?_
    · refine ev_iconst 20 d_Mo_channelOf_19 rfl ?_
      exact ev_wk (hJ20 _ h) (ev_subN ev_sub0)
    · refine ev_iconst 16 d_Mo_channelOf_15 rfl ?_
      refine ev_goto 20 d_Mo_channelOf_16 (by decide) ?_
      exact ev_wk (hJ20 _ h) (ev_subN ev_sub0)
  · refine ev_iconst 6 d_Mo_channelOf_5 rfl ?_
    refine ev_goto 20 d_Mo_channelOf_6 (by decide) ?_
    exact ev_wk (hJ20 _ h) (ev_subN ev_sub0)
theorem t_Mo_send_3 {E : ev_E} : ∀ (fu : Nat) (x0 : Option Nat) (x1 : Int) (x2 : Int) (x3 : Int) (x4 : Int) (x5 : Int) (x6 : Int) (x7 : Int) (x8 : Int) (h : ev_hs) (K19 : Option Nat → Int → Int → Int → Int → Int → Int → Int → Int → ev_hs → Option (ev_hs)) (hK19 : ∀ (w0 : Option Nat) (w1 : Int) (w2 : Int) (w3 : Int) (w4 : Int) (w5 : Int) (w6 : Int) (w7 : Int) (w8 : Int) (wh : ev_hs), EvO E M_Mo_send 2 cvV 19 [some (va_rf w0), some (eI w1), some (eI w2), some (eI w3), some (eI w4), some (eI w5), some (eI w6), some (eI w7), some (eI w8), none] [] wh (K19 w0 w1 w2 w3 w4 w5 w6 w7 w8 wh)) , EvO E M_Mo_send 2 cvV 3 [some (va_rf x0), some (eI x1), some (eI x2), some (eI x3), some (eI x4), some (eI x5), some (eI x6), some (eI x7), some (eI x8), none] [] h (f_Mo_send_3 fu x0 x1 x2 x3 x4 x5 x6 x7 x8 h K19) := by
  intro fu
  induction fu with
  | zero => intros; exact ev_no
  | succ fu ih =>
    intro x0 x1 x2 x3 x4 x5 x6 x7 x8 h K19 hK19
    rw [f_Mo_send_3]
    refine ev_aload0 4 d_Mo_send_3 rfl ?_
    refine ev_gR 7 d_Mo_send_4 fl_Mo_7 rfl rfl (fun q1 => ?_)
    refine ev_iload8 9 d_Mo_send_7 rfl ?_
    refine ev_baload 10 d_Mo_send_9 rfl (fun z2 => ?_)
    refine ev_if_eq 19 13 d_Mo_send_10 (by decide) rfl ?_ ?_
    · exact ev_wk (hK19 _ _ _ _ _ _ _ _ _ h) (ev_subS (ev_subS (ev_subS (ev_subS (ev_subS (ev_subS (ev_subS (ev_subS (ev_subS (ev_subN ev_sub0))))))))))
    · refine ev_iinc8 16 d_Mo_send_13 (by decide) rfl ?_
      refine ev_goto 3 d_Mo_send_16 (by decide) ?_
      exact ev_wk (ih _ _ _ _ _ _ _ _ _ h _ hK19) (ev_subS (ev_subS (ev_subS (ev_subS (ev_subS (ev_subS (ev_subS (ev_subS (ev_subS (ev_subN ev_sub0))))))))))
theorem t_Mo_send {E : ev_E} (x0 : Option Nat) (x1 : Int) (x2 : Int) (x3 : Int) (x4 : Int) (x5 : Int) (x6 : Int) (x7 : Int) (h : ev_hs) : EvO E M_Mo_send 2 cvV 0 [some (va_rf x0), some (eI x1), some (eI x2), some (eI x3), some (eI x4), some (eI x5), some (eI x6), some (eI x7), none, none] [] h (f_Mo_send x0 x1 x2 x3 x4 x5 x6 x7 h) := by
  unfold f_Mo_send
  refine ev_iconst 1 d_Mo_send_0 rfl ?_
  refine ev_istore8 3 d_Mo_send_1 (by decide) rfl ?_
  refine ev_wk (t_Mo_send_3 FU _ _ _ _ _ _ _ _ _ h _ ?_) (ev_subS (ev_subS (ev_subS (ev_subS (ev_subS (ev_subS (ev_subS (ev_subS (ev_subS (ev_subN ev_sub0))))))))))
  intro y3_0 y3_1 y3_2 y3_3 y3_4 y3_5 y3_6 y3_7 y3_8 y3_h
  refine ev_aload0 20 d_Mo_send_19 rfl ?_
  refine ev_gR 23 d_Mo_send_20 fl_Mo_7 rfl rfl (fun q4 => ?_)
  refine ev_iload8 25 d_Mo_send_23 rfl ?_
  refine ev_iconst 26 d_Mo_send_25 rfl ?_
  refine ev_bastore 27 d_Mo_send_26 rfl (fun g5 => ?_)
  refine ev_aload0 28 d_Mo_send_27 rfl ?_
  refine ev_gR 31 d_Mo_send_28 fl_Mo_13 rfl rfl (fun q6 => ?_)
  refine ev_iload8 33 d_Mo_send_31 rfl ?_
  refine ev_iload2 34 d_Mo_send_33 rfl ?_
  refine ev_iastore 35 d_Mo_send_34 rfl (fun g7 => ?_)
  refine ev_aload0 36 d_Mo_send_35 rfl ?_
  refine ev_gR 39 d_Mo_send_36 fl_Mo_17 rfl rfl (fun q8 => ?_)
  refine ev_iload8 41 d_Mo_send_39 rfl ?_
  refine ev_iload3 42 d_Mo_send_41 rfl ?_
  refine ev_iastore 43 d_Mo_send_42 rfl (fun g9 => ?_)
  refine ev_aload0 44 d_Mo_send_43 rfl ?_
  refine ev_gR 47 d_Mo_send_44 fl_Mo_20 rfl rfl (fun q10 => ?_)
  refine ev_iload8 49 d_Mo_send_47 rfl ?_
  refine ev_iload4 51 d_Mo_send_49 rfl ?_
  refine ev_iastore 52 d_Mo_send_51 rfl (fun g11 => ?_)
  refine ev_aload0 53 d_Mo_send_52 rfl ?_
  refine ev_gR 56 d_Mo_send_53 fl_Mo_23 rfl rfl (fun q12 => ?_)
  refine ev_iload8 58 d_Mo_send_56 rfl ?_
  refine ev_iload1 59 d_Mo_send_58 rfl ?_
  refine ev_iastore 60 d_Mo_send_59 rfl (fun g13 => ?_)
  refine ev_aload0 61 d_Mo_send_60 rfl ?_
  refine ev_gR 64 d_Mo_send_61 fl_Mo_26 rfl rfl (fun q14 => ?_)
  refine ev_iload8 66 d_Mo_send_64 rfl ?_
  refine ev_iload5 68 d_Mo_send_66 rfl ?_
  refine ev_iastore 69 d_Mo_send_68 rfl (fun g15 => ?_)
  refine ev_aload0 70 d_Mo_send_69 rfl ?_
  refine ev_gR 73 d_Mo_send_70 fl_Mo_29 rfl rfl (fun q16 => ?_)
  refine ev_iload8 75 d_Mo_send_73 rfl ?_
  refine ev_iload6 77 d_Mo_send_75 rfl ?_
  refine ev_iastore 78 d_Mo_send_77 rfl (fun g17 => ?_)
  refine ev_aload0 79 d_Mo_send_78 rfl ?_
  refine ev_gR 82 d_Mo_send_79 fl_Mo_32 rfl rfl (fun q18 => ?_)
  refine ev_iload8 84 d_Mo_send_82 rfl ?_
  refine ev_iload7 86 d_Mo_send_84 rfl ?_
  refine ev_iastore 87 d_Mo_send_86 rfl (fun g19 => ?_)
  refine ev_iconst 88 d_Mo_send_87 rfl ?_
  refine ev_iload1 89 d_Mo_send_88 rfl ?_
  refine ev_imul 90 d_Mo_send_89 rfl ?_
  refine ev_iload2 91 d_Mo_send_90 rfl ?_
  refine ev_cs1I (kk := 0) 94 d_Mo_send_91 cs_Mo_123 (by decide) (by decide) rfl (ev_smc rfl ev_sm0) (by decide) rfl (t_Mo_channelOf _ g19) (fun z21 g20 => ?_)
  refine ev_iadd 95 d_Mo_send_94 rfl ?_
  refine ev_istore9 97 d_Mo_send_95 (by decide) rfl ?_
  refine ev_aload0 98 d_Mo_send_97 rfl ?_
  refine ev_gR 101 d_Mo_send_98 fl_Mo_35 rfl rfl (fun q22 => ?_)
  refine ev_sipush 104 d_Mo_send_101 (by decide) rfl ?_
  refine ev_iload9 106 d_Mo_send_104 rfl ?_
  refine ev_imul 107 d_Mo_send_106 rfl ?_
  refine ev_aload0 108 d_Mo_send_107 rfl ?_
  refine ev_gR 111 d_Mo_send_108 fl_Mo_38 rfl rfl (fun q23 => ?_)
  refine ev_iload9 113 d_Mo_send_111 rfl ?_
  refine ev_iaload 114 d_Mo_send_113 rfl (fun z24 => ?_)
  refine ev_iadd 115 d_Mo_send_114 rfl ?_
  refine ev_iload8 117 d_Mo_send_115 rfl ?_
  refine ev_iastore 118 d_Mo_send_117 rfl (fun g25 => ?_)
  refine ev_aload0 119 d_Mo_send_118 rfl ?_
  refine ev_gR 122 d_Mo_send_119 fl_Mo_38 rfl rfl (fun q26 => ?_)
  refine ev_iload9 124 d_Mo_send_122 rfl ?_
  refine ev_dup2 125 d_Mo_send_124 rfl (va_rf_cat _) rfl ?_
  refine ev_iaload 126 d_Mo_send_125 rfl (fun z27 => ?_)
  refine ev_iconst 127 d_Mo_send_126 rfl ?_
  refine ev_iadd 128 d_Mo_send_127 rfl ?_
  refine ev_iastore 129 d_Mo_send_128 rfl (fun g28 => ?_)
  refine ev_aload0 130 d_Mo_send_129 rfl ?_
  refine ev_dup 131 d_Mo_send_130 (va_rf_cat _) rfl ?_
  refine ev_gI 134 d_Mo_send_131 fl_Mo_127 rfl rfl (fun z29 => ?_)
  refine ev_iconst 135 d_Mo_send_134 rfl ?_
  refine ev_iadd 136 d_Mo_send_135 rfl ?_
  refine ev_pI 139 d_Mo_send_136 fw_Mo_send_127 rfl rfl (fun g30 => ?_)
  exact ev_return d_Mo_send_139 rfl
