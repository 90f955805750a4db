theorem t_Lw_cell {E : ev_E} (x0 : Option Nat) (x1 : Int) (h : ev_hs) : EvO E M_Lw_cell 1 cvI 0 [some (va_rf x0), some (eI x1)] [] h (f_Lw_cell x0 x1 h) := by
  unfold f_Lw_cell
  refine ev_jn (fun J => ∀ (u1_s0 : Int) (u1_h : ev_hs), EvO E M_Lw_cell 1 cvI 13 [none, none] [eI u1_s0] u1_h (J u1_s0 u1_h)) ?_ (fun J13 hJ13 => ?_)
  · intro u1_s0 u1_h
    exact ev_ireturn d_Lw_cell_13 rfl
  refine ev_iload1 1 d_Lw_cell_0 rfl ?_
  refine ev_aload0 2 d_Lw_cell_1 rfl ?_
  refine ev_slen 3 d_Lw_cell_2 rfl (fun z2 => ?_)
  refine ev_icmp_ge 12 6 d_Lw_cell_3 (by decide) rfl ?_ ?_
  · refine ev_iconst 13 d_Lw_cell_12 rfl ?_
    exact ev_wk (hJ13 _ h) (ev_subN (ev_subN ev_sub0))
  · refine ev_aload0 7 d_Lw_cell_6 rfl ?_
    refine ev_iload1 8 d_Lw_cell_7 rfl ?_
    refine ev_saload 9 d_Lw_cell_8 rfl (fun z3 => ?_)
    refine ev_goto 13 d_Lw_cell_9 (by decide) ?_
    exact ev_wk (hJ13 _ h) (ev_subN (ev_subN ev_sub0))
theorem t_Ma_min {E : ev_E} (x0 : Int) (x1 : Int) (h : ev_hs) : EvO E M_Ma_min 1 cvI 0 [some (eI x0), some (eI x1)] [] h (f_Ma_min x0 x1 h) := by
  unfold f_Ma_min
  refine ev_jn (fun J => ∀ (u1_s0 : Int) (u1_h : ev_hs), EvO E M_Ma_min 1 cvI 10 [none, none] [eI u1_s0] u1_h (J u1_s0 u1_h)) ?_ (fun J10 hJ10 => ?_)
  · intro u1_s0 u1_h
    exact ev_ireturn d_Ma_min_10 rfl
  refine ev_iload0 1 d_Ma_min_0 rfl ?_
  refine ev_iload1 2 d_Ma_min_1 rfl ?_
  refine ev_icmp_gt 9 5 d_Ma_min_2 (by decide) rfl ?_ ?_
  · refine ev_iload1 10 d_Ma_min_9 rfl ?_
    exact ev_wk (hJ10 _ h) (ev_subN (ev_subN ev_sub0))
  · refine ev_iload0 6 d_Ma_min_5 rfl ?_
    refine ev_goto 10 d_Ma_min_6 (by decide) ?_
    exact ev_wk (hJ10 _ h) (ev_subN (ev_subN ev_sub0))
theorem t_Ma_max {E : ev_E} (x0 : Int) (x1 : Int) (h : ev_hs) : EvO E M_Ma_max 1 cvI 0 [some (eI x0), some (eI x1)] [] h (f_Ma_max x0 x1 h) := by
  unfold f_Ma_max
  refine ev_jn (fun J => ∀ (u1_s0 : Int) (u1_h : ev_hs), EvO E M_Ma_max 1 cvI 10 [none, none] [eI u1_s0] u1_h (J u1_s0 u1_h)) ?_ (fun J10 hJ10 => ?_)
  · intro u1_s0 u1_h
    exact ev_ireturn d_Ma_max_10 rfl
  refine ev_iload0 1 d_Ma_max_0 rfl ?_
  refine ev_iload1 2 d_Ma_max_1 rfl ?_
  refine ev_icmp_lt 9 5 d_Ma_max_2 (by decide) rfl ?_ ?_
  · refine ev_iload1 10 d_Ma_max_9 rfl ?_
    exact ev_wk (hJ10 _ h) (ev_subN (ev_subN ev_sub0))
  · refine ev_iload0 6 d_Ma_max_5 rfl ?_
    refine ev_goto 10 d_Ma_max_6 (by decide) ?_
    exact ev_wk (hJ10 _ h) (ev_subN (ev_subN ev_sub0))
theorem t_ML_nearest {E : ev_E} (x0 : Int) (x1 : Int) (x2 : Int) (h : ev_hs) : EvO E M_ML_nearest 2 cvI 0 [some (eI x0), some (eI x1), some (eI x2)] [] h (f_ML_nearest x0 x1 x2 h) := by
  unfold f_ML_nearest
  refine ev_iload1 1 d_ML_nearest_0 rfl ?_
  refine ev_iload2 2 d_ML_nearest_1 rfl ?_
  refine ev_iload0 3 d_ML_nearest_2 rfl ?_
  refine ev_cs2I (kk := 0) 6 d_ML_nearest_3 cs_ML_147 (by decide) (by decide) rfl rfl (ev_smc rfl ev_sm0) (by decide) rfl (t_Ma_min _ _ h) (fun z2 g1 => ?_)
  refine ev_cs2I (kk := 0) 9 d_ML_nearest_6 cs_ML_153 (by decide) (by decide) rfl rfl ev_sm0 (by decide) rfl (t_Ma_max _ _ g1) (fun z4 g3 => ?_)
  exact ev_ireturn d_ML_nearest_9 rfl
theorem t_Ac_init {E : ev_E} (x0 : Option Nat) (h : ev_hs) : EvO E M_Ac_init 2 cvV 0 [some (va_rf x0)] [] h (f_Ac_init x0 h) := by
  unfold f_Ac_init
  refine ev_aload0 1 d_Ac_init_0 rfl ?_
  refine ev_objInit 4 d_Ac_init_1 w_63 w_28 w_29 (by decide) ev_sm0 (by decide) rfl ?_
  exact ev_return d_Ac_init_4 rfl
theorem t_Al_init {E : ev_E} (x0 : Option Nat) (h : ev_hs) : EvO E M_Al_init 3 cvV 0 [some (va_rf x0)] [] h (f_Al_init x0 h) := by
  unfold f_Al_init
  refine ev_aload0 1 d_Al_init_0 rfl ?_
  refine ev_ci0V (kk := 0) 4 d_Al_init_1 ci_Al_1 (by decide) (by decide)  ev_sm0 (by decide) rfl (t_Ac_init _ h) (fun g1 => ?_)
  refine ev_aload0 5 d_Al_init_4 rfl ?_
  refine ev_iconst 6 d_Al_init_5 rfl ?_
  refine ev_pI 9 d_Al_init_6 fw_Al_i_7 rfl rfl (fun g2 => ?_)
  exact ev_return d_Al_init_9 rfl
theorem t_AL_init {E : ev_E} (x0 : Option Nat) (h : ev_hs) : EvO E M_AL_init 4 cvV 0 [some (va_rf x0)] [] h (f_AL_init x0 h) := by
  unfold f_AL_init
  refine ev_aload0 1 d_AL_init_0 rfl ?_
  refine ev_ci0V (kk := 0) 4 d_AL_init_1 ci_AL_1 (by decide) (by decide)  ev_sm0 (by decide) rfl (t_Al_init _ h) (fun g1 => ?_)
  refine ev_aload0 5 d_AL_init_4 rfl ?_
  refine ev_getstatic 8 d_AL_init_5 w_64 rfl ?_
  refine ev_pR 11 d_AL_init_8 fw_AL_i_9 rfl rfl (fun g2 => ?_)
  exact ev_return d_AL_init_11 rfl
theorem t_FB_init {E : ev_E} (x0 : Option Nat) (x1 : Int) (h : ev_hs) : EvO E M_FB_init 2 cvV 0 [some (va_rf x0), some (eI x1)] [] h (f_FB_init x0 x1 h) := by
  unfold f_FB_init
  refine ev_aload0 1 d_FB_init_0 rfl ?_
  refine ev_objInit 4 d_FB_init_1 w_84 w_28 w_29 (by decide) ev_sm0 (by decide) rfl ?_
  refine ev_aload0 5 d_FB_init_4 rfl ?_
  refine ev_iload1 6 d_FB_init_5 rfl ?_
  refine ev_anewarray (t := 57) 9 d_FB_init_6 (by decide) rfl w_85 xo_57 rfl (fun q1 g2 => ?_)
  refine ev_pR 12 d_FB_init_9 fw_FB_i_9 rfl rfl (fun g3 => ?_)
  exact ev_return d_FB_init_12 rfl
theorem t_La_init_55 {E : ev_E} : ∀ (fu : Nat) (x0 : Option Nat) (x2 : Int) (x3 : Int) (h : ev_hs), EvO E M_La_init 5 cvV 55 [some (va_rf x0), none, some (eI x2), some (eI x3)] [] h (f_La_init_55 fu x0 x2 x3 h) := by
  intro fu
  induction fu with
  | zero => intros; exact ev_no
  | succ fu ih =>
    intro x0 x2 x3 h
    rw [f_La_init_55]
    refine ev_iload3 56 d_La_init_55 rfl ?_
    refine ev_iconst 57 d_La_init_56 rfl ?_
    refine ev_icmp_ge 94 60 d_La_init_57 (by decide) rfl ?_ ?_
    · exact ev_return d_La_init_94 rfl
    · refine ev_aload0 61 d_La_init_60 rfl ?_
      refine ev_gR 64 d_La_init_61 fl_La_23 rfl rfl (fun q19 => ?_)
      refine ev_iload3 65 d_La_init_64 rfl ?_
      refine ev_new 68 d_La_init_65 ck_4 w_78 w_80 w_8 rfl (fun q20 g21 => ?_)
      refine ev_dup 69 d_La_init_68 (va_rf_cat _) rfl ?_
      refine ev_iload2 70 d_La_init_69 rfl ?_
      refine ev_ci1V (kk := 0) 73 d_La_init_70 ci_La_38 (by decide) (by decide) rfl (ev_smc (va_rf_cat _) (ev_smc rfl (ev_smc (va_rf_cat _) ev_sm0))) (by decide) rfl (t_FB_init _ _ g21) (fun g22 => ?_)
      refine ev_aastore (t := 56) 74 d_La_init_73 (by decide) ao_56 rfl (fun g23 => ?_)
      refine ev_aload0 75 d_La_init_74 rfl ?_
      refine ev_gR 78 d_La_init_75 fl_La_27 rfl rfl (fun q24 => ?_)
      refine ev_iload3 79 d_La_init_78 rfl ?_
      refine ev_iconst 80 d_La_init_79 rfl ?_
      refine ev_iastore 81 d_La_init_80 rfl (fun g25 => ?_)
      refine ev_aload0 82 d_La_init_81 rfl ?_
      refine ev_gR 85 d_La_init_82 fl_La_31 rfl rfl (fun q26 => ?_)
      refine ev_iload3 86 d_La_init_85 rfl ?_
      refine ev_iconst 87 d_La_init_86 rfl ?_
      refine ev_iastore 88 d_La_init_87 rfl (fun g27 => ?_)
      refine ev_iinc3 91 d_La_init_88 (by decide) rfl ?_
      refine ev_goto 55 d_La_init_91 (by decide) ?_
      exact ev_wk (ih _ _ _ g27) (ev_subS (ev_subN (ev_subS (ev_subS ev_sub0))))
theorem t_La_init {E : ev_E} (x0 : Option Nat) (x1 : Int) (x2 : Int) (h : ev_hs) : EvO E M_La_init 5 cvV 0 [some (va_rf x0), some (eI x1), some (eI x2), none] [] h (f_La_init x0 x1 x2 h) := by
  unfold f_La_init
  refine ev_aload0 1 d_La_init_0 rfl ?_
  refine ev_objInit 4 d_La_init_1 w_51 w_28 w_29 (by decide) ev_sm0 (by decide) rfl ?_
  refine ev_aload0 5 d_La_init_4 rfl ?_
  refine ev_new 8 d_La_init_5 ck_3 w_52 w_53 w_7 rfl (fun q1 g2 => ?_)
  refine ev_dup 9 d_La_init_8 (va_rf_cat _) rfl ?_
  refine ev_ci0V (kk := 0) 12 d_La_init_9 ci_La_11 (by decide) (by decide)  (ev_smc (va_rf_cat _) (ev_smc (va_rf_cat _) ev_sm0)) (by decide) rfl (t_AL_init _ g2) (fun g3 => ?_)
  refine ev_pR 15 d_La_init_12 fw_La_i_12 rfl rfl (fun g4 => ?_)
  refine ev_aload0 16 d_La_init_15 rfl ?_
  refine ev_new 19 d_La_init_16 ck_3 w_52 w_53 w_7 rfl (fun q5 g6 => ?_)
  refine ev_dup 20 d_La_init_19 (va_rf_cat _) rfl ?_
  refine ev_ci0V (kk := 0) 23 d_La_init_20 ci_La_11 (by decide) (by decide)  (ev_smc (va_rf_cat _) (ev_smc (va_rf_cat _) ev_sm0)) (by decide) rfl (t_AL_init _ g6) (fun g7 => ?_)
  refine ev_pR 26 d_La_init_23 fw_La_i_18 rfl rfl (fun g8 => ?_)
  refine ev_aload0 27 d_La_init_26 rfl ?_
  refine ev_iconst 28 d_La_init_27 rfl ?_
  refine ev_anewarray (t := 56) 31 d_La_init_28 (by decide) rfl w_78 xo_56 rfl (fun q9 g10 => ?_)
  refine ev_pR 34 d_La_init_31 fw_La_i_23 rfl rfl (fun g11 => ?_)
  refine ev_aload0 35 d_La_init_34 rfl ?_
  refine ev_iconst 36 d_La_init_35 rfl ?_
  refine ev_newarray (t := 50) 38 d_La_init_36 (by decide) rfl w_95 rfl (by decide) (fun U cA h => h) rfl (fun q12 g13 => ?_)
  refine ev_pR 41 d_La_init_38 fw_La_i_27 rfl rfl (fun g14 => ?_)
  refine ev_aload0 42 d_La_init_41 rfl ?_
  refine ev_iconst 43 d_La_init_42 rfl ?_
  refine ev_newarray (t := 50) 45 d_La_init_43 (by decide) rfl w_95 rfl (by decide) (fun U cA h => h) rfl (fun q15 g16 => ?_)
  refine ev_pR 48 d_La_init_45 fw_La_i_31 rfl rfl (fun g17 => ?_)
  refine ev_aload0 49 d_La_init_48 rfl ?_
  refine ev_iload1 50 d_La_init_49 rfl ?_
  refine ev_pI 53 d_La_init_50 fw_La_i_34 rfl rfl (fun g18 => ?_)
  refine ev_iconst 54 d_La_init_53 rfl ?_
  refine ev_istore3 55 d_La_init_54 (by decide) rfl ?_
  refine ev_wk (t_La_init_55 FU _ _ _ g18) (ev_subS (ev_subN (ev_subS (ev_subS ev_sub0))))
theorem t_Me_init_20 {E : ev_E} : ∀ (fu : Nat) (x0 : Option Nat) (x1 : Int) (x3 : Int) (h : ev_hs), EvO E M_Me_init 6 cvV 20 [some (va_rf x0), some (eI x1), none, some (eI x3)] [] h (f_Me_init_20 fu x0 x1 x3 h) := by
  intro fu
  induction fu with
  | zero => intros; exact ev_no
  | succ fu ih =>
    intro x0 x1 x3 h
    rw [f_Me_init_20]
    refine ev_iload3 21 d_Me_init_20 rfl ?_
    refine ev_bipush 23 d_Me_init_21 (by decide) rfl ?_
    refine ev_icmp_ge 49 26 d_Me_init_23 (by decide) rfl ?_ ?_
    · exact ev_return d_Me_init_49 rfl
    · refine ev_aload0 27 d_Me_init_26 rfl ?_
      refine ev_gR 30 d_Me_init_27 fl_Me_11 rfl rfl (fun q5 => ?_)
      refine ev_iload3 31 d_Me_init_30 rfl ?_
      refine ev_new 34 d_Me_init_31 ck_2 w_45 w_47 w_4 rfl (fun q6 g7 => ?_)
      refine ev_dup 35 d_Me_init_34 (va_rf_cat _) rfl ?_
      refine ev_iload3 36 d_Me_init_35 rfl ?_
      refine ev_iconst 37 d_Me_init_36 rfl ?_
      refine ev_idiv 38 d_Me_init_37 rfl (fun z8 => ?_)
      refine ev_iload1 39 d_Me_init_38 rfl ?_
      refine ev_ci2V (kk := 1) 42 d_Me_init_39 ci_Me_21 (by decide) (by decide) rfl rfl (ev_smc (va_rf_cat _) (ev_smc rfl (ev_smc (va_rf_cat _) ev_sm0))) (by decide) rfl (t_La_init _ _ _ g7) (fun g9 => ?_)
      refine ev_aastore (t := 55) 43 d_Me_init_42 (by decide) ao_55 rfl (fun g10 => ?_)
      refine ev_iinc3 46 d_Me_init_43 (by decide) rfl ?_
      refine ev_goto 20 d_Me_init_46 (by decide) ?_
      exact ev_wk (ih _ _ _ g10) (ev_subS (ev_subS (ev_subN (ev_subS ev_sub0))))
theorem t_Me_init {E : ev_E} (x0 : Option Nat) (x1 : Int) (x2 : Int) (h : ev_hs) : EvO E M_Me_init 6 cvV 0 [some (va_rf x0), some (eI x1), some (eI x2), none] [] h (f_Me_init x0 x1 x2 h) := by
  unfold f_Me_init
  refine ev_aload0 1 d_Me_init_0 rfl ?_
  refine ev_objInit 4 d_Me_init_1 w_44 w_28 w_29 (by decide) ev_sm0 (by decide) rfl ?_
  refine ev_aload0 5 d_Me_init_4 rfl ?_
  refine ev_bipush 7 d_Me_init_5 (by decide) rfl ?_
  refine ev_anewarray (t := 55) 10 d_Me_init_7 (by decide) rfl w_45 xo_55 rfl (fun q1 g2 => ?_)
  refine ev_pR 13 d_Me_init_10 fw_Me_i_11 rfl rfl (fun g3 => ?_)
  refine ev_aload0 14 d_Me_init_13 rfl ?_
  refine ev_iload2 15 d_Me_init_14 rfl ?_
  refine ev_pI 18 d_Me_init_15 fw_Me_i_17 rfl rfl (fun g4 => ?_)
  refine ev_iconst 19 d_Me_init_18 rfl ?_
  refine ev_istore3 20 d_Me_init_19 (by decide) rfl ?_
  refine ev_wk (t_Me_init_20 FU _ _ _ g4) (ev_subS (ev_subS (ev_subN (ev_subS ev_sub0))))
theorem t_ML_homeOf {E : ev_E} (x0 : Int) (h : ev_hs) : EvO E M_ML_homeOf 1 cvI 0 [some (eI x0)] [] h (f_ML_homeOf x0 h) := by
  unfold f_ML_homeOf
  refine ev_iload0 1 d_ML_homeOf_0 rfl ?_
  refine ev_bipush 3 d_ML_homeOf_1 (by decide) rfl ?_
  refine ev_irem 4 d_ML_homeOf_3 rfl (fun z1 => ?_)
  exact ev_ireturn d_ML_homeOf_4 rfl
theorem t_Ho_init {E : ev_E} (x0 : Option Nat) (x1 : Int) (x2 : Option Nat) (h : ev_hs) : EvO E M_Ho_init 2 cvV 0 [some (va_rf x0), some (eI x1), some (va_rf x2)] [] h (f_Ho_init x0 x1 x2 h) := by
  unfold f_Ho_init
  refine ev_aload0 1 d_Ho_init_0 rfl ?_
  refine ev_objInit 4 d_Ho_init_1 w_151 w_28 w_29 (by decide) ev_sm0 (by decide) rfl ?_
  refine ev_aload0 5 d_Ho_init_4 rfl ?_
  refine ev_iconst 6 d_Ho_init_5 rfl ?_
  refine ev_pI 9 d_Ho_init_6 fw_Ho_i_11 rfl rfl (fun g1 => ?_)
  refine ev_aload0 10 d_Ho_init_9 rfl ?_
  refine ev_iconst 11 d_Ho_init_10 rfl ?_
  refine ev_pI 14 d_Ho_init_11 fw_Ho_i_15 rfl rfl (fun g2 => ?_)
  refine ev_aload0 15 d_Ho_init_14 rfl ?_
  refine ev_iload1 16 d_Ho_init_15 rfl ?_
  refine ev_pI 19 d_Ho_init_16 fw_Ho_i_18 rfl rfl (fun g3 => ?_)
  refine ev_aload0 20 d_Ho_init_19 rfl ?_
  refine ev_iload1 21 d_Ho_init_20 rfl ?_
  refine ev_cn1I (kk := 0) 24 d_Ho_init_21 cn_Ho_21 (by decide) (by decide) rfl (ev_smc (va_rf_cat _) ev_sm0) (by decide) rfl (t_ML_homeOf _ g3) (fun z5 g4 => ?_)
  refine ev_pI 27 d_Ho_init_24 fw_Ho_i_25 rfl rfl (fun g6 => ?_)
  refine ev_aload0 28 d_Ho_init_27 rfl ?_
  refine ev_aload2 29 d_Ho_init_28 rfl ?_
  refine ev_pR 32 d_Ho_init_29 fw_Ho_i_28 rfl rfl (fun g7 => ?_)
  exact ev_return d_Ho_init_32 rfl
theorem t_Ca_init {E : ev_E} (x0 : Option Nat) (x1 : Int) (x2 : Option Nat) (h : ev_hs) : EvO E M_Ca_init 2 cvV 0 [some (va_rf x0), some (eI x1), some (va_rf x2)] [] h (f_Ca_init x0 x1 x2 h) := by
  unfold f_Ca_init
  refine ev_aload0 1 d_Ca_init_0 rfl ?_
  refine ev_objInit 4 d_Ca_init_1 w_193 w_28 w_29 (by decide) ev_sm0 (by decide) rfl ?_
  refine ev_aload0 5 d_Ca_init_4 rfl ?_
  refine ev_bipush 7 d_Ca_init_5 (by decide) rfl ?_
  refine ev_newarray (t := 50) 9 d_Ca_init_7 (by decide) rfl w_95 rfl (by decide) (fun U cA h => h) rfl (fun q1 g2 => ?_)
  refine ev_pR 12 d_Ca_init_9 fw_Ca_i_9 rfl rfl (fun g3 => ?_)
  refine ev_aload0 13 d_Ca_init_12 rfl ?_
  refine ev_bipush 15 d_Ca_init_13 (by decide) rfl ?_
  refine ev_newarray (t := 50) 17 d_Ca_init_15 (by decide) rfl w_95 rfl (by decide) (fun U cA h => h) rfl (fun q4 g5 => ?_)
  refine ev_pR 20 d_Ca_init_17 fw_Ca_i_15 rfl rfl (fun g6 => ?_)
  refine ev_aload0 21 d_Ca_init_20 rfl ?_
  refine ev_bipush 23 d_Ca_init_21 (by decide) rfl ?_
  refine ev_newarray (t := 50) 25 d_Ca_init_23 (by decide) rfl w_95 rfl (by decide) (fun U cA h => h) rfl (fun q7 g8 => ?_)
  refine ev_pR 28 d_Ca_init_25 fw_Ca_i_18 rfl rfl (fun g9 => ?_)
  refine ev_aload0 29 d_Ca_init_28 rfl ?_
  refine ev_bipush 31 d_Ca_init_29 (by decide) rfl ?_
  refine ev_newarray (t := 50) 33 d_Ca_init_31 (by decide) rfl w_95 rfl (by decide) (fun U cA h => h) rfl (fun q10 g11 => ?_)
  refine ev_pR 36 d_Ca_init_33 fw_Ca_i_21 rfl rfl (fun g12 => ?_)
  refine ev_aload0 37 d_Ca_init_36 rfl ?_
  refine ev_iload1 38 d_Ca_init_37 rfl ?_
  refine ev_pI 41 d_Ca_init_38 fw_Ca_i_24 rfl rfl (fun g13 => ?_)
  refine ev_aload0 42 d_Ca_init_41 rfl ?_
  refine ev_aload2 43 d_Ca_init_42 rfl ?_
  refine ev_pR 46 d_Ca_init_43 fw_Ca_i_28 rfl rfl (fun g14 => ?_)
  exact ev_return d_Ca_init_46 rfl
theorem t_Co_init {E : ev_E} (x0 : Option Nat) (x1 : Option Nat) (h : ev_hs) : EvO E M_Co_init 2 cvV 0 [some (va_rf x0), some (va_rf x1)] [] h (f_Co_init x0 x1 h) := by
  unfold f_Co_init
  refine ev_aload0 1 d_Co_init_0 rfl ?_
  refine ev_objInit 4 d_Co_init_1 w_225 w_28 w_29 (by decide) ev_sm0 (by decide) rfl ?_
  refine ev_aload0 5 d_Co_init_4 rfl ?_
  refine ev_bipush 7 d_Co_init_5 (by decide) rfl ?_
  refine ev_newarray (t := 50) 9 d_Co_init_7 (by decide) rfl w_95 rfl (by decide) (fun U cA h => h) rfl (fun q1 g2 => ?_)
  refine ev_pR 12 d_Co_init_9 fw_Co_i_9 rfl rfl (fun g3 => ?_)
  refine ev_aload0 13 d_Co_init_12 rfl ?_
  refine ev_bipush 15 d_Co_init_13 (by decide) rfl ?_
  refine ev_newarray (t := 50) 17 d_Co_init_15 (by decide) rfl w_95 rfl (by decide) (fun U cA h => h) rfl (fun q4 g5 => ?_)
  refine ev_pR 20 d_Co_init_17 fw_Co_i_15 rfl rfl (fun g6 => ?_)
  refine ev_aload0 21 d_Co_init_20 rfl ?_
  refine ev_bipush 23 d_Co_init_21 (by decide) rfl ?_
  refine ev_newarray (t := 50) 25 d_Co_init_23 (by decide) rfl w_95 rfl (by decide) (fun U cA h => h) rfl (fun q7 g8 => ?_)
  refine ev_pR 28 d_Co_init_25 fw_Co_i_18 rfl rfl (fun g9 => ?_)
  refine ev_aload0 29 d_Co_init_28 rfl ?_
  refine ev_bipush 31 d_Co_init_29 (by decide) rfl ?_
  refine ev_newarray (t := 50) 33 d_Co_init_31 (by decide) rfl w_95 rfl (by decide) (fun U cA h => h) rfl (fun q10 g11 => ?_)
  refine ev_pR 36 d_Co_init_33 fw_Co_i_21 rfl rfl (fun g12 => ?_)
  refine ev_aload0 37 d_Co_init_36 rfl ?_
  refine ev_bipush 39 d_Co_init_37 (by decide) rfl ?_
  refine ev_newarray (t := 50) 41 d_Co_init_39 (by decide) rfl w_95 rfl (by decide) (fun U cA h => h) rfl (fun q13 g14 => ?_)
  refine ev_pR 44 d_Co_init_41 fw_Co_i_24 rfl rfl (fun g15 => ?_)
  refine ev_aload0 45 d_Co_init_44 rfl ?_
  refine ev_aload1 46 d_Co_init_45 rfl ?_
  refine ev_pR 49 d_Co_init_46 fw_Co_i_27 rfl rfl (fun g16 => ?_)
  exact ev_return d_Co_init_49 rfl
theorem t_No_init {E : ev_E} (x0 : Option Nat) (x1 : Int) (x2 : Option Nat) (x3 : Option Nat) (h : ev_hs) : EvO E M_No_init 3 cvV 0 [some (va_rf x0), some (eI x1), some (va_rf x2), some (va_rf x3)] [] h (f_No_init x0 x1 x2 x3 h) := by
  unfold f_No_init
  refine ev_aload0 1 d_No_init_0 rfl ?_
  refine ev_objInit 4 d_No_init_1 w_187 w_28 w_29 (by decide) ev_sm0 (by decide) rfl ?_
  refine ev_aload0 5 d_No_init_4 rfl ?_
  refine ev_iload1 6 d_No_init_5 rfl ?_
  refine ev_pI 9 d_No_init_6 fw_No_i_9 rfl rfl (fun g1 => ?_)
  refine ev_aload0 10 d_No_init_9 rfl ?_
  refine ev_aload2 11 d_No_init_10 rfl ?_
  refine ev_pR 14 d_No_init_11 fw_No_i_15 rfl rfl (fun g2 => ?_)
  refine ev_aload0 15 d_No_init_14 rfl ?_
  refine ev_aload3 16 d_No_init_15 rfl ?_
  refine ev_pR 19 d_No_init_16 fw_No_i_19 rfl rfl (fun g3 => ?_)
  refine ev_aload0 20 d_No_init_19 rfl ?_
  refine ev_new 23 d_No_init_20 ck_7 w_188 w_189 w_11 rfl (fun q4 g5 => ?_)
  refine ev_dup 24 d_No_init_23 (va_rf_cat _) rfl ?_
  refine ev_iload1 25 d_No_init_24 rfl ?_
  refine ev_aload2 26 d_No_init_25 rfl ?_
  refine ev_ci2V (kk := 0) 29 d_No_init_26 ci_No_25 (by decide) (by decide) rfl (va_rf_cat _) (ev_smc (va_rf_cat _) (ev_smc (va_rf_cat _) ev_sm0)) (by decide) rfl (t_Ca_init _ _ _ g5) (fun g6 => ?_)
  refine ev_pR 32 d_No_init_29 fw_No_i_28 rfl rfl (fun g7 => ?_)
  refine ev_aload0 33 d_No_init_32 rfl ?_
  refine ev_new 36 d_No_init_33 ck_8 w_220 w_221 w_12 rfl (fun q8 g9 => ?_)
  refine ev_dup 37 d_No_init_36 (va_rf_cat _) rfl ?_
  refine ev_aload0 38 d_No_init_37 rfl ?_
  refine ev_gR 41 d_No_init_38 fl_No_28 rfl rfl (fun q10 => ?_)
  refine ev_ci1V (kk := 0) 44 d_No_init_41 ci_No_34 (by decide) (by decide) (va_rf_cat _) (ev_smc (va_rf_cat _) (ev_smc (va_rf_cat _) ev_sm0)) (by decide) rfl (t_Co_init _ _ g9) (fun g11 => ?_)
  refine ev_pR 47 d_No_init_44 fw_No_i_37 rfl rfl (fun g12 => ?_)
  exact ev_return d_No_init_47 rfl
theorem t_ML_init_38 {E : ev_E} : ∀ (fu : Nat) (x0 : Option Nat) (x3 : Int) (h : ev_hs) (K68 : Option Nat → ev_hs → Option (ev_hs)) (hK68 : ∀ (w0 : Option Nat) (wh : ev_hs), EvO E M_ML_init 7 cvV 68 [some (va_rf w0), none, none, none] [] wh (K68 w0 wh)) , EvO E M_ML_init 7 cvV 38 [some (va_rf x0), none, none, some (eI x3)] [] h (f_ML_init_38 fu x0 x3 h K68) := by
  intro fu
  induction fu with
  | zero => intros; exact ev_no
  | succ fu ih =>
    intro x0 x3 h K68 hK68
    rw [f_ML_init_38]
    refine ev_iload3 39 d_ML_init_38 rfl ?_
    refine ev_bipush 41 d_ML_init_39 (by decide) rfl ?_
    refine ev_icmp_ge 68 44 d_ML_init_41 (by decide) rfl ?_ ?_
    · exact ev_wk (hK68 _ h) (ev_subS (ev_subN (ev_subN (ev_subN ev_sub0))))
    · refine ev_aload0 45 d_ML_init_44 rfl ?_
      refine ev_gR 48 d_ML_init_45 fl_ML_24 rfl rfl (fun q12 => ?_)
      refine ev_iload3 49 d_ML_init_48 rfl ?_
      refine ev_new 52 d_ML_init_49 ck_5 w_145 w_147 w_9 rfl (fun q13 g14 => ?_)
      refine ev_dup 53 d_ML_init_52 (va_rf_cat _) rfl ?_
      refine ev_iload3 54 d_ML_init_53 rfl ?_
      refine ev_aload0 55 d_ML_init_54 rfl ?_
      refine ev_gR 58 d_ML_init_55 fl_ML_18 rfl rfl (fun q15 => ?_)
      refine ev_ci2V (kk := 0) 61 d_ML_init_58 ci_ML_28 (by decide) (by decide) rfl (va_rf_cat _) (ev_smc (va_rf_cat _) (ev_smc rfl (ev_smc (va_rf_cat _) ev_sm0))) (by decide) rfl (t_Ho_init _ _ _ g14) (fun g16 => ?_)
      refine ev_aastore (t := 53) 62 d_ML_init_61 (by decide) ao_53 rfl (fun g17 => ?_)
      refine ev_iinc3 65 d_ML_init_62 (by decide) rfl ?_
      refine ev_goto 38 d_ML_init_65 (by decide) ?_
      exact ev_wk (ih _ _ g17 _ hK68) (ev_subS (ev_subN (ev_subN (ev_subS ev_sub0))))
theorem t_ML_init_79 {E : ev_E} : ∀ (fu : Nat) (x0 : Option Nat) (x3 : Int) (h : ev_hs), EvO E M_ML_init 7 cvV 79 [some (va_rf x0), none, none, some (eI x3)] [] h (f_ML_init_79 fu x0 x3 h) := by
  intro fu
  induction fu with
  | zero => intros; exact ev_no
  | succ fu ih =>
    intro x0 x3 h
    rw [f_ML_init_79]
    refine ev_iload3 80 d_ML_init_79 rfl ?_
    refine ev_bipush 82 d_ML_init_80 (by decide) rfl ?_
    refine ev_icmp_ge 113 85 d_ML_init_82 (by decide) rfl ?_ ?_
    · exact ev_return d_ML_init_113 rfl
    · refine ev_aload0 86 d_ML_init_85 rfl ?_
      refine ev_gR 89 d_ML_init_86 fl_ML_33 rfl rfl (fun q22 => ?_)
      refine ev_iload3 90 d_ML_init_89 rfl ?_
      refine ev_new 93 d_ML_init_90 ck_6 w_181 w_183 w_10 rfl (fun q23 g24 => ?_)
      refine ev_dup 94 d_ML_init_93 (va_rf_cat _) rfl ?_
      refine ev_iload3 95 d_ML_init_94 rfl ?_
      refine ev_aload0 96 d_ML_init_95 rfl ?_
      refine ev_gR 99 d_ML_init_96 fl_ML_18 rfl rfl (fun q25 => ?_)
      refine ev_aload0 100 d_ML_init_99 rfl ?_
      refine ev_gR 103 d_ML_init_100 fl_ML_24 rfl rfl (fun q26 => ?_)
      refine ev_ci3V (kk := 0) 106 d_ML_init_103 ci_ML_37 (by decide) (by decide) rfl (va_rf_cat _) (va_rf_cat _) (ev_smc (va_rf_cat _) (ev_smc rfl (ev_smc (va_rf_cat _) ev_sm0))) (by decide) rfl (t_No_init _ _ _ _ g24) (fun g27 => ?_)
      refine ev_aastore (t := 54) 107 d_ML_init_106 (by decide) ao_54 rfl (fun g28 => ?_)
      refine ev_iinc3 110 d_ML_init_107 (by decide) rfl ?_
      refine ev_goto 79 d_ML_init_110 (by decide) ?_
      exact ev_wk (ih _ _ g28) (ev_subS (ev_subN (ev_subN (ev_subS ev_sub0))))
theorem t_ML_init {E : ev_E} (x0 : Option Nat) (x1 : Int) (x2 : Int) (h : ev_hs) : EvO E M_ML_init 7 cvV 0 [some (va_rf x0), some (eI x1), some (eI x2), none] [] h (f_ML_init x0 x1 x2 h) := by
  unfold f_ML_init
  refine ev_aload0 1 d_ML_init_0 rfl ?_
  refine ev_objInit 4 d_ML_init_1 w_27 w_28 w_29 (by decide) ev_sm0 (by decide) rfl ?_
  refine ev_aload0 5 d_ML_init_4 rfl ?_
  refine ev_new 8 d_ML_init_5 ck_1 w_30 w_31 w_2 rfl (fun q1 g2 => ?_)
  refine ev_dup 9 d_ML_init_8 (va_rf_cat _) rfl ?_
  refine ev_iload1 10 d_ML_init_9 rfl ?_
  refine ev_iconst 11 d_ML_init_10 rfl ?_
  refine ev_iconst 12 d_ML_init_11 rfl ?_
  refine ev_cs3I (kk := 0) 15 d_ML_init_12 cs_ML_9 (by decide) (by decide) rfl rfl rfl (ev_smc (va_rf_cat _) (ev_smc (va_rf_cat _) (ev_smc (va_rf_cat _) ev_sm0))) (by decide) rfl (t_ML_nearest _ _ _ g2) (fun z4 g3 => ?_)
  refine ev_iload2 16 d_ML_init_15 rfl ?_
  refine ev_iconst 17 d_ML_init_16 rfl ?_
  refine ev_iconst 18 d_ML_init_17 rfl ?_
  refine ev_cs3I (kk := 0) 21 d_ML_init_18 cs_ML_9 (by decide) (by decide) rfl rfl rfl (ev_smc rfl (ev_smc (va_rf_cat _) (ev_smc (va_rf_cat _) (ev_smc (va_rf_cat _) ev_sm0)))) (by decide) rfl (t_ML_nearest _ _ _ g3) (fun z6 g5 => ?_)
  refine ev_ci2V (kk := 1) 24 d_ML_init_21 ci_ML_15 (by decide) (by decide) rfl rfl (ev_smc (va_rf_cat _) (ev_smc (va_rf_cat _) ev_sm0)) (by decide) rfl (t_Me_init _ _ _ g5) (fun g7 => ?_)
  refine ev_pR 27 d_ML_init_24 fw_ML_i_18 rfl rfl (fun g8 => ?_)
  refine ev_aload0 28 d_ML_init_27 rfl ?_
  refine ev_bipush 30 d_ML_init_28 (by decide) rfl ?_
  refine ev_anewarray (t := 53) 33 d_ML_init_30 (by decide) rfl w_145 xo_53 rfl (fun q9 g10 => ?_)
  refine ev_pR 36 d_ML_init_33 fw_ML_i_24 rfl rfl (fun g11 => ?_)
  refine ev_iconst 37 d_ML_init_36 rfl ?_
  refine ev_istore3 38 d_ML_init_37 (by decide) rfl ?_
  refine ev_wk (t_ML_init_38 FU _ _ g11 _ ?_) (ev_subS (ev_subN (ev_subN (ev_subS ev_sub0))))
  intro y18_0 y18_h
  refine ev_aload0 69 d_ML_init_68 rfl ?_
  refine ev_bipush 71 d_ML_init_69 (by decide) rfl ?_
  refine ev_anewarray (t := 54) 74 d_ML_init_71 (by decide) rfl w_181 xo_54 rfl (fun q19 g20 => ?_)
  refine ev_pR 77 d_ML_init_74 fw_ML_i_33 rfl rfl (fun g21 => ?_)
  refine ev_iconst 78 d_ML_init_77 rfl ?_
  refine ev_istore3 79 d_ML_init_78 (by decide) rfl ?_
  refine ev_wk (t_ML_init_79 FU _ _ g21) (ev_subS (ev_subN (ev_subN (ev_subS ev_sub0))))
theorem t_Mo_init_350 {E : ev_E} : ∀ (fu : Nat) (x0 : Option Nat) (x3 : Int) (h : ev_hs) (K376 : Option Nat → ev_hs → Option (ev_hs)) (hK376 : ∀ (w0 : Option Nat) (wh : ev_hs), EvO E M_Mo_init 2 cvV 376 [some (va_rf w0), none, none, none] [] wh (K376 w0 wh)) , EvO E M_Mo_init 2 cvV 350 [some (va_rf x0), none, none, some (eI x3)] [] h (f_Mo_init_350 fu x0 x3 h K376) := by
  intro fu
  induction fu with
  | zero => intros; exact ev_no
  | succ fu ih =>
    intro x0 x3 h K376 hK376
    rw [f_Mo_init_350]
    refine ev_iload3 351 d_Mo_init_350 rfl ?_
    refine ev_bipush 353 d_Mo_init_351 (by decide) rfl ?_
    refine ev_icmp_ge 376 356 d_Mo_init_353 (by decide) rfl ?_ ?_
    · exact ev_wk (hK376 _ h) (ev_subS (ev_subN (ev_subN (ev_subN ev_sub0))))
    · refine ev_aload0 357 d_Mo_init_356 rfl ?_
      refine ev_gR 360 d_Mo_init_357 fl_Mo_62 rfl rfl (fun q4 => ?_)
      refine ev_iload3 361 d_Mo_init_360 rfl ?_
      refine ev_iconst 362 d_Mo_init_361 rfl ?_
      refine ev_iastore 363 d_Mo_init_362 rfl (fun g5 => ?_)
      refine ev_aload0 364 d_Mo_init_363 rfl ?_
      refine ev_gR 367 d_Mo_init_364 fl_Mo_65 rfl rfl (fun q6 => ?_)
      refine ev_iload3 368 d_Mo_init_367 rfl ?_
      refine ev_iconst 369 d_Mo_init_368 rfl ?_
      refine ev_iastore 370 d_Mo_init_369 rfl (fun g7 => ?_)
      refine ev_iinc3 373 d_Mo_init_370 (by decide) rfl ?_
      refine ev_goto 350 d_Mo_init_373 (by decide) ?_
      exact ev_wk (ih _ _ g7 _ hK376) (ev_subS (ev_subN (ev_subN (ev_subS ev_sub0))))
theorem t_Mo_init_378 {E : ev_E} : ∀ (fu : Nat) (x0 : Option Nat) (x3 : Int) (h : ev_hs), EvO E M_Mo_init 2 cvV 378 [some (va_rf x0), none, none, some (eI x3)] [] h (f_Mo_init_378 fu x0 x3 h) := by
  intro fu
  induction fu with
  | zero => intros; exact ev_no
  | succ fu ih =>
    intro x0 x3 h
    rw [f_Mo_init_378]
    refine ev_iload3 379 d_Mo_init_378 rfl ?_
    refine ev_bipush 381 d_Mo_init_379 (by decide) rfl ?_
    refine ev_icmp_ge 397 384 d_Mo_init_381 (by decide) rfl ?_ ?_
    · exact ev_return d_Mo_init_397 rfl
    · refine ev_aload0 385 d_Mo_init_384 rfl ?_
      refine ev_gR 388 d_Mo_init_385 fl_Mo_86 rfl rfl (fun q9 => ?_)
      refine ev_iload3 389 d_Mo_init_388 rfl ?_
      refine ev_iconst 390 d_Mo_init_389 rfl ?_
      refine ev_iastore 391 d_Mo_init_390 rfl (fun g10 => ?_)
      refine ev_iinc3 394 d_Mo_init_391 (by decide) rfl ?_
      refine ev_goto 378 d_Mo_init_394 (by decide) ?_
      exact ev_wk (ih _ _ g10) (ev_subS (ev_subN (ev_subN (ev_subS ev_sub0))))
theorem t_Mo_init {E : ev_E} (x0 : Option Nat) (x1 : Int) (x2 : Int) (h : ev_hs) : EvO E M_Mo_init 2 cvV 0 [some (va_rf x0), some (eI x1), some (eI x2), none] [] h (f_Mo_init x0 x1 x2 h) := by
  unfold f_Mo_init
  refine ev_jn (fun J => ∀ (u1_0 : Option Nat) (u1_2 : Int) (u1_s0 : Option Nat) (u1_s1 : Int) (u1_h : ev_hs), EvO E M_Mo_init 2 cvV 322 [some (va_rf u1_0), none, some (eI u1_2), none] [eI u1_s1, va_rf u1_s0] u1_h (J u1_0 u1_2 u1_s0 u1_s1 u1_h)) ?_ (fun J322 hJ322 => ?_)
  · intro u1_0 u1_2 u1_s0 u1_s1 u1_h
    refine ev_jn (fun J => ∀ (u2_0 : Option Nat) (u2_s0 : Option Nat) (u2_s1 : Int) (u2_h : ev_hs), EvO E M_Mo_init 2 cvV 345 [some (va_rf u2_0), none, none, none] [eI u2_s1, va_rf u2_s0] u2_h (J u2_0 u2_s0 u2_s1 u2_h)) ?_ (fun J345 hJ345 => ?_)
    · intro u2_0 u2_s0 u2_s1 u2_h
      refine ev_pI 348 d_Mo_init_345 fw_Mo_i_120 rfl rfl (fun g3 => ?_)
      refine ev_iconst 349 d_Mo_init_348 rfl ?_
      refine ev_istore3 350 d_Mo_init_349 (by decide) rfl ?_
      refine ev_wk (t_Mo_init_350 FU _ _ g3 _ ?_) (ev_subS (ev_subN (ev_subN (ev_subS ev_sub0))))
      intro y8_0 y8_h
      refine ev_iconst 377 d_Mo_init_376 rfl ?_
      refine ev_istore3 378 d_Mo_init_377 (by decide) rfl ?_
      refine ev_wk (t_Mo_init_378 FU _ _ y8_h) (ev_subS (ev_subN (ev_subN (ev_subS ev_sub0))))
    refine ev_pI 325 d_Mo_init_322 fw_Mo_i_116 rfl rfl (fun g11 => ?_)
    refine ev_aload0 326 d_Mo_init_325 rfl ?_
    refine ev_iload2 327 d_Mo_init_326 rfl ?_
    refine ev_iconst 328 d_Mo_init_327 rfl ?_
    refine ev_icmp_ge 335 331 d_Mo_init_328 (by decide) rfl ?_ ?_
    · refine ev_iload2 336 d_Mo_init_335 rfl ?_
      refine ev_iconst 337 d_Mo_init_336 rfl ?_
      refine ev_icmp_le 344 340 d_Mo_init_337 (by decide) rfl ?_ ?_
      · refine ev_iload2 345 d_Mo_init_344 rfl ?_
        exact ev_wk (hJ345 _ _ _ g11) (ev_subS (ev_subN (ev_subN (ev_subN ev_sub0))))
      · refine ev_iconst 341 d_Mo_init_340 rfl ?_
        refine ev_goto 345 d_Mo_init_341 (by decide) ?_
        exact ev_wk (hJ345 _ _ _ g11) (ev_subS (ev_subN (ev_subN (ev_subN ev_sub0))))
    · refine ev_iconst 332 d_Mo_init_331 rfl ?_
      refine ev_goto 345 d_Mo_init_332 (by decide) ?_
      exact ev_wk (hJ345 _ _ _ g11) (ev_subS (ev_subN (ev_subN (ev_subN ev_sub0))))
  refine ev_aload0 1 d_Mo_init_0 rfl ?_
  refine ev_objInit 4 d_Mo_init_1 w_677 w_28 w_29 (by decide) ev_sm0 (by decide) rfl ?_
  refine ev_aload0 5 d_Mo_init_4 rfl ?_
  refine ev_sipush 8 d_Mo_init_5 (by decide) rfl ?_
  refine ev_newarray (t := 51) 10 d_Mo_init_8 (by decide) rfl w_802 rfl (by decide) (fun U cA h => h) rfl (fun q12 g13 => ?_)
  refine ev_pR 13 d_Mo_init_10 fw_Mo_i_7 rfl rfl (fun g14 => ?_)
  refine ev_aload0 14 d_Mo_init_13 rfl ?_
  refine ev_sipush 17 d_Mo_init_14 (by decide) rfl ?_
  refine ev_newarray (t := 50) 19 d_Mo_init_17 (by decide) rfl w_95 rfl (by decide) (fun U cA h => h) rfl (fun q15 g16 => ?_)
  refine ev_pR 22 d_Mo_init_19 fw_Mo_i_13 rfl rfl (fun g17 => ?_)
  refine ev_aload0 23 d_Mo_init_22 rfl ?_
  refine ev_sipush 26 d_Mo_init_23 (by decide) rfl ?_
  refine ev_newarray (t := 50) 28 d_Mo_init_26 (by decide) rfl w_95 rfl (by decide) (fun U cA h => h) rfl (fun q18 g19 => ?_)
  refine ev_pR 31 d_Mo_init_28 fw_Mo_i_17 rfl rfl (fun g20 => ?_)
  refine ev_aload0 32 d_Mo_init_31 rfl ?_
  refine ev_sipush 35 d_Mo_init_32 (by decide) rfl ?_
  refine ev_newarray (t := 50) 37 d_Mo_init_35 (by decide) rfl w_95 rfl (by decide) (fun U cA h => h) rfl (fun q21 g22 => ?_)
  refine ev_pR 40 d_Mo_init_37 fw_Mo_i_20 rfl rfl (fun g23 => ?_)
  refine ev_aload0 41 d_Mo_init_40 rfl ?_
  refine ev_sipush 44 d_Mo_init_41 (by decide) rfl ?_
  refine ev_newarray (t := 50) 46 d_Mo_init_44 (by decide) rfl w_95 rfl (by decide) (fun U cA h => h) rfl (fun q24 g25 => ?_)
  refine ev_pR 49 d_Mo_init_46 fw_Mo_i_23 rfl rfl (fun g26 => ?_)
  refine ev_aload0 50 d_Mo_init_49 rfl ?_
  refine ev_sipush 53 d_Mo_init_50 (by decide) rfl ?_
  refine ev_newarray (t := 50) 55 d_Mo_init_53 (by decide) rfl w_95 rfl (by decide) (fun U cA h => h) rfl (fun q27 g28 => ?_)
  refine ev_pR 58 d_Mo_init_55 fw_Mo_i_26 rfl rfl (fun g29 => ?_)
  refine ev_aload0 59 d_Mo_init_58 rfl ?_
  refine ev_sipush 62 d_Mo_init_59 (by decide) rfl ?_
  refine ev_newarray (t := 50) 64 d_Mo_init_62 (by decide) rfl w_95 rfl (by decide) (fun U cA h => h) rfl (fun q30 g31 => ?_)
  refine ev_pR 67 d_Mo_init_64 fw_Mo_i_29 rfl rfl (fun g32 => ?_)
  refine ev_aload0 68 d_Mo_init_67 rfl ?_
  refine ev_sipush 71 d_Mo_init_68 (by decide) rfl ?_
  refine ev_newarray (t := 50) 73 d_Mo_init_71 (by decide) rfl w_95 rfl (by decide) (fun U cA h => h) rfl (fun q33 g34 => ?_)
  refine ev_pR 76 d_Mo_init_73 fw_Mo_i_32 rfl rfl (fun g35 => ?_)
  refine ev_aload0 77 d_Mo_init_76 rfl ?_
  refine ev_sipush 80 d_Mo_init_77 (by decide) rfl ?_
  refine ev_newarray (t := 50) 82 d_Mo_init_80 (by decide) rfl w_95 rfl (by decide) (fun U cA h => h) rfl (fun q36 g37 => ?_)
  refine ev_pR 85 d_Mo_init_82 fw_Mo_i_35 rfl rfl (fun g38 => ?_)
  refine ev_aload0 86 d_Mo_init_85 rfl ?_
  refine ev_bipush 88 d_Mo_init_86 (by decide) rfl ?_
  refine ev_newarray (t := 50) 90 d_Mo_init_88 (by decide) rfl w_95 rfl (by decide) (fun U cA h => h) rfl (fun q39 g40 => ?_)
  refine ev_pR 93 d_Mo_init_90 fw_Mo_i_38 rfl rfl (fun g41 => ?_)
  refine ev_aload0 94 d_Mo_init_93 rfl ?_
  refine ev_bipush 96 d_Mo_init_94 (by decide) rfl ?_
  refine ev_newarray (t := 50) 98 d_Mo_init_96 (by decide) rfl w_95 rfl (by decide) (fun U cA h => h) rfl (fun q42 g43 => ?_)
  refine ev_pR 101 d_Mo_init_98 fw_Mo_i_41 rfl rfl (fun g44 => ?_)
  refine ev_aload0 102 d_Mo_init_101 rfl ?_
  refine ev_sipush 105 d_Mo_init_102 (by decide) rfl ?_
  refine ev_newarray (t := 50) 107 d_Mo_init_105 (by decide) rfl w_95 rfl (by decide) (fun U cA h => h) rfl (fun q45 g46 => ?_)
  refine ev_pR 110 d_Mo_init_107 fw_Mo_i_44 rfl rfl (fun g47 => ?_)
  refine ev_aload0 111 d_Mo_init_110 rfl ?_
  refine ev_bipush 113 d_Mo_init_111 (by decide) rfl ?_
  refine ev_newarray (t := 50) 115 d_Mo_init_113 (by decide) rfl w_95 rfl (by decide) (fun U cA h => h) rfl (fun q48 g49 => ?_)
  refine ev_pR 118 d_Mo_init_115 fw_Mo_i_47 rfl rfl (fun g50 => ?_)
  refine ev_aload0 119 d_Mo_init_118 rfl ?_
  refine ev_sipush 122 d_Mo_init_119 (by decide) rfl ?_
  refine ev_newarray (t := 50) 124 d_Mo_init_122 (by decide) rfl w_95 rfl (by decide) (fun U cA h => h) rfl (fun q51 g52 => ?_)
  refine ev_pR 127 d_Mo_init_124 fw_Mo_i_50 rfl rfl (fun g53 => ?_)
  refine ev_aload0 128 d_Mo_init_127 rfl ?_
  refine ev_sipush 131 d_Mo_init_128 (by decide) rfl ?_
  refine ev_newarray (t := 50) 133 d_Mo_init_131 (by decide) rfl w_95 rfl (by decide) (fun U cA h => h) rfl (fun q54 g55 => ?_)
  refine ev_pR 136 d_Mo_init_133 fw_Mo_i_53 rfl rfl (fun g56 => ?_)
  refine ev_aload0 137 d_Mo_init_136 rfl ?_
  refine ev_sipush 140 d_Mo_init_137 (by decide) rfl ?_
  refine ev_newarray (t := 50) 142 d_Mo_init_140 (by decide) rfl w_95 rfl (by decide) (fun U cA h => h) rfl (fun q57 g58 => ?_)
  refine ev_pR 145 d_Mo_init_142 fw_Mo_i_56 rfl rfl (fun g59 => ?_)
  refine ev_aload0 146 d_Mo_init_145 rfl ?_
  refine ev_bipush 148 d_Mo_init_146 (by decide) rfl ?_
  refine ev_newarray (t := 50) 150 d_Mo_init_148 (by decide) rfl w_95 rfl (by decide) (fun U cA h => h) rfl (fun q60 g61 => ?_)
  refine ev_pR 153 d_Mo_init_150 fw_Mo_i_59 rfl rfl (fun g62 => ?_)
  refine ev_aload0 154 d_Mo_init_153 rfl ?_
  refine ev_bipush 156 d_Mo_init_154 (by decide) rfl ?_
  refine ev_newarray (t := 50) 158 d_Mo_init_156 (by decide) rfl w_95 rfl (by decide) (fun U cA h => h) rfl (fun q63 g64 => ?_)
  refine ev_pR 161 d_Mo_init_158 fw_Mo_i_62 rfl rfl (fun g65 => ?_)
  refine ev_aload0 162 d_Mo_init_161 rfl ?_
  refine ev_bipush 164 d_Mo_init_162 (by decide) rfl ?_
  refine ev_newarray (t := 50) 166 d_Mo_init_164 (by decide) rfl w_95 rfl (by decide) (fun U cA h => h) rfl (fun q66 g67 => ?_)
  refine ev_pR 169 d_Mo_init_166 fw_Mo_i_65 rfl rfl (fun g68 => ?_)
  refine ev_aload0 170 d_Mo_init_169 rfl ?_
  refine ev_bipush 172 d_Mo_init_170 (by decide) rfl ?_
  refine ev_newarray (t := 50) 174 d_Mo_init_172 (by decide) rfl w_95 rfl (by decide) (fun U cA h => h) rfl (fun q69 g70 => ?_)
  refine ev_pR 177 d_Mo_init_174 fw_Mo_i_68 rfl rfl (fun g71 => ?_)
  refine ev_aload0 178 d_Mo_init_177 rfl ?_
  refine ev_bipush 180 d_Mo_init_178 (by decide) rfl ?_
  refine ev_newarray (t := 50) 182 d_Mo_init_180 (by decide) rfl w_95 rfl (by decide) (fun U cA h => h) rfl (fun q72 g73 => ?_)
  refine ev_pR 185 d_Mo_init_182 fw_Mo_i_71 rfl rfl (fun g74 => ?_)
  refine ev_aload0 186 d_Mo_init_185 rfl ?_
  refine ev_bipush 188 d_Mo_init_186 (by decide) rfl ?_
  refine ev_newarray (t := 50) 190 d_Mo_init_188 (by decide) rfl w_95 rfl (by decide) (fun U cA h => h) rfl (fun q75 g76 => ?_)
  refine ev_pR 193 d_Mo_init_190 fw_Mo_i_74 rfl rfl (fun g77 => ?_)
  refine ev_aload0 194 d_Mo_init_193 rfl ?_
  refine ev_bipush 196 d_Mo_init_194 (by decide) rfl ?_
  refine ev_newarray (t := 50) 198 d_Mo_init_196 (by decide) rfl w_95 rfl (by decide) (fun U cA h => h) rfl (fun q78 g79 => ?_)
  refine ev_pR 201 d_Mo_init_198 fw_Mo_i_77 rfl rfl (fun g80 => ?_)
  refine ev_aload0 202 d_Mo_init_201 rfl ?_
  refine ev_bipush 204 d_Mo_init_202 (by decide) rfl ?_
  refine ev_newarray (t := 50) 206 d_Mo_init_204 (by decide) rfl w_95 rfl (by decide) (fun U cA h => h) rfl (fun q81 g82 => ?_)
  refine ev_pR 209 d_Mo_init_206 fw_Mo_i_80 rfl rfl (fun g83 => ?_)
  refine ev_aload0 210 d_Mo_init_209 rfl ?_
  refine ev_bipush 212 d_Mo_init_210 (by decide) rfl ?_
  refine ev_newarray (t := 50) 214 d_Mo_init_212 (by decide) rfl w_95 rfl (by decide) (fun U cA h => h) rfl (fun q84 g85 => ?_)
  refine ev_pR 217 d_Mo_init_214 fw_Mo_i_83 rfl rfl (fun g86 => ?_)
  refine ev_aload0 218 d_Mo_init_217 rfl ?_
  refine ev_bipush 220 d_Mo_init_218 (by decide) rfl ?_
  refine ev_newarray (t := 50) 222 d_Mo_init_220 (by decide) rfl w_95 rfl (by decide) (fun U cA h => h) rfl (fun q87 g88 => ?_)
  refine ev_pR 225 d_Mo_init_222 fw_Mo_i_86 rfl rfl (fun g89 => ?_)
  refine ev_aload0 226 d_Mo_init_225 rfl ?_
  refine ev_bipush 228 d_Mo_init_226 (by decide) rfl ?_
  refine ev_newarray (t := 50) 230 d_Mo_init_228 (by decide) rfl w_95 rfl (by decide) (fun U cA h => h) rfl (fun q90 g91 => ?_)
  refine ev_pR 233 d_Mo_init_230 fw_Mo_i_89 rfl rfl (fun g92 => ?_)
  refine ev_aload0 234 d_Mo_init_233 rfl ?_
  refine ev_sipush 237 d_Mo_init_234 (by decide) rfl ?_
  refine ev_newarray (t := 50) 239 d_Mo_init_237 (by decide) rfl w_95 rfl (by decide) (fun U cA h => h) rfl (fun q93 g94 => ?_)
  refine ev_pR 242 d_Mo_init_239 fw_Mo_i_92 rfl rfl (fun g95 => ?_)
  refine ev_aload0 243 d_Mo_init_242 rfl ?_
  refine ev_sipush 246 d_Mo_init_243 (by decide) rfl ?_
  refine ev_newarray (t := 50) 248 d_Mo_init_246 (by decide) rfl w_95 rfl (by decide) (fun U cA h => h) rfl (fun q96 g97 => ?_)
  refine ev_pR 251 d_Mo_init_248 fw_Mo_i_95 rfl rfl (fun g98 => ?_)
  refine ev_aload0 252 d_Mo_init_251 rfl ?_
  refine ev_sipush 255 d_Mo_init_252 (by decide) rfl ?_
  refine ev_newarray (t := 50) 257 d_Mo_init_255 (by decide) rfl w_95 rfl (by decide) (fun U cA h => h) rfl (fun q99 g100 => ?_)
  refine ev_pR 260 d_Mo_init_257 fw_Mo_i_98 rfl rfl (fun g101 => ?_)
  refine ev_aload0 261 d_Mo_init_260 rfl ?_
  refine ev_sipush 264 d_Mo_init_261 (by decide) rfl ?_
  refine ev_newarray (t := 50) 266 d_Mo_init_264 (by decide) rfl w_95 rfl (by decide) (fun U cA h => h) rfl (fun q102 g103 => ?_)
  refine ev_pR 269 d_Mo_init_266 fw_Mo_i_101 rfl rfl (fun g104 => ?_)
  refine ev_aload0 270 d_Mo_init_269 rfl ?_
  refine ev_sipush 273 d_Mo_init_270 (by decide) rfl ?_
  refine ev_newarray (t := 50) 275 d_Mo_init_273 (by decide) rfl w_95 rfl (by decide) (fun U cA h => h) rfl (fun q105 g106 => ?_)
  refine ev_pR 278 d_Mo_init_275 fw_Mo_i_104 rfl rfl (fun g107 => ?_)
  refine ev_aload0 279 d_Mo_init_278 rfl ?_
  refine ev_bipush 281 d_Mo_init_279 (by decide) rfl ?_
  refine ev_newarray (t := 50) 283 d_Mo_init_281 (by decide) rfl w_95 rfl (by decide) (fun U cA h => h) rfl (fun q108 g109 => ?_)
  refine ev_pR 286 d_Mo_init_283 fw_Mo_i_107 rfl rfl (fun g110 => ?_)
  refine ev_aload0 287 d_Mo_init_286 rfl ?_
  refine ev_bipush 289 d_Mo_init_287 (by decide) rfl ?_
  refine ev_newarray (t := 50) 291 d_Mo_init_289 (by decide) rfl w_95 rfl (by decide) (fun U cA h => h) rfl (fun q111 g112 => ?_)
  refine ev_pR 294 d_Mo_init_291 fw_Mo_i_110 rfl rfl (fun g113 => ?_)
  refine ev_aload0 295 d_Mo_init_294 rfl ?_
  refine ev_bipush 297 d_Mo_init_295 (by decide) rfl ?_
  refine ev_newarray (t := 51) 299 d_Mo_init_297 (by decide) rfl w_802 rfl (by decide) (fun U cA h => h) rfl (fun q114 g115 => ?_)
  refine ev_pR 302 d_Mo_init_299 fw_Mo_i_113 rfl rfl (fun g116 => ?_)
  refine ev_aload0 303 d_Mo_init_302 rfl ?_
  refine ev_iload1 304 d_Mo_init_303 rfl ?_
  refine ev_iconst 305 d_Mo_init_304 rfl ?_
  refine ev_icmp_ge 312 308 d_Mo_init_305 (by decide) rfl ?_ ?_
  · refine ev_iload1 313 d_Mo_init_312 rfl ?_
    refine ev_iconst 314 d_Mo_init_313 rfl ?_
    refine ev_icmp_le 321 317 d_Mo_init_314 (by decide) rfl ?_ ?_
    · refine ev_iload1 322 d_Mo_init_321 rfl ?_
      exact ev_wk (hJ322 _ _ _ _ g116) (ev_subS (ev_subN (ev_subS (ev_subN ev_sub0))))
    · refine ev_iconst 318 d_Mo_init_317 rfl ?_
      refine ev_goto 322 d_Mo_init_318 (by decide) ?_
      exact ev_wk (hJ322 _ _ _ _ g116) (ev_subS (ev_subN (ev_subS (ev_subN ev_sub0))))
  · refine ev_iconst 309 d_Mo_init_308 rfl ?_
    refine ev_goto 322 d_Mo_init_309 (by decide) ?_
    exact ev_wk (hJ322 _ _ _ _ g116) (ev_subS (ev_subN (ev_subS (ev_subN ev_sub0))))
theorem t_ML_isBelow {E : ev_E} (x0 : Int) (x1 : Int) (h : ev_hs) : EvO E M_ML_isBelow 1 cvI 0 [some (eI x0), some (eI x1)] [] h (f_ML_isBelow x0 x1 h) := by
  unfold f_ML_isBelow
  refine ev_jn (fun J => ∀ (u1_s0 : Int) (u1_h : ev_hs), EvO E M_ML_isBelow 1 cvI 14 [none, none] [eI u1_s0] u1_h (J u1_s0 u1_h)) ?_ (fun J14 hJ14 => ?_)
  · intro u1_s0 u1_h
    exact ev_zreturn d_ML_isBelow_14 rfl
  refine ev_jn (fun J => ∀ (u2_h : ev_hs), EvO E M_ML_isBelow 1 cvI 13 [none, none] [] u2_h (J u2_h)) ?_ (fun J13 hJ13 => ?_)
  · intro u2_h
    refine ev_iconst 14 d_ML_isBelow_13 rfl ?_
    exact ev_wk (hJ14 _ u2_h) (ev_subN (ev_subN ev_sub0))
  refine ev_iload0 1 d_ML_isBelow_0 rfl ?_
  refine ev_if_lt 13 4 d_ML_isBelow_1 (by decide) rfl ?_ ?_
  · exact ev_wk (hJ13 h) (ev_subN (ev_subN ev_sub0))
  · refine ev_iload0 5 d_ML_isBelow_4 rfl ?_
    refine ev_iload1 6 d_ML_isBelow_5 rfl ?_
    refine ev_icmp_ge 13 9 d_ML_isBelow_6 (by decide) rfl ?_ ?_
    · exact ev_wk (hJ13 h) (ev_subN (ev_subN ev_sub0))
    · refine ev_iconst 10 d_ML_isBelow_9 rfl ?_
      refine ev_goto 14 d_ML_isBelow_10 (by decide) ?_
      exact ev_wk (hJ14 _ h) (ev_subN (ev_subN ev_sub0))
theorem t_Co_append {E : ev_E} (x0 : Option Nat) (x1 : Int) (x2 : Int) (x3 : Int) (x4 : Int) (h : ev_hs) : EvO E M_Co_append 1 cvI 0 [some (va_rf x0), some (eI x1), some (eI x2), some (eI x3), some (eI x4)] [] h (f_Co_append x0 x1 x2 x3 x4 h) := by
  unfold f_Co_append
  refine ev_aload0 1 d_Co_append_0 rfl ?_
  refine ev_gI 4 d_Co_append_1 fl_Co_31 rfl rfl (fun z1 => ?_)
  refine ev_bipush 6 d_Co_append_4 (by decide) rfl ?_
  refine ev_icmp_lt 11 9 d_Co_append_6 (by decide) rfl ?_ ?_
  · refine ev_aload0 12 d_Co_append_11 rfl ?_
    refine ev_gR 15 d_Co_append_12 fl_Co_9 rfl rfl (fun q2 => ?_)
    refine ev_aload0 16 d_Co_append_15 rfl ?_
    refine ev_gI 19 d_Co_append_16 fl_Co_31 rfl rfl (fun z3 => ?_)
    refine ev_iload1 20 d_Co_append_19 rfl ?_
    refine ev_iastore 21 d_Co_append_20 rfl (fun g4 => ?_)
    refine ev_aload0 22 d_Co_append_21 rfl ?_
    refine ev_gR 25 d_Co_append_22 fl_Co_15 rfl rfl (fun q5 => ?_)
    refine ev_aload0 26 d_Co_append_25 rfl ?_
    refine ev_gI 29 d_Co_append_26 fl_Co_31 rfl rfl (fun z6 => ?_)
    refine ev_iload2 30 d_Co_append_29 rfl ?_
    refine ev_iastore 31 d_Co_append_30 rfl (fun g7 => ?_)
    refine ev_aload0 32 d_Co_append_31 rfl ?_
    refine ev_gR 35 d_Co_append_32 fl_Co_18 rfl rfl (fun q8 => ?_)
    refine ev_aload0 36 d_Co_append_35 rfl ?_
    refine ev_gI 39 d_Co_append_36 fl_Co_31 rfl rfl (fun z9 => ?_)
    refine ev_iload3 40 d_Co_append_39 rfl ?_
    refine ev_iastore 41 d_Co_append_40 rfl (fun g10 => ?_)
    refine ev_aload0 42 d_Co_append_41 rfl ?_
    refine ev_gR 45 d_Co_append_42 fl_Co_21 rfl rfl (fun q11 => ?_)
    refine ev_aload0 46 d_Co_append_45 rfl ?_
    refine ev_gI 49 d_Co_append_46 fl_Co_31 rfl rfl (fun z12 => ?_)
    refine ev_iload4 51 d_Co_append_49 rfl ?_
    refine ev_iastore 52 d_Co_append_51 rfl (fun g13 => ?_)
    refine ev_aload0 53 d_Co_append_52 rfl ?_
    refine ev_dup 54 d_Co_append_53 (va_rf_cat _) rfl ?_
    refine ev_gI 57 d_Co_append_54 fl_Co_31 rfl rfl (fun z14 => ?_)
    refine ev_iconst 58 d_Co_append_57 rfl ?_
    refine ev_iadd 59 d_Co_append_58 rfl ?_
    refine ev_pI 62 d_Co_append_59 fw_Co_append_31 rfl rfl (fun g15 => ?_)
    refine ev_aload0 63 d_Co_append_62 rfl ?_
    refine ev_gI 66 d_Co_append_63 fl_Co_31 rfl rfl (fun z16 => ?_)
    refine ev_iconst 67 d_Co_append_66 rfl ?_
    refine ev_isub 68 d_Co_append_67 rfl ?_
    exact ev_ireturn d_Co_append_68 rfl
  · refine ev_iconst 10 d_Co_append_9 rfl ?_
    exact ev_ireturn d_Co_append_10 rfl
theorem t_ML_operation {E : ev_E} (x0 : Option Nat) (x1 : Int) (x2 : Int) (x3 : Int) (x4 : Int) (x5 : Int) (h : ev_hs) : EvO E M_ML_operation 2 cvI 0 [some (va_rf x0), some (eI x1), some (eI x2), some (eI x3), some (eI x4), some (eI x5)] [] h (f_ML_operation x0 x1 x2 x3 x4 x5 h) := by
  unfold f_ML_operation
  refine ev_jn (fun J => ∀ (u1_h : ev_hs), EvO E M_ML_operation 2 cvI 26 [none, none, none, none, none, none] [] u1_h (J u1_h)) ?_ (fun J26 hJ26 => ?_)
  · intro u1_h
    refine ev_iconst 27 d_ML_operation_26 rfl ?_
    exact ev_ireturn d_ML_operation_27 rfl
  refine ev_iload1 1 d_ML_operation_0 rfl ?_
  refine ev_bipush 3 d_ML_operation_1 (by decide) rfl ?_
  refine ev_cs2I (kk := 0) 6 d_ML_operation_3 cs_ML_40 (by decide) (by decide) rfl rfl ev_sm0 (by decide) rfl (t_ML_isBelow _ _ h) (fun z3 g2 => ?_)
  refine ev_if_eq 26 9 d_ML_operation_6 (by decide) rfl ?_ ?_
  · exact ev_wk (hJ26 g2) (ev_subN (ev_subN (ev_subN (ev_subN (ev_subN (ev_subN ev_sub0))))))
  · refine ev_iload2 10 d_ML_operation_9 rfl ?_
    refine ev_iconst 11 d_ML_operation_10 rfl ?_
    refine ev_cs2I (kk := 0) 14 d_ML_operation_11 cs_ML_40 (by decide) (by decide) rfl rfl ev_sm0 (by decide) rfl (t_ML_isBelow _ _ g2) (fun z5 g4 => ?_)
    refine ev_if_eq 26 17 d_ML_operation_14 (by decide) rfl ?_ ?_
    · exact ev_wk (hJ26 g4) (ev_subN (ev_subN (ev_subN (ev_subN (ev_subN (ev_subN ev_sub0))))))
    · refine ev_iload3 18 d_ML_operation_17 rfl ?_
      refine ev_bipush 20 d_ML_operation_18 (by decide) rfl ?_
      refine ev_cs2I (kk := 0) 23 d_ML_operation_20 cs_ML_40 (by decide) (by decide) rfl rfl ev_sm0 (by decide) rfl (t_ML_isBelow _ _ g4) (fun z7 g6 => ?_)
      refine ev_if_ne 28 26 d_ML_operation_23 (by decide) rfl ?_ ?_
      · refine ev_iload5 30 d_ML_operation_28 rfl ?_
        refine ev_bipush 32 d_ML_operation_30 (by decide) rfl ?_
        refine ev_cs2I (kk := 0) 35 d_ML_operation_32 cs_ML_40 (by decide) (by decide) rfl rfl ev_sm0 (by decide) rfl (t_ML_isBelow _ _ g6) (fun z9 g8 => ?_)
        refine ev_if_ne 40 38 d_ML_operation_35 (by decide) rfl ?_ ?_
        · refine ev_aload0 41 d_ML_operation_40 rfl ?_
          refine ev_gR 44 d_ML_operation_41 fl_ML_33 rfl rfl (fun q10 => ?_)
          refine ev_iload1 45 d_ML_operation_44 rfl ?_
          refine ev_aaload (t := 54) 46 d_ML_operation_45 (by decide) ⟨_, rfl⟩ rfl (fun q11 => ?_)
          refine ev_gR 49 d_ML_operation_46 fl_ML_44 rfl rfl (fun q12 => ?_)
          refine ev_iload2 50 d_ML_operation_49 rfl ?_
          refine ev_iload3 51 d_ML_operation_50 rfl ?_
          refine ev_iload4 53 d_ML_operation_51 rfl ?_
          refine ev_iload5 55 d_ML_operation_53 rfl ?_
          refine ev_cv4I (kk := 0) 58 d_ML_operation_55 cv_ML_48 (by decide) (by decide) rfl rfl rfl rfl ev_sm0 (by decide) rfl (t_Co_append _ _ _ _ _ g8) (fun z14 g13 => ?_)
          exact ev_ireturn d_ML_operation_58 rfl
        · refine ev_iconst 39 d_ML_operation_38 rfl ?_
          exact ev_ireturn d_ML_operation_39 rfl
      · exact ev_wk (hJ26 g6) (ev_subN (ev_subN (ev_subN (ev_subN (ev_subN (ev_subN ev_sub0))))))
theorem t_Mo_isNode {E : ev_E} (x0 : Int) (h : ev_hs) : EvO E M_Mo_isNode 1 cvI 0 [some (eI x0)] [] h (f_Mo_isNode x0 h) := by
  unfold f_Mo_isNode
  refine ev_jn (fun J => ∀ (u1_s0 : Int) (u1_h : ev_hs), EvO E M_Mo_isNode 1 cvI 15 [none] [eI u1_s0] u1_h (J u1_s0 u1_h)) ?_ (fun J15 hJ15 => ?_)
  · intro u1_s0 u1_h
    exact ev_zreturn d_Mo_isNode_15 rfl
  refine ev_jn (fun J => ∀ (u2_h : ev_hs), EvO E M_Mo_isNode 1 cvI 14 [none] [] u2_h (J u2_h)) ?_ (fun J14 hJ14 => ?_)
  · intro u2_h
    refine ev_iconst 15 d_Mo_isNode_14 rfl ?_
    exact ev_wk (hJ15 _ u2_h) (ev_subN ev_sub0)
  refine ev_iload0 1 d_Mo_isNode_0 rfl ?_
  refine ev_if_lt 14 4 d_Mo_isNode_1 (by decide) rfl ?_ ?_
  · exact ev_wk (hJ14 h) (ev_subN ev_sub0)
  · refine ev_iload0 5 d_Mo_isNode_4 rfl ?_
    refine ev_bipush 7 d_Mo_isNode_5 (by decide) rfl ?_
    refine ev_icmp_ge 14 10 d_Mo_isNode_7 (by decide) rfl ?_ ?_
    · exact ev_wk (hJ14 h) (ev_subN ev_sub0)
    · refine ev_iconst 11 d_Mo_isNode_10 rfl ?_
      refine ev_goto 15 d_Mo_isNode_11 (by decide) ?_
      exact ev_wk (hJ15 _ h) (ev_subN ev_sub0)
theorem t_Mo_isLine {E : ev_E} (x0 : Int) (h : ev_hs) : EvO E M_Mo_isLine 1 cvI 0 [some (eI x0)] [] h (f_Mo_isLine x0 h) := by
  unfold f_Mo_isLine
  refine ev_jn (fun J => ∀ (u1_s0 : Int) (u1_h : ev_hs), EvO E M_Mo_isLine 1 cvI 15 [none] [eI u1_s0] u1_h (J u1_s0 u1_h)) ?_ (fun J15 hJ15 => ?_)
  · intro u1_s0 u1_h
    exact ev_zreturn d_Mo_isLine_15 rfl
  refine ev_jn (fun J => ∀ (u2_h : ev_hs), EvO E M_Mo_isLine 1 cvI 14 [none] [] u2_h (J u2_h)) ?_ (fun J14 hJ14 => ?_)
  · intro u2_h
    refine ev_iconst 15 d_Mo_isLine_14 rfl ?_
    exact ev_wk (hJ15 _ u2_h) (ev_subN ev_sub0)
  refine ev_iload0 1 d_Mo_isLine_0 rfl ?_
  refine ev_if_lt 14 4 d_Mo_isLine_1 (by decide) rfl ?_ ?_
  · exact ev_wk (hJ14 h) (ev_subN ev_sub0)
  · refine ev_iload0 5 d_Mo_isLine_4 rfl ?_
    refine ev_bipush 7 d_Mo_isLine_5 (by decide) rfl ?_
    refine ev_icmp_ge 14 10 d_Mo_isLine_7 (by decide) rfl ?_ ?_
    · exact ev_wk (hJ14 h) (ev_subN ev_sub0)
    · refine ev_iconst 11 d_Mo_isLine_10 rfl ?_
      refine ev_goto 15 d_Mo_isLine_11 (by decide) ?_
      exact ev_wk (hJ15 _ h) (ev_subN ev_sub0)
theorem t_Mo_operation {E : ev_E} (x0 : Option Nat) (x1 : Int) (x2 : Int) (x3 : Int) (x4 : Int) (x5 : Int) (h : ev_hs) : EvO E M_Mo_operation 2 cvI 0 [some (va_rf x0), some (eI x1), some (eI x2), some (eI x3), some (eI x4), some (eI x5), none] [] h (f_Mo_operation x0 x1 x2 x3 x4 x5 h) := by
  unfold f_Mo_operation
  refine ev_jn (fun J => ∀ (u1_h : ev_hs), EvO E M_Mo_operation 2 cvI 46 [none, none, none, none, none, none, none] [] u1_h (J u1_h)) ?_ (fun J46 hJ46 => ?_)
  · intro u1_h
    refine ev_iconst 47 d_Mo_operation_46 rfl ?_
    exact ev_ireturn d_Mo_operation_47 rfl
  refine ev_iload1 1 d_Mo_operation_0 rfl ?_
  refine ev_cs1I (kk := 0) 4 d_Mo_operation_1 cs_Mo_227 (by decide) (by decide) rfl ev_sm0 (by decide) rfl (t_Mo_isNode _ h) (fun z3 g2 => ?_)
  refine ev_if_eq 46 7 d_Mo_operation_4 (by decide) rfl ?_ ?_
  · exact ev_wk (hJ46 g2) (ev_subN (ev_subN (ev_subN (ev_subN (ev_subN (ev_subN (ev_subN ev_sub0)))))))
  · refine ev_iload2 8 d_Mo_operation_7 rfl ?_
    refine ev_if_lt 46 11 d_Mo_operation_8 (by decide) rfl ?_ ?_
    · exact ev_wk (hJ46 g2) (ev_subN (ev_subN (ev_subN (ev_subN (ev_subN (ev_subN (ev_subN ev_sub0)))))))
    · refine ev_iload2 12 d_Mo_operation_11 rfl ?_
      refine ev_iconst 13 d_Mo_operation_12 rfl ?_
      refine ev_icmp_gt 46 16 d_Mo_operation_13 (by decide) rfl ?_ ?_
      · exact ev_wk (hJ46 g2) (ev_subN (ev_subN (ev_subN (ev_subN (ev_subN (ev_subN (ev_subN ev_sub0)))))))
      · refine ev_iload3 17 d_Mo_operation_16 rfl ?_
        refine ev_cs1I (kk := 0) 20 d_Mo_operation_17 cs_Mo_230 (by decide) (by decide) rfl ev_sm0 (by decide) rfl (t_Mo_isLine _ g2) (fun z5 g4 => ?_)
        refine ev_if_eq 46 23 d_Mo_operation_20 (by decide) rfl ?_ ?_
        · exact ev_wk (hJ46 g4) (ev_subN (ev_subN (ev_subN (ev_subN (ev_subN (ev_subN (ev_subN ev_sub0)))))))
        · refine ev_iload5 25 d_Mo_operation_23 rfl ?_
          refine ev_if_lt 46 28 d_Mo_operation_25 (by decide) rfl ?_ ?_
          · exact ev_wk (hJ46 g4) (ev_subN (ev_subN (ev_subN (ev_subN (ev_subN (ev_subN (ev_subN ev_sub0)))))))
          · refine ev_iload5 30 d_Mo_operation_28 rfl ?_
            refine ev_bipush 32 d_Mo_operation_30 (by decide) rfl ?_
            refine ev_icmp_gt 46 35 d_Mo_operation_32 (by decide) rfl ?_ ?_
            · exact ev_wk (hJ46 g4) (ev_subN (ev_subN (ev_subN (ev_subN (ev_subN (ev_subN (ev_subN ev_sub0)))))))
            · refine ev_aload0 36 d_Mo_operation_35 rfl ?_
              refine ev_gR 39 d_Mo_operation_36 fl_Mo_107 rfl rfl (fun q6 => ?_)
              refine ev_iload1 40 d_Mo_operation_39 rfl ?_
              refine ev_iaload 41 d_Mo_operation_40 rfl (fun z7 => ?_)
              refine ev_bipush 43 d_Mo_operation_41 (by decide) rfl ?_
              refine ev_icmp_ne 48 46 d_Mo_operation_43 (by decide) rfl ?_ ?_
              · refine ev_bipush 50 d_Mo_operation_48 (by decide) rfl ?_
                refine ev_iload1 51 d_Mo_operation_50 rfl ?_
                refine ev_imul 52 d_Mo_operation_51 rfl ?_
                refine ev_aload0 53 d_Mo_operation_52 rfl ?_
                refine ev_gR 56 d_Mo_operation_53 fl_Mo_107 rfl rfl (fun q8 => ?_)
                refine ev_iload1 57 d_Mo_operation_56 rfl ?_
                refine ev_iaload 58 d_Mo_operation_57 rfl (fun z9 => ?_)
                refine ev_iadd 59 d_Mo_operation_58 rfl ?_
                refine ev_istore6 61 d_Mo_operation_59 (by decide) rfl ?_
                refine ev_aload0 62 d_Mo_operation_61 rfl ?_
                refine ev_gR 65 d_Mo_operation_62 fl_Mo_92 rfl rfl (fun q10 => ?_)
                refine ev_iload6 67 d_Mo_operation_65 rfl ?_
                refine ev_iload2 68 d_Mo_operation_67 rfl ?_
                refine ev_iastore 69 d_Mo_operation_68 rfl (fun g11 => ?_)
                refine ev_aload0 70 d_Mo_operation_69 rfl ?_
                refine ev_gR 73 d_Mo_operation_70 fl_Mo_95 rfl rfl (fun q12 => ?_)
                refine ev_iload6 75 d_Mo_operation_73 rfl ?_
                refine ev_iload3 76 d_Mo_operation_75 rfl ?_
                refine ev_iastore 77 d_Mo_operation_76 rfl (fun g13 => ?_)
                refine ev_aload0 78 d_Mo_operation_77 rfl ?_
                refine ev_gR 81 d_Mo_operation_78 fl_Mo_98 rfl rfl (fun q14 => ?_)
                refine ev_iload6 83 d_Mo_operation_81 rfl ?_
                refine ev_iload4 85 d_Mo_operation_83 rfl ?_
                refine ev_iastore 86 d_Mo_operation_85 rfl (fun g15 => ?_)
                refine ev_aload0 87 d_Mo_operation_86 rfl ?_
                refine ev_gR 90 d_Mo_operation_87 fl_Mo_101 rfl rfl (fun q16 => ?_)
                refine ev_iload6 92 d_Mo_operation_90 rfl ?_
                refine ev_iload5 94 d_Mo_operation_92 rfl ?_
                refine ev_iastore 95 d_Mo_operation_94 rfl (fun g17 => ?_)
                refine ev_aload0 96 d_Mo_operation_95 rfl ?_
                refine ev_gR 99 d_Mo_operation_96 fl_Mo_107 rfl rfl (fun q18 => ?_)
                refine ev_iload1 100 d_Mo_operation_99 rfl ?_
                refine ev_dup2 101 d_Mo_operation_100 rfl (va_rf_cat _) rfl ?_
                refine ev_iaload 102 d_Mo_operation_101 rfl (fun z19 => ?_)
                refine ev_iconst 103 d_Mo_operation_102 rfl ?_
                refine ev_iadd 104 d_Mo_operation_103 rfl ?_
                refine ev_iastore 105 d_Mo_operation_104 rfl (fun g20 => ?_)
                refine ev_aload0 106 d_Mo_operation_105 rfl ?_
                refine ev_gR 109 d_Mo_operation_106 fl_Mo_107 rfl rfl (fun q21 => ?_)
                refine ev_iload1 110 d_Mo_operation_109 rfl ?_
                refine ev_iaload 111 d_Mo_operation_110 rfl (fun z22 => ?_)
                refine ev_iconst 112 d_Mo_operation_111 rfl ?_
                refine ev_isub 113 d_Mo_operation_112 rfl ?_
                exact ev_ireturn d_Mo_operation_113 rfl
              · exact ev_wk (hJ46 g4) (ev_subN (ev_subN (ev_subN (ev_subN (ev_subN (ev_subN (ev_subN ev_sub0)))))))
theorem t_AL_isEmpty {E : ev_E} (x0 : Option Nat) (h : ev_hs) : EvO E M_AL_isEmpty 1 cvI 0 [some (va_rf x0)] [] h (f_AL_isEmpty x0 h) := by
  unfold f_AL_isEmpty
  refine ev_jn (fun J => ∀ (u1_s0 : Int) (u1_h : ev_hs), EvO E M_AL_isEmpty 1 cvI 12 [none] [eI u1_s0] u1_h (J u1_s0 u1_h)) ?_ (fun J12 hJ12 => ?_)
  · intro u1_s0 u1_h
    exact ev_zreturn d_AL_isEmpty_12 rfl
  refine ev_aload0 1 d_AL_isEmpty_0 rfl ?_
  refine ev_gI 4 d_AL_isEmpty_1 fl_AL_48 rfl rfl (fun z2 => ?_)
  refine ev_if_ne 11 7 d_AL_isEmpty_4 (by decide) rfl ?_ ?_
  · refine ev_iconst 12 d_AL_isEmpty_11 rfl ?_
    exact ev_wk (hJ12 _ h) (ev_subN ev_sub0)
  · refine ev_iconst 8 d_AL_isEmpty_7 rfl ?_
    refine ev_goto 12 d_AL_isEmpty_8 (by decide) ?_
    exact ev_wk (hJ12 _ h) (ev_subN ev_sub0)
theorem t_FB_hasRoom {E : ev_E} (x0 : Option Nat) (h : ev_hs) : EvO E M_FB_hasRoom 1 cvI 0 [some (va_rf x0)] [] h (f_FB_hasRoom x0 h) := by
  unfold f_FB_hasRoom
  refine ev_jn (fun J => ∀ (u1_s0 : Int) (u1_h : ev_hs), EvO E M_FB_hasRoom 1 cvI 17 [none] [eI u1_s0] u1_h (J u1_s0 u1_h)) ?_ (fun J17 hJ17 => ?_)
  · intro u1_s0 u1_h
    exact ev_zreturn d_FB_hasRoom_17 rfl
  refine ev_aload0 1 d_FB_hasRoom_0 rfl ?_
  refine ev_gI 4 d_FB_hasRoom_1 fl_FB_15 rfl rfl (fun z2 => ?_)
  refine ev_aload0 5 d_FB_hasRoom_4 rfl ?_
  refine ev_gR 8 d_FB_hasRoom_5 fl_FB_9 rfl rfl (fun q3 => ?_)
  refine ev_alen (t := 57) 9 d_FB_hasRoom_8 (by decide) rfl (fun z4 => ?_)
  refine ev_icmp_ge 16 12 d_FB_hasRoom_9 (by decide) rfl ?_ ?_
  · refine ev_iconst 17 d_FB_hasRoom_16 rfl ?_
    exact ev_wk (hJ17 _ h) (ev_subN ev_sub0)
  · refine ev_iconst 13 d_FB_hasRoom_12 rfl ?_
    refine ev_goto 17 d_FB_hasRoom_13 (by decide) ?_
    exact ev_wk (hJ17 _ h) (ev_subN ev_sub0)
theorem t_Pr_checkIndex {E : ev_E} (x0 : Int) (x1 : Int) (x2 : Option Nat) (h : ev_hs) : EvO E M_Pr_checkIndex 1 cvI 0 [some (eI x0), some (eI x1), some (va_rf x2)] [] h (f_Pr_checkIndex x0 x1 x2 h) := by
  unfold f_Pr_checkIndex
  refine ev_jn (fun J => ∀ (u1_0 : Int) (u1_1 : Int) (u1_2 : Option Nat) (u1_h : ev_hs), EvO E M_Pr_checkIndex 1 cvI 9 [some (eI u1_0), some (eI u1_1), some (va_rf u1_2)] [] u1_h (J u1_0 u1_1 u1_2 u1_h)) ?_ (fun J9 hJ9 => ?_)
  · intro u1_0 u1_1 u1_2 u1_h
    refine ev_aload2 10 d_Pr_checkIndex_9 rfl ?_
    refine ev_iload0 11 d_Pr_checkIndex_10 rfl ?_
    refine ev_iload1 12 d_Pr_checkIndex_11 rfl ?_
    exact ev_no
  refine ev_iload0 1 d_Pr_checkIndex_0 rfl ?_
  refine ev_if_lt 9 4 d_Pr_checkIndex_1 (by decide) rfl ?_ ?_
  · exact ev_wk (hJ9 _ _ _ h) (ev_subS (ev_subS (ev_subS ev_sub0)))
  · refine ev_iload0 5 d_Pr_checkIndex_4 rfl ?_
    refine ev_iload1 6 d_Pr_checkIndex_5 rfl ?_
    refine ev_icmp_lt 16 9 d_Pr_checkIndex_6 (by decide) rfl ?_ ?_
    · refine ev_iload0 17 d_Pr_checkIndex_16 rfl ?_
      exact ev_ireturn d_Pr_checkIndex_17 rfl
    · exact ev_wk (hJ9 _ _ _ h) (ev_subS (ev_subS (ev_subS ev_sub0)))
theorem t_Os_checkIndex {E : ev_E} (x0 : Int) (x1 : Int) (h : ev_hs) : EvO E M_Os_checkIndex 2 cvI 0 [some (eI x0), some (eI x1)] [] h (f_Os_checkIndex x0 x1 h) := by
  unfold f_Os_checkIndex
  refine ev_iload0 1 d_Os_checkIndex_0 rfl ?_
  refine ev_iload1 2 d_Os_checkIndex_1 rfl ?_
  refine ev_null 3 d_Os_checkIndex_2 rfl ?_
  refine ev_cs3I (kk := 0) 6 d_Os_checkIndex_3 cs_Os_105 (by decide) (by decide) rfl rfl (va_rf_cat _) ev_sm0 (by decide) rfl (t_Pr_checkIndex _ _ _ h) (fun z2 g1 => ?_)
  exact ev_ireturn d_Os_checkIndex_6 rfl
theorem t_AL_elementData {E : ev_E} (x0 : Option Nat) (x1 : Int) (h : ev_hs) : EvO E M_AL_elementData 1 cvR 0 [some (va_rf x0), some (eI x1)] [] h (f_AL_elementData x0 x1 h) := by
  unfold f_AL_elementData
  refine ev_aload0 1 d_AL_elementData_0 rfl ?_
  refine ev_gR 4 d_AL_elementData_1 fl_AL_9 rfl rfl (fun q1 => ?_)
  refine ev_iload1 5 d_AL_elementData_4 rfl ?_
  refine ev_aaload (t := 52) 6 d_AL_elementData_5 (by decide) ⟨_, rfl⟩ rfl (fun q2 => ?_)
  exact ev_areturn d_AL_elementData_6 rfl (Or.inl ⟨_, rfl⟩)
theorem t_AL_get {E : ev_E} (x0 : Option Nat) (x1 : Int) (h : ev_hs) : EvO E M_AL_get 3 cvR 0 [some (va_rf x0), some (eI x1)] [] h (f_AL_get x0 x1 h) := by
  unfold f_AL_get
  refine ev_iload1 1 d_AL_get_0 rfl ?_
  refine ev_aload0 2 d_AL_get_1 rfl ?_
  refine ev_gI 5 d_AL_get_2 fl_AL_48 rfl rfl (fun z1 => ?_)
  refine ev_cs2I (kk := 0) 8 d_AL_get_5 cs_AL_118 (by decide) (by decide) rfl rfl ev_sm0 (by decide) rfl (t_Os_checkIndex _ _ h) (fun z3 g2 => ?_)
  refine ev_pop 9 d_AL_get_8 rfl rfl ?_
  refine ev_aload0 10 d_AL_get_9 rfl ?_
  refine ev_iload1 11 d_AL_get_10 rfl ?_
  refine ev_cv1R (kk := 0) 14 d_AL_get_11 cv_AL_123 (by decide) (by decide) rfl ev_sm0 (by decide) rfl (t_AL_elementData _ _ g2) (fun q5 g4 => ?_)
  exact ev_areturn d_AL_get_14 rfl (Or.inl ⟨_, rfl⟩)
theorem t_Fl_init {E : ev_E} (x0 : Option Nat) (x1 : Option Nat) (x2 : Int) (h : ev_hs) : EvO E M_Fl_init 2 cvV 0 [some (va_rf x0), some (va_rf x1), some (eI x2)] [] h (f_Fl_init x0 x1 x2 h) := by
  unfold f_Fl_init
  refine ev_jn (fun J => ∀ (u1_0 : Option Nat) (u1_1 : Option Nat) (u1_2 : Int) (u1_s0 : Option Nat) (u1_s1 : Int) (u1_h : ev_hs), EvO E M_Fl_init 2 cvV 19 [some (va_rf u1_0), some (va_rf u1_1), some (eI u1_2)] [eI u1_s1, va_rf u1_s0] u1_h (J u1_0 u1_1 u1_2 u1_s0 u1_s1 u1_h)) ?_ (fun J19 hJ19 => ?_)
  · intro u1_0 u1_1 u1_2 u1_s0 u1_s1 u1_h
    refine ev_jn (fun J => ∀ (u2_s0 : Option Nat) (u2_s1 : Int) (u2_h : ev_hs), EvO E M_Fl_init 2 cvV 38 [none, none, none] [eI u2_s1, va_rf u2_s0] u2_h (J u2_s0 u2_s1 u2_h)) ?_ (fun J38 hJ38 => ?_)
    · intro u2_s0 u2_s1 u2_h
      refine ev_pZ 41 d_Fl_init_38 fw_Fl_i_23 rfl rfl (fun g3 => ?_)
      exact ev_return d_Fl_init_41 rfl
    refine ev_pZ 22 d_Fl_init_19 fw_Fl_i_13 rfl rfl (fun g4 => ?_)
    refine ev_aload0 23 d_Fl_init_22 rfl ?_
    refine ev_iload2 24 d_Fl_init_23 rfl ?_
    refine ev_aload1 25 d_Fl_init_24 rfl ?_
    refine ev_gI 28 d_Fl_init_25 fl_Fl_17 rfl rfl (fun z5 => ?_)
    refine ev_iconst 29 d_Fl_init_28 rfl ?_
    refine ev_isub 30 d_Fl_init_29 rfl ?_
    refine ev_icmp_ne 37 33 d_Fl_init_30 (by decide) rfl ?_ ?_
    · refine ev_iconst 38 d_Fl_init_37 rfl ?_
      exact ev_wk (hJ38 _ _ g4) (ev_subN (ev_subN (ev_subN ev_sub0)))
    · refine ev_iconst 34 d_Fl_init_33 rfl ?_
      refine ev_goto 38 d_Fl_init_34 (by decide) ?_
      exact ev_wk (hJ38 _ _ g4) (ev_subN (ev_subN (ev_subN ev_sub0)))
  refine ev_aload0 1 d_Fl_init_0 rfl ?_
  refine ev_objInit 4 d_Fl_init_1 w_338 w_28 w_29 (by decide) ev_sm0 (by decide) rfl ?_
  refine ev_aload0 5 d_Fl_init_4 rfl ?_
  refine ev_aload1 6 d_Fl_init_5 rfl ?_
  refine ev_pR 9 d_Fl_init_6 fw_Fl_i_7 rfl rfl (fun g6 => ?_)
  refine ev_aload0 10 d_Fl_init_9 rfl ?_
  refine ev_iload2 11 d_Fl_init_10 rfl ?_
  refine ev_if_ne 18 14 d_Fl_init_11 (by decide) rfl ?_ ?_
  · refine ev_iconst 19 d_Fl_init_18 rfl ?_
    exact ev_wk (hJ19 _ _ _ _ _ g6) (ev_subS (ev_subS (ev_subS ev_sub0)))
  · refine ev_iconst 15 d_Fl_init_14 rfl ?_
    refine ev_goto 19 d_Fl_init_15 (by decide) ?_
    exact ev_wk (hJ19 _ _ _ _ _ g6) (ev_subS (ev_subS (ev_subS ev_sub0)))
theorem t_FB_put {E : ev_E} (x0 : Option Nat) (x1 : Option Nat) (x2 : Int) (h : ev_hs) : EvO E M_FB_put 2 cvV 0 [some (va_rf x0), some (va_rf x1), some (eI x2)] [] h (f_FB_put x0 x1 x2 h) := by
  unfold f_FB_put
  refine ev_aload0 1 d_FB_put_0 rfl ?_
  refine ev_cv0I (kk := 0) 4 d_FB_put_1 cv_FB_19 (by decide) (by decide)  ev_sm0 (by decide) rfl (t_FB_hasRoom _ h) (fun z2 g1 => ?_)
  refine ev_if_eq 32 7 d_FB_put_4 (by decide) rfl ?_ ?_
  · exact ev_return d_FB_put_32 rfl
  · refine ev_aload1 8 d_FB_put_7 rfl ?_
    refine ev_iload2 9 d_FB_put_8 rfl ?_
    refine ev_pI 12 d_FB_put_9 fw_FB_put_23 rfl rfl (fun g3 => ?_)
    refine ev_aload0 13 d_FB_put_12 rfl ?_
    refine ev_gR 16 d_FB_put_13 fl_FB_9 rfl rfl (fun q4 => ?_)
    refine ev_aload0 17 d_FB_put_16 rfl ?_
    refine ev_gI 20 d_FB_put_17 fl_FB_15 rfl rfl (fun z5 => ?_)
    refine ev_aload1 21 d_FB_put_20 rfl ?_
    refine ev_aastore (t := 57) 22 d_FB_put_21 (by decide) ao_57 rfl (fun g6 => ?_)
    refine ev_aload0 23 d_FB_put_22 rfl ?_
    refine ev_dup 24 d_FB_put_23 (va_rf_cat _) rfl ?_
    refine ev_gI 27 d_FB_put_24 fl_FB_15 rfl rfl (fun z7 => ?_)
    refine ev_iconst 28 d_FB_put_27 rfl ?_
    refine ev_iadd 29 d_FB_put_28 rfl ?_
    refine ev_pI 32 d_FB_put_29 fw_FB_put_15 rfl rfl (fun g8 => ?_)
    exact ev_return d_FB_put_32 rfl
theorem t_AL_fastRemove {E : ev_E} (x0 : Option Nat) (x1 : Option Nat) (x2 : Int) (h : ev_hs) : EvO E M_AL_fastRemove 2 cvV 0 [some (va_rf x0), some (va_rf x1), some (eI x2), none] [] h (f_AL_fastRemove x0 x1 x2 h) := by
  unfold f_AL_fastRemove
  refine ev_jn (fun J => ∀ (u1_0 : Option Nat) (u1_1 : Option Nat) (u1_3 : Int) (u1_h : ev_hs), EvO E M_AL_fastRemove 2 cvV 34 [some (va_rf u1_0), some (va_rf u1_1), none, some (eI u1_3)] [] u1_h (J u1_0 u1_1 u1_3 u1_h)) ?_ (fun J34 hJ34 => ?_)
  · intro u1_0 u1_1 u1_3 u1_h
    refine ev_aload1 35 d_AL_fastRemove_34 rfl ?_
    refine ev_aload0 36 d_AL_fastRemove_35 rfl ?_
    refine ev_iload3 37 d_AL_fastRemove_36 rfl ?_
    refine ev_dup_x1 38 d_AL_fastRemove_37 rfl (va_rf_cat _) rfl ?_
    refine ev_pI 41 d_AL_fastRemove_38 fw_AL_fastRemove_48 rfl rfl (fun g2 => ?_)
    refine ev_null 42 d_AL_fastRemove_41 rfl ?_
    refine ev_aastore (t := 52) 43 d_AL_fastRemove_42 (by decide) ao_52 rfl (fun g3 => ?_)
    exact ev_return d_AL_fastRemove_43 rfl
  refine ev_aload0 1 d_AL_fastRemove_0 rfl ?_
  refine ev_dup 2 d_AL_fastRemove_1 (va_rf_cat _) rfl ?_
  refine ev_gI 5 d_AL_fastRemove_2 fl_AL_63 rfl rfl (fun z4 => ?_)
  refine ev_iconst 6 d_AL_fastRemove_5 rfl ?_
  refine ev_iadd 7 d_AL_fastRemove_6 rfl ?_
  refine ev_pI 10 d_AL_fastRemove_7 fw_AL_fastRemove_63 rfl rfl (fun g5 => ?_)
  refine ev_aload0 11 d_AL_fastRemove_10 rfl ?_
  refine ev_gI 14 d_AL_fastRemove_11 fl_AL_48 rfl rfl (fun z6 => ?_)
  refine ev_iconst 15 d_AL_fastRemove_14 rfl ?_
  refine ev_isub 16 d_AL_fastRemove_15 rfl ?_
  refine ev_dup 17 d_AL_fastRemove_16 rfl rfl ?_
  refine ev_istore3 18 d_AL_fastRemove_17 (by decide) rfl ?_
  refine ev_iload2 19 d_AL_fastRemove_18 rfl ?_
  refine ev_icmp_le 34 22 d_AL_fastRemove_19 (by decide) rfl ?_ ?_
  · exact ev_wk (hJ34 _ _ _ g5) (ev_subS (ev_subS (ev_subN (ev_subS ev_sub0))))
  · refine ev_aload1 23 d_AL_fastRemove_22 rfl ?_
    refine ev_iload2 24 d_AL_fastRemove_23 rfl ?_
    refine ev_iconst 25 d_AL_fastRemove_24 rfl ?_
    refine ev_iadd 26 d_AL_fastRemove_25 rfl ?_
    refine ev_aload1 27 d_AL_fastRemove_26 rfl ?_
    refine ev_iload2 28 d_AL_fastRemove_27 rfl ?_
    refine ev_iload3 29 d_AL_fastRemove_28 rfl ?_
    refine ev_iload2 30 d_AL_fastRemove_29 rfl ?_
    refine ev_isub 31 d_AL_fastRemove_30 rfl ?_
    refine ev_arraycopy 34 d_AL_fastRemove_31 w_371 w_373 w_372 w_17 ao_52 (by decide) ev_sm0 (by decide) rfl (fun g7 => ?_)
    exact ev_wk (hJ34 _ _ _ g7) (ev_subS (ev_subS (ev_subN (ev_subS ev_sub0))))
theorem t_AL_remove {E : ev_E} (x0 : Option Nat) (x1 : Int) (h : ev_hs) : EvO E M_AL_remove 3 cvR 0 [some (va_rf x0), some (eI x1), none, none] [] h (f_AL_remove x0 x1 h) := by
  unfold f_AL_remove
  refine ev_iload1 1 d_AL_remove_0 rfl ?_
  refine ev_aload0 2 d_AL_remove_1 rfl ?_
  refine ev_gI 5 d_AL_remove_2 fl_AL_48 rfl rfl (fun z1 => ?_)
  refine ev_cs2I (kk := 0) 8 d_AL_remove_5 cs_AL_118 (by decide) (by decide) rfl rfl ev_sm0 (by decide) rfl (t_Os_checkIndex _ _ h) (fun z3 g2 => ?_)
  refine ev_pop 9 d_AL_remove_8 rfl rfl ?_
  refine ev_aload0 10 d_AL_remove_9 rfl ?_
  refine ev_gR 13 d_AL_remove_10 fl_AL_9 rfl rfl (fun q4 => ?_)
  refine ev_astore2 14 d_AL_remove_13 (by decide) rfl ?_
  refine ev_aload2 15 d_AL_remove_14 rfl ?_
  refine ev_iload1 16 d_AL_remove_15 rfl ?_
  refine ev_aaload (t := 52) 17 d_AL_remove_16 (by decide) ⟨_, rfl⟩ rfl (fun q5 => ?_)
  refine ev_astore3 18 d_AL_remove_17 (by decide) rfl ?_
  refine ev_aload0 19 d_AL_remove_18 rfl ?_
  refine ev_aload2 20 d_AL_remove_19 rfl ?_
  refine ev_iload1 21 d_AL_remove_20 rfl ?_
  refine ev_cv2V (kk := 1) 24 d_AL_remove_21 cv_AL_144 (by decide) (by decide) (va_rf_cat _) rfl ev_sm0 (by decide) rfl (t_AL_fastRemove _ _ _ g2) (fun g6 => ?_)
  refine ev_aload3 25 d_AL_remove_24 rfl ?_
  exact ev_areturn d_AL_remove_25 rfl (Or.inl ⟨_, rfl⟩)
theorem t_La_enterFlit {E : ev_E} (x0 : Option Nat) (x1 : Int) (h : ev_hs) : EvO E M_La_enterFlit 4 cvV 0 [some (va_rf x0), some (eI x1), none] [] h (f_La_enterFlit x0 x1 h) := by
  unfold f_La_enterFlit
  refine ev_aload0 1 d_La_enterFlit_0 rfl ?_
  refine ev_gR 4 d_La_enterFlit_1 fl_La_12 rfl rfl (fun q1 => ?_)
  refine ev_cv0I (kk := 0) 7 d_La_enterFlit_4 cv_La_41 (by decide) (by decide)  ev_sm0 (by decide) rfl (t_AL_isEmpty _ h) (fun z3 g2 => ?_)
  refine ev_if_ne 22 10 d_La_enterFlit_7 (by decide) rfl ?_ ?_
  · exact ev_return d_La_enterFlit_22 rfl
  · refine ev_aload0 11 d_La_enterFlit_10 rfl ?_
    refine ev_gR 14 d_La_enterFlit_11 fl_La_23 rfl rfl (fun q4 => ?_)
    refine ev_iconst 15 d_La_enterFlit_14 rfl ?_
    refine ev_aaload (t := 56) 16 d_La_enterFlit_15 (by decide) ⟨_, rfl⟩ rfl (fun q5 => ?_)
    refine ev_cv0I (kk := 0) 19 d_La_enterFlit_16 cv_La_45 (by decide) (by decide)  ev_sm0 (by decide) rfl (t_FB_hasRoom _ g2) (fun z7 g6 => ?_)
    refine ev_if_ne 23 22 d_La_enterFlit_19 (by decide) rfl ?_ ?_
    · refine ev_new 26 d_La_enterFlit_23 ck_9 w_318 w_319 w_14 rfl (fun q8 g9 => ?_)
      refine ev_dup 27 d_La_enterFlit_26 (va_rf_cat _) rfl ?_
      refine ev_aload0 28 d_La_enterFlit_27 rfl ?_
      refine ev_gR 31 d_La_enterFlit_28 fl_La_12 rfl rfl (fun q10 => ?_)
      refine ev_iconst 32 d_La_enterFlit_31 rfl ?_
      refine ev_cv1R (kk := 0) 35 d_La_enterFlit_32 cv_La_50 (by decide) (by decide) rfl (ev_smc (va_rf_cat _) (ev_smc (va_rf_cat _) ev_sm0)) (by decide) rfl (t_AL_get _ _ g9) (fun q12 g11 => ?_)
      refine ev_checkcastO 38 d_La_enterFlit_35 (ck_10).1 w_334 rfl ?_
      refine ev_aload0 39 d_La_enterFlit_38 rfl ?_
      refine ev_gI 42 d_La_enterFlit_39 fl_La_56 rfl rfl (fun z13 => ?_)
      refine ev_ci2V (kk := 0) 45 d_La_enterFlit_42 ci_La_59 (by decide) (by decide) (va_rf_cat _) rfl (ev_smc (va_rf_cat _) ev_sm0) (by decide) rfl (t_Fl_init _ _ _ g11) (fun g14 => ?_)
      refine ev_astore2 46 d_La_enterFlit_45 (by decide) rfl ?_
      refine ev_aload0 47 d_La_enterFlit_46 rfl ?_
      refine ev_gR 50 d_La_enterFlit_47 fl_La_23 rfl rfl (fun q15 => ?_)
      refine ev_iconst 51 d_La_enterFlit_50 rfl ?_
      refine ev_aaload (t := 56) 52 d_La_enterFlit_51 (by decide) ⟨_, rfl⟩ rfl (fun q16 => ?_)
      refine ev_aload2 53 d_La_enterFlit_52 rfl ?_
      refine ev_iload1 54 d_La_enterFlit_53 rfl ?_
      refine ev_cv2V (kk := 0) 57 d_La_enterFlit_54 cv_La_62 (by decide) (by decide) (va_rf_cat _) rfl ev_sm0 (by decide) rfl (t_FB_put _ _ _ g14) (fun g17 => ?_)
      refine ev_aload0 58 d_La_enterFlit_57 rfl ?_
      refine ev_dup 59 d_La_enterFlit_58 (va_rf_cat _) rfl ?_
      refine ev_gI 62 d_La_enterFlit_59 fl_La_56 rfl rfl (fun z18 => ?_)
      refine ev_iconst 63 d_La_enterFlit_62 rfl ?_
      refine ev_iadd 64 d_La_enterFlit_63 rfl ?_
      refine ev_pI 67 d_La_enterFlit_64 fw_La_enterFlit_56 rfl rfl (fun g19 => ?_)
      refine ev_aload2 68 d_La_enterFlit_67 rfl ?_
      refine ev_gI 71 d_La_enterFlit_68 fl_La_66 rfl rfl (fun z20 => ?_)
      refine ev_if_eq 88 74 d_La_enterFlit_71 (by decide) rfl ?_ ?_
      · exact ev_return d_La_enterFlit_88 rfl
      · refine ev_aload0 75 d_La_enterFlit_74 rfl ?_
        refine ev_gR 78 d_La_enterFlit_75 fl_La_12 rfl rfl (fun q21 => ?_)
        refine ev_iconst 79 d_La_enterFlit_78 rfl ?_
        refine ev_cv1R (kk := 2) 82 d_La_enterFlit_79 cv_La_70 (by decide) (by decide) rfl ev_sm0 (by decide) rfl (t_AL_remove _ _ g19) (fun q23 g22 => ?_)
        refine ev_pop 83 d_La_enterFlit_82 (va_rf_cat _) rfl ?_
        refine ev_aload0 84 d_La_enterFlit_83 rfl ?_
        refine ev_iconst 85 d_La_enterFlit_84 rfl ?_
        refine ev_pI 88 d_La_enterFlit_85 fw_La_enterFlit_56 rfl rfl (fun g24 => ?_)
        exact ev_return d_La_enterFlit_88 rfl
    · exact ev_return d_La_enterFlit_22 rfl
theorem t_Me_enterFlits_2 {E : ev_E} : ∀ (fu : Nat) (x0 : Option Nat) (x1 : Int) (x2 : Int) (h : ev_hs), EvO E M_Me_enterFlits 5 cvV 2 [some (va_rf x0), some (eI x1), some (eI x2)] [] h (f_Me_enterFlits_2 fu x0 x1 x2 h) := by
  intro fu
  induction fu with
  | zero => intros; exact ev_no
  | succ fu ih =>
    intro x0 x1 x2 h
    rw [f_Me_enterFlits_2]
    refine ev_iload2 3 d_Me_enterFlits_2 rfl ?_
    refine ev_aload0 4 d_Me_enterFlits_3 rfl ?_
    refine ev_gR 7 d_Me_enterFlits_4 fl_Me_11 rfl rfl (fun q1 => ?_)
    refine ev_alen (t := 55) 8 d_Me_enterFlits_7 (by decide) rfl (fun z2 => ?_)
    refine ev_icmp_ge 27 11 d_Me_enterFlits_8 (by decide) rfl ?_ ?_
    · exact ev_return d_Me_enterFlits_27 rfl
    · refine ev_aload0 12 d_Me_enterFlits_11 rfl ?_
      refine ev_gR 15 d_Me_enterFlits_12 fl_Me_11 rfl rfl (fun q3 => ?_)
      refine ev_iload2 16 d_Me_enterFlits_15 rfl ?_
      refine ev_aaload (t := 55) 17 d_Me_enterFlits_16 (by decide) ⟨_, rfl⟩ rfl (fun q4 => ?_)
      refine ev_iload1 18 d_Me_enterFlits_17 rfl ?_
      refine ev_cv1V (kk := 1) 21 d_Me_enterFlits_18 cv_Me_50 (by decide) (by decide) rfl ev_sm0 (by decide) rfl (t_La_enterFlit _ _ h) (fun g5 => ?_)
      refine ev_iinc2 24 d_Me_enterFlits_21 (by decide) rfl ?_
      refine ev_goto 2 d_Me_enterFlits_24 (by decide) ?_
      exact ev_wk (ih _ _ _ g5) (ev_subS (ev_subS (ev_subS ev_sub0)))
theorem t_Me_enterFlits {E : ev_E} (x0 : Option Nat) (x1 : Int) (h : ev_hs) : EvO E M_Me_enterFlits 5 cvV 0 [some (va_rf x0), some (eI x1), none] [] h (f_Me_enterFlits x0 x1 h) := by
  unfold f_Me_enterFlits
  refine ev_iconst 1 d_Me_enterFlits_0 rfl ?_
  refine ev_istore2 2 d_Me_enterFlits_1 (by decide) rfl ?_
  refine ev_wk (t_Me_enterFlits_2 FU _ _ _ h) (ev_subS (ev_subS (ev_subS ev_sub0)))
theorem t_Me_laneOf {E : ev_E} (x0 : Option Nat) (x1 : Int) (x2 : Int) (h : ev_hs) : EvO E M_Me_laneOf 1 cvR 0 [some (va_rf x0), some (eI x1), some (eI x2)] [] h (f_Me_laneOf x0 x1 x2 h) := by
  unfold f_Me_laneOf
  refine ev_aload0 1 d_Me_laneOf_0 rfl ?_
  refine ev_gR 4 d_Me_laneOf_1 fl_Me_11 rfl rfl (fun q1 => ?_)
  refine ev_iload1 5 d_Me_laneOf_4 rfl ?_
  refine ev_iconst 6 d_Me_laneOf_5 rfl ?_
  refine ev_imul 7 d_Me_laneOf_6 rfl ?_
  refine ev_iload2 8 d_Me_laneOf_7 rfl ?_
  refine ev_iadd 9 d_Me_laneOf_8 rfl ?_
  refine ev_aaload (t := 55) 10 d_Me_laneOf_9 (by decide) ⟨_, rfl⟩ rfl (fun q2 => ?_)
  exact ev_areturn d_Me_laneOf_10 rfl (Or.inl ⟨_, rfl⟩)
theorem t_FB_front {E : ev_E} (x0 : Option Nat) (h : ev_hs) : EvO E M_FB_front 1 cvR 0 [some (va_rf x0)] [] h (f_FB_front x0 h) := by
  unfold f_FB_front
  refine ev_jn (fun J => ∀ (u1_s0 : Option Nat) (u1_h : ev_hs), EvO E M_FB_front 1 cvR 17 [none] [va_rf u1_s0] u1_h (J u1_s0 u1_h)) ?_ (fun J17 hJ17 => ?_)
  · intro u1_s0 u1_h
    exact ev_areturn d_FB_front_17 rfl (Or.inl ⟨_, rfl⟩)
  refine ev_aload0 1 d_FB_front_0 rfl ?_
  refine ev_gI 4 d_FB_front_1 fl_FB_15 rfl rfl (fun z2 => ?_)
  refine ev_if_ne 11 7 d_FB_front_4 (by decide) rfl ?_ ?_
  · refine ev_aload0 12 d_FB_front_11 rfl ?_
    refine ev_gR 15 d_FB_front_12 fl_FB_9 rfl rfl (fun q3 => ?_)
    refine ev_iconst 16 d_FB_front_15 rfl ?_
    refine ev_aaload (t := 57) 17 d_FB_front_16 (by decide) ⟨_, rfl⟩ rfl (fun q4 => ?_)
    exact ev_wk (hJ17 _ h) (ev_subN ev_sub0)
  · refine ev_null 8 d_FB_front_7 rfl ?_
    refine ev_goto 17 d_FB_front_8 (by decide) ?_
    exact ev_wk (hJ17 _ h) (ev_subN ev_sub0)
theorem t_La_wayTo {E : ev_E} (x0 : Option Nat) (x1 : Int) (h : ev_hs) : EvO E M_La_wayTo 1 cvI 0 [some (va_rf x0), some (eI x1), none, none] [] h (f_La_wayTo x0 x1 h) := by
  unfold f_La_wayTo
  refine ev_iload1 1 d_La_wayTo_0 rfl ?_
  refine ev_iconst 2 d_La_wayTo_1 rfl ?_
  refine ev_irem 3 d_La_wayTo_2 rfl (fun z1 => ?_)
  refine ev_aload0 4 d_La_wayTo_3 rfl ?_
  refine ev_gI 7 d_La_wayTo_4 fl_La_34 rfl rfl (fun z2 => ?_)
  refine ev_iconst 8 d_La_wayTo_7 rfl ?_
  refine ev_irem 9 d_La_wayTo_8 rfl (fun z3 => ?_)
  refine ev_isub 10 d_La_wayTo_9 rfl ?_
  refine ev_istore2 11 d_La_wayTo_10 (by decide) rfl ?_
  refine ev_iload2 12 d_La_wayTo_11 rfl ?_
  refine ev_if_eq 25 15 d_La_wayTo_12 (by decide) rfl ?_ ?_
  · refine ev_iload1 26 d_La_wayTo_25 rfl ?_
    refine ev_iconst 27 d_La_wayTo_26 rfl ?_
    refine ev_idiv 28 d_La_wayTo_27 rfl (fun z4 => ?_)
    refine ev_aload0 29 d_La_wayTo_28 rfl ?_
    refine ev_gI 32 d_La_wayTo_29 fl_La_34 rfl rfl (fun z5 => ?_)
    refine ev_iconst 33 d_La_wayTo_32 rfl ?_
    refine ev_idiv 34 d_La_wayTo_33 rfl (fun z6 => ?_)
    refine ev_isub 35 d_La_wayTo_34 rfl ?_
    refine ev_istore3 36 d_La_wayTo_35 (by decide) rfl ?_
    refine ev_iload3 37 d_La_wayTo_36 rfl ?_
    refine ev_if_eq 50 40 d_La_wayTo_37 (by decide) rfl ?_ ?_
    · refine ev_iconst 51 d_La_wayTo_50 rfl ?_
      exact ev_ireturn d_La_wayTo_51 rfl
    · refine ev_jn (fun J => ∀ (u7_s0 : Int) (u7_h : ev_hs), EvO E M_La_wayTo 1 cvI 49 [none, none, none, none] [eI u7_s0] u7_h (J u7_s0 u7_h)) ?_ (fun J49 hJ49 => ?_)
      · intro u7_s0 u7_h
        exact ev_ireturn d_La_wayTo_49 rfl
      refine ev_iload3 41 d_La_wayTo_40 rfl ?_
      refine ev_if_le 48 44 d_La_wayTo_41 (by decide) rfl ?_ ?_
      · refine ev_iconst 49 d_La_wayTo_48 rfl ?_
        exact ev_wk (hJ49 _ h) (ev_subN (ev_subN (ev_subN (ev_subN ev_sub0))))
      · refine ev_iconst 45 d_La_wayTo_44 rfl ?_
        refine ev_goto 49 d_La_wayTo_45 (by decide) ?_
        exact ev_wk (hJ49 _ h) (ev_subN (ev_subN (ev_subN (ev_subN ev_sub0))))
  · refine ev_jn (fun J => ∀ (u8_s0 : Int) (u8_h : ev_hs), EvO E M_La_wayTo 1 cvI 24 [none, none, none, none] [eI u8_s0] u8_h (J u8_s0 u8_h)) ?_ (fun J24 hJ24 => ?_)
    · intro u8_s0 u8_h
      exact ev_ireturn d_La_wayTo_24 rfl
    refine ev_iload2 16 d_La_wayTo_15 rfl ?_
    refine ev_if_le 23 19 d_La_wayTo_16 (by decide) rfl ?_ ?_
    · refine ev_iconst 24 d_La_wayTo_23 rfl ?_
      exact ev_wk (hJ24 _ h) (ev_subN (ev_subN (ev_subN (ev_subN ev_sub0))))
    · refine ev_iconst 20 d_La_wayTo_19 rfl ?_
      refine ev_goto 24 d_La_wayTo_20 (by decide) ?_
      exact ev_wk (hJ24 _ h) (ev_subN (ev_subN (ev_subN (ev_subN ev_sub0))))
theorem t_La_portFor_19 {E : ev_E} : ∀ (fu : Nat) (x0 : Option Nat) (x1 : Int) (x2 : Int) (h : ev_hs), EvO E M_La_portFor 2 cvI 19 [some (va_rf x0), some (eI x1), some (eI x2), none, none] [] h (f_La_portFor_19 fu x0 x1 x2 h) := by
  intro fu
  induction fu with
  | zero => intros; exact ev_no
  | succ fu ih =>
    intro x0 x1 x2 h
    rw [f_La_portFor_19]
    refine ev_iload2 20 d_La_portFor_19 rfl ?_
    refine ev_iconst 21 d_La_portFor_20 rfl ?_
    refine ev_icmp_gt 83 24 d_La_portFor_21 (by decide) rfl ?_ ?_
    · refine ev_iconst 84 d_La_portFor_83 rfl ?_
      exact ev_ireturn d_La_portFor_84 rfl
    · refine ev_jn (fun J => ∀ (u3_0 : Option Nat) (u3_1 : Int) (u3_2 : Int) (u3_h : ev_hs), EvO E M_La_portFor 2 cvI 77 [some (va_rf u3_0), some (eI u3_1), some (eI u3_2), none, none] [] u3_h (J u3_0 u3_1 u3_2 u3_h)) ?_ (fun J77 hJ77 => ?_)
      · intro u3_0 u3_1 u3_2 u3_h
        refine ev_iinc2 80 d_La_portFor_77 (by decide) rfl ?_
        refine ev_goto 19 d_La_portFor_80 (by decide) ?_
        exact ev_wk (ih _ _ _ u3_h) (ev_subS (ev_subS (ev_subS (ev_subN (ev_subN ev_sub0)))))
      refine ev_aload0 25 d_La_portFor_24 rfl ?_
      refine ev_gR 28 d_La_portFor_25 fl_La_31 rfl rfl (fun q4 => ?_)
      refine ev_iload1 29 d_La_portFor_28 rfl ?_
      refine ev_iaload 30 d_La_portFor_29 rfl (fun z5 => ?_)
      refine ev_iload2 31 d_La_portFor_30 rfl ?_
      refine ev_iadd 32 d_La_portFor_31 rfl ?_
      refine ev_iconst 33 d_La_portFor_32 rfl ?_
      refine ev_irem 34 d_La_portFor_33 rfl (fun z6 => ?_)
      refine ev_istore3 35 d_La_portFor_34 (by decide) rfl ?_
      refine ev_aload0 36 d_La_portFor_35 rfl ?_
      refine ev_gR 39 d_La_portFor_36 fl_La_23 rfl rfl (fun q7 => ?_)
      refine ev_iload3 40 d_La_portFor_39 rfl ?_
      refine ev_aaload (t := 56) 41 d_La_portFor_40 (by decide) ⟨_, rfl⟩ rfl (fun q8 => ?_)
      refine ev_cv0R (kk := 0) 44 d_La_portFor_41 cv_La_73 (by decide) (by decide)  ev_sm0 (by decide) rfl (t_FB_front _ h) (fun q10 g9 => ?_)
      refine ev_astore4 46 d_La_portFor_44 (by decide) rfl ?_
      refine ev_aload4 48 d_La_portFor_46 rfl ?_
      refine ev_ifnull 77 51 d_La_portFor_48 (by decide) rfl ?_ ?_
      · exact ev_wk (hJ77 _ _ _ g9) (ev_subS (ev_subS (ev_subS (ev_subN (ev_subN ev_sub0)))))
      · refine ev_aload4 53 d_La_portFor_51 rfl ?_
        refine ev_gI 56 d_La_portFor_53 fl_La_77 rfl rfl (fun z11 => ?_)
        refine ev_if_eq 77 59 d_La_portFor_56 (by decide) rfl ?_ ?_
        · exact ev_wk (hJ77 _ _ _ g9) (ev_subS (ev_subS (ev_subS (ev_subN (ev_subN ev_sub0)))))
        · refine ev_aload0 60 d_La_portFor_59 rfl ?_
          refine ev_aload4 62 d_La_portFor_60 rfl ?_
          refine ev_gR 65 d_La_portFor_62 fl_La_80 rfl rfl (fun q12 => ?_)
          refine ev_gI 68 d_La_portFor_65 fl_La_84 rfl rfl (fun z13 => ?_)
          refine ev_cv1I (kk := 2) 71 d_La_portFor_68 cv_La_87 (by decide) (by decide) rfl ev_sm0 (by decide) rfl (t_La_wayTo _ _ g9) (fun z15 g14 => ?_)
          refine ev_iload1 72 d_La_portFor_71 rfl ?_
          refine ev_icmp_ne 77 75 d_La_portFor_72 (by decide) rfl ?_ ?_
          · exact ev_wk (hJ77 _ _ _ g14) (ev_subS (ev_subS (ev_subS (ev_subN (ev_subN ev_sub0)))))
          · refine ev_iload3 76 d_La_portFor_75 rfl ?_
            exact ev_ireturn d_La_portFor_76 rfl
theorem t_La_portFor {E : ev_E} (x0 : Option Nat) (x1 : Int) (h : ev_hs) : EvO E M_La_portFor 2 cvI 0 [some (va_rf x0), some (eI x1), none, none, none] [] h (f_La_portFor x0 x1 h) := by
  unfold f_La_portFor
  refine ev_aload0 1 d_La_portFor_0 rfl ?_
  refine ev_gR 4 d_La_portFor_1 fl_La_27 rfl rfl (fun q1 => ?_)
  refine ev_iload1 5 d_La_portFor_4 rfl ?_
  refine ev_iaload 6 d_La_portFor_5 rfl (fun z2 => ?_)
  refine ev_iconst 7 d_La_portFor_6 rfl ?_
  refine ev_icmp_eq 17 10 d_La_portFor_7 (by decide) rfl ?_ ?_
  · refine ev_iconst 18 d_La_portFor_17 rfl ?_
    refine ev_istore2 19 d_La_portFor_18 (by decide) rfl ?_
    refine ev_wk (t_La_portFor_19 FU _ _ _ h) (ev_subS (ev_subS (ev_subS (ev_subN (ev_subN ev_sub0)))))
  · refine ev_aload0 11 d_La_portFor_10 rfl ?_
    refine ev_gR 14 d_La_portFor_11 fl_La_27 rfl rfl (fun q16 => ?_)
    refine ev_iload1 15 d_La_portFor_14 rfl ?_
    refine ev_iaload 16 d_La_portFor_15 rfl (fun z17 => ?_)
    exact ev_ireturn d_La_portFor_16 rfl
theorem t_As_hugeLength {E : ev_E} (x0 : Int) (x1 : Int) (h : ev_hs) : EvO E M_As_hugeLength 1 cvI 0 [some (eI x0), some (eI x1), none] [] h (f_As_hugeLength x0 x1 h) := by
  unfold f_As_hugeLength
  refine ev_iload0 1 d_As_hugeLength_0 rfl ?_
  refine ev_iload1 2 d_As_hugeLength_1 rfl ?_
  refine ev_iadd 3 d_As_hugeLength_2 rfl ?_
  refine ev_istore2 4 d_As_hugeLength_3 (by decide) rfl ?_
  refine ev_iload2 5 d_As_hugeLength_4 rfl ?_
  refine ev_if_ge 49 8 d_As_hugeLength_5 (by decide) rfl ?_ ?_
  · refine ev_iload2 50 d_As_hugeLength_49 rfl ?_
    refine ev_ldc (z := 2147483639) 52 d_As_hugeLength_50 w_427 rfl ?_
    refine ev_icmp_gt 58 55 d_As_hugeLength_52 (by decide) rfl ?_ ?_
    · refine ev_iload2 59 d_As_hugeLength_58 rfl ?_
      exact ev_ireturn d_As_hugeLength_59 rfl
    · refine ev_ldc (z := 2147483639) 57 d_As_hugeLength_55 w_427 rfl ?_
      exact ev_ireturn d_As_hugeLength_57 rfl
  · exact ev_no
theorem t_As_newLength {E : ev_E} (x0 : Int) (x1 : Int) (x2 : Int) (h : ev_hs) : EvO E M_As_newLength 2 cvI 0 [some (eI x0), some (eI x1), some (eI x2), none] [] h (f_As_newLength x0 x1 x2 h) := by
  unfold f_As_newLength
  refine ev_jn (fun J => ∀ (u1_0 : Int) (u1_1 : Int) (u1_h : ev_hs), EvO E M_As_newLength 2 cvI 21 [some (eI u1_0), some (eI u1_1), none, none] [] u1_h (J u1_0 u1_1 u1_h)) ?_ (fun J21 hJ21 => ?_)
  · intro u1_0 u1_1 u1_h
    refine ev_iload0 22 d_As_newLength_21 rfl ?_
    refine ev_iload1 23 d_As_newLength_22 rfl ?_
    refine ev_cs2I (kk := 1) 26 d_As_newLength_23 cs_As_201 (by decide) (by decide) rfl rfl ev_sm0 (by decide) rfl (t_As_hugeLength _ _ u1_h) (fun z3 g2 => ?_)
    exact ev_ireturn d_As_newLength_26 rfl
  refine ev_iload0 1 d_As_newLength_0 rfl ?_
  refine ev_iload1 2 d_As_newLength_1 rfl ?_
  refine ev_iload2 3 d_As_newLength_2 rfl ?_
  refine ev_cs2I (kk := 0) 6 d_As_newLength_3 cs_As_194 (by decide) (by decide) rfl rfl (ev_smc rfl ev_sm0) (by decide) rfl (t_Ma_max _ _ h) (fun z5 g4 => ?_)
  refine ev_iadd 7 d_As_newLength_6 rfl ?_
  refine ev_istore3 8 d_As_newLength_7 (by decide) rfl ?_
  refine ev_iconst 9 d_As_newLength_8 rfl ?_
  refine ev_iload3 10 d_As_newLength_9 rfl ?_
  refine ev_icmp_ge 21 13 d_As_newLength_10 (by decide) rfl ?_ ?_
  · exact ev_wk (hJ21 _ _ g4) (ev_subS (ev_subS (ev_subN (ev_subN ev_sub0))))
  · refine ev_iload3 14 d_As_newLength_13 rfl ?_
    refine ev_ldc (z := 2147483639) 16 d_As_newLength_14 w_427 rfl ?_
    refine ev_icmp_gt 21 19 d_As_newLength_16 (by decide) rfl ?_ ?_
    · exact ev_wk (hJ21 _ _ g4) (ev_subS (ev_subS (ev_subN (ev_subN ev_sub0))))
    · refine ev_iload3 20 d_As_newLength_19 rfl ?_
      exact ev_ireturn d_As_newLength_20 rfl
theorem t_Ar_copyOf3 {E : ev_E} (x0 : Option Nat) (x1 : Int) (x2 : Option Nat) (h : ev_hs) : EvO E M_Ar_copyOf3 2 cvR 0 [some (va_rf x0), some (eI x1), some (va_rf x2), none] [] h (f_Ar_copyOf3 x0 x1 x2 h) := by
  unfold f_Ar_copyOf3
  refine ev_aload2 1 d_Ar_copyOf3_0 rfl ?_
  refine ev_ldcMirror 3 d_Ar_copyOf3_1 w_453 rfl ?_
  refine ev_acmp_ne 13 6 d_Ar_copyOf3_3 (by decide) rfl ?_ ?_
  · refine ev_aload2 14 d_Ar_copyOf3_13 rfl ?_
    exact ev_no
  · refine ev_iload1 7 d_Ar_copyOf3_6 rfl ?_
    refine ev_anewarray (t := 52) 10 d_Ar_copyOf3_7 (by decide) rfl w_455 xo_52 rfl (fun q1 g2 => ?_)
    refine ev_goto 24 d_Ar_copyOf3_10 (by decide) ?_
    refine ev_astore3 25 d_Ar_copyOf3_24 (by decide) rfl ?_
    refine ev_aload0 26 d_Ar_copyOf3_25 rfl ?_
    refine ev_iconst 27 d_Ar_copyOf3_26 rfl ?_
    refine ev_aload3 28 d_Ar_copyOf3_27 rfl ?_
    refine ev_iconst 29 d_Ar_copyOf3_28 rfl ?_
    refine ev_aload0 30 d_Ar_copyOf3_29 rfl ?_
    refine ev_alen (t := 52) 31 d_Ar_copyOf3_30 (by decide) rfl (fun z3 => ?_)
    refine ev_iload1 32 d_Ar_copyOf3_31 rfl ?_
    refine ev_cs2I (kk := 0) 35 d_Ar_copyOf3_32 cs_Ar_304 (by decide) (by decide) rfl rfl (ev_smc rfl (ev_smc (va_rf_cat _) (ev_smc rfl (ev_smc (va_rf_cat _) ev_sm0)))) (by decide) rfl (t_Ma_min _ _ g2) (fun z5 g4 => ?_)
    refine ev_arraycopy 38 d_Ar_copyOf3_35 w_457 w_373 w_372 w_17 ao_52 (by decide) ev_sm0 (by decide) rfl (fun g6 => ?_)
    refine ev_aload3 39 d_Ar_copyOf3_38 rfl ?_
    exact ev_areturn d_Ar_copyOf3_39 rfl (Or.inr ⟨_, rfl⟩)
theorem t_Ar_copyOf2 {E : ev_E} (x0 : Option Nat) (x1 : Int) (h : ev_hs) : EvO E M_Ar_copyOf2 3 cvR 0 [some (va_rf x0), some (eI x1)] [] h (f_Ar_copyOf2 x0 x1 h) := by
  unfold f_Ar_copyOf2
  refine ev_aload0 1 d_Ar_copyOf2_0 rfl ?_
  refine ev_iload1 2 d_Ar_copyOf2_1 rfl ?_
  refine ev_aload0 3 d_Ar_copyOf2_2 rfl ?_
  refine ev_getClass 6 d_Ar_copyOf2_3 w_434 w_954 w_435 w_449 rfl (by decide) (ev_smc rfl (ev_smc (va_rf_cat _) ev_sm0)) (by decide) rfl (fun q1 => ?_)
  refine ev_cs3R (kk := 1) 9 d_Ar_copyOf2_6 cs_Ar_300 (by decide) (by decide) (va_rf_cat _) rfl (va_rf_cat _) ev_sm0 (by decide) rfl (t_Ar_copyOf3 _ _ _ h) (fun q3 g2 => ?_)
  exact ev_areturn d_Ar_copyOf2_9 rfl (Or.inr ⟨_, rfl⟩)
theorem t_AL_grow1 {E : ev_E} (x0 : Option Nat) (x1 : Int) (h : ev_hs) : EvO E M_AL_grow1 4 cvR 0 [some (va_rf x0), some (eI x1), none, none] [] h (f_AL_grow1 x0 x1 h) := by
  unfold f_AL_grow1
  refine ev_jn (fun J => ∀ (u1_0 : Option Nat) (u1_1 : Int) (u1_2 : Int) (u1_h : ev_hs), EvO E M_AL_grow1 4 cvR 20 [some (va_rf u1_0), some (eI u1_1), some (eI u1_2), none] [] u1_h (J u1_0 u1_1 u1_2 u1_h)) ?_ (fun J20 hJ20 => ?_)
  · intro u1_0 u1_1 u1_2 u1_h
    refine ev_iload2 21 d_AL_grow1_20 rfl ?_
    refine ev_iload1 22 d_AL_grow1_21 rfl ?_
    refine ev_iload2 23 d_AL_grow1_22 rfl ?_
    refine ev_isub 24 d_AL_grow1_23 rfl ?_
    refine ev_iload2 25 d_AL_grow1_24 rfl ?_
    refine ev_iconst 26 d_AL_grow1_25 rfl ?_
    refine ev_ishr 27 d_AL_grow1_26 rfl ?_
    refine ev_cs3I (kk := 1) 30 d_AL_grow1_27 cs_AL_73 (by decide) (by decide) rfl rfl rfl ev_sm0 (by decide) rfl (t_As_newLength _ _ _ u1_h) (fun z3 g2 => ?_)
    refine ev_istore3 31 d_AL_grow1_30 (by decide) rfl ?_
    refine ev_aload0 32 d_AL_grow1_31 rfl ?_
    refine ev_aload0 33 d_AL_grow1_32 rfl ?_
    refine ev_gR 36 d_AL_grow1_33 fl_AL_9 rfl rfl (fun q4 => ?_)
    refine ev_iload3 37 d_AL_grow1_36 rfl ?_
    refine ev_cs2R (kk := 0) 40 d_AL_grow1_37 cs_AL_66 (by decide) (by decide) (va_rf_cat _) rfl (ev_smc (va_rf_cat _) ev_sm0) (by decide) rfl (t_Ar_copyOf2 _ _ g2) (fun q6 g5 => ?_)
    refine ev_dup_x1 41 d_AL_grow1_40 (va_rf_cat _) (va_rf_cat _) rfl ?_
    refine ev_pR 44 d_AL_grow1_41 fw_AL_grow_9 rfl rfl (fun g7 => ?_)
    exact ev_areturn d_AL_grow1_44 rfl (Or.inr ⟨_, rfl⟩)
  refine ev_aload0 1 d_AL_grow1_0 rfl ?_
  refine ev_gR 4 d_AL_grow1_1 fl_AL_9 rfl rfl (fun q8 => ?_)
  refine ev_alen (t := 52) 5 d_AL_grow1_4 (by decide) rfl (fun z9 => ?_)
  refine ev_istore2 6 d_AL_grow1_5 (by decide) rfl ?_
  refine ev_iload2 7 d_AL_grow1_6 rfl ?_
  refine ev_if_gt 20 10 d_AL_grow1_7 (by decide) rfl ?_ ?_
  · exact ev_wk (hJ20 _ _ _ h) (ev_subS (ev_subS (ev_subS (ev_subN ev_sub0))))
  · refine ev_aload0 11 d_AL_grow1_10 rfl ?_
    refine ev_gR 14 d_AL_grow1_11 fl_AL_9 rfl rfl (fun q10 => ?_)
    refine ev_getstatic 17 d_AL_grow1_14 w_64 rfl ?_
    refine ev_acmp_eq 45 20 d_AL_grow1_17 (by decide) rfl ?_ ?_
    · refine ev_aload0 46 d_AL_grow1_45 rfl ?_
      refine ev_bipush 48 d_AL_grow1_46 (by decide) rfl ?_
      refine ev_iload1 49 d_AL_grow1_48 rfl ?_
      refine ev_cs2I (kk := 0) 52 d_AL_grow1_49 cs_AL_79 (by decide) (by decide) rfl rfl (ev_smc (va_rf_cat _) ev_sm0) (by decide) rfl (t_Ma_max _ _ h) (fun z12 g11 => ?_)
      refine ev_anewarray (t := 52) 55 d_AL_grow1_52 (by decide) rfl w_459 xo_52 rfl (fun q13 g14 => ?_)
      refine ev_dup_x1 56 d_AL_grow1_55 (va_rf_cat _) (va_rf_cat _) rfl ?_
      refine ev_pR 59 d_AL_grow1_56 fw_AL_grow_9 rfl rfl (fun g15 => ?_)
      exact ev_areturn d_AL_grow1_59 rfl (Or.inr ⟨_, rfl⟩)
    · exact ev_wk (hJ20 _ _ _ h) (ev_subS (ev_subS (ev_subS (ev_subN ev_sub0))))
theorem t_AL_grow0 {E : ev_E} (x0 : Option Nat) (h : ev_hs) : EvO E M_AL_grow0 5 cvR 0 [some (va_rf x0)] [] h (f_AL_grow0 x0 h) := by
  unfold f_AL_grow0
  refine ev_aload0 1 d_AL_grow0_0 rfl ?_
  refine ev_aload0 2 d_AL_grow0_1 rfl ?_
  refine ev_gI 5 d_AL_grow0_2 fl_AL_48 rfl rfl (fun z1 => ?_)
  refine ev_iconst 6 d_AL_grow0_5 rfl ?_
  refine ev_iadd 7 d_AL_grow0_6 rfl ?_
  refine ev_cv1R (kk := 2) 10 d_AL_grow0_7 cv_AL_69 (by decide) (by decide) rfl ev_sm0 (by decide) rfl (t_AL_grow1 _ _ h) (fun q3 g2 => ?_)
  exact ev_areturn d_AL_grow0_10 rfl (Or.inr ⟨_, rfl⟩)
