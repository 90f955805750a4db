theorem t_Mo_gets {E : ev_E} (x0 : Option Nat) (x1 : Int) (x2 : Int) (x3 : Int) (h : ev_hs) : EvO E M_Mo_gets 3 cvI 0 [some (va_rf x0), some (eI x1), some (eI x2), some (eI x3)] [] h (f_Mo_gets x0 x1 x2 x3 h) := by
  unfold f_Mo_gets
  refine ev_aload0 1 d_Mo_gets_0 rfl ?_
  refine ev_gR 4 d_Mo_gets_1 fl_Mo_80 rfl rfl (fun q1 => ?_)
  refine ev_iload2 5 d_Mo_gets_4 rfl ?_
  refine ev_iaload 6 d_Mo_gets_5 rfl (fun z2 => ?_)
  refine ev_iconst 7 d_Mo_gets_6 rfl ?_
  refine ev_icmp_ne 12 10 d_Mo_gets_7 (by decide) rfl ?_ ?_
  · refine ev_aload0 13 d_Mo_gets_12 rfl ?_
    refine ev_gR 16 d_Mo_gets_13 fl_Mo_80 rfl rfl (fun q3 => ?_)
    refine ev_iload2 17 d_Mo_gets_16 rfl ?_
    refine ev_iaload 18 d_Mo_gets_17 rfl (fun z4 => ?_)
    refine ev_iconst 19 d_Mo_gets_18 rfl ?_
    refine ev_icmp_ne 72 22 d_Mo_gets_19 (by decide) rfl ?_ ?_
    · refine ev_aload0 73 d_Mo_gets_72 rfl ?_
      refine ev_iload1 74 d_Mo_gets_73 rfl ?_
      refine ev_bipush 76 d_Mo_gets_74 (by decide) rfl ?_
      refine ev_iload2 77 d_Mo_gets_76 rfl ?_
      refine ev_iload3 78 d_Mo_gets_77 rfl ?_
      refine ev_iconst 79 d_Mo_gets_78 rfl ?_
      refine ev_aload0 80 d_Mo_gets_79 rfl ?_
      refine ev_gR 83 d_Mo_gets_80 fl_Mo_83 rfl rfl (fun q5 => ?_)
      refine ev_iload2 84 d_Mo_gets_83 rfl ?_
      refine ev_iaload 85 d_Mo_gets_84 rfl (fun z6 => ?_)
      refine ev_iconst 86 d_Mo_gets_85 rfl ?_
      refine ev_cv7V (kk := 2) 89 d_Mo_gets_86 cv_Mo_165 (by decide) (by decide) rfl rfl rfl rfl rfl rfl rfl ev_sm0 (by decide) rfl (t_Mo_send _ _ _ _ _ _ _ _ h) (fun g7 => ?_)
      refine ev_aload0 90 d_Mo_gets_89 rfl ?_
      refine ev_gR 93 d_Mo_gets_90 fl_Mo_89 rfl rfl (fun q8 => ?_)
      refine ev_iload2 94 d_Mo_gets_93 rfl ?_
      refine ev_dup2 95 d_Mo_gets_94 rfl (va_rf_cat _) rfl ?_
      refine ev_iaload 96 d_Mo_gets_95 rfl (fun z9 => ?_)
      refine ev_iconst 97 d_Mo_gets_96 rfl ?_
      refine ev_iload3 98 d_Mo_gets_97 rfl ?_
      refine ev_ishl 99 d_Mo_gets_98 rfl ?_
      refine ev_ior 100 d_Mo_gets_99 rfl ?_
      refine ev_iastore 101 d_Mo_gets_100 rfl (fun g10 => ?_)
      refine ev_aload0 102 d_Mo_gets_101 rfl ?_
      refine ev_gR 105 d_Mo_gets_102 fl_Mo_80 rfl rfl (fun q11 => ?_)
      refine ev_iload2 106 d_Mo_gets_105 rfl ?_
      refine ev_iconst 107 d_Mo_gets_106 rfl ?_
      refine ev_iastore 108 d_Mo_gets_107 rfl (fun g12 => ?_)
      refine ev_iconst 109 d_Mo_gets_108 rfl ?_
      exact ev_zreturn d_Mo_gets_109 rfl
    · refine ev_aload0 23 d_Mo_gets_22 rfl ?_
      refine ev_iload1 24 d_Mo_gets_23 rfl ?_
      refine ev_iconst 25 d_Mo_gets_24 rfl ?_
      refine ev_iload2 26 d_Mo_gets_25 rfl ?_
      refine ev_aload0 27 d_Mo_gets_26 rfl ?_
      refine ev_gR 30 d_Mo_gets_27 fl_Mo_86 rfl rfl (fun q13 => ?_)
      refine ev_iload2 31 d_Mo_gets_30 rfl ?_
      refine ev_iaload 32 d_Mo_gets_31 rfl (fun z14 => ?_)
      refine ev_iload3 33 d_Mo_gets_32 rfl ?_
      refine ev_iconst 34 d_Mo_gets_33 rfl ?_
      refine ev_iconst 35 d_Mo_gets_34 rfl ?_
      refine ev_cv7V (kk := 2) 38 d_Mo_gets_35 cv_Mo_165 (by decide) (by decide) rfl rfl rfl rfl rfl rfl rfl ev_sm0 (by decide) rfl (t_Mo_send _ _ _ _ _ _ _ _ h) (fun g15 => ?_)
      refine ev_aload0 39 d_Mo_gets_38 rfl ?_
      refine ev_gR 42 d_Mo_gets_39 fl_Mo_89 rfl rfl (fun q16 => ?_)
      refine ev_iload2 43 d_Mo_gets_42 rfl ?_
      refine ev_iconst 44 d_Mo_gets_43 rfl ?_
      refine ev_aload0 45 d_Mo_gets_44 rfl ?_
      refine ev_gR 48 d_Mo_gets_45 fl_Mo_86 rfl rfl (fun q17 => ?_)
      refine ev_iload2 49 d_Mo_gets_48 rfl ?_
      refine ev_iaload 50 d_Mo_gets_49 rfl (fun z18 => ?_)
      refine ev_ishl 51 d_Mo_gets_50 rfl ?_
      refine ev_iconst 52 d_Mo_gets_51 rfl ?_
      refine ev_iload3 53 d_Mo_gets_52 rfl ?_
      refine ev_ishl 54 d_Mo_gets_53 rfl ?_
      refine ev_ior 55 d_Mo_gets_54 rfl ?_
      refine ev_iastore 56 d_Mo_gets_55 rfl (fun g19 => ?_)
      refine ev_aload0 57 d_Mo_gets_56 rfl ?_
      refine ev_gR 60 d_Mo_gets_57 fl_Mo_86 rfl rfl (fun q20 => ?_)
      refine ev_iload2 61 d_Mo_gets_60 rfl ?_
      refine ev_iconst 62 d_Mo_gets_61 rfl ?_
      refine ev_iastore 63 d_Mo_gets_62 rfl (fun g21 => ?_)
      refine ev_aload0 64 d_Mo_gets_63 rfl ?_
      refine ev_gR 67 d_Mo_gets_64 fl_Mo_80 rfl rfl (fun q22 => ?_)
      refine ev_iload2 68 d_Mo_gets_67 rfl ?_
      refine ev_iconst 69 d_Mo_gets_68 rfl ?_
      refine ev_iastore 70 d_Mo_gets_69 rfl (fun g23 => ?_)
      refine ev_iconst 71 d_Mo_gets_70 rfl ?_
      exact ev_zreturn d_Mo_gets_71 rfl
  · refine ev_iconst 11 d_Mo_gets_10 rfl ?_
    exact ev_zreturn d_Mo_gets_11 rfl
theorem t_Mo_getm_67 {E : ev_E} : ∀ (fu : Nat) (x0 : Option Nat) (x1 : Int) (x2 : Int) (x3 : Int) (x4 : Int) (x5 : Int) (x6 : Int) (h : ev_hs) (K92 : Option Nat → Int → Int → Int → Int → Int → ev_hs → Option (Int × ev_hs)) (hK92 : ∀ (w0 : Option Nat) (w1 : Int) (w2 : Int) (w3 : Int) (w4 : Int) (w5 : Int) (wh : ev_hs), EvO E M_Mo_getm 3 cvI 92 [some (va_rf w0), some (eI w1), some (eI w2), some (eI w3), some (eI w4), some (eI w5), none] [] wh (K92 w0 w1 w2 w3 w4 w5 wh)) , EvO E M_Mo_getm 3 cvI 67 [some (va_rf x0), some (eI x1), some (eI x2), some (eI x3), some (eI x4), some (eI x5), some (eI x6)] [] h (f_Mo_getm_67 fu x0 x1 x2 x3 x4 x5 x6 h K92) := by
  intro fu
  induction fu with
  | zero => intros; exact ev_no
  | succ fu ih =>
    intro x0 x1 x2 x3 x4 x5 x6 h K92 hK92
    rw [f_Mo_getm_67]
    refine ev_iload6 69 d_Mo_getm_67 rfl ?_
    refine ev_bipush 71 d_Mo_getm_69 (by decide) rfl ?_
    refine ev_icmp_ge 92 74 d_Mo_getm_71 (by decide) rfl ?_ ?_
    · exact ev_wk (hK92 _ _ _ _ _ _ h) (ev_subS (ev_subS (ev_subS (ev_subS (ev_subS (ev_subS (ev_subN ev_sub0)))))))
    · refine ev_iload5 76 d_Mo_getm_74 rfl ?_
      refine ev_iload4 78 d_Mo_getm_76 rfl ?_
      refine ev_iload6 80 d_Mo_getm_78 rfl ?_
      refine ev_ishr 81 d_Mo_getm_80 rfl ?_
      refine ev_iconst 82 d_Mo_getm_81 rfl ?_
      refine ev_iand 83 d_Mo_getm_82 rfl ?_
      refine ev_iadd 84 d_Mo_getm_83 rfl ?_
      refine ev_istore5 86 d_Mo_getm_84 (by decide) rfl ?_
      refine ev_iinc6 89 d_Mo_getm_86 (by decide) rfl ?_
      refine ev_goto 67 d_Mo_getm_89 (by decide) ?_
      exact ev_wk (ih _ _ _ _ _ _ _ h _ hK92) (ev_subS (ev_subS (ev_subS (ev_subS (ev_subS (ev_subS (ev_subS ev_sub0)))))))
theorem t_Mo_getm_113 {E : ev_E} : ∀ (fu : Nat) (x0 : Option Nat) (x1 : Int) (x2 : Int) (x3 : Int) (x4 : Int) (x6 : Int) (h : ev_hs) (K150 : Option Nat → Int → Int → ev_hs → Option (Int × ev_hs)) (hK150 : ∀ (w0 : Option Nat) (w2 : Int) (w3 : Int) (wh : ev_hs), EvO E M_Mo_getm 3 cvI 150 [some (va_rf w0), none, some (eI w2), some (eI w3), none, none, none] [] wh (K150 w0 w2 w3 wh)) , EvO E M_Mo_getm 3 cvI 113 [some (va_rf x0), some (eI x1), some (eI x2), some (eI x3), some (eI x4), none, some (eI x6)] [] h (f_Mo_getm_113 fu x0 x1 x2 x3 x4 x6 h K150) := by
  intro fu
  induction fu with
  | zero => intros; exact ev_no
  | succ fu ih =>
    intro x0 x1 x2 x3 x4 x6 h K150 hK150
    rw [f_Mo_getm_113]
    refine ev_iload6 115 d_Mo_getm_113 rfl ?_
    refine ev_bipush 117 d_Mo_getm_115 (by decide) rfl ?_
    refine ev_icmp_ge 150 120 d_Mo_getm_117 (by decide) rfl ?_ ?_
    · exact ev_wk (hK150 _ _ _ h) (ev_subS (ev_subN (ev_subS (ev_subS (ev_subN (ev_subN (ev_subN ev_sub0)))))))
    · refine ev_jn (fun J => ∀ (u11_0 : Option Nat) (u11_1 : Int) (u11_2 : Int) (u11_3 : Int) (u11_4 : Int) (u11_6 : Int) (u11_h : ev_hs), EvO E M_Mo_getm 3 cvI 144 [some (va_rf u11_0), some (eI u11_1), some (eI u11_2), some (eI u11_3), some (eI u11_4), none, some (eI u11_6)] [] u11_h (J u11_0 u11_1 u11_2 u11_3 u11_4 u11_6 u11_h)) ?_ (fun J144 hJ144 => ?_)
      · intro u11_0 u11_1 u11_2 u11_3 u11_4 u11_6 u11_h
        refine ev_iinc6 147 d_Mo_getm_144 (by decide) rfl ?_
        refine ev_goto 113 d_Mo_getm_147 (by decide) ?_
        exact ev_wk (ih _ _ _ _ _ _ u11_h _ hK150) (ev_subS (ev_subS (ev_subS (ev_subS (ev_subS (ev_subN (ev_subS ev_sub0)))))))
      refine ev_iload4 122 d_Mo_getm_120 rfl ?_
      refine ev_iload6 124 d_Mo_getm_122 rfl ?_
      refine ev_ishr 125 d_Mo_getm_124 rfl ?_
      refine ev_iconst 126 d_Mo_getm_125 rfl ?_
      refine ev_iand 127 d_Mo_getm_126 rfl ?_
      refine ev_iconst 128 d_Mo_getm_127 rfl ?_
      refine ev_icmp_ne 144 131 d_Mo_getm_128 (by decide) rfl ?_ ?_
      · exact ev_wk (hJ144 _ _ _ _ _ _ h) (ev_subS (ev_subS (ev_subS (ev_subS (ev_subS (ev_subN (ev_subS ev_sub0)))))))
      · refine ev_aload0 132 d_Mo_getm_131 rfl ?_
        refine ev_iload1 133 d_Mo_getm_132 rfl ?_
        refine ev_bipush 135 d_Mo_getm_133 (by decide) rfl ?_
        refine ev_iload2 136 d_Mo_getm_135 rfl ?_
        refine ev_iload6 138 d_Mo_getm_136 rfl ?_
        refine ev_iload3 139 d_Mo_getm_138 rfl ?_
        refine ev_iconst 140 d_Mo_getm_139 rfl ?_
        refine ev_iconst 141 d_Mo_getm_140 rfl ?_
        refine ev_cv7V (kk := 2) 144 d_Mo_getm_141 cv_Mo_165 (by decide) (by decide) rfl rfl rfl rfl rfl rfl rfl ev_sm0 (by decide) rfl (t_Mo_send _ _ _ _ _ _ _ _ h) (fun g12 => ?_)
        exact ev_wk (hJ144 _ _ _ _ _ _ g12) (ev_subS (ev_subS (ev_subS (ev_subS (ev_subS (ev_subN (ev_subS ev_sub0)))))))
theorem t_Mo_getm {E : ev_E} (x0 : Option Nat) (x1 : Int) (x2 : Int) (x3 : Int) (h : ev_hs) : EvO E M_Mo_getm 3 cvI 0 [some (va_rf x0), some (eI x1), some (eI x2), some (eI x3), none, none, none] [] h (f_Mo_getm x0 x1 x2 x3 h) := by
  unfold f_Mo_getm
  refine ev_aload0 1 d_Mo_getm_0 rfl ?_
  refine ev_gR 4 d_Mo_getm_1 fl_Mo_80 rfl rfl (fun q1 => ?_)
  refine ev_iload2 5 d_Mo_getm_4 rfl ?_
  refine ev_iaload 6 d_Mo_getm_5 rfl (fun z2 => ?_)
  refine ev_iconst 7 d_Mo_getm_6 rfl ?_
  refine ev_icmp_ne 12 10 d_Mo_getm_7 (by decide) rfl ?_ ?_
  · refine ev_aload0 13 d_Mo_getm_12 rfl ?_
    refine ev_gR 16 d_Mo_getm_13 fl_Mo_80 rfl rfl (fun q3 => ?_)
    refine ev_iload2 17 d_Mo_getm_16 rfl ?_
    refine ev_iaload 18 d_Mo_getm_17 rfl (fun z4 => ?_)
    refine ev_iconst 19 d_Mo_getm_18 rfl ?_
    refine ev_icmp_ne 47 22 d_Mo_getm_19 (by decide) rfl ?_ ?_
    · refine ev_aload0 48 d_Mo_getm_47 rfl ?_
      refine ev_gR 51 d_Mo_getm_48 fl_Mo_89 rfl rfl (fun q5 => ?_)
      refine ev_iload2 52 d_Mo_getm_51 rfl ?_
      refine ev_iaload 53 d_Mo_getm_52 rfl (fun z6 => ?_)
      refine ev_iconst 54 d_Mo_getm_53 rfl ?_
      refine ev_iload3 55 d_Mo_getm_54 rfl ?_
      refine ev_ishl 56 d_Mo_getm_55 rfl ?_
      refine ev_iconst 57 d_Mo_getm_56 rfl ?_
      refine ev_ixor 58 d_Mo_getm_57 rfl ?_
      refine ev_iand 59 d_Mo_getm_58 rfl ?_
      refine ev_istore4 61 d_Mo_getm_59 (by decide) rfl ?_
      refine ev_iconst 62 d_Mo_getm_61 rfl ?_
      refine ev_istore5 64 d_Mo_getm_62 (by decide) rfl ?_
      refine ev_iconst 65 d_Mo_getm_64 rfl ?_
      refine ev_istore6 67 d_Mo_getm_65 (by decide) rfl ?_
      refine ev_wk (t_Mo_getm_67 FU _ _ _ _ _ _ _ h _ ?_) (ev_subS (ev_subS (ev_subS (ev_subS (ev_subS (ev_subS (ev_subS ev_sub0)))))))
      intro y7_0 y7_1 y7_2 y7_3 y7_4 y7_5 y7_h
      refine ev_aload0 93 d_Mo_getm_92 rfl ?_
      refine ev_iload1 94 d_Mo_getm_93 rfl ?_
      refine ev_bipush 96 d_Mo_getm_94 (by decide) rfl ?_
      refine ev_iload2 97 d_Mo_getm_96 rfl ?_
      refine ev_iload3 98 d_Mo_getm_97 rfl ?_
      refine ev_iconst 99 d_Mo_getm_98 rfl ?_
      refine ev_aload0 100 d_Mo_getm_99 rfl ?_
      refine ev_gR 103 d_Mo_getm_100 fl_Mo_83 rfl rfl (fun q8 => ?_)
      refine ev_iload2 104 d_Mo_getm_103 rfl ?_
      refine ev_iaload 105 d_Mo_getm_104 rfl (fun z9 => ?_)
      refine ev_iload5 107 d_Mo_getm_105 rfl ?_
      refine ev_cv7V (kk := 2) 110 d_Mo_getm_107 cv_Mo_165 (by decide) (by decide) rfl rfl rfl rfl rfl rfl rfl ev_sm0 (by decide) rfl (t_Mo_send _ _ _ _ _ _ _ _ y7_h) (fun g10 => ?_)
      refine ev_iconst 111 d_Mo_getm_110 rfl ?_
      refine ev_istore6 113 d_Mo_getm_111 (by decide) rfl ?_
      refine ev_wk (t_Mo_getm_113 FU _ _ _ _ _ _ g10 _ ?_) (ev_subS (ev_subS (ev_subS (ev_subS (ev_subS (ev_subN (ev_subS ev_sub0)))))))
      intro y13_0 y13_2 y13_3 y13_h
      refine ev_aload0 151 d_Mo_getm_150 rfl ?_
      refine ev_gR 154 d_Mo_getm_151 fl_Mo_89 rfl rfl (fun q14 => ?_)
      refine ev_iload2 155 d_Mo_getm_154 rfl ?_
      refine ev_iconst 156 d_Mo_getm_155 rfl ?_
      refine ev_iastore 157 d_Mo_getm_156 rfl (fun g15 => ?_)
      refine ev_aload0 158 d_Mo_getm_157 rfl ?_
      refine ev_gR 161 d_Mo_getm_158 fl_Mo_86 rfl rfl (fun q16 => ?_)
      refine ev_iload2 162 d_Mo_getm_161 rfl ?_
      refine ev_iload3 163 d_Mo_getm_162 rfl ?_
      refine ev_iastore 164 d_Mo_getm_163 rfl (fun g17 => ?_)
      refine ev_aload0 165 d_Mo_getm_164 rfl ?_
      refine ev_gR 168 d_Mo_getm_165 fl_Mo_80 rfl rfl (fun q18 => ?_)
      refine ev_iload2 169 d_Mo_getm_168 rfl ?_
      refine ev_iconst 170 d_Mo_getm_169 rfl ?_
      refine ev_iastore 171 d_Mo_getm_170 rfl (fun g19 => ?_)
      refine ev_iconst 172 d_Mo_getm_171 rfl ?_
      exact ev_zreturn d_Mo_getm_172 rfl
    · refine ev_aload0 23 d_Mo_getm_22 rfl ?_
      refine ev_iload1 24 d_Mo_getm_23 rfl ?_
      refine ev_iconst 25 d_Mo_getm_24 rfl ?_
      refine ev_iload2 26 d_Mo_getm_25 rfl ?_
      refine ev_aload0 27 d_Mo_getm_26 rfl ?_
      refine ev_gR 30 d_Mo_getm_27 fl_Mo_86 rfl rfl (fun q20 => ?_)
      refine ev_iload2 31 d_Mo_getm_30 rfl ?_
      refine ev_iaload 32 d_Mo_getm_31 rfl (fun z21 => ?_)
      refine ev_iload3 33 d_Mo_getm_32 rfl ?_
      refine ev_iconst 34 d_Mo_getm_33 rfl ?_
      refine ev_iconst 35 d_Mo_getm_34 rfl ?_
      refine ev_cv7V (kk := 2) 38 d_Mo_getm_35 cv_Mo_165 (by decide) (by decide) rfl rfl rfl rfl rfl rfl rfl ev_sm0 (by decide) rfl (t_Mo_send _ _ _ _ _ _ _ _ h) (fun g22 => ?_)
      refine ev_aload0 39 d_Mo_getm_38 rfl ?_
      refine ev_gR 42 d_Mo_getm_39 fl_Mo_86 rfl rfl (fun q23 => ?_)
      refine ev_iload2 43 d_Mo_getm_42 rfl ?_
      refine ev_iload3 44 d_Mo_getm_43 rfl ?_
      refine ev_iastore 45 d_Mo_getm_44 rfl (fun g24 => ?_)
      refine ev_iconst 46 d_Mo_getm_45 rfl ?_
      exact ev_zreturn d_Mo_getm_46 rfl
  · refine ev_iconst 11 d_Mo_getm_10 rfl ?_
    exact ev_zreturn d_Mo_getm_11 rfl
theorem t_Mo_gone {E : ev_E} (x0 : Option Nat) (x1 : Int) (x2 : Int) (h : ev_hs) : EvO E M_Mo_gone 1 cvV 0 [some (va_rf x0), some (eI x1), some (eI x2)] [] h (f_Mo_gone x0 x1 x2 h) := by
  unfold f_Mo_gone
  refine ev_aload0 1 d_Mo_gone_0 rfl ?_
  refine ev_gR 4 d_Mo_gone_1 fl_Mo_89 rfl rfl (fun q1 => ?_)
  refine ev_iload1 5 d_Mo_gone_4 rfl ?_
  refine ev_dup2 6 d_Mo_gone_5 rfl (va_rf_cat _) rfl ?_
  refine ev_iaload 7 d_Mo_gone_6 rfl (fun z2 => ?_)
  refine ev_iconst 8 d_Mo_gone_7 rfl ?_
  refine ev_iload2 9 d_Mo_gone_8 rfl ?_
  refine ev_ishl 10 d_Mo_gone_9 rfl ?_
  refine ev_iconst 11 d_Mo_gone_10 rfl ?_
  refine ev_ixor 12 d_Mo_gone_11 rfl ?_
  refine ev_iand 13 d_Mo_gone_12 rfl ?_
  refine ev_iastore 14 d_Mo_gone_13 rfl (fun g3 => ?_)
  refine ev_aload0 15 d_Mo_gone_14 rfl ?_
  refine ev_gR 18 d_Mo_gone_15 fl_Mo_80 rfl rfl (fun q4 => ?_)
  refine ev_iload1 19 d_Mo_gone_18 rfl ?_
  refine ev_iaload 20 d_Mo_gone_19 rfl (fun z5 => ?_)
  refine ev_iconst 21 d_Mo_gone_20 rfl ?_
  refine ev_icmp_ne 40 24 d_Mo_gone_21 (by decide) rfl ?_ ?_
  · exact ev_return d_Mo_gone_40 rfl
  · refine ev_aload0 25 d_Mo_gone_24 rfl ?_
    refine ev_gR 28 d_Mo_gone_25 fl_Mo_89 rfl rfl (fun q6 => ?_)
    refine ev_iload1 29 d_Mo_gone_28 rfl ?_
    refine ev_iaload 30 d_Mo_gone_29 rfl (fun z7 => ?_)
    refine ev_if_ne 40 33 d_Mo_gone_30 (by decide) rfl ?_ ?_
    · exact ev_return d_Mo_gone_40 rfl
    · refine ev_aload0 34 d_Mo_gone_33 rfl ?_
      refine ev_gR 37 d_Mo_gone_34 fl_Mo_80 rfl rfl (fun q8 => ?_)
      refine ev_iload1 38 d_Mo_gone_37 rfl ?_
      refine ev_iconst 39 d_Mo_gone_38 rfl ?_
      refine ev_iastore 40 d_Mo_gone_39 rfl (fun g9 => ?_)
      exact ev_return d_Mo_gone_40 rfl
theorem t_Mo_putm {E : ev_E} (x0 : Option Nat) (x1 : Int) (x2 : Int) (x3 : Int) (h : ev_hs) : EvO E M_Mo_putm 2 cvV 0 [some (va_rf x0), some (eI x1), some (eI x2), some (eI x3)] [] h (f_Mo_putm x0 x1 x2 x3 h) := by
  unfold f_Mo_putm
  refine ev_jn (fun J => ∀ (u1_0 : Option Nat) (u1_1 : Int) (u1_2 : Int) (u1_h : ev_hs), EvO E M_Mo_putm 2 cvV 44 [some (va_rf u1_0), some (eI u1_1), some (eI u1_2), none] [] u1_h (J u1_0 u1_1 u1_2 u1_h)) ?_ (fun J44 hJ44 => ?_)
  · intro u1_0 u1_1 u1_2 u1_h
    refine ev_aload0 45 d_Mo_putm_44 rfl ?_
    refine ev_iload1 46 d_Mo_putm_45 rfl ?_
    refine ev_iload2 47 d_Mo_putm_46 rfl ?_
    refine ev_cv2V (kk := 0) 50 d_Mo_putm_47 cv_Mo_175 (by decide) (by decide) rfl rfl ev_sm0 (by decide) rfl (t_Mo_gone _ _ _ u1_h) (fun g2 => ?_)
    exact ev_return d_Mo_putm_50 rfl
  refine ev_aload0 1 d_Mo_putm_0 rfl ?_
  refine ev_gR 4 d_Mo_putm_1 fl_Mo_80 rfl rfl (fun q3 => ?_)
  refine ev_iload1 5 d_Mo_putm_4 rfl ?_
  refine ev_iaload 6 d_Mo_putm_5 rfl (fun z4 => ?_)
  refine ev_iconst 7 d_Mo_putm_6 rfl ?_
  refine ev_icmp_ne 44 10 d_Mo_putm_7 (by decide) rfl ?_ ?_
  · exact ev_wk (hJ44 _ _ _ h) (ev_subS (ev_subS (ev_subS (ev_subN ev_sub0))))
  · refine ev_aload0 11 d_Mo_putm_10 rfl ?_
    refine ev_gR 14 d_Mo_putm_11 fl_Mo_86 rfl rfl (fun q5 => ?_)
    refine ev_iload1 15 d_Mo_putm_14 rfl ?_
    refine ev_iaload 16 d_Mo_putm_15 rfl (fun z6 => ?_)
    refine ev_iload2 17 d_Mo_putm_16 rfl ?_
    refine ev_icmp_ne 44 20 d_Mo_putm_17 (by decide) rfl ?_ ?_
    · exact ev_wk (hJ44 _ _ _ h) (ev_subS (ev_subS (ev_subS (ev_subN ev_sub0))))
    · refine ev_aload0 21 d_Mo_putm_20 rfl ?_
      refine ev_gR 24 d_Mo_putm_21 fl_Mo_83 rfl rfl (fun q7 => ?_)
      refine ev_iload1 25 d_Mo_putm_24 rfl ?_
      refine ev_iload3 26 d_Mo_putm_25 rfl ?_
      refine ev_iastore 27 d_Mo_putm_26 rfl (fun g8 => ?_)
      refine ev_aload0 28 d_Mo_putm_27 rfl ?_
      refine ev_gR 31 d_Mo_putm_28 fl_Mo_86 rfl rfl (fun q9 => ?_)
      refine ev_iload1 32 d_Mo_putm_31 rfl ?_
      refine ev_iconst 33 d_Mo_putm_32 rfl ?_
      refine ev_iastore 34 d_Mo_putm_33 rfl (fun g10 => ?_)
      refine ev_aload0 35 d_Mo_putm_34 rfl ?_
      refine ev_gR 38 d_Mo_putm_35 fl_Mo_80 rfl rfl (fun q11 => ?_)
      refine ev_iload1 39 d_Mo_putm_38 rfl ?_
      refine ev_iconst 40 d_Mo_putm_39 rfl ?_
      refine ev_iastore 41 d_Mo_putm_40 rfl (fun g12 => ?_)
      refine ev_goto 50 d_Mo_putm_41 (by decide) ?_
      exact ev_return d_Mo_putm_50 rfl
theorem t_Mo_homeOf {E : ev_E} (x0 : Int) (h : ev_hs) : EvO E M_Mo_homeOf 1 cvI 0 [some (eI x0)] [] h (f_Mo_homeOf x0 h) := by
  unfold f_Mo_homeOf
  refine ev_iload0 1 d_Mo_homeOf_0 rfl ?_
  refine ev_bipush 3 d_Mo_homeOf_1 (by decide) rfl ?_
  refine ev_irem 4 d_Mo_homeOf_3 rfl (fun z1 => ?_)
  exact ev_ireturn d_Mo_homeOf_4 rfl
theorem t_Mo_forward {E : ev_E} (x0 : Option Nat) (x1 : Int) (x2 : Int) (x3 : Int) (h : ev_hs) : EvO E M_Mo_forward 3 cvI 0 [some (va_rf x0), some (eI x1), some (eI x2), some (eI x3), none, none, none] [] h (f_Mo_forward x0 x1 x2 x3 h) := by
  unfold f_Mo_forward
  refine ev_jn (fun J => ∀ (u1_0 : Option Nat) (u1_1 : Int) (u1_2 : Int) (u1_3 : Int) (u1_4 : Int) (u1_5 : Int) (u1_6 : Int) (u1_h : ev_hs), EvO E M_Mo_forward 3 cvI 42 [some (va_rf u1_0), some (eI u1_1), some (eI u1_2), some (eI u1_3), some (eI u1_4), some (eI u1_5), some (eI u1_6)] [] u1_h (J u1_0 u1_1 u1_2 u1_3 u1_4 u1_5 u1_6 u1_h)) ?_ (fun J42 hJ42 => ?_)
  · intro u1_0 u1_1 u1_2 u1_3 u1_4 u1_5 u1_6 u1_h
    refine ev_jn (fun J => ∀ (u2_0 : Option Nat) (u2_3 : Int) (u2_5 : Int) (u2_6 : Int) (u2_h : ev_hs), EvO E M_Mo_forward 3 cvI 93 [some (va_rf u2_0), none, none, some (eI u2_3), none, some (eI u2_5), some (eI u2_6)] [] u2_h (J u2_0 u2_3 u2_5 u2_6 u2_h)) ?_ (fun J93 hJ93 => ?_)
    · intro u2_0 u2_3 u2_5 u2_6 u2_h
      refine ev_jn (fun J => ∀ (u3_0 : Option Nat) (u3_5 : Int) (u3_s0 : Option Nat) (u3_s1 : Int) (u3_s2 : Int) (u3_h : ev_hs), EvO E M_Mo_forward 3 cvI 132 [some (va_rf u3_0), none, none, none, none, some (eI u3_5), none] [eI u3_s2, eI u3_s1, va_rf u3_s0] u3_h (J u3_0 u3_5 u3_s0 u3_s1 u3_s2 u3_h)) ?_ (fun J132 hJ132 => ?_)
      · intro u3_0 u3_5 u3_s0 u3_s1 u3_s2 u3_h
        refine ev_jn (fun J => ∀ (u4_s0 : Option Nat) (u4_s1 : Int) (u4_s2 : Int) (u4_h : ev_hs), EvO E M_Mo_forward 3 cvI 160 [none, none, none, none, none, none, none] [eI u4_s2, eI u4_s1, va_rf u4_s0] u4_h (J u4_s0 u4_s1 u4_s2 u4_h)) ?_ (fun J160 hJ160 => ?_)
        · intro u4_s0 u4_s1 u4_s2 u4_h
          refine ev_iastore 161 d_Mo_forward_160 rfl (fun g5 => ?_)
          refine ev_iconst 162 d_Mo_forward_161 rfl ?_
          exact ev_zreturn d_Mo_forward_162 rfl
        refine ev_iastore 133 d_Mo_forward_132 rfl (fun g6 => ?_)
        refine ev_aload0 134 d_Mo_forward_133 rfl ?_
        refine ev_gR 137 d_Mo_forward_134 fl_Mo_71 rfl rfl (fun q7 => ?_)
        refine ev_iload5 139 d_Mo_forward_137 rfl ?_
        refine ev_aload0 140 d_Mo_forward_139 rfl ?_
        refine ev_gR 143 d_Mo_forward_140 fl_Mo_68 rfl rfl (fun q8 => ?_)
        refine ev_iload5 145 d_Mo_forward_143 rfl ?_
        refine ev_iaload 146 d_Mo_forward_145 rfl (fun z9 => ?_)
        refine ev_if_ne 153 149 d_Mo_forward_146 (by decide) rfl ?_ ?_
        · refine ev_aload0 154 d_Mo_forward_153 rfl ?_
          refine ev_gR 157 d_Mo_forward_154 fl_Mo_71 rfl rfl (fun q10 => ?_)
          refine ev_iload5 159 d_Mo_forward_157 rfl ?_
          refine ev_iaload 160 d_Mo_forward_159 rfl (fun z11 => ?_)
          exact ev_wk (hJ160 _ _ _ g6) (ev_subN (ev_subN (ev_subN (ev_subN (ev_subN (ev_subN (ev_subN ev_sub0)))))))
        · refine ev_iconst 150 d_Mo_forward_149 rfl ?_
          refine ev_goto 160 d_Mo_forward_150 (by decide) ?_
          exact ev_wk (hJ160 _ _ _ g6) (ev_subN (ev_subN (ev_subN (ev_subN (ev_subN (ev_subN (ev_subN ev_sub0)))))))
      refine ev_aload0 94 d_Mo_forward_93 rfl ?_
      refine ev_gR 97 d_Mo_forward_94 fl_Mo_68 rfl rfl (fun q12 => ?_)
      refine ev_iload5 99 d_Mo_forward_97 rfl ?_
      refine ev_iload3 100 d_Mo_forward_99 rfl ?_
      refine ev_if_eq 119 103 d_Mo_forward_100 (by decide) rfl ?_ ?_
      · refine ev_iload6 121 d_Mo_forward_119 rfl ?_
        refine ev_bipush 123 d_Mo_forward_121 (by decide) rfl ?_
        refine ev_icmp_ne 130 126 d_Mo_forward_123 (by decide) rfl ?_ ?_
        · refine ev_bipush 132 d_Mo_forward_130 (by decide) rfl ?_
          exact ev_wk (hJ132 _ _ _ _ _ u2_h) (ev_subS (ev_subN (ev_subN (ev_subN (ev_subN (ev_subS (ev_subN ev_sub0)))))))
        · refine ev_iconst 127 d_Mo_forward_126 rfl ?_
          refine ev_goto 132 d_Mo_forward_127 (by decide) ?_
          exact ev_wk (hJ132 _ _ _ _ _ u2_h) (ev_subS (ev_subN (ev_subN (ev_subN (ev_subN (ev_subS (ev_subN ev_sub0)))))))
      · refine ev_iload6 105 d_Mo_forward_103 rfl ?_
        refine ev_bipush 107 d_Mo_forward_105 (by decide) rfl ?_
        refine ev_icmp_ne 114 110 d_Mo_forward_107 (by decide) rfl ?_ ?_
        · refine ev_bipush 116 d_Mo_forward_114 (by decide) rfl ?_
          refine ev_goto 132 d_Mo_forward_116 (by decide) ?_
          exact ev_wk (hJ132 _ _ _ _ _ u2_h) (ev_subS (ev_subN (ev_subN (ev_subN (ev_subN (ev_subS (ev_subN ev_sub0)))))))
        · refine ev_iconst 111 d_Mo_forward_110 rfl ?_
          refine ev_goto 132 d_Mo_forward_111 (by decide) ?_
          exact ev_wk (hJ132 _ _ _ _ _ u2_h) (ev_subS (ev_subN (ev_subN (ev_subN (ev_subN (ev_subS (ev_subN ev_sub0)))))))
    refine ev_aload0 43 d_Mo_forward_42 rfl ?_
    refine ev_iload1 44 d_Mo_forward_43 rfl ?_
    refine ev_bipush 46 d_Mo_forward_44 (by decide) rfl ?_
    refine ev_iload4 48 d_Mo_forward_46 rfl ?_
    refine ev_aload0 49 d_Mo_forward_48 rfl ?_
    refine ev_gR 52 d_Mo_forward_49 fl_Mo_26 rfl rfl (fun q13 => ?_)
    refine ev_iload2 53 d_Mo_forward_52 rfl ?_
    refine ev_iaload 54 d_Mo_forward_53 rfl (fun z14 => ?_)
    refine ev_iconst 55 d_Mo_forward_54 rfl ?_
    refine ev_aload0 56 d_Mo_forward_55 rfl ?_
    refine ev_gR 59 d_Mo_forward_56 fl_Mo_71 rfl rfl (fun q15 => ?_)
    refine ev_iload5 61 d_Mo_forward_59 rfl ?_
    refine ev_iaload 62 d_Mo_forward_61 rfl (fun z16 => ?_)
    refine ev_iconst 63 d_Mo_forward_62 rfl ?_
    refine ev_cv7V (kk := 2) 66 d_Mo_forward_63 cv_Mo_165 (by decide) (by decide) rfl rfl rfl rfl rfl rfl rfl ev_sm0 (by decide) rfl (t_Mo_send _ _ _ _ _ _ _ _ u1_h) (fun g17 => ?_)
    refine ev_iload3 67 d_Mo_forward_66 rfl ?_
    refine ev_if_eq 93 70 d_Mo_forward_67 (by decide) rfl ?_ ?_
    · exact ev_wk (hJ93 _ _ _ _ g17) (ev_subS (ev_subN (ev_subN (ev_subS (ev_subN (ev_subS (ev_subS ev_sub0)))))))
    · refine ev_aload0 71 d_Mo_forward_70 rfl ?_
      refine ev_iload1 72 d_Mo_forward_71 rfl ?_
      refine ev_bipush 74 d_Mo_forward_72 (by decide) rfl ?_
      refine ev_iload4 76 d_Mo_forward_74 rfl ?_
      refine ev_iload4 78 d_Mo_forward_76 rfl ?_
      refine ev_cs1I (kk := 0) 81 d_Mo_forward_78 cs_Mo_169 (by decide) (by decide) rfl (ev_smc rfl (ev_smc rfl (ev_smc rfl (ev_smc (va_rf_cat _) ev_sm0)))) (by decide) rfl (t_Mo_homeOf _ g17) (fun z19 g18 => ?_)
      refine ev_iconst 82 d_Mo_forward_81 rfl ?_
      refine ev_aload0 83 d_Mo_forward_82 rfl ?_
      refine ev_gR 86 d_Mo_forward_83 fl_Mo_71 rfl rfl (fun q20 => ?_)
      refine ev_iload5 88 d_Mo_forward_86 rfl ?_
      refine ev_iaload 89 d_Mo_forward_88 rfl (fun z21 => ?_)
      refine ev_iconst 90 d_Mo_forward_89 rfl ?_
      refine ev_cv7V (kk := 2) 93 d_Mo_forward_90 cv_Mo_165 (by decide) (by decide) rfl rfl rfl rfl rfl rfl rfl ev_sm0 (by decide) rfl (t_Mo_send _ _ _ _ _ _ _ _ g18) (fun g22 => ?_)
      exact ev_wk (hJ93 _ _ _ _ g22) (ev_subS (ev_subN (ev_subN (ev_subS (ev_subN (ev_subS (ev_subS ev_sub0)))))))
  refine ev_aload0 1 d_Mo_forward_0 rfl ?_
  refine ev_gR 4 d_Mo_forward_1 fl_Mo_17 rfl rfl (fun q23 => ?_)
  refine ev_iload2 5 d_Mo_forward_4 rfl ?_
  refine ev_iaload 6 d_Mo_forward_5 rfl (fun z24 => ?_)
  refine ev_istore4 8 d_Mo_forward_6 (by decide) rfl ?_
  refine ev_bipush 10 d_Mo_forward_8 (by decide) rfl ?_
  refine ev_iload1 11 d_Mo_forward_10 rfl ?_
  refine ev_imul 12 d_Mo_forward_11 rfl ?_
  refine ev_iload4 14 d_Mo_forward_12 rfl ?_
  refine ev_iadd 15 d_Mo_forward_14 rfl ?_
  refine ev_istore5 17 d_Mo_forward_15 (by decide) rfl ?_
  refine ev_aload0 18 d_Mo_forward_17 rfl ?_
  refine ev_gR 21 d_Mo_forward_18 fl_Mo_68 rfl rfl (fun q25 => ?_)
  refine ev_iload5 23 d_Mo_forward_21 rfl ?_
  refine ev_iaload 24 d_Mo_forward_23 rfl (fun z26 => ?_)
  refine ev_istore6 26 d_Mo_forward_24 (by decide) rfl ?_
  refine ev_iload6 28 d_Mo_forward_26 rfl ?_
  refine ev_bipush 30 d_Mo_forward_28 (by decide) rfl ?_
  refine ev_icmp_eq 42 33 d_Mo_forward_30 (by decide) rfl ?_ ?_
  · exact ev_wk (hJ42 _ _ _ _ _ _ _ h) (ev_subS (ev_subS (ev_subS (ev_subS (ev_subS (ev_subS (ev_subS ev_sub0)))))))
  · refine ev_iload6 35 d_Mo_forward_33 rfl ?_
    refine ev_bipush 37 d_Mo_forward_35 (by decide) rfl ?_
    refine ev_icmp_eq 42 40 d_Mo_forward_37 (by decide) rfl ?_ ?_
    · exact ev_wk (hJ42 _ _ _ _ _ _ _ h) (ev_subS (ev_subS (ev_subS (ev_subS (ev_subS (ev_subS (ev_subS ev_sub0)))))))
    · refine ev_iconst 41 d_Mo_forward_40 rfl ?_
      exact ev_zreturn d_Mo_forward_41 rfl
theorem t_Mo_invalidate {E : ev_E} (x0 : Option Nat) (x1 : Int) (x2 : Int) (h : ev_hs) : EvO E M_Mo_invalidate 3 cvI 0 [some (va_rf x0), some (eI x1), some (eI x2), none, none, none] [] h (f_Mo_invalidate x0 x1 x2 h) := by
  unfold f_Mo_invalidate
  refine ev_jn (fun J => ∀ (u1_0 : Option Nat) (u1_1 : Int) (u1_2 : Int) (u1_3 : Int) (u1_4 : Int) (u1_5 : Int) (u1_h : ev_hs), EvO E M_Mo_invalidate 3 cvI 45 [some (va_rf u1_0), some (eI u1_1), some (eI u1_2), some (eI u1_3), some (eI u1_4), some (eI u1_5)] [] u1_h (J u1_0 u1_1 u1_2 u1_3 u1_4 u1_5 u1_h)) ?_ (fun J45 hJ45 => ?_)
  · intro u1_0 u1_1 u1_2 u1_3 u1_4 u1_5 u1_h
    refine ev_jn (fun J => ∀ (u2_0 : Option Nat) (u2_1 : Int) (u2_2 : Int) (u2_3 : Int) (u2_4 : Int) (u2_5 : Int) (u2_s0 : Option Nat) (u2_s1 : Int) (u2_s2 : Int) (u2_h : ev_hs), EvO E M_Mo_invalidate 3 cvI 73 [some (va_rf u2_0), some (eI u2_1), some (eI u2_2), some (eI u2_3), some (eI u2_4), some (eI u2_5)] [eI u2_s2, eI u2_s1, va_rf u2_s0] u2_h (J u2_0 u2_1 u2_2 u2_3 u2_4 u2_5 u2_s0 u2_s1 u2_s2 u2_h)) ?_ (fun J73 hJ73 => ?_)
    · intro u2_0 u2_1 u2_2 u2_3 u2_4 u2_5 u2_s0 u2_s1 u2_s2 u2_h
      refine ev_jn (fun J => ∀ (u3_0 : Option Nat) (u3_1 : Int) (u3_2 : Int) (u3_3 : Int) (u3_s0 : Option Nat) (u3_s1 : Int) (u3_s2 : Int) (u3_h : ev_hs), EvO E M_Mo_invalidate 3 cvI 97 [some (va_rf u3_0), some (eI u3_1), some (eI u3_2), some (eI u3_3), none, none] [eI u3_s2, eI u3_s1, va_rf u3_s0] u3_h (J u3_0 u3_1 u3_2 u3_3 u3_s0 u3_s1 u3_s2 u3_h)) ?_ (fun J97 hJ97 => ?_)
      · intro u3_0 u3_1 u3_2 u3_3 u3_s0 u3_s1 u3_s2 u3_h
        refine ev_iastore 98 d_Mo_invalidate_97 rfl (fun g4 => ?_)
        refine ev_aload0 99 d_Mo_invalidate_98 rfl ?_
        refine ev_iload1 100 d_Mo_invalidate_99 rfl ?_
        refine ev_bipush 102 d_Mo_invalidate_100 (by decide) rfl ?_
        refine ev_iload3 103 d_Mo_invalidate_102 rfl ?_
        refine ev_aload0 104 d_Mo_invalidate_103 rfl ?_
        refine ev_gR 107 d_Mo_invalidate_104 fl_Mo_26 rfl rfl (fun q5 => ?_)
        refine ev_iload2 108 d_Mo_invalidate_107 rfl ?_
        refine ev_iaload 109 d_Mo_invalidate_108 rfl (fun z6 => ?_)
        refine ev_iconst 110 d_Mo_invalidate_109 rfl ?_
        refine ev_iconst 111 d_Mo_invalidate_110 rfl ?_
        refine ev_iconst 112 d_Mo_invalidate_111 rfl ?_
        refine ev_cv7V (kk := 2) 115 d_Mo_invalidate_112 cv_Mo_165 (by decide) (by decide) rfl rfl rfl rfl rfl rfl rfl ev_sm0 (by decide) rfl (t_Mo_send _ _ _ _ _ _ _ _ g4) (fun g7 => ?_)
        refine ev_iconst 116 d_Mo_invalidate_115 rfl ?_
        exact ev_zreturn d_Mo_invalidate_116 rfl
      refine ev_iastore 74 d_Mo_invalidate_73 rfl (fun g8 => ?_)
      refine ev_aload0 75 d_Mo_invalidate_74 rfl ?_
      refine ev_gR 78 d_Mo_invalidate_75 fl_Mo_71 rfl rfl (fun q9 => ?_)
      refine ev_iload4 80 d_Mo_invalidate_78 rfl ?_
      refine ev_iload5 82 d_Mo_invalidate_80 rfl ?_
      refine ev_iconst 83 d_Mo_invalidate_82 rfl ?_
      refine ev_icmp_ne 90 86 d_Mo_invalidate_83 (by decide) rfl ?_ ?_
      · refine ev_aload0 91 d_Mo_invalidate_90 rfl ?_
        refine ev_gR 94 d_Mo_invalidate_91 fl_Mo_71 rfl rfl (fun q10 => ?_)
        refine ev_iload4 96 d_Mo_invalidate_94 rfl ?_
        refine ev_iaload 97 d_Mo_invalidate_96 rfl (fun z11 => ?_)
        exact ev_wk (hJ97 _ _ _ _ _ _ _ g8) (ev_subS (ev_subS (ev_subS (ev_subS (ev_subN (ev_subN ev_sub0))))))
      · refine ev_iconst 87 d_Mo_invalidate_86 rfl ?_
        refine ev_goto 97 d_Mo_invalidate_87 (by decide) ?_
        exact ev_wk (hJ97 _ _ _ _ _ _ _ g8) (ev_subS (ev_subS (ev_subS (ev_subS (ev_subN (ev_subN ev_sub0))))))
    refine ev_aload0 46 d_Mo_invalidate_45 rfl ?_
    refine ev_gR 49 d_Mo_invalidate_46 fl_Mo_68 rfl rfl (fun q12 => ?_)
    refine ev_iload4 51 d_Mo_invalidate_49 rfl ?_
    refine ev_iload5 53 d_Mo_invalidate_51 rfl ?_
    refine ev_iconst 54 d_Mo_invalidate_53 rfl ?_
    refine ev_icmp_ne 61 57 d_Mo_invalidate_54 (by decide) rfl ?_ ?_
    · refine ev_iload5 63 d_Mo_invalidate_61 rfl ?_
      refine ev_iconst 64 d_Mo_invalidate_63 rfl ?_
      refine ev_icmp_ne 71 67 d_Mo_invalidate_64 (by decide) rfl ?_ ?_
      · refine ev_bipush 73 d_Mo_invalidate_71 (by decide) rfl ?_
        exact ev_wk (hJ73 _ _ _ _ _ _ _ _ _ u1_h) (ev_subS (ev_subS (ev_subS (ev_subS (ev_subS (ev_subS ev_sub0))))))
      · refine ev_iconst 68 d_Mo_invalidate_67 rfl ?_
        refine ev_goto 73 d_Mo_invalidate_68 (by decide) ?_
        exact ev_wk (hJ73 _ _ _ _ _ _ _ _ _ u1_h) (ev_subS (ev_subS (ev_subS (ev_subS (ev_subS (ev_subS ev_sub0))))))
    · refine ev_iconst 58 d_Mo_invalidate_57 rfl ?_
      refine ev_goto 73 d_Mo_invalidate_58 (by decide) ?_
      exact ev_wk (hJ73 _ _ _ _ _ _ _ _ _ u1_h) (ev_subS (ev_subS (ev_subS (ev_subS (ev_subS (ev_subS ev_sub0))))))
  refine ev_aload0 1 d_Mo_invalidate_0 rfl ?_
  refine ev_gR 4 d_Mo_invalidate_1 fl_Mo_17 rfl rfl (fun q13 => ?_)
  refine ev_iload2 5 d_Mo_invalidate_4 rfl ?_
  refine ev_iaload 6 d_Mo_invalidate_5 rfl (fun z14 => ?_)
  refine ev_istore3 7 d_Mo_invalidate_6 (by decide) rfl ?_
  refine ev_bipush 9 d_Mo_invalidate_7 (by decide) rfl ?_
  refine ev_iload1 10 d_Mo_invalidate_9 rfl ?_
  refine ev_imul 11 d_Mo_invalidate_10 rfl ?_
  refine ev_iload3 12 d_Mo_invalidate_11 rfl ?_
  refine ev_iadd 13 d_Mo_invalidate_12 rfl ?_
  refine ev_istore4 15 d_Mo_invalidate_13 (by decide) rfl ?_
  refine ev_aload0 16 d_Mo_invalidate_15 rfl ?_
  refine ev_gR 19 d_Mo_invalidate_16 fl_Mo_68 rfl rfl (fun q15 => ?_)
  refine ev_iload4 21 d_Mo_invalidate_19 rfl ?_
  refine ev_iaload 22 d_Mo_invalidate_21 rfl (fun z16 => ?_)
  refine ev_istore5 24 d_Mo_invalidate_22 (by decide) rfl ?_
  refine ev_iload5 26 d_Mo_invalidate_24 rfl ?_
  refine ev_iconst 27 d_Mo_invalidate_26 rfl ?_
  refine ev_icmp_eq 45 30 d_Mo_invalidate_27 (by decide) rfl ?_ ?_
  · exact ev_wk (hJ45 _ _ _ _ _ _ h) (ev_subS (ev_subS (ev_subS (ev_subS (ev_subS (ev_subS ev_sub0))))))
  · refine ev_iload5 32 d_Mo_invalidate_30 rfl ?_
    refine ev_iconst 33 d_Mo_invalidate_32 rfl ?_
    refine ev_icmp_eq 45 36 d_Mo_invalidate_33 (by decide) rfl ?_ ?_
    · exact ev_wk (hJ45 _ _ _ _ _ _ h) (ev_subS (ev_subS (ev_subS (ev_subS (ev_subS (ev_subS ev_sub0))))))
    · refine ev_iload5 38 d_Mo_invalidate_36 rfl ?_
      refine ev_bipush 40 d_Mo_invalidate_38 (by decide) rfl ?_
      refine ev_icmp_eq 45 43 d_Mo_invalidate_40 (by decide) rfl ?_ ?_
      · exact ev_wk (hJ45 _ _ _ _ _ _ h) (ev_subS (ev_subS (ev_subS (ev_subS (ev_subS (ev_subS ev_sub0))))))
      · refine ev_iconst 44 d_Mo_invalidate_43 rfl ?_
        exact ev_zreturn d_Mo_invalidate_44 rfl
theorem t_Mo_finish {E : ev_E} (x0 : Option Nat) (x1 : Int) (x2 : Int) (h : ev_hs) : EvO E M_Mo_finish 1 cvV 0 [some (va_rf x0), some (eI x1), some (eI x2), none, none] [] h (f_Mo_finish x0 x1 x2 h) := by
  unfold f_Mo_finish
  refine ev_jn (fun J => ∀ (u1_0 : Option Nat) (u1_1 : Int) (u1_3 : Int) (u1_4 : Int) (u1_s0 : Option Nat) (u1_s1 : Int) (u1_s2 : Int) (u1_h : ev_hs), EvO E M_Mo_finish 1 cvV 46 [some (va_rf u1_0), some (eI u1_1), none, some (eI u1_3), some (eI u1_4)] [eI u1_s2, eI u1_s1, va_rf u1_s0] u1_h (J u1_0 u1_1 u1_3 u1_4 u1_s0 u1_s1 u1_s2 u1_h)) ?_ (fun J46 hJ46 => ?_)
  · intro u1_0 u1_1 u1_3 u1_4 u1_s0 u1_s1 u1_s2 u1_h
    refine ev_jn (fun J => ∀ (u2_0 : Option Nat) (u2_1 : Int) (u2_4 : Int) (u2_s0 : Option Nat) (u2_s1 : Int) (u2_s2 : Int) (u2_h : ev_hs), EvO E M_Mo_finish 1 cvV 78 [some (va_rf u2_0), some (eI u2_1), none, none, some (eI u2_4)] [eI u2_s2, eI u2_s1, va_rf u2_s0] u2_h (J u2_0 u2_1 u2_4 u2_s0 u2_s1 u2_s2 u2_h)) ?_ (fun J78 hJ78 => ?_)
    · intro u2_0 u2_1 u2_4 u2_s0 u2_s1 u2_s2 u2_h
      refine ev_iastore 79 d_Mo_finish_78 rfl (fun g3 => ?_)
      refine ev_aload0 80 d_Mo_finish_79 rfl ?_
      refine ev_gR 83 d_Mo_finish_80 fl_Mo_77 rfl rfl (fun q4 => ?_)
      refine ev_iload4 85 d_Mo_finish_83 rfl ?_
      refine ev_aload0 86 d_Mo_finish_85 rfl ?_
      refine ev_gI 89 d_Mo_finish_86 fl_Mo_130 rfl rfl (fun z5 => ?_)
      refine ev_iastore 90 d_Mo_finish_89 rfl (fun g6 => ?_)
      refine ev_aload0 91 d_Mo_finish_90 rfl ?_
      refine ev_gR 94 d_Mo_finish_91 fl_Mo_110 rfl rfl (fun q7 => ?_)
      refine ev_iload1 95 d_Mo_finish_94 rfl ?_
      refine ev_dup2 96 d_Mo_finish_95 rfl (va_rf_cat _) rfl ?_
      refine ev_iaload 97 d_Mo_finish_96 rfl (fun z8 => ?_)
      refine ev_iconst 98 d_Mo_finish_97 rfl ?_
      refine ev_iadd 99 d_Mo_finish_98 rfl ?_
      refine ev_iastore 100 d_Mo_finish_99 rfl (fun g9 => ?_)
      exact ev_return d_Mo_finish_100 rfl
    refine ev_iastore 47 d_Mo_finish_46 rfl (fun g10 => ?_)
    refine ev_aload0 48 d_Mo_finish_47 rfl ?_
    refine ev_gR 51 d_Mo_finish_48 fl_Mo_71 rfl rfl (fun q11 => ?_)
    refine ev_iload4 53 d_Mo_finish_51 rfl ?_
    refine ev_aload0 54 d_Mo_finish_53 rfl ?_
    refine ev_gR 57 d_Mo_finish_54 fl_Mo_92 rfl rfl (fun q12 => ?_)
    refine ev_iload3 58 d_Mo_finish_57 rfl ?_
    refine ev_iaload 59 d_Mo_finish_58 rfl (fun z13 => ?_)
    refine ev_if_ne 72 62 d_Mo_finish_59 (by decide) rfl ?_ ?_
    · refine ev_aload0 73 d_Mo_finish_72 rfl ?_
      refine ev_gR 76 d_Mo_finish_73 fl_Mo_98 rfl rfl (fun q14 => ?_)
      refine ev_iload3 77 d_Mo_finish_76 rfl ?_
      refine ev_iaload 78 d_Mo_finish_77 rfl (fun z15 => ?_)
      exact ev_wk (hJ78 _ _ _ _ _ _ g10) (ev_subS (ev_subS (ev_subN (ev_subN (ev_subS ev_sub0)))))
    · refine ev_aload0 63 d_Mo_finish_62 rfl ?_
      refine ev_gR 66 d_Mo_finish_63 fl_Mo_71 rfl rfl (fun q16 => ?_)
      refine ev_iload4 68 d_Mo_finish_66 rfl ?_
      refine ev_iaload 69 d_Mo_finish_68 rfl (fun z17 => ?_)
      refine ev_goto 78 d_Mo_finish_69 (by decide) ?_
      exact ev_wk (hJ78 _ _ _ _ _ _ g10) (ev_subS (ev_subS (ev_subN (ev_subN (ev_subS ev_sub0)))))
  refine ev_bipush 2 d_Mo_finish_0 (by decide) rfl ?_
  refine ev_iload1 3 d_Mo_finish_2 rfl ?_
  refine ev_imul 4 d_Mo_finish_3 rfl ?_
  refine ev_aload0 5 d_Mo_finish_4 rfl ?_
  refine ev_gR 8 d_Mo_finish_5 fl_Mo_110 rfl rfl (fun q18 => ?_)
  refine ev_iload1 9 d_Mo_finish_8 rfl ?_
  refine ev_iaload 10 d_Mo_finish_9 rfl (fun z19 => ?_)
  refine ev_iadd 11 d_Mo_finish_10 rfl ?_
  refine ev_istore3 12 d_Mo_finish_11 (by decide) rfl ?_
  refine ev_bipush 14 d_Mo_finish_12 (by decide) rfl ?_
  refine ev_iload1 15 d_Mo_finish_14 rfl ?_
  refine ev_imul 16 d_Mo_finish_15 rfl ?_
  refine ev_iload2 17 d_Mo_finish_16 rfl ?_
  refine ev_iadd 18 d_Mo_finish_17 rfl ?_
  refine ev_istore4 20 d_Mo_finish_18 (by decide) rfl ?_
  refine ev_aload0 21 d_Mo_finish_20 rfl ?_
  refine ev_gR 24 d_Mo_finish_21 fl_Mo_104 rfl rfl (fun q20 => ?_)
  refine ev_iload3 25 d_Mo_finish_24 rfl ?_
  refine ev_aload0 26 d_Mo_finish_25 rfl ?_
  refine ev_gR 29 d_Mo_finish_26 fl_Mo_92 rfl rfl (fun q21 => ?_)
  refine ev_iload3 30 d_Mo_finish_29 rfl ?_
  refine ev_iaload 31 d_Mo_finish_30 rfl (fun z22 => ?_)
  refine ev_iconst 32 d_Mo_finish_31 rfl ?_
  refine ev_icmp_ne 39 35 d_Mo_finish_32 (by decide) rfl ?_ ?_
  · refine ev_aload0 40 d_Mo_finish_39 rfl ?_
    refine ev_gR 43 d_Mo_finish_40 fl_Mo_71 rfl rfl (fun q23 => ?_)
    refine ev_iload4 45 d_Mo_finish_43 rfl ?_
    refine ev_iaload 46 d_Mo_finish_45 rfl (fun z24 => ?_)
    exact ev_wk (hJ46 _ _ _ _ _ _ _ h) (ev_subS (ev_subS (ev_subN (ev_subS (ev_subS ev_sub0)))))
  · refine ev_iconst 36 d_Mo_finish_35 rfl ?_
    refine ev_goto 46 d_Mo_finish_36 (by decide) ?_
    exact ev_wk (hJ46 _ _ _ _ _ _ _ h) (ev_subS (ev_subS (ev_subN (ev_subS (ev_subS ev_sub0)))))
theorem t_Mo_become {E : ev_E} (x0 : Option Nat) (x1 : Int) (x2 : Int) (x3 : Int) (h : ev_hs) : EvO E M_Mo_become 2 cvV 0 [some (va_rf x0), some (eI x1), some (eI x2), some (eI x3)] [] h (f_Mo_become x0 x1 x2 x3 h) := by
  unfold f_Mo_become
  refine ev_jn (fun J => ∀ (u1_0 : Option Nat) (u1_1 : Int) (u1_2 : Int) (u1_h : ev_hs), EvO E M_Mo_become 2 cvV 23 [some (va_rf u1_0), some (eI u1_1), some (eI u1_2), none] [] u1_h (J u1_0 u1_1 u1_2 u1_h)) ?_ (fun J23 hJ23 => ?_)
  · intro u1_0 u1_1 u1_2 u1_h
    refine ev_aload0 24 d_Mo_become_23 rfl ?_
    refine ev_iload1 25 d_Mo_become_24 rfl ?_
    refine ev_iload2 26 d_Mo_become_25 rfl ?_
    refine ev_cv2V (kk := 2) 29 d_Mo_become_26 cv_Mo_161 (by decide) (by decide) rfl rfl ev_sm0 (by decide) rfl (t_Mo_finish _ _ _ u1_h) (fun g2 => ?_)
    refine ev_aload0 30 d_Mo_become_29 rfl ?_
    refine ev_gR 33 d_Mo_become_30 fl_Mo_113 rfl rfl (fun q3 => ?_)
    refine ev_iload1 34 d_Mo_become_33 rfl ?_
    refine ev_iconst 35 d_Mo_become_34 rfl ?_
    refine ev_bastore 36 d_Mo_become_35 rfl (fun g4 => ?_)
    exact ev_return d_Mo_become_36 rfl
  refine ev_aload0 1 d_Mo_become_0 rfl ?_
  refine ev_gR 4 d_Mo_become_1 fl_Mo_68 rfl rfl (fun q5 => ?_)
  refine ev_bipush 6 d_Mo_become_4 (by decide) rfl ?_
  refine ev_iload1 7 d_Mo_become_6 rfl ?_
  refine ev_imul 8 d_Mo_become_7 rfl ?_
  refine ev_iload2 9 d_Mo_become_8 rfl ?_
  refine ev_iadd 10 d_Mo_become_9 rfl ?_
  refine ev_iload3 11 d_Mo_become_10 rfl ?_
  refine ev_iastore 12 d_Mo_become_11 rfl (fun g6 => ?_)
  refine ev_iload3 13 d_Mo_become_12 rfl ?_
  refine ev_iconst 14 d_Mo_become_13 rfl ?_
  refine ev_icmp_eq 23 17 d_Mo_become_14 (by decide) rfl ?_ ?_
  · exact ev_wk (hJ23 _ _ _ g6) (ev_subS (ev_subS (ev_subS (ev_subN ev_sub0))))
  · refine ev_iload3 18 d_Mo_become_17 rfl ?_
    refine ev_bipush 20 d_Mo_become_18 (by decide) rfl ?_
    refine ev_icmp_ne 36 23 d_Mo_become_20 (by decide) rfl ?_ ?_
    · exact ev_return d_Mo_become_36 rfl
    · exact ev_wk (hJ23 _ _ _ g6) (ev_subS (ev_subS (ev_subS (ev_subN ev_sub0))))
theorem t_Mo_data {E : ev_E} (x0 : Option Nat) (x1 : Int) (x2 : Int) (h : ev_hs) : EvO E M_Mo_data 3 cvV 0 [some (va_rf x0), some (eI x1), some (eI x2), none, none, none] [] h (f_Mo_data x0 x1 x2 h) := by
  unfold f_Mo_data
  refine ev_aload0 1 d_Mo_data_0 rfl ?_
  refine ev_gR 4 d_Mo_data_1 fl_Mo_17 rfl rfl (fun q1 => ?_)
  refine ev_iload2 5 d_Mo_data_4 rfl ?_
  refine ev_iaload 6 d_Mo_data_5 rfl (fun z2 => ?_)
  refine ev_istore3 7 d_Mo_data_6 (by decide) rfl ?_
  refine ev_bipush 9 d_Mo_data_7 (by decide) rfl ?_
  refine ev_iload1 10 d_Mo_data_9 rfl ?_
  refine ev_imul 11 d_Mo_data_10 rfl ?_
  refine ev_iload3 12 d_Mo_data_11 rfl ?_
  refine ev_iadd 13 d_Mo_data_12 rfl ?_
  refine ev_istore4 15 d_Mo_data_13 (by decide) rfl ?_
  refine ev_aload0 16 d_Mo_data_15 rfl ?_
  refine ev_gR 19 d_Mo_data_16 fl_Mo_68 rfl rfl (fun q3 => ?_)
  refine ev_iload4 21 d_Mo_data_19 rfl ?_
  refine ev_iaload 22 d_Mo_data_21 rfl (fun z4 => ?_)
  refine ev_istore5 24 d_Mo_data_22 (by decide) rfl ?_
  refine ev_aload0 25 d_Mo_data_24 rfl ?_
  refine ev_gR 28 d_Mo_data_25 fl_Mo_74 rfl rfl (fun q5 => ?_)
  refine ev_iload4 30 d_Mo_data_28 rfl ?_
  refine ev_dup2 31 d_Mo_data_30 rfl (va_rf_cat _) rfl ?_
  refine ev_iaload 32 d_Mo_data_31 rfl (fun z6 => ?_)
  refine ev_aload0 33 d_Mo_data_32 rfl ?_
  refine ev_gR 36 d_Mo_data_33 fl_Mo_32 rfl rfl (fun q7 => ?_)
  refine ev_iload2 37 d_Mo_data_36 rfl ?_
  refine ev_iaload 38 d_Mo_data_37 rfl (fun z8 => ?_)
  refine ev_iadd 39 d_Mo_data_38 rfl ?_
  refine ev_iastore 40 d_Mo_data_39 rfl (fun g9 => ?_)
  refine ev_aload0 41 d_Mo_data_40 rfl ?_
  refine ev_gR 44 d_Mo_data_41 fl_Mo_71 rfl rfl (fun q10 => ?_)
  refine ev_iload4 46 d_Mo_data_44 rfl ?_
  refine ev_aload0 47 d_Mo_data_46 rfl ?_
  refine ev_gR 50 d_Mo_data_47 fl_Mo_29 rfl rfl (fun q11 => ?_)
  refine ev_iload2 51 d_Mo_data_50 rfl ?_
  refine ev_iaload 52 d_Mo_data_51 rfl (fun z12 => ?_)
  refine ev_iastore 53 d_Mo_data_52 rfl (fun g13 => ?_)
  refine ev_iload5 55 d_Mo_data_53 rfl ?_
  refine ev_iconst 56 d_Mo_data_55 rfl ?_
  refine ev_icmp_ne 69 59 d_Mo_data_56 (by decide) rfl ?_ ?_
  · refine ev_aload0 70 d_Mo_data_69 rfl ?_
    refine ev_gR 73 d_Mo_data_70 fl_Mo_74 rfl rfl (fun q14 => ?_)
    refine ev_iload4 75 d_Mo_data_73 rfl ?_
    refine ev_iaload 76 d_Mo_data_75 rfl (fun z15 => ?_)
    refine ev_if_ne 90 79 d_Mo_data_76 (by decide) rfl ?_ ?_
    · refine ev_jn (fun J => ∀ (u16_s0 : Option Nat) (u16_s1 : Int) (u16_s2 : Int) (u16_h : ev_hs), EvO E M_Mo_data 3 cvV 108 [none, none, none, none, none, none] [eI u16_s2, eI u16_s1, va_rf u16_s0] u16_h (J u16_s0 u16_s1 u16_s2 u16_h)) ?_ (fun J108 hJ108 => ?_)
      · intro u16_s0 u16_s1 u16_s2 u16_h
        refine ev_iastore 109 d_Mo_data_108 rfl (fun g17 => ?_)
        exact ev_return d_Mo_data_109 rfl
      refine ev_aload0 91 d_Mo_data_90 rfl ?_
      refine ev_gR 94 d_Mo_data_91 fl_Mo_68 rfl rfl (fun q18 => ?_)
      refine ev_iload4 96 d_Mo_data_94 rfl ?_
      refine ev_iload5 98 d_Mo_data_96 rfl ?_
      refine ev_iconst 99 d_Mo_data_98 rfl ?_
      refine ev_icmp_ne 106 102 d_Mo_data_99 (by decide) rfl ?_ ?_
      · refine ev_bipush 108 d_Mo_data_106 (by decide) rfl ?_
        exact ev_wk (hJ108 _ _ _ g13) (ev_subN (ev_subN (ev_subN (ev_subN (ev_subN (ev_subN ev_sub0))))))
      · refine ev_iconst 103 d_Mo_data_102 rfl ?_
        refine ev_goto 108 d_Mo_data_103 (by decide) ?_
        exact ev_wk (hJ108 _ _ _ g13) (ev_subN (ev_subN (ev_subN (ev_subN (ev_subN (ev_subN ev_sub0))))))
    · refine ev_aload0 80 d_Mo_data_79 rfl ?_
      refine ev_iload1 81 d_Mo_data_80 rfl ?_
      refine ev_iload3 82 d_Mo_data_81 rfl ?_
      refine ev_bipush 84 d_Mo_data_82 (by decide) rfl ?_
      refine ev_cv3V (kk := 0) 87 d_Mo_data_84 cv_Mo_172 (by decide) (by decide) rfl rfl rfl ev_sm0 (by decide) rfl (t_Mo_become _ _ _ _ g13) (fun g19 => ?_)
      refine ev_goto 109 d_Mo_data_87 (by decide) ?_
      exact ev_return d_Mo_data_109 rfl
  · refine ev_aload0 60 d_Mo_data_59 rfl ?_
    refine ev_iload1 61 d_Mo_data_60 rfl ?_
    refine ev_iload3 62 d_Mo_data_61 rfl ?_
    refine ev_iconst 63 d_Mo_data_62 rfl ?_
    refine ev_cv3V (kk := 0) 66 d_Mo_data_63 cv_Mo_172 (by decide) (by decide) rfl rfl rfl ev_sm0 (by decide) rfl (t_Mo_become _ _ _ _ g13) (fun g20 => ?_)
    refine ev_goto 109 d_Mo_data_66 (by decide) ?_
    exact ev_return d_Mo_data_109 rfl
theorem t_Mo_acknowledged {E : ev_E} (x0 : Option Nat) (x1 : Int) (x2 : Int) (h : ev_hs) : EvO E M_Mo_acknowledged 3 cvV 0 [some (va_rf x0), some (eI x1), some (eI x2), none, none] [] h (f_Mo_acknowledged x0 x1 x2 h) := by
  unfold f_Mo_acknowledged
  refine ev_aload0 1 d_Mo_acknowledged_0 rfl ?_
  refine ev_gR 4 d_Mo_acknowledged_1 fl_Mo_17 rfl rfl (fun q1 => ?_)
  refine ev_iload2 5 d_Mo_acknowledged_4 rfl ?_
  refine ev_iaload 6 d_Mo_acknowledged_5 rfl (fun z2 => ?_)
  refine ev_istore3 7 d_Mo_acknowledged_6 (by decide) rfl ?_
  refine ev_bipush 9 d_Mo_acknowledged_7 (by decide) rfl ?_
  refine ev_iload1 10 d_Mo_acknowledged_9 rfl ?_
  refine ev_imul 11 d_Mo_acknowledged_10 rfl ?_
  refine ev_iload3 12 d_Mo_acknowledged_11 rfl ?_
  refine ev_iadd 13 d_Mo_acknowledged_12 rfl ?_
  refine ev_istore4 15 d_Mo_acknowledged_13 (by decide) rfl ?_
  refine ev_aload0 16 d_Mo_acknowledged_15 rfl ?_
  refine ev_gR 19 d_Mo_acknowledged_16 fl_Mo_74 rfl rfl (fun q3 => ?_)
  refine ev_iload4 21 d_Mo_acknowledged_19 rfl ?_
  refine ev_dup2 22 d_Mo_acknowledged_21 rfl (va_rf_cat _) rfl ?_
  refine ev_iaload 23 d_Mo_acknowledged_22 rfl (fun z4 => ?_)
  refine ev_iconst 24 d_Mo_acknowledged_23 rfl ?_
  refine ev_isub 25 d_Mo_acknowledged_24 rfl ?_
  refine ev_iastore 26 d_Mo_acknowledged_25 rfl (fun g5 => ?_)
  refine ev_aload0 27 d_Mo_acknowledged_26 rfl ?_
  refine ev_gR 30 d_Mo_acknowledged_27 fl_Mo_74 rfl rfl (fun q6 => ?_)
  refine ev_iload4 32 d_Mo_acknowledged_30 rfl ?_
  refine ev_iaload 33 d_Mo_acknowledged_32 rfl (fun z7 => ?_)
  refine ev_if_ne 67 36 d_Mo_acknowledged_33 (by decide) rfl ?_ ?_
  · exact ev_return d_Mo_acknowledged_67 rfl
  · refine ev_jn (fun J => ∀ (u8_0 : Option Nat) (u8_1 : Int) (u8_3 : Int) (u8_h : ev_hs), EvO E M_Mo_acknowledged 3 cvV 59 [some (va_rf u8_0), some (eI u8_1), none, some (eI u8_3), none] [] u8_h (J u8_0 u8_1 u8_3 u8_h)) ?_ (fun J59 hJ59 => ?_)
    · intro u8_0 u8_1 u8_3 u8_h
      refine ev_aload0 60 d_Mo_acknowledged_59 rfl ?_
      refine ev_iload1 61 d_Mo_acknowledged_60 rfl ?_
      refine ev_iload3 62 d_Mo_acknowledged_61 rfl ?_
      refine ev_bipush 64 d_Mo_acknowledged_62 (by decide) rfl ?_
      refine ev_cv3V (kk := 0) 67 d_Mo_acknowledged_64 cv_Mo_172 (by decide) (by decide) rfl rfl rfl ev_sm0 (by decide) rfl (t_Mo_become _ _ _ _ u8_h) (fun g9 => ?_)
      exact ev_return d_Mo_acknowledged_67 rfl
    refine ev_aload0 37 d_Mo_acknowledged_36 rfl ?_
    refine ev_gR 40 d_Mo_acknowledged_37 fl_Mo_68 rfl rfl (fun q10 => ?_)
    refine ev_iload4 42 d_Mo_acknowledged_40 rfl ?_
    refine ev_iaload 43 d_Mo_acknowledged_42 rfl (fun z11 => ?_)
    refine ev_iconst 44 d_Mo_acknowledged_43 rfl ?_
    refine ev_icmp_eq 59 47 d_Mo_acknowledged_44 (by decide) rfl ?_ ?_
    · exact ev_wk (hJ59 _ _ _ g5) (ev_subS (ev_subS (ev_subN (ev_subS (ev_subN ev_sub0)))))
    · refine ev_aload0 48 d_Mo_acknowledged_47 rfl ?_
      refine ev_gR 51 d_Mo_acknowledged_48 fl_Mo_68 rfl rfl (fun q12 => ?_)
      refine ev_iload4 53 d_Mo_acknowledged_51 rfl ?_
      refine ev_iaload 54 d_Mo_acknowledged_53 rfl (fun z13 => ?_)
      refine ev_bipush 56 d_Mo_acknowledged_54 (by decide) rfl ?_
      refine ev_icmp_ne 67 59 d_Mo_acknowledged_56 (by decide) rfl ?_ ?_
      · exact ev_return d_Mo_acknowledged_67 rfl
      · exact ev_wk (hJ59 _ _ _ g5) (ev_subS (ev_subS (ev_subN (ev_subS (ev_subN ev_sub0)))))
theorem t_Mo_takes {E : ev_E} (x0 : Option Nat) (x1 : Int) (x2 : Int) (h : ev_hs) : EvO E M_Mo_takes 4 cvI 0 [some (va_rf x0), some (eI x1), some (eI x2), none, none] [] h (f_Mo_takes x0 x1 x2 h) := by
  unfold f_Mo_takes
  refine ev_aload0 1 d_Mo_takes_0 rfl ?_
  refine ev_gR 4 d_Mo_takes_1 fl_Mo_17 rfl rfl (fun q1 => ?_)
  refine ev_iload2 5 d_Mo_takes_4 rfl ?_
  refine ev_iaload 6 d_Mo_takes_5 rfl (fun z2 => ?_)
  refine ev_istore3 7 d_Mo_takes_6 (by decide) rfl ?_
  refine ev_aload0 8 d_Mo_takes_7 rfl ?_
  refine ev_gR 11 d_Mo_takes_8 fl_Mo_23 rfl rfl (fun q3 => ?_)
  refine ev_iload2 12 d_Mo_takes_11 rfl ?_
  refine ev_iaload 13 d_Mo_takes_12 rfl (fun z4 => ?_)
  refine ev_istore4 15 d_Mo_takes_13 (by decide) rfl ?_
  refine ev_aload0 16 d_Mo_takes_15 rfl ?_
  refine ev_gR 19 d_Mo_takes_16 fl_Mo_13 rfl rfl (fun q5 => ?_)
  refine ev_iload2 20 d_Mo_takes_19 rfl ?_
  refine ev_iaload 21 d_Mo_takes_20 rfl (fun z6 => ?_)
  refine ev_peel (fun ee7 => ?_) (fun ne7 oe7 => ?_)
  · refine ev_tsIn 76 d_Mo_takes_21 ee7 (by decide) (by decide) (by decide) rfl (by decide) ?_
    refine ev_aload0 77 d_Mo_takes_76 rfl ?_
    refine ev_iload1 78 d_Mo_takes_77 rfl ?_
    refine ev_iload3 79 d_Mo_takes_78 rfl ?_
    refine ev_iload4 81 d_Mo_takes_79 rfl ?_
    refine ev_cv3I (kk := 0) 84 d_Mo_takes_81 cv_Mo_178 (by decide) (by decide) rfl rfl rfl ev_sm0 (by decide) rfl (t_Mo_gets _ _ _ _ h) (fun z9 g8 => ?_)
    exact ev_zreturn d_Mo_takes_84 rfl
  refine ev_peel (fun ee10 => ?_) (fun ne10 oe10 => ?_)
  · refine ev_tsIn 85 d_Mo_takes_21 ee10 (by decide) (by decide) (by decide) rfl (by decide) ?_
    refine ev_aload0 86 d_Mo_takes_85 rfl ?_
    refine ev_iload1 87 d_Mo_takes_86 rfl ?_
    refine ev_iload3 88 d_Mo_takes_87 rfl ?_
    refine ev_iload4 90 d_Mo_takes_88 rfl ?_
    refine ev_cv3I (kk := 3) 93 d_Mo_takes_90 cv_Mo_182 (by decide) (by decide) rfl rfl rfl ev_sm0 (by decide) rfl (t_Mo_getm _ _ _ _ h) (fun z12 g11 => ?_)
    exact ev_zreturn d_Mo_takes_93 rfl
  refine ev_peel (fun ee13 => ?_) (fun ne13 oe13 => ?_)
  · refine ev_tsIn 94 d_Mo_takes_21 ee13 (by decide) (by decide) (by decide) rfl (by decide) ?_
    refine ev_aload0 95 d_Mo_takes_94 rfl ?_
    refine ev_iload3 96 d_Mo_takes_95 rfl ?_
    refine ev_iload4 98 d_Mo_takes_96 rfl ?_
    refine ev_cv2V (kk := 0) 101 d_Mo_takes_98 cv_Mo_175 (by decide) (by decide) rfl rfl ev_sm0 (by decide) rfl (t_Mo_gone _ _ _ h) (fun g14 => ?_)
    refine ev_aload0 102 d_Mo_takes_101 rfl ?_
    refine ev_iload1 103 d_Mo_takes_102 rfl ?_
    refine ev_bipush 105 d_Mo_takes_103 (by decide) rfl ?_
    refine ev_iload3 106 d_Mo_takes_105 rfl ?_
    refine ev_iload4 108 d_Mo_takes_106 rfl ?_
    refine ev_iconst 109 d_Mo_takes_108 rfl ?_
    refine ev_iconst 110 d_Mo_takes_109 rfl ?_
    refine ev_iconst 111 d_Mo_takes_110 rfl ?_
    refine ev_cv7V (kk := 2) 114 d_Mo_takes_111 cv_Mo_165 (by decide) (by decide) rfl rfl rfl rfl rfl rfl rfl ev_sm0 (by decide) rfl (t_Mo_send _ _ _ _ _ _ _ _ g14) (fun g15 => ?_)
    refine ev_iconst 115 d_Mo_takes_114 rfl ?_
    exact ev_zreturn d_Mo_takes_115 rfl
  refine ev_peel (fun ee16 => ?_) (fun ne16 oe16 => ?_)
  · refine ev_tsIn 116 d_Mo_takes_21 ee16 (by decide) (by decide) (by decide) rfl (by decide) ?_
    refine ev_aload0 117 d_Mo_takes_116 rfl ?_
    refine ev_iload3 118 d_Mo_takes_117 rfl ?_
    refine ev_iload4 120 d_Mo_takes_118 rfl ?_
    refine ev_aload0 121 d_Mo_takes_120 rfl ?_
    refine ev_gR 124 d_Mo_takes_121 fl_Mo_29 rfl rfl (fun q17 => ?_)
    refine ev_iload2 125 d_Mo_takes_124 rfl ?_
    refine ev_iaload 126 d_Mo_takes_125 rfl (fun z18 => ?_)
    refine ev_cv3V (kk := 0) 129 d_Mo_takes_126 cv_Mo_185 (by decide) (by decide) rfl rfl rfl ev_sm0 (by decide) rfl (t_Mo_putm _ _ _ _ h) (fun g19 => ?_)
    refine ev_aload0 130 d_Mo_takes_129 rfl ?_
    refine ev_iload1 131 d_Mo_takes_130 rfl ?_
    refine ev_bipush 133 d_Mo_takes_131 (by decide) rfl ?_
    refine ev_iload3 134 d_Mo_takes_133 rfl ?_
    refine ev_iload4 136 d_Mo_takes_134 rfl ?_
    refine ev_iconst 137 d_Mo_takes_136 rfl ?_
    refine ev_iconst 138 d_Mo_takes_137 rfl ?_
    refine ev_iconst 139 d_Mo_takes_138 rfl ?_
    refine ev_cv7V (kk := 2) 142 d_Mo_takes_139 cv_Mo_165 (by decide) (by decide) rfl rfl rfl rfl rfl rfl rfl ev_sm0 (by decide) rfl (t_Mo_send _ _ _ _ _ _ _ _ g19) (fun g20 => ?_)
    refine ev_iconst 143 d_Mo_takes_142 rfl ?_
    exact ev_zreturn d_Mo_takes_143 rfl
  refine ev_peel (fun ee21 => ?_) (fun ne21 oe21 => ?_)
  · refine ev_tsIn 144 d_Mo_takes_21 ee21 (by decide) (by decide) (by decide) rfl (by decide) ?_
    refine ev_aload0 145 d_Mo_takes_144 rfl ?_
    refine ev_iload1 146 d_Mo_takes_145 rfl ?_
    refine ev_iload2 147 d_Mo_takes_146 rfl ?_
    refine ev_iconst 148 d_Mo_takes_147 rfl ?_
    refine ev_cv3I (kk := 3) 151 d_Mo_takes_148 cv_Mo_188 (by decide) (by decide) rfl rfl rfl ev_sm0 (by decide) rfl (t_Mo_forward _ _ _ _ h) (fun z23 g22 => ?_)
    exact ev_zreturn d_Mo_takes_151 rfl
  refine ev_peel (fun ee24 => ?_) (fun ne24 oe24 => ?_)
  · refine ev_tsIn 152 d_Mo_takes_21 ee24 (by decide) (by decide) (by decide) rfl (by decide) ?_
    refine ev_aload0 153 d_Mo_takes_152 rfl ?_
    refine ev_iload1 154 d_Mo_takes_153 rfl ?_
    refine ev_iload2 155 d_Mo_takes_154 rfl ?_
    refine ev_iconst 156 d_Mo_takes_155 rfl ?_
    refine ev_cv3I (kk := 3) 159 d_Mo_takes_156 cv_Mo_188 (by decide) (by decide) rfl rfl rfl ev_sm0 (by decide) rfl (t_Mo_forward _ _ _ _ h) (fun z26 g25 => ?_)
    exact ev_zreturn d_Mo_takes_159 rfl
  refine ev_peel (fun ee27 => ?_) (fun ne27 oe27 => ?_)
  · refine ev_tsIn 160 d_Mo_takes_21 ee27 (by decide) (by decide) (by decide) rfl (by decide) ?_
    refine ev_aload0 161 d_Mo_takes_160 rfl ?_
    refine ev_iload1 162 d_Mo_takes_161 rfl ?_
    refine ev_iload2 163 d_Mo_takes_162 rfl ?_
    refine ev_cv2I (kk := 3) 166 d_Mo_takes_163 cv_Mo_192 (by decide) (by decide) rfl rfl ev_sm0 (by decide) rfl (t_Mo_invalidate _ _ _ h) (fun z29 g28 => ?_)
    exact ev_zreturn d_Mo_takes_166 rfl
  refine ev_peel (fun ee30 => ?_) (fun ne30 oe30 => ?_)
  · refine ev_tsIn 167 d_Mo_takes_21 ee30 (by decide) (by decide) (by decide) rfl (by decide) ?_
    refine ev_aload0 168 d_Mo_takes_167 rfl ?_
    refine ev_gR 171 d_Mo_takes_168 fl_Mo_68 rfl rfl (fun q31 => ?_)
    refine ev_bipush 173 d_Mo_takes_171 (by decide) rfl ?_
    refine ev_iload1 174 d_Mo_takes_173 rfl ?_
    refine ev_imul 175 d_Mo_takes_174 rfl ?_
    refine ev_iload3 176 d_Mo_takes_175 rfl ?_
    refine ev_iadd 177 d_Mo_takes_176 rfl ?_
    refine ev_iconst 178 d_Mo_takes_177 rfl ?_
    refine ev_iastore 179 d_Mo_takes_178 rfl (fun g32 => ?_)
    refine ev_aload0 180 d_Mo_takes_179 rfl ?_
    refine ev_gR 183 d_Mo_takes_180 fl_Mo_71 rfl rfl (fun q33 => ?_)
    refine ev_bipush 185 d_Mo_takes_183 (by decide) rfl ?_
    refine ev_iload1 186 d_Mo_takes_185 rfl ?_
    refine ev_imul 187 d_Mo_takes_186 rfl ?_
    refine ev_iload3 188 d_Mo_takes_187 rfl ?_
    refine ev_iadd 189 d_Mo_takes_188 rfl ?_
    refine ev_iconst 190 d_Mo_takes_189 rfl ?_
    refine ev_iastore 191 d_Mo_takes_190 rfl (fun g34 => ?_)
    refine ev_iconst 192 d_Mo_takes_191 rfl ?_
    exact ev_zreturn d_Mo_takes_192 rfl
  refine ev_peel (fun ee35 => ?_) (fun ne35 oe35 => ?_)
  · refine ev_tsIn 193 d_Mo_takes_21 ee35 (by decide) (by decide) (by decide) rfl (by decide) ?_
    refine ev_aload0 194 d_Mo_takes_193 rfl ?_
    refine ev_iload1 195 d_Mo_takes_194 rfl ?_
    refine ev_iload2 196 d_Mo_takes_195 rfl ?_
    refine ev_cv2V (kk := 3) 199 d_Mo_takes_196 cv_Mo_196 (by decide) (by decide) rfl rfl ev_sm0 (by decide) rfl (t_Mo_data _ _ _ h) (fun g36 => ?_)
    refine ev_iconst 200 d_Mo_takes_199 rfl ?_
    exact ev_zreturn d_Mo_takes_200 rfl
  refine ev_peel (fun ee37 => ?_) (fun ne37 oe37 => ?_)
  · refine ev_tsIn 201 d_Mo_takes_21 ee37 (by decide) (by decide) (by decide) rfl (by decide) ?_
    refine ev_aload0 202 d_Mo_takes_201 rfl ?_
    refine ev_iload1 203 d_Mo_takes_202 rfl ?_
    refine ev_iload2 204 d_Mo_takes_203 rfl ?_
    refine ev_cv2V (kk := 2) 207 d_Mo_takes_204 cv_Mo_199 (by decide) (by decide) rfl rfl ev_sm0 (by decide) rfl (t_Mo_acknowledged _ _ _ h) (fun g38 => ?_)
    refine ev_iconst 208 d_Mo_takes_207 rfl ?_
    exact ev_zreturn d_Mo_takes_208 rfl
  refine ev_tsOut 209 d_Mo_takes_21 oe37 (by omega) (by decide) ?_
  refine ev_jn (fun J => ∀ (u39_s0 : Option Nat) (u39_s1 : Int) (u39_s2 : Int) (u39_h : ev_hs), EvO E M_Mo_takes 4 cvI 246 [none, none, none, none, none] [eI u39_s2, eI u39_s1, va_rf u39_s0] u39_h (J u39_s0 u39_s1 u39_s2 u39_h)) ?_ (fun J246 hJ246 => ?_)
  · intro u39_s0 u39_s1 u39_s2 u39_h
    refine ev_iastore 247 d_Mo_takes_246 rfl (fun g40 => ?_)
    refine ev_iconst 248 d_Mo_takes_247 rfl ?_
    exact ev_zreturn d_Mo_takes_248 rfl
  refine ev_aload0 210 d_Mo_takes_209 rfl ?_
  refine ev_gR 213 d_Mo_takes_210 fl_Mo_83 rfl rfl (fun q41 => ?_)
  refine ev_iload3 214 d_Mo_takes_213 rfl ?_
  refine ev_aload0 215 d_Mo_takes_214 rfl ?_
  refine ev_gR 218 d_Mo_takes_215 fl_Mo_29 rfl rfl (fun q42 => ?_)
  refine ev_iload2 219 d_Mo_takes_218 rfl ?_
  refine ev_iaload 220 d_Mo_takes_219 rfl (fun z43 => ?_)
  refine ev_iastore 221 d_Mo_takes_220 rfl (fun g44 => ?_)
  refine ev_aload0 222 d_Mo_takes_221 rfl ?_
  refine ev_gR 225 d_Mo_takes_222 fl_Mo_80 rfl rfl (fun q45 => ?_)
  refine ev_iload3 226 d_Mo_takes_225 rfl ?_
  refine ev_aload0 227 d_Mo_takes_226 rfl ?_
  refine ev_gR 230 d_Mo_takes_227 fl_Mo_80 rfl rfl (fun q46 => ?_)
  refine ev_iload3 231 d_Mo_takes_230 rfl ?_
  refine ev_iaload 232 d_Mo_takes_231 rfl (fun z47 => ?_)
  refine ev_iconst 233 d_Mo_takes_232 rfl ?_
  refine ev_icmp_ne 240 236 d_Mo_takes_233 (by decide) rfl ?_ ?_
  · refine ev_aload0 241 d_Mo_takes_240 rfl ?_
    refine ev_gR 244 d_Mo_takes_241 fl_Mo_80 rfl rfl (fun q48 => ?_)
    refine ev_iload3 245 d_Mo_takes_244 rfl ?_
    refine ev_iaload 246 d_Mo_takes_245 rfl (fun z49 => ?_)
    exact ev_wk (hJ246 _ _ _ g44) (ev_subN (ev_subN (ev_subN (ev_subN (ev_subN ev_sub0)))))
  · refine ev_iconst 237 d_Mo_takes_236 rfl ?_
    refine ev_goto 246 d_Mo_takes_237 (by decide) ?_
    exact ev_wk (hJ246 _ _ _ g44) (ev_subN (ev_subN (ev_subN (ev_subN (ev_subN ev_sub0)))))
theorem t_Mo_takeFirst_9 {E : ev_E} : ∀ (fu : Nat) (x0 : Option Nat) (x1 : Int) (x3 : Int) (x4 : Int) (h : ev_hs) (K57 : Option Nat → Int → Int → ev_hs → Option (ev_hs)) (hK57 : ∀ (w0 : Option Nat) (w3 : Int) (w4 : Int) (wh : ev_hs), EvO E M_Mo_takeFirst 5 cvV 57 [some (va_rf w0), none, none, some (eI w3), some (eI w4), none] [] wh (K57 w0 w3 w4 wh)) , EvO E M_Mo_takeFirst 5 cvV 9 [some (va_rf x0), some (eI x1), none, some (eI x3), some (eI x4), none] [] h (f_Mo_takeFirst_9 fu x0 x1 x3 x4 h K57) := by
  intro fu
  induction fu with
  | zero => intros; exact ev_no
  | succ fu ih =>
    intro x0 x1 x3 x4 h K57 hK57
    rw [f_Mo_takeFirst_9]
    refine ev_iload4 11 d_Mo_takeFirst_9 rfl ?_
    refine ev_aload0 12 d_Mo_takeFirst_11 rfl ?_
    refine ev_gR 15 d_Mo_takeFirst_12 fl_Mo_47 rfl rfl (fun q1 => ?_)
    refine ev_iload3 16 d_Mo_takeFirst_15 rfl ?_
    refine ev_iaload 17 d_Mo_takeFirst_16 rfl (fun z2 => ?_)
    refine ev_icmp_ge 57 20 d_Mo_takeFirst_17 (by decide) rfl ?_ ?_
    · exact ev_wk (hK57 _ _ _ h) (ev_subS (ev_subN (ev_subN (ev_subS (ev_subS (ev_subN ev_sub0))))))
    · refine ev_jn (fun J => ∀ (u3_0 : Option Nat) (u3_1 : Int) (u3_3 : Int) (u3_4 : Int) (u3_h : ev_hs), EvO E M_Mo_takeFirst 5 cvV 51 [some (va_rf u3_0), some (eI u3_1), none, some (eI u3_3), some (eI u3_4), none] [] u3_h (J u3_0 u3_1 u3_3 u3_4 u3_h)) ?_ (fun J51 hJ51 => ?_)
      · intro u3_0 u3_1 u3_3 u3_4 u3_h
        refine ev_iinc4 54 d_Mo_takeFirst_51 (by decide) rfl ?_
        refine ev_goto 9 d_Mo_takeFirst_54 (by decide) ?_
        exact ev_wk (ih _ _ _ _ u3_h _ hK57) (ev_subS (ev_subS (ev_subN (ev_subS (ev_subS (ev_subN ev_sub0))))))
      refine ev_aload0 21 d_Mo_takeFirst_20 rfl ?_
      refine ev_iload3 22 d_Mo_takeFirst_21 rfl ?_
      refine ev_iload4 24 d_Mo_takeFirst_22 rfl ?_
      refine ev_cv2I (kk := 2) 27 d_Mo_takeFirst_24 cv_Mo_202 (by decide) (by decide) rfl rfl ev_sm0 (by decide) rfl (t_Mo_isBehind _ _ _ h) (fun z5 g4 => ?_)
      refine ev_if_ne 51 30 d_Mo_takeFirst_27 (by decide) rfl ?_ ?_
      · exact ev_wk (hJ51 _ _ _ _ g4) (ev_subS (ev_subS (ev_subN (ev_subS (ev_subS (ev_subN ev_sub0))))))
      · refine ev_aload0 31 d_Mo_takeFirst_30 rfl ?_
        refine ev_iload1 32 d_Mo_takeFirst_31 rfl ?_
        refine ev_aload0 33 d_Mo_takeFirst_32 rfl ?_
        refine ev_gR 36 d_Mo_takeFirst_33 fl_Mo_44 rfl rfl (fun q6 => ?_)
        refine ev_sipush 39 d_Mo_takeFirst_36 (by decide) rfl ?_
        refine ev_iload3 40 d_Mo_takeFirst_39 rfl ?_
        refine ev_imul 41 d_Mo_takeFirst_40 rfl ?_
        refine ev_iload4 43 d_Mo_takeFirst_41 rfl ?_
        refine ev_iadd 44 d_Mo_takeFirst_43 rfl ?_
        refine ev_iaload 45 d_Mo_takeFirst_44 rfl (fun z7 => ?_)
        refine ev_cv2I (kk := 2) 48 d_Mo_takeFirst_45 cv_Mo_205 (by decide) (by decide) rfl rfl ev_sm0 (by decide) rfl (t_Mo_takes _ _ _ g4) (fun z9 g8 => ?_)
        refine ev_if_ne 57 51 d_Mo_takeFirst_48 (by decide) rfl ?_ ?_
        · exact ev_wk (hK57 _ _ _ g8) (ev_subS (ev_subN (ev_subN (ev_subS (ev_subS (ev_subN ev_sub0))))))
        · exact ev_wk (hJ51 _ _ _ _ g8) (ev_subS (ev_subS (ev_subN (ev_subS (ev_subS (ev_subN ev_sub0))))))
theorem t_Mo_takeFirst_108 {E : ev_E} : ∀ (fu : Nat) (x0 : Option Nat) (x3 : Int) (x5 : Int) (h : ev_hs), EvO E M_Mo_takeFirst 5 cvV 108 [some (va_rf x0), none, none, some (eI x3), none, some (eI x5)] [] h (f_Mo_takeFirst_108 fu x0 x3 x5 h) := by
  intro fu
  induction fu with
  | zero => intros; exact ev_no
  | succ fu ih =>
    intro x0 x3 x5 h
    rw [f_Mo_takeFirst_108]
    refine ev_iload5 110 d_Mo_takeFirst_108 rfl ?_
    refine ev_sipush 113 d_Mo_takeFirst_110 (by decide) rfl ?_
    refine ev_iload3 114 d_Mo_takeFirst_113 rfl ?_
    refine ev_imul 115 d_Mo_takeFirst_114 rfl ?_
    refine ev_aload0 116 d_Mo_takeFirst_115 rfl ?_
    refine ev_gR 119 d_Mo_takeFirst_116 fl_Mo_47 rfl rfl (fun q20 => ?_)
    refine ev_iload3 120 d_Mo_takeFirst_119 rfl ?_
    refine ev_iaload 121 d_Mo_takeFirst_120 rfl (fun z21 => ?_)
    refine ev_iadd 122 d_Mo_takeFirst_121 rfl ?_
    refine ev_icmp_ge 147 125 d_Mo_takeFirst_122 (by decide) rfl ?_ ?_
    · exact ev_return d_Mo_takeFirst_147 rfl
    · refine ev_aload0 126 d_Mo_takeFirst_125 rfl ?_
      refine ev_gR 129 d_Mo_takeFirst_126 fl_Mo_44 rfl rfl (fun q22 => ?_)
      refine ev_iload5 131 d_Mo_takeFirst_129 rfl ?_
      refine ev_aload0 132 d_Mo_takeFirst_131 rfl ?_
      refine ev_gR 135 d_Mo_takeFirst_132 fl_Mo_44 rfl rfl (fun q23 => ?_)
      refine ev_iload5 137 d_Mo_takeFirst_135 rfl ?_
      refine ev_iconst 138 d_Mo_takeFirst_137 rfl ?_
      refine ev_iadd 139 d_Mo_takeFirst_138 rfl ?_
      refine ev_iaload 140 d_Mo_takeFirst_139 rfl (fun z24 => ?_)
      refine ev_iastore 141 d_Mo_takeFirst_140 rfl (fun g25 => ?_)
      refine ev_iinc5 144 d_Mo_takeFirst_141 (by decide) rfl ?_
      refine ev_goto 108 d_Mo_takeFirst_144 (by decide) ?_
      exact ev_wk (ih _ _ _ g25) (ev_subS (ev_subN (ev_subN (ev_subS (ev_subN (ev_subS ev_sub0))))))
theorem t_Mo_takeFirst {E : ev_E} (x0 : Option Nat) (x1 : Int) (x2 : Int) (h : ev_hs) : EvO E M_Mo_takeFirst 5 cvV 0 [some (va_rf x0), some (eI x1), some (eI x2), none, none, none] [] h (f_Mo_takeFirst x0 x1 x2 h) := by
  unfold f_Mo_takeFirst
  refine ev_iconst 1 d_Mo_takeFirst_0 rfl ?_
  refine ev_iload1 2 d_Mo_takeFirst_1 rfl ?_
  refine ev_imul 3 d_Mo_takeFirst_2 rfl ?_
  refine ev_iload2 4 d_Mo_takeFirst_3 rfl ?_
  refine ev_iadd 5 d_Mo_takeFirst_4 rfl ?_
  refine ev_istore3 6 d_Mo_takeFirst_5 (by decide) rfl ?_
  refine ev_iconst 7 d_Mo_takeFirst_6 rfl ?_
  refine ev_istore4 9 d_Mo_takeFirst_7 (by decide) rfl ?_
  refine ev_wk (t_Mo_takeFirst_9 FU _ _ _ _ h _ ?_) (ev_subS (ev_subS (ev_subN (ev_subS (ev_subS (ev_subN ev_sub0))))))
  intro y10_0 y10_3 y10_4 y10_h
  refine ev_iload4 59 d_Mo_takeFirst_57 rfl ?_
  refine ev_aload0 60 d_Mo_takeFirst_59 rfl ?_
  refine ev_gR 63 d_Mo_takeFirst_60 fl_Mo_47 rfl rfl (fun q11 => ?_)
  refine ev_iload3 64 d_Mo_takeFirst_63 rfl ?_
  refine ev_iaload 65 d_Mo_takeFirst_64 rfl (fun z12 => ?_)
  refine ev_icmp_ne 69 68 d_Mo_takeFirst_65 (by decide) rfl ?_ ?_
  · refine ev_aload0 70 d_Mo_takeFirst_69 rfl ?_
    refine ev_gR 73 d_Mo_takeFirst_70 fl_Mo_7 rfl rfl (fun q13 => ?_)
    refine ev_aload0 74 d_Mo_takeFirst_73 rfl ?_
    refine ev_gR 77 d_Mo_takeFirst_74 fl_Mo_44 rfl rfl (fun q14 => ?_)
    refine ev_sipush 80 d_Mo_takeFirst_77 (by decide) rfl ?_
    refine ev_iload3 81 d_Mo_takeFirst_80 rfl ?_
    refine ev_imul 82 d_Mo_takeFirst_81 rfl ?_
    refine ev_iload4 84 d_Mo_takeFirst_82 rfl ?_
    refine ev_iadd 85 d_Mo_takeFirst_84 rfl ?_
    refine ev_iaload 86 d_Mo_takeFirst_85 rfl (fun z15 => ?_)
    refine ev_iconst 87 d_Mo_takeFirst_86 rfl ?_
    refine ev_bastore 88 d_Mo_takeFirst_87 rfl (fun g16 => ?_)
    refine ev_aload0 89 d_Mo_takeFirst_88 rfl ?_
    refine ev_gR 92 d_Mo_takeFirst_89 fl_Mo_47 rfl rfl (fun q17 => ?_)
    refine ev_iload3 93 d_Mo_takeFirst_92 rfl ?_
    refine ev_dup2 94 d_Mo_takeFirst_93 rfl (va_rf_cat _) rfl ?_
    refine ev_iaload 95 d_Mo_takeFirst_94 rfl (fun z18 => ?_)
    refine ev_iconst 96 d_Mo_takeFirst_95 rfl ?_
    refine ev_isub 97 d_Mo_takeFirst_96 rfl ?_
    refine ev_iastore 98 d_Mo_takeFirst_97 rfl (fun g19 => ?_)
    refine ev_sipush 101 d_Mo_takeFirst_98 (by decide) rfl ?_
    refine ev_iload3 102 d_Mo_takeFirst_101 rfl ?_
    refine ev_imul 103 d_Mo_takeFirst_102 rfl ?_
    refine ev_iload4 105 d_Mo_takeFirst_103 rfl ?_
    refine ev_iadd 106 d_Mo_takeFirst_105 rfl ?_
    refine ev_istore5 108 d_Mo_takeFirst_106 (by decide) rfl ?_
    refine ev_wk (t_Mo_takeFirst_108 FU _ _ _ g19) (ev_subS (ev_subN (ev_subN (ev_subS (ev_subN (ev_subS ev_sub0))))))
  · exact ev_return d_Mo_takeFirst_68 rfl
theorem t_Mo_isLeaving {E : ev_E} (x0 : Int) (h : ev_hs) : EvO E M_Mo_isLeaving 1 cvI 0 [some (eI x0)] [] h (f_Mo_isLeaving x0 h) := by
  unfold f_Mo_isLeaving
  refine ev_jn (fun J => ∀ (u1_s0 : Int) (u1_h : ev_hs), EvO E M_Mo_isLeaving 1 cvI 11 [none] [eI u1_s0] u1_h (J u1_s0 u1_h)) ?_ (fun J11 hJ11 => ?_)
  · intro u1_s0 u1_h
    exact ev_zreturn d_Mo_isLeaving_11 rfl
  refine ev_iload0 1 d_Mo_isLeaving_0 rfl ?_
  refine ev_bipush 3 d_Mo_isLeaving_1 (by decide) rfl ?_
  refine ev_icmp_lt 10 6 d_Mo_isLeaving_3 (by decide) rfl ?_ ?_
  · refine ev_iconst 11 d_Mo_isLeaving_10 rfl ?_
    exact ev_wk (hJ11 _ h) (ev_subN ev_sub0)
  · refine ev_iconst 7 d_Mo_isLeaving_6 rfl ?_
    refine ev_goto 11 d_Mo_isLeaving_7 (by decide) ?_
    exact ev_wk (hJ11 _ h) (ev_subN ev_sub0)
theorem t_Mo_evict_7 {E : ev_E} : ∀ (fu : Nat) (x0 : Option Nat) (x1 : Int) (x3 : Int) (x4 : Int) (h : ev_hs) (K106 : Option Nat → Int → Int → ev_hs → Option (ev_hs)) (hK106 : ∀ (w0 : Option Nat) (w1 : Int) (w3 : Int) (wh : ev_hs), EvO E M_Mo_evict 3 cvV 106 [some (va_rf w0), some (eI w1), none, some (eI w3), none, none, none] [] wh (K106 w0 w1 w3 wh)) , EvO E M_Mo_evict 3 cvV 7 [some (va_rf x0), some (eI x1), none, some (eI x3), some (eI x4), none, none] [] h (f_Mo_evict_7 fu x0 x1 x3 x4 h K106) := by
  intro fu
  induction fu with
  | zero => intros; exact ev_no
  | succ fu ih =>
    intro x0 x1 x3 x4 h K106 hK106
    rw [f_Mo_evict_7]
    refine ev_iload4 9 d_Mo_evict_7 rfl ?_
    refine ev_bipush 11 d_Mo_evict_9 (by decide) rfl ?_
    refine ev_icmp_ge 106 14 d_Mo_evict_11 (by decide) rfl ?_ ?_
    · exact ev_wk (hK106 _ _ _ h) (ev_subS (ev_subS (ev_subN (ev_subS (ev_subN (ev_subN (ev_subN ev_sub0)))))))
    · refine ev_bipush 16 d_Mo_evict_14 (by decide) rfl ?_
      refine ev_iload1 17 d_Mo_evict_16 rfl ?_
      refine ev_imul 18 d_Mo_evict_17 rfl ?_
      refine ev_iload4 20 d_Mo_evict_18 rfl ?_
      refine ev_iadd 21 d_Mo_evict_20 rfl ?_
      refine ev_istore5 23 d_Mo_evict_21 (by decide) rfl ?_
      refine ev_aload0 24 d_Mo_evict_23 rfl ?_
      refine ev_gR 27 d_Mo_evict_24 fl_Mo_68 rfl rfl (fun q2 => ?_)
      refine ev_iload5 29 d_Mo_evict_27 rfl ?_
      refine ev_iaload 30 d_Mo_evict_29 rfl (fun z3 => ?_)
      refine ev_cs1I (kk := 0) 33 d_Mo_evict_30 cs_Mo_208 (by decide) (by decide) rfl ev_sm0 (by decide) rfl (t_Mo_isLeaving _ h) (fun z5 g4 => ?_)
      refine ev_if_eq 37 36 d_Mo_evict_33 (by decide) rfl ?_ ?_
      · refine ev_jn (fun J => ∀ (u6_0 : Option Nat) (u6_1 : Int) (u6_3 : Int) (u6_4 : Int) (u6_5 : Int) (u6_s0 : Int) (u6_h : ev_hs), EvO E M_Mo_evict 3 cvV 65 [some (va_rf u6_0), some (eI u6_1), none, some (eI u6_3), some (eI u6_4), some (eI u6_5), none] [eI u6_s0] u6_h (J u6_0 u6_1 u6_3 u6_4 u6_5 u6_s0 u6_h)) ?_ (fun J65 hJ65 => ?_)
        · intro u6_0 u6_1 u6_3 u6_4 u6_5 u6_s0 u6_h
          refine ev_jn (fun J => ∀ (u7_0 : Option Nat) (u7_1 : Int) (u7_3 : Int) (u7_4 : Int) (u7_h : ev_hs), EvO E M_Mo_evict 3 cvV 100 [some (va_rf u7_0), some (eI u7_1), none, some (eI u7_3), some (eI u7_4), none, none] [] u7_h (J u7_0 u7_1 u7_3 u7_4 u7_h)) ?_ (fun J100 hJ100 => ?_)
          · intro u7_0 u7_1 u7_3 u7_4 u7_h
            refine ev_iinc4 103 d_Mo_evict_100 (by decide) rfl ?_
            refine ev_goto 7 d_Mo_evict_103 (by decide) ?_
            exact ev_wk (ih _ _ _ _ u7_h _ hK106) (ev_subS (ev_subS (ev_subN (ev_subS (ev_subS (ev_subN (ev_subN ev_sub0)))))))
          refine ev_istore6 67 d_Mo_evict_65 (by decide) rfl ?_
          refine ev_iload6 69 d_Mo_evict_67 rfl ?_
          refine ev_if_eq 100 72 d_Mo_evict_69 (by decide) rfl ?_ ?_
          · exact ev_wk (hJ100 _ _ _ _ u6_h) (ev_subS (ev_subS (ev_subN (ev_subS (ev_subS (ev_subN (ev_subN ev_sub0)))))))
          · refine ev_jn (fun J => ∀ (u8_0 : Option Nat) (u8_1 : Int) (u8_4 : Int) (u8_h : ev_hs), EvO E M_Mo_evict 3 cvV 97 [some (va_rf u8_0), some (eI u8_1), none, none, some (eI u8_4), none, none] [] u8_h (J u8_0 u8_1 u8_4 u8_h)) ?_ (fun J97 hJ97 => ?_)
            · intro u8_0 u8_1 u8_4 u8_h
              refine ev_iload4 99 d_Mo_evict_97 rfl ?_
              refine ev_istore3 100 d_Mo_evict_99 (by decide) rfl ?_
              exact ev_wk (hJ100 _ _ _ _ u8_h) (ev_subS (ev_subS (ev_subN (ev_subS (ev_subS (ev_subN (ev_subN ev_sub0)))))))
            refine ev_iload3 73 d_Mo_evict_72 rfl ?_
            refine ev_if_lt 97 76 d_Mo_evict_73 (by decide) rfl ?_ ?_
            · exact ev_wk (hJ97 _ _ _ u6_h) (ev_subS (ev_subS (ev_subN (ev_subN (ev_subS (ev_subN (ev_subN ev_sub0)))))))
            · refine ev_aload0 77 d_Mo_evict_76 rfl ?_
              refine ev_gR 80 d_Mo_evict_77 fl_Mo_77 rfl rfl (fun q9 => ?_)
              refine ev_iload5 82 d_Mo_evict_80 rfl ?_
              refine ev_iaload 83 d_Mo_evict_82 rfl (fun z10 => ?_)
              refine ev_aload0 84 d_Mo_evict_83 rfl ?_
              refine ev_gR 87 d_Mo_evict_84 fl_Mo_77 rfl rfl (fun q11 => ?_)
              refine ev_bipush 89 d_Mo_evict_87 (by decide) rfl ?_
              refine ev_iload1 90 d_Mo_evict_89 rfl ?_
              refine ev_imul 91 d_Mo_evict_90 rfl ?_
              refine ev_iload3 92 d_Mo_evict_91 rfl ?_
              refine ev_iadd 93 d_Mo_evict_92 rfl ?_
              refine ev_iaload 94 d_Mo_evict_93 rfl (fun z12 => ?_)
              refine ev_icmp_ge 100 97 d_Mo_evict_94 (by decide) rfl ?_ ?_
              · exact ev_wk (hJ100 _ _ _ _ u6_h) (ev_subS (ev_subS (ev_subN (ev_subS (ev_subS (ev_subN (ev_subN ev_sub0)))))))
              · exact ev_wk (hJ97 _ _ _ u6_h) (ev_subS (ev_subS (ev_subN (ev_subN (ev_subS (ev_subN (ev_subN ev_sub0)))))))
        refine ev_jn (fun J => ∀ (u13_0 : Option Nat) (u13_1 : Int) (u13_3 : Int) (u13_4 : Int) (u13_5 : Int) (u13_h : ev_hs), EvO E M_Mo_evict 3 cvV 60 [some (va_rf u13_0), some (eI u13_1), none, some (eI u13_3), some (eI u13_4), some (eI u13_5), none] [] u13_h (J u13_0 u13_1 u13_3 u13_4 u13_5 u13_h)) ?_ (fun J60 hJ60 => ?_)
        · intro u13_0 u13_1 u13_3 u13_4 u13_5 u13_h
          refine ev_iconst 61 d_Mo_evict_60 rfl ?_
          refine ev_goto 65 d_Mo_evict_61 (by decide) ?_
          exact ev_wk (hJ65 _ _ _ _ _ _ u13_h) (ev_subS (ev_subS (ev_subN (ev_subS (ev_subS (ev_subS (ev_subN ev_sub0)))))))
        refine ev_aload0 38 d_Mo_evict_37 rfl ?_
        refine ev_gR 41 d_Mo_evict_38 fl_Mo_68 rfl rfl (fun q14 => ?_)
        refine ev_iload5 43 d_Mo_evict_41 rfl ?_
        refine ev_iaload 44 d_Mo_evict_43 rfl (fun z15 => ?_)
        refine ev_iconst 45 d_Mo_evict_44 rfl ?_
        refine ev_icmp_eq 60 48 d_Mo_evict_45 (by decide) rfl ?_ ?_
        · exact ev_wk (hJ60 _ _ _ _ _ g4) (ev_subS (ev_subS (ev_subN (ev_subS (ev_subS (ev_subS (ev_subN ev_sub0)))))))
        · refine ev_aload0 49 d_Mo_evict_48 rfl ?_
          refine ev_gR 52 d_Mo_evict_49 fl_Mo_68 rfl rfl (fun q16 => ?_)
          refine ev_iload5 54 d_Mo_evict_52 rfl ?_
          refine ev_iaload 55 d_Mo_evict_54 rfl (fun z17 => ?_)
          refine ev_bipush 57 d_Mo_evict_55 (by decide) rfl ?_
          refine ev_icmp_ne 64 60 d_Mo_evict_57 (by decide) rfl ?_ ?_
          · refine ev_iconst 65 d_Mo_evict_64 rfl ?_
            exact ev_wk (hJ65 _ _ _ _ _ _ g4) (ev_subS (ev_subS (ev_subN (ev_subS (ev_subS (ev_subS (ev_subN ev_sub0)))))))
          · exact ev_wk (hJ60 _ _ _ _ _ g4) (ev_subS (ev_subS (ev_subN (ev_subS (ev_subS (ev_subS (ev_subN ev_sub0)))))))
      · exact ev_return d_Mo_evict_36 rfl
theorem t_Mo_evict {E : ev_E} (x0 : Option Nat) (x1 : Int) (x2 : Int) (h : ev_hs) : EvO E M_Mo_evict 3 cvV 0 [some (va_rf x0), some (eI x1), some (eI x2), none, none, none, none] [] h (f_Mo_evict x0 x1 x2 h) := by
  unfold f_Mo_evict
  refine ev_iconst 1 d_Mo_evict_0 rfl ?_
  refine ev_istore3 2 d_Mo_evict_1 (by decide) rfl ?_
  refine ev_iload2 3 d_Mo_evict_2 rfl ?_
  refine ev_iconst 4 d_Mo_evict_3 rfl ?_
  refine ev_irem 5 d_Mo_evict_4 rfl (fun z1 => ?_)
  refine ev_istore4 7 d_Mo_evict_5 (by decide) rfl ?_
  refine ev_wk (t_Mo_evict_7 FU _ _ _ _ h _ ?_) (ev_subS (ev_subS (ev_subN (ev_subS (ev_subS (ev_subN (ev_subN ev_sub0)))))))
  intro y18_0 y18_1 y18_3 y18_h
  refine ev_iload3 107 d_Mo_evict_106 rfl ?_
  refine ev_if_ge 111 110 d_Mo_evict_107 (by decide) rfl ?_ ?_
  · refine ev_jn (fun J => ∀ (u19_0 : Option Nat) (u19_1 : Int) (u19_3 : Int) (u19_4 : Int) (u19_s0 : Int) (u19_h : ev_hs), EvO E M_Mo_evict 3 cvV 136 [some (va_rf u19_0), some (eI u19_1), none, some (eI u19_3), some (eI u19_4), none, none] [eI u19_s0] u19_h (J u19_0 u19_1 u19_3 u19_4 u19_s0 u19_h)) ?_ (fun J136 hJ136 => ?_)
    · intro u19_0 u19_1 u19_3 u19_4 u19_s0 u19_h
      refine ev_jn (fun J => ∀ (u20_0 : Option Nat) (u20_3 : Int) (u20_4 : Int) (u20_5 : Int) (u20_s0 : Option Nat) (u20_s1 : Int) (u20_s2 : Int) (u20_h : ev_hs), EvO E M_Mo_evict 3 cvV 150 [some (va_rf u20_0), none, none, some (eI u20_3), some (eI u20_4), some (eI u20_5), none] [eI u20_s2, eI u20_s1, va_rf u20_s0] u20_h (J u20_0 u20_3 u20_4 u20_5 u20_s0 u20_s1 u20_s2 u20_h)) ?_ (fun J150 hJ150 => ?_)
      · intro u20_0 u20_3 u20_4 u20_5 u20_s0 u20_s1 u20_s2 u20_h
        refine ev_jn (fun J => ∀ (u21_s0 : Option Nat) (u21_s1 : Int) (u21_s2 : Int) (u21_h : ev_hs), EvO E M_Mo_evict 3 cvV 185 [none, none, none, none, none, none, none] [eI u21_s2, eI u21_s1, va_rf u21_s0] u21_h (J u21_s0 u21_s1 u21_s2 u21_h)) ?_ (fun J185 hJ185 => ?_)
        · intro u21_s0 u21_s1 u21_s2 u21_h
          refine ev_iastore 186 d_Mo_evict_185 rfl (fun g22 => ?_)
          exact ev_return d_Mo_evict_186 rfl
        refine ev_iload3 151 d_Mo_evict_150 rfl ?_
        refine ev_iload3 152 d_Mo_evict_151 rfl ?_
        refine ev_cs1I (kk := 0) 155 d_Mo_evict_152 cs_Mo_169 (by decide) (by decide) rfl (ev_smc rfl (ev_smc rfl (ev_smc rfl (ev_smc (va_rf_cat _) ev_sm0)))) (by decide) rfl (t_Mo_homeOf _ u20_h) (fun z24 g23 => ?_)
        refine ev_iconst 156 d_Mo_evict_155 rfl ?_
        refine ev_aload0 157 d_Mo_evict_156 rfl ?_
        refine ev_gR 160 d_Mo_evict_157 fl_Mo_71 rfl rfl (fun q25 => ?_)
        refine ev_iload4 162 d_Mo_evict_160 rfl ?_
        refine ev_iaload 163 d_Mo_evict_162 rfl (fun z26 => ?_)
        refine ev_iconst 164 d_Mo_evict_163 rfl ?_
        refine ev_cv7V (kk := 2) 167 d_Mo_evict_164 cv_Mo_165 (by decide) (by decide) rfl rfl rfl rfl rfl rfl rfl ev_sm0 (by decide) rfl (t_Mo_send _ _ _ _ _ _ _ _ g23) (fun g27 => ?_)
        refine ev_aload0 168 d_Mo_evict_167 rfl ?_
        refine ev_gR 171 d_Mo_evict_168 fl_Mo_68 rfl rfl (fun q28 => ?_)
        refine ev_iload4 173 d_Mo_evict_171 rfl ?_
        refine ev_iload5 175 d_Mo_evict_173 rfl ?_
        refine ev_if_eq 183 178 d_Mo_evict_175 (by decide) rfl ?_ ?_
        · refine ev_bipush 185 d_Mo_evict_183 (by decide) rfl ?_
          exact ev_wk (hJ185 _ _ _ g27) (ev_subN (ev_subN (ev_subN (ev_subN (ev_subN (ev_subN (ev_subN ev_sub0)))))))
        · refine ev_bipush 180 d_Mo_evict_178 (by decide) rfl ?_
          refine ev_goto 185 d_Mo_evict_180 (by decide) ?_
          exact ev_wk (hJ185 _ _ _ g27) (ev_subN (ev_subN (ev_subN (ev_subN (ev_subN (ev_subN (ev_subN ev_sub0)))))))
      refine ev_istore5 138 d_Mo_evict_136 (by decide) rfl ?_
      refine ev_aload0 139 d_Mo_evict_138 rfl ?_
      refine ev_iload1 140 d_Mo_evict_139 rfl ?_
      refine ev_iload5 142 d_Mo_evict_140 rfl ?_
      refine ev_if_eq 149 145 d_Mo_evict_142 (by decide) rfl ?_ ?_
      · refine ev_iconst 150 d_Mo_evict_149 rfl ?_
        exact ev_wk (hJ150 _ _ _ _ _ _ _ u19_h) (ev_subS (ev_subN (ev_subN (ev_subS (ev_subS (ev_subS (ev_subN ev_sub0)))))))
      · refine ev_iconst 146 d_Mo_evict_145 rfl ?_
        refine ev_goto 150 d_Mo_evict_146 (by decide) ?_
        exact ev_wk (hJ150 _ _ _ _ _ _ _ u19_h) (ev_subS (ev_subN (ev_subN (ev_subS (ev_subS (ev_subS (ev_subN ev_sub0)))))))
    refine ev_bipush 113 d_Mo_evict_111 (by decide) rfl ?_
    refine ev_iload1 114 d_Mo_evict_113 rfl ?_
    refine ev_imul 115 d_Mo_evict_114 rfl ?_
    refine ev_iload3 116 d_Mo_evict_115 rfl ?_
    refine ev_iadd 117 d_Mo_evict_116 rfl ?_
    refine ev_istore4 119 d_Mo_evict_117 (by decide) rfl ?_
    refine ev_aload0 120 d_Mo_evict_119 rfl ?_
    refine ev_gR 123 d_Mo_evict_120 fl_Mo_68 rfl rfl (fun q29 => ?_)
    refine ev_iload4 125 d_Mo_evict_123 rfl ?_
    refine ev_iaload 126 d_Mo_evict_125 rfl (fun z30 => ?_)
    refine ev_bipush 128 d_Mo_evict_126 (by decide) rfl ?_
    refine ev_icmp_ne 135 131 d_Mo_evict_128 (by decide) rfl ?_ ?_
    · refine ev_iconst 136 d_Mo_evict_135 rfl ?_
      exact ev_wk (hJ136 _ _ _ _ _ y18_h) (ev_subS (ev_subS (ev_subN (ev_subS (ev_subS (ev_subN (ev_subN ev_sub0)))))))
    · refine ev_iconst 132 d_Mo_evict_131 rfl ?_
      refine ev_goto 136 d_Mo_evict_132 (by decide) ?_
      exact ev_wk (hJ136 _ _ _ _ _ y18_h) (ev_subS (ev_subS (ev_subN (ev_subS (ev_subS (ev_subN (ev_subN ev_sub0)))))))
  · exact ev_return d_Mo_evict_110 rfl
theorem t_Mo_core_168 {E : ev_E} : ∀ (fu : Nat) (x0 : Option Nat) (x1 : Int) (x3 : Int) (x5 : Int) (x6 : Int) (x7 : Int) (h : ev_hs) (K206 : Option Nat → Int → Int → Int → Int → ev_hs → Option (ev_hs)) (hK206 : ∀ (w0 : Option Nat) (w1 : Int) (w3 : Int) (w5 : Int) (w6 : Int) (wh : ev_hs), EvO E M_Mo_core 4 cvV 206 [some (va_rf w0), some (eI w1), none, some (eI w3), none, some (eI w5), some (eI w6), none] [] wh (K206 w0 w1 w3 w5 w6 wh)) , EvO E M_Mo_core 4 cvV 168 [some (va_rf x0), some (eI x1), none, some (eI x3), none, some (eI x5), some (eI x6), some (eI x7)] [] h (f_Mo_core_168 fu x0 x1 x3 x5 x6 x7 h K206) := by
  intro fu
  induction fu with
  | zero => intros; exact ev_no
  | succ fu ih =>
    intro x0 x1 x3 x5 x6 x7 h K206 hK206
    rw [f_Mo_core_168]
    refine ev_iload7 170 d_Mo_core_168 rfl ?_
    refine ev_bipush 172 d_Mo_core_170 (by decide) rfl ?_
    refine ev_icmp_ge 206 175 d_Mo_core_172 (by decide) rfl ?_ ?_
    · exact ev_wk (hK206 _ _ _ _ _ h) (ev_subS (ev_subS (ev_subN (ev_subS (ev_subN (ev_subS (ev_subS (ev_subN ev_sub0))))))))
    · refine ev_jn (fun J => ∀ (u16_0 : Option Nat) (u16_1 : Int) (u16_3 : Int) (u16_5 : Int) (u16_7 : Int) (u16_s0 : Int) (u16_s1 : Int) (u16_h : ev_hs), EvO E M_Mo_core 4 cvV 197 [some (va_rf u16_0), some (eI u16_1), none, some (eI u16_3), none, some (eI u16_5), none, some (eI u16_7)] [eI u16_s1, eI u16_s0] u16_h (J u16_0 u16_1 u16_3 u16_5 u16_7 u16_s0 u16_s1 u16_h)) ?_ (fun J197 hJ197 => ?_)
      · intro u16_0 u16_1 u16_3 u16_5 u16_7 u16_s0 u16_s1 u16_h
        refine ev_iadd 198 d_Mo_core_197 rfl ?_
        refine ev_istore6 200 d_Mo_core_198 (by decide) rfl ?_
        refine ev_iinc7 203 d_Mo_core_200 (by decide) rfl ?_
        refine ev_goto 168 d_Mo_core_203 (by decide) ?_
        exact ev_wk (ih _ _ _ _ _ _ u16_h _ hK206) (ev_subS (ev_subS (ev_subN (ev_subS (ev_subN (ev_subS (ev_subS (ev_subS ev_sub0))))))))
      refine ev_iload6 177 d_Mo_core_175 rfl ?_
      refine ev_aload0 178 d_Mo_core_177 rfl ?_
      refine ev_gR 181 d_Mo_core_178 fl_Mo_68 rfl rfl (fun q17 => ?_)
      refine ev_bipush 183 d_Mo_core_181 (by decide) rfl ?_
      refine ev_iload1 184 d_Mo_core_183 rfl ?_
      refine ev_imul 185 d_Mo_core_184 rfl ?_
      refine ev_iload7 187 d_Mo_core_185 rfl ?_
      refine ev_iadd 188 d_Mo_core_187 rfl ?_
      refine ev_iaload 189 d_Mo_core_188 rfl (fun z18 => ?_)
      refine ev_if_ne 196 192 d_Mo_core_189 (by decide) rfl ?_ ?_
      · refine ev_iconst 197 d_Mo_core_196 rfl ?_
        exact ev_wk (hJ197 _ _ _ _ _ _ _ h) (ev_subS (ev_subS (ev_subN (ev_subS (ev_subN (ev_subS (ev_subN (ev_subS ev_sub0))))))))
      · refine ev_iconst 193 d_Mo_core_192 rfl ?_
        refine ev_goto 197 d_Mo_core_193 (by decide) ?_
        exact ev_wk (hJ197 _ _ _ _ _ _ _ h) (ev_subS (ev_subS (ev_subN (ev_subS (ev_subN (ev_subS (ev_subN (ev_subS ev_sub0))))))))
theorem t_Mo_core {E : ev_E} (x0 : Option Nat) (x1 : Int) (h : ev_hs) : EvO E M_Mo_core 4 cvV 0 [some (va_rf x0), some (eI x1), none, none, none, none, none, none] [] h (f_Mo_core x0 x1 h) := by
  unfold f_Mo_core
  refine ev_aload0 1 d_Mo_core_0 rfl ?_
  refine ev_gR 4 d_Mo_core_1 fl_Mo_113 rfl rfl (fun q1 => ?_)
  refine ev_iload1 5 d_Mo_core_4 rfl ?_
  refine ev_baload 6 d_Mo_core_5 rfl (fun z2 => ?_)
  refine ev_if_ne 24 9 d_Mo_core_6 (by decide) rfl ?_ ?_
  · exact ev_return d_Mo_core_24 rfl
  · refine ev_aload0 10 d_Mo_core_9 rfl ?_
    refine ev_gR 13 d_Mo_core_10 fl_Mo_110 rfl rfl (fun q3 => ?_)
    refine ev_iload1 14 d_Mo_core_13 rfl ?_
    refine ev_iaload 15 d_Mo_core_14 rfl (fun z4 => ?_)
    refine ev_aload0 16 d_Mo_core_15 rfl ?_
    refine ev_gR 19 d_Mo_core_16 fl_Mo_107 rfl rfl (fun q5 => ?_)
    refine ev_iload1 20 d_Mo_core_19 rfl ?_
    refine ev_iaload 21 d_Mo_core_20 rfl (fun z6 => ?_)
    refine ev_icmp_ne 25 24 d_Mo_core_21 (by decide) rfl ?_ ?_
    · refine ev_bipush 27 d_Mo_core_25 (by decide) rfl ?_
      refine ev_iload1 28 d_Mo_core_27 rfl ?_
      refine ev_imul 29 d_Mo_core_28 rfl ?_
      refine ev_aload0 30 d_Mo_core_29 rfl ?_
      refine ev_gR 33 d_Mo_core_30 fl_Mo_110 rfl rfl (fun q7 => ?_)
      refine ev_iload1 34 d_Mo_core_33 rfl ?_
      refine ev_iaload 35 d_Mo_core_34 rfl (fun z8 => ?_)
      refine ev_iadd 36 d_Mo_core_35 rfl ?_
      refine ev_istore2 37 d_Mo_core_36 (by decide) rfl ?_
      refine ev_aload0 38 d_Mo_core_37 rfl ?_
      refine ev_gR 41 d_Mo_core_38 fl_Mo_101 rfl rfl (fun q9 => ?_)
      refine ev_iload2 42 d_Mo_core_41 rfl ?_
      refine ev_iaload 43 d_Mo_core_42 rfl (fun z10 => ?_)
      refine ev_if_le 57 46 d_Mo_core_43 (by decide) rfl ?_ ?_
      · refine ev_jn (fun J => ∀ (u11_0 : Option Nat) (u11_1 : Int) (u11_3 : Int) (u11_4 : Int) (u11_s0 : Int) (u11_h : ev_hs), EvO E M_Mo_core 4 cvV 91 [some (va_rf u11_0), some (eI u11_1), none, some (eI u11_3), some (eI u11_4), none, none, none] [eI u11_s0] u11_h (J u11_0 u11_1 u11_3 u11_4 u11_s0 u11_h)) ?_ (fun J91 hJ91 => ?_)
        · intro u11_0 u11_1 u11_3 u11_4 u11_s0 u11_h
          refine ev_jn (fun J => ∀ (u12_0 : Option Nat) (u12_1 : Int) (u12_3 : Int) (u12_h : ev_hs), EvO E M_Mo_core 4 cvV 111 [some (va_rf u12_0), some (eI u12_1), none, some (eI u12_3), none, none, none, none] [] u12_h (J u12_0 u12_1 u12_3 u12_h)) ?_ (fun J111 hJ111 => ?_)
          · intro u12_0 u12_1 u12_3 u12_h
            refine ev_aload0 112 d_Mo_core_111 rfl ?_
            refine ev_iload1 113 d_Mo_core_112 rfl ?_
            refine ev_iload3 114 d_Mo_core_113 rfl ?_
            refine ev_cv2V (kk := 2) 117 d_Mo_core_114 cv_Mo_161 (by decide) (by decide) rfl rfl ev_sm0 (by decide) rfl (t_Mo_finish _ _ _ u12_h) (fun g13 => ?_)
            refine ev_goto 265 d_Mo_core_117 (by decide) ?_
            exact ev_return d_Mo_core_265 rfl
          refine ev_istore5 93 d_Mo_core_91 (by decide) rfl ?_
          refine ev_iload4 95 d_Mo_core_93 rfl ?_
          refine ev_bipush 97 d_Mo_core_95 (by decide) rfl ?_
          refine ev_icmp_eq 111 100 d_Mo_core_97 (by decide) rfl ?_ ?_
          · exact ev_wk (hJ111 _ _ _ u11_h) (ev_subS (ev_subS (ev_subN (ev_subS (ev_subN (ev_subN (ev_subN (ev_subN ev_sub0))))))))
          · refine ev_jn (fun J => ∀ (u14_0 : Option Nat) (u14_1 : Int) (u14_3 : Int) (u14_4 : Int) (u14_5 : Int) (u14_h : ev_hs), EvO E M_Mo_core 4 cvV 120 [some (va_rf u14_0), some (eI u14_1), none, some (eI u14_3), some (eI u14_4), some (eI u14_5), none, none] [] u14_h (J u14_0 u14_1 u14_3 u14_4 u14_5 u14_h)) ?_ (fun J120 hJ120 => ?_)
            · intro u14_0 u14_1 u14_3 u14_4 u14_5 u14_h
              refine ev_iload4 122 d_Mo_core_120 rfl ?_
              refine ev_iconst 123 d_Mo_core_122 rfl ?_
              refine ev_icmp_ne 155 126 d_Mo_core_123 (by decide) rfl ?_ ?_
              · refine ev_iload4 157 d_Mo_core_155 rfl ?_
                refine ev_if_ne 265 160 d_Mo_core_157 (by decide) rfl ?_ ?_
                · exact ev_return d_Mo_core_265 rfl
                · refine ev_iconst 161 d_Mo_core_160 rfl ?_
                  refine ev_istore6 163 d_Mo_core_161 (by decide) rfl ?_
                  refine ev_iload3 164 d_Mo_core_163 rfl ?_
                  refine ev_iconst 165 d_Mo_core_164 rfl ?_
                  refine ev_irem 166 d_Mo_core_165 rfl (fun z15 => ?_)
                  refine ev_istore7 168 d_Mo_core_166 (by decide) rfl ?_
                  refine ev_wk (t_Mo_core_168 FU _ _ _ _ _ _ u14_h _ ?_) (ev_subS (ev_subS (ev_subN (ev_subS (ev_subN (ev_subS (ev_subS (ev_subS ev_sub0))))))))
                  intro y19_0 y19_1 y19_3 y19_5 y19_6 y19_h
                  refine ev_iload6 208 d_Mo_core_206 rfl ?_
                  refine ev_iconst 209 d_Mo_core_208 rfl ?_
                  refine ev_icmp_ne 221 212 d_Mo_core_209 (by decide) rfl ?_ ?_
                  · refine ev_jn (fun J => ∀ (u20_0 : Option Nat) (u20_1 : Int) (u20_3 : Int) (u20_5 : Int) (u20_s0 : Option Nat) (u20_s1 : Int) (u20_s2 : Int) (u20_h : ev_hs), EvO E M_Mo_core 4 cvV 233 [some (va_rf u20_0), some (eI u20_1), none, some (eI u20_3), none, some (eI u20_5), none, none] [eI u20_s2, eI u20_s1, va_rf u20_s0] u20_h (J u20_0 u20_1 u20_3 u20_5 u20_s0 u20_s1 u20_s2 u20_h)) ?_ (fun J233 hJ233 => ?_)
                    · intro u20_0 u20_1 u20_3 u20_5 u20_s0 u20_s1 u20_s2 u20_h
                      refine ev_jn (fun J => ∀ (u21_s0 : Option Nat) (u21_s1 : Int) (u21_s2 : Int) (u21_h : ev_hs), EvO E M_Mo_core 4 cvV 264 [none, none, none, none, none, none, none, none] [eI u21_s2, eI u21_s1, va_rf u21_s0] u21_h (J u21_s0 u21_s1 u21_s2 u21_h)) ?_ (fun J264 hJ264 => ?_)
                      · intro u21_s0 u21_s1 u21_s2 u21_h
                        refine ev_iastore 265 d_Mo_core_264 rfl (fun g22 => ?_)
                        exact ev_return d_Mo_core_265 rfl
                      refine ev_iload3 234 d_Mo_core_233 rfl ?_
                      refine ev_iload3 235 d_Mo_core_234 rfl ?_
                      refine ev_cs1I (kk := 0) 238 d_Mo_core_235 cs_Mo_169 (by decide) (by decide) rfl (ev_smc rfl (ev_smc rfl (ev_smc rfl (ev_smc (va_rf_cat _) ev_sm0)))) (by decide) rfl (t_Mo_homeOf _ u20_h) (fun z24 g23 => ?_)
                      refine ev_iconst 239 d_Mo_core_238 rfl ?_
                      refine ev_iconst 240 d_Mo_core_239 rfl ?_
                      refine ev_iconst 241 d_Mo_core_240 rfl ?_
                      refine ev_cv7V (kk := 2) 244 d_Mo_core_241 cv_Mo_165 (by decide) (by decide) rfl rfl rfl rfl rfl rfl rfl ev_sm0 (by decide) rfl (t_Mo_send _ _ _ _ _ _ _ _ g23) (fun g25 => ?_)
                      refine ev_aload0 245 d_Mo_core_244 rfl ?_
                      refine ev_gR 248 d_Mo_core_245 fl_Mo_68 rfl rfl (fun q26 => ?_)
                      refine ev_bipush 250 d_Mo_core_248 (by decide) rfl ?_
                      refine ev_iload1 251 d_Mo_core_250 rfl ?_
                      refine ev_imul 252 d_Mo_core_251 rfl ?_
                      refine ev_iload3 253 d_Mo_core_252 rfl ?_
                      refine ev_iadd 254 d_Mo_core_253 rfl ?_
                      refine ev_iload5 256 d_Mo_core_254 rfl ?_
                      refine ev_if_eq 263 259 d_Mo_core_256 (by decide) rfl ?_ ?_
                      · refine ev_iconst 264 d_Mo_core_263 rfl ?_
                        exact ev_wk (hJ264 _ _ _ g25) (ev_subN (ev_subN (ev_subN (ev_subN (ev_subN (ev_subN (ev_subN (ev_subN ev_sub0))))))))
                      · refine ev_iconst 260 d_Mo_core_259 rfl ?_
                        refine ev_goto 264 d_Mo_core_260 (by decide) ?_
                        exact ev_wk (hJ264 _ _ _ g25) (ev_subN (ev_subN (ev_subN (ev_subN (ev_subN (ev_subN (ev_subN (ev_subN ev_sub0))))))))
                    refine ev_aload0 222 d_Mo_core_221 rfl ?_
                    refine ev_iload1 223 d_Mo_core_222 rfl ?_
                    refine ev_iload5 225 d_Mo_core_223 rfl ?_
                    refine ev_if_eq 232 228 d_Mo_core_225 (by decide) rfl ?_ ?_
                    · refine ev_iconst 233 d_Mo_core_232 rfl ?_
                      exact ev_wk (hJ233 _ _ _ _ _ _ _ y19_h) (ev_subS (ev_subS (ev_subN (ev_subS (ev_subN (ev_subS (ev_subN (ev_subN ev_sub0))))))))
                    · refine ev_iconst 229 d_Mo_core_228 rfl ?_
                      refine ev_goto 233 d_Mo_core_229 (by decide) ?_
                      exact ev_wk (hJ233 _ _ _ _ _ _ _ y19_h) (ev_subS (ev_subS (ev_subN (ev_subS (ev_subN (ev_subS (ev_subN (ev_subN ev_sub0))))))))
                  · refine ev_aload0 213 d_Mo_core_212 rfl ?_
                    refine ev_iload1 214 d_Mo_core_213 rfl ?_
                    refine ev_iload3 215 d_Mo_core_214 rfl ?_
                    refine ev_cv2V (kk := 4) 218 d_Mo_core_215 cv_Mo_212 (by decide) (by decide) rfl rfl ev_sm0 (by decide) rfl (t_Mo_evict _ _ _ y19_h) (fun g27 => ?_)
                    refine ev_goto 265 d_Mo_core_218 (by decide) ?_
                    exact ev_return d_Mo_core_265 rfl
              · refine ev_aload0 127 d_Mo_core_126 rfl ?_
                refine ev_iload1 128 d_Mo_core_127 rfl ?_
                refine ev_iconst 129 d_Mo_core_128 rfl ?_
                refine ev_iload3 130 d_Mo_core_129 rfl ?_
                refine ev_iload3 131 d_Mo_core_130 rfl ?_
                refine ev_cs1I (kk := 0) 134 d_Mo_core_131 cs_Mo_169 (by decide) (by decide) rfl (ev_smc rfl (ev_smc rfl (ev_smc rfl (ev_smc (va_rf_cat _) ev_sm0)))) (by decide) rfl (t_Mo_homeOf _ u14_h) (fun z29 g28 => ?_)
                refine ev_iconst 135 d_Mo_core_134 rfl ?_
                refine ev_iconst 136 d_Mo_core_135 rfl ?_
                refine ev_iconst 137 d_Mo_core_136 rfl ?_
                refine ev_cv7V (kk := 2) 140 d_Mo_core_137 cv_Mo_165 (by decide) (by decide) rfl rfl rfl rfl rfl rfl rfl ev_sm0 (by decide) rfl (t_Mo_send _ _ _ _ _ _ _ _ g28) (fun g30 => ?_)
                refine ev_aload0 141 d_Mo_core_140 rfl ?_
                refine ev_gR 144 d_Mo_core_141 fl_Mo_68 rfl rfl (fun q31 => ?_)
                refine ev_bipush 146 d_Mo_core_144 (by decide) rfl ?_
                refine ev_iload1 147 d_Mo_core_146 rfl ?_
                refine ev_imul 148 d_Mo_core_147 rfl ?_
                refine ev_iload3 149 d_Mo_core_148 rfl ?_
                refine ev_iadd 150 d_Mo_core_149 rfl ?_
                refine ev_iconst 151 d_Mo_core_150 rfl ?_
                refine ev_iastore 152 d_Mo_core_151 rfl (fun g32 => ?_)
                refine ev_goto 265 d_Mo_core_152 (by decide) ?_
                exact ev_return d_Mo_core_265 rfl
            refine ev_iload4 102 d_Mo_core_100 rfl ?_
            refine ev_iconst 103 d_Mo_core_102 rfl ?_
            refine ev_icmp_ne 120 106 d_Mo_core_103 (by decide) rfl ?_ ?_
            · exact ev_wk (hJ120 _ _ _ _ _ u11_h) (ev_subS (ev_subS (ev_subN (ev_subS (ev_subS (ev_subS (ev_subN (ev_subN ev_sub0))))))))
            · refine ev_iload5 108 d_Mo_core_106 rfl ?_
              refine ev_if_eq 120 111 d_Mo_core_108 (by decide) rfl ?_ ?_
              · exact ev_wk (hJ120 _ _ _ _ _ u11_h) (ev_subS (ev_subS (ev_subN (ev_subS (ev_subS (ev_subS (ev_subN (ev_subN ev_sub0))))))))
              · exact ev_wk (hJ111 _ _ _ u11_h) (ev_subS (ev_subS (ev_subN (ev_subS (ev_subN (ev_subN (ev_subN (ev_subN ev_sub0))))))))
        refine ev_aload0 58 d_Mo_core_57 rfl ?_
        refine ev_gR 61 d_Mo_core_58 fl_Mo_95 rfl rfl (fun q33 => ?_)
        refine ev_iload2 62 d_Mo_core_61 rfl ?_
        refine ev_iaload 63 d_Mo_core_62 rfl (fun z34 => ?_)
        refine ev_istore3 64 d_Mo_core_63 (by decide) rfl ?_
        refine ev_aload0 65 d_Mo_core_64 rfl ?_
        refine ev_gR 68 d_Mo_core_65 fl_Mo_68 rfl rfl (fun q35 => ?_)
        refine ev_bipush 70 d_Mo_core_68 (by decide) rfl ?_
        refine ev_iload1 71 d_Mo_core_70 rfl ?_
        refine ev_imul 72 d_Mo_core_71 rfl ?_
        refine ev_iload3 73 d_Mo_core_72 rfl ?_
        refine ev_iadd 74 d_Mo_core_73 rfl ?_
        refine ev_iaload 75 d_Mo_core_74 rfl (fun z36 => ?_)
        refine ev_istore4 77 d_Mo_core_75 (by decide) rfl ?_
        refine ev_aload0 78 d_Mo_core_77 rfl ?_
        refine ev_gR 81 d_Mo_core_78 fl_Mo_92 rfl rfl (fun q37 => ?_)
        refine ev_iload2 82 d_Mo_core_81 rfl ?_
        refine ev_iaload 83 d_Mo_core_82 rfl (fun z38 => ?_)
        refine ev_if_ne 90 86 d_Mo_core_83 (by decide) rfl ?_ ?_
        · refine ev_iconst 91 d_Mo_core_90 rfl ?_
          exact ev_wk (hJ91 _ _ _ _ _ h) (ev_subS (ev_subS (ev_subN (ev_subS (ev_subS (ev_subN (ev_subN (ev_subN ev_sub0))))))))
        · refine ev_iconst 87 d_Mo_core_86 rfl ?_
          refine ev_goto 91 d_Mo_core_87 (by decide) ?_
          exact ev_wk (hJ91 _ _ _ _ _ h) (ev_subS (ev_subS (ev_subN (ev_subS (ev_subS (ev_subN (ev_subN (ev_subN ev_sub0))))))))
      · refine ev_aload0 47 d_Mo_core_46 rfl ?_
        refine ev_gR 50 d_Mo_core_47 fl_Mo_101 rfl rfl (fun q39 => ?_)
        refine ev_iload2 51 d_Mo_core_50 rfl ?_
        refine ev_dup2 52 d_Mo_core_51 rfl (va_rf_cat _) rfl ?_
        refine ev_iaload 53 d_Mo_core_52 rfl (fun z40 => ?_)
        refine ev_iconst 54 d_Mo_core_53 rfl ?_
        refine ev_isub 55 d_Mo_core_54 rfl ?_
        refine ev_iastore 56 d_Mo_core_55 rfl (fun g41 => ?_)
        exact ev_return d_Mo_core_56 rfl
    · exact ev_return d_Mo_core_24 rfl
