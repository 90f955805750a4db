theorem t_Mo_oneCycle_20 {E : ev_E} : ∀ (fu : Nat) (x0 : Option Nat) (x1 : Int) (x2 : Int) (h : ev_hs) (K37 : Option Nat → Int → ev_hs → Option (ev_hs)) (hK37 : ∀ (w0 : Option Nat) (w1 : Int) (wh : ev_hs), EvO E M_Mo_oneCycle 6 cvV 37 [some (va_rf w0), some (eI w1), none, none, none] [] wh (K37 w0 w1 wh)) , EvO E M_Mo_oneCycle 6 cvV 20 [some (va_rf x0), some (eI x1), some (eI x2), none, none] [] h (f_Mo_oneCycle_20 fu x0 x1 x2 h K37) := by
  intro fu
  induction fu with
  | zero => intros; exact ev_no
  | succ fu ih =>
    intro x0 x1 x2 h K37 hK37
    rw [f_Mo_oneCycle_20]
    refine ev_iload2 21 d_Mo_oneCycle_20 rfl ?_
    refine ev_iconst 22 d_Mo_oneCycle_21 rfl ?_
    refine ev_icmp_ge 37 25 d_Mo_oneCycle_22 (by decide) rfl ?_ ?_
    · exact ev_wk (hK37 _ _ h) (ev_subS (ev_subS (ev_subN (ev_subN (ev_subN ev_sub0)))))
    · refine ev_aload0 26 d_Mo_oneCycle_25 rfl ?_
      refine ev_iload1 27 d_Mo_oneCycle_26 rfl ?_
      refine ev_iload2 28 d_Mo_oneCycle_27 rfl ?_
      refine ev_cv2V (kk := 4) 31 d_Mo_oneCycle_28 cv_Mo_215 (by decide) (by decide) rfl rfl ev_sm0 (by decide) rfl (t_Mo_inject _ _ _ h) (fun g3 => ?_)
      refine ev_iinc2 34 d_Mo_oneCycle_31 (by decide) rfl ?_
      refine ev_goto 20 d_Mo_oneCycle_34 (by decide) ?_
      exact ev_wk (ih _ _ _ g3 _ hK37) (ev_subS (ev_subS (ev_subS (ev_subN (ev_subN ev_sub0)))))
theorem t_Mo_oneCycle_12 {E : ev_E} : ∀ (fu : Nat) (x0 : Option Nat) (x1 : Int) (h : ev_hs) (K43 : Option Nat → ev_hs → Option (ev_hs)) (hK43 : ∀ (w0 : Option Nat) (wh : ev_hs), EvO E M_Mo_oneCycle 6 cvV 43 [some (va_rf w0), none, none, none, none] [] wh (K43 w0 wh)) , EvO E M_Mo_oneCycle 6 cvV 12 [some (va_rf x0), some (eI x1), none, none, none] [] h (f_Mo_oneCycle_12 fu x0 x1 h K43) := by
  intro fu
  induction fu with
  | zero => intros; exact ev_no
  | succ fu ih =>
    intro x0 x1 h K43 hK43
    rw [f_Mo_oneCycle_12]
    refine ev_iload1 13 d_Mo_oneCycle_12 rfl ?_
    refine ev_bipush 15 d_Mo_oneCycle_13 (by decide) rfl ?_
    refine ev_icmp_ge 43 18 d_Mo_oneCycle_15 (by decide) rfl ?_ ?_
    · exact ev_wk (hK43 _ h) (ev_subS (ev_subN (ev_subN (ev_subN (ev_subN ev_sub0)))))
    · refine ev_iconst 19 d_Mo_oneCycle_18 rfl ?_
      refine ev_istore2 20 d_Mo_oneCycle_19 (by decide) rfl ?_
      refine ev_wk (t_Mo_oneCycle_20 FU _ _ _ h _ ?_) (ev_subS (ev_subS (ev_subS (ev_subN (ev_subN ev_sub0)))))
      intro y4_0 y4_1 y4_h
      refine ev_iinc1 40 d_Mo_oneCycle_37 (by decide) rfl ?_
      refine ev_goto 12 d_Mo_oneCycle_40 (by decide) ?_
      exact ev_wk (ih _ _ y4_h _ hK43) (ev_subS (ev_subS (ev_subN (ev_subN (ev_subN ev_sub0)))))
theorem t_Mo_oneCycle_63 {E : ev_E} : ∀ (fu : Nat) (x0 : Option Nat) (x1 : Int) (x2 : Int) (x3 : Int) (x4 : Int) (h : ev_hs) (K87 : Option Nat → Int → Int → ev_hs → Option (ev_hs)) (hK87 : ∀ (w0 : Option Nat) (w1 : Int) (w2 : Int) (wh : ev_hs), EvO E M_Mo_oneCycle 6 cvV 87 [some (va_rf w0), some (eI w1), some (eI w2), none, none] [] wh (K87 w0 w1 w2 wh)) , EvO E M_Mo_oneCycle 6 cvV 63 [some (va_rf x0), some (eI x1), some (eI x2), some (eI x3), some (eI x4)] [] h (f_Mo_oneCycle_63 fu x0 x1 x2 x3 x4 h K87) := by
  intro fu
  induction fu with
  | zero => intros; exact ev_no
  | succ fu ih =>
    intro x0 x1 x2 x3 x4 h K87 hK87
    rw [f_Mo_oneCycle_63]
    refine ev_iload4 65 d_Mo_oneCycle_63 rfl ?_
    refine ev_if_lt 87 68 d_Mo_oneCycle_65 (by decide) rfl ?_ ?_
    · exact ev_wk (hK87 _ _ _ h) (ev_subS (ev_subS (ev_subS (ev_subN (ev_subN ev_sub0)))))
    · refine ev_iload3 69 d_Mo_oneCycle_68 rfl ?_
      refine ev_if_ne 87 72 d_Mo_oneCycle_69 (by decide) rfl ?_ ?_
      · exact ev_wk (hK87 _ _ _ h) (ev_subS (ev_subS (ev_subS (ev_subN (ev_subN ev_sub0)))))
      · refine ev_aload0 73 d_Mo_oneCycle_72 rfl ?_
        refine ev_iload1 74 d_Mo_oneCycle_73 rfl ?_
        refine ev_iload2 75 d_Mo_oneCycle_74 rfl ?_
        refine ev_iload4 77 d_Mo_oneCycle_75 rfl ?_
        refine ev_cv3I (kk := 10) 80 d_Mo_oneCycle_77 cv_Mo_218 (by decide) (by decide) rfl rfl rfl ev_sm0 (by decide) rfl (t_Mo_moves _ _ _ _ h) (fun z7 g6 => ?_)
        refine ev_istore3 81 d_Mo_oneCycle_80 (by decide) rfl ?_
        refine ev_iinc4 84 d_Mo_oneCycle_81 (by decide) rfl ?_
        refine ev_goto 63 d_Mo_oneCycle_84 (by decide) ?_
        exact ev_wk (ih _ _ _ _ _ g6 _ hK87) (ev_subS (ev_subS (ev_subS (ev_subS (ev_subS ev_sub0)))))
theorem t_Mo_oneCycle_53 {E : ev_E} : ∀ (fu : Nat) (x0 : Option Nat) (x1 : Int) (x2 : Int) (h : ev_hs) (K93 : Option Nat → Int → ev_hs → Option (ev_hs)) (hK93 : ∀ (w0 : Option Nat) (w1 : Int) (wh : ev_hs), EvO E M_Mo_oneCycle 6 cvV 93 [some (va_rf w0), some (eI w1), none, none, none] [] wh (K93 w0 w1 wh)) , EvO E M_Mo_oneCycle 6 cvV 53 [some (va_rf x0), some (eI x1), some (eI x2), none, none] [] h (f_Mo_oneCycle_53 fu x0 x1 x2 h K93) := by
  intro fu
  induction fu with
  | zero => intros; exact ev_no
  | succ fu ih =>
    intro x0 x1 x2 h K93 hK93
    rw [f_Mo_oneCycle_53]
    refine ev_iload2 54 d_Mo_oneCycle_53 rfl ?_
    refine ev_iconst 55 d_Mo_oneCycle_54 rfl ?_
    refine ev_icmp_ge 93 58 d_Mo_oneCycle_55 (by decide) rfl ?_ ?_
    · exact ev_wk (hK93 _ _ h) (ev_subS (ev_subS (ev_subN (ev_subN (ev_subN ev_sub0)))))
    · refine ev_iconst 59 d_Mo_oneCycle_58 rfl ?_
      refine ev_istore3 60 d_Mo_oneCycle_59 (by decide) rfl ?_
      refine ev_iconst 61 d_Mo_oneCycle_60 rfl ?_
      refine ev_istore4 63 d_Mo_oneCycle_61 (by decide) rfl ?_
      refine ev_wk (t_Mo_oneCycle_63 FU _ _ _ _ _ h _ ?_) (ev_subS (ev_subS (ev_subS (ev_subS (ev_subS ev_sub0)))))
      intro y8_0 y8_1 y8_2 y8_h
      refine ev_iinc2 90 d_Mo_oneCycle_87 (by decide) rfl ?_
      refine ev_goto 53 d_Mo_oneCycle_90 (by decide) ?_
      exact ev_wk (ih _ _ _ y8_h _ hK93) (ev_subS (ev_subS (ev_subS (ev_subN (ev_subN ev_sub0)))))
theorem t_Mo_oneCycle_45 {E : ev_E} : ∀ (fu : Nat) (x0 : Option Nat) (x1 : Int) (h : ev_hs) (K99 : Option Nat → ev_hs → Option (ev_hs)) (hK99 : ∀ (w0 : Option Nat) (wh : ev_hs), EvO E M_Mo_oneCycle 6 cvV 99 [some (va_rf w0), none, none, none, none] [] wh (K99 w0 wh)) , EvO E M_Mo_oneCycle 6 cvV 45 [some (va_rf x0), some (eI x1), none, none, none] [] h (f_Mo_oneCycle_45 fu x0 x1 h K99) := by
  intro fu
  induction fu with
  | zero => intros; exact ev_no
  | succ fu ih =>
    intro x0 x1 h K99 hK99
    rw [f_Mo_oneCycle_45]
    refine ev_iload1 46 d_Mo_oneCycle_45 rfl ?_
    refine ev_bipush 48 d_Mo_oneCycle_46 (by decide) rfl ?_
    refine ev_icmp_ge 99 51 d_Mo_oneCycle_48 (by decide) rfl ?_ ?_
    · exact ev_wk (hK99 _ h) (ev_subS (ev_subN (ev_subN (ev_subN (ev_subN ev_sub0)))))
    · refine ev_iconst 52 d_Mo_oneCycle_51 rfl ?_
      refine ev_istore2 53 d_Mo_oneCycle_52 (by decide) rfl ?_
      refine ev_wk (t_Mo_oneCycle_53 FU _ _ _ h _ ?_) (ev_subS (ev_subS (ev_subS (ev_subN (ev_subN ev_sub0)))))
      intro y9_0 y9_1 y9_h
      refine ev_iinc1 96 d_Mo_oneCycle_93 (by decide) rfl ?_
      refine ev_goto 45 d_Mo_oneCycle_96 (by decide) ?_
      exact ev_wk (ih _ _ y9_h _ hK99) (ev_subS (ev_subS (ev_subN (ev_subN (ev_subN ev_sub0)))))
theorem t_Mo_oneCycle_101 {E : ev_E} : ∀ (fu : Nat) (x0 : Option Nat) (x1 : Int) (h : ev_hs) (K120 : Option Nat → ev_hs → Option (ev_hs)) (hK120 : ∀ (w0 : Option Nat) (wh : ev_hs), EvO E M_Mo_oneCycle 6 cvV 120 [some (va_rf w0), none, none, none, none] [] wh (K120 w0 wh)) , EvO E M_Mo_oneCycle 6 cvV 101 [some (va_rf x0), some (eI x1), none, none, none] [] h (f_Mo_oneCycle_101 fu x0 x1 h K120) := by
  intro fu
  induction fu with
  | zero => intros; exact ev_no
  | succ fu ih =>
    intro x0 x1 h K120 hK120
    rw [f_Mo_oneCycle_101]
    refine ev_iload1 102 d_Mo_oneCycle_101 rfl ?_
    refine ev_bipush 104 d_Mo_oneCycle_102 (by decide) rfl ?_
    refine ev_icmp_ge 120 107 d_Mo_oneCycle_104 (by decide) rfl ?_ ?_
    · exact ev_wk (hK120 _ h) (ev_subS (ev_subN (ev_subN (ev_subN (ev_subN ev_sub0)))))
    · refine ev_aload0 108 d_Mo_oneCycle_107 rfl ?_
      refine ev_gR 111 d_Mo_oneCycle_108 fl_Mo_113 rfl rfl (fun q11 => ?_)
      refine ev_iload1 112 d_Mo_oneCycle_111 rfl ?_
      refine ev_iconst 113 d_Mo_oneCycle_112 rfl ?_
      refine ev_bastore 114 d_Mo_oneCycle_113 rfl (fun g12 => ?_)
      refine ev_iinc1 117 d_Mo_oneCycle_114 (by decide) rfl ?_
      refine ev_goto 101 d_Mo_oneCycle_117 (by decide) ?_
      exact ev_wk (ih _ _ g12 _ hK120) (ev_subS (ev_subS (ev_subN (ev_subN (ev_subN ev_sub0)))))
theorem t_Mo_oneCycle_130 {E : ev_E} : ∀ (fu : Nat) (x0 : Option Nat) (x1 : Int) (x2 : Int) (h : ev_hs) (K146 : Option Nat → Int → ev_hs → Option (ev_hs)) (hK146 : ∀ (w0 : Option Nat) (w1 : Int) (wh : ev_hs), EvO E M_Mo_oneCycle 6 cvV 146 [some (va_rf w0), some (eI w1), none, none, none] [] wh (K146 w0 w1 wh)) , EvO E M_Mo_oneCycle 6 cvV 130 [some (va_rf x0), some (eI x1), some (eI x2), none, none] [] h (f_Mo_oneCycle_130 fu x0 x1 x2 h K146) := by
  intro fu
  induction fu with
  | zero => intros; exact ev_no
  | succ fu ih =>
    intro x0 x1 x2 h K146 hK146
    rw [f_Mo_oneCycle_130]
    refine ev_iload2 131 d_Mo_oneCycle_130 rfl ?_
    refine ev_if_lt 146 134 d_Mo_oneCycle_131 (by decide) rfl ?_ ?_
    · exact ev_wk (hK146 _ _ h) (ev_subS (ev_subS (ev_subN (ev_subN (ev_subN ev_sub0)))))
    · refine ev_aload0 135 d_Mo_oneCycle_134 rfl ?_
      refine ev_iload1 136 d_Mo_oneCycle_135 rfl ?_
      refine ev_iload2 137 d_Mo_oneCycle_136 rfl ?_
      refine ev_cv2V (kk := 3) 140 d_Mo_oneCycle_137 cv_Mo_221 (by decide) (by decide) rfl rfl ev_sm0 (by decide) rfl (t_Mo_takeFirst _ _ _ h) (fun g14 => ?_)
      refine ev_iinc2 143 d_Mo_oneCycle_140 (by decide) rfl ?_
      refine ev_goto 130 d_Mo_oneCycle_143 (by decide) ?_
      exact ev_wk (ih _ _ _ g14 _ hK146) (ev_subS (ev_subS (ev_subS (ev_subN (ev_subN ev_sub0)))))
theorem t_Mo_oneCycle_122 {E : ev_E} : ∀ (fu : Nat) (x0 : Option Nat) (x1 : Int) (h : ev_hs) (K152 : Option Nat → ev_hs → Option (ev_hs)) (hK152 : ∀ (w0 : Option Nat) (wh : ev_hs), EvO E M_Mo_oneCycle 6 cvV 152 [some (va_rf w0), none, none, none, none] [] wh (K152 w0 wh)) , EvO E M_Mo_oneCycle 6 cvV 122 [some (va_rf x0), some (eI x1), none, none, none] [] h (f_Mo_oneCycle_122 fu x0 x1 h K152) := by
  intro fu
  induction fu with
  | zero => intros; exact ev_no
  | succ fu ih =>
    intro x0 x1 h K152 hK152
    rw [f_Mo_oneCycle_122]
    refine ev_iload1 123 d_Mo_oneCycle_122 rfl ?_
    refine ev_bipush 125 d_Mo_oneCycle_123 (by decide) rfl ?_
    refine ev_icmp_ge 152 128 d_Mo_oneCycle_125 (by decide) rfl ?_ ?_
    · exact ev_wk (hK152 _ h) (ev_subS (ev_subN (ev_subN (ev_subN (ev_subN ev_sub0)))))
    · refine ev_iconst 129 d_Mo_oneCycle_128 rfl ?_
      refine ev_istore2 130 d_Mo_oneCycle_129 (by decide) rfl ?_
      refine ev_wk (t_Mo_oneCycle_130 FU _ _ _ h _ ?_) (ev_subS (ev_subS (ev_subS (ev_subN (ev_subN ev_sub0)))))
      intro y15_0 y15_1 y15_h
      refine ev_iinc1 149 d_Mo_oneCycle_146 (by decide) rfl ?_
      refine ev_goto 122 d_Mo_oneCycle_149 (by decide) ?_
      exact ev_wk (ih _ _ y15_h _ hK152) (ev_subS (ev_subS (ev_subN (ev_subN (ev_subN ev_sub0)))))
theorem t_Mo_oneCycle_154 {E : ev_E} : ∀ (fu : Nat) (x0 : Option Nat) (x1 : Int) (h : ev_hs), EvO E M_Mo_oneCycle 6 cvV 154 [some (va_rf x0), some (eI x1), none, none, none] [] h (f_Mo_oneCycle_154 fu x0 x1 h) := by
  intro fu
  induction fu with
  | zero => intros; exact ev_no
  | succ fu ih =>
    intro x0 x1 h
    rw [f_Mo_oneCycle_154]
    refine ev_iload1 155 d_Mo_oneCycle_154 rfl ?_
    refine ev_bipush 157 d_Mo_oneCycle_155 (by decide) rfl ?_
    refine ev_icmp_ge 171 160 d_Mo_oneCycle_157 (by decide) rfl ?_ ?_
    · exact ev_return d_Mo_oneCycle_171 rfl
    · refine ev_aload0 161 d_Mo_oneCycle_160 rfl ?_
      refine ev_iload1 162 d_Mo_oneCycle_161 rfl ?_
      refine ev_cv1V (kk := 6) 165 d_Mo_oneCycle_162 cv_Mo_224 (by decide) (by decide) rfl ev_sm0 (by decide) rfl (t_Mo_core _ _ h) (fun g17 => ?_)
      refine ev_iinc1 168 d_Mo_oneCycle_165 (by decide) rfl ?_
      refine ev_goto 154 d_Mo_oneCycle_168 (by decide) ?_
      exact ev_wk (ih _ _ g17) (ev_subS (ev_subS (ev_subN (ev_subN (ev_subN ev_sub0)))))
theorem t_Mo_oneCycle {E : ev_E} (x0 : Option Nat) (h : ev_hs) : EvO E M_Mo_oneCycle 6 cvV 0 [some (va_rf x0), none, none, none, none] [] h (f_Mo_oneCycle x0 h) := by
  unfold f_Mo_oneCycle
  refine ev_aload0 1 d_Mo_oneCycle_0 rfl ?_
  refine ev_dup 2 d_Mo_oneCycle_1 (va_rf_cat _) rfl ?_
  refine ev_gI 5 d_Mo_oneCycle_2 fl_Mo_130 rfl rfl (fun z1 => ?_)
  refine ev_iconst 6 d_Mo_oneCycle_5 rfl ?_
  refine ev_iadd 7 d_Mo_oneCycle_6 rfl ?_
  refine ev_pI 10 d_Mo_oneCycle_7 fw_Mo_oneCycle_130 rfl rfl (fun g2 => ?_)
  refine ev_iconst 11 d_Mo_oneCycle_10 rfl ?_
  refine ev_istore1 12 d_Mo_oneCycle_11 (by decide) rfl ?_
  refine ev_wk (t_Mo_oneCycle_12 FU _ _ g2 _ ?_) (ev_subS (ev_subS (ev_subN (ev_subN (ev_subN ev_sub0)))))
  intro y5_0 y5_h
  refine ev_iconst 44 d_Mo_oneCycle_43 rfl ?_
  refine ev_istore1 45 d_Mo_oneCycle_44 (by decide) rfl ?_
  refine ev_wk (t_Mo_oneCycle_45 FU _ _ y5_h _ ?_) (ev_subS (ev_subS (ev_subN (ev_subN (ev_subN ev_sub0)))))
  intro y10_0 y10_h
  refine ev_iconst 100 d_Mo_oneCycle_99 rfl ?_
  refine ev_istore1 101 d_Mo_oneCycle_100 (by decide) rfl ?_
  refine ev_wk (t_Mo_oneCycle_101 FU _ _ y10_h _ ?_) (ev_subS (ev_subS (ev_subN (ev_subN (ev_subN ev_sub0)))))
  intro y13_0 y13_h
  refine ev_iconst 121 d_Mo_oneCycle_120 rfl ?_
  refine ev_istore1 122 d_Mo_oneCycle_121 (by decide) rfl ?_
  refine ev_wk (t_Mo_oneCycle_122 FU _ _ y13_h _ ?_) (ev_subS (ev_subS (ev_subN (ev_subN (ev_subN ev_sub0)))))
  intro y16_0 y16_h
  refine ev_iconst 153 d_Mo_oneCycle_152 rfl ?_
  refine ev_istore1 154 d_Mo_oneCycle_153 (by decide) rfl ?_
  refine ev_wk (t_Mo_oneCycle_154 FU _ _ y16_h) (ev_subS (ev_subS (ev_subN (ev_subN (ev_subN ev_sub0)))))
theorem t_Mo_run_14 {E : ev_E} : ∀ (fu : Nat) (x0 : Option Nat) (x1 : Int) (x2 : Int) (h : ev_hs), EvO E M_Mo_run 7 cvI 14 [some (va_rf x0), some (eI x1), some (eI x2)] [] h (f_Mo_run_14 fu x0 x1 x2 h) := by
  intro fu
  induction fu with
  | zero => intros; exact ev_no
  | succ fu ih =>
    intro x0 x1 x2 h
    rw [f_Mo_run_14]
    refine ev_iload2 15 d_Mo_run_14 rfl ?_
    refine ev_iload1 16 d_Mo_run_15 rfl ?_
    refine ev_icmp_ge 29 19 d_Mo_run_16 (by decide) rfl ?_ ?_
    · refine ev_aload0 30 d_Mo_run_29 rfl ?_
      refine ev_gI 33 d_Mo_run_30 fl_Mo_130 rfl rfl (fun z2 => ?_)
      exact ev_ireturn d_Mo_run_33 rfl
    · refine ev_aload0 20 d_Mo_run_19 rfl ?_
      refine ev_cv0V (kk := 4) 23 d_Mo_run_20 cv_Mo_233 (by decide) (by decide)  ev_sm0 (by decide) rfl (t_Mo_oneCycle _ h) (fun g3 => ?_)
      refine ev_iinc2 26 d_Mo_run_23 (by decide) rfl ?_
      refine ev_goto 14 d_Mo_run_26 (by decide) ?_
      exact ev_wk (ih _ _ _ g3) (ev_subS (ev_subS (ev_subS ev_sub0)))
theorem t_Mo_run {E : ev_E} (x0 : Option Nat) (x1 : Int) (h : ev_hs) : EvO E M_Mo_run 7 cvI 0 [some (va_rf x0), some (eI x1), none] [] h (f_Mo_run x0 x1 h) := by
  unfold f_Mo_run
  refine ev_jn (fun J => ∀ (u1_h : ev_hs), EvO E M_Mo_run 7 cvI 10 [none, none, none] [] u1_h (J u1_h)) ?_ (fun J10 hJ10 => ?_)
  · intro u1_h
    refine ev_iconst 11 d_Mo_run_10 rfl ?_
    exact ev_ireturn d_Mo_run_11 rfl
  refine ev_iload1 1 d_Mo_run_0 rfl ?_
  refine ev_if_lt 10 4 d_Mo_run_1 (by decide) rfl ?_ ?_
  · exact ev_wk (hJ10 h) (ev_subN (ev_subN (ev_subN ev_sub0)))
  · refine ev_iload1 5 d_Mo_run_4 rfl ?_
    refine ev_bipush 7 d_Mo_run_5 (by decide) rfl ?_
    refine ev_icmp_le 12 10 d_Mo_run_7 (by decide) rfl ?_ ?_
    · refine ev_iconst 13 d_Mo_run_12 rfl ?_
      refine ev_istore2 14 d_Mo_run_13 (by decide) rfl ?_
      refine ev_wk (t_Mo_run_14 FU _ _ _ h) (ev_subS (ev_subS (ev_subS ev_sub0)))
    · exact ev_wk (hJ10 h) (ev_subN (ev_subN (ev_subN ev_sub0)))
theorem t_ML_result {E : ev_E} (x0 : Option Nat) (x1 : Int) (x2 : Int) (h : ev_hs) : EvO E M_ML_result 2 cvI 0 [some (va_rf x0), some (eI x1), some (eI x2), none] [] h (f_ML_result x0 x1 x2 h) := by
  unfold f_ML_result
  refine ev_iload1 1 d_ML_result_0 rfl ?_
  refine ev_bipush 3 d_ML_result_1 (by decide) rfl ?_
  refine ev_cs2I (kk := 0) 6 d_ML_result_3 cs_ML_40 (by decide) (by decide) rfl rfl ev_sm0 (by decide) rfl (t_ML_isBelow _ _ h) (fun z2 g1 => ?_)
  refine ev_if_ne 11 9 d_ML_result_6 (by decide) rfl ?_ ?_
  · refine ev_jn (fun J => ∀ (u3_s0 : Int) (u3_h : ev_hs), EvO E M_ML_result 2 cvI 42 [none, none, none, none] [eI u3_s0] u3_h (J u3_s0 u3_h)) ?_ (fun J42 hJ42 => ?_)
    · intro u3_s0 u3_h
      exact ev_ireturn d_ML_result_42 rfl
    refine ev_aload0 12 d_ML_result_11 rfl ?_
    refine ev_gR 15 d_ML_result_12 fl_ML_33 rfl rfl (fun q4 => ?_)
    refine ev_iload1 16 d_ML_result_15 rfl ?_
    refine ev_aaload (t := 54) 17 d_ML_result_16 (by decide) ⟨_, rfl⟩ rfl (fun q5 => ?_)
    refine ev_gR 20 d_ML_result_17 fl_ML_44 rfl rfl (fun q6 => ?_)
    refine ev_astore3 21 d_ML_result_20 (by decide) rfl ?_
    refine ev_iload2 22 d_ML_result_21 rfl ?_
    refine ev_aload3 23 d_ML_result_22 rfl ?_
    refine ev_gI 26 d_ML_result_23 fl_ML_71 rfl rfl (fun z7 => ?_)
    refine ev_cs2I (kk := 0) 29 d_ML_result_26 cs_ML_40 (by decide) (by decide) rfl rfl ev_sm0 (by decide) rfl (t_ML_isBelow _ _ g1) (fun z9 g8 => ?_)
    refine ev_if_eq 41 32 d_ML_result_29 (by decide) rfl ?_ ?_
    · refine ev_iconst 42 d_ML_result_41 rfl ?_
      exact ev_wk (hJ42 _ g8) (ev_subN (ev_subN (ev_subN (ev_subN ev_sub0))))
    · refine ev_aload3 33 d_ML_result_32 rfl ?_
      refine ev_gR 36 d_ML_result_33 fl_ML_74 rfl rfl (fun q10 => ?_)
      refine ev_iload2 37 d_ML_result_36 rfl ?_
      refine ev_iaload 38 d_ML_result_37 rfl (fun z11 => ?_)
      refine ev_goto 42 d_ML_result_38 (by decide) ?_
      exact ev_wk (hJ42 _ g8) (ev_subN (ev_subN (ev_subN (ev_subN ev_sub0))))
  · refine ev_iconst 10 d_ML_result_9 rfl ?_
    exact ev_ireturn d_ML_result_10 rfl
theorem t_Mo_result {E : ev_E} (x0 : Option Nat) (x1 : Int) (x2 : Int) (h : ev_hs) : EvO E M_Mo_result 2 cvI 0 [some (va_rf x0), some (eI x1), some (eI x2)] [] h (f_Mo_result x0 x1 x2 h) := by
  unfold f_Mo_result
  refine ev_jn (fun J => ∀ (u1_s0 : Int) (u1_h : ev_hs), EvO E M_Mo_result 2 cvI 36 [none, none, none] [eI u1_s0] u1_h (J u1_s0 u1_h)) ?_ (fun J36 hJ36 => ?_)
  · intro u1_s0 u1_h
    exact ev_ireturn d_Mo_result_36 rfl
  refine ev_jn (fun J => ∀ (u2_h : ev_hs), EvO E M_Mo_result 2 cvI 21 [none, none, none] [] u2_h (J u2_h)) ?_ (fun J21 hJ21 => ?_)
  · intro u2_h
    refine ev_iconst 22 d_Mo_result_21 rfl ?_
    refine ev_goto 36 d_Mo_result_22 (by decide) ?_
    exact ev_wk (hJ36 _ u2_h) (ev_subN (ev_subN (ev_subN ev_sub0)))
  refine ev_iload1 1 d_Mo_result_0 rfl ?_
  refine ev_cs1I (kk := 0) 4 d_Mo_result_1 cs_Mo_227 (by decide) (by decide) rfl ev_sm0 (by decide) rfl (t_Mo_isNode _ h) (fun z4 g3 => ?_)
  refine ev_if_eq 21 7 d_Mo_result_4 (by decide) rfl ?_ ?_
  · exact ev_wk (hJ21 g3) (ev_subN (ev_subN (ev_subN ev_sub0)))
  · refine ev_iload2 8 d_Mo_result_7 rfl ?_
    refine ev_if_lt 21 11 d_Mo_result_8 (by decide) rfl ?_ ?_
    · exact ev_wk (hJ21 g3) (ev_subN (ev_subN (ev_subN ev_sub0)))
    · refine ev_iload2 12 d_Mo_result_11 rfl ?_
      refine ev_aload0 13 d_Mo_result_12 rfl ?_
      refine ev_gR 16 d_Mo_result_13 fl_Mo_110 rfl rfl (fun q5 => ?_)
      refine ev_iload1 17 d_Mo_result_16 rfl ?_
      refine ev_iaload 18 d_Mo_result_17 rfl (fun z6 => ?_)
      refine ev_icmp_lt 25 21 d_Mo_result_18 (by decide) rfl ?_ ?_
      · refine ev_aload0 26 d_Mo_result_25 rfl ?_
        refine ev_gR 29 d_Mo_result_26 fl_Mo_104 rfl rfl (fun q7 => ?_)
        refine ev_bipush 31 d_Mo_result_29 (by decide) rfl ?_
        refine ev_iload1 32 d_Mo_result_31 rfl ?_
        refine ev_imul 33 d_Mo_result_32 rfl ?_
        refine ev_iload2 34 d_Mo_result_33 rfl ?_
        refine ev_iadd 35 d_Mo_result_34 rfl ?_
        refine ev_iaload 36 d_Mo_result_35 rfl (fun z8 => ?_)
        exact ev_wk (hJ36 _ g3) (ev_subN (ev_subN (ev_subN ev_sub0)))
      · exact ev_wk (hJ21 g3) (ev_subN (ev_subN (ev_subN ev_sub0)))
theorem t_ML_done {E : ev_E} (x0 : Option Nat) (x1 : Int) (h : ev_hs) : EvO E M_ML_done 2 cvI 0 [some (va_rf x0), some (eI x1)] [] h (f_ML_done x0 x1 h) := by
  unfold f_ML_done
  refine ev_jn (fun J => ∀ (u1_s0 : Int) (u1_h : ev_hs), EvO E M_ML_done 2 cvI 25 [none, none] [eI u1_s0] u1_h (J u1_s0 u1_h)) ?_ (fun J25 hJ25 => ?_)
  · intro u1_s0 u1_h
    exact ev_ireturn d_ML_done_25 rfl
  refine ev_iload1 1 d_ML_done_0 rfl ?_
  refine ev_bipush 3 d_ML_done_1 (by decide) rfl ?_
  refine ev_cs2I (kk := 0) 6 d_ML_done_3 cs_ML_40 (by decide) (by decide) rfl rfl ev_sm0 (by decide) rfl (t_ML_isBelow _ _ h) (fun z3 g2 => ?_)
  refine ev_if_eq 24 9 d_ML_done_6 (by decide) rfl ?_ ?_
  · refine ev_iconst 25 d_ML_done_24 rfl ?_
    exact ev_wk (hJ25 _ g2) (ev_subN (ev_subN ev_sub0))
  · refine ev_aload0 10 d_ML_done_9 rfl ?_
    refine ev_gR 13 d_ML_done_10 fl_ML_33 rfl rfl (fun q4 => ?_)
    refine ev_iload1 14 d_ML_done_13 rfl ?_
    refine ev_aaload (t := 54) 15 d_ML_done_14 (by decide) ⟨_, rfl⟩ rfl (fun q5 => ?_)
    refine ev_gR 18 d_ML_done_15 fl_ML_44 rfl rfl (fun q6 => ?_)
    refine ev_gI 21 d_ML_done_18 fl_ML_71 rfl rfl (fun z7 => ?_)
    refine ev_goto 25 d_ML_done_21 (by decide) ?_
    exact ev_wk (hJ25 _ g2) (ev_subN (ev_subN ev_sub0))
theorem t_Mo_done {E : ev_E} (x0 : Option Nat) (x1 : Int) (h : ev_hs) : EvO E M_Mo_done 2 cvI 0 [some (va_rf x0), some (eI x1)] [] h (f_Mo_done x0 x1 h) := by
  unfold f_Mo_done
  refine ev_jn (fun J => ∀ (u1_s0 : Int) (u1_h : ev_hs), EvO E M_Mo_done 2 cvI 17 [none, none] [eI u1_s0] u1_h (J u1_s0 u1_h)) ?_ (fun J17 hJ17 => ?_)
  · intro u1_s0 u1_h
    exact ev_ireturn d_Mo_done_17 rfl
  refine ev_iload1 1 d_Mo_done_0 rfl ?_
  refine ev_cs1I (kk := 0) 4 d_Mo_done_1 cs_Mo_227 (by decide) (by decide) rfl ev_sm0 (by decide) rfl (t_Mo_isNode _ h) (fun z3 g2 => ?_)
  refine ev_if_eq 16 7 d_Mo_done_4 (by decide) rfl ?_ ?_
  · refine ev_iconst 17 d_Mo_done_16 rfl ?_
    exact ev_wk (hJ17 _ g2) (ev_subN (ev_subN ev_sub0))
  · refine ev_aload0 8 d_Mo_done_7 rfl ?_
    refine ev_gR 11 d_Mo_done_8 fl_Mo_110 rfl rfl (fun q4 => ?_)
    refine ev_iload1 12 d_Mo_done_11 rfl ?_
    refine ev_iaload 13 d_Mo_done_12 rfl (fun z5 => ?_)
    refine ev_goto 17 d_Mo_done_13 (by decide) ?_
    exact ev_wk (hJ17 _ g2) (ev_subN (ev_subN ev_sub0))
theorem t_ML_cache {E : ev_E} (x0 : Option Nat) (x1 : Int) (x2 : Int) (x3 : Int) (h : ev_hs) : EvO E M_ML_cache 2 cvI 0 [some (va_rf x0), some (eI x1), some (eI x2), some (eI x3), none] [] h (f_ML_cache x0 x1 x2 x3 h) := by
  unfold f_ML_cache
  refine ev_jn (fun J => ∀ (u1_h : ev_hs), EvO E M_ML_cache 2 cvI 18 [none, none, none, none, none] [] u1_h (J u1_h)) ?_ (fun J18 hJ18 => ?_)
  · intro u1_h
    refine ev_iconst 19 d_ML_cache_18 rfl ?_
    exact ev_ireturn d_ML_cache_19 rfl
  refine ev_iload1 1 d_ML_cache_0 rfl ?_
  refine ev_bipush 3 d_ML_cache_1 (by decide) rfl ?_
  refine ev_cs2I (kk := 0) 6 d_ML_cache_3 cs_ML_40 (by decide) (by decide) rfl rfl ev_sm0 (by decide) rfl (t_ML_isBelow _ _ h) (fun z3 g2 => ?_)
  refine ev_if_eq 18 9 d_ML_cache_6 (by decide) rfl ?_ ?_
  · exact ev_wk (hJ18 g2) (ev_subN (ev_subN (ev_subN (ev_subN (ev_subN ev_sub0)))))
  · refine ev_iload2 10 d_ML_cache_9 rfl ?_
    refine ev_bipush 12 d_ML_cache_10 (by decide) rfl ?_
    refine ev_cs2I (kk := 0) 15 d_ML_cache_12 cs_ML_40 (by decide) (by decide) rfl rfl ev_sm0 (by decide) rfl (t_ML_isBelow _ _ g2) (fun z5 g4 => ?_)
    refine ev_if_ne 20 18 d_ML_cache_15 (by decide) rfl ?_ ?_
    · refine ev_aload0 21 d_ML_cache_20 rfl ?_
      refine ev_gR 24 d_ML_cache_21 fl_ML_33 rfl rfl (fun q6 => ?_)
      refine ev_iload1 25 d_ML_cache_24 rfl ?_
      refine ev_aaload (t := 54) 26 d_ML_cache_25 (by decide) ⟨_, rfl⟩ rfl (fun q7 => ?_)
      refine ev_gR 29 d_ML_cache_26 fl_ML_78 rfl rfl (fun q8 => ?_)
      refine ev_astore4 31 d_ML_cache_29 (by decide) rfl ?_
      refine ev_iload3 32 d_ML_cache_31 rfl ?_
      refine ev_peel (fun ee9 => ?_) (fun ne9 oe9 => ?_)
      · refine ev_tsIn 64 d_ML_cache_32 ee9 (by decide) (by decide) (by decide) rfl (by decide) ?_
        refine ev_aload4 66 d_ML_cache_64 rfl ?_
        refine ev_gR 69 d_ML_cache_66 fl_ML_82 rfl rfl (fun q10 => ?_)
        refine ev_iload2 70 d_ML_cache_69 rfl ?_
        refine ev_iaload 71 d_ML_cache_70 rfl (fun z11 => ?_)
        exact ev_ireturn d_ML_cache_71 rfl
      refine ev_peel (fun ee12 => ?_) (fun ne12 oe12 => ?_)
      · refine ev_tsIn 72 d_ML_cache_32 ee12 (by decide) (by decide) (by decide) rfl (by decide) ?_
        refine ev_aload4 74 d_ML_cache_72 rfl ?_
        refine ev_gR 77 d_ML_cache_74 fl_ML_87 rfl rfl (fun q13 => ?_)
        refine ev_iload2 78 d_ML_cache_77 rfl ?_
        refine ev_iaload 79 d_ML_cache_78 rfl (fun z14 => ?_)
        exact ev_ireturn d_ML_cache_79 rfl
      refine ev_peel (fun ee15 => ?_) (fun ne15 oe15 => ?_)
      · refine ev_tsIn 80 d_ML_cache_32 ee15 (by decide) (by decide) (by decide) rfl (by decide) ?_
        refine ev_aload4 82 d_ML_cache_80 rfl ?_
        refine ev_gR 85 d_ML_cache_82 fl_ML_90 rfl rfl (fun q16 => ?_)
        refine ev_iload2 86 d_ML_cache_85 rfl ?_
        refine ev_iaload 87 d_ML_cache_86 rfl (fun z17 => ?_)
        exact ev_ireturn d_ML_cache_87 rfl
      refine ev_peel (fun ee18 => ?_) (fun ne18 oe18 => ?_)
      · refine ev_tsIn 88 d_ML_cache_32 ee18 (by decide) (by decide) (by decide) rfl (by decide) ?_
        refine ev_aload4 90 d_ML_cache_88 rfl ?_
        refine ev_gR 93 d_ML_cache_90 fl_ML_93 rfl rfl (fun q19 => ?_)
        refine ev_iload2 94 d_ML_cache_93 rfl ?_
        refine ev_iaload 95 d_ML_cache_94 rfl (fun z20 => ?_)
        exact ev_ireturn d_ML_cache_95 rfl
      refine ev_tsOut 96 d_ML_cache_32 oe18 (by omega) (by decide) ?_
      refine ev_iconst 97 d_ML_cache_96 rfl ?_
      exact ev_ireturn d_ML_cache_97 rfl
    · exact ev_wk (hJ18 g4) (ev_subN (ev_subN (ev_subN (ev_subN (ev_subN ev_sub0)))))
theorem t_Mo_cache {E : ev_E} (x0 : Option Nat) (x1 : Int) (x2 : Int) (x3 : Int) (h : ev_hs) : EvO E M_Mo_cache 2 cvI 0 [some (va_rf x0), some (eI x1), some (eI x2), some (eI x3), none] [] h (f_Mo_cache x0 x1 x2 x3 h) := by
  unfold f_Mo_cache
  refine ev_jn (fun J => ∀ (u1_h : ev_hs), EvO E M_Mo_cache 2 cvI 23 [none, none, none, none, none] [] u1_h (J u1_h)) ?_ (fun J23 hJ23 => ?_)
  · intro u1_h
    refine ev_iconst 24 d_Mo_cache_23 rfl ?_
    exact ev_ireturn d_Mo_cache_24 rfl
  refine ev_iload1 1 d_Mo_cache_0 rfl ?_
  refine ev_cs1I (kk := 0) 4 d_Mo_cache_1 cs_Mo_227 (by decide) (by decide) rfl ev_sm0 (by decide) rfl (t_Mo_isNode _ h) (fun z3 g2 => ?_)
  refine ev_if_eq 23 7 d_Mo_cache_4 (by decide) rfl ?_ ?_
  · exact ev_wk (hJ23 g2) (ev_subN (ev_subN (ev_subN (ev_subN (ev_subN ev_sub0)))))
  · refine ev_iload2 8 d_Mo_cache_7 rfl ?_
    refine ev_cs1I (kk := 0) 11 d_Mo_cache_8 cs_Mo_230 (by decide) (by decide) rfl ev_sm0 (by decide) rfl (t_Mo_isLine _ g2) (fun z5 g4 => ?_)
    refine ev_if_eq 23 14 d_Mo_cache_11 (by decide) rfl ?_ ?_
    · exact ev_wk (hJ23 g4) (ev_subN (ev_subN (ev_subN (ev_subN (ev_subN ev_sub0)))))
    · refine ev_iload3 15 d_Mo_cache_14 rfl ?_
      refine ev_if_lt 23 18 d_Mo_cache_15 (by decide) rfl ?_ ?_
      · exact ev_wk (hJ23 g4) (ev_subN (ev_subN (ev_subN (ev_subN (ev_subN ev_sub0)))))
      · refine ev_iload3 19 d_Mo_cache_18 rfl ?_
        refine ev_iconst 20 d_Mo_cache_19 rfl ?_
        refine ev_icmp_le 25 23 d_Mo_cache_20 (by decide) rfl ?_ ?_
        · refine ev_jn (fun J => ∀ (u6_s0 : Int) (u6_h : ev_hs), EvO E M_Mo_cache 2 cvI 84 [none, none, none, none, none] [eI u6_s0] u6_h (J u6_s0 u6_h)) ?_ (fun J84 hJ84 => ?_)
          · intro u6_s0 u6_h
            exact ev_ireturn d_Mo_cache_84 rfl
          refine ev_bipush 27 d_Mo_cache_25 (by decide) rfl ?_
          refine ev_iload1 28 d_Mo_cache_27 rfl ?_
          refine ev_imul 29 d_Mo_cache_28 rfl ?_
          refine ev_iload2 30 d_Mo_cache_29 rfl ?_
          refine ev_iadd 31 d_Mo_cache_30 rfl ?_
          refine ev_istore4 33 d_Mo_cache_31 (by decide) rfl ?_
          refine ev_iload3 34 d_Mo_cache_33 rfl ?_
          refine ev_if_ne 47 37 d_Mo_cache_34 (by decide) rfl ?_ ?_
          · refine ev_iload3 48 d_Mo_cache_47 rfl ?_
            refine ev_iconst 49 d_Mo_cache_48 rfl ?_
            refine ev_icmp_ne 62 52 d_Mo_cache_49 (by decide) rfl ?_ ?_
            · refine ev_iload3 63 d_Mo_cache_62 rfl ?_
              refine ev_iconst 64 d_Mo_cache_63 rfl ?_
              refine ev_icmp_ne 77 67 d_Mo_cache_64 (by decide) rfl ?_ ?_
              · refine ev_aload0 78 d_Mo_cache_77 rfl ?_
                refine ev_gR 81 d_Mo_cache_78 fl_Mo_77 rfl rfl (fun q7 => ?_)
                refine ev_iload4 83 d_Mo_cache_81 rfl ?_
                refine ev_iaload 84 d_Mo_cache_83 rfl (fun z8 => ?_)
                exact ev_wk (hJ84 _ g4) (ev_subN (ev_subN (ev_subN (ev_subN (ev_subN ev_sub0)))))
              · refine ev_aload0 68 d_Mo_cache_67 rfl ?_
                refine ev_gR 71 d_Mo_cache_68 fl_Mo_74 rfl rfl (fun q9 => ?_)
                refine ev_iload4 73 d_Mo_cache_71 rfl ?_
                refine ev_iaload 74 d_Mo_cache_73 rfl (fun z10 => ?_)
                refine ev_goto 84 d_Mo_cache_74 (by decide) ?_
                exact ev_wk (hJ84 _ g4) (ev_subN (ev_subN (ev_subN (ev_subN (ev_subN ev_sub0)))))
            · refine ev_aload0 53 d_Mo_cache_52 rfl ?_
              refine ev_gR 56 d_Mo_cache_53 fl_Mo_71 rfl rfl (fun q11 => ?_)
              refine ev_iload4 58 d_Mo_cache_56 rfl ?_
              refine ev_iaload 59 d_Mo_cache_58 rfl (fun z12 => ?_)
              refine ev_goto 84 d_Mo_cache_59 (by decide) ?_
              exact ev_wk (hJ84 _ g4) (ev_subN (ev_subN (ev_subN (ev_subN (ev_subN ev_sub0)))))
          · refine ev_aload0 38 d_Mo_cache_37 rfl ?_
            refine ev_gR 41 d_Mo_cache_38 fl_Mo_68 rfl rfl (fun q13 => ?_)
            refine ev_iload4 43 d_Mo_cache_41 rfl ?_
            refine ev_iaload 44 d_Mo_cache_43 rfl (fun z14 => ?_)
            refine ev_goto 84 d_Mo_cache_44 (by decide) ?_
            exact ev_wk (hJ84 _ g4) (ev_subN (ev_subN (ev_subN (ev_subN (ev_subN ev_sub0)))))
        · exact ev_wk (hJ23 g4) (ev_subN (ev_subN (ev_subN (ev_subN (ev_subN ev_sub0)))))
theorem t_ML_home {E : ev_E} (x0 : Option Nat) (x1 : Int) (x2 : Int) (h : ev_hs) : EvO E M_ML_home 2 cvI 0 [some (va_rf x0), some (eI x1), some (eI x2), none] [] h (f_ML_home x0 x1 x2 h) := by
  unfold f_ML_home
  refine ev_iload1 1 d_ML_home_0 rfl ?_
  refine ev_bipush 3 d_ML_home_1 (by decide) rfl ?_
  refine ev_cs2I (kk := 0) 6 d_ML_home_3 cs_ML_40 (by decide) (by decide) rfl rfl ev_sm0 (by decide) rfl (t_ML_isBelow _ _ h) (fun z2 g1 => ?_)
  refine ev_if_ne 11 9 d_ML_home_6 (by decide) rfl ?_ ?_
  · refine ev_aload0 12 d_ML_home_11 rfl ?_
    refine ev_gR 15 d_ML_home_12 fl_ML_24 rfl rfl (fun q3 => ?_)
    refine ev_iload1 16 d_ML_home_15 rfl ?_
    refine ev_aaload (t := 53) 17 d_ML_home_16 (by decide) ⟨_, rfl⟩ rfl (fun q4 => ?_)
    refine ev_astore3 18 d_ML_home_17 (by decide) rfl ?_
    refine ev_iload2 19 d_ML_home_18 rfl ?_
    refine ev_peel (fun ee5 => ?_) (fun ne5 oe5 => ?_)
    · refine ev_tsIn 48 d_ML_home_19 ee5 (by decide) (by decide) (by decide) rfl (by decide) ?_
      refine ev_aload3 49 d_ML_home_48 rfl ?_
      refine ev_gI 52 d_ML_home_49 fl_ML_96 rfl rfl (fun z6 => ?_)
      exact ev_ireturn d_ML_home_52 rfl
    refine ev_peel (fun ee7 => ?_) (fun ne7 oe7 => ?_)
    · refine ev_tsIn 53 d_ML_home_19 ee7 (by decide) (by decide) (by decide) rfl (by decide) ?_
      refine ev_aload3 54 d_ML_home_53 rfl ?_
      refine ev_gI 57 d_ML_home_54 fl_ML_99 rfl rfl (fun z8 => ?_)
      exact ev_ireturn d_ML_home_57 rfl
    refine ev_peel (fun ee9 => ?_) (fun ne9 oe9 => ?_)
    · refine ev_tsIn 58 d_ML_home_19 ee9 (by decide) (by decide) (by decide) rfl (by decide) ?_
      refine ev_jn (fun J => ∀ (u10_s0 : Int) (u10_h : ev_hs), EvO E M_ML_home 2 cvI 76 [none, none, none, none] [eI u10_s0] u10_h (J u10_s0 u10_h)) ?_ (fun J76 hJ76 => ?_)
      · intro u10_s0 u10_h
        exact ev_ireturn d_ML_home_76 rfl
      refine ev_aload3 59 d_ML_home_58 rfl ?_
      refine ev_gI 62 d_ML_home_59 fl_ML_102 rfl rfl (fun z11 => ?_)
      refine ev_iconst 63 d_ML_home_62 rfl ?_
      refine ev_icmp_ne 70 66 d_ML_home_63 (by decide) rfl ?_ ?_
      · refine ev_aload3 71 d_ML_home_70 rfl ?_
        refine ev_gI 74 d_ML_home_71 fl_ML_102 rfl rfl (fun z12 => ?_)
        refine ev_iconst 75 d_ML_home_74 rfl ?_
        refine ev_iadd 76 d_ML_home_75 rfl ?_
        exact ev_wk (hJ76 _ g1) (ev_subN (ev_subN (ev_subN (ev_subN ev_sub0))))
      · refine ev_iconst 67 d_ML_home_66 rfl ?_
        refine ev_goto 76 d_ML_home_67 (by decide) ?_
        exact ev_wk (hJ76 _ g1) (ev_subN (ev_subN (ev_subN (ev_subN ev_sub0))))
    refine ev_peel (fun ee13 => ?_) (fun ne13 oe13 => ?_)
    · refine ev_tsIn 77 d_ML_home_19 ee13 (by decide) (by decide) (by decide) rfl (by decide) ?_
      refine ev_aload3 78 d_ML_home_77 rfl ?_
      refine ev_gI 81 d_ML_home_78 fl_ML_105 rfl rfl (fun z14 => ?_)
      exact ev_ireturn d_ML_home_81 rfl
    refine ev_tsOut 82 d_ML_home_19 oe13 (by omega) (by decide) ?_
    refine ev_iconst 83 d_ML_home_82 rfl ?_
    exact ev_ireturn d_ML_home_83 rfl
  · refine ev_iconst 10 d_ML_home_9 rfl ?_
    exact ev_ireturn d_ML_home_10 rfl
theorem t_Mo_home {E : ev_E} (x0 : Option Nat) (x1 : Int) (x2 : Int) (h : ev_hs) : EvO E M_Mo_home 2 cvI 0 [some (va_rf x0), some (eI x1), some (eI x2)] [] h (f_Mo_home x0 x1 x2 h) := by
  unfold f_Mo_home
  refine ev_jn (fun J => ∀ (u1_h : ev_hs), EvO E M_Mo_home 2 cvI 16 [none, none, none] [] u1_h (J u1_h)) ?_ (fun J16 hJ16 => ?_)
  · intro u1_h
    refine ev_iconst 17 d_Mo_home_16 rfl ?_
    exact ev_ireturn d_Mo_home_17 rfl
  refine ev_iload1 1 d_Mo_home_0 rfl ?_
  refine ev_cs1I (kk := 0) 4 d_Mo_home_1 cs_Mo_230 (by decide) (by decide) rfl ev_sm0 (by decide) rfl (t_Mo_isLine _ h) (fun z3 g2 => ?_)
  refine ev_if_eq 16 7 d_Mo_home_4 (by decide) rfl ?_ ?_
  · exact ev_wk (hJ16 g2) (ev_subN (ev_subN (ev_subN ev_sub0)))
  · refine ev_iload2 8 d_Mo_home_7 rfl ?_
    refine ev_if_lt 16 11 d_Mo_home_8 (by decide) rfl ?_ ?_
    · exact ev_wk (hJ16 g2) (ev_subN (ev_subN (ev_subN ev_sub0)))
    · refine ev_iload2 12 d_Mo_home_11 rfl ?_
      refine ev_iconst 13 d_Mo_home_12 rfl ?_
      refine ev_icmp_le 18 16 d_Mo_home_13 (by decide) rfl ?_ ?_
      · refine ev_jn (fun J => ∀ (u4_s0 : Int) (u4_h : ev_hs), EvO E M_Mo_home 2 cvI 67 [none, none, none] [eI u4_s0] u4_h (J u4_s0 u4_h)) ?_ (fun J67 hJ67 => ?_)
        · intro u4_s0 u4_h
          exact ev_ireturn d_Mo_home_67 rfl
        refine ev_iload2 19 d_Mo_home_18 rfl ?_
        refine ev_if_ne 31 22 d_Mo_home_19 (by decide) rfl ?_ ?_
        · refine ev_iload2 32 d_Mo_home_31 rfl ?_
          refine ev_iconst 33 d_Mo_home_32 rfl ?_
          refine ev_icmp_ne 45 36 d_Mo_home_33 (by decide) rfl ?_ ?_
          · refine ev_iload2 46 d_Mo_home_45 rfl ?_
            refine ev_iconst 47 d_Mo_home_46 rfl ?_
            refine ev_icmp_ne 61 50 d_Mo_home_47 (by decide) rfl ?_ ?_
            · refine ev_aload0 62 d_Mo_home_61 rfl ?_
              refine ev_gR 65 d_Mo_home_62 fl_Mo_89 rfl rfl (fun q5 => ?_)
              refine ev_iload1 66 d_Mo_home_65 rfl ?_
              refine ev_iaload 67 d_Mo_home_66 rfl (fun z6 => ?_)
              exact ev_wk (hJ67 _ g2) (ev_subN (ev_subN (ev_subN ev_sub0)))
            · refine ev_aload0 51 d_Mo_home_50 rfl ?_
              refine ev_gR 54 d_Mo_home_51 fl_Mo_86 rfl rfl (fun q7 => ?_)
              refine ev_iload1 55 d_Mo_home_54 rfl ?_
              refine ev_iaload 56 d_Mo_home_55 rfl (fun z8 => ?_)
              refine ev_iconst 57 d_Mo_home_56 rfl ?_
              refine ev_iadd 58 d_Mo_home_57 rfl ?_
              refine ev_goto 67 d_Mo_home_58 (by decide) ?_
              exact ev_wk (hJ67 _ g2) (ev_subN (ev_subN (ev_subN ev_sub0)))
          · refine ev_aload0 37 d_Mo_home_36 rfl ?_
            refine ev_gR 40 d_Mo_home_37 fl_Mo_83 rfl rfl (fun q9 => ?_)
            refine ev_iload1 41 d_Mo_home_40 rfl ?_
            refine ev_iaload 42 d_Mo_home_41 rfl (fun z10 => ?_)
            refine ev_goto 67 d_Mo_home_42 (by decide) ?_
            exact ev_wk (hJ67 _ g2) (ev_subN (ev_subN (ev_subN ev_sub0)))
        · refine ev_aload0 23 d_Mo_home_22 rfl ?_
          refine ev_gR 26 d_Mo_home_23 fl_Mo_80 rfl rfl (fun q11 => ?_)
          refine ev_iload1 27 d_Mo_home_26 rfl ?_
          refine ev_iaload 28 d_Mo_home_27 rfl (fun z12 => ?_)
          refine ev_goto 67 d_Mo_home_28 (by decide) ?_
          exact ev_wk (hJ67 _ g2) (ev_subN (ev_subN (ev_subN ev_sub0)))
      · exact ev_wk (hJ16 g2) (ev_subN (ev_subN (ev_subN ev_sub0)))
theorem t_ML_buffer {E : ev_E} (x0 : Option Nat) (x1 : Int) (x2 : Int) (x3 : Int) (h : ev_hs) : EvO E M_ML_buffer 2 cvI 0 [some (va_rf x0), some (eI x1), some (eI x2), some (eI x3), none] [] h (f_ML_buffer x0 x1 x2 x3 h) := by
  unfold f_ML_buffer
  refine ev_jn (fun J => ∀ (u1_h : ev_hs), EvO E M_ML_buffer 2 cvI 26 [none, none, none, none, none] [] u1_h (J u1_h)) ?_ (fun J26 hJ26 => ?_)
  · intro u1_h
    refine ev_iconst 27 d_ML_buffer_26 rfl ?_
    exact ev_ireturn d_ML_buffer_27 rfl
  refine ev_iload1 1 d_ML_buffer_0 rfl ?_
  refine ev_bipush 3 d_ML_buffer_1 (by decide) rfl ?_
  refine ev_cs2I (kk := 0) 6 d_ML_buffer_3 cs_ML_40 (by decide) (by decide) rfl rfl ev_sm0 (by decide) rfl (t_ML_isBelow _ _ h) (fun z3 g2 => ?_)
  refine ev_if_eq 26 9 d_ML_buffer_6 (by decide) rfl ?_ ?_
  · exact ev_wk (hJ26 g2) (ev_subN (ev_subN (ev_subN (ev_subN (ev_subN ev_sub0)))))
  · refine ev_iload2 10 d_ML_buffer_9 rfl ?_
    refine ev_bipush 12 d_ML_buffer_10 (by decide) rfl ?_
    refine ev_cs2I (kk := 0) 15 d_ML_buffer_12 cs_ML_40 (by decide) (by decide) rfl rfl ev_sm0 (by decide) rfl (t_ML_isBelow _ _ g2) (fun z5 g4 => ?_)
    refine ev_if_eq 26 18 d_ML_buffer_15 (by decide) rfl ?_ ?_
    · exact ev_wk (hJ26 g4) (ev_subN (ev_subN (ev_subN (ev_subN (ev_subN ev_sub0)))))
    · refine ev_iload3 19 d_ML_buffer_18 rfl ?_
      refine ev_iconst 20 d_ML_buffer_19 rfl ?_
      refine ev_cs2I (kk := 0) 23 d_ML_buffer_20 cs_ML_40 (by decide) (by decide) rfl rfl ev_sm0 (by decide) rfl (t_ML_isBelow _ _ g4) (fun z7 g6 => ?_)
      refine ev_if_ne 28 26 d_ML_buffer_23 (by decide) rfl ?_ ?_
      · refine ev_aload0 29 d_ML_buffer_28 rfl ?_
        refine ev_gR 32 d_ML_buffer_29 fl_ML_18 rfl rfl (fun q8 => ?_)
        refine ev_iload1 33 d_ML_buffer_32 rfl ?_
        refine ev_iload3 34 d_ML_buffer_33 rfl ?_
        refine ev_cv2R (kk := 0) 37 d_ML_buffer_34 cv_ML_108 (by decide) (by decide) rfl rfl ev_sm0 (by decide) rfl (t_Me_laneOf _ _ _ g6) (fun q10 g9 => ?_)
        refine ev_astore4 39 d_ML_buffer_37 (by decide) rfl ?_
        refine ev_iload2 40 d_ML_buffer_39 rfl ?_
        refine ev_iconst 41 d_ML_buffer_40 rfl ?_
        refine ev_icmp_ne 53 44 d_ML_buffer_41 (by decide) rfl ?_ ?_
        · refine ev_iload2 54 d_ML_buffer_53 rfl ?_
          refine ev_bipush 56 d_ML_buffer_54 (by decide) rfl ?_
          refine ev_icmp_ne 68 59 d_ML_buffer_56 (by decide) rfl ?_ ?_
          · refine ev_aload4 70 d_ML_buffer_68 rfl ?_
            refine ev_gR 73 d_ML_buffer_70 fl_ML_127 rfl rfl (fun q11 => ?_)
            refine ev_iload2 74 d_ML_buffer_73 rfl ?_
            refine ev_aaload (t := 56) 75 d_ML_buffer_74 (by decide) ⟨_, rfl⟩ rfl (fun q12 => ?_)
            refine ev_gI 78 d_ML_buffer_75 fl_ML_131 rfl rfl (fun z13 => ?_)
            exact ev_ireturn d_ML_buffer_78 rfl
          · refine ev_aload4 61 d_ML_buffer_59 rfl ?_
            refine ev_gR 64 d_ML_buffer_61 fl_ML_124 rfl rfl (fun q14 => ?_)
            refine ev_cv0I (kk := 0) 67 d_ML_buffer_64 cv_ML_118 (by decide) (by decide)  ev_sm0 (by decide) rfl (t_AL_size _ g9) (fun z16 g15 => ?_)
            exact ev_ireturn d_ML_buffer_67 rfl
        · refine ev_aload4 46 d_ML_buffer_44 rfl ?_
          refine ev_gR 49 d_ML_buffer_46 fl_ML_112 rfl rfl (fun q17 => ?_)
          refine ev_cv0I (kk := 0) 52 d_ML_buffer_49 cv_ML_118 (by decide) (by decide)  ev_sm0 (by decide) rfl (t_AL_size _ g9) (fun z19 g18 => ?_)
          exact ev_ireturn d_ML_buffer_52 rfl
      · exact ev_wk (hJ26 g6) (ev_subN (ev_subN (ev_subN (ev_subN (ev_subN ev_sub0)))))
theorem t_Mo_buffer {E : ev_E} (x0 : Option Nat) (x1 : Int) (x2 : Int) (x3 : Int) (h : ev_hs) : EvO E M_Mo_buffer 2 cvI 0 [some (va_rf x0), some (eI x1), some (eI x2), some (eI x3)] [] h (f_Mo_buffer x0 x1 x2 x3 h) := by
  unfold f_Mo_buffer
  refine ev_jn (fun J => ∀ (u1_h : ev_hs), EvO E M_Mo_buffer 2 cvI 26 [none, none, none, none] [] u1_h (J u1_h)) ?_ (fun J26 hJ26 => ?_)
  · intro u1_h
    refine ev_iconst 27 d_Mo_buffer_26 rfl ?_
    exact ev_ireturn d_Mo_buffer_27 rfl
  refine ev_iload1 1 d_Mo_buffer_0 rfl ?_
  refine ev_cs1I (kk := 0) 4 d_Mo_buffer_1 cs_Mo_227 (by decide) (by decide) rfl ev_sm0 (by decide) rfl (t_Mo_isNode _ h) (fun z3 g2 => ?_)
  refine ev_if_eq 26 7 d_Mo_buffer_4 (by decide) rfl ?_ ?_
  · exact ev_wk (hJ26 g2) (ev_subN (ev_subN (ev_subN (ev_subN ev_sub0))))
  · refine ev_iload2 8 d_Mo_buffer_7 rfl ?_
    refine ev_if_lt 26 11 d_Mo_buffer_8 (by decide) rfl ?_ ?_
    · exact ev_wk (hJ26 g2) (ev_subN (ev_subN (ev_subN (ev_subN ev_sub0))))
    · refine ev_iload2 12 d_Mo_buffer_11 rfl ?_
      refine ev_bipush 14 d_Mo_buffer_12 (by decide) rfl ?_
      refine ev_icmp_gt 26 17 d_Mo_buffer_14 (by decide) rfl ?_ ?_
      · exact ev_wk (hJ26 g2) (ev_subN (ev_subN (ev_subN (ev_subN ev_sub0))))
      · refine ev_iload3 18 d_Mo_buffer_17 rfl ?_
        refine ev_if_lt 26 21 d_Mo_buffer_18 (by decide) rfl ?_ ?_
        · exact ev_wk (hJ26 g2) (ev_subN (ev_subN (ev_subN (ev_subN ev_sub0))))
        · refine ev_iload3 22 d_Mo_buffer_21 rfl ?_
          refine ev_iconst 23 d_Mo_buffer_22 rfl ?_
          refine ev_icmp_le 28 26 d_Mo_buffer_23 (by decide) rfl ?_ ?_
          · refine ev_iload2 29 d_Mo_buffer_28 rfl ?_
            refine ev_iconst 30 d_Mo_buffer_29 rfl ?_
            refine ev_icmp_ge 49 33 d_Mo_buffer_30 (by decide) rfl ?_ ?_
            · refine ev_jn (fun J => ∀ (u4_s0 : Int) (u4_h : ev_hs), EvO E M_Mo_buffer 2 cvI 77 [none, none, none, none] [eI u4_s0] u4_h (J u4_s0 u4_h)) ?_ (fun J77 hJ77 => ?_)
              · intro u4_s0 u4_h
                exact ev_ireturn d_Mo_buffer_77 rfl
              refine ev_iload2 50 d_Mo_buffer_49 rfl ?_
              refine ev_iconst 51 d_Mo_buffer_50 rfl ?_
              refine ev_icmp_ne 67 54 d_Mo_buffer_51 (by decide) rfl ?_ ?_
              · refine ev_aload0 68 d_Mo_buffer_67 rfl ?_
                refine ev_gR 71 d_Mo_buffer_68 fl_Mo_47 rfl rfl (fun q5 => ?_)
                refine ev_iconst 72 d_Mo_buffer_71 rfl ?_
                refine ev_iload1 73 d_Mo_buffer_72 rfl ?_
                refine ev_imul 74 d_Mo_buffer_73 rfl ?_
                refine ev_iload3 75 d_Mo_buffer_74 rfl ?_
                refine ev_iadd 76 d_Mo_buffer_75 rfl ?_
                refine ev_iaload 77 d_Mo_buffer_76 rfl (fun z6 => ?_)
                exact ev_wk (hJ77 _ g2) (ev_subN (ev_subN (ev_subN (ev_subN ev_sub0))))
              · refine ev_aload0 55 d_Mo_buffer_54 rfl ?_
                refine ev_gR 58 d_Mo_buffer_55 fl_Mo_38 rfl rfl (fun q7 => ?_)
                refine ev_iconst 59 d_Mo_buffer_58 rfl ?_
                refine ev_iload1 60 d_Mo_buffer_59 rfl ?_
                refine ev_imul 61 d_Mo_buffer_60 rfl ?_
                refine ev_iload3 62 d_Mo_buffer_61 rfl ?_
                refine ev_iadd 63 d_Mo_buffer_62 rfl ?_
                refine ev_iaload 64 d_Mo_buffer_63 rfl (fun z8 => ?_)
                refine ev_goto 77 d_Mo_buffer_64 (by decide) ?_
                exact ev_wk (hJ77 _ g2) (ev_subN (ev_subN (ev_subN (ev_subN ev_sub0))))
            · refine ev_aload0 34 d_Mo_buffer_33 rfl ?_
              refine ev_gR 37 d_Mo_buffer_34 fl_Mo_59 rfl rfl (fun q9 => ?_)
              refine ev_bipush 39 d_Mo_buffer_37 (by decide) rfl ?_
              refine ev_iload1 40 d_Mo_buffer_39 rfl ?_
              refine ev_imul 41 d_Mo_buffer_40 rfl ?_
              refine ev_iconst 42 d_Mo_buffer_41 rfl ?_
              refine ev_iload2 43 d_Mo_buffer_42 rfl ?_
              refine ev_imul 44 d_Mo_buffer_43 rfl ?_
              refine ev_iadd 45 d_Mo_buffer_44 rfl ?_
              refine ev_iload3 46 d_Mo_buffer_45 rfl ?_
              refine ev_iadd 47 d_Mo_buffer_46 rfl ?_
              refine ev_iaload 48 d_Mo_buffer_47 rfl (fun z10 => ?_)
              exact ev_ireturn d_Mo_buffer_48 rfl
          · exact ev_wk (hJ26 g2) (ev_subN (ev_subN (ev_subN (ev_subN ev_sub0))))
theorem t_ML_held {E : ev_E} (x0 : Option Nat) (x1 : Int) (x2 : Int) (x3 : Int) (h : ev_hs) : EvO E M_ML_held 2 cvI 0 [some (va_rf x0), some (eI x1), some (eI x2), some (eI x3), none] [] h (f_ML_held x0 x1 x2 x3 h) := by
  unfold f_ML_held
  refine ev_jn (fun J => ∀ (u1_h : ev_hs), EvO E M_ML_held 2 cvI 25 [none, none, none, none, none] [] u1_h (J u1_h)) ?_ (fun J25 hJ25 => ?_)
  · intro u1_h
    refine ev_iconst 26 d_ML_held_25 rfl ?_
    exact ev_ireturn d_ML_held_26 rfl
  refine ev_iload1 1 d_ML_held_0 rfl ?_
  refine ev_bipush 3 d_ML_held_1 (by decide) rfl ?_
  refine ev_cs2I (kk := 0) 6 d_ML_held_3 cs_ML_40 (by decide) (by decide) rfl rfl ev_sm0 (by decide) rfl (t_ML_isBelow _ _ h) (fun z3 g2 => ?_)
  refine ev_if_eq 25 9 d_ML_held_6 (by decide) rfl ?_ ?_
  · exact ev_wk (hJ25 g2) (ev_subN (ev_subN (ev_subN (ev_subN (ev_subN ev_sub0)))))
  · refine ev_iload2 10 d_ML_held_9 rfl ?_
    refine ev_iconst 11 d_ML_held_10 rfl ?_
    refine ev_cs2I (kk := 0) 14 d_ML_held_11 cs_ML_40 (by decide) (by decide) rfl rfl ev_sm0 (by decide) rfl (t_ML_isBelow _ _ g2) (fun z5 g4 => ?_)
    refine ev_if_eq 25 17 d_ML_held_14 (by decide) rfl ?_ ?_
    · exact ev_wk (hJ25 g4) (ev_subN (ev_subN (ev_subN (ev_subN (ev_subN ev_sub0)))))
    · refine ev_iload3 18 d_ML_held_17 rfl ?_
      refine ev_iconst 19 d_ML_held_18 rfl ?_
      refine ev_cs2I (kk := 0) 22 d_ML_held_19 cs_ML_40 (by decide) (by decide) rfl rfl ev_sm0 (by decide) rfl (t_ML_isBelow _ _ g4) (fun z7 g6 => ?_)
      refine ev_if_ne 27 25 d_ML_held_22 (by decide) rfl ?_ ?_
      · refine ev_jn (fun J => ∀ (u8_s0 : Int) (u8_h : ev_hs), EvO E M_ML_held 2 cvI 57 [none, none, none, none, none] [eI u8_s0] u8_h (J u8_s0 u8_h)) ?_ (fun J57 hJ57 => ?_)
        · intro u8_s0 u8_h
          exact ev_ireturn d_ML_held_57 rfl
        refine ev_aload0 28 d_ML_held_27 rfl ?_
        refine ev_gR 31 d_ML_held_28 fl_ML_18 rfl rfl (fun q9 => ?_)
        refine ev_iload1 32 d_ML_held_31 rfl ?_
        refine ev_iload3 33 d_ML_held_32 rfl ?_
        refine ev_cv2R (kk := 0) 36 d_ML_held_33 cv_ML_108 (by decide) (by decide) rfl rfl ev_sm0 (by decide) rfl (t_Me_laneOf _ _ _ g6) (fun q11 g10 => ?_)
        refine ev_gR 39 d_ML_held_36 fl_ML_135 rfl rfl (fun q12 => ?_)
        refine ev_iload2 40 d_ML_held_39 rfl ?_
        refine ev_iaload 41 d_ML_held_40 rfl (fun z13 => ?_)
        refine ev_istore4 43 d_ML_held_41 (by decide) rfl ?_
        refine ev_iload4 45 d_ML_held_43 rfl ?_
        refine ev_iconst 46 d_ML_held_45 rfl ?_
        refine ev_icmp_ne 53 49 d_ML_held_46 (by decide) rfl ?_ ?_
        · refine ev_iload4 55 d_ML_held_53 rfl ?_
          refine ev_iconst 56 d_ML_held_55 rfl ?_
          refine ev_iadd 57 d_ML_held_56 rfl ?_
          exact ev_wk (hJ57 _ g10) (ev_subN (ev_subN (ev_subN (ev_subN (ev_subN ev_sub0)))))
        · refine ev_iconst 50 d_ML_held_49 rfl ?_
          refine ev_goto 57 d_ML_held_50 (by decide) ?_
          exact ev_wk (hJ57 _ g10) (ev_subN (ev_subN (ev_subN (ev_subN (ev_subN ev_sub0)))))
      · exact ev_wk (hJ25 g6) (ev_subN (ev_subN (ev_subN (ev_subN (ev_subN ev_sub0)))))
theorem t_Mo_held {E : ev_E} (x0 : Option Nat) (x1 : Int) (x2 : Int) (x3 : Int) (h : ev_hs) : EvO E M_Mo_held 2 cvI 0 [some (va_rf x0), some (eI x1), some (eI x2), some (eI x3)] [] h (f_Mo_held x0 x1 x2 x3 h) := by
  unfold f_Mo_held
  refine ev_jn (fun J => ∀ (u1_h : ev_hs), EvO E M_Mo_held 2 cvI 25 [none, none, none, none] [] u1_h (J u1_h)) ?_ (fun J25 hJ25 => ?_)
  · intro u1_h
    refine ev_iconst 26 d_Mo_held_25 rfl ?_
    exact ev_ireturn d_Mo_held_26 rfl
  refine ev_iload1 1 d_Mo_held_0 rfl ?_
  refine ev_cs1I (kk := 0) 4 d_Mo_held_1 cs_Mo_227 (by decide) (by decide) rfl ev_sm0 (by decide) rfl (t_Mo_isNode _ h) (fun z3 g2 => ?_)
  refine ev_if_eq 25 7 d_Mo_held_4 (by decide) rfl ?_ ?_
  · exact ev_wk (hJ25 g2) (ev_subN (ev_subN (ev_subN (ev_subN ev_sub0))))
  · refine ev_iload2 8 d_Mo_held_7 rfl ?_
    refine ev_if_lt 25 11 d_Mo_held_8 (by decide) rfl ?_ ?_
    · exact ev_wk (hJ25 g2) (ev_subN (ev_subN (ev_subN (ev_subN ev_sub0))))
    · refine ev_iload2 12 d_Mo_held_11 rfl ?_
      refine ev_iconst 13 d_Mo_held_12 rfl ?_
      refine ev_icmp_gt 25 16 d_Mo_held_13 (by decide) rfl ?_ ?_
      · exact ev_wk (hJ25 g2) (ev_subN (ev_subN (ev_subN (ev_subN ev_sub0))))
      · refine ev_iload3 17 d_Mo_held_16 rfl ?_
        refine ev_if_lt 25 20 d_Mo_held_17 (by decide) rfl ?_ ?_
        · exact ev_wk (hJ25 g2) (ev_subN (ev_subN (ev_subN (ev_subN ev_sub0))))
        · refine ev_iload3 21 d_Mo_held_20 rfl ?_
          refine ev_iconst 22 d_Mo_held_21 rfl ?_
          refine ev_icmp_le 27 25 d_Mo_held_22 (by decide) rfl ?_ ?_
          · refine ev_aload0 28 d_Mo_held_27 rfl ?_
            refine ev_gR 31 d_Mo_held_28 fl_Mo_62 rfl rfl (fun q4 => ?_)
            refine ev_bipush 33 d_Mo_held_31 (by decide) rfl ?_
            refine ev_iload1 34 d_Mo_held_33 rfl ?_
            refine ev_imul 35 d_Mo_held_34 rfl ?_
            refine ev_iconst 36 d_Mo_held_35 rfl ?_
            refine ev_iload2 37 d_Mo_held_36 rfl ?_
            refine ev_imul 38 d_Mo_held_37 rfl ?_
            refine ev_iadd 39 d_Mo_held_38 rfl ?_
            refine ev_iload3 40 d_Mo_held_39 rfl ?_
            refine ev_iadd 41 d_Mo_held_40 rfl ?_
            refine ev_iaload 42 d_Mo_held_41 rfl (fun z5 => ?_)
            refine ev_iconst 43 d_Mo_held_42 rfl ?_
            refine ev_iadd 44 d_Mo_held_43 rfl ?_
            exact ev_ireturn d_Mo_held_44 rfl
          · exact ev_wk (hJ25 g2) (ev_subN (ev_subN (ev_subN (ev_subN ev_sub0))))
theorem t_ML_count {E : ev_E} (x0 : Option Nat) (x1 : Int) (h : ev_hs) : EvO E M_ML_count 1 cvI 0 [some (va_rf x0), some (eI x1)] [] h (f_ML_count x0 x1 h) := by
  unfold f_ML_count
  refine ev_iload1 1 d_ML_count_0 rfl ?_
  refine ev_peel (fun ee1 => ?_) (fun ne1 oe1 => ?_)
  · refine ev_tsIn 28 d_ML_count_1 ee1 (by decide) (by decide) (by decide) rfl (by decide) ?_
    refine ev_aload0 29 d_ML_count_28 rfl ?_
    refine ev_gR 32 d_ML_count_29 fl_ML_18 rfl rfl (fun q2 => ?_)
    refine ev_gI 35 d_ML_count_32 fl_ML_138 rfl rfl (fun z3 => ?_)
    exact ev_ireturn d_ML_count_35 rfl
  refine ev_peel (fun ee4 => ?_) (fun ne4 oe4 => ?_)
  · refine ev_tsIn 36 d_ML_count_1 ee4 (by decide) (by decide) (by decide) rfl (by decide) ?_
    refine ev_aload0 37 d_ML_count_36 rfl ?_
    refine ev_gR 40 d_ML_count_37 fl_ML_18 rfl rfl (fun q5 => ?_)
    refine ev_gI 43 d_ML_count_40 fl_ML_141 rfl rfl (fun z6 => ?_)
    exact ev_ireturn d_ML_count_43 rfl
  refine ev_peel (fun ee7 => ?_) (fun ne7 oe7 => ?_)
  · refine ev_tsIn 44 d_ML_count_1 ee7 (by decide) (by decide) (by decide) rfl (by decide) ?_
    refine ev_aload0 45 d_ML_count_44 rfl ?_
    refine ev_gR 48 d_ML_count_45 fl_ML_18 rfl rfl (fun q8 => ?_)
    refine ev_gI 51 d_ML_count_48 fl_ML_144 rfl rfl (fun z9 => ?_)
    exact ev_ireturn d_ML_count_51 rfl
  refine ev_tsOut 52 d_ML_count_1 oe7 (by omega) (by decide) ?_
  refine ev_iconst 53 d_ML_count_52 rfl ?_
  exact ev_ireturn d_ML_count_53 rfl
theorem t_Mo_count {E : ev_E} (x0 : Option Nat) (x1 : Int) (h : ev_hs) : EvO E M_Mo_count 1 cvI 0 [some (va_rf x0), some (eI x1)] [] h (f_Mo_count x0 x1 h) := by
  unfold f_Mo_count
  refine ev_jn (fun J => ∀ (u1_s0 : Int) (u1_h : ev_hs), EvO E M_Mo_count 1 cvI 36 [none, none] [eI u1_s0] u1_h (J u1_s0 u1_h)) ?_ (fun J36 hJ36 => ?_)
  · intro u1_s0 u1_h
    exact ev_ireturn d_Mo_count_36 rfl
  refine ev_iload1 1 d_Mo_count_0 rfl ?_
  refine ev_if_ne 11 4 d_Mo_count_1 (by decide) rfl ?_ ?_
  · refine ev_iload1 12 d_Mo_count_11 rfl ?_
    refine ev_iconst 13 d_Mo_count_12 rfl ?_
    refine ev_icmp_ne 23 16 d_Mo_count_13 (by decide) rfl ?_ ?_
    · refine ev_iload1 24 d_Mo_count_23 rfl ?_
      refine ev_iconst 25 d_Mo_count_24 rfl ?_
      refine ev_icmp_ne 35 28 d_Mo_count_25 (by decide) rfl ?_ ?_
      · refine ev_iconst 36 d_Mo_count_35 rfl ?_
        exact ev_wk (hJ36 _ h) (ev_subN (ev_subN ev_sub0))
      · refine ev_aload0 29 d_Mo_count_28 rfl ?_
        refine ev_gI 32 d_Mo_count_29 fl_Mo_155 rfl rfl (fun z2 => ?_)
        refine ev_goto 36 d_Mo_count_32 (by decide) ?_
        exact ev_wk (hJ36 _ h) (ev_subN (ev_subN ev_sub0))
    · refine ev_aload0 17 d_Mo_count_16 rfl ?_
      refine ev_gI 20 d_Mo_count_17 fl_Mo_158 rfl rfl (fun z3 => ?_)
      refine ev_goto 36 d_Mo_count_20 (by decide) ?_
      exact ev_wk (hJ36 _ h) (ev_subN (ev_subN ev_sub0))
  · refine ev_aload0 5 d_Mo_count_4 rfl ?_
    refine ev_gI 8 d_Mo_count_5 fl_Mo_127 rfl rfl (fun z4 => ?_)
    refine ev_goto 36 d_Mo_count_8 (by decide) ?_
    exact ev_wk (hJ36 _ h) (ev_subN (ev_subN ev_sub0))
theorem t_Lw_law_38 {E : ev_E} : ∀ (fu : Nat) (x0 : Option Nat) (x1 : Option Nat) (x2 : Option Nat) (x3 : Int) (h : ev_hs), EvO E M_Lw_law 14 cvI 38 [some (va_rf x0), some (va_rf x1), some (va_rf x2), some (eI x3)] [] h (f_Lw_law_38 fu x0 x1 x2 x3 h) := by
  intro fu
  induction fu with
  | zero => intros; exact ev_no
  | succ fu ih =>
    intro x0 x1 x2 x3 h
    rw [f_Lw_law_38]
    refine ev_iload3 39 d_Lw_law_38 rfl ?_
    refine ev_aload0 40 d_Lw_law_39 rfl ?_
    refine ev_slen 41 d_Lw_law_40 rfl (fun z15 => ?_)
    refine ev_bipush 43 d_Lw_law_41 (by decide) rfl ?_
    refine ev_isub 44 d_Lw_law_43 rfl ?_
    refine ev_icmp_gt 437 47 d_Lw_law_44 (by decide) rfl ?_ ?_
    · refine ev_iconst 438 d_Lw_law_437 rfl ?_
      exact ev_zreturn d_Lw_law_438 rfl
    · refine ev_jn (fun J => ∀ (u16_0 : Option Nat) (u16_1 : Option Nat) (u16_2 : Option Nat) (u16_3 : Int) (u16_h : ev_hs), EvO E M_Lw_law 14 cvI 431 [some (va_rf u16_0), some (va_rf u16_1), some (va_rf u16_2), some (eI u16_3)] [] u16_h (J u16_0 u16_1 u16_2 u16_3 u16_h)) ?_ (fun J431 hJ431 => ?_)
      · intro u16_0 u16_1 u16_2 u16_3 u16_h
        refine ev_iinc3 434 d_Lw_law_431 (by decide) rfl ?_
        refine ev_goto 38 d_Lw_law_434 (by decide) ?_
        exact ev_wk (ih _ _ _ _ u16_h) (ev_subS (ev_subS (ev_subS (ev_subS ev_sub0))))
      refine ev_aload0 48 d_Lw_law_47 rfl ?_
      refine ev_iload3 49 d_Lw_law_48 rfl ?_
      refine ev_saload 50 d_Lw_law_49 rfl (fun z17 => ?_)
      refine ev_bipush 52 d_Lw_law_50 (by decide) rfl ?_
      refine ev_iand 53 d_Lw_law_52 rfl ?_
      refine ev_peel (fun ee18 => ?_) (fun ne18 oe18 => ?_)
      · refine ev_tsIn 104 d_Lw_law_53 ee18 (by decide) (by decide) (by decide) rfl (by decide) ?_
        refine ev_aload1 105 d_Lw_law_104 rfl ?_
        refine ev_aload0 106 d_Lw_law_105 rfl ?_
        refine ev_iload3 107 d_Lw_law_106 rfl ?_
        refine ev_iconst 108 d_Lw_law_107 rfl ?_
        refine ev_iadd 109 d_Lw_law_108 rfl ?_
        refine ev_saload 110 d_Lw_law_109 rfl (fun z19 => ?_)
        refine ev_aload0 111 d_Lw_law_110 rfl ?_
        refine ev_iload3 112 d_Lw_law_111 rfl ?_
        refine ev_iconst 113 d_Lw_law_112 rfl ?_
        refine ev_iadd 114 d_Lw_law_113 rfl ?_
        refine ev_saload 115 d_Lw_law_114 rfl (fun z20 => ?_)
        refine ev_aload0 116 d_Lw_law_115 rfl ?_
        refine ev_iload3 117 d_Lw_law_116 rfl ?_
        refine ev_iconst 118 d_Lw_law_117 rfl ?_
        refine ev_iadd 119 d_Lw_law_118 rfl ?_
        refine ev_saload 120 d_Lw_law_119 rfl (fun z21 => ?_)
        refine ev_aload0 121 d_Lw_law_120 rfl ?_
        refine ev_iload3 122 d_Lw_law_121 rfl ?_
        refine ev_iconst 123 d_Lw_law_122 rfl ?_
        refine ev_iadd 124 d_Lw_law_123 rfl ?_
        refine ev_saload 125 d_Lw_law_124 rfl (fun z22 => ?_)
        refine ev_aload0 126 d_Lw_law_125 rfl ?_
        refine ev_iload3 127 d_Lw_law_126 rfl ?_
        refine ev_iconst 128 d_Lw_law_127 rfl ?_
        refine ev_iadd 129 d_Lw_law_128 rfl ?_
        refine ev_saload 130 d_Lw_law_129 rfl (fun z23 => ?_)
        refine ev_cv5I (kk := 0) 133 d_Lw_law_130 cv_Lw_21 (by decide) (by decide) rfl rfl rfl rfl rfl ev_sm0 (by decide) rfl (t_ML_operation _ _ _ _ _ _ h) (fun z25 g24 => ?_)
        refine ev_aload2 134 d_Lw_law_133 rfl ?_
        refine ev_aload0 135 d_Lw_law_134 rfl ?_
        refine ev_iload3 136 d_Lw_law_135 rfl ?_
        refine ev_iconst 137 d_Lw_law_136 rfl ?_
        refine ev_iadd 138 d_Lw_law_137 rfl ?_
        refine ev_saload 139 d_Lw_law_138 rfl (fun z26 => ?_)
        refine ev_aload0 140 d_Lw_law_139 rfl ?_
        refine ev_iload3 141 d_Lw_law_140 rfl ?_
        refine ev_iconst 142 d_Lw_law_141 rfl ?_
        refine ev_iadd 143 d_Lw_law_142 rfl ?_
        refine ev_saload 144 d_Lw_law_143 rfl (fun z27 => ?_)
        refine ev_aload0 145 d_Lw_law_144 rfl ?_
        refine ev_iload3 146 d_Lw_law_145 rfl ?_
        refine ev_iconst 147 d_Lw_law_146 rfl ?_
        refine ev_iadd 148 d_Lw_law_147 rfl ?_
        refine ev_saload 149 d_Lw_law_148 rfl (fun z28 => ?_)
        refine ev_aload0 150 d_Lw_law_149 rfl ?_
        refine ev_iload3 151 d_Lw_law_150 rfl ?_
        refine ev_iconst 152 d_Lw_law_151 rfl ?_
        refine ev_iadd 153 d_Lw_law_152 rfl ?_
        refine ev_saload 154 d_Lw_law_153 rfl (fun z29 => ?_)
        refine ev_aload0 155 d_Lw_law_154 rfl ?_
        refine ev_iload3 156 d_Lw_law_155 rfl ?_
        refine ev_iconst 157 d_Lw_law_156 rfl ?_
        refine ev_iadd 158 d_Lw_law_157 rfl ?_
        refine ev_saload 159 d_Lw_law_158 rfl (fun z30 => ?_)
        refine ev_cv5I (kk := 1) 162 d_Lw_law_159 cv_Lw_25 (by decide) (by decide) rfl rfl rfl rfl rfl (ev_smc rfl ev_sm0) (by decide) rfl (t_Mo_operation _ _ _ _ _ _ g24) (fun z32 g31 => ?_)
        refine ev_icmp_eq 431 165 d_Lw_law_162 (by decide) rfl ?_ ?_
        · exact ev_wk (hJ431 _ _ _ _ g31) (ev_subS (ev_subS (ev_subS (ev_subS ev_sub0))))
        · refine ev_iconst 166 d_Lw_law_165 rfl ?_
          exact ev_zreturn d_Lw_law_166 rfl
      refine ev_peel (fun ee33 => ?_) (fun ne33 oe33 => ?_)
      · refine ev_tsIn 167 d_Lw_law_53 ee33 (by decide) (by decide) (by decide) rfl (by decide) ?_
        refine ev_aload1 168 d_Lw_law_167 rfl ?_
        refine ev_aload0 169 d_Lw_law_168 rfl ?_
        refine ev_iload3 170 d_Lw_law_169 rfl ?_
        refine ev_iconst 171 d_Lw_law_170 rfl ?_
        refine ev_iadd 172 d_Lw_law_171 rfl ?_
        refine ev_saload 173 d_Lw_law_172 rfl (fun z34 => ?_)
        refine ev_cv1I (kk := 2) 176 d_Lw_law_173 cv_Lw_26 (by decide) (by decide) rfl ev_sm0 (by decide) rfl (t_ML_run _ _ h) (fun z36 g35 => ?_)
        refine ev_aload2 177 d_Lw_law_176 rfl ?_
        refine ev_aload0 178 d_Lw_law_177 rfl ?_
        refine ev_iload3 179 d_Lw_law_178 rfl ?_
        refine ev_iconst 180 d_Lw_law_179 rfl ?_
        refine ev_iadd 181 d_Lw_law_180 rfl ?_
        refine ev_saload 182 d_Lw_law_181 rfl (fun z37 => ?_)
        refine ev_cv1I (kk := 1) 185 d_Lw_law_182 cv_Lw_30 (by decide) (by decide) rfl (ev_smc rfl ev_sm0) (by decide) rfl (t_Mo_run _ _ g35) (fun z39 g38 => ?_)
        refine ev_icmp_eq 431 188 d_Lw_law_185 (by decide) rfl ?_ ?_
        · exact ev_wk (hJ431 _ _ _ _ g38) (ev_subS (ev_subS (ev_subS (ev_subS ev_sub0))))
        · refine ev_iconst 189 d_Lw_law_188 rfl ?_
          exact ev_zreturn d_Lw_law_189 rfl
      refine ev_peel (fun ee40 => ?_) (fun ne40 oe40 => ?_)
      · refine ev_tsIn 190 d_Lw_law_53 ee40 (by decide) (by decide) (by decide) rfl (by decide) ?_
        refine ev_aload1 191 d_Lw_law_190 rfl ?_
        refine ev_aload0 192 d_Lw_law_191 rfl ?_
        refine ev_iload3 193 d_Lw_law_192 rfl ?_
        refine ev_iconst 194 d_Lw_law_193 rfl ?_
        refine ev_iadd 195 d_Lw_law_194 rfl ?_
        refine ev_saload 196 d_Lw_law_195 rfl (fun z41 => ?_)
        refine ev_aload0 197 d_Lw_law_196 rfl ?_
        refine ev_iload3 198 d_Lw_law_197 rfl ?_
        refine ev_iconst 199 d_Lw_law_198 rfl ?_
        refine ev_iadd 200 d_Lw_law_199 rfl ?_
        refine ev_saload 201 d_Lw_law_200 rfl (fun z42 => ?_)
        refine ev_cv2I (kk := 1) 204 d_Lw_law_201 cv_Lw_31 (by decide) (by decide) rfl rfl ev_sm0 (by decide) rfl (t_ML_result _ _ _ h) (fun z44 g43 => ?_)
        refine ev_aload2 205 d_Lw_law_204 rfl ?_
        refine ev_aload0 206 d_Lw_law_205 rfl ?_
        refine ev_iload3 207 d_Lw_law_206 rfl ?_
        refine ev_iconst 208 d_Lw_law_207 rfl ?_
        refine ev_iadd 209 d_Lw_law_208 rfl ?_
        refine ev_saload 210 d_Lw_law_209 rfl (fun z45 => ?_)
        refine ev_aload0 211 d_Lw_law_210 rfl ?_
        refine ev_iload3 212 d_Lw_law_211 rfl ?_
        refine ev_iconst 213 d_Lw_law_212 rfl ?_
        refine ev_iadd 214 d_Lw_law_213 rfl ?_
        refine ev_saload 215 d_Lw_law_214 rfl (fun z46 => ?_)
        refine ev_cv2I (kk := 0) 218 d_Lw_law_215 cv_Lw_35 (by decide) (by decide) rfl rfl (ev_smc rfl ev_sm0) (by decide) rfl (t_Mo_result _ _ _ g43) (fun z48 g47 => ?_)
        refine ev_icmp_eq 431 221 d_Lw_law_218 (by decide) rfl ?_ ?_
        · exact ev_wk (hJ431 _ _ _ _ g47) (ev_subS (ev_subS (ev_subS (ev_subS ev_sub0))))
        · refine ev_iconst 222 d_Lw_law_221 rfl ?_
          exact ev_zreturn d_Lw_law_222 rfl
      refine ev_peel (fun ee49 => ?_) (fun ne49 oe49 => ?_)
      · refine ev_tsIn 223 d_Lw_law_53 ee49 (by decide) (by decide) (by decide) rfl (by decide) ?_
        refine ev_aload1 224 d_Lw_law_223 rfl ?_
        refine ev_aload0 225 d_Lw_law_224 rfl ?_
        refine ev_iload3 226 d_Lw_law_225 rfl ?_
        refine ev_iconst 227 d_Lw_law_226 rfl ?_
        refine ev_iadd 228 d_Lw_law_227 rfl ?_
        refine ev_saload 229 d_Lw_law_228 rfl (fun z50 => ?_)
        refine ev_cv1I (kk := 0) 232 d_Lw_law_229 cv_Lw_36 (by decide) (by decide) rfl ev_sm0 (by decide) rfl (t_ML_done _ _ h) (fun z52 g51 => ?_)
        refine ev_aload2 233 d_Lw_law_232 rfl ?_
        refine ev_aload0 234 d_Lw_law_233 rfl ?_
        refine ev_iload3 235 d_Lw_law_234 rfl ?_
        refine ev_iconst 236 d_Lw_law_235 rfl ?_
        refine ev_iadd 237 d_Lw_law_236 rfl ?_
        refine ev_saload 238 d_Lw_law_237 rfl (fun z53 => ?_)
        refine ev_cv1I (kk := 0) 241 d_Lw_law_238 cv_Lw_39 (by decide) (by decide) rfl (ev_smc rfl ev_sm0) (by decide) rfl (t_Mo_done _ _ g51) (fun z55 g54 => ?_)
        refine ev_icmp_eq 431 244 d_Lw_law_241 (by decide) rfl ?_ ?_
        · exact ev_wk (hJ431 _ _ _ _ g54) (ev_subS (ev_subS (ev_subS (ev_subS ev_sub0))))
        · refine ev_iconst 245 d_Lw_law_244 rfl ?_
          exact ev_zreturn d_Lw_law_245 rfl
      refine ev_peel (fun ee56 => ?_) (fun ne56 oe56 => ?_)
      · refine ev_tsIn 246 d_Lw_law_53 ee56 (by decide) (by decide) (by decide) rfl (by decide) ?_
        refine ev_aload1 247 d_Lw_law_246 rfl ?_
        refine ev_aload0 248 d_Lw_law_247 rfl ?_
        refine ev_iload3 249 d_Lw_law_248 rfl ?_
        refine ev_iconst 250 d_Lw_law_249 rfl ?_
        refine ev_iadd 251 d_Lw_law_250 rfl ?_
        refine ev_saload 252 d_Lw_law_251 rfl (fun z57 => ?_)
        refine ev_aload0 253 d_Lw_law_252 rfl ?_
        refine ev_iload3 254 d_Lw_law_253 rfl ?_
        refine ev_iconst 255 d_Lw_law_254 rfl ?_
        refine ev_iadd 256 d_Lw_law_255 rfl ?_
        refine ev_saload 257 d_Lw_law_256 rfl (fun z58 => ?_)
        refine ev_aload0 258 d_Lw_law_257 rfl ?_
        refine ev_iload3 259 d_Lw_law_258 rfl ?_
        refine ev_iconst 260 d_Lw_law_259 rfl ?_
        refine ev_iadd 261 d_Lw_law_260 rfl ?_
        refine ev_saload 262 d_Lw_law_261 rfl (fun z59 => ?_)
        refine ev_cv3I (kk := 1) 265 d_Lw_law_262 cv_Lw_40 (by decide) (by decide) rfl rfl rfl ev_sm0 (by decide) rfl (t_ML_cache _ _ _ _ h) (fun z61 g60 => ?_)
        refine ev_aload2 266 d_Lw_law_265 rfl ?_
        refine ev_aload0 267 d_Lw_law_266 rfl ?_
        refine ev_iload3 268 d_Lw_law_267 rfl ?_
        refine ev_iconst 269 d_Lw_law_268 rfl ?_
        refine ev_iadd 270 d_Lw_law_269 rfl ?_
        refine ev_saload 271 d_Lw_law_270 rfl (fun z62 => ?_)
        refine ev_aload0 272 d_Lw_law_271 rfl ?_
        refine ev_iload3 273 d_Lw_law_272 rfl ?_
        refine ev_iconst 274 d_Lw_law_273 rfl ?_
        refine ev_iadd 275 d_Lw_law_274 rfl ?_
        refine ev_saload 276 d_Lw_law_275 rfl (fun z63 => ?_)
        refine ev_aload0 277 d_Lw_law_276 rfl ?_
        refine ev_iload3 278 d_Lw_law_277 rfl ?_
        refine ev_iconst 279 d_Lw_law_278 rfl ?_
        refine ev_iadd 280 d_Lw_law_279 rfl ?_
        refine ev_saload 281 d_Lw_law_280 rfl (fun z64 => ?_)
        refine ev_cv3I (kk := 1) 284 d_Lw_law_281 cv_Lw_44 (by decide) (by decide) rfl rfl rfl (ev_smc rfl ev_sm0) (by decide) rfl (t_Mo_cache _ _ _ _ g60) (fun z66 g65 => ?_)
        refine ev_icmp_eq 431 287 d_Lw_law_284 (by decide) rfl ?_ ?_
        · exact ev_wk (hJ431 _ _ _ _ g65) (ev_subS (ev_subS (ev_subS (ev_subS ev_sub0))))
        · refine ev_iconst 288 d_Lw_law_287 rfl ?_
          exact ev_zreturn d_Lw_law_288 rfl
      refine ev_peel (fun ee67 => ?_) (fun ne67 oe67 => ?_)
      · refine ev_tsIn 289 d_Lw_law_53 ee67 (by decide) (by decide) (by decide) rfl (by decide) ?_
        refine ev_aload1 290 d_Lw_law_289 rfl ?_
        refine ev_aload0 291 d_Lw_law_290 rfl ?_
        refine ev_iload3 292 d_Lw_law_291 rfl ?_
        refine ev_iconst 293 d_Lw_law_292 rfl ?_
        refine ev_iadd 294 d_Lw_law_293 rfl ?_
        refine ev_saload 295 d_Lw_law_294 rfl (fun z68 => ?_)
        refine ev_aload0 296 d_Lw_law_295 rfl ?_
        refine ev_iload3 297 d_Lw_law_296 rfl ?_
        refine ev_iconst 298 d_Lw_law_297 rfl ?_
        refine ev_iadd 299 d_Lw_law_298 rfl ?_
        refine ev_saload 300 d_Lw_law_299 rfl (fun z69 => ?_)
        refine ev_cv2I (kk := 1) 303 d_Lw_law_300 cv_Lw_45 (by decide) (by decide) rfl rfl ev_sm0 (by decide) rfl (t_ML_home _ _ _ h) (fun z71 g70 => ?_)
        refine ev_aload2 304 d_Lw_law_303 rfl ?_
        refine ev_aload0 305 d_Lw_law_304 rfl ?_
        refine ev_iload3 306 d_Lw_law_305 rfl ?_
        refine ev_iconst 307 d_Lw_law_306 rfl ?_
        refine ev_iadd 308 d_Lw_law_307 rfl ?_
        refine ev_saload 309 d_Lw_law_308 rfl (fun z72 => ?_)
        refine ev_aload0 310 d_Lw_law_309 rfl ?_
        refine ev_iload3 311 d_Lw_law_310 rfl ?_
        refine ev_iconst 312 d_Lw_law_311 rfl ?_
        refine ev_iadd 313 d_Lw_law_312 rfl ?_
        refine ev_saload 314 d_Lw_law_313 rfl (fun z73 => ?_)
        refine ev_cv2I (kk := 0) 317 d_Lw_law_314 cv_Lw_48 (by decide) (by decide) rfl rfl (ev_smc rfl ev_sm0) (by decide) rfl (t_Mo_home _ _ _ g70) (fun z75 g74 => ?_)
        refine ev_icmp_eq 431 320 d_Lw_law_317 (by decide) rfl ?_ ?_
        · exact ev_wk (hJ431 _ _ _ _ g74) (ev_subS (ev_subS (ev_subS (ev_subS ev_sub0))))
        · refine ev_iconst 321 d_Lw_law_320 rfl ?_
          exact ev_zreturn d_Lw_law_321 rfl
      refine ev_peel (fun ee76 => ?_) (fun ne76 oe76 => ?_)
      · refine ev_tsIn 322 d_Lw_law_53 ee76 (by decide) (by decide) (by decide) rfl (by decide) ?_
        refine ev_aload1 323 d_Lw_law_322 rfl ?_
        refine ev_aload0 324 d_Lw_law_323 rfl ?_
        refine ev_iload3 325 d_Lw_law_324 rfl ?_
        refine ev_iconst 326 d_Lw_law_325 rfl ?_
        refine ev_iadd 327 d_Lw_law_326 rfl ?_
        refine ev_saload 328 d_Lw_law_327 rfl (fun z77 => ?_)
        refine ev_aload0 329 d_Lw_law_328 rfl ?_
        refine ev_iload3 330 d_Lw_law_329 rfl ?_
        refine ev_iconst 331 d_Lw_law_330 rfl ?_
        refine ev_iadd 332 d_Lw_law_331 rfl ?_
        refine ev_saload 333 d_Lw_law_332 rfl (fun z78 => ?_)
        refine ev_aload0 334 d_Lw_law_333 rfl ?_
        refine ev_iload3 335 d_Lw_law_334 rfl ?_
        refine ev_iconst 336 d_Lw_law_335 rfl ?_
        refine ev_iadd 337 d_Lw_law_336 rfl ?_
        refine ev_saload 338 d_Lw_law_337 rfl (fun z79 => ?_)
        refine ev_cv3I (kk := 1) 341 d_Lw_law_338 cv_Lw_49 (by decide) (by decide) rfl rfl rfl ev_sm0 (by decide) rfl (t_ML_buffer _ _ _ _ h) (fun z81 g80 => ?_)
        refine ev_aload2 342 d_Lw_law_341 rfl ?_
        refine ev_aload0 343 d_Lw_law_342 rfl ?_
        refine ev_iload3 344 d_Lw_law_343 rfl ?_
        refine ev_iconst 345 d_Lw_law_344 rfl ?_
        refine ev_iadd 346 d_Lw_law_345 rfl ?_
        refine ev_saload 347 d_Lw_law_346 rfl (fun z82 => ?_)
        refine ev_aload0 348 d_Lw_law_347 rfl ?_
        refine ev_iload3 349 d_Lw_law_348 rfl ?_
        refine ev_iconst 350 d_Lw_law_349 rfl ?_
        refine ev_iadd 351 d_Lw_law_350 rfl ?_
        refine ev_saload 352 d_Lw_law_351 rfl (fun z83 => ?_)
        refine ev_aload0 353 d_Lw_law_352 rfl ?_
        refine ev_iload3 354 d_Lw_law_353 rfl ?_
        refine ev_iconst 355 d_Lw_law_354 rfl ?_
        refine ev_iadd 356 d_Lw_law_355 rfl ?_
        refine ev_saload 357 d_Lw_law_356 rfl (fun z84 => ?_)
        refine ev_cv3I (kk := 0) 360 d_Lw_law_357 cv_Lw_52 (by decide) (by decide) rfl rfl rfl (ev_smc rfl ev_sm0) (by decide) rfl (t_Mo_buffer _ _ _ _ g80) (fun z86 g85 => ?_)
        refine ev_icmp_eq 431 363 d_Lw_law_360 (by decide) rfl ?_ ?_
        · exact ev_wk (hJ431 _ _ _ _ g85) (ev_subS (ev_subS (ev_subS (ev_subS ev_sub0))))
        · refine ev_iconst 364 d_Lw_law_363 rfl ?_
          exact ev_zreturn d_Lw_law_364 rfl
      refine ev_peel (fun ee87 => ?_) (fun ne87 oe87 => ?_)
      · refine ev_tsIn 365 d_Lw_law_53 ee87 (by decide) (by decide) (by decide) rfl (by decide) ?_
        refine ev_aload1 366 d_Lw_law_365 rfl ?_
        refine ev_aload0 367 d_Lw_law_366 rfl ?_
        refine ev_iload3 368 d_Lw_law_367 rfl ?_
        refine ev_iconst 369 d_Lw_law_368 rfl ?_
        refine ev_iadd 370 d_Lw_law_369 rfl ?_
        refine ev_saload 371 d_Lw_law_370 rfl (fun z88 => ?_)
        refine ev_aload0 372 d_Lw_law_371 rfl ?_
        refine ev_iload3 373 d_Lw_law_372 rfl ?_
        refine ev_iconst 374 d_Lw_law_373 rfl ?_
        refine ev_iadd 375 d_Lw_law_374 rfl ?_
        refine ev_saload 376 d_Lw_law_375 rfl (fun z89 => ?_)
        refine ev_aload0 377 d_Lw_law_376 rfl ?_
        refine ev_iload3 378 d_Lw_law_377 rfl ?_
        refine ev_iconst 379 d_Lw_law_378 rfl ?_
        refine ev_iadd 380 d_Lw_law_379 rfl ?_
        refine ev_saload 381 d_Lw_law_380 rfl (fun z90 => ?_)
        refine ev_cv3I (kk := 1) 384 d_Lw_law_381 cv_Lw_53 (by decide) (by decide) rfl rfl rfl ev_sm0 (by decide) rfl (t_ML_held _ _ _ _ h) (fun z92 g91 => ?_)
        refine ev_aload2 385 d_Lw_law_384 rfl ?_
        refine ev_aload0 386 d_Lw_law_385 rfl ?_
        refine ev_iload3 387 d_Lw_law_386 rfl ?_
        refine ev_iconst 388 d_Lw_law_387 rfl ?_
        refine ev_iadd 389 d_Lw_law_388 rfl ?_
        refine ev_saload 390 d_Lw_law_389 rfl (fun z93 => ?_)
        refine ev_aload0 391 d_Lw_law_390 rfl ?_
        refine ev_iload3 392 d_Lw_law_391 rfl ?_
        refine ev_iconst 393 d_Lw_law_392 rfl ?_
        refine ev_iadd 394 d_Lw_law_393 rfl ?_
        refine ev_saload 395 d_Lw_law_394 rfl (fun z94 => ?_)
        refine ev_aload0 396 d_Lw_law_395 rfl ?_
        refine ev_iload3 397 d_Lw_law_396 rfl ?_
        refine ev_iconst 398 d_Lw_law_397 rfl ?_
        refine ev_iadd 399 d_Lw_law_398 rfl ?_
        refine ev_saload 400 d_Lw_law_399 rfl (fun z95 => ?_)
        refine ev_cv3I (kk := 0) 403 d_Lw_law_400 cv_Lw_56 (by decide) (by decide) rfl rfl rfl (ev_smc rfl ev_sm0) (by decide) rfl (t_Mo_held _ _ _ _ g91) (fun z97 g96 => ?_)
        refine ev_icmp_eq 431 406 d_Lw_law_403 (by decide) rfl ?_ ?_
        · exact ev_wk (hJ431 _ _ _ _ g96) (ev_subS (ev_subS (ev_subS (ev_subS ev_sub0))))
        · refine ev_iconst 407 d_Lw_law_406 rfl ?_
          exact ev_zreturn d_Lw_law_407 rfl
      refine ev_peel (fun ee98 => ?_) (fun ne98 oe98 => ?_)
      · refine ev_tsIn 408 d_Lw_law_53 ee98 (by decide) (by decide) (by decide) rfl (by decide) ?_
        refine ev_aload1 409 d_Lw_law_408 rfl ?_
        refine ev_aload0 410 d_Lw_law_409 rfl ?_
        refine ev_iload3 411 d_Lw_law_410 rfl ?_
        refine ev_iconst 412 d_Lw_law_411 rfl ?_
        refine ev_iadd 413 d_Lw_law_412 rfl ?_
        refine ev_saload 414 d_Lw_law_413 rfl (fun z99 => ?_)
        refine ev_cv1I (kk := 0) 417 d_Lw_law_414 cv_Lw_57 (by decide) (by decide) rfl ev_sm0 (by decide) rfl (t_ML_count _ _ h) (fun z101 g100 => ?_)
        refine ev_aload2 418 d_Lw_law_417 rfl ?_
        refine ev_aload0 419 d_Lw_law_418 rfl ?_
        refine ev_iload3 420 d_Lw_law_419 rfl ?_
        refine ev_iconst 421 d_Lw_law_420 rfl ?_
        refine ev_iadd 422 d_Lw_law_421 rfl ?_
        refine ev_saload 423 d_Lw_law_422 rfl (fun z102 => ?_)
        refine ev_cv1I (kk := 0) 426 d_Lw_law_423 cv_Lw_60 (by decide) (by decide) rfl (ev_smc rfl ev_sm0) (by decide) rfl (t_Mo_count _ _ g100) (fun z104 g103 => ?_)
        refine ev_icmp_eq 431 429 d_Lw_law_426 (by decide) rfl ?_ ?_
        · exact ev_wk (hJ431 _ _ _ _ g103) (ev_subS (ev_subS (ev_subS (ev_subS ev_sub0))))
        · refine ev_iconst 430 d_Lw_law_429 rfl ?_
          exact ev_zreturn d_Lw_law_430 rfl
      refine ev_tsOut 431 d_Lw_law_53 oe98 (by omega) (by decide) ?_
      exact ev_wk (hJ431 _ _ _ _ h) (ev_subS (ev_subS (ev_subS (ev_subS ev_sub0))))
theorem t_Lw_law {E : ev_E} (x0 : Option Nat) (h : ev_hs) : EvO E M_Lw_law 14 cvI 0 [some (va_rf x0), none, none, none] [] h (f_Lw_law x0 h) := by
  unfold f_Lw_law
  refine ev_new 3 d_Lw_law_0 ck_0 w_22 w_23 w_1 rfl (fun q1 g2 => ?_)
  refine ev_dup 4 d_Lw_law_3 (va_rf_cat _) rfl ?_
  refine ev_aload0 5 d_Lw_law_4 rfl ?_
  refine ev_iconst 6 d_Lw_law_5 rfl ?_
  refine ev_cs2I (kk := 0) 9 d_Lw_law_6 cs_Lw_9 (by decide) (by decide) (va_rf_cat _) rfl (ev_smc (va_rf_cat _) (ev_smc (va_rf_cat _) ev_sm0)) (by decide) rfl (t_Lw_cell _ _ g2) (fun z4 g3 => ?_)
  refine ev_aload0 10 d_Lw_law_9 rfl ?_
  refine ev_iconst 11 d_Lw_law_10 rfl ?_
  refine ev_cs2I (kk := 0) 14 d_Lw_law_11 cs_Lw_9 (by decide) (by decide) (va_rf_cat _) rfl (ev_smc rfl (ev_smc (va_rf_cat _) (ev_smc (va_rf_cat _) ev_sm0))) (by decide) rfl (t_Lw_cell _ _ g3) (fun z6 g5 => ?_)
  refine ev_ci2V (kk := 1) 17 d_Lw_law_14 ci_Lw_15 (by decide) (by decide) rfl rfl (ev_smc (va_rf_cat _) ev_sm0) (by decide) rfl (t_ML_init _ _ _ g5) (fun g7 => ?_)
  refine ev_astore1 18 d_Lw_law_17 (by decide) rfl ?_
  refine ev_new 21 d_Lw_law_18 ck_11 w_672 w_673 w_13 rfl (fun q8 g9 => ?_)
  refine ev_dup 22 d_Lw_law_21 (va_rf_cat _) rfl ?_
  refine ev_aload0 23 d_Lw_law_22 rfl ?_
  refine ev_iconst 24 d_Lw_law_23 rfl ?_
  refine ev_cs2I (kk := 0) 27 d_Lw_law_24 cs_Lw_9 (by decide) (by decide) (va_rf_cat _) rfl (ev_smc (va_rf_cat _) (ev_smc (va_rf_cat _) ev_sm0)) (by decide) rfl (t_Lw_cell _ _ g9) (fun z11 g10 => ?_)
  refine ev_aload0 28 d_Lw_law_27 rfl ?_
  refine ev_iconst 29 d_Lw_law_28 rfl ?_
  refine ev_cs2I (kk := 0) 32 d_Lw_law_29 cs_Lw_9 (by decide) (by decide) (va_rf_cat _) rfl (ev_smc rfl (ev_smc (va_rf_cat _) (ev_smc (va_rf_cat _) ev_sm0))) (by decide) rfl (t_Lw_cell _ _ g10) (fun z13 g12 => ?_)
  refine ev_ci2V (kk := 1) 35 d_Lw_law_32 ci_Lw_20 (by decide) (by decide) rfl rfl (ev_smc (va_rf_cat _) ev_sm0) (by decide) rfl (t_Mo_init _ _ _ g12) (fun g14 => ?_)
  refine ev_astore2 36 d_Lw_law_35 (by decide) rfl ?_
  refine ev_iconst 37 d_Lw_law_36 rfl ?_
  refine ev_istore3 38 d_Lw_law_37 (by decide) rfl ?_
  refine ev_wk (t_Lw_law_38 FU _ _ _ _ g14) (ev_subS (ev_subS (ev_subS (ev_subS ev_sub0))))
