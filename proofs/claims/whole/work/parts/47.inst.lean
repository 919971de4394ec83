/-! Objects of a kind, by their numbers -/
def isImage (o : Int) : Prop := o = 3 ∨ o = 27 ∨ o = 50 ∨ o = 73
theorem wf_Image {o : Int} (h : isImage o) : gW.2.1 o = (10, 7) ∧ gW.2.2 o 0 = o + 1 ∧ gW.2.1 (o + 1) = (15, 12) ∧ gW.2.2 o 1 = o + 15 ∧ gW.2.1 (o + 15) = (2, 4800) ∧ gW.2.2 o 2 = o + 16 ∧ gW.2.1 (o + 16) = (1, 80) ∧ gW.2.2 o 3 = o + 17 ∧ gW.2.1 (o + 17) = (1, 80) ∧ gW.2.2 o 4 = o + 18 ∧ gW.2.1 (o + 18) = (2, 80) ∧ gW.2.2 o 5 = o + 19 ∧ gW.2.1 (o + 19) = (1, 2) ∧ gW.2.2 o 6 = o + 20 ∧ gW.2.1 (o + 20) = (12, 2) := by
  rcases h with rfl | rfl | rfl | rfl
  all_goals decide +kernel
theorem im_t {o : Int} (h : isImage o) : gW.2.1 o = (10, 7) := (wf_Image h).1
theorem im_r0 {o : Int} (h : isImage o) : gW.2.2 o 0 = o + 1 := (wf_Image h).2.1
theorem im_t0 {o : Int} (h : isImage o) : gW.2.1 (o + 1) = (15, 12) := (wf_Image h).2.2.1
theorem im_r1 {o : Int} (h : isImage o) : gW.2.2 o 1 = o + 15 := (wf_Image h).2.2.2.1
theorem im_t1 {o : Int} (h : isImage o) : gW.2.1 (o + 15) = (2, 4800) := (wf_Image h).2.2.2.2.1
theorem im_r2 {o : Int} (h : isImage o) : gW.2.2 o 2 = o + 16 := (wf_Image h).2.2.2.2.2.1
theorem im_t2 {o : Int} (h : isImage o) : gW.2.1 (o + 16) = (1, 80) := (wf_Image h).2.2.2.2.2.2.1
theorem im_r3 {o : Int} (h : isImage o) : gW.2.2 o 3 = o + 17 := (wf_Image h).2.2.2.2.2.2.2.1
theorem im_t3 {o : Int} (h : isImage o) : gW.2.1 (o + 17) = (1, 80) := (wf_Image h).2.2.2.2.2.2.2.2.1
theorem im_r4 {o : Int} (h : isImage o) : gW.2.2 o 4 = o + 18 := (wf_Image h).2.2.2.2.2.2.2.2.2.1
theorem im_t4 {o : Int} (h : isImage o) : gW.2.1 (o + 18) = (2, 80) := (wf_Image h).2.2.2.2.2.2.2.2.2.2.1
theorem im_r5 {o : Int} (h : isImage o) : gW.2.2 o 5 = o + 19 := (wf_Image h).2.2.2.2.2.2.2.2.2.2.2.1
theorem im_t5 {o : Int} (h : isImage o) : gW.2.1 (o + 19) = (1, 2) := (wf_Image h).2.2.2.2.2.2.2.2.2.2.2.2.1
theorem im_r6 {o : Int} (h : isImage o) : gW.2.2 o 6 = o + 20 := (wf_Image h).2.2.2.2.2.2.2.2.2.2.2.2.2.1
theorem im_t6 {o : Int} (h : isImage o) : gW.2.1 (o + 20) = (12, 2) := (wf_Image h).2.2.2.2.2.2.2.2.2.2.2.2.2.2
theorem kr_Image_6 {o : Int} (h : isImage o) : KR (o + 20) 1200 := by
  unfold KR
  rcases h with rfl | rfl | rfl | rfl
  all_goals decide +kernel
def isWords (o : Int) : Prop := o = 105 ∨ o = 120
theorem wf_Words {o : Int} (h : isWords o) : gW.2.1 o = (18, 14) ∧ gW.2.2 o 1 = o + 1 ∧ gW.2.1 (o + 1) = (12, 2) ∧ gW.2.2 o 2 = o + 4 ∧ gW.2.1 (o + 4) = (1, 300) ∧ gW.2.2 o 3 = o + 5 ∧ gW.2.1 (o + 5) = (1, 300) ∧ gW.2.2 o 4 = o + 6 ∧ gW.2.1 (o + 6) = (1, 300) ∧ gW.2.2 o 5 = o + 7 ∧ gW.2.1 (o + 7) = (1, 300) ∧ gW.2.2 o 6 = o + 8 ∧ gW.2.1 (o + 8) = (1, 600) ∧ gW.2.2 o 7 = o + 9 ∧ gW.2.1 (o + 9) = (1, 300) ∧ gW.2.2 o 8 = o + 10 ∧ gW.2.1 (o + 10) = (1, 600) ∧ gW.2.2 o 10 = o + 11 ∧ gW.2.1 (o + 11) = (1, 40) ∧ gW.2.2 o 11 = o + 12 ∧ gW.2.1 (o + 12) = (1, 40) ∧ gW.2.2 o 12 = o + 13 ∧ gW.2.1 (o + 13) = (2, 600) ∧ gW.2.2 o 13 = o + 14 ∧ gW.2.1 (o + 14) = (11, 3) := by
  rcases h with rfl | rfl
  all_goals decide +kernel
theorem wd_t {o : Int} (h : isWords o) : gW.2.1 o = (18, 14) := (wf_Words h).1
theorem wd_r1 {o : Int} (h : isWords o) : gW.2.2 o 1 = o + 1 := (wf_Words h).2.1
theorem wd_t1 {o : Int} (h : isWords o) : gW.2.1 (o + 1) = (12, 2) := (wf_Words h).2.2.1
theorem wd_r2 {o : Int} (h : isWords o) : gW.2.2 o 2 = o + 4 := (wf_Words h).2.2.2.1
theorem wd_t2 {o : Int} (h : isWords o) : gW.2.1 (o + 4) = (1, 300) := (wf_Words h).2.2.2.2.1
theorem wd_r3 {o : Int} (h : isWords o) : gW.2.2 o 3 = o + 5 := (wf_Words h).2.2.2.2.2.1
theorem wd_t3 {o : Int} (h : isWords o) : gW.2.1 (o + 5) = (1, 300) := (wf_Words h).2.2.2.2.2.2.1
theorem wd_r4 {o : Int} (h : isWords o) : gW.2.2 o 4 = o + 6 := (wf_Words h).2.2.2.2.2.2.2.1
theorem wd_t4 {o : Int} (h : isWords o) : gW.2.1 (o + 6) = (1, 300) := (wf_Words h).2.2.2.2.2.2.2.2.1
theorem wd_r5 {o : Int} (h : isWords o) : gW.2.2 o 5 = o + 7 := (wf_Words h).2.2.2.2.2.2.2.2.2.1
theorem wd_t5 {o : Int} (h : isWords o) : gW.2.1 (o + 7) = (1, 300) := (wf_Words h).2.2.2.2.2.2.2.2.2.2.1
theorem wd_r6 {o : Int} (h : isWords o) : gW.2.2 o 6 = o + 8 := (wf_Words h).2.2.2.2.2.2.2.2.2.2.2.1
theorem wd_t6 {o : Int} (h : isWords o) : gW.2.1 (o + 8) = (1, 600) := (wf_Words h).2.2.2.2.2.2.2.2.2.2.2.2.1
theorem wd_r7 {o : Int} (h : isWords o) : gW.2.2 o 7 = o + 9 := (wf_Words h).2.2.2.2.2.2.2.2.2.2.2.2.2.1
theorem wd_t7 {o : Int} (h : isWords o) : gW.2.1 (o + 9) = (1, 300) := (wf_Words h).2.2.2.2.2.2.2.2.2.2.2.2.2.2.1
theorem wd_r8 {o : Int} (h : isWords o) : gW.2.2 o 8 = o + 10 := (wf_Words h).2.2.2.2.2.2.2.2.2.2.2.2.2.2.2.1
theorem wd_t8 {o : Int} (h : isWords o) : gW.2.1 (o + 10) = (1, 600) := (wf_Words h).2.2.2.2.2.2.2.2.2.2.2.2.2.2.2.2.1
theorem wd_r10 {o : Int} (h : isWords o) : gW.2.2 o 10 = o + 11 := (wf_Words h).2.2.2.2.2.2.2.2.2.2.2.2.2.2.2.2.2.1
theorem wd_t10 {o : Int} (h : isWords o) : gW.2.1 (o + 11) = (1, 40) := (wf_Words h).2.2.2.2.2.2.2.2.2.2.2.2.2.2.2.2.2.2.1
theorem wd_r11 {o : Int} (h : isWords o) : gW.2.2 o 11 = o + 12 := (wf_Words h).2.2.2.2.2.2.2.2.2.2.2.2.2.2.2.2.2.2.2.1
theorem wd_t11 {o : Int} (h : isWords o) : gW.2.1 (o + 12) = (1, 40) := (wf_Words h).2.2.2.2.2.2.2.2.2.2.2.2.2.2.2.2.2.2.2.2.1
theorem wd_r12 {o : Int} (h : isWords o) : gW.2.2 o 12 = o + 13 := (wf_Words h).2.2.2.2.2.2.2.2.2.2.2.2.2.2.2.2.2.2.2.2.2.1
theorem wd_t12 {o : Int} (h : isWords o) : gW.2.1 (o + 13) = (2, 600) := (wf_Words h).2.2.2.2.2.2.2.2.2.2.2.2.2.2.2.2.2.2.2.2.2.2.1
theorem wd_r13 {o : Int} (h : isWords o) : gW.2.2 o 13 = o + 14 := (wf_Words h).2.2.2.2.2.2.2.2.2.2.2.2.2.2.2.2.2.2.2.2.2.2.2.1
theorem wd_t13 {o : Int} (h : isWords o) : gW.2.1 (o + 14) = (11, 3) := (wf_Words h).2.2.2.2.2.2.2.2.2.2.2.2.2.2.2.2.2.2.2.2.2.2.2.2
theorem kr_Words_1 {o : Int} (h : isWords o) : KR (o + 1) 300 := by
  unfold KR
  rcases h with rfl | rfl
  all_goals decide +kernel
def isRules (o : Int) : Prop := o = 4 ∨ o = 28 ∨ o = 51 ∨ o = 74 ∨ o = 142
theorem wf_Rules {o : Int} (h : isRules o) : gW.2.1 o = (15, 12) ∧ gW.2.2 o 1 = o + 1 ∧ gW.2.1 (o + 1) = (2, 26) ∧ gW.2.2 o 2 = o + 2 ∧ gW.2.1 (o + 2) = (2, 26) ∧ gW.2.2 o 4 = o + 3 ∧ gW.2.1 (o + 3) = (12, 2) ∧ gW.2.2 o 6 = o + 6 ∧ gW.2.1 (o + 6) = (12, 2) ∧ gW.2.2 o 8 = o + 9 ∧ gW.2.1 (o + 9) = (12, 2) ∧ gW.2.2 o 9 = o + 12 ∧ gW.2.1 (o + 12) = (1, 20) ∧ gW.2.2 o 10 = o + 13 ∧ gW.2.1 (o + 13) = (2, 26) := by
  rcases h with rfl | rfl | rfl | rfl | rfl
  all_goals decide +kernel
theorem ru_t {o : Int} (h : isRules o) : gW.2.1 o = (15, 12) := (wf_Rules h).1
theorem ru_r1 {o : Int} (h : isRules o) : gW.2.2 o 1 = o + 1 := (wf_Rules h).2.1
theorem ru_t1 {o : Int} (h : isRules o) : gW.2.1 (o + 1) = (2, 26) := (wf_Rules h).2.2.1
theorem ru_r2 {o : Int} (h : isRules o) : gW.2.2 o 2 = o + 2 := (wf_Rules h).2.2.2.1
theorem ru_t2 {o : Int} (h : isRules o) : gW.2.1 (o + 2) = (2, 26) := (wf_Rules h).2.2.2.2.1
theorem ru_r4 {o : Int} (h : isRules o) : gW.2.2 o 4 = o + 3 := (wf_Rules h).2.2.2.2.2.1
theorem ru_t4 {o : Int} (h : isRules o) : gW.2.1 (o + 3) = (12, 2) := (wf_Rules h).2.2.2.2.2.2.1
theorem ru_r6 {o : Int} (h : isRules o) : gW.2.2 o 6 = o + 6 := (wf_Rules h).2.2.2.2.2.2.2.1
theorem ru_t6 {o : Int} (h : isRules o) : gW.2.1 (o + 6) = (12, 2) := (wf_Rules h).2.2.2.2.2.2.2.2.1
theorem ru_r8 {o : Int} (h : isRules o) : gW.2.2 o 8 = o + 9 := (wf_Rules h).2.2.2.2.2.2.2.2.2.1
theorem ru_t8 {o : Int} (h : isRules o) : gW.2.1 (o + 9) = (12, 2) := (wf_Rules h).2.2.2.2.2.2.2.2.2.2.1
theorem ru_r9 {o : Int} (h : isRules o) : gW.2.2 o 9 = o + 12 := (wf_Rules h).2.2.2.2.2.2.2.2.2.2.2.1
theorem ru_t9 {o : Int} (h : isRules o) : gW.2.1 (o + 12) = (1, 20) := (wf_Rules h).2.2.2.2.2.2.2.2.2.2.2.2.1
theorem ru_r10 {o : Int} (h : isRules o) : gW.2.2 o 10 = o + 13 := (wf_Rules h).2.2.2.2.2.2.2.2.2.2.2.2.2.1
theorem ru_t10 {o : Int} (h : isRules o) : gW.2.1 (o + 13) = (2, 26) := (wf_Rules h).2.2.2.2.2.2.2.2.2.2.2.2.2.2
theorem kr_Rules_4 {o : Int} (h : isRules o) : KR (o + 3) 20 := by
  unfold KR
  rcases h with rfl | rfl | rfl | rfl | rfl
  all_goals decide +kernel
theorem kr_Rules_6 {o : Int} (h : isRules o) : KR (o + 6) 20 := by
  unfold KR
  rcases h with rfl | rfl | rfl | rfl | rfl
  all_goals decide +kernel
theorem kr_Rules_8 {o : Int} (h : isRules o) : KR (o + 9) 80 := by
  unfold KR
  rcases h with rfl | rfl | rfl | rfl | rfl
  all_goals decide +kernel
theorem isImage_r {o : Int} (h : isImage o) : isRules (o + 1) := by
  unfold isImage at h
  unfold isRules
  omega
theorem isWords_k {o : Int} (h : isWords o) : KY (o + 14) := by
  unfold KY
  rcases h with rfl | rfl
  all_goals decide +kernel
theorem kr_7 : KR 7 20 := by
  unfold KR
  decide +kernel
theorem kr_10 : KR 10 20 := by
  unfold KR
  decide +kernel
theorem kr_13 : KR 13 80 := by
  unfold KR
  decide +kernel
theorem kr_23 : KR 23 1200 := by
  unfold KR
  decide +kernel
theorem kr_31 : KR 31 20 := by
  unfold KR
  decide +kernel
theorem kr_34 : KR 34 20 := by
  unfold KR
  decide +kernel
theorem kr_37 : KR 37 80 := by
  unfold KR
  decide +kernel
theorem kr_47 : KR 47 1200 := by
  unfold KR
  decide +kernel
theorem kr_54 : KR 54 20 := by
  unfold KR
  decide +kernel
theorem kr_57 : KR 57 20 := by
  unfold KR
  decide +kernel
theorem kr_60 : KR 60 80 := by
  unfold KR
  decide +kernel
theorem kr_70 : KR 70 1200 := by
  unfold KR
  decide +kernel
theorem kr_77 : KR 77 20 := by
  unfold KR
  decide +kernel
theorem kr_80 : KR 80 20 := by
  unfold KR
  decide +kernel
theorem kr_83 : KR 83 80 := by
  unfold KR
  decide +kernel
theorem kr_93 : KR 93 1200 := by
  unfold KR
  decide +kernel
theorem kr_98 : KR 98 600 := by
  unfold KR
  decide +kernel
theorem kr_102 : KR 102 600 := by
  unfold KR
  decide +kernel
theorem kr_106 : KR 106 300 := by
  unfold KR
  decide +kernel
theorem ky_119 : KY 119 := gt_119
theorem kr_121 : KR 121 300 := by
  unfold KR
  decide +kernel
theorem ky_134 : KY 134 := gt_134
theorem kr_145 : KR 145 20 := by
  unfold KR
  decide +kernel
theorem kr_148 : KR 148 20 := by
  unfold KR
  decide +kernel
theorem kr_151 : KR 151 80 := by
  unfold KR
  decide +kernel
theorem ky_156 : KY 156 := gt_156
theorem ky_158 : KY 158 := gt_158
theorem ky_179 : KY 179 := gt_179
