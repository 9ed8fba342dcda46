section
/-! equal answers, with the words kept; the law's rows -/
def INW (s t : gMem) : Prop := INV s t ∧ IW t
theorem IW_fr {W : List Nat} {t t2 : gMem} (h : IW t) (hf : fr W t t2) (hw : 20 ∉ W) : IW t2 := by
  unfold IW
  rw [hf 20 hw]
  exact h
theorem EW_count {s t : gMem} (h : INW s t) {x0 : Int} (hx0 : in32 x0) : ((f_X8_count x0 s), s).1 = ((f_X9_count x0 t), t).1 ∧ INW ((f_X8_count x0 s), s).2 ((f_X9_count x0 t), t).2 := ⟨EQ_count h.1  x0, h⟩
theorem EW_set {s t : gMem} (h : INW s t) {x0 : Int} {x1 : Int} (hx0 : in32 x0) (hx1 : in32 x1) : (f_X8_set x0 x1 s).1 = (f_X9_set x0 x1 t).1 ∧ INW (f_X8_set x0 x1 s).2 (f_X9_set x0 x1 t).2 := by
  have q := EQ_set h.1 (x0 := x0) (x1 := x1) hx0 hx1
  exact ⟨q.1, q.2, IW_fr h.2 (MI_set h.1.2.2.1 hx0 hx1 q.2.2.2.1.1.2.2.2.2).1 (by decide)⟩
theorem EW_feed {s t : gMem} (h : INW s t) {x0 : Int} {x1 : Int} {x2 : Int} {x3 : Int} {x4 : Int} {x5 : Int} (hx0 : in32 x0) (hx1 : in32 x1) (hx2 : in32 x2) (hx3 : in32 x3) (hx4 : in32 x4) (hx5 : in32 x5) : (f_X8_feed x0 x1 x2 x3 x4 x5 s).1 = (f_X9_feed x0 x1 x2 x3 x4 x5 t).1 ∧ INW (f_X8_feed x0 x1 x2 x3 x4 x5 s).2 (f_X9_feed x0 x1 x2 x3 x4 x5 t).2 := by
  have q := EQ_feed h.1 (x0 := x0) (x1 := x1) (x2 := x2) (x3 := x3) (x4 := x4) (x5 := x5) hx0 hx1 hx2 hx3 hx4 hx5
  exact ⟨q.1, q.2, IW_fr h.2 (MI_feed h.1.2.2.1 hx0 hx1 hx2 hx3 hx4 hx5 q.2.2.2.1.2.2.2.2.2.2.2.2.2).1 (by decide)⟩
theorem EW_text {s t : gMem} (h : INW s t) : (f_X8_text s).1 = (f_X9_text t).1 ∧ INW (f_X8_text s).2 (f_X9_text t).2 := by
  have q := EQ_text h.1  h.2
  exact ⟨q.1, q.2, IW_fr h.2 (MI_text h.1.2.2.1  q.2.2.2.1.2.2.2.2.2.2.2.2.1).1 (by decide)⟩
theorem EW_force {s t : gMem} (h : INW s t) {x0 : Int} (hx0 : in32 x0) : (f_X8_force x0 s).1 = (f_X9_force x0 t).1 ∧ INW (f_X8_force x0 s).2 (f_X9_force x0 t).2 := by
  have q := EQ_force h.1 (x0 := x0) hx0
  exact ⟨q.1, q.2, IW_fr h.2 (MI_force h.1.2.2.1 hx0 q.2.2.2.1.1.2.1).1 (by decide)⟩
theorem EW_asks {s t : gMem} (h : INW s t) {x0 : Int} {x1 : Int} {x2 : Int} (hx0 : in32 x0) (hx1 : in32 x1) (hx2 : in32 x2) : (f_X8_asks x0 x1 x2 s).1 = (f_X9_asks x0 x1 x2 t).1 ∧ INW (f_X8_asks x0 x1 x2 s).2 (f_X9_asks x0 x1 x2 t).2 := by
  have q := EQ_asks h.1 (x0 := x0) (x1 := x1) (x2 := x2) hx0 hx1 hx2
  exact ⟨q.1, q.2, IW_fr h.2 (MI_asks h.1.2.2.1 hx0 hx1 hx2 ).1 (by decide)⟩
theorem EW_lay {s t : gMem} (h : INW s t) {x0 : Int} {x1 : Int} {x2 : Int} (hx0 : in32 x0) (hx1 : in32 x1) (hx2 : in32 x2) : (f_X8_lay x0 x1 x2 s).1 = (f_X9_lay x0 x1 x2 t).1 ∧ INW (f_X8_lay x0 x1 x2 s).2 (f_X9_lay x0 x1 x2 t).2 := by
  have q := EQ_lay h.1 (x0 := x0) (x1 := x1) (x2 := x2) hx0 hx1 hx2
  exact ⟨q.1, q.2, IW_fr h.2 (MI_lay h.1.2.2.1 hx0 hx1 hx2 ).1 (by decide)⟩
theorem EW_told {s t : gMem} (h : INW s t) {x0 : Int} {x1 : Int} (hx0 : in32 x0) (hx1 : in32 x1) : (f_X8_told x0 x1 s).1 = (f_X9_told x0 x1 t).1 ∧ INW (f_X8_told x0 x1 s).2 (f_X9_told x0 x1 t).2 := by
  have q := EQ_told h.1 (x0 := x0) (x1 := x1) hx0 hx1
  exact ⟨q.1, q.2, IW_fr h.2 (MI_told h.1.2.2.1 hx0 hx1 ).1 (by decide)⟩
theorem EW_stretch {s t : gMem} (h : INW s t) {x0 : Int} {x1 : Int} (hx0 : in32 x0) (hx1 : in32 x1) : (f_X8_stretch x0 x1 s).1 = (f_X9_stretch x0 x1 t).1 ∧ INW (f_X8_stretch x0 x1 s).2 (f_X9_stretch x0 x1 t).2 := by
  have q := EQ_stretch h.1 (x0 := x0) (x1 := x1) hx0 hx1
  exact ⟨q.1, q.2, IW_fr h.2 (MI_stretch h.1.2.2.1 hx0 hx1 ).1 (by decide)⟩
theorem EW_mean {s t : gMem} (h : INW s t) {x0 : Int} {x1 : Int} (hx0 : in32 x0) (hx1 : in32 x1) : (f_X8_mean x0 x1 s).1 = (f_X9_mean x0 x1 t).1 ∧ INW (f_X8_mean x0 x1 s).2 (f_X9_mean x0 x1 t).2 := by
  have q := EQ_mean h.1 (x0 := x0) (x1 := x1) hx0 hx1
  exact ⟨q.1, q.2, IW_fr h.2 (MI_mean h.1.2.2.1 hx0 hx1 ).1 (by decide)⟩
theorem EW_plan {s t : gMem} (h : INW s t) : (f_X8_plan s).1 = (f_X9_plan t).1 ∧ INW (f_X8_plan s).2 (f_X9_plan t).2 := by
  have q := EQ_plan h.1  
  exact ⟨q.1, q.2, IW_fr h.2 (MI_plan h.1.2.2.1  ).1 (by decide)⟩
theorem EW_best {s t : gMem} (h : INW s t) {x0 : Int} {x1 : Int} (hx0 : in32 x0) (hx1 : in32 x1) : (f_X8_best x0 x1 s).1 = (f_X9_best x0 x1 t).1 ∧ INW (f_X8_best x0 x1 s).2 (f_X9_best x0 x1 t).2 := by
  have q := EQ_best h.1 (x0 := x0) (x1 := x1) hx0 hx1
  exact ⟨q.1, q.2, IW_fr h.2 (MI_best h.1.2.2.1 hx0 hx1 ).1 (by decide)⟩
theorem EW_every {s t : gMem} (h : INW s t) {x0 : Int} (hx0 : in32 x0) : (f_X8_every x0 s).1 = (f_X9_every x0 t).1 ∧ INW (f_X8_every x0 s).2 (f_X9_every x0 t).2 := by
  have q := EQ_every h.1 (x0 := x0) hx0
  exact ⟨q.1, q.2, IW_fr h.2 (MI_every h.1.2.2.1 hx0 ).1 (by decide)⟩
theorem EW_which {s t : gMem} (h : INW s t) {x0 : Int} (hx0 : in32 x0) : (f_X8_which x0 s).1 = (f_X9_which x0 t).1 ∧ INW (f_X8_which x0 s).2 (f_X9_which x0 t).2 := by
  have q := EQ_which h.1 (x0 := x0) hx0
  exact ⟨q.1, q.2, IW_fr h.2 (MI_which h.1.2.2.1 hx0 ).1 (by decide)⟩
theorem EW_stop {s t : gMem} (h : INW s t) {x0 : Int} (hx0 : in32 x0) : (f_X8_stop x0 s).1 = (f_X9_stop x0 t).1 ∧ INW (f_X8_stop x0 s).2 (f_X9_stop x0 t).2 := by
  have q := EQ_stop h.1 (x0 := x0) hx0
  exact ⟨q.1, q.2, IW_fr h.2 (MI_stop h.1.2.2.1 hx0 ).1 (by decide)⟩
theorem EW_dear {s t : gMem} (h : INW s t) {x0 : Int} (hx0 : in32 x0) : (f_X8_dear x0 s).1 = (f_X9_dear x0 t).1 ∧ INW (f_X8_dear x0 s).2 (f_X9_dear x0 t).2 := by
  have q := EQ_dear h.1 (x0 := x0) hx0
  exact ⟨q.1, q.2, IW_fr h.2 (MI_dear h.1.2.2.1 hx0 ).1 (by decide)⟩
theorem EW_likely {s t : gMem} (h : INW s t) {x0 : Int} {x1 : Int} (hx0 : in32 x0) (hx1 : in32 x1) : (f_X8_likely x0 x1 s).1 = (f_X9_likely x0 x1 t).1 ∧ INW (f_X8_likely x0 x1 s).2 (f_X9_likely x0 x1 t).2 := by
  have q := EQ_likely h.1 (x0 := x0) (x1 := x1) hx0 hx1
  exact ⟨q.1, q.2, IW_fr h.2 (MI_likely h.1.2.2.1 hx0 hx1 ).1 (by decide)⟩
theorem EW_push {s t : gMem} (h : INW s t) {x0 : Int} {x1 : Int} (hx0 : in32 x0) (hx1 : in32 x1) : ((f_X8_push x0 x1 s), s).1 = ((f_X9_push x0 x1 t), t).1 ∧ INW ((f_X8_push x0 x1 s), s).2 ((f_X9_push x0 x1 t), t).2 := ⟨EQ_push h.1  x0 x1, h⟩
theorem EW_far {s t : gMem} (h : INW s t) {x0 : Int} (hx0 : in32 x0) : ((f_X8_far x0 s), s).1 = ((f_X9_far x0 t), t).1 ∧ INW ((f_X8_far x0 s), s).2 ((f_X9_far x0 t), t).2 := ⟨EQ_far h.1  x0, h⟩
theorem EW_tip {s t : gMem} (h : INW s t) {x0 : Int} {x1 : Int} (hx0 : in32 x0) (hx1 : in32 x1) : (f_X8_tip x0 x1 s).1 = (f_X9_tip x0 x1 t).1 ∧ INW (f_X8_tip x0 x1 s).2 (f_X9_tip x0 x1 t).2 := by
  have q := EQ_tip h.1 (x0 := x0) (x1 := x1) hx0 hx1
  exact ⟨q.1, q.2, IW_fr h.2 (MI_tip h.1.2.2.1 hx0 hx1 ).1 (by decide)⟩
theorem EW_put {s t : gMem} (h : INW s t) {x0 : Int} {x1 : Int} (hx0 : in32 x0) (hx1 : in32 x1) : (f_X8_put x0 x1 s).1 = (f_X9_put x0 x1 t).1 ∧ INW (f_X8_put x0 x1 s).2 (f_X9_put x0 x1 t).2 := by
  have q := EQ_put h.1 (x0 := x0) (x1 := x1) hx0 hx1
  exact ⟨q.1, q.2, IW_fr h.2 (MI_put h.1.2.2.1 hx0 hx1 ).1 (by decide)⟩
theorem EW_drawn {s t : gMem} (h : INW s t) {x0 : Int} {x1 : Int} {x2 : Int} (hx0 : in32 x0) (hx1 : in32 x1) (hx2 : in32 x2) : (f_X8_drawn x0 x1 x2 s).1 = (f_X9_drawn x0 x1 x2 t).1 ∧ INW (f_X8_drawn x0 x1 x2 s).2 (f_X9_drawn x0 x1 x2 t).2 := by
  have q := EQ_drawn h.1 (x0 := x0) (x1 := x1) (x2 := x2) hx0 hx1 hx2
  exact ⟨q.1, q.2, IW_fr h.2 (MI_drawn h.1.2.2.1 hx0 hx1 hx2 ).1 (by decide)⟩
theorem EW_odds {s t : gMem} (h : INW s t) {x0 : Int} {x1 : Int} {x2 : Int} {x3 : Int} (hx0 : in32 x0) (hx1 : in32 x1) (hx2 : in32 x2) (hx3 : in32 x3) : (f_X8_odds x0 x1 x2 x3 s).1 = (f_X9_odds x0 x1 x2 x3 t).1 ∧ INW (f_X8_odds x0 x1 x2 x3 s).2 (f_X9_odds x0 x1 x2 x3 t).2 := by
  have q := EQ_odds h.1 (x0 := x0) (x1 := x1) (x2 := x2) (x3 := x3) hx0 hx1 hx2 hx3
  exact ⟨q.1, q.2, IW_fr h.2 (MI_odds h.1.2.2.1 hx0 hx1 hx2 hx3 ).1 (by decide)⟩
theorem EW_judge {s t : gMem} (h : INW s t) {x0 : Int} {x1 : Int} {x2 : Int} (hx0 : in32 x0) (hx1 : in32 x1) (hx2 : in32 x2) : ((f_X8_judge x0 x1 x2 s), s).1 = ((f_X9_judge x0 x1 x2 t), t).1 ∧ INW ((f_X8_judge x0 x1 x2 s), s).2 ((f_X9_judge x0 x1 x2 t), t).2 := ⟨EQ_judge h.1  x0 x1 x2, h⟩
theorem EW_origin {s t : gMem} (h : INW s t) {x0 : Int} {x1 : Int} (hx0 : in32 x0) (hx1 : in32 x1) : ((f_X8_origin x0 x1 s), s).1 = ((f_X9_origin x0 x1 t), t).1 ∧ INW ((f_X8_origin x0 x1 s), s).2 ((f_X9_origin x0 x1 t), t).2 := ⟨EQ_origin h.1  x0 x1, h⟩
theorem EW_how {s t : gMem} (h : INW s t) {x0 : Int} {x1 : Int} {x2 : Int} (hx0 : in32 x0) (hx1 : in32 x1) (hx2 : in32 x2) : ((f_X8_how x0 x1 x2 s), s).1 = (f_X9_how x0 x1 x2 t).1 ∧ INW ((f_X8_how x0 x1 x2 s), s).2 (f_X9_how x0 x1 x2 t).2 := by
  have q := EQ_how h.1 (x0 := x0) (x1 := x1) (x2 := x2) hx2
  exact ⟨q.1, q.2, IW_fr h.2 (MI_how h.1.2.2.1 hx0 hx1 hx2 ).1 (by decide)⟩
theorem EW_check {s t : gMem} (h : INW s t) {x0 : Int} (hx0 : in32 x0) : (f_X8_check x0 s).1 = (f_X9_check x0 t).1 ∧ INW (f_X8_check x0 s).2 (f_X9_check x0 t).2 := by
  have q := EQ_check h.1 (x0 := x0) hx0
  exact ⟨q.1, q.2, IW_fr h.2 (MI_check h.1.2.2.1 hx0 ).1 (by decide)⟩
theorem EW_kinds {s t : gMem} (h : INW s t) {x0 : Int} {x1 : Int} {x2 : Int} (hx0 : in32 x0) (hx1 : in32 x1) (hx2 : in32 x2) : (f_X8_kinds x0 x1 x2 s).1 = (f_X9_kinds x0 x1 x2 t).1 ∧ INW (f_X8_kinds x0 x1 x2 s).2 (f_X9_kinds x0 x1 x2 t).2 := by
  have q := EQ_kinds h.1 (x0 := x0) (x1 := x1) (x2 := x2) hx0 hx1 hx2
  exact ⟨q.1, q.2, IW_fr h.2 (MI_kinds h.1.2.2.1 hx0 hx1 hx2 ).1 (by decide)⟩
theorem EW_laws {s t : gMem} (h : INW s t) {x0 : Int} (hx0 : in32 x0) : (f_X8_laws x0 s).1 = (f_X9_laws x0 t).1 ∧ INW (f_X8_laws x0 s).2 (f_X9_laws x0 t).2 := by
  have q := EQ_laws h.1 (x0 := x0) hx0
  exact ⟨q.1, q.2, IW_fr h.2 (MI_laws h.1.2.2.1 hx0 q.2.2.2.1.1.2.1).1 (by decide)⟩
theorem EW_amiss {s t : gMem} (h : INW s t) {x0 : Int} (hx0 : in32 x0) : (f_X8_amiss x0 s).1 = (f_X9_amiss x0 t).1 ∧ INW (f_X8_amiss x0 s).2 (f_X9_amiss x0 t).2 := by
  have q := EQ_amiss h.1 (x0 := x0) hx0
  exact ⟨q.1, q.2, IW_fr h.2 (MI_amiss h.1.2.2.1 hx0 ).1 (by decide)⟩
theorem EW_film {s t : gMem} (h : INW s t) {x0 : Int} {x1 : Int} {x2 : Int} (hx0 : in32 x0) (hx1 : in32 x1) (hx2 : in32 x2) : (f_X8_film x0 x1 x2 s).1 = (f_X9_film x0 x1 x2 t).1 ∧ INW (f_X8_film x0 x1 x2 s).2 (f_X9_film x0 x1 x2 t).2 := by
  have q := EQ_film h.1 (x0 := x0) (x1 := x1) (x2 := x2) hx0 hx1 hx2
  exact ⟨q.1, q.2, IW_fr h.2 (MI_film h.1.2.2.1 hx0 hx1 hx2 ).1 (by decide)⟩
theorem EW_image {s t : gMem} (h : INW s t) : (f_X8_image s).1 = (f_X9_image t).1 ∧ INW (f_X8_image s).2 (f_X9_image t).2 := by
  have q := EQ_image h.1  
  exact ⟨q.1, q.2, IW_fr h.2 (MI_image h.1.2.2.1  q.2.2.2.1.2.2.2.2.2.2.2.2.1).1 (by decide)⟩
theorem EW_back {s t : gMem} (h : INW s t) : (f_X8_back s).1 = (f_X9_back t).1 ∧ INW (f_X8_back s).2 (f_X9_back t).2 := by
  have q := EQ_back h.1  
  exact ⟨q.1, q.2, IW_fr h.2 (MI_back h.1.2.2.1  q.2.2.2.1.1.2.1).1 (by decide)⟩
theorem EW_sheet {s t : gMem} (h : INW s t) {x0 : Int} {x1 : Int} {x2 : Int} (hx0 : in32 x0) (hx1 : in32 x1) (hx2 : in32 x2) : (f_X8_sheet x0 x1 x2 s).1 = (f_X9_sheet x0 x1 x2 t).1 ∧ INW (f_X8_sheet x0 x1 x2 s).2 (f_X9_sheet x0 x1 x2 t).2 := by
  have q := EQ_sheet h.1 (x0 := x0) (x1 := x1) (x2 := x2) hx0 hx1 hx2
  exact ⟨q.1, q.2, IW_fr h.2 (MI_sheet h.1.2.2.1 hx0 hx1 hx2 ).1 (by decide)⟩
theorem EW_cell {s t : gMem} (h : INW s t) {x0 : Int} {x1 : Int} {x2 : Int} (hx0 : in32 x0) (hx1 : in32 x1) (hx2 : in32 x2) : (f_X8_cell x0 x1 x2 s).1 = (f_X9_cell x0 x1 x2 t).1 ∧ INW (f_X8_cell x0 x1 x2 s).2 (f_X9_cell x0 x1 x2 t).2 := by
  have q := EQ_cell h.1 (x0 := x0) (x1 := x1) (x2 := x2) hx0 hx1 hx2
  exact ⟨q.1, q.2, IW_fr h.2 (MI_cell h.1.2.2.1 hx0 hx1 hx2 ).1 (by decide)⟩
theorem EW_copy {s t : gMem} (h : INW s t) {x0 : Int} {x1 : Int} {x2 : Int} {x3 : Int} {x4 : Int} (hx0 : in32 x0) (hx1 : in32 x1) (hx2 : in32 x2) (hx3 : in32 x3) (hx4 : in32 x4) : (f_X8_copy x0 x1 x2 x3 x4 s).1 = (f_X9_copy x0 x1 x2 x3 x4 t).1 ∧ INW (f_X8_copy x0 x1 x2 x3 x4 s).2 (f_X9_copy x0 x1 x2 x3 x4 t).2 := by
  have q := EQ_copy h.1 (x0 := x0) (x1 := x1) (x2 := x2) (x3 := x3) (x4 := x4) hx0 hx1 hx2 hx3 hx4
  exact ⟨q.1, q.2, IW_fr h.2 (MI_copy h.1.2.2.1 hx0 hx1 hx2 hx3 hx4 ).1 (by decide)⟩
theorem EW_layBy {s t : gMem} (h : INW s t) {x0 : Int} {x1 : Int} {x2 : Int} {x3 : Int} (hx0 : in32 x0) (hx1 : in32 x1) (hx2 : in32 x2) (hx3 : in32 x3) : (f_X8_layBy x0 x1 x2 x3 s).1 = (f_X9_layBy x0 x1 x2 x3 t).1 ∧ INW (f_X8_layBy x0 x1 x2 x3 s).2 (f_X9_layBy x0 x1 x2 x3 t).2 := by
  have q := EQ_layBy h.1 (x0 := x0) (x1 := x1) (x2 := x2) (x3 := x3) hx2
  exact ⟨q.1, q.2, IW_fr h.2 (MI_layBy h.1.2.2.1 hx0 hx1 hx2 hx3 ).1 (by decide)⟩
theorem EW_taken {s t : gMem} (h : INW s t) {x0 : Int} {x1 : Int} (hx0 : in32 x0) (hx1 : in32 x1) : ((f_X8_taken x0 x1 s), s).1 = ((f_X9_taken x0 x1 t), t).1 ∧ INW ((f_X8_taken x0 x1 s), s).2 ((f_X9_taken x0 x1 t), t).2 := ⟨EQ_taken h.1  x0 x1, h⟩
section NL
variable {D : va_G} {tys : List (ClassId × FieldType)} {A : Nat → Prop} {p : Program} {l : Launch} {e : Env} {R : Room} {s : State} {m : MethodId} {args : Array Value} {below : List Frame} {meth : Method} {c : Code} {nL : Nat} {QQ : State → Prop} {ws ws' : va_W} {ce sl pc : Nat} {lv lv' : List (Nat × Value)} {st : List Value} {cc : ByteArray} {own : String} {rt0 : Option FieldType} {nm : String}
theorem n_astore (E : nE D tys A p s m args meth c cc nL own rt0 nm) {i : Nat} {f : Fin 4} {z : Nat} (d : decode cc pc = .ok (.astore_n f, 1)) (hf : (f : Nat) = i) (hn : i < nL) (hlv : (i, (.ref z : Value)) :: lv.filter (fun q => !(q.1 == i) && !(q.1 + 1 == i && q.2.category == 2)) = lv') (k : nK D A p l e R s m args below meth c nL QQ ws (ce) (sl) (pc + 1) lv' (st)) : nK D A p l e R s m args below meth c nL QQ ws (ce) (sl) (pc) lv (.ref z :: st) := fun H locs ls hP hD hS hl => lv_astore_n E.1 E.2.1 d hf hl hn hlv (fun ls hl => k H locs ls hP hD hS hl)
theorem n_iadd (E : nE D tys A p s m args meth c cc nL own rt0 nm) {x y : Int} (d : decode cc pc = .ok (.iadd, 1)) (k : nK D A p l e R s m args below meth c nL QQ ws (ce) (sl) (pc + 1) lv (gI (x + y) :: st)) : nK D A p l e R s m args below meth c nL QQ ws (ce) (sl) (pc) lv (gI y :: gI x :: st) := by
  intro H locs ls hP hD hS hl
  have e9 : Int32.ofInt (x + y) = Int32.ofInt x + Int32.ofInt y := Int32.ofInt_add x y
  refine lv_iadd E.1 E.2.1 d ?_
  rw [← e9]
  exact k H locs ls hP hD hS hl
theorem n_isub (E : nE D tys A p s m args meth c cc nL own rt0 nm) {x y : Int} (d : decode cc pc = .ok (.isub, 1)) (k : nK D A p l e R s m args below meth c nL QQ ws (ce) (sl) (pc + 1) lv (gI (x - y) :: st)) : nK D A p l e R s m args below meth c nL QQ ws (ce) (sl) (pc) lv (gI y :: gI x :: st) := by
  intro H locs ls hP hD hS hl
  have e9 : Int32.ofInt (x - y) = Int32.ofInt x - Int32.ofInt y := Int32.ofInt_sub x y
  refine lv_isub E.1 E.2.1 d ?_
  rw [← e9]
  exact k H locs ls hP hD hS hl
theorem n_iand (E : nE D tys A p s m args meth c cc nL own rt0 nm) {x y : Int} (d : decode cc pc = .ok (.iand, 1)) (k : nK D A p l e R s m args below meth c nL QQ ws (ce) (sl) (pc + 1) lv (gI (iand x y) :: st)) : nK D A p l e R s m args below meth c nL QQ ws (ce) (sl) (pc) lv (gI y :: gI x :: st) := by
  intro H locs ls hP hD hS hl
  refine lv_iand E.1 E.2.1 d ?_
  have e9 : Int32.ofInt (iand x y) = Int32.ofInt x &&& Int32.ofInt y := Int32.ofInt_toInt _
  rw [← e9]
  exact k H locs ls hP hD hS hl
theorem n_tabIn (E : nE D tys A p s m args meth c cc nL own rt0 nm) {x : Int} {dflt lo hi : Int} {offs : Array Int} {len : Nat} {off : Int} {tgt : Nat} (d : decode cc pc = .ok (.tableswitch dflt lo hi offs, len)) (hx : in32 x) (h1 : lo ≤ x) (h2 : x ≤ hi) (ho : offs[(x - lo).toNat]? = some off) (ht : (pc : Int) + off = (tgt : Int)) (k : nK D A p l e R s m args below meth c nL QQ ws (ce) (sl) (tgt) lv (st)) : nK D A p l e R s m args below meth c nL QQ ws (ce) (sl) (pc) lv (gI x :: st) := by
  intro H locs ls hP hD hS hl
  have e : (Int32.ofInt x).toInt = x := Int32.toInt_ofInt_of_le hx.1 hx.2
  exact lv_tableIn E.1 E.2.1 d (by rw [e]; omega) (by rw [e]; omega) (by rw [e]; exact ho) ht (k H locs ls hP hD hS hl)
theorem n_tabOut (E : nE D tys A p s m args meth c cc nL own rt0 nm) {x : Int} {dflt lo hi : Int} {offs : Array Int} {len : Nat} {tgt : Nat} (d : decode cc pc = .ok (.tableswitch dflt lo hi offs, len)) (hx : in32 x) (h : x < lo ∨ hi < x) (ht : (pc : Int) + dflt = (tgt : Int)) (k : nK D A p l e R s m args below meth c nL QQ ws (ce) (sl) (tgt) lv (st)) : nK D A p l e R s m args below meth c nL QQ ws (ce) (sl) (pc) lv (gI x :: st) := by
  intro H locs ls hP hD hS hl
  have e : (Int32.ofInt x).toInt = x := Int32.toInt_ofInt_of_le hx.1 hx.2
  exact lv_tableOut E.1 E.2.1 d (by rw [e]; exact h) ht (k H locs ls hP hD hS hl)
theorem n_eq_t (E : nE D tys A p s m args meth c cc nL own rt0 nm) {x y : Int} {off : Int} {tgt : Nat} (d : decode cc pc = .ok (.if_icmp .eq off, 3)) (ht : (pc : Int) + off = (tgt : Int)) (h : x = y) (k : nK D A p l e R s m args below meth c nL QQ ws (ce) (sl) (tgt) lv (st)) : nK D A p l e R s m args below meth c nL QQ ws (ce) (sl) (pc) lv (gI y :: gI x :: st) := fun H locs ls hP hD hS hl => lv_icmp_eq E.1 E.2.1 d ht (fun _ => k H locs ls hP hD hS hl) (fun q => absurd (congrArg Int32.ofInt h) q)
theorem n_lcmp (E : nE D tys A p s m args meth c cc nL own rt0 nm) {x y : Int} (d : decode cc pc = .ok (.lcmp, 1)) (h : x = y) (k : nK D A p l e R s m args below meth c nL QQ ws (ce) (sl) (pc + 1) lv (gI 0 :: st)) : nK D A p l e R s m args below meth c nL QQ ws (ce) (sl) (pc) lv (gL y :: gL x :: st) := by
  subst h
  intro H locs ls hP hD hS hl
  refine W.lcmp E.1 E.2.1 d ?_
  have e9 : lg_cmp (Int64.ofInt x) (Int64.ofInt x) = Int32.ofInt 0 := by
    unfold lg_cmp
    rw [if_neg Int64.lt_irrefl, if_pos rfl]
    rfl
  rw [e9]
  exact k H locs ls hP hD hS hl
theorem n_if0 (E : nE D tys A p s m args meth c cc nL own rt0 nm) {off : Int} {tgt : Nat} (d : decode cc pc = .ok (.ifCond .eq off, 3)) (ht : (pc : Int) + off = (tgt : Int)) (k : nK D A p l e R s m args below meth c nL QQ ws (ce) (sl) (tgt) lv (st)) : nK D A p l e R s m args below meth c nL QQ ws (ce) (sl) (pc) lv (gI 0 :: st) := fun H locs ls hP hD hS hl => lv_if_eq E.1 E.2.1 d ht (fun _ => k H locs ls hP hD hS hl) (fun q => absurd rfl q)
theorem n_slen (E : nE D tys A p s m args meth c cc nL own rt0 nm) {b L : Nat} {xs : Nat → Int32} (hX : va_X b L xs s s.heap) (hbl : b < s.heap.size) (hbA : ¬ A b) (d : decode cc pc = .ok (.arraylength, 1)) (k : nK D A p l e R s m args below meth c nL QQ ws (ce) (sl) (pc + 1) lv (gI (L : Int) :: st)) : nK D A p l e R s m args below meth c nL QQ ws (ce) (sl) (pc) lv (.ref b :: st) := fun H locs ls hP hD hS hl => va_slen E.1 E.2.1 hX hbl hbA hS d (k H locs ls hP hD hS hl)
theorem n_sld (E : nE D tys A p s m args meth c cc nL own rt0 nm) {b L : Nat} {xs : Nat → Int32} (hX : va_X b L xs s s.heap) (hbl : b < s.heap.size) (hbA : ¬ A b) (hL : L ≤ 3584) {j : Nat} {z : Int} (hz : z = (j : Int)) (hj : j < L) (d : decode cc pc = .ok (.iaload, 1)) (k : nK D A p l e R s m args below meth c nL QQ ws (ce) (sl) (pc + 1) lv (gI (xs j).toInt :: st)) : nK D A p l e R s m args below meth c nL QQ ws (ce) (sl) (pc) lv (gI z :: .ref b :: st) := by
  subst hz
  intro H locs ls hP hD hS hl
  have h9 := i_cl (x := (j : Int)) (by omega) (by omega)
  have e9 : (Int32.ofInt (j : Int)).toNatClampNeg = j := by omega
  refine va_sld E.1 E.2.1 hX hbl hbA hS (i_in (by omega) (by omega) (by omega)) d ?_
  rw [e9, ← i_of (xs j)]
  exact k H locs ls hP hD hS hl
theorem n_arg (E : nE D tys A p s m args meth c cc nL own rt0 nm) {b L : Nat} {xs : Nat → Int32} (hX : va_X b L xs s s.heap) (hbl : b < s.heap.size) (hbA : ¬ A b) (hL : L ≤ 3584) {i : Nat} (k0 : Nat) (h3 : lv[0]? = some (3, gI (i : Int))) (h0 : lv[3]? = some (0, .ref b)) (hk : i + k0 < L) (d0 : decode cc pc = .ok (.aload_n 0, 1)) (d1 : decode cc (pc + 1) = .ok (.iload_n 3, 1)) (d2 : decode cc (pc + 2) = .ok (.iconst (k0 : Int), 1)) (d3 : decode cc (pc + 3) = .ok (.iadd, 1)) (d4 : decode cc (pc + 4) = .ok (.iaload, 1)) (k : nK D A p l e R s m args below meth c nL QQ ws (ce) (sl) (pc + 5) lv (gI (xs (i + k0)).toInt :: st)) : nK D A p l e R s m args below meth c nL QQ ws (ce) (sl) (pc) lv (st) :=
  n_aload E 3 d0 rfl h0 (n_iload (pc := pc + 1) E 0 d1 rfl h3 (n_iconst (pc := pc + 2) E d2 (n_iadd (pc := pc + 3) E d3 (n_sld (pc := pc + 4) E hX hbl hbA hL (j := i + k0) (by omega) hk d4 k))))
theorem n_arg6 (E : nE D tys A p s m args meth c cc nL own rt0 nm) {b L : Nat} {xs : Nat → Int32} (hX : va_X b L xs s s.heap) (hbl : b < s.heap.size) (hbA : ¬ A b) (hL : L ≤ 3584) {i : Nat} (h3 : lv[0]? = some (3, gI (i : Int))) (h0 : lv[3]? = some (0, .ref b)) (hk : i + 6 < L) (d0 : decode cc pc = .ok (.aload_n 0, 1)) (d1 : decode cc (pc + 1) = .ok (.iload_n 3, 1)) (d2 : decode cc (pc + 2) = .ok (.bipush 6, 2)) (d3 : decode cc (pc + 4) = .ok (.iadd, 1)) (d4 : decode cc (pc + 5) = .ok (.iaload, 1)) (k : nK D A p l e R s m args below meth c nL QQ ws (ce) (sl) (pc + 6) lv (gI (xs (i + 6)).toInt :: st)) : nK D A p l e R s m args below meth c nL QQ ws (ce) (sl) (pc) lv (st) :=
  n_aload E 3 d0 rfl h0 (n_iload (pc := pc + 1) E 0 d1 rfl h3 (n_bipush (pc := pc + 2) E d2 (by decide) (n_iadd (pc := pc + 4) E d3 (n_sld (pc := pc + 5) E hX hbl hbA hL (j := i + 6) (by omega) hk d4 k))))
end NL
def lqA : List Nat := [0, 1, 2, 3, 4, 5, 6, 7, 8, 9, 10, 11, 12, 13, 14, 15, 16, 17, 18, 19, 20, 21, 22, 23, 24, 25, 26, 27, 28, 29, 30, 31, 32, 33, 34, 35, 36, 37, 38, 39, 40, 41, 42, 43, 44, 45, 46]
def lqB : List Nat := [47, 48, 49, 50, 51, 52, 53, 54, 55, 56, 57, 58, 59, 60, 61, 62, 63, 64, 65, 66]
def lqC : List Nat := [0, 1, 2, 3, 4, 5, 6, 7, 8, 9, 10, 11, 12, 13, 14, 15, 16, 17, 18, 19]
def lqD : List Nat := [20, 21, 22, 23, 24, 25, 26, 27, 28, 29, 30, 31, 32, 33, 34, 35, 36, 37, 38, 39, 40, 41, 42, 43, 44, 45, 46, 47, 48, 49, 50, 51, 52, 53, 54, 55, 56, 57, 58, 59, 60, 61, 62, 63, 64, 65, 66]
theorem lqAn : va_nd lqA = true := by decide +kernel
theorem lqBn : va_nd lqB = true := by decide +kernel
theorem lqCn : va_nd lqC = true := by decide +kernel
theorem lqDn : va_nd lqD = true := by decide +kernel
theorem lqAB : ∀ i ∈ lqB, i ∉ lqA := by decide +kernel
theorem lqCD : ∀ i ∈ lqD, i ∉ lqC := by decide +kernel
theorem lqA_ (a b : Nat → Nat) (cI cJ cS cT : ClassId) (s t : gMem) : lqA.map (fun i => (wdX a cI cJ cS cT s ++ wdM b cI cJ t)[i]?) = (wdX a cI cJ cS cT s).map some := rfl
theorem lqB_ (a b : Nat → Nat) (cI cJ cS cT : ClassId) (s t : gMem) : lqB.map (fun i => (wdX a cI cJ cS cT s ++ wdM b cI cJ t)[i]?) = (wdM b cI cJ t).map some := rfl
theorem lqC_ (a b : Nat → Nat) (cI cJ cS cT : ClassId) (s t : gMem) : lqC.map (fun i => (wdM b cI cJ t ++ wdX a cI cJ cS cT s)[i]?) = (wdM b cI cJ t).map some := rfl
theorem lqD_ (a b : Nat → Nat) (cI cJ cS cT : ClassId) (s t : gMem) : lqD.map (fun i => (wdM b cI cJ t ++ wdX a cI cJ cS cT s)[i]?) = (wdX a cI cJ cS cT s).map some := rfl
abbrev lqV (i : Nat) (a b : Nat → Nat) (bs : Nat) : List (Nat × Value) := [(3, gI (i : Int)), (1, .ref (a 0)), (2, .ref (b 0)), (0, .ref bs)]
end
