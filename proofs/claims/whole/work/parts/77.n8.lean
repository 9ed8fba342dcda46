section
set_option maxRecDepth 1000000 in
theorem TF_v : TFv (f_X9_text tm0).2 := by
  unfold TFv
  decide +kernel
end
