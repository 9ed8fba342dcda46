section
set_option maxRecDepth 1000000 in
theorem TF_v : TFv := by
  unfold TFv TF
  decide +kernel
end
