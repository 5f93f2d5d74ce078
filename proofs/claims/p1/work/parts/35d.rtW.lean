section RTW
set_option maxRecDepth 100000
theorem rt_s3 : rb_end (rb_adv (rb_get 9 rt_P) 28525 rt_D3) rt_D4 = true := by decide +kernel
end RTW
