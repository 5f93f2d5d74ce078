section RTW
set_option maxRecDepth 100000
theorem rt_s1 : rb_end (rb_adv (rb_get 9 rt_P) 31000 rt_D1) rt_D2 = true := by decide +kernel
end RTW
