section RTU
set_option maxRecDepth 100000
theorem rt_wdS : rt_wd "SqlStoreModel$Stop" (rt_at9 "SqlStoreModel$Stop" rt_nms) := rt_wd_of (by decide +kernel)
theorem rt_stop : ra_mkok rt_Zf rt_68 (10, 18, "SqlStoreModel$Stop", 7, 90) := by
  intro ci hci p l e R s m args below meth c H locs cells slots Q ls rest D A tys wS ws x hexec hb hl hown hts hZ hK hP hD hV hW hA hsz hfr hlo hc hs k
  dsimp only at hci hfr hlo
  obtain rfl : ci = 17 := by omega
  have hown' : s.vm.findClass "SqlStoreModel" = some m.cls := hown
  have hn := hW.2.2.2.2.2.2.1 ("SqlStoreModel", 404, ⟨"SqlStoreModel$Stop", "<init>", "()V"⟩, "SqlStoreModel") (List.mem_of_getElem? (i := 10) rfl)
  exact rt_makeNest (cc := ra_Mc rt_68) (own := "SqlStoreModel") (cls := "SqlStoreModel$Stop") (names := rt_nms) (ik := 402) (ic := 404) (host := "SqlStoreModel") (A := A) hexec hb hl hown' (by decide +kernel) rt_fit (re_hts (re_of re_t17 47 rfl rfl) hts) (re_hts (re_of re_t1 34 rfl rfl) hts) (rt_wd_use rt_wdS hts (hW.2.2.2.2.2.2.2.1 ("SqlStoreModel$Stop", "SqlStoreModel$Stop") (by simp [ra_yes])) hZ.2.2) (va_Nw.use rfl hn) (rt_wd_good rt_wdS (re_of re_t17 47 rfl rfl) (re_of re_t1 34 rfl rfl)) hZ.1 hZ.2.1 hV hsz (by decide +kernel) (by decide +kernel) (by decide +kernel) hK hP hD hA rfl (by show 2 + 3 < R.frames; omega) (by show _ + (13 * (2 + 1) + 42) ≤ R.locals; omega) hc hs k
theorem rt_good9 : ∀ n, ra_Good rt_cd rt_Ps rt_Zf n := rt_good_all rt_stop
end RTU
