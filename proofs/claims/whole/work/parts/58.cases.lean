/-! the law's cases, by program (wip/whole/gen/law.py) -/
abbrev lvI (b : Nat) (ad1 ad2 : Nat → Nat) (i : Int) : List (Nat × Value) := [(3, .int (Int32.ofInt i)), (0, .ref b), (1, .ref (ad1 0)), (2, .ref (ad2 0))]
theorem lvI_a {b : Nat} {ad1 ad2 : Nat → Nat} {i : Int} : (3, Value.int (Int32.ofInt i)) ∈ lvI b ad1 ad2 i ∧ (0, Value.ref b) ∈ lvI b ad1 ad2 i := ⟨List.mem_of_getElem? (i := 0) rfl, List.mem_of_getElem? (i := 1) rfl⟩
theorem lvI_1 {b : Nat} {ad1 ad2 : Nat → Nat} {i : Int} : (1, Value.ref (ad1 0)) ∈ lvI b ad1 ad2 i := List.mem_of_getElem? (i := 2) rfl
theorem lvI_2 {b : Nat} {ad1 ad2 : Nat → Nat} {i : Int} : (2, Value.ref (ad2 0)) ∈ lvI b ad1 ad2 i := List.mem_of_getElem? (i := 3) rfl
theorem ok_no : ∀ v ∈ ([] : List MV), mok v := fun _ h => absurd h List.not_mem_nil
/-- the long that the law makes of two ints -/
def tyw (x y : Int) : Int := ((Int32.ofInt x).toInt64 <<< ((Int32.ofInt 32).toInt64 &&& 63) ||| ((Int32.ofInt y).toInt64 &&& 4294967295)).toInt
theorem tyw_ok (x y : Int) : R64 (tyw x y) := r64_of _
theorem lk_long : Cond.constantLong R_law 40 4294967295 ∈ TBL := tb_in 1077 (by decide +kernel) rfl
theorem lcv_X8_coat : mcv M_X8_coat 3 := ⟨tb_in 292 (by decide +kernel) rfl, tb_in 37 (by decide +kernel) rfl, tb_in 290 (by decide +kernel) rfl, tb_in 291 (by decide +kernel) rfl, ⟨by decide, by decide, by decide +kernel⟩⟩
theorem llk_X8_coat : Cond.methodLink R_law 13 yX8_coat ∈ TBL := tb_in 289 (by decide +kernel) rfl
theorem lcv_X9_coat : mcv M_X9_coat 3 := ⟨tb_in 818 (by decide +kernel) rfl, tb_in 46 (by decide +kernel) rfl, tb_in 816 (by decide +kernel) rfl, tb_in 817 (by decide +kernel) rfl, ⟨by decide, by decide, by decide +kernel⟩⟩
theorem llk_X9_coat : Cond.methodLink R_law 17 yX9_coat ∈ TBL := tb_in 815 (by decide +kernel) rfl
theorem lc_coat {b L : Nat} {xs : Nat → Int32} {D : va_G} {cI cZ : ClassId} {ad1 ad2 : Nat → Nat} {i : Int} {σ τ : Mem} (hi : 0 ≤ i ∧ i + 6 ≤ L) (hL : L ≤ 3072) (hR : RR σ τ) (hσ : mokm σ) (hτ : mokm τ) (next : ∀ σ' τ', RR σ' τ' → mokm σ' → mokm τ' → LWP b L xs D cI cZ 1205 (lvI b ad1 ad2 i) [] 73 2430 (mws cI cZ ad1 GC σ' ++ mws cI cZ ad2 GM τ')) : LWP b L xs D cI cZ 172 (lvI b ad1 ad2 i) [] 73 2430 (mws cI cZ ad1 GC σ ++ mws cI cZ ad2 GM τ) := by
  have hs : SIM M_X8_coat M_X9_coat [mr 0, mi (sx xs (i + 1)), mi (sx xs (i + 2)), mi (sx xs (i + 3))] σ τ RR := sim_coat hR
  obtain ⟨r, PC, PM, hC, hM, hS⟩ := hs
  refine LWP.aload_n dL_law_172 rfl lvI_1 ?_
  refine LWP.arg lvI_a dL_law_173 dL_law_174 dL_law_175 dL_law_176 dL_law_177 (by decide) hi hL ?_
  refine LWP.arg lvI_a dL_law_178 dL_law_179 dL_law_180 dL_law_181 dL_law_182 (by decide) hi hL ?_
  refine LWP.arg lvI_a dL_law_183 dL_law_184 dL_law_185 dL_law_186 dL_law_187 (by decide) hi hL ?_
  refine LWP.call (S := []) (ad := ad1) (wr := mws cI cZ ad2 GM τ) M_X8_coat [mi (sx xs (i + 1)), mi (sx xs (i + 2)), mi (sx xs (i + 3))] lcv_X8_coat dL_law_188 llk_X8_coat g0 rfl ⟨by decide, by decide⟩ rfl (ok_cons (sx_ok xs _) (ok_cons (sx_ok xs _) (ok_cons (sx_ok xs _) ok_no))) hσ hC (by decide) rfl (fun r1 σ1 hσ1 hq1 => ?_)
  obtain ⟨rfl, hq1⟩ := hq1
  refine LWP.aload_n dL_law_191 rfl lvI_2 ?_
  refine LWP.arg lvI_a dL_law_192 dL_law_193 dL_law_194 dL_law_195 dL_law_196 (by decide) hi hL ?_
  refine LWP.arg lvI_a dL_law_197 dL_law_198 dL_law_199 dL_law_200 dL_law_201 (by decide) hi hL ?_
  refine LWP.arg lvI_a dL_law_202 dL_law_203 dL_law_204 dL_law_205 dL_law_206 (by decide) hi hL ?_
  refine LWP.call (S := [.int (Int32.ofInt r1)]) (ad := ad2) (wr := mws cI cZ ad1 GC σ1) M_X9_coat [mi (sx xs (i + 1)), mi (sx xs (i + 2)), mi (sx xs (i + 3))] lcv_X9_coat dL_law_207 llk_X9_coat k0 rfl ⟨by decide, by decide⟩ rfl (ok_cons (sx_ok xs _) (ok_cons (sx_ok xs _) (ok_cons (sx_ok xs _) ok_no))) hτ hM (Nat.le_of_ble_eq_true rfl) rfl (fun r2 τ1 hτ1 hq2 => ?_)
  obtain ⟨rfl, hq2⟩ := hq2
  refine LWP.icmp_same (tgt := 1205) dL_law_210 (by decide) ?_
  exact next σ1 τ1 (hS σ1 τ1 hσ1 hτ1 hq1 hq2) hσ1 hτ1
theorem lcv_X8_thing : mcv M_X8_thing 2 := ⟨tb_in 320 (by decide +kernel) rfl, tb_in 37 (by decide +kernel) rfl, tb_in 318 (by decide +kernel) rfl, tb_in 319 (by decide +kernel) rfl, ⟨by decide, by decide, by decide +kernel⟩⟩
theorem llk_X8_thing : Cond.methodLink R_law 18 yX8_thing ∈ TBL := tb_in 317 (by decide +kernel) rfl
theorem lcv_X9_thing : mcv M_X9_thing 2 := ⟨tb_in 830 (by decide +kernel) rfl, tb_in 46 (by decide +kernel) rfl, tb_in 828 (by decide +kernel) rfl, tb_in 829 (by decide +kernel) rfl, ⟨by decide, by decide, by decide +kernel⟩⟩
theorem llk_X9_thing : Cond.methodLink R_law 22 yX9_thing ∈ TBL := tb_in 827 (by decide +kernel) rfl
theorem lc_thing {b L : Nat} {xs : Nat → Int32} {D : va_G} {cI cZ : ClassId} {ad1 ad2 : Nat → Nat} {i : Int} {σ τ : Mem} (hi : 0 ≤ i ∧ i + 6 ≤ L) (hL : L ≤ 3072) (hR : RR σ τ) (hσ : mokm σ) (hτ : mokm τ) (next : ∀ σ' τ', RR σ' τ' → mokm σ' → mokm τ' → LWP b L xs D cI cZ 1205 (lvI b ad1 ad2 i) [] 73 2430 (mws cI cZ ad1 GC σ' ++ mws cI cZ ad2 GM τ')) : LWP b L xs D cI cZ 215 (lvI b ad1 ad2 i) [] 73 2430 (mws cI cZ ad1 GC σ ++ mws cI cZ ad2 GM τ) := by
  have hs : SIM M_X8_thing M_X9_thing [mr 0, mi (sx xs (i + 1)), mi (sx xs (i + 2))] σ τ RR := sim_thing hR
  obtain ⟨r, PC, PM, hC, hM, hS⟩ := hs
  refine LWP.aload_n dL_law_215 rfl lvI_1 ?_
  refine LWP.arg lvI_a dL_law_216 dL_law_217 dL_law_218 dL_law_219 dL_law_220 (by decide) hi hL ?_
  refine LWP.arg lvI_a dL_law_221 dL_law_222 dL_law_223 dL_law_224 dL_law_225 (by decide) hi hL ?_
  refine LWP.call (S := []) (ad := ad1) (wr := mws cI cZ ad2 GM τ) M_X8_thing [mi (sx xs (i + 1)), mi (sx xs (i + 2))] lcv_X8_thing dL_law_226 llk_X8_thing g0 rfl ⟨by decide, by decide⟩ rfl (ok_cons (sx_ok xs _) (ok_cons (sx_ok xs _) ok_no)) hσ hC (by decide) rfl (fun r1 σ1 hσ1 hq1 => ?_)
  obtain ⟨rfl, hq1⟩ := hq1
  refine LWP.aload_n dL_law_229 rfl lvI_2 ?_
  refine LWP.arg lvI_a dL_law_230 dL_law_231 dL_law_232 dL_law_233 dL_law_234 (by decide) hi hL ?_
  refine LWP.arg lvI_a dL_law_235 dL_law_236 dL_law_237 dL_law_238 dL_law_239 (by decide) hi hL ?_
  refine LWP.call (S := [.int (Int32.ofInt r1)]) (ad := ad2) (wr := mws cI cZ ad1 GC σ1) M_X9_thing [mi (sx xs (i + 1)), mi (sx xs (i + 2))] lcv_X9_thing dL_law_240 llk_X9_thing k0 rfl ⟨by decide, by decide⟩ rfl (ok_cons (sx_ok xs _) (ok_cons (sx_ok xs _) ok_no)) hτ hM (Nat.le_of_ble_eq_true rfl) rfl (fun r2 τ1 hτ1 hq2 => ?_)
  obtain ⟨rfl, hq2⟩ := hq2
  refine LWP.icmp_same (tgt := 1205) dL_law_243 (by decide) ?_
  exact next σ1 τ1 (hS σ1 τ1 hσ1 hτ1 hq1 hq2) hσ1 hτ1
theorem lcv_X8_where : mcv M_X8_where 1 := ⟨tb_in 328 (by decide +kernel) rfl, tb_in 37 (by decide +kernel) rfl, tb_in 326 (by decide +kernel) rfl, tb_in 327 (by decide +kernel) rfl, ⟨by decide, by decide, by decide +kernel⟩⟩
theorem llk_X8_where : Cond.methodLink R_law 23 yX8_where ∈ TBL := tb_in 325 (by decide +kernel) rfl
theorem lcv_X9_where : mcv M_X9_where 1 := ⟨tb_in 838 (by decide +kernel) rfl, tb_in 46 (by decide +kernel) rfl, tb_in 836 (by decide +kernel) rfl, tb_in 837 (by decide +kernel) rfl, ⟨by decide, by decide, by decide +kernel⟩⟩
theorem llk_X9_where : Cond.methodLink R_law 27 yX9_where ∈ TBL := tb_in 835 (by decide +kernel) rfl
theorem lc_where {b L : Nat} {xs : Nat → Int32} {D : va_G} {cI cZ : ClassId} {ad1 ad2 : Nat → Nat} {i : Int} {σ τ : Mem} (hi : 0 ≤ i ∧ i + 6 ≤ L) (hL : L ≤ 3072) (hR : RR σ τ) (hσ : mokm σ) (hτ : mokm τ) (next : ∀ σ' τ', RR σ' τ' → mokm σ' → mokm τ' → LWP b L xs D cI cZ 1205 (lvI b ad1 ad2 i) [] 73 2430 (mws cI cZ ad1 GC σ' ++ mws cI cZ ad2 GM τ')) : LWP b L xs D cI cZ 248 (lvI b ad1 ad2 i) [] 73 2430 (mws cI cZ ad1 GC σ ++ mws cI cZ ad2 GM τ) := by
  have hs : SIM M_X8_where M_X9_where [mr 0, mi (sx xs (i + 1))] σ τ RR := sim_where hR
  obtain ⟨r, PC, PM, hC, hM, hS⟩ := hs
  refine LWP.aload_n dL_law_248 rfl lvI_1 ?_
  refine LWP.arg lvI_a dL_law_249 dL_law_250 dL_law_251 dL_law_252 dL_law_253 (by decide) hi hL ?_
  refine LWP.call (S := []) (ad := ad1) (wr := mws cI cZ ad2 GM τ) M_X8_where [mi (sx xs (i + 1))] lcv_X8_where dL_law_254 llk_X8_where g0 rfl ⟨by decide, by decide⟩ rfl (ok_cons (sx_ok xs _) ok_no) hσ hC (by decide) rfl (fun r1 σ1 hσ1 hq1 => ?_)
  obtain ⟨rfl, hq1⟩ := hq1
  refine LWP.aload_n dL_law_257 rfl lvI_2 ?_
  refine LWP.arg lvI_a dL_law_258 dL_law_259 dL_law_260 dL_law_261 dL_law_262 (by decide) hi hL ?_
  refine LWP.call (S := [.int (Int32.ofInt r1)]) (ad := ad2) (wr := mws cI cZ ad1 GC σ1) M_X9_where [mi (sx xs (i + 1))] lcv_X9_where dL_law_263 llk_X9_where k0 rfl ⟨by decide, by decide⟩ rfl (ok_cons (sx_ok xs _) ok_no) hτ hM (Nat.le_of_ble_eq_true rfl) rfl (fun r2 τ1 hτ1 hq2 => ?_)
  obtain ⟨rfl, hq2⟩ := hq2
  refine LWP.icmp_same (tgt := 1205) dL_law_266 (by decide) ?_
  exact next σ1 τ1 (hS σ1 τ1 hσ1 hτ1 hq1 hq2) hσ1 hτ1
theorem lcv_X8_told : mcv M_X8_told 2 := ⟨tb_in 337 (by decide +kernel) rfl, tb_in 37 (by decide +kernel) rfl, tb_in 335 (by decide +kernel) rfl, tb_in 336 (by decide +kernel) rfl, ⟨by decide, by decide, by decide +kernel⟩⟩
theorem llk_X8_told : Cond.methodLink R_law 28 yX8_told ∈ TBL := tb_in 334 (by decide +kernel) rfl
theorem lcv_X9_told : mcv M_X9_told 2 := ⟨tb_in 846 (by decide +kernel) rfl, tb_in 46 (by decide +kernel) rfl, tb_in 844 (by decide +kernel) rfl, tb_in 845 (by decide +kernel) rfl, ⟨by decide, by decide, by decide +kernel⟩⟩
theorem llk_X9_told : Cond.methodLink R_law 31 yX9_told ∈ TBL := tb_in 843 (by decide +kernel) rfl
theorem lc_told {b L : Nat} {xs : Nat → Int32} {D : va_G} {cI cZ : ClassId} {ad1 ad2 : Nat → Nat} {i : Int} {σ τ : Mem} (hi : 0 ≤ i ∧ i + 6 ≤ L) (hL : L ≤ 3072) (hR : RR σ τ) (hσ : mokm σ) (hτ : mokm τ) (next : ∀ σ' τ', RR σ' τ' → mokm σ' → mokm τ' → LWP b L xs D cI cZ 1205 (lvI b ad1 ad2 i) [] 73 2430 (mws cI cZ ad1 GC σ' ++ mws cI cZ ad2 GM τ')) : LWP b L xs D cI cZ 271 (lvI b ad1 ad2 i) [] 73 2430 (mws cI cZ ad1 GC σ ++ mws cI cZ ad2 GM τ) := by
  have hs : SIM M_X8_told M_X9_told [mr 0, mi (sx xs (i + 1)), mi (sx xs (i + 2))] σ τ RR := sim_told hR
  obtain ⟨r, PC, PM, hC, hM, hS⟩ := hs
  refine LWP.aload_n dL_law_271 rfl lvI_1 ?_
  refine LWP.arg lvI_a dL_law_272 dL_law_273 dL_law_274 dL_law_275 dL_law_276 (by decide) hi hL ?_
  refine LWP.arg lvI_a dL_law_277 dL_law_278 dL_law_279 dL_law_280 dL_law_281 (by decide) hi hL ?_
  refine LWP.call (S := []) (ad := ad1) (wr := mws cI cZ ad2 GM τ) M_X8_told [mi (sx xs (i + 1)), mi (sx xs (i + 2))] lcv_X8_told dL_law_282 llk_X8_told g0 rfl ⟨by decide, by decide⟩ rfl (ok_cons (sx_ok xs _) (ok_cons (sx_ok xs _) ok_no)) hσ hC (by decide) rfl (fun r1 σ1 hσ1 hq1 => ?_)
  obtain ⟨rfl, hq1⟩ := hq1
  refine LWP.aload_n dL_law_285 rfl lvI_2 ?_
  refine LWP.arg lvI_a dL_law_286 dL_law_287 dL_law_288 dL_law_289 dL_law_290 (by decide) hi hL ?_
  refine LWP.arg lvI_a dL_law_291 dL_law_292 dL_law_293 dL_law_294 dL_law_295 (by decide) hi hL ?_
  refine LWP.call (S := [.int (Int32.ofInt r1)]) (ad := ad2) (wr := mws cI cZ ad1 GC σ1) M_X9_told [mi (sx xs (i + 1)), mi (sx xs (i + 2))] lcv_X9_told dL_law_296 llk_X9_told k0 rfl ⟨by decide, by decide⟩ rfl (ok_cons (sx_ok xs _) (ok_cons (sx_ok xs _) ok_no)) hτ hM (Nat.le_of_ble_eq_true rfl) rfl (fun r2 τ1 hτ1 hq2 => ?_)
  obtain ⟨rfl, hq2⟩ := hq2
  refine LWP.icmp_same (tgt := 1205) dL_law_299 (by decide) ?_
  exact next σ1 τ1 (hS σ1 τ1 hσ1 hτ1 hq1 hq2) hσ1 hτ1
theorem lcv_X8_of : mcv M_X8_of 2 := ⟨tb_in 341 (by decide +kernel) rfl, tb_in 37 (by decide +kernel) rfl, tb_in 339 (by decide +kernel) rfl, tb_in 340 (by decide +kernel) rfl, ⟨by decide, by decide, by decide +kernel⟩⟩
theorem llk_X8_of : Cond.methodLink R_law 32 yX8_of ∈ TBL := tb_in 338 (by decide +kernel) rfl
theorem lcv_X9_of : mcv M_X9_of 2 := ⟨tb_in 851 (by decide +kernel) rfl, tb_in 46 (by decide +kernel) rfl, tb_in 849 (by decide +kernel) rfl, tb_in 850 (by decide +kernel) rfl, ⟨by decide, by decide, by decide +kernel⟩⟩
theorem llk_X9_of : Cond.methodLink R_law 35 yX9_of ∈ TBL := tb_in 848 (by decide +kernel) rfl
theorem lc_of {b L : Nat} {xs : Nat → Int32} {D : va_G} {cI cZ : ClassId} {ad1 ad2 : Nat → Nat} {i : Int} {σ τ : Mem} (hi : 0 ≤ i ∧ i + 6 ≤ L) (hL : L ≤ 3072) (hR : RR σ τ) (hσ : mokm σ) (hτ : mokm τ) (next : ∀ σ' τ', RR σ' τ' → mokm σ' → mokm τ' → LWP b L xs D cI cZ 1205 (lvI b ad1 ad2 i) [] 73 2430 (mws cI cZ ad1 GC σ' ++ mws cI cZ ad2 GM τ')) : LWP b L xs D cI cZ 304 (lvI b ad1 ad2 i) [] 73 2430 (mws cI cZ ad1 GC σ ++ mws cI cZ ad2 GM τ) := by
  have hs : SIM M_X8_of M_X9_of [mr 0, mi (sx xs (i + 1)), mi (sx xs (i + 2))] σ τ RR := sim_of hR
  obtain ⟨r, PC, PM, hC, hM, hS⟩ := hs
  refine LWP.aload_n dL_law_304 rfl lvI_1 ?_
  refine LWP.arg lvI_a dL_law_305 dL_law_306 dL_law_307 dL_law_308 dL_law_309 (by decide) hi hL ?_
  refine LWP.arg lvI_a dL_law_310 dL_law_311 dL_law_312 dL_law_313 dL_law_314 (by decide) hi hL ?_
  refine LWP.call (S := []) (ad := ad1) (wr := mws cI cZ ad2 GM τ) M_X8_of [mi (sx xs (i + 1)), mi (sx xs (i + 2))] lcv_X8_of dL_law_315 llk_X8_of g0 rfl ⟨by decide, by decide⟩ rfl (ok_cons (sx_ok xs _) (ok_cons (sx_ok xs _) ok_no)) hσ hC (by decide) rfl (fun r1 σ1 hσ1 hq1 => ?_)
  obtain ⟨rfl, hq1⟩ := hq1
  refine LWP.aload_n dL_law_318 rfl lvI_2 ?_
  refine LWP.arg lvI_a dL_law_319 dL_law_320 dL_law_321 dL_law_322 dL_law_323 (by decide) hi hL ?_
  refine LWP.arg lvI_a dL_law_324 dL_law_325 dL_law_326 dL_law_327 dL_law_328 (by decide) hi hL ?_
  refine LWP.call (S := [.int (Int32.ofInt r1)]) (ad := ad2) (wr := mws cI cZ ad1 GC σ1) M_X9_of [mi (sx xs (i + 1)), mi (sx xs (i + 2))] lcv_X9_of dL_law_329 llk_X9_of k0 rfl ⟨by decide, by decide⟩ rfl (ok_cons (sx_ok xs _) (ok_cons (sx_ok xs _) ok_no)) hτ hM (Nat.le_of_ble_eq_true rfl) rfl (fun r2 τ1 hτ1 hq2 => ?_)
  obtain ⟨rfl, hq2⟩ := hq2
  refine LWP.icmp_same (tgt := 1205) dL_law_332 (by decide) ?_
  exact next σ1 τ1 (hS σ1 τ1 hσ1 hτ1 hq1 hq2) hσ1 hτ1
theorem lcv_X8_hole : mcv M_X8_hole 2 := ⟨tb_in 362 (by decide +kernel) rfl, tb_in 37 (by decide +kernel) rfl, tb_in 360 (by decide +kernel) rfl, tb_in 361 (by decide +kernel) rfl, ⟨by decide, by decide, by decide +kernel⟩⟩
theorem llk_X8_hole : Cond.methodLink R_law 36 yX8_hole ∈ TBL := tb_in 359 (by decide +kernel) rfl
theorem lcv_X9_hole : mcv M_X9_hole 2 := ⟨tb_in 868 (by decide +kernel) rfl, tb_in 46 (by decide +kernel) rfl, tb_in 866 (by decide +kernel) rfl, tb_in 867 (by decide +kernel) rfl, ⟨by decide, by decide, by decide +kernel⟩⟩
theorem llk_X9_hole : Cond.methodLink R_law 39 yX9_hole ∈ TBL := tb_in 865 (by decide +kernel) rfl
theorem lc_hole {b L : Nat} {xs : Nat → Int32} {D : va_G} {cI cZ : ClassId} {ad1 ad2 : Nat → Nat} {i : Int} {σ τ : Mem} (hi : 0 ≤ i ∧ i + 6 ≤ L) (hL : L ≤ 3072) (hR : RR σ τ) (hσ : mokm σ) (hτ : mokm τ) (next : ∀ σ' τ', RR σ' τ' → mokm σ' → mokm τ' → LWP b L xs D cI cZ 1205 (lvI b ad1 ad2 i) [] 73 2430 (mws cI cZ ad1 GC σ' ++ mws cI cZ ad2 GM τ')) : LWP b L xs D cI cZ 337 (lvI b ad1 ad2 i) [] 73 2430 (mws cI cZ ad1 GC σ ++ mws cI cZ ad2 GM τ) := by
  have hs : SIM M_X8_hole M_X9_hole [mr 0, mi (sx xs (i + 1)), mi (sx xs (i + 2))] σ τ RR := sim_hole hR
  obtain ⟨r, PC, PM, hC, hM, hS⟩ := hs
  refine LWP.aload_n dL_law_337 rfl lvI_1 ?_
  refine LWP.arg lvI_a dL_law_338 dL_law_339 dL_law_340 dL_law_341 dL_law_342 (by decide) hi hL ?_
  refine LWP.arg lvI_a dL_law_343 dL_law_344 dL_law_345 dL_law_346 dL_law_347 (by decide) hi hL ?_
  refine LWP.call (S := []) (ad := ad1) (wr := mws cI cZ ad2 GM τ) M_X8_hole [mi (sx xs (i + 1)), mi (sx xs (i + 2))] lcv_X8_hole dL_law_348 llk_X8_hole g0 rfl ⟨by decide, by decide⟩ rfl (ok_cons (sx_ok xs _) (ok_cons (sx_ok xs _) ok_no)) hσ hC (by decide) rfl (fun r1 σ1 hσ1 hq1 => ?_)
  obtain ⟨rfl, hq1⟩ := hq1
  refine LWP.aload_n dL_law_351 rfl lvI_2 ?_
  refine LWP.arg lvI_a dL_law_352 dL_law_353 dL_law_354 dL_law_355 dL_law_356 (by decide) hi hL ?_
  refine LWP.arg lvI_a dL_law_357 dL_law_358 dL_law_359 dL_law_360 dL_law_361 (by decide) hi hL ?_
  refine LWP.call (S := [.int (Int32.ofInt r1)]) (ad := ad2) (wr := mws cI cZ ad1 GC σ1) M_X9_hole [mi (sx xs (i + 1)), mi (sx xs (i + 2))] lcv_X9_hole dL_law_362 llk_X9_hole k0 rfl ⟨by decide, by decide⟩ rfl (ok_cons (sx_ok xs _) (ok_cons (sx_ok xs _) ok_no)) hτ hM (Nat.le_of_ble_eq_true rfl) rfl (fun r2 τ1 hτ1 hq2 => ?_)
  obtain ⟨rfl, hq2⟩ := hq2
  refine LWP.icmp_same (tgt := 1205) dL_law_365 (by decide) ?_
  exact next σ1 τ1 (hS σ1 τ1 hσ1 hτ1 hq1 hq2) hσ1 hτ1
theorem lcv_X8_type : mcv M_X8_type 2 := ⟨tb_in 366 (by decide +kernel) rfl, tb_in 37 (by decide +kernel) rfl, tb_in 364 (by decide +kernel) rfl, tb_in 365 (by decide +kernel) rfl, ⟨by decide, by decide, by decide +kernel⟩⟩
theorem llk_X8_type : Cond.methodLink R_law 42 yX8_type ∈ TBL := tb_in 363 (by decide +kernel) rfl
theorem lcv_X9_type : mcv M_X9_type 2 := ⟨tb_in 880 (by decide +kernel) rfl, tb_in 46 (by decide +kernel) rfl, tb_in 878 (by decide +kernel) rfl, tb_in 879 (by decide +kernel) rfl, ⟨by decide, by decide, by decide +kernel⟩⟩
theorem llk_X9_type : Cond.methodLink R_law 46 yX9_type ∈ TBL := tb_in 877 (by decide +kernel) rfl
theorem lc_type {b L : Nat} {xs : Nat → Int32} {D : va_G} {cI cZ : ClassId} {ad1 ad2 : Nat → Nat} {i : Int} {σ τ : Mem} (hi : 0 ≤ i ∧ i + 6 ≤ L) (hL : L ≤ 3072) (hR : RR σ τ) (hσ : mokm σ) (hτ : mokm τ) (next : ∀ σ' τ', RR σ' τ' → mokm σ' → mokm τ' → LWP b L xs D cI cZ 1205 (lvI b ad1 ad2 i) [] 73 2430 (mws cI cZ ad1 GC σ' ++ mws cI cZ ad2 GM τ')) : LWP b L xs D cI cZ 370 (lvI b ad1 ad2 i) [] 73 2430 (mws cI cZ ad1 GC σ ++ mws cI cZ ad2 GM τ) := by
  have hs : SIM M_X8_type M_X9_type [mr 0, ml (tyw (sx xs (i + 1)) (sx xs (i + 2))), mi (sx xs (i + 3))] σ τ RR := sim_type hR (sx_ok xs _)
  obtain ⟨r, PC, PM, hC, hM, hS⟩ := hs
  refine LWP.aload_n dL_law_370 rfl lvI_1 ?_
  refine LWP.arg lvI_a dL_law_371 dL_law_372 dL_law_373 dL_law_374 dL_law_375 (by decide) hi hL ?_
  refine LWP.i2l dL_law_376 ?_
  refine LWP.bipush dL_law_377 (by decide) ?_
  refine LWP.lshl dL_law_379 ?_
  refine LWP.arg lvI_a dL_law_380 dL_law_381 dL_law_382 dL_law_383 dL_law_384 (by decide) hi hL ?_
  refine LWP.i2l dL_law_385 ?_
  refine LWP.ldc2 dL_law_386 lk_long ?_
  refine LWP.land dL_law_389 ?_
  refine LWP.lor dL_law_390 ?_
  refine LWP.arg lvI_a dL_law_391 dL_law_392 dL_law_393 dL_law_394 dL_law_395 (by decide) hi hL ?_
  refine LWP.call (S := []) (ad := ad1) (wr := mws cI cZ ad2 GM τ) M_X8_type [ml (tyw (sx xs (i + 1)) (sx xs (i + 2))), mi (sx xs (i + 3))] lcv_X8_type dL_law_396 llk_X8_type g0 rfl ⟨by decide, by decide⟩ rfl (ok_cons (tyw_ok _ _) (ok_cons (sx_ok xs _) ok_no)) hσ hC (by decide) rfl (fun r1 σ1 hσ1 hq1 => ?_)
  obtain ⟨rfl, hq1⟩ := hq1
  refine LWP.aload_n dL_law_399 rfl lvI_2 ?_
  refine LWP.arg lvI_a dL_law_400 dL_law_401 dL_law_402 dL_law_403 dL_law_404 (by decide) hi hL ?_
  refine LWP.i2l dL_law_405 ?_
  refine LWP.bipush dL_law_406 (by decide) ?_
  refine LWP.lshl dL_law_408 ?_
  refine LWP.arg lvI_a dL_law_409 dL_law_410 dL_law_411 dL_law_412 dL_law_413 (by decide) hi hL ?_
  refine LWP.i2l dL_law_414 ?_
  refine LWP.ldc2 dL_law_415 lk_long ?_
  refine LWP.land dL_law_418 ?_
  refine LWP.lor dL_law_419 ?_
  refine LWP.arg lvI_a dL_law_420 dL_law_421 dL_law_422 dL_law_423 dL_law_424 (by decide) hi hL ?_
  refine LWP.call (S := [.int (Int32.ofInt r1)]) (ad := ad2) (wr := mws cI cZ ad1 GC σ1) M_X9_type [ml (tyw (sx xs (i + 1)) (sx xs (i + 2))), mi (sx xs (i + 3))] lcv_X9_type dL_law_425 llk_X9_type k0 rfl ⟨by decide, by decide⟩ rfl (ok_cons (tyw_ok _ _) (ok_cons (sx_ok xs _) ok_no)) hτ hM (Nat.le_of_ble_eq_true rfl) rfl (fun r2 τ1 hτ1 hq2 => ?_)
  obtain ⟨rfl, hq2⟩ := hq2
  refine LWP.icmp_same (tgt := 1205) dL_law_428 (by decide) ?_
  exact next σ1 τ1 (hS σ1 τ1 hσ1 hτ1 hq1 hq2) hσ1 hτ1
theorem lcv_X8_school : mcv M_X8_school 0 := ⟨tb_in 380 (by decide +kernel) rfl, tb_in 37 (by decide +kernel) rfl, tb_in 378 (by decide +kernel) rfl, tb_in 379 (by decide +kernel) rfl, ⟨by decide, by decide, by decide +kernel⟩⟩
theorem llk_X8_school : Cond.methodLink R_law 47 yX8_school ∈ TBL := tb_in 377 (by decide +kernel) rfl
theorem lcv_X9_school : mcv M_X9_school 0 := ⟨tb_in 887 (by decide +kernel) rfl, tb_in 46 (by decide +kernel) rfl, tb_in 885 (by decide +kernel) rfl, tb_in 886 (by decide +kernel) rfl, ⟨by decide, by decide, by decide +kernel⟩⟩
theorem llk_X9_school : Cond.methodLink R_law 51 yX9_school ∈ TBL := tb_in 884 (by decide +kernel) rfl
theorem lc_school {b L : Nat} {xs : Nat → Int32} {D : va_G} {cI cZ : ClassId} {ad1 ad2 : Nat → Nat} {i : Int} {σ τ : Mem} (hi : 0 ≤ i ∧ i + 6 ≤ L) (hL : L ≤ 3072) (hR : RR σ τ) (hσ : mokm σ) (hτ : mokm τ) (next : ∀ σ' τ', RR σ' τ' → mokm σ' → mokm τ' → LWP b L xs D cI cZ 1205 (lvI b ad1 ad2 i) [] 73 2430 (mws cI cZ ad1 GC σ' ++ mws cI cZ ad2 GM τ')) : LWP b L xs D cI cZ 433 (lvI b ad1 ad2 i) [] 73 2430 (mws cI cZ ad1 GC σ ++ mws cI cZ ad2 GM τ) := by
  have hs : SIM M_X8_school M_X9_school [mr 0] σ τ RR := sim_school hR
  obtain ⟨r, PC, PM, hC, hM, hS⟩ := hs
  refine LWP.aload_n dL_law_433 rfl lvI_1 ?_
  refine LWP.call (S := []) (ad := ad1) (wr := mws cI cZ ad2 GM τ) M_X8_school [] lcv_X8_school dL_law_434 llk_X8_school g0 rfl ⟨by decide, by decide⟩ rfl ok_no hσ hC (by decide) rfl (fun r1 σ1 hσ1 hq1 => ?_)
  obtain ⟨rfl, hq1⟩ := hq1
  refine LWP.aload_n dL_law_437 rfl lvI_2 ?_
  refine LWP.call (S := [.int (Int32.ofInt r1)]) (ad := ad2) (wr := mws cI cZ ad1 GC σ1) M_X9_school [] lcv_X9_school dL_law_438 llk_X9_school k0 rfl ⟨by decide, by decide⟩ rfl ok_no hτ hM (Nat.le_of_ble_eq_true rfl) rfl (fun r2 τ1 hτ1 hq2 => ?_)
  obtain ⟨rfl, hq2⟩ := hq2
  refine LWP.icmp_same (tgt := 1205) dL_law_441 (by decide) ?_
  exact next σ1 τ1 (hS σ1 τ1 hσ1 hτ1 hq1 hq2) hσ1 hτ1
theorem lcv_X8_day : mcv M_X8_day 0 := ⟨tb_in 433 (by decide +kernel) rfl, tb_in 37 (by decide +kernel) rfl, tb_in 431 (by decide +kernel) rfl, tb_in 432 (by decide +kernel) rfl, ⟨by decide, by decide, by decide +kernel⟩⟩
theorem llk_X8_day : Cond.methodLink R_law 52 yX8_day ∈ TBL := tb_in 430 (by decide +kernel) rfl
theorem lcv_X9_day : mcv M_X9_day 0 := ⟨tb_in 912 (by decide +kernel) rfl, tb_in 46 (by decide +kernel) rfl, tb_in 910 (by decide +kernel) rfl, tb_in 911 (by decide +kernel) rfl, ⟨by decide, by decide, by decide +kernel⟩⟩
theorem llk_X9_day : Cond.methodLink R_law 55 yX9_day ∈ TBL := tb_in 909 (by decide +kernel) rfl
theorem lc_day {b L : Nat} {xs : Nat → Int32} {D : va_G} {cI cZ : ClassId} {ad1 ad2 : Nat → Nat} {i : Int} {σ τ : Mem} (hi : 0 ≤ i ∧ i + 6 ≤ L) (hL : L ≤ 3072) (hR : RR σ τ) (hσ : mokm σ) (hτ : mokm τ) (next : ∀ σ' τ', RR σ' τ' → mokm σ' → mokm τ' → LWP b L xs D cI cZ 1205 (lvI b ad1 ad2 i) [] 73 2430 (mws cI cZ ad1 GC σ' ++ mws cI cZ ad2 GM τ')) : LWP b L xs D cI cZ 446 (lvI b ad1 ad2 i) [] 73 2430 (mws cI cZ ad1 GC σ ++ mws cI cZ ad2 GM τ) := by
  have hs : SIM M_X8_day M_X9_day [mr 0] σ τ RR := sim_day hR
  obtain ⟨r, PC, PM, hC, hM, hS⟩ := hs
  refine LWP.aload_n dL_law_446 rfl lvI_1 ?_
  refine LWP.call (S := []) (ad := ad1) (wr := mws cI cZ ad2 GM τ) M_X8_day [] lcv_X8_day dL_law_447 llk_X8_day g0 rfl ⟨by decide, by decide⟩ rfl ok_no hσ hC (by decide) rfl (fun r1 σ1 hσ1 hq1 => ?_)
  obtain ⟨rfl, hq1⟩ := hq1
  refine LWP.aload_n dL_law_450 rfl lvI_2 ?_
  refine LWP.call (S := [.int (Int32.ofInt r1)]) (ad := ad2) (wr := mws cI cZ ad1 GC σ1) M_X9_day [] lcv_X9_day dL_law_451 llk_X9_day k0 rfl ⟨by decide, by decide⟩ rfl ok_no hτ hM (Nat.le_of_ble_eq_true rfl) rfl (fun r2 τ1 hτ1 hq2 => ?_)
  obtain ⟨rfl, hq2⟩ := hq2
  refine LWP.icmp_same (tgt := 1205) dL_law_454 (by decide) ?_
  exact next σ1 τ1 (hS σ1 τ1 hσ1 hτ1 hq1 hq2) hσ1 hτ1
theorem lcv_X8_count : mcv M_X8_count 1 := ⟨tb_in 506 (by decide +kernel) rfl, tb_in 37 (by decide +kernel) rfl, tb_in 504 (by decide +kernel) rfl, tb_in 505 (by decide +kernel) rfl, ⟨by decide, by decide, by decide +kernel⟩⟩
theorem llk_X8_count : Cond.methodLink R_law 56 yX8_count ∈ TBL := tb_in 503 (by decide +kernel) rfl
theorem lcv_X9_count : mcv M_X9_count 1 := ⟨tb_in 872 (by decide +kernel) rfl, tb_in 46 (by decide +kernel) rfl, tb_in 870 (by decide +kernel) rfl, tb_in 871 (by decide +kernel) rfl, ⟨by decide, by decide, by decide +kernel⟩⟩
theorem llk_X9_count : Cond.methodLink R_law 59 yX9_count ∈ TBL := tb_in 869 (by decide +kernel) rfl
theorem lc_count {b L : Nat} {xs : Nat → Int32} {D : va_G} {cI cZ : ClassId} {ad1 ad2 : Nat → Nat} {i : Int} {σ τ : Mem} (hi : 0 ≤ i ∧ i + 6 ≤ L) (hL : L ≤ 3072) (hR : RR σ τ) (hσ : mokm σ) (hτ : mokm τ) (next : ∀ σ' τ', RR σ' τ' → mokm σ' → mokm τ' → LWP b L xs D cI cZ 1205 (lvI b ad1 ad2 i) [] 73 2430 (mws cI cZ ad1 GC σ' ++ mws cI cZ ad2 GM τ')) : LWP b L xs D cI cZ 459 (lvI b ad1 ad2 i) [] 73 2430 (mws cI cZ ad1 GC σ ++ mws cI cZ ad2 GM τ) := by
  have hs : SIM M_X8_count M_X9_count [mr 0, mi (sx xs (i + 1))] σ τ RR := sim_count hR
  obtain ⟨r, PC, PM, hC, hM, hS⟩ := hs
  refine LWP.aload_n dL_law_459 rfl lvI_1 ?_
  refine LWP.arg lvI_a dL_law_460 dL_law_461 dL_law_462 dL_law_463 dL_law_464 (by decide) hi hL ?_
  refine LWP.call (S := []) (ad := ad1) (wr := mws cI cZ ad2 GM τ) M_X8_count [mi (sx xs (i + 1))] lcv_X8_count dL_law_465 llk_X8_count g0 rfl ⟨by decide, by decide⟩ rfl (ok_cons (sx_ok xs _) ok_no) hσ hC (by decide) rfl (fun r1 σ1 hσ1 hq1 => ?_)
  obtain ⟨rfl, hq1⟩ := hq1
  refine LWP.aload_n dL_law_468 rfl lvI_2 ?_
  refine LWP.arg lvI_a dL_law_469 dL_law_470 dL_law_471 dL_law_472 dL_law_473 (by decide) hi hL ?_
  refine LWP.call (S := [.int (Int32.ofInt r1)]) (ad := ad2) (wr := mws cI cZ ad1 GC σ1) M_X9_count [mi (sx xs (i + 1))] lcv_X9_count dL_law_474 llk_X9_count k0 rfl ⟨by decide, by decide⟩ rfl (ok_cons (sx_ok xs _) ok_no) hτ hM (Nat.le_of_ble_eq_true rfl) rfl (fun r2 τ1 hτ1 hq2 => ?_)
  obtain ⟨rfl, hq2⟩ := hq2
  refine LWP.icmp_same (tgt := 1205) dL_law_477 (by decide) ?_
  exact next σ1 τ1 (hS σ1 τ1 hσ1 hτ1 hq1 hq2) hσ1 hτ1
theorem lcv_X8_put : mcv M_X8_put 2 := ⟨tb_in 514 (by decide +kernel) rfl, tb_in 37 (by decide +kernel) rfl, tb_in 512 (by decide +kernel) rfl, tb_in 513 (by decide +kernel) rfl, ⟨by decide, by decide, by decide +kernel⟩⟩
theorem llk_X8_put : Cond.methodLink R_law 60 yX8_put ∈ TBL := tb_in 511 (by decide +kernel) rfl
theorem lcv_X9_put : mcv M_X9_put 2 := ⟨tb_in 928 (by decide +kernel) rfl, tb_in 46 (by decide +kernel) rfl, tb_in 926 (by decide +kernel) rfl, tb_in 927 (by decide +kernel) rfl, ⟨by decide, by decide, by decide +kernel⟩⟩
theorem llk_X9_put : Cond.methodLink R_law 63 yX9_put ∈ TBL := tb_in 961 (by decide +kernel) rfl
theorem lc_put {b L : Nat} {xs : Nat → Int32} {D : va_G} {cI cZ : ClassId} {ad1 ad2 : Nat → Nat} {i : Int} {σ τ : Mem} (hi : 0 ≤ i ∧ i + 6 ≤ L) (hL : L ≤ 3072) (hR : RR σ τ) (hσ : mokm σ) (hτ : mokm τ) (next : ∀ σ' τ', RR σ' τ' → mokm σ' → mokm τ' → LWP b L xs D cI cZ 1205 (lvI b ad1 ad2 i) [] 73 2430 (mws cI cZ ad1 GC σ' ++ mws cI cZ ad2 GM τ')) : LWP b L xs D cI cZ 482 (lvI b ad1 ad2 i) [] 73 2430 (mws cI cZ ad1 GC σ ++ mws cI cZ ad2 GM τ) := by
  have hs : SIM M_X8_put M_X9_put [mr 0, mi (sx xs (i + 1)), mi (sx xs (i + 2))] σ τ RR := sim_put hR
  obtain ⟨r, PC, PM, hC, hM, hS⟩ := hs
  refine LWP.aload_n dL_law_482 rfl lvI_1 ?_
  refine LWP.arg lvI_a dL_law_483 dL_law_484 dL_law_485 dL_law_486 dL_law_487 (by decide) hi hL ?_
  refine LWP.arg lvI_a dL_law_488 dL_law_489 dL_law_490 dL_law_491 dL_law_492 (by decide) hi hL ?_
  refine LWP.call (S := []) (ad := ad1) (wr := mws cI cZ ad2 GM τ) M_X8_put [mi (sx xs (i + 1)), mi (sx xs (i + 2))] lcv_X8_put dL_law_493 llk_X8_put g0 rfl ⟨by decide, by decide⟩ rfl (ok_cons (sx_ok xs _) (ok_cons (sx_ok xs _) ok_no)) hσ hC (by decide) rfl (fun r1 σ1 hσ1 hq1 => ?_)
  obtain ⟨rfl, hq1⟩ := hq1
  refine LWP.aload_n dL_law_496 rfl lvI_2 ?_
  refine LWP.arg lvI_a dL_law_497 dL_law_498 dL_law_499 dL_law_500 dL_law_501 (by decide) hi hL ?_
  refine LWP.arg lvI_a dL_law_502 dL_law_503 dL_law_504 dL_law_505 dL_law_506 (by decide) hi hL ?_
  refine LWP.call (S := [.int (Int32.ofInt r1)]) (ad := ad2) (wr := mws cI cZ ad1 GC σ1) M_X9_put [mi (sx xs (i + 1)), mi (sx xs (i + 2))] lcv_X9_put dL_law_507 llk_X9_put k0 rfl ⟨by decide, by decide⟩ rfl (ok_cons (sx_ok xs _) (ok_cons (sx_ok xs _) ok_no)) hτ hM (Nat.le_of_ble_eq_true rfl) rfl (fun r2 τ1 hτ1 hq2 => ?_)
  obtain ⟨rfl, hq2⟩ := hq2
  refine LWP.icmp_same (tgt := 1205) dL_law_510 (by decide) ?_
  exact next σ1 τ1 (hS σ1 τ1 hσ1 hτ1 hq1 hq2) hσ1 hτ1
theorem lcv_X8_take : mcv M_X8_take 2 := ⟨tb_in 519 (by decide +kernel) rfl, tb_in 37 (by decide +kernel) rfl, tb_in 517 (by decide +kernel) rfl, tb_in 518 (by decide +kernel) rfl, ⟨by decide, by decide, by decide +kernel⟩⟩
theorem llk_X8_take : Cond.methodLink R_law 64 yX8_take ∈ TBL := tb_in 516 (by decide +kernel) rfl
theorem lcv_X9_take : mcv M_X9_take 2 := ⟨tb_in 936 (by decide +kernel) rfl, tb_in 46 (by decide +kernel) rfl, tb_in 934 (by decide +kernel) rfl, tb_in 935 (by decide +kernel) rfl, ⟨by decide, by decide, by decide +kernel⟩⟩
theorem llk_X9_take : Cond.methodLink R_law 67 yX9_take ∈ TBL := tb_in 962 (by decide +kernel) rfl
theorem lc_take {b L : Nat} {xs : Nat → Int32} {D : va_G} {cI cZ : ClassId} {ad1 ad2 : Nat → Nat} {i : Int} {σ τ : Mem} (hi : 0 ≤ i ∧ i + 6 ≤ L) (hL : L ≤ 3072) (hR : RR σ τ) (hσ : mokm σ) (hτ : mokm τ) (next : ∀ σ' τ', RR σ' τ' → mokm σ' → mokm τ' → LWP b L xs D cI cZ 1205 (lvI b ad1 ad2 i) [] 73 2430 (mws cI cZ ad1 GC σ' ++ mws cI cZ ad2 GM τ')) : LWP b L xs D cI cZ 515 (lvI b ad1 ad2 i) [] 73 2430 (mws cI cZ ad1 GC σ ++ mws cI cZ ad2 GM τ) := by
  have hs : SIM M_X8_take M_X9_take [mr 0, mi (sx xs (i + 1)), mi (sx xs (i + 2))] σ τ RR := sim_take hR
  obtain ⟨r, PC, PM, hC, hM, hS⟩ := hs
  refine LWP.aload_n dL_law_515 rfl lvI_1 ?_
  refine LWP.arg lvI_a dL_law_516 dL_law_517 dL_law_518 dL_law_519 dL_law_520 (by decide) hi hL ?_
  refine LWP.arg lvI_a dL_law_521 dL_law_522 dL_law_523 dL_law_524 dL_law_525 (by decide) hi hL ?_
  refine LWP.call (S := []) (ad := ad1) (wr := mws cI cZ ad2 GM τ) M_X8_take [mi (sx xs (i + 1)), mi (sx xs (i + 2))] lcv_X8_take dL_law_526 llk_X8_take g0 rfl ⟨by decide, by decide⟩ rfl (ok_cons (sx_ok xs _) (ok_cons (sx_ok xs _) ok_no)) hσ hC (by decide) rfl (fun r1 σ1 hσ1 hq1 => ?_)
  obtain ⟨rfl, hq1⟩ := hq1
  refine LWP.aload_n dL_law_529 rfl lvI_2 ?_
  refine LWP.arg lvI_a dL_law_530 dL_law_531 dL_law_532 dL_law_533 dL_law_534 (by decide) hi hL ?_
  refine LWP.arg lvI_a dL_law_535 dL_law_536 dL_law_537 dL_law_538 dL_law_539 (by decide) hi hL ?_
  refine LWP.call (S := [.int (Int32.ofInt r1)]) (ad := ad2) (wr := mws cI cZ ad1 GC σ1) M_X9_take [mi (sx xs (i + 1)), mi (sx xs (i + 2))] lcv_X9_take dL_law_540 llk_X9_take k0 rfl ⟨by decide, by decide⟩ rfl (ok_cons (sx_ok xs _) (ok_cons (sx_ok xs _) ok_no)) hτ hM (Nat.le_of_ble_eq_true rfl) rfl (fun r2 τ1 hτ1 hq2 => ?_)
  obtain ⟨rfl, hq2⟩ := hq2
  refine LWP.icmp_same (tgt := 1205) dL_law_543 (by decide) ?_
  exact next σ1 τ1 (hS σ1 τ1 hσ1 hτ1 hq1 hq2) hσ1 hτ1
theorem lcv_X8_search : mcv M_X8_search 1 := ⟨tb_in 524 (by decide +kernel) rfl, tb_in 37 (by decide +kernel) rfl, tb_in 522 (by decide +kernel) rfl, tb_in 523 (by decide +kernel) rfl, ⟨by decide, by decide, by decide +kernel⟩⟩
theorem llk_X8_search : Cond.methodLink R_law 68 yX8_search ∈ TBL := tb_in 521 (by decide +kernel) rfl
theorem lcv_X9_search : mcv M_X9_search 1 := ⟨tb_in 940 (by decide +kernel) rfl, tb_in 46 (by decide +kernel) rfl, tb_in 938 (by decide +kernel) rfl, tb_in 939 (by decide +kernel) rfl, ⟨by decide, by decide, by decide +kernel⟩⟩
theorem llk_X9_search : Cond.methodLink R_law 71 yX9_search ∈ TBL := tb_in 963 (by decide +kernel) rfl
theorem lc_search {b L : Nat} {xs : Nat → Int32} {D : va_G} {cI cZ : ClassId} {ad1 ad2 : Nat → Nat} {i : Int} {σ τ : Mem} (hi : 0 ≤ i ∧ i + 6 ≤ L) (hL : L ≤ 3072) (hR : RR σ τ) (hσ : mokm σ) (hτ : mokm τ) (next : ∀ σ' τ', RR σ' τ' → mokm σ' → mokm τ' → LWP b L xs D cI cZ 1205 (lvI b ad1 ad2 i) [] 73 2430 (mws cI cZ ad1 GC σ' ++ mws cI cZ ad2 GM τ')) : LWP b L xs D cI cZ 548 (lvI b ad1 ad2 i) [] 73 2430 (mws cI cZ ad1 GC σ ++ mws cI cZ ad2 GM τ) := by
  have hs : SIM M_X8_search M_X9_search [mr 0, mi (sx xs (i + 1))] σ τ RR := sim_search hR
  obtain ⟨r, PC, PM, hC, hM, hS⟩ := hs
  refine LWP.aload_n dL_law_548 rfl lvI_1 ?_
  refine LWP.arg lvI_a dL_law_549 dL_law_550 dL_law_551 dL_law_552 dL_law_553 (by decide) hi hL ?_
  refine LWP.call (S := []) (ad := ad1) (wr := mws cI cZ ad2 GM τ) M_X8_search [mi (sx xs (i + 1))] lcv_X8_search dL_law_554 llk_X8_search g0 rfl ⟨by decide, by decide⟩ rfl (ok_cons (sx_ok xs _) ok_no) hσ hC (by decide) rfl (fun r1 σ1 hσ1 hq1 => ?_)
  obtain ⟨rfl, hq1⟩ := hq1
  refine LWP.aload_n dL_law_557 rfl lvI_2 ?_
  refine LWP.arg lvI_a dL_law_558 dL_law_559 dL_law_560 dL_law_561 dL_law_562 (by decide) hi hL ?_
  refine LWP.call (S := [.int (Int32.ofInt r1)]) (ad := ad2) (wr := mws cI cZ ad1 GC σ1) M_X9_search [mi (sx xs (i + 1))] lcv_X9_search dL_law_563 llk_X9_search k0 rfl ⟨by decide, by decide⟩ rfl (ok_cons (sx_ok xs _) ok_no) hτ hM (Nat.le_of_ble_eq_true rfl) rfl (fun r2 τ1 hτ1 hq2 => ?_)
  obtain ⟨rfl, hq2⟩ := hq2
  refine LWP.icmp_same (tgt := 1205) dL_law_566 (by decide) ?_
  exact next σ1 τ1 (hS σ1 τ1 hσ1 hτ1 hq1 hq2) hσ1 hτ1
theorem lcv_X8_give : mcv M_X8_give 2 := ⟨tb_in 529 (by decide +kernel) rfl, tb_in 37 (by decide +kernel) rfl, tb_in 527 (by decide +kernel) rfl, tb_in 528 (by decide +kernel) rfl, ⟨by decide, by decide, by decide +kernel⟩⟩
theorem llk_X8_give : Cond.methodLink R_law 72 yX8_give ∈ TBL := tb_in 526 (by decide +kernel) rfl
theorem lcv_X9_give : mcv M_X9_give 2 := ⟨tb_in 944 (by decide +kernel) rfl, tb_in 46 (by decide +kernel) rfl, tb_in 942 (by decide +kernel) rfl, tb_in 943 (by decide +kernel) rfl, ⟨by decide, by decide, by decide +kernel⟩⟩
theorem llk_X9_give : Cond.methodLink R_law 75 yX9_give ∈ TBL := tb_in 964 (by decide +kernel) rfl
theorem lc_give {b L : Nat} {xs : Nat → Int32} {D : va_G} {cI cZ : ClassId} {ad1 ad2 : Nat → Nat} {i : Int} {σ τ : Mem} (hi : 0 ≤ i ∧ i + 6 ≤ L) (hL : L ≤ 3072) (hR : RR σ τ) (hσ : mokm σ) (hτ : mokm τ) (next : ∀ σ' τ', RR σ' τ' → mokm σ' → mokm τ' → LWP b L xs D cI cZ 1205 (lvI b ad1 ad2 i) [] 73 2430 (mws cI cZ ad1 GC σ' ++ mws cI cZ ad2 GM τ')) : LWP b L xs D cI cZ 571 (lvI b ad1 ad2 i) [] 73 2430 (mws cI cZ ad1 GC σ ++ mws cI cZ ad2 GM τ) := by
  have hs : SIM M_X8_give M_X9_give [mr 0, mi (sx xs (i + 1)), mi (sx xs (i + 2))] σ τ RR := sim_give hR
  obtain ⟨r, PC, PM, hC, hM, hS⟩ := hs
  refine LWP.aload_n dL_law_571 rfl lvI_1 ?_
  refine LWP.arg lvI_a dL_law_572 dL_law_573 dL_law_574 dL_law_575 dL_law_576 (by decide) hi hL ?_
  refine LWP.arg lvI_a dL_law_577 dL_law_578 dL_law_579 dL_law_580 dL_law_581 (by decide) hi hL ?_
  refine LWP.call (S := []) (ad := ad1) (wr := mws cI cZ ad2 GM τ) M_X8_give [mi (sx xs (i + 1)), mi (sx xs (i + 2))] lcv_X8_give dL_law_582 llk_X8_give g0 rfl ⟨by decide, by decide⟩ rfl (ok_cons (sx_ok xs _) (ok_cons (sx_ok xs _) ok_no)) hσ hC (by decide) rfl (fun r1 σ1 hσ1 hq1 => ?_)
  obtain ⟨rfl, hq1⟩ := hq1
  refine LWP.aload_n dL_law_585 rfl lvI_2 ?_
  refine LWP.arg lvI_a dL_law_586 dL_law_587 dL_law_588 dL_law_589 dL_law_590 (by decide) hi hL ?_
  refine LWP.arg lvI_a dL_law_591 dL_law_592 dL_law_593 dL_law_594 dL_law_595 (by decide) hi hL ?_
  refine LWP.call (S := [.int (Int32.ofInt r1)]) (ad := ad2) (wr := mws cI cZ ad1 GC σ1) M_X9_give [mi (sx xs (i + 1)), mi (sx xs (i + 2))] lcv_X9_give dL_law_596 llk_X9_give k0 rfl ⟨by decide, by decide⟩ rfl (ok_cons (sx_ok xs _) (ok_cons (sx_ok xs _) ok_no)) hτ hM (Nat.le_of_ble_eq_true rfl) rfl (fun r2 τ1 hτ1 hq2 => ?_)
  obtain ⟨rfl, hq2⟩ := hq2
  refine LWP.icmp_same (tgt := 1205) dL_law_599 (by decide) ?_
  exact next σ1 τ1 (hS σ1 τ1 hσ1 hτ1 hq1 hq2) hσ1 hτ1
theorem lcv_X8_bell : mcv M_X8_bell 0 := ⟨tb_in 534 (by decide +kernel) rfl, tb_in 37 (by decide +kernel) rfl, tb_in 532 (by decide +kernel) rfl, tb_in 533 (by decide +kernel) rfl, ⟨by decide, by decide, by decide +kernel⟩⟩
theorem llk_X8_bell : Cond.methodLink R_law 76 yX8_bell ∈ TBL := tb_in 531 (by decide +kernel) rfl
theorem lcv_X9_bell : mcv M_X9_bell 0 := ⟨tb_in 952 (by decide +kernel) rfl, tb_in 46 (by decide +kernel) rfl, tb_in 950 (by decide +kernel) rfl, tb_in 951 (by decide +kernel) rfl, ⟨by decide, by decide, by decide +kernel⟩⟩
theorem llk_X9_bell : Cond.methodLink R_law 79 yX9_bell ∈ TBL := tb_in 965 (by decide +kernel) rfl
theorem lc_bell {b L : Nat} {xs : Nat → Int32} {D : va_G} {cI cZ : ClassId} {ad1 ad2 : Nat → Nat} {i : Int} {σ τ : Mem} (hi : 0 ≤ i ∧ i + 6 ≤ L) (hL : L ≤ 3072) (hR : RR σ τ) (hσ : mokm σ) (hτ : mokm τ) (next : ∀ σ' τ', RR σ' τ' → mokm σ' → mokm τ' → LWP b L xs D cI cZ 1205 (lvI b ad1 ad2 i) [] 73 2430 (mws cI cZ ad1 GC σ' ++ mws cI cZ ad2 GM τ')) : LWP b L xs D cI cZ 604 (lvI b ad1 ad2 i) [] 73 2430 (mws cI cZ ad1 GC σ ++ mws cI cZ ad2 GM τ) := by
  have hs : SIM M_X8_bell M_X9_bell [mr 0] σ τ RR := sim_bell hR
  obtain ⟨r, PC, PM, hC, hM, hS⟩ := hs
  refine LWP.aload_n dL_law_604 rfl lvI_1 ?_
  refine LWP.call (S := []) (ad := ad1) (wr := mws cI cZ ad2 GM τ) M_X8_bell [] lcv_X8_bell dL_law_605 llk_X8_bell g0 rfl ⟨by decide, by decide⟩ rfl ok_no hσ hC (by decide) rfl (fun r1 σ1 hσ1 hq1 => ?_)
  obtain ⟨rfl, hq1⟩ := hq1
  refine LWP.aload_n dL_law_608 rfl lvI_2 ?_
  refine LWP.call (S := [.int (Int32.ofInt r1)]) (ad := ad2) (wr := mws cI cZ ad1 GC σ1) M_X9_bell [] lcv_X9_bell dL_law_609 llk_X9_bell k0 rfl ⟨by decide, by decide⟩ rfl ok_no hτ hM (Nat.le_of_ble_eq_true rfl) rfl (fun r2 τ1 hτ1 hq2 => ?_)
  obtain ⟨rfl, hq2⟩ := hq2
  refine LWP.icmp_same (tgt := 1205) dL_law_612 (by decide) ?_
  exact next σ1 τ1 (hS σ1 τ1 hσ1 hτ1 hq1 hq2) hσ1 hτ1
theorem lcv_X8_reach : mcv M_X8_reach 3 := ⟨tb_in 539 (by decide +kernel) rfl, tb_in 37 (by decide +kernel) rfl, tb_in 537 (by decide +kernel) rfl, tb_in 538 (by decide +kernel) rfl, ⟨by decide, by decide, by decide +kernel⟩⟩
theorem llk_X8_reach : Cond.methodLink R_law 80 yX8_reach ∈ TBL := tb_in 536 (by decide +kernel) rfl
theorem lcv_X9_reach : mcv M_X9_reach 3 := ⟨tb_in 969 (by decide +kernel) rfl, tb_in 46 (by decide +kernel) rfl, tb_in 967 (by decide +kernel) rfl, tb_in 968 (by decide +kernel) rfl, ⟨by decide, by decide, by decide +kernel⟩⟩
theorem llk_X9_reach : Cond.methodLink R_law 83 yX9_reach ∈ TBL := tb_in 966 (by decide +kernel) rfl
theorem lc_reach {b L : Nat} {xs : Nat → Int32} {D : va_G} {cI cZ : ClassId} {ad1 ad2 : Nat → Nat} {i : Int} {σ τ : Mem} (hi : 0 ≤ i ∧ i + 6 ≤ L) (hL : L ≤ 3072) (hR : RR σ τ) (hσ : mokm σ) (hτ : mokm τ) (next : ∀ σ' τ', RR σ' τ' → mokm σ' → mokm τ' → LWP b L xs D cI cZ 1205 (lvI b ad1 ad2 i) [] 73 2430 (mws cI cZ ad1 GC σ' ++ mws cI cZ ad2 GM τ')) : LWP b L xs D cI cZ 617 (lvI b ad1 ad2 i) [] 73 2430 (mws cI cZ ad1 GC σ ++ mws cI cZ ad2 GM τ) := by
  have hs : SIM M_X8_reach M_X9_reach [mr 0, mi (sx xs (i + 1)), mi (sx xs (i + 2)), mi (sx xs (i + 3))] σ τ RR := sim_reach hR
  obtain ⟨r, PC, PM, hC, hM, hS⟩ := hs
  refine LWP.aload_n dL_law_617 rfl lvI_1 ?_
  refine LWP.arg lvI_a dL_law_618 dL_law_619 dL_law_620 dL_law_621 dL_law_622 (by decide) hi hL ?_
  refine LWP.arg lvI_a dL_law_623 dL_law_624 dL_law_625 dL_law_626 dL_law_627 (by decide) hi hL ?_
  refine LWP.arg lvI_a dL_law_628 dL_law_629 dL_law_630 dL_law_631 dL_law_632 (by decide) hi hL ?_
  refine LWP.call (S := []) (ad := ad1) (wr := mws cI cZ ad2 GM τ) M_X8_reach [mi (sx xs (i + 1)), mi (sx xs (i + 2)), mi (sx xs (i + 3))] lcv_X8_reach dL_law_633 llk_X8_reach g0 rfl ⟨by decide, by decide⟩ rfl (ok_cons (sx_ok xs _) (ok_cons (sx_ok xs _) (ok_cons (sx_ok xs _) ok_no))) hσ hC (by decide) rfl (fun r1 σ1 hσ1 hq1 => ?_)
  obtain ⟨rfl, hq1⟩ := hq1
  refine LWP.aload_n dL_law_636 rfl lvI_2 ?_
  refine LWP.arg lvI_a dL_law_637 dL_law_638 dL_law_639 dL_law_640 dL_law_641 (by decide) hi hL ?_
  refine LWP.arg lvI_a dL_law_642 dL_law_643 dL_law_644 dL_law_645 dL_law_646 (by decide) hi hL ?_
  refine LWP.arg lvI_a dL_law_647 dL_law_648 dL_law_649 dL_law_650 dL_law_651 (by decide) hi hL ?_
  refine LWP.call (S := [.int (Int32.ofInt r1)]) (ad := ad2) (wr := mws cI cZ ad1 GC σ1) M_X9_reach [mi (sx xs (i + 1)), mi (sx xs (i + 2)), mi (sx xs (i + 3))] lcv_X9_reach dL_law_652 llk_X9_reach k0 rfl ⟨by decide, by decide⟩ rfl (ok_cons (sx_ok xs _) (ok_cons (sx_ok xs _) (ok_cons (sx_ok xs _) ok_no))) hτ hM (Nat.le_of_ble_eq_true rfl) rfl (fun r2 τ1 hτ1 hq2 => ?_)
  obtain ⟨rfl, hq2⟩ := hq2
  refine LWP.icmp_same (tgt := 1205) dL_law_655 (by decide) ?_
  exact next σ1 τ1 (hS σ1 τ1 hσ1 hτ1 hq1 hq2) hσ1 hτ1
theorem lcv_X8_soonest : mcv M_X8_soonest 4 := ⟨tb_in 565 (by decide +kernel) rfl, tb_in 37 (by decide +kernel) rfl, tb_in 563 (by decide +kernel) rfl, tb_in 564 (by decide +kernel) rfl, ⟨by decide, by decide, by decide +kernel⟩⟩
theorem llk_X8_soonest : Cond.methodLink R_law 84 yX8_soonest ∈ TBL := tb_in 562 (by decide +kernel) rfl
theorem lcv_X9_soonest : mcv M_X9_soonest 4 := ⟨tb_in 990 (by decide +kernel) rfl, tb_in 46 (by decide +kernel) rfl, tb_in 988 (by decide +kernel) rfl, tb_in 989 (by decide +kernel) rfl, ⟨by decide, by decide, by decide +kernel⟩⟩
theorem llk_X9_soonest : Cond.methodLink R_law 88 yX9_soonest ∈ TBL := tb_in 987 (by decide +kernel) rfl
theorem lc_soonest {b L : Nat} {xs : Nat → Int32} {D : va_G} {cI cZ : ClassId} {ad1 ad2 : Nat → Nat} {i : Int} {σ τ : Mem} (hi : 0 ≤ i ∧ i + 6 ≤ L) (hL : L ≤ 3072) (hR : RR σ τ) (hσ : mokm σ) (hτ : mokm τ) (next : ∀ σ' τ', RR σ' τ' → mokm σ' → mokm τ' → LWP b L xs D cI cZ 1205 (lvI b ad1 ad2 i) [] 73 2430 (mws cI cZ ad1 GC σ' ++ mws cI cZ ad2 GM τ')) : LWP b L xs D cI cZ 660 (lvI b ad1 ad2 i) [] 73 2430 (mws cI cZ ad1 GC σ ++ mws cI cZ ad2 GM τ) := by
  have hs : SIM M_X8_soonest M_X9_soonest [mr 0, mi (sx xs (i + 1)), mi (sx xs (i + 2)), mi (sx xs (i + 3)), mi (sx xs (i + 4))] σ τ RR := sim_soonest hR
  obtain ⟨r, PC, PM, hC, hM, hS⟩ := hs
  refine LWP.aload_n dL_law_660 rfl lvI_1 ?_
  refine LWP.arg lvI_a dL_law_661 dL_law_662 dL_law_663 dL_law_664 dL_law_665 (by decide) hi hL ?_
  refine LWP.arg lvI_a dL_law_666 dL_law_667 dL_law_668 dL_law_669 dL_law_670 (by decide) hi hL ?_
  refine LWP.arg lvI_a dL_law_671 dL_law_672 dL_law_673 dL_law_674 dL_law_675 (by decide) hi hL ?_
  refine LWP.arg lvI_a dL_law_676 dL_law_677 dL_law_678 dL_law_679 dL_law_680 (by decide) hi hL ?_
  refine LWP.call (S := []) (ad := ad1) (wr := mws cI cZ ad2 GM τ) M_X8_soonest [mi (sx xs (i + 1)), mi (sx xs (i + 2)), mi (sx xs (i + 3)), mi (sx xs (i + 4))] lcv_X8_soonest dL_law_681 llk_X8_soonest g0 rfl ⟨by decide, by decide⟩ rfl (ok_cons (sx_ok xs _) (ok_cons (sx_ok xs _) (ok_cons (sx_ok xs _) (ok_cons (sx_ok xs _) ok_no)))) hσ hC (by decide) rfl (fun r1 σ1 hσ1 hq1 => ?_)
  obtain ⟨rfl, hq1⟩ := hq1
  refine LWP.aload_n dL_law_684 rfl lvI_2 ?_
  refine LWP.arg lvI_a dL_law_685 dL_law_686 dL_law_687 dL_law_688 dL_law_689 (by decide) hi hL ?_
  refine LWP.arg lvI_a dL_law_690 dL_law_691 dL_law_692 dL_law_693 dL_law_694 (by decide) hi hL ?_
  refine LWP.arg lvI_a dL_law_695 dL_law_696 dL_law_697 dL_law_698 dL_law_699 (by decide) hi hL ?_
  refine LWP.arg lvI_a dL_law_700 dL_law_701 dL_law_702 dL_law_703 dL_law_704 (by decide) hi hL ?_
  refine LWP.call (S := [.int (Int32.ofInt r1)]) (ad := ad2) (wr := mws cI cZ ad1 GC σ1) M_X9_soonest [mi (sx xs (i + 1)), mi (sx xs (i + 2)), mi (sx xs (i + 3)), mi (sx xs (i + 4))] lcv_X9_soonest dL_law_705 llk_X9_soonest k0 rfl ⟨by decide, by decide⟩ rfl (ok_cons (sx_ok xs _) (ok_cons (sx_ok xs _) (ok_cons (sx_ok xs _) (ok_cons (sx_ok xs _) ok_no)))) hτ hM (Nat.le_of_ble_eq_true rfl) rfl (fun r2 τ1 hτ1 hq2 => ?_)
  obtain ⟨rfl, hq2⟩ := hq2
  refine LWP.icmp_same (tgt := 1205) dL_law_708 (by decide) ?_
  exact next σ1 τ1 (hS σ1 τ1 hσ1 hτ1 hq1 hq2) hσ1 hτ1
theorem lcv_X8_dealt : mcv M_X8_dealt 4 := ⟨tb_in 581 (by decide +kernel) rfl, tb_in 37 (by decide +kernel) rfl, tb_in 579 (by decide +kernel) rfl, tb_in 580 (by decide +kernel) rfl, ⟨by decide, by decide, by decide +kernel⟩⟩
theorem llk_X8_dealt : Cond.methodLink R_law 89 yX8_dealt ∈ TBL := tb_in 578 (by decide +kernel) rfl
theorem lcv_X9_dealt : mcv M_X9_dealt 4 := ⟨tb_in 998 (by decide +kernel) rfl, tb_in 46 (by decide +kernel) rfl, tb_in 996 (by decide +kernel) rfl, tb_in 997 (by decide +kernel) rfl, ⟨by decide, by decide, by decide +kernel⟩⟩
theorem llk_X9_dealt : Cond.methodLink R_law 92 yX9_dealt ∈ TBL := tb_in 995 (by decide +kernel) rfl
theorem lc_dealt {b L : Nat} {xs : Nat → Int32} {D : va_G} {cI cZ : ClassId} {ad1 ad2 : Nat → Nat} {i : Int} {σ τ : Mem} (hi : 0 ≤ i ∧ i + 6 ≤ L) (hL : L ≤ 3072) (hR : RR σ τ) (hσ : mokm σ) (hτ : mokm τ) (next : ∀ σ' τ', RR σ' τ' → mokm σ' → mokm τ' → LWP b L xs D cI cZ 1205 (lvI b ad1 ad2 i) [] 73 2430 (mws cI cZ ad1 GC σ' ++ mws cI cZ ad2 GM τ')) : LWP b L xs D cI cZ 713 (lvI b ad1 ad2 i) [] 73 2430 (mws cI cZ ad1 GC σ ++ mws cI cZ ad2 GM τ) := by
  have hs : SIM M_X8_dealt M_X9_dealt [mr 0, mi (sx xs (i + 1)), mi (sx xs (i + 2)), mi (sx xs (i + 3)), mi (sx xs (i + 4))] σ τ RR := sim_dealt hR
  obtain ⟨r, PC, PM, hC, hM, hS⟩ := hs
  refine LWP.aload_n dL_law_713 rfl lvI_1 ?_
  refine LWP.arg lvI_a dL_law_714 dL_law_715 dL_law_716 dL_law_717 dL_law_718 (by decide) hi hL ?_
  refine LWP.arg lvI_a dL_law_719 dL_law_720 dL_law_721 dL_law_722 dL_law_723 (by decide) hi hL ?_
  refine LWP.arg lvI_a dL_law_724 dL_law_725 dL_law_726 dL_law_727 dL_law_728 (by decide) hi hL ?_
  refine LWP.arg lvI_a dL_law_729 dL_law_730 dL_law_731 dL_law_732 dL_law_733 (by decide) hi hL ?_
  refine LWP.call (S := []) (ad := ad1) (wr := mws cI cZ ad2 GM τ) M_X8_dealt [mi (sx xs (i + 1)), mi (sx xs (i + 2)), mi (sx xs (i + 3)), mi (sx xs (i + 4))] lcv_X8_dealt dL_law_734 llk_X8_dealt g0 rfl ⟨by decide, by decide⟩ rfl (ok_cons (sx_ok xs _) (ok_cons (sx_ok xs _) (ok_cons (sx_ok xs _) (ok_cons (sx_ok xs _) ok_no)))) hσ hC (by decide) rfl (fun r1 σ1 hσ1 hq1 => ?_)
  obtain ⟨rfl, hq1⟩ := hq1
  refine LWP.aload_n dL_law_737 rfl lvI_2 ?_
  refine LWP.arg lvI_a dL_law_738 dL_law_739 dL_law_740 dL_law_741 dL_law_742 (by decide) hi hL ?_
  refine LWP.arg lvI_a dL_law_743 dL_law_744 dL_law_745 dL_law_746 dL_law_747 (by decide) hi hL ?_
  refine LWP.arg lvI_a dL_law_748 dL_law_749 dL_law_750 dL_law_751 dL_law_752 (by decide) hi hL ?_
  refine LWP.arg lvI_a dL_law_753 dL_law_754 dL_law_755 dL_law_756 dL_law_757 (by decide) hi hL ?_
  refine LWP.call (S := [.int (Int32.ofInt r1)]) (ad := ad2) (wr := mws cI cZ ad1 GC σ1) M_X9_dealt [mi (sx xs (i + 1)), mi (sx xs (i + 2)), mi (sx xs (i + 3)), mi (sx xs (i + 4))] lcv_X9_dealt dL_law_758 llk_X9_dealt k0 rfl ⟨by decide, by decide⟩ rfl (ok_cons (sx_ok xs _) (ok_cons (sx_ok xs _) (ok_cons (sx_ok xs _) (ok_cons (sx_ok xs _) ok_no)))) hτ hM (Nat.le_of_ble_eq_true rfl) rfl (fun r2 τ1 hτ1 hq2 => ?_)
  obtain ⟨rfl, hq2⟩ := hq2
  refine LWP.icmp_same (tgt := 1205) dL_law_761 (by decide) ?_
  exact next σ1 τ1 (hS σ1 τ1 hσ1 hτ1 hq1 hq2) hσ1 hτ1
theorem lcv_X8_wore : mcv M_X8_wore 2 := ⟨tb_in 602 (by decide +kernel) rfl, tb_in 37 (by decide +kernel) rfl, tb_in 600 (by decide +kernel) rfl, tb_in 601 (by decide +kernel) rfl, ⟨by decide, by decide, by decide +kernel⟩⟩
theorem llk_X8_wore : Cond.methodLink R_law 93 yX8_wore ∈ TBL := tb_in 599 (by decide +kernel) rfl
theorem lcv_X9_wore : mcv M_X9_wore 2 := ⟨tb_in 1007 (by decide +kernel) rfl, tb_in 46 (by decide +kernel) rfl, tb_in 1005 (by decide +kernel) rfl, tb_in 1006 (by decide +kernel) rfl, ⟨by decide, by decide, by decide +kernel⟩⟩
theorem llk_X9_wore : Cond.methodLink R_law 96 yX9_wore ∈ TBL := tb_in 1004 (by decide +kernel) rfl
theorem lc_wore {b L : Nat} {xs : Nat → Int32} {D : va_G} {cI cZ : ClassId} {ad1 ad2 : Nat → Nat} {i : Int} {σ τ : Mem} (hi : 0 ≤ i ∧ i + 6 ≤ L) (hL : L ≤ 3072) (hR : RR σ τ) (hσ : mokm σ) (hτ : mokm τ) (next : ∀ σ' τ', RR σ' τ' → mokm σ' → mokm τ' → LWP b L xs D cI cZ 1205 (lvI b ad1 ad2 i) [] 73 2430 (mws cI cZ ad1 GC σ' ++ mws cI cZ ad2 GM τ')) : LWP b L xs D cI cZ 766 (lvI b ad1 ad2 i) [] 73 2430 (mws cI cZ ad1 GC σ ++ mws cI cZ ad2 GM τ) := by
  have hs : SIM M_X8_wore M_X9_wore [mr 0, mi (sx xs (i + 1)), mi (sx xs (i + 2))] σ τ RR := sim_wore hR
  obtain ⟨r, PC, PM, hC, hM, hS⟩ := hs
  refine LWP.aload_n dL_law_766 rfl lvI_1 ?_
  refine LWP.arg lvI_a dL_law_767 dL_law_768 dL_law_769 dL_law_770 dL_law_771 (by decide) hi hL ?_
  refine LWP.arg lvI_a dL_law_772 dL_law_773 dL_law_774 dL_law_775 dL_law_776 (by decide) hi hL ?_
  refine LWP.call (S := []) (ad := ad1) (wr := mws cI cZ ad2 GM τ) M_X8_wore [mi (sx xs (i + 1)), mi (sx xs (i + 2))] lcv_X8_wore dL_law_777 llk_X8_wore g0 rfl ⟨by decide, by decide⟩ rfl (ok_cons (sx_ok xs _) (ok_cons (sx_ok xs _) ok_no)) hσ hC (by decide) rfl (fun r1 σ1 hσ1 hq1 => ?_)
  obtain ⟨rfl, hq1⟩ := hq1
  refine LWP.aload_n dL_law_780 rfl lvI_2 ?_
  refine LWP.arg lvI_a dL_law_781 dL_law_782 dL_law_783 dL_law_784 dL_law_785 (by decide) hi hL ?_
  refine LWP.arg lvI_a dL_law_786 dL_law_787 dL_law_788 dL_law_789 dL_law_790 (by decide) hi hL ?_
  refine LWP.call (S := [.int (Int32.ofInt r1)]) (ad := ad2) (wr := mws cI cZ ad1 GC σ1) M_X9_wore [mi (sx xs (i + 1)), mi (sx xs (i + 2))] lcv_X9_wore dL_law_791 llk_X9_wore k0 rfl ⟨by decide, by decide⟩ rfl (ok_cons (sx_ok xs _) (ok_cons (sx_ok xs _) ok_no)) hτ hM (Nat.le_of_ble_eq_true rfl) rfl (fun r2 τ1 hτ1 hq2 => ?_)
  obtain ⟨rfl, hq2⟩ := hq2
  refine LWP.icmp_same (tgt := 1205) dL_law_794 (by decide) ?_
  exact next σ1 τ1 (hS σ1 τ1 hσ1 hτ1 hq1 hq2) hσ1 hτ1
theorem lcv_X8_owe : mcv M_X8_owe 3 := ⟨tb_in 610 (by decide +kernel) rfl, tb_in 37 (by decide +kernel) rfl, tb_in 608 (by decide +kernel) rfl, tb_in 609 (by decide +kernel) rfl, ⟨by decide, by decide, by decide +kernel⟩⟩
theorem llk_X8_owe : Cond.methodLink R_law 97 yX8_owe ∈ TBL := tb_in 607 (by decide +kernel) rfl
theorem lcv_X9_owe : mcv M_X9_owe 3 := ⟨tb_in 1011 (by decide +kernel) rfl, tb_in 46 (by decide +kernel) rfl, tb_in 1009 (by decide +kernel) rfl, tb_in 1010 (by decide +kernel) rfl, ⟨by decide, by decide, by decide +kernel⟩⟩
theorem llk_X9_owe : Cond.methodLink R_law 100 yX9_owe ∈ TBL := tb_in 1008 (by decide +kernel) rfl
theorem lc_owe {b L : Nat} {xs : Nat → Int32} {D : va_G} {cI cZ : ClassId} {ad1 ad2 : Nat → Nat} {i : Int} {σ τ : Mem} (hi : 0 ≤ i ∧ i + 6 ≤ L) (hL : L ≤ 3072) (hR : RR σ τ) (hσ : mokm σ) (hτ : mokm τ) (next : ∀ σ' τ', RR σ' τ' → mokm σ' → mokm τ' → LWP b L xs D cI cZ 1205 (lvI b ad1 ad2 i) [] 73 2430 (mws cI cZ ad1 GC σ' ++ mws cI cZ ad2 GM τ')) : LWP b L xs D cI cZ 799 (lvI b ad1 ad2 i) [] 73 2430 (mws cI cZ ad1 GC σ ++ mws cI cZ ad2 GM τ) := by
  have hs : SIM M_X8_owe M_X9_owe [mr 0, mi (sx xs (i + 1)), mi (sx xs (i + 2)), mi (sx xs (i + 3))] σ τ RR := sim_owe hR
  obtain ⟨r, PC, PM, hC, hM, hS⟩ := hs
  refine LWP.aload_n dL_law_799 rfl lvI_1 ?_
  refine LWP.arg lvI_a dL_law_800 dL_law_801 dL_law_802 dL_law_803 dL_law_804 (by decide) hi hL ?_
  refine LWP.arg lvI_a dL_law_805 dL_law_806 dL_law_807 dL_law_808 dL_law_809 (by decide) hi hL ?_
  refine LWP.arg lvI_a dL_law_810 dL_law_811 dL_law_812 dL_law_813 dL_law_814 (by decide) hi hL ?_
  refine LWP.call (S := []) (ad := ad1) (wr := mws cI cZ ad2 GM τ) M_X8_owe [mi (sx xs (i + 1)), mi (sx xs (i + 2)), mi (sx xs (i + 3))] lcv_X8_owe dL_law_815 llk_X8_owe g0 rfl ⟨by decide, by decide⟩ rfl (ok_cons (sx_ok xs _) (ok_cons (sx_ok xs _) (ok_cons (sx_ok xs _) ok_no))) hσ hC (by decide) rfl (fun r1 σ1 hσ1 hq1 => ?_)
  obtain ⟨rfl, hq1⟩ := hq1
  refine LWP.aload_n dL_law_818 rfl lvI_2 ?_
  refine LWP.arg lvI_a dL_law_819 dL_law_820 dL_law_821 dL_law_822 dL_law_823 (by decide) hi hL ?_
  refine LWP.arg lvI_a dL_law_824 dL_law_825 dL_law_826 dL_law_827 dL_law_828 (by decide) hi hL ?_
  refine LWP.arg lvI_a dL_law_829 dL_law_830 dL_law_831 dL_law_832 dL_law_833 (by decide) hi hL ?_
  refine LWP.call (S := [.int (Int32.ofInt r1)]) (ad := ad2) (wr := mws cI cZ ad1 GC σ1) M_X9_owe [mi (sx xs (i + 1)), mi (sx xs (i + 2)), mi (sx xs (i + 3))] lcv_X9_owe dL_law_834 llk_X9_owe k0 rfl ⟨by decide, by decide⟩ rfl (ok_cons (sx_ok xs _) (ok_cons (sx_ok xs _) (ok_cons (sx_ok xs _) ok_no))) hτ hM (Nat.le_of_ble_eq_true rfl) rfl (fun r2 τ1 hτ1 hq2 => ?_)
  obtain ⟨rfl, hq2⟩ := hq2
  refine LWP.icmp_same (tgt := 1205) dL_law_837 (by decide) ?_
  exact next σ1 τ1 (hS σ1 τ1 hσ1 hτ1 hq1 hq2) hσ1 hτ1
theorem lcv_X8_balance : mcv M_X8_balance 1 := ⟨tb_in 617 (by decide +kernel) rfl, tb_in 37 (by decide +kernel) rfl, tb_in 615 (by decide +kernel) rfl, tb_in 616 (by decide +kernel) rfl, ⟨by decide, by decide, by decide +kernel⟩⟩
theorem llk_X8_balance : Cond.methodLink R_law 101 yX8_balance ∈ TBL := tb_in 614 (by decide +kernel) rfl
theorem lcv_X9_balance : mcv M_X9_balance 1 := ⟨tb_in 1019 (by decide +kernel) rfl, tb_in 46 (by decide +kernel) rfl, tb_in 1017 (by decide +kernel) rfl, tb_in 1018 (by decide +kernel) rfl, ⟨by decide, by decide, by decide +kernel⟩⟩
theorem llk_X9_balance : Cond.methodLink R_law 104 yX9_balance ∈ TBL := tb_in 1016 (by decide +kernel) rfl
theorem lc_balance {b L : Nat} {xs : Nat → Int32} {D : va_G} {cI cZ : ClassId} {ad1 ad2 : Nat → Nat} {i : Int} {σ τ : Mem} (hi : 0 ≤ i ∧ i + 6 ≤ L) (hL : L ≤ 3072) (hR : RR σ τ) (hσ : mokm σ) (hτ : mokm τ) (next : ∀ σ' τ', RR σ' τ' → mokm σ' → mokm τ' → LWP b L xs D cI cZ 1205 (lvI b ad1 ad2 i) [] 73 2430 (mws cI cZ ad1 GC σ' ++ mws cI cZ ad2 GM τ')) : LWP b L xs D cI cZ 842 (lvI b ad1 ad2 i) [] 73 2430 (mws cI cZ ad1 GC σ ++ mws cI cZ ad2 GM τ) := by
  have hs : SIM M_X8_balance M_X9_balance [mr 0, mi (sx xs (i + 1))] σ τ RR := sim_balance hR
  obtain ⟨r, PC, PM, hC, hM, hS⟩ := hs
  refine LWP.aload_n dL_law_842 rfl lvI_1 ?_
  refine LWP.arg lvI_a dL_law_843 dL_law_844 dL_law_845 dL_law_846 dL_law_847 (by decide) hi hL ?_
  refine LWP.call (S := []) (ad := ad1) (wr := mws cI cZ ad2 GM τ) M_X8_balance [mi (sx xs (i + 1))] lcv_X8_balance dL_law_848 llk_X8_balance g0 rfl ⟨by decide, by decide⟩ rfl (ok_cons (sx_ok xs _) ok_no) hσ hC (by decide) rfl (fun r1 σ1 hσ1 hq1 => ?_)
  obtain ⟨rfl, hq1⟩ := hq1
  refine LWP.aload_n dL_law_851 rfl lvI_2 ?_
  refine LWP.arg lvI_a dL_law_852 dL_law_853 dL_law_854 dL_law_855 dL_law_856 (by decide) hi hL ?_
  refine LWP.call (S := [.int (Int32.ofInt r1)]) (ad := ad2) (wr := mws cI cZ ad1 GC σ1) M_X9_balance [mi (sx xs (i + 1))] lcv_X9_balance dL_law_857 llk_X9_balance k0 rfl ⟨by decide, by decide⟩ rfl (ok_cons (sx_ok xs _) ok_no) hτ hM (Nat.le_of_ble_eq_true rfl) rfl (fun r2 τ1 hτ1 hq2 => ?_)
  obtain ⟨rfl, hq2⟩ := hq2
  refine LWP.icmp_same (tgt := 1205) dL_law_860 (by decide) ?_
  exact next σ1 τ1 (hS σ1 τ1 hσ1 hτ1 hq1 hq2) hσ1 hτ1
theorem lcv_X8_payments : mcv M_X8_payments 0 := ⟨tb_in 626 (by decide +kernel) rfl, tb_in 37 (by decide +kernel) rfl, tb_in 624 (by decide +kernel) rfl, tb_in 625 (by decide +kernel) rfl, ⟨by decide, by decide, by decide +kernel⟩⟩
theorem llk_X8_payments : Cond.methodLink R_law 105 yX8_payments ∈ TBL := tb_in 623 (by decide +kernel) rfl
theorem lcv_X9_payments : mcv M_X9_payments 0 := ⟨tb_in 1028 (by decide +kernel) rfl, tb_in 46 (by decide +kernel) rfl, tb_in 1026 (by decide +kernel) rfl, tb_in 1027 (by decide +kernel) rfl, ⟨by decide, by decide, by decide +kernel⟩⟩
theorem llk_X9_payments : Cond.methodLink R_law 108 yX9_payments ∈ TBL := tb_in 1025 (by decide +kernel) rfl
theorem lc_payments {b L : Nat} {xs : Nat → Int32} {D : va_G} {cI cZ : ClassId} {ad1 ad2 : Nat → Nat} {i : Int} {σ τ : Mem} (hi : 0 ≤ i ∧ i + 6 ≤ L) (hL : L ≤ 3072) (hR : RR σ τ) (hσ : mokm σ) (hτ : mokm τ) (next : ∀ σ' τ', RR σ' τ' → mokm σ' → mokm τ' → LWP b L xs D cI cZ 1205 (lvI b ad1 ad2 i) [] 73 2430 (mws cI cZ ad1 GC σ' ++ mws cI cZ ad2 GM τ')) : LWP b L xs D cI cZ 865 (lvI b ad1 ad2 i) [] 73 2430 (mws cI cZ ad1 GC σ ++ mws cI cZ ad2 GM τ) := by
  have hs : SIM M_X8_payments M_X9_payments [mr 0] σ τ RR := sim_payments hR
  obtain ⟨r, PC, PM, hC, hM, hS⟩ := hs
  refine LWP.aload_n dL_law_865 rfl lvI_1 ?_
  refine LWP.call (S := []) (ad := ad1) (wr := mws cI cZ ad2 GM τ) M_X8_payments [] lcv_X8_payments dL_law_866 llk_X8_payments g0 rfl ⟨by decide, by decide⟩ rfl ok_no hσ hC (by decide) rfl (fun r1 σ1 hσ1 hq1 => ?_)
  obtain ⟨rfl, hq1⟩ := hq1
  refine LWP.aload_n dL_law_869 rfl lvI_2 ?_
  refine LWP.call (S := [.int (Int32.ofInt r1)]) (ad := ad2) (wr := mws cI cZ ad1 GC σ1) M_X9_payments [] lcv_X9_payments dL_law_870 llk_X9_payments k0 rfl ⟨by decide, by decide⟩ rfl ok_no hτ hM (Nat.le_of_ble_eq_true rfl) rfl (fun r2 τ1 hτ1 hq2 => ?_)
  obtain ⟨rfl, hq2⟩ := hq2
  refine LWP.icmp_same (tgt := 1205) dL_law_873 (by decide) ?_
  exact next σ1 τ1 (hS σ1 τ1 hσ1 hτ1 hq1 hq2) hσ1 hτ1
theorem lcv_X8_seed : mcv M_X8_seed 1 := ⟨tb_in 642 (by decide +kernel) rfl, tb_in 37 (by decide +kernel) rfl, tb_in 640 (by decide +kernel) rfl, tb_in 641 (by decide +kernel) rfl, ⟨by decide, by decide, by decide +kernel⟩⟩
theorem llk_X8_seed : Cond.methodLink R_law 109 yX8_seed ∈ TBL := tb_in 639 (by decide +kernel) rfl
theorem lcv_X9_seed : mcv M_X9_seed 1 := ⟨tb_in 1032 (by decide +kernel) rfl, tb_in 46 (by decide +kernel) rfl, tb_in 1030 (by decide +kernel) rfl, tb_in 1031 (by decide +kernel) rfl, ⟨by decide, by decide, by decide +kernel⟩⟩
theorem llk_X9_seed : Cond.methodLink R_law 112 yX9_seed ∈ TBL := tb_in 1029 (by decide +kernel) rfl
theorem lc_seed {b L : Nat} {xs : Nat → Int32} {D : va_G} {cI cZ : ClassId} {ad1 ad2 : Nat → Nat} {i : Int} {σ τ : Mem} (hi : 0 ≤ i ∧ i + 6 ≤ L) (hL : L ≤ 3072) (hR : RR σ τ) (hσ : mokm σ) (hτ : mokm τ) (next : ∀ σ' τ', RR σ' τ' → mokm σ' → mokm τ' → LWP b L xs D cI cZ 1205 (lvI b ad1 ad2 i) [] 73 2430 (mws cI cZ ad1 GC σ' ++ mws cI cZ ad2 GM τ')) : LWP b L xs D cI cZ 878 (lvI b ad1 ad2 i) [] 73 2430 (mws cI cZ ad1 GC σ ++ mws cI cZ ad2 GM τ) := by
  have hs : SIM M_X8_seed M_X9_seed [mr 0, mi (sx xs (i + 1))] σ τ RR := sim_seed (sx_ok xs _) hR
  obtain ⟨r, PC, PM, hC, hM, hS⟩ := hs
  refine LWP.aload_n dL_law_878 rfl lvI_1 ?_
  refine LWP.arg lvI_a dL_law_879 dL_law_880 dL_law_881 dL_law_882 dL_law_883 (by decide) hi hL ?_
  refine LWP.call (S := []) (ad := ad1) (wr := mws cI cZ ad2 GM τ) M_X8_seed [mi (sx xs (i + 1))] lcv_X8_seed dL_law_884 llk_X8_seed g0 rfl ⟨by decide, by decide⟩ rfl (ok_cons (sx_ok xs _) ok_no) hσ hC (by decide) rfl (fun r1 σ1 hσ1 hq1 => ?_)
  obtain ⟨rfl, hq1⟩ := hq1
  refine LWP.aload_n dL_law_887 rfl lvI_2 ?_
  refine LWP.arg lvI_a dL_law_888 dL_law_889 dL_law_890 dL_law_891 dL_law_892 (by decide) hi hL ?_
  refine LWP.call (S := [.int (Int32.ofInt r1)]) (ad := ad2) (wr := mws cI cZ ad1 GC σ1) M_X9_seed [mi (sx xs (i + 1))] lcv_X9_seed dL_law_893 llk_X9_seed k0 rfl ⟨by decide, by decide⟩ rfl (ok_cons (sx_ok xs _) ok_no) hτ hM (Nat.le_of_ble_eq_true rfl) rfl (fun r2 τ1 hτ1 hq2 => ?_)
  obtain ⟨rfl, hq2⟩ := hq2
  refine LWP.icmp_same (tgt := 1205) dL_law_896 (by decide) ?_
  exact next σ1 τ1 (hS σ1 τ1 hσ1 hτ1 hq1 hq2) hσ1 hτ1
theorem lcv_X8_image : mcv M_X8_image 0 := ⟨tb_in 646 (by decide +kernel) rfl, tb_in 37 (by decide +kernel) rfl, tb_in 644 (by decide +kernel) rfl, tb_in 645 (by decide +kernel) rfl, ⟨by decide, by decide, by decide +kernel⟩⟩
theorem llk_X8_image : Cond.methodLink R_law 113 yX8_image ∈ TBL := tb_in 643 (by decide +kernel) rfl
theorem lcv_X9_image : mcv M_X9_image 0 := ⟨tb_in 1036 (by decide +kernel) rfl, tb_in 46 (by decide +kernel) rfl, tb_in 1034 (by decide +kernel) rfl, tb_in 1035 (by decide +kernel) rfl, ⟨by decide, by decide, by decide +kernel⟩⟩
theorem llk_X9_image : Cond.methodLink R_law 116 yX9_image ∈ TBL := tb_in 1033 (by decide +kernel) rfl
theorem lc_image {b L : Nat} {xs : Nat → Int32} {D : va_G} {cI cZ : ClassId} {ad1 ad2 : Nat → Nat} {i : Int} {σ τ : Mem} (hi : 0 ≤ i ∧ i + 6 ≤ L) (hL : L ≤ 3072) (hR : RR σ τ) (hσ : mokm σ) (hτ : mokm τ) (next : ∀ σ' τ', RR σ' τ' → mokm σ' → mokm τ' → LWP b L xs D cI cZ 1205 (lvI b ad1 ad2 i) [] 73 2430 (mws cI cZ ad1 GC σ' ++ mws cI cZ ad2 GM τ')) : LWP b L xs D cI cZ 901 (lvI b ad1 ad2 i) [] 73 2430 (mws cI cZ ad1 GC σ ++ mws cI cZ ad2 GM τ) := by
  have hs : SIM M_X8_image M_X9_image [mr 0] σ τ RR := sim_image hR
  obtain ⟨r, PC, PM, hC, hM, hS⟩ := hs
  refine LWP.aload_n dL_law_901 rfl lvI_1 ?_
  refine LWP.call (S := []) (ad := ad1) (wr := mws cI cZ ad2 GM τ) M_X8_image [] lcv_X8_image dL_law_902 llk_X8_image g0 rfl ⟨by decide, by decide⟩ rfl ok_no hσ hC (by decide) rfl (fun r1 σ1 hσ1 hq1 => ?_)
  obtain ⟨rfl, hq1⟩ := hq1
  refine LWP.aload_n dL_law_905 rfl lvI_2 ?_
  refine LWP.call (S := [.int (Int32.ofInt r1)]) (ad := ad2) (wr := mws cI cZ ad1 GC σ1) M_X9_image [] lcv_X9_image dL_law_906 llk_X9_image k0 rfl ⟨by decide, by decide⟩ rfl ok_no hτ hM (Nat.le_of_ble_eq_true rfl) rfl (fun r2 τ1 hτ1 hq2 => ?_)
  obtain ⟨rfl, hq2⟩ := hq2
  refine LWP.icmp_same (tgt := 1205) dL_law_909 (by decide) ?_
  exact next σ1 τ1 (hS σ1 τ1 hσ1 hτ1 hq1 hq2) hσ1 hτ1
theorem lcv_X8_restore : mcv M_X8_restore 0 := ⟨tb_in 661 (by decide +kernel) rfl, tb_in 37 (by decide +kernel) rfl, tb_in 659 (by decide +kernel) rfl, tb_in 660 (by decide +kernel) rfl, ⟨by decide, by decide, by decide +kernel⟩⟩
theorem llk_X8_restore : Cond.methodLink R_law 117 yX8_restore ∈ TBL := tb_in 658 (by decide +kernel) rfl
theorem lcv_X9_restore : mcv M_X9_restore 0 := ⟨tb_in 1044 (by decide +kernel) rfl, tb_in 46 (by decide +kernel) rfl, tb_in 1042 (by decide +kernel) rfl, tb_in 1043 (by decide +kernel) rfl, ⟨by decide, by decide, by decide +kernel⟩⟩
theorem llk_X9_restore : Cond.methodLink R_law 120 yX9_restore ∈ TBL := tb_in 1041 (by decide +kernel) rfl
theorem lc_restore {b L : Nat} {xs : Nat → Int32} {D : va_G} {cI cZ : ClassId} {ad1 ad2 : Nat → Nat} {i : Int} {σ τ : Mem} (hi : 0 ≤ i ∧ i + 6 ≤ L) (hL : L ≤ 3072) (hR : RR σ τ) (hσ : mokm σ) (hτ : mokm τ) (next : ∀ σ' τ', RR σ' τ' → mokm σ' → mokm τ' → LWP b L xs D cI cZ 1205 (lvI b ad1 ad2 i) [] 73 2430 (mws cI cZ ad1 GC σ' ++ mws cI cZ ad2 GM τ')) : LWP b L xs D cI cZ 914 (lvI b ad1 ad2 i) [] 73 2430 (mws cI cZ ad1 GC σ ++ mws cI cZ ad2 GM τ) := by
  have hs : SIM M_X8_restore M_X9_restore [mr 0] σ τ RR := sim_restore hR
  obtain ⟨r, PC, PM, hC, hM, hS⟩ := hs
  refine LWP.aload_n dL_law_914 rfl lvI_1 ?_
  refine LWP.call (S := []) (ad := ad1) (wr := mws cI cZ ad2 GM τ) M_X8_restore [] lcv_X8_restore dL_law_915 llk_X8_restore g0 rfl ⟨by decide, by decide⟩ rfl ok_no hσ hC (by decide) rfl (fun r1 σ1 hσ1 hq1 => ?_)
  obtain ⟨rfl, hq1⟩ := hq1
  refine LWP.aload_n dL_law_918 rfl lvI_2 ?_
  refine LWP.call (S := [.int (Int32.ofInt r1)]) (ad := ad2) (wr := mws cI cZ ad1 GC σ1) M_X9_restore [] lcv_X9_restore dL_law_919 llk_X9_restore k0 rfl ⟨by decide, by decide⟩ rfl ok_no hτ hM (Nat.le_of_ble_eq_true rfl) rfl (fun r2 τ1 hτ1 hq2 => ?_)
  obtain ⟨rfl, hq2⟩ := hq2
  refine LWP.icmp_same (tgt := 1205) dL_law_922 (by decide) ?_
  exact next σ1 τ1 (hS σ1 τ1 hσ1 hτ1 hq1 hq2) hσ1 hτ1
theorem lcv_X8_owes : mcv M_X8_owes 4 := ⟨tb_in 665 (by decide +kernel) rfl, tb_in 37 (by decide +kernel) rfl, tb_in 663 (by decide +kernel) rfl, tb_in 664 (by decide +kernel) rfl, ⟨by decide, by decide, by decide +kernel⟩⟩
theorem llk_X8_owes : Cond.methodLink R_law 121 yX8_owes ∈ TBL := tb_in 662 (by decide +kernel) rfl
theorem lcv_X9_owes : mcv M_X9_owes 4 := ⟨tb_in 1067 (by decide +kernel) rfl, tb_in 46 (by decide +kernel) rfl, tb_in 1065 (by decide +kernel) rfl, tb_in 1066 (by decide +kernel) rfl, ⟨by decide, by decide, by decide +kernel⟩⟩
theorem llk_X9_owes : Cond.methodLink R_law 124 yX9_owes ∈ TBL := tb_in 1064 (by decide +kernel) rfl
theorem lc_owes {b L : Nat} {xs : Nat → Int32} {D : va_G} {cI cZ : ClassId} {ad1 ad2 : Nat → Nat} {i : Int} {σ τ : Mem} (hi : 0 ≤ i ∧ i + 6 ≤ L) (hL : L ≤ 3072) (hR : RR σ τ) (hσ : mokm σ) (hτ : mokm τ) (next : ∀ σ' τ', RR σ' τ' → mokm σ' → mokm τ' → LWP b L xs D cI cZ 1205 (lvI b ad1 ad2 i) [] 73 2430 (mws cI cZ ad1 GC σ' ++ mws cI cZ ad2 GM τ')) : LWP b L xs D cI cZ 927 (lvI b ad1 ad2 i) [] 73 2430 (mws cI cZ ad1 GC σ ++ mws cI cZ ad2 GM τ) := by
  have hs : SIM M_X8_owes M_X9_owes [mr 0, mi (sx xs (i + 1)), mi (sx xs (i + 2)), mi (sx xs (i + 3)), mi (sx xs (i + 4))] σ τ RR := sim_owes hR
  obtain ⟨r, PC, PM, hC, hM, hS⟩ := hs
  refine LWP.aload_n dL_law_927 rfl lvI_1 ?_
  refine LWP.arg lvI_a dL_law_928 dL_law_929 dL_law_930 dL_law_931 dL_law_932 (by decide) hi hL ?_
  refine LWP.arg lvI_a dL_law_933 dL_law_934 dL_law_935 dL_law_936 dL_law_937 (by decide) hi hL ?_
  refine LWP.arg lvI_a dL_law_938 dL_law_939 dL_law_940 dL_law_941 dL_law_942 (by decide) hi hL ?_
  refine LWP.arg lvI_a dL_law_943 dL_law_944 dL_law_945 dL_law_946 dL_law_947 (by decide) hi hL ?_
  refine LWP.call (S := []) (ad := ad1) (wr := mws cI cZ ad2 GM τ) M_X8_owes [mi (sx xs (i + 1)), mi (sx xs (i + 2)), mi (sx xs (i + 3)), mi (sx xs (i + 4))] lcv_X8_owes dL_law_948 llk_X8_owes g0 rfl ⟨by decide, by decide⟩ rfl (ok_cons (sx_ok xs _) (ok_cons (sx_ok xs _) (ok_cons (sx_ok xs _) (ok_cons (sx_ok xs _) ok_no)))) hσ hC (by decide) rfl (fun r1 σ1 hσ1 hq1 => ?_)
  obtain ⟨rfl, hq1⟩ := hq1
  refine LWP.aload_n dL_law_951 rfl lvI_2 ?_
  refine LWP.arg lvI_a dL_law_952 dL_law_953 dL_law_954 dL_law_955 dL_law_956 (by decide) hi hL ?_
  refine LWP.arg lvI_a dL_law_957 dL_law_958 dL_law_959 dL_law_960 dL_law_961 (by decide) hi hL ?_
  refine LWP.arg lvI_a dL_law_962 dL_law_963 dL_law_964 dL_law_965 dL_law_966 (by decide) hi hL ?_
  refine LWP.arg lvI_a dL_law_967 dL_law_968 dL_law_969 dL_law_970 dL_law_971 (by decide) hi hL ?_
  refine LWP.call (S := [.int (Int32.ofInt r1)]) (ad := ad2) (wr := mws cI cZ ad1 GC σ1) M_X9_owes [mi (sx xs (i + 1)), mi (sx xs (i + 2)), mi (sx xs (i + 3)), mi (sx xs (i + 4))] lcv_X9_owes dL_law_972 llk_X9_owes k0 rfl ⟨by decide, by decide⟩ rfl (ok_cons (sx_ok xs _) (ok_cons (sx_ok xs _) (ok_cons (sx_ok xs _) (ok_cons (sx_ok xs _) ok_no)))) hτ hM (Nat.le_of_ble_eq_true rfl) rfl (fun r2 τ1 hτ1 hq2 => ?_)
  obtain ⟨rfl, hq2⟩ := hq2
  refine LWP.icmp_same (tgt := 1205) dL_law_975 (by decide) ?_
  exact next σ1 τ1 (hS σ1 τ1 hσ1 hτ1 hq1 hq2) hσ1 hτ1
theorem lcv_X8_film : mcv M_X8_film 3 := ⟨tb_in 684 (by decide +kernel) rfl, tb_in 37 (by decide +kernel) rfl, tb_in 682 (by decide +kernel) rfl, tb_in 683 (by decide +kernel) rfl, ⟨by decide, by decide, by decide +kernel⟩⟩
theorem llk_X8_film : Cond.methodLink R_law 125 yX8_film ∈ TBL := tb_in 681 (by decide +kernel) rfl
theorem lcv_X9_film : mcv M_X9_film 3 := ⟨tb_in 1072 (by decide +kernel) rfl, tb_in 46 (by decide +kernel) rfl, tb_in 1070 (by decide +kernel) rfl, tb_in 1071 (by decide +kernel) rfl, ⟨by decide, by decide, by decide +kernel⟩⟩
theorem llk_X9_film : Cond.methodLink R_law 128 yX9_film ∈ TBL := tb_in 1069 (by decide +kernel) rfl
theorem lc_film {b L : Nat} {xs : Nat → Int32} {D : va_G} {cI cZ : ClassId} {ad1 ad2 : Nat → Nat} {i : Int} {σ τ : Mem} (hi : 0 ≤ i ∧ i + 6 ≤ L) (hL : L ≤ 3072) (hR : RR σ τ) (hσ : mokm σ) (hτ : mokm τ) (next : ∀ σ' τ', RR σ' τ' → mokm σ' → mokm τ' → LWP b L xs D cI cZ 1205 (lvI b ad1 ad2 i) [] 73 2430 (mws cI cZ ad1 GC σ' ++ mws cI cZ ad2 GM τ')) : LWP b L xs D cI cZ 980 (lvI b ad1 ad2 i) [] 73 2430 (mws cI cZ ad1 GC σ ++ mws cI cZ ad2 GM τ) := by
  have hs : SIM M_X8_film M_X9_film [mr 0, mi (sx xs (i + 1)), mi (sx xs (i + 2)), mi (sx xs (i + 3))] σ τ RR := sim_film hR
  obtain ⟨r, PC, PM, hC, hM, hS⟩ := hs
  refine LWP.aload_n dL_law_980 rfl lvI_1 ?_
  refine LWP.arg lvI_a dL_law_981 dL_law_982 dL_law_983 dL_law_984 dL_law_985 (by decide) hi hL ?_
  refine LWP.arg lvI_a dL_law_986 dL_law_987 dL_law_988 dL_law_989 dL_law_990 (by decide) hi hL ?_
  refine LWP.arg lvI_a dL_law_991 dL_law_992 dL_law_993 dL_law_994 dL_law_995 (by decide) hi hL ?_
  refine LWP.call (S := []) (ad := ad1) (wr := mws cI cZ ad2 GM τ) M_X8_film [mi (sx xs (i + 1)), mi (sx xs (i + 2)), mi (sx xs (i + 3))] lcv_X8_film dL_law_996 llk_X8_film g0 rfl ⟨by decide, by decide⟩ rfl (ok_cons (sx_ok xs _) (ok_cons (sx_ok xs _) (ok_cons (sx_ok xs _) ok_no))) hσ hC (by decide) rfl (fun r1 σ1 hσ1 hq1 => ?_)
  obtain ⟨rfl, hq1⟩ := hq1
  refine LWP.aload_n dL_law_999 rfl lvI_2 ?_
  refine LWP.arg lvI_a dL_law_1000 dL_law_1001 dL_law_1002 dL_law_1003 dL_law_1004 (by decide) hi hL ?_
  refine LWP.arg lvI_a dL_law_1005 dL_law_1006 dL_law_1007 dL_law_1008 dL_law_1009 (by decide) hi hL ?_
  refine LWP.arg lvI_a dL_law_1010 dL_law_1011 dL_law_1012 dL_law_1013 dL_law_1014 (by decide) hi hL ?_
  refine LWP.call (S := [.int (Int32.ofInt r1)]) (ad := ad2) (wr := mws cI cZ ad1 GC σ1) M_X9_film [mi (sx xs (i + 1)), mi (sx xs (i + 2)), mi (sx xs (i + 3))] lcv_X9_film dL_law_1015 llk_X9_film k0 rfl ⟨by decide, by decide⟩ rfl (ok_cons (sx_ok xs _) (ok_cons (sx_ok xs _) (ok_cons (sx_ok xs _) ok_no))) hτ hM (Nat.le_of_ble_eq_true rfl) rfl (fun r2 τ1 hτ1 hq2 => ?_)
  obtain ⟨rfl, hq2⟩ := hq2
  refine LWP.icmp_same (tgt := 1205) dL_law_1018 (by decide) ?_
  exact next σ1 τ1 (hS σ1 τ1 hσ1 hτ1 hq1 hq2) hσ1 hτ1
theorem lcv_X8_sheet : mcv M_X8_sheet 3 := ⟨tb_in 689 (by decide +kernel) rfl, tb_in 37 (by decide +kernel) rfl, tb_in 687 (by decide +kernel) rfl, tb_in 688 (by decide +kernel) rfl, ⟨by decide, by decide, by decide +kernel⟩⟩
theorem llk_X8_sheet : Cond.methodLink R_law 129 yX8_sheet ∈ TBL := tb_in 686 (by decide +kernel) rfl
theorem lcv_X9_sheet : mcv M_X9_sheet 3 := ⟨tb_in 1048 (by decide +kernel) rfl, tb_in 46 (by decide +kernel) rfl, tb_in 1046 (by decide +kernel) rfl, tb_in 1047 (by decide +kernel) rfl, ⟨by decide, by decide, by decide +kernel⟩⟩
theorem llk_X9_sheet : Cond.methodLink R_law 132 yX9_sheet ∈ TBL := tb_in 1045 (by decide +kernel) rfl
theorem lc_sheet {b L : Nat} {xs : Nat → Int32} {D : va_G} {cI cZ : ClassId} {ad1 ad2 : Nat → Nat} {i : Int} {σ τ : Mem} (hi : 0 ≤ i ∧ i + 6 ≤ L) (hL : L ≤ 3072) (hR : RR σ τ) (hσ : mokm σ) (hτ : mokm τ) (next : ∀ σ' τ', RR σ' τ' → mokm σ' → mokm τ' → LWP b L xs D cI cZ 1205 (lvI b ad1 ad2 i) [] 73 2430 (mws cI cZ ad1 GC σ' ++ mws cI cZ ad2 GM τ')) : LWP b L xs D cI cZ 1023 (lvI b ad1 ad2 i) [] 73 2430 (mws cI cZ ad1 GC σ ++ mws cI cZ ad2 GM τ) := by
  have hs : SIM M_X8_sheet M_X9_sheet [mr 0, mi (sx xs (i + 1)), mi (sx xs (i + 2)), mi (sx xs (i + 3))] σ τ RR := sim_sheet hR
  obtain ⟨r, PC, PM, hC, hM, hS⟩ := hs
  refine LWP.aload_n dL_law_1023 rfl lvI_1 ?_
  refine LWP.arg lvI_a dL_law_1024 dL_law_1025 dL_law_1026 dL_law_1027 dL_law_1028 (by decide) hi hL ?_
  refine LWP.arg lvI_a dL_law_1029 dL_law_1030 dL_law_1031 dL_law_1032 dL_law_1033 (by decide) hi hL ?_
  refine LWP.arg lvI_a dL_law_1034 dL_law_1035 dL_law_1036 dL_law_1037 dL_law_1038 (by decide) hi hL ?_
  refine LWP.call (S := []) (ad := ad1) (wr := mws cI cZ ad2 GM τ) M_X8_sheet [mi (sx xs (i + 1)), mi (sx xs (i + 2)), mi (sx xs (i + 3))] lcv_X8_sheet dL_law_1039 llk_X8_sheet g0 rfl ⟨by decide, by decide⟩ rfl (ok_cons (sx_ok xs _) (ok_cons (sx_ok xs _) (ok_cons (sx_ok xs _) ok_no))) hσ hC (by decide) rfl (fun r1 σ1 hσ1 hq1 => ?_)
  obtain ⟨rfl, hq1⟩ := hq1
  refine LWP.aload_n dL_law_1042 rfl lvI_2 ?_
  refine LWP.arg lvI_a dL_law_1043 dL_law_1044 dL_law_1045 dL_law_1046 dL_law_1047 (by decide) hi hL ?_
  refine LWP.arg lvI_a dL_law_1048 dL_law_1049 dL_law_1050 dL_law_1051 dL_law_1052 (by decide) hi hL ?_
  refine LWP.arg lvI_a dL_law_1053 dL_law_1054 dL_law_1055 dL_law_1056 dL_law_1057 (by decide) hi hL ?_
  refine LWP.call (S := [.int (Int32.ofInt r1)]) (ad := ad2) (wr := mws cI cZ ad1 GC σ1) M_X9_sheet [mi (sx xs (i + 1)), mi (sx xs (i + 2)), mi (sx xs (i + 3))] lcv_X9_sheet dL_law_1058 llk_X9_sheet k0 rfl ⟨by decide, by decide⟩ rfl (ok_cons (sx_ok xs _) (ok_cons (sx_ok xs _) (ok_cons (sx_ok xs _) ok_no))) hτ hM (Nat.le_of_ble_eq_true rfl) rfl (fun r2 τ1 hτ1 hq2 => ?_)
  obtain ⟨rfl, hq2⟩ := hq2
  refine LWP.icmp_same (tgt := 1205) dL_law_1061 (by decide) ?_
  exact next σ1 τ1 (hS σ1 τ1 hσ1 hτ1 hq1 hq2) hσ1 hτ1
theorem lcv_X8_drop : mcv M_X8_drop 1 := ⟨tb_in 697 (by decide +kernel) rfl, tb_in 37 (by decide +kernel) rfl, tb_in 695 (by decide +kernel) rfl, tb_in 696 (by decide +kernel) rfl, ⟨by decide, by decide, by decide +kernel⟩⟩
theorem llk_X8_drop : Cond.methodLink R_law 133 yX8_drop ∈ TBL := tb_in 694 (by decide +kernel) rfl
theorem lcv_X9_drop : mcv M_X9_drop 1 := ⟨tb_in 1055 (by decide +kernel) rfl, tb_in 46 (by decide +kernel) rfl, tb_in 1053 (by decide +kernel) rfl, tb_in 1054 (by decide +kernel) rfl, ⟨by decide, by decide, by decide +kernel⟩⟩
theorem llk_X9_drop : Cond.methodLink R_law 136 yX9_drop ∈ TBL := tb_in 1052 (by decide +kernel) rfl
theorem lc_drop {b L : Nat} {xs : Nat → Int32} {D : va_G} {cI cZ : ClassId} {ad1 ad2 : Nat → Nat} {i : Int} {σ τ : Mem} (hi : 0 ≤ i ∧ i + 6 ≤ L) (hL : L ≤ 3072) (hR : RR σ τ) (hσ : mokm σ) (hτ : mokm τ) (next : ∀ σ' τ', RR σ' τ' → mokm σ' → mokm τ' → LWP b L xs D cI cZ 1205 (lvI b ad1 ad2 i) [] 73 2430 (mws cI cZ ad1 GC σ' ++ mws cI cZ ad2 GM τ')) : LWP b L xs D cI cZ 1066 (lvI b ad1 ad2 i) [] 73 2430 (mws cI cZ ad1 GC σ ++ mws cI cZ ad2 GM τ) := by
  have hs : SIM M_X8_drop M_X9_drop [mr 0, mi (sx xs (i + 1))] σ τ RR := sim_drop hR
  obtain ⟨r, PC, PM, hC, hM, hS⟩ := hs
  refine LWP.aload_n dL_law_1066 rfl lvI_1 ?_
  refine LWP.arg lvI_a dL_law_1067 dL_law_1068 dL_law_1069 dL_law_1070 dL_law_1071 (by decide) hi hL ?_
  refine LWP.call (S := []) (ad := ad1) (wr := mws cI cZ ad2 GM τ) M_X8_drop [mi (sx xs (i + 1))] lcv_X8_drop dL_law_1072 llk_X8_drop g0 rfl ⟨by decide, by decide⟩ rfl (ok_cons (sx_ok xs _) ok_no) hσ hC (by decide) rfl (fun r1 σ1 hσ1 hq1 => ?_)
  obtain ⟨rfl, hq1⟩ := hq1
  refine LWP.aload_n dL_law_1075 rfl lvI_2 ?_
  refine LWP.arg lvI_a dL_law_1076 dL_law_1077 dL_law_1078 dL_law_1079 dL_law_1080 (by decide) hi hL ?_
  refine LWP.call (S := [.int (Int32.ofInt r1)]) (ad := ad2) (wr := mws cI cZ ad1 GC σ1) M_X9_drop [mi (sx xs (i + 1))] lcv_X9_drop dL_law_1081 llk_X9_drop k0 rfl ⟨by decide, by decide⟩ rfl (ok_cons (sx_ok xs _) ok_no) hτ hM (Nat.le_of_ble_eq_true rfl) rfl (fun r2 τ1 hτ1 hq2 => ?_)
  obtain ⟨rfl, hq2⟩ := hq2
  refine LWP.icmp_same (tgt := 1205) dL_law_1084 (by decide) ?_
  exact next σ1 τ1 (hS σ1 τ1 hσ1 hτ1 hq1 hq2) hσ1 hτ1
theorem lcv_X8_item : mcv M_X8_item 4 := ⟨tb_in 701 (by decide +kernel) rfl, tb_in 37 (by decide +kernel) rfl, tb_in 699 (by decide +kernel) rfl, tb_in 700 (by decide +kernel) rfl, ⟨by decide, by decide, by decide +kernel⟩⟩
theorem llk_X8_item : Cond.methodLink R_law 137 yX8_item ∈ TBL := tb_in 698 (by decide +kernel) rfl
theorem lcv_X9_item : mcv M_X9_item 4 := ⟨tb_in 1059 (by decide +kernel) rfl, tb_in 46 (by decide +kernel) rfl, tb_in 1057 (by decide +kernel) rfl, tb_in 1058 (by decide +kernel) rfl, ⟨by decide, by decide, by decide +kernel⟩⟩
theorem llk_X9_item : Cond.methodLink R_law 140 yX9_item ∈ TBL := tb_in 1056 (by decide +kernel) rfl
theorem lc_item {b L : Nat} {xs : Nat → Int32} {D : va_G} {cI cZ : ClassId} {ad1 ad2 : Nat → Nat} {i : Int} {σ τ : Mem} (hi : 0 ≤ i ∧ i + 6 ≤ L) (hL : L ≤ 3072) (hR : RR σ τ) (hσ : mokm σ) (hτ : mokm τ) (next : ∀ σ' τ', RR σ' τ' → mokm σ' → mokm τ' → LWP b L xs D cI cZ 1205 (lvI b ad1 ad2 i) [] 73 2430 (mws cI cZ ad1 GC σ' ++ mws cI cZ ad2 GM τ')) : LWP b L xs D cI cZ 1089 (lvI b ad1 ad2 i) [] 73 2430 (mws cI cZ ad1 GC σ ++ mws cI cZ ad2 GM τ) := by
  have hs : SIM M_X8_item M_X9_item [mr 0, mi (sx xs (i + 1)), mi (sx xs (i + 2)), mi (sx xs (i + 3)), mi (sx xs (i + 4))] σ τ RR := sim_item hR
  obtain ⟨r, PC, PM, hC, hM, hS⟩ := hs
  refine LWP.aload_n dL_law_1089 rfl lvI_1 ?_
  refine LWP.arg lvI_a dL_law_1090 dL_law_1091 dL_law_1092 dL_law_1093 dL_law_1094 (by decide) hi hL ?_
  refine LWP.arg lvI_a dL_law_1095 dL_law_1096 dL_law_1097 dL_law_1098 dL_law_1099 (by decide) hi hL ?_
  refine LWP.arg lvI_a dL_law_1100 dL_law_1101 dL_law_1102 dL_law_1103 dL_law_1104 (by decide) hi hL ?_
  refine LWP.arg lvI_a dL_law_1105 dL_law_1106 dL_law_1107 dL_law_1108 dL_law_1109 (by decide) hi hL ?_
  refine LWP.call (S := []) (ad := ad1) (wr := mws cI cZ ad2 GM τ) M_X8_item [mi (sx xs (i + 1)), mi (sx xs (i + 2)), mi (sx xs (i + 3)), mi (sx xs (i + 4))] lcv_X8_item dL_law_1110 llk_X8_item g0 rfl ⟨by decide, by decide⟩ rfl (ok_cons (sx_ok xs _) (ok_cons (sx_ok xs _) (ok_cons (sx_ok xs _) (ok_cons (sx_ok xs _) ok_no)))) hσ hC (by decide) rfl (fun r1 σ1 hσ1 hq1 => ?_)
  obtain ⟨rfl, hq1⟩ := hq1
  refine LWP.aload_n dL_law_1113 rfl lvI_2 ?_
  refine LWP.arg lvI_a dL_law_1114 dL_law_1115 dL_law_1116 dL_law_1117 dL_law_1118 (by decide) hi hL ?_
  refine LWP.arg lvI_a dL_law_1119 dL_law_1120 dL_law_1121 dL_law_1122 dL_law_1123 (by decide) hi hL ?_
  refine LWP.arg lvI_a dL_law_1124 dL_law_1125 dL_law_1126 dL_law_1127 dL_law_1128 (by decide) hi hL ?_
  refine LWP.arg lvI_a dL_law_1129 dL_law_1130 dL_law_1131 dL_law_1132 dL_law_1133 (by decide) hi hL ?_
  refine LWP.call (S := [.int (Int32.ofInt r1)]) (ad := ad2) (wr := mws cI cZ ad1 GC σ1) M_X9_item [mi (sx xs (i + 1)), mi (sx xs (i + 2)), mi (sx xs (i + 3)), mi (sx xs (i + 4))] lcv_X9_item dL_law_1134 llk_X9_item k0 rfl ⟨by decide, by decide⟩ rfl (ok_cons (sx_ok xs _) (ok_cons (sx_ok xs _) (ok_cons (sx_ok xs _) (ok_cons (sx_ok xs _) ok_no)))) hτ hM (Nat.le_of_ble_eq_true rfl) rfl (fun r2 τ1 hτ1 hq2 => ?_)
  obtain ⟨rfl, hq2⟩ := hq2
  refine LWP.icmp_same (tgt := 1205) dL_law_1137 (by decide) ?_
  exact next σ1 τ1 (hS σ1 τ1 hσ1 hτ1 hq1 hq2) hσ1 hτ1
theorem lcv_X8_copy : mcv M_X8_copy 5 := ⟨tb_in 708 (by decide +kernel) rfl, tb_in 37 (by decide +kernel) rfl, tb_in 706 (by decide +kernel) rfl, tb_in 707 (by decide +kernel) rfl, ⟨by decide, by decide, by decide +kernel⟩⟩
theorem llk_X8_copy : Cond.methodLink R_law 141 yX8_copy ∈ TBL := tb_in 705 (by decide +kernel) rfl
theorem lcv_X9_copy : mcv M_X9_copy 5 := ⟨tb_in 1076 (by decide +kernel) rfl, tb_in 46 (by decide +kernel) rfl, tb_in 1074 (by decide +kernel) rfl, tb_in 1075 (by decide +kernel) rfl, ⟨by decide, by decide, by decide +kernel⟩⟩
theorem llk_X9_copy : Cond.methodLink R_law 145 yX9_copy ∈ TBL := tb_in 1073 (by decide +kernel) rfl
theorem lc_copy {b L : Nat} {xs : Nat → Int32} {D : va_G} {cI cZ : ClassId} {ad1 ad2 : Nat → Nat} {i : Int} {σ τ : Mem} (hi : 0 ≤ i ∧ i + 6 ≤ L) (hL : L ≤ 3072) (hR : RR σ τ) (hσ : mokm σ) (hτ : mokm τ) (next : ∀ σ' τ', RR σ' τ' → mokm σ' → mokm τ' → LWP b L xs D cI cZ 1205 (lvI b ad1 ad2 i) [] 73 2430 (mws cI cZ ad1 GC σ' ++ mws cI cZ ad2 GM τ')) : LWP b L xs D cI cZ 1142 (lvI b ad1 ad2 i) [] 73 2430 (mws cI cZ ad1 GC σ ++ mws cI cZ ad2 GM τ) := by
  have hs : SIM M_X8_copy M_X9_copy [mr 0, mi (sx xs (i + 1)), mi (sx xs (i + 2)), mi (sx xs (i + 3)), mi (sx xs (i + 4)), mi (sx xs (i + 5))] σ τ RR := sim_copy hR (sx_ok xs _)
  obtain ⟨r, PC, PM, hC, hM, hS⟩ := hs
  refine LWP.aload_n dL_law_1142 rfl lvI_1 ?_
  refine LWP.arg lvI_a dL_law_1143 dL_law_1144 dL_law_1145 dL_law_1146 dL_law_1147 (by decide) hi hL ?_
  refine LWP.arg lvI_a dL_law_1148 dL_law_1149 dL_law_1150 dL_law_1151 dL_law_1152 (by decide) hi hL ?_
  refine LWP.arg lvI_a dL_law_1153 dL_law_1154 dL_law_1155 dL_law_1156 dL_law_1157 (by decide) hi hL ?_
  refine LWP.arg lvI_a dL_law_1158 dL_law_1159 dL_law_1160 dL_law_1161 dL_law_1162 (by decide) hi hL ?_
  refine LWP.arg lvI_a dL_law_1163 dL_law_1164 dL_law_1165 dL_law_1166 dL_law_1167 (by decide) hi hL ?_
  refine LWP.call (S := []) (ad := ad1) (wr := mws cI cZ ad2 GM τ) M_X8_copy [mi (sx xs (i + 1)), mi (sx xs (i + 2)), mi (sx xs (i + 3)), mi (sx xs (i + 4)), mi (sx xs (i + 5))] lcv_X8_copy dL_law_1168 llk_X8_copy g0 rfl ⟨by decide, by decide⟩ rfl (ok_cons (sx_ok xs _) (ok_cons (sx_ok xs _) (ok_cons (sx_ok xs _) (ok_cons (sx_ok xs _) (ok_cons (sx_ok xs _) ok_no))))) hσ hC (by decide) rfl (fun r1 σ1 hσ1 hq1 => ?_)
  obtain ⟨rfl, hq1⟩ := hq1
  refine LWP.aload_n dL_law_1171 rfl lvI_2 ?_
  refine LWP.arg lvI_a dL_law_1172 dL_law_1173 dL_law_1174 dL_law_1175 dL_law_1176 (by decide) hi hL ?_
  refine LWP.arg lvI_a dL_law_1177 dL_law_1178 dL_law_1179 dL_law_1180 dL_law_1181 (by decide) hi hL ?_
  refine LWP.arg lvI_a dL_law_1182 dL_law_1183 dL_law_1184 dL_law_1185 dL_law_1186 (by decide) hi hL ?_
  refine LWP.arg lvI_a dL_law_1187 dL_law_1188 dL_law_1189 dL_law_1190 dL_law_1191 (by decide) hi hL ?_
  refine LWP.arg lvI_a dL_law_1192 dL_law_1193 dL_law_1194 dL_law_1195 dL_law_1196 (by decide) hi hL ?_
  refine LWP.call (S := [.int (Int32.ofInt r1)]) (ad := ad2) (wr := mws cI cZ ad1 GC σ1) M_X9_copy [mi (sx xs (i + 1)), mi (sx xs (i + 2)), mi (sx xs (i + 3)), mi (sx xs (i + 4)), mi (sx xs (i + 5))] lcv_X9_copy dL_law_1197 llk_X9_copy k0 rfl ⟨by decide, by decide⟩ rfl (ok_cons (sx_ok xs _) (ok_cons (sx_ok xs _) (ok_cons (sx_ok xs _) (ok_cons (sx_ok xs _) (ok_cons (sx_ok xs _) ok_no))))) hτ hM (Nat.le_of_ble_eq_true rfl) rfl (fun r2 τ1 hτ1 hq2 => ?_)
  obtain ⟨rfl, hq2⟩ := hq2
  refine LWP.icmp_same (tgt := 1205) dL_law_1200 (by decide) ?_
  exact next σ1 τ1 (hS σ1 τ1 hσ1 hτ1 hq1 hq2) hσ1 hτ1
