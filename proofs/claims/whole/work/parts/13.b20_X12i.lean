/-! printed by gen/emit.py: what a walk from each cut point asks -/
def FX12_init_0 (d fc fs : Nat) (K : Shp) (H : Mem) (Q : Option AV → Shp → Mem → Prop) (v0 : Int) : Prop := Fr mX12_init (d + 1) fc fs none 0 [(0, (2, v0))] [] K H Q
set_option maxHeartbeats 4000000 in
set_option maxRecDepth 20000 in
theorem bX12_init_0 {d fc fs : Nat} {K : Shp} {H : Mem} {Q : Option AV → Shp → Mem → Prop} {v0 : Int} (h : ((0 : Int) ≤ v0) ∧ (1 ≤ fc) ∧ (20000 ≤ fs) ∧ ∀ H4 : Mem, H4 = upA H (K).length (dflt 20) → ∀ K5 : Shp, K5 = (K ++ [(20, 20000)]) → (K5[(v0 : Int).toNat]? = some (12, 51)) ∧ ∀ H8 : Mem, H8 = upA H4 (v0 : Int).toNat (up1 (H4 (v0 : Int).toNat) 1 (((K).length : Nat) : Int)) → (1 ≤ (fc - 1)) ∧ (100 ≤ (fs - 20000)) ∧ ∀ H11 : Mem, H11 = upA H8 (K5).length (dflt 20) → ∀ K12 : Shp, K12 = (K5 ++ [(20, 100)]) → ∀ H16 : Mem, H16 = upA H11 (v0 : Int).toNat (up1 (H11 (v0 : Int).toNat) 3 (((K5).length : Nat) : Int)) → (1 ≤ ((fc - 1) - 1)) ∧ (100 ≤ ((fs - 20000) - 100)) ∧ ∀ H19 : Mem, H19 = upA H16 (K12).length (dflt 20) → ∀ K20 : Shp, K20 = (K12 ++ [(20, 100)]) → ∀ H25 : Mem, H25 = upA H19 (v0 : Int).toNat (up1 (H19 (v0 : Int).toNat) 4 (((K12).length : Nat) : Int)) → (1 ≤ (((fc - 1) - 1) - 1)) ∧ (100 ≤ (((fs - 20000) - 100) - 100)) ∧ ∀ H28 : Mem, H28 = upA H25 (K20).length (dflt 20) → ∀ K29 : Shp, K29 = (K20 ++ [(20, 100)]) → ∀ H35 : Mem, H35 = upA H28 (v0 : Int).toNat (up1 (H28 (v0 : Int).toNat) 5 (((K20).length : Nat) : Int)) → (1 ≤ ((((fc - 1) - 1) - 1) - 1)) ∧ (200 ≤ ((((fs - 20000) - 100) - 100) - 100)) ∧ ∀ H38 : Mem, H38 = upA H35 (K29).length (dflt 20) → ∀ K39 : Shp, K39 = (K29 ++ [(20, 200)]) → ∀ H46 : Mem, H46 = upA H38 (v0 : Int).toNat (up1 (H38 (v0 : Int).toNat) 8 (((K29).length : Nat) : Int)) → (1 ≤ (((((fc - 1) - 1) - 1) - 1) - 1)) ∧ (4 ≤ (((((fs - 20000) - 100) - 100) - 100) - 200)) ∧ ∀ H49 : Mem, H49 = upA H46 (K39).length (dflt 20) → ∀ K50 : Shp, K50 = (K39 ++ [(20, 4)]) → ((0 : Int) < 4) ∧ ∀ H59 : Mem, H59 = upA H49 ((((K39).length : Nat) : Int) : Int).toNat (up1 (H49 ((((K39).length : Nat) : Int) : Int).toNat) (0 : Int).toNat 10) → ((1 : Int) < 4) ∧ ∀ H61 : Mem, H61 = upA H59 ((((K39).length : Nat) : Int) : Int).toNat (up1 (H59 ((((K39).length : Nat) : Int) : Int).toNat) (1 : Int).toNat 10) → ((2 : Int) < 4) ∧ ∀ H63 : Mem, H63 = upA H61 ((((K39).length : Nat) : Int) : Int).toNat (up1 (H61 ((((K39).length : Nat) : Int) : Int).toNat) (2 : Int).toNat 10) → ((3 : Int) < 4) ∧ ∀ H65 : Mem, H65 = upA H63 ((((K39).length : Nat) : Int) : Int).toNat (up1 (H63 ((((K39).length : Nat) : Int) : Int).toNat) (3 : Int).toNat 10) → ∀ H66 : Mem, H66 = upA H65 (v0 : Int).toNat (up1 (H65 (v0 : Int).toNat) 10 (((K39).length : Nat) : Int)) → (1 ≤ ((((((fc - 1) - 1) - 1) - 1) - 1) - 1)) ∧ (4 ≤ ((((((fs - 20000) - 100) - 100) - 100) - 200) - 4)) ∧ ∀ H69 : Mem, H69 = upA H66 (K50).length (dflt 20) → ∀ K70 : Shp, K70 = (K50 ++ [(20, 4)]) → ∀ H79 : Mem, H79 = upA H69 ((((K50).length : Nat) : Int) : Int).toNat (up1 (H69 ((((K50).length : Nat) : Int) : Int).toNat) (0 : Int).toNat 50) → ∀ H80 : Mem, H80 = upA H79 ((((K50).length : Nat) : Int) : Int).toNat (up1 (H79 ((((K50).length : Nat) : Int) : Int).toNat) (1 : Int).toNat 50) → ∀ H81 : Mem, H81 = upA H80 ((((K50).length : Nat) : Int) : Int).toNat (up1 (H80 ((((K50).length : Nat) : Int) : Int).toNat) (2 : Int).toNat 50) → ∀ H82 : Mem, H82 = upA H81 ((((K50).length : Nat) : Int) : Int).toNat (up1 (H81 ((((K50).length : Nat) : Int) : Int).toNat) (3 : Int).toNat 50) → ∀ H83 : Mem, H83 = upA H82 (v0 : Int).toNat (up1 (H82 (v0 : Int).toNat) 11 (((K50).length : Nat) : Int)) → (1 ≤ (((((((fc - 1) - 1) - 1) - 1) - 1) - 1) - 1)) ∧ (4 ≤ (((((((fs - 20000) - 100) - 100) - 100) - 200) - 4) - 4)) ∧ ∀ H86 : Mem, H86 = upA H83 (K70).length (dflt 20) → ∀ K87 : Shp, K87 = (K70 ++ [(20, 4)]) → ∀ H97 : Mem, H97 = upA H86 (v0 : Int).toNat (up1 (H86 (v0 : Int).toNat) 12 (((K70).length : Nat) : Int)) → (1 ≤ ((((((((fc - 1) - 1) - 1) - 1) - 1) - 1) - 1) - 1)) ∧ (4 ≤ ((((((((fs - 20000) - 100) - 100) - 100) - 200) - 4) - 4) - 4)) ∧ ∀ H100 : Mem, H100 = upA H97 (K87).length (dflt 20) → ∀ K101 : Shp, K101 = (K87 ++ [(20, 4)]) → ∀ H112 : Mem, H112 = upA H100 (v0 : Int).toNat (up1 (H100 (v0 : Int).toNat) 13 (((K87).length : Nat) : Int)) → (1 ≤ (((((((((fc - 1) - 1) - 1) - 1) - 1) - 1) - 1) - 1) - 1)) ∧ (4 ≤ (((((((((fs - 20000) - 100) - 100) - 100) - 200) - 4) - 4) - 4) - 4)) ∧ ∀ H115 : Mem, H115 = upA H112 (K101).length (dflt 20) → ∀ K116 : Shp, K116 = (K101 ++ [(20, 4)]) → ∀ H128 : Mem, H128 = upA H115 (v0 : Int).toNat (up1 (H115 (v0 : Int).toNat) 14 (((K101).length : Nat) : Int)) → (1 ≤ ((((((((((fc - 1) - 1) - 1) - 1) - 1) - 1) - 1) - 1) - 1) - 1)) ∧ (400 ≤ ((((((((((fs - 20000) - 100) - 100) - 100) - 200) - 4) - 4) - 4) - 4) - 4)) ∧ ∀ H131 : Mem, H131 = upA H128 (K116).length (dflt 20) → ∀ K132 : Shp, K132 = (K116 ++ [(20, 400)]) → ∀ H145 : Mem, H145 = upA H131 (v0 : Int).toNat (up1 (H131 (v0 : Int).toNat) 15 (((K116).length : Nat) : Int)) → (1 ≤ (((((((((((fc - 1) - 1) - 1) - 1) - 1) - 1) - 1) - 1) - 1) - 1) - 1)) ∧ (24 ≤ (((((((((((fs - 20000) - 100) - 100) - 100) - 200) - 4) - 4) - 4) - 4) - 4) - 400)) ∧ ∀ H148 : Mem, H148 = upA H145 (K132).length (dflt 20) → ∀ K149 : Shp, K149 = (K132 ++ [(20, 24)]) → ∀ H163 : Mem, H163 = upA H148 (v0 : Int).toNat (up1 (H148 (v0 : Int).toNat) 16 (((K132).length : Nat) : Int)) → (1 ≤ ((((((((((((fc - 1) - 1) - 1) - 1) - 1) - 1) - 1) - 1) - 1) - 1) - 1) - 1)) ∧ (24 ≤ ((((((((((((fs - 20000) - 100) - 100) - 100) - 200) - 4) - 4) - 4) - 4) - 4) - 400) - 24)) ∧ ∀ H166 : Mem, H166 = upA H163 (K149).length (dflt 20) → ∀ K167 : Shp, K167 = (K149 ++ [(20, 24)]) → ∀ H182 : Mem, H182 = upA H166 (v0 : Int).toNat (up1 (H166 (v0 : Int).toNat) 17 (((K149).length : Nat) : Int)) → (1 ≤ (((((((((((((fc - 1) - 1) - 1) - 1) - 1) - 1) - 1) - 1) - 1) - 1) - 1) - 1) - 1)) ∧ (6 ≤ (((((((((((((fs - 20000) - 100) - 100) - 100) - 200) - 4) - 4) - 4) - 4) - 4) - 400) - 24) - 24)) ∧ ∀ H185 : Mem, H185 = upA H182 (K167).length (dflt 20) → ∀ K186 : Shp, K186 = (K167 ++ [(20, 6)]) → ∀ H202 : Mem, H202 = upA H185 (v0 : Int).toNat (up1 (H185 (v0 : Int).toNat) 18 (((K167).length : Nat) : Int)) → (1 ≤ ((((((((((((((fc - 1) - 1) - 1) - 1) - 1) - 1) - 1) - 1) - 1) - 1) - 1) - 1) - 1) - 1)) ∧ (8 ≤ ((((((((((((((fs - 20000) - 100) - 100) - 100) - 200) - 4) - 4) - 4) - 4) - 4) - 400) - 24) - 24) - 6)) ∧ ∀ H205 : Mem, H205 = upA H202 (K186).length (dflt 20) → ∀ K206 : Shp, K206 = (K186 ++ [(20, 8)]) → ∀ H223 : Mem, H223 = upA H205 (v0 : Int).toNat (up1 (H205 (v0 : Int).toNat) 23 (((K186).length : Nat) : Int)) → (1 ≤ (((((((((((((((fc - 1) - 1) - 1) - 1) - 1) - 1) - 1) - 1) - 1) - 1) - 1) - 1) - 1) - 1) - 1)) ∧ (8 ≤ (((((((((((((((fs - 20000) - 100) - 100) - 100) - 200) - 4) - 4) - 4) - 4) - 4) - 400) - 24) - 24) - 6) - 8)) ∧ ∀ H226 : Mem, H226 = upA H223 (K206).length (dflt 20) → ∀ K227 : Shp, K227 = (K206 ++ [(20, 8)]) → ∀ H245 : Mem, H245 = upA H226 (v0 : Int).toNat (up1 (H226 (v0 : Int).toNat) 24 (((K206).length : Nat) : Int)) → (1 ≤ ((((((((((((((((fc - 1) - 1) - 1) - 1) - 1) - 1) - 1) - 1) - 1) - 1) - 1) - 1) - 1) - 1) - 1) - 1)) ∧ (4 ≤ ((((((((((((((((fs - 20000) - 100) - 100) - 100) - 200) - 4) - 4) - 4) - 4) - 4) - 400) - 24) - 24) - 6) - 8) - 8)) ∧ ∀ H248 : Mem, H248 = upA H245 (K227).length (dflt 20) → ∀ K249 : Shp, K249 = (K227 ++ [(20, 4)]) → ∀ H268 : Mem, H268 = upA H248 (v0 : Int).toNat (up1 (H248 (v0 : Int).toNat) 25 (((K227).length : Nat) : Int)) → (1 ≤ (((((((((((((((((fc - 1) - 1) - 1) - 1) - 1) - 1) - 1) - 1) - 1) - 1) - 1) - 1) - 1) - 1) - 1) - 1) - 1)) ∧ (4 ≤ (((((((((((((((((fs - 20000) - 100) - 100) - 100) - 200) - 4) - 4) - 4) - 4) - 4) - 400) - 24) - 24) - 6) - 8) - 8) - 4)) ∧ ∀ H271 : Mem, H271 = upA H268 (K249).length (dflt 20) → ∀ K272 : Shp, K272 = (K249 ++ [(20, 4)]) → ∀ H292 : Mem, H292 = upA H271 (v0 : Int).toNat (up1 (H271 (v0 : Int).toNat) 26 (((K249).length : Nat) : Int)) → (1 ≤ ((((((((((((((((((fc - 1) - 1) - 1) - 1) - 1) - 1) - 1) - 1) - 1) - 1) - 1) - 1) - 1) - 1) - 1) - 1) - 1) - 1)) ∧ (6 ≤ ((((((((((((((((((fs - 20000) - 100) - 100) - 100) - 200) - 4) - 4) - 4) - 4) - 4) - 400) - 24) - 24) - 6) - 8) - 8) - 4) - 4)) ∧ ∀ H295 : Mem, H295 = upA H292 (K272).length (dflt 20) → ∀ K296 : Shp, K296 = (K272 ++ [(20, 6)]) → ∀ H317 : Mem, H317 = upA H295 (v0 : Int).toNat (up1 (H295 (v0 : Int).toNat) 29 (((K272).length : Nat) : Int)) → (1 ≤ (((((((((((((((((((fc - 1) - 1) - 1) - 1) - 1) - 1) - 1) - 1) - 1) - 1) - 1) - 1) - 1) - 1) - 1) - 1) - 1) - 1) - 1)) ∧ (5 ≤ (((((((((((((((((((fs - 20000) - 100) - 100) - 100) - 200) - 4) - 4) - 4) - 4) - 4) - 400) - 24) - 24) - 6) - 8) - 8) - 4) - 4) - 6)) ∧ ∀ H320 : Mem, H320 = upA H317 (K296).length (dflt 20) → ∀ K321 : Shp, K321 = (K296 ++ [(20, 5)]) → ∀ H343 : Mem, H343 = upA H320 (v0 : Int).toNat (up1 (H320 (v0 : Int).toNat) 31 (((K296).length : Nat) : Int)) → (1 ≤ ((((((((((((((((((((fc - 1) - 1) - 1) - 1) - 1) - 1) - 1) - 1) - 1) - 1) - 1) - 1) - 1) - 1) - 1) - 1) - 1) - 1) - 1) - 1)) ∧ (5 ≤ ((((((((((((((((((((fs - 20000) - 100) - 100) - 100) - 200) - 4) - 4) - 4) - 4) - 4) - 400) - 24) - 24) - 6) - 8) - 8) - 4) - 4) - 6) - 5)) ∧ ∀ H346 : Mem, H346 = upA H343 (K321).length (dflt 20) → ∀ K347 : Shp, K347 = (K321 ++ [(20, 5)]) → ∀ H370 : Mem, H370 = upA H346 (v0 : Int).toNat (up1 (H346 (v0 : Int).toNat) 32 (((K321).length : Nat) : Int)) → (1 ≤ (((((((((((((((((((((fc - 1) - 1) - 1) - 1) - 1) - 1) - 1) - 1) - 1) - 1) - 1) - 1) - 1) - 1) - 1) - 1) - 1) - 1) - 1) - 1) - 1)) ∧ (5 ≤ (((((((((((((((((((((fs - 20000) - 100) - 100) - 100) - 200) - 4) - 4) - 4) - 4) - 4) - 400) - 24) - 24) - 6) - 8) - 8) - 4) - 4) - 6) - 5) - 5)) ∧ ∀ H373 : Mem, H373 = upA H370 (K347).length (dflt 20) → ∀ K374 : Shp, K374 = (K347 ++ [(20, 5)]) → ∀ H398 : Mem, H398 = upA H373 (v0 : Int).toNat (up1 (H373 (v0 : Int).toNat) 33 (((K347).length : Nat) : Int)) → (1 ≤ ((((((((((((((((((((((fc - 1) - 1) - 1) - 1) - 1) - 1) - 1) - 1) - 1) - 1) - 1) - 1) - 1) - 1) - 1) - 1) - 1) - 1) - 1) - 1) - 1) - 1)) ∧ (10 ≤ ((((((((((((((((((((((fs - 20000) - 100) - 100) - 100) - 200) - 4) - 4) - 4) - 4) - 4) - 400) - 24) - 24) - 6) - 8) - 8) - 4) - 4) - 6) - 5) - 5) - 5)) ∧ ∀ H401 : Mem, H401 = upA H398 (K374).length (dflt 20) → ∀ K402 : Shp, K402 = (K374 ++ [(20, 10)]) → ∀ H427 : Mem, H427 = upA H401 (v0 : Int).toNat (up1 (H401 (v0 : Int).toNat) 34 (((K374).length : Nat) : Int)) → (1 ≤ (((((((((((((((((((((((fc - 1) - 1) - 1) - 1) - 1) - 1) - 1) - 1) - 1) - 1) - 1) - 1) - 1) - 1) - 1) - 1) - 1) - 1) - 1) - 1) - 1) - 1) - 1)) ∧ (10 ≤ (((((((((((((((((((((((fs - 20000) - 100) - 100) - 100) - 200) - 4) - 4) - 4) - 4) - 4) - 400) - 24) - 24) - 6) - 8) - 8) - 4) - 4) - 6) - 5) - 5) - 5) - 10)) ∧ ∀ H430 : Mem, H430 = upA H427 (K402).length (dflt 20) → ∀ K431 : Shp, K431 = (K402 ++ [(20, 10)]) → ∀ H457 : Mem, H457 = upA H430 (v0 : Int).toNat (up1 (H430 (v0 : Int).toNat) 35 (((K402).length : Nat) : Int)) → (1 ≤ ((((((((((((((((((((((((fc - 1) - 1) - 1) - 1) - 1) - 1) - 1) - 1) - 1) - 1) - 1) - 1) - 1) - 1) - 1) - 1) - 1) - 1) - 1) - 1) - 1) - 1) - 1) - 1)) ∧ (2 ≤ ((((((((((((((((((((((((fs - 20000) - 100) - 100) - 100) - 200) - 4) - 4) - 4) - 4) - 4) - 400) - 24) - 24) - 6) - 8) - 8) - 4) - 4) - 6) - 5) - 5) - 5) - 10) - 10)) ∧ ∀ H460 : Mem, H460 = upA H457 (K431).length (dflt 22) → ∀ K461 : Shp, K461 = (K431 ++ [(22, 2)]) → ∀ H488 : Mem, H488 = upA H460 (v0 : Int).toNat (up1 (H460 (v0 : Int).toNat) 36 (((K431).length : Nat) : Int)) → (1 ≤ (((((((((((((((((((((((((fc - 1) - 1) - 1) - 1) - 1) - 1) - 1) - 1) - 1) - 1) - 1) - 1) - 1) - 1) - 1) - 1) - 1) - 1) - 1) - 1) - 1) - 1) - 1) - 1) - 1)) ∧ (48 ≤ (((((((((((((((((((((((((fs - 20000) - 100) - 100) - 100) - 200) - 4) - 4) - 4) - 4) - 4) - 400) - 24) - 24) - 6) - 8) - 8) - 4) - 4) - 6) - 5) - 5) - 5) - 10) - 10) - 2)) ∧ ∀ H491 : Mem, H491 = upA H488 (K461).length (dflt 20) → ∀ K492 : Shp, K492 = (K461 ++ [(20, 48)]) → ∀ H520 : Mem, H520 = upA H491 (v0 : Int).toNat (up1 (H491 (v0 : Int).toNat) 49 (((K461).length : Nat) : Int)) → Q none K492 H520) : FX12_init_0 d fc fs K H Q (v0) := by
  unfold FX12_init_0
  refine r_aload_n 0 dX12_init_0 rfl rfl ?_
  obtain ⟨h1, h⟩ := h
  refine r_objInit dX12_init_1 ml_RX12_1 im_obj co_obj h1 (Nat.le_of_ble_eq_true rfl) ?_
  refine r_aload_n 0 dX12_init_4 rfl rfl ?_
  refine r_sipush dX12_init_5 (by decide) (by decide) ?_
  obtain ⟨h2, h⟩ := h
  obtain ⟨h3, h⟩ := h
  refine r_newa' (N := 20000) 20 0 .int dX12_init_8 (by decide) rfl ac_int rfl (by decide) h2 h3 ?_
  replace h := h _ rfl
  generalize upA H (K).length (dflt 20) = H4 at h ⊢
  have k6 := kn_new (K := K) (q := (20, 20000))
  replace h := h _ rfl
  generalize (K ++ [(20, 20000)]) = K5 at h k6 ⊢
  obtain ⟨h7, h⟩ := h
  refine r_putfF cls12 1 dX12_init_10 (by decide) rfl rfl rfl fl_RX12_7 rfl h1 h7 (fun o => ⟨(by omega), o⟩) ?_
  replace h := h _ rfl
  generalize upA H4 (v0 : Int).toNat (up1 (H4 (v0 : Int).toNat) 1 (((K).length : Nat) : Int)) = H8 at h ⊢
  refine r_aload_n 0 dX12_init_13 rfl rfl ?_
  refine r_bipush dX12_init_14 (by decide) (by decide) ?_
  obtain ⟨h9, h⟩ := h
  obtain ⟨h10, h⟩ := h
  refine r_newa' (N := 100) 20 0 .int dX12_init_16 (by decide) rfl ac_int rfl (by decide) h9 h10 ?_
  replace h := h _ rfl
  generalize upA H8 (K5).length (dflt 20) = H11 at h ⊢
  have k13 := kn_app (l := [(20, 100)]) k6
  have k14 := kn_app (l := [(20, 100)]) h7
  have k15 := kn_new (K := K5) (q := (20, 100))
  replace h := h _ rfl
  generalize (K5 ++ [(20, 100)]) = K12 at h k13 k14 k15 ⊢
  refine r_putfF cls12 3 dX12_init_18 (by decide) rfl rfl rfl fl_RX12_13 rfl h1 k14 (fun o => ⟨(by omega), o⟩) ?_
  replace h := h _ rfl
  generalize upA H11 (v0 : Int).toNat (up1 (H11 (v0 : Int).toNat) 3 (((K5).length : Nat) : Int)) = H16 at h ⊢
  refine r_aload_n 0 dX12_init_21 rfl rfl ?_
  refine r_bipush dX12_init_22 (by decide) (by decide) ?_
  obtain ⟨h17, h⟩ := h
  obtain ⟨h18, h⟩ := h
  refine r_newa' (N := 100) 20 0 .int dX12_init_24 (by decide) rfl ac_int rfl (by decide) h17 h18 ?_
  replace h := h _ rfl
  generalize upA H16 (K12).length (dflt 20) = H19 at h ⊢
  have k21 := kn_app (l := [(20, 100)]) k13
  have k22 := kn_app (l := [(20, 100)]) k14
  have k23 := kn_app (l := [(20, 100)]) k15
  have k24 := kn_new (K := K12) (q := (20, 100))
  replace h := h _ rfl
  generalize (K12 ++ [(20, 100)]) = K20 at h k21 k22 k23 k24 ⊢
  refine r_putfF cls12 4 dX12_init_26 (by decide) rfl rfl rfl fl_RX12_16 rfl h1 k22 (fun o => ⟨(by omega), o⟩) ?_
  replace h := h _ rfl
  generalize upA H19 (v0 : Int).toNat (up1 (H19 (v0 : Int).toNat) 4 (((K12).length : Nat) : Int)) = H25 at h ⊢
  refine r_aload_n 0 dX12_init_29 rfl rfl ?_
  refine r_bipush dX12_init_30 (by decide) (by decide) ?_
  obtain ⟨h26, h⟩ := h
  obtain ⟨h27, h⟩ := h
  refine r_newa' (N := 100) 20 0 .int dX12_init_32 (by decide) rfl ac_int rfl (by decide) h26 h27 ?_
  replace h := h _ rfl
  generalize upA H25 (K20).length (dflt 20) = H28 at h ⊢
  have k30 := kn_app (l := [(20, 100)]) k21
  have k31 := kn_app (l := [(20, 100)]) k22
  have k32 := kn_app (l := [(20, 100)]) k23
  have k33 := kn_app (l := [(20, 100)]) k24
  have k34 := kn_new (K := K20) (q := (20, 100))
  replace h := h _ rfl
  generalize (K20 ++ [(20, 100)]) = K29 at h k30 k31 k32 k33 k34 ⊢
  refine r_putfF cls12 5 dX12_init_34 (by decide) rfl rfl rfl fl_RX12_19 rfl h1 k31 (fun o => ⟨(by omega), o⟩) ?_
  replace h := h _ rfl
  generalize upA H28 (v0 : Int).toNat (up1 (H28 (v0 : Int).toNat) 5 (((K20).length : Nat) : Int)) = H35 at h ⊢
  refine r_aload_n 0 dX12_init_37 rfl rfl ?_
  refine r_sipush dX12_init_38 (by decide) (by decide) ?_
  obtain ⟨h36, h⟩ := h
  obtain ⟨h37, h⟩ := h
  refine r_newa' (N := 200) 20 0 .int dX12_init_41 (by decide) rfl ac_int rfl (by decide) h36 h37 ?_
  replace h := h _ rfl
  generalize upA H35 (K29).length (dflt 20) = H38 at h ⊢
  have k40 := kn_app (l := [(20, 200)]) k30
  have k41 := kn_app (l := [(20, 200)]) k31
  have k42 := kn_app (l := [(20, 200)]) k32
  have k43 := kn_app (l := [(20, 200)]) k33
  have k44 := kn_app (l := [(20, 200)]) k34
  have k45 := kn_new (K := K29) (q := (20, 200))
  replace h := h _ rfl
  generalize (K29 ++ [(20, 200)]) = K39 at h k40 k41 k42 k43 k44 k45 ⊢
  refine r_putfF cls12 8 dX12_init_43 (by decide) rfl rfl rfl fl_RX12_22 rfl h1 k41 (fun o => ⟨(by omega), o⟩) ?_
  replace h := h _ rfl
  generalize upA H38 (v0 : Int).toNat (up1 (H38 (v0 : Int).toNat) 8 (((K29).length : Nat) : Int)) = H46 at h ⊢
  refine r_aload_n 0 dX12_init_46 rfl rfl ?_
  refine r_iconst dX12_init_47 (by decide) (by decide) ?_
  obtain ⟨h47, h⟩ := h
  obtain ⟨h48, h⟩ := h
  refine r_newa' (N := 4) 20 0 .int dX12_init_48 (by decide) rfl ac_int rfl (by decide) h47 h48 ?_
  replace h := h _ rfl
  generalize upA H46 (K39).length (dflt 20) = H49 at h ⊢
  have k51 := kn_app (l := [(20, 4)]) k40
  have k52 := kn_app (l := [(20, 4)]) k41
  have k53 := kn_app (l := [(20, 4)]) k42
  have k54 := kn_app (l := [(20, 4)]) k43
  have k55 := kn_app (l := [(20, 4)]) k44
  have k56 := kn_app (l := [(20, 4)]) k45
  have k57 := kn_new (K := K39) (q := (20, 4))
  replace h := h _ rfl
  generalize (K39 ++ [(20, 4)]) = K50 at h k51 k52 k53 k54 k55 k56 k57 ⊢
  refine r_dup dX12_init_50 (show (2 : Nat) ≠ 1 by decide) ?_
  refine r_iconst dX12_init_51 (by decide) (by decide) ?_
  refine r_bipush dX12_init_52 (by decide) (by decide) ?_
  obtain ⟨h58, h⟩ := h
  refine r_iast 4 dX12_init_54 (Int.natCast_nonneg _) k57 (by decide) h58 ?_
  replace h := h _ rfl
  generalize upA H49 ((((K39).length : Nat) : Int) : Int).toNat (up1 (H49 ((((K39).length : Nat) : Int) : Int).toNat) (0 : Int).toNat 10) = H59 at h ⊢
  refine r_dup dX12_init_55 (show (2 : Nat) ≠ 1 by decide) ?_
  refine r_iconst dX12_init_56 (by decide) (by decide) ?_
  refine r_bipush dX12_init_57 (by decide) (by decide) ?_
  obtain ⟨h60, h⟩ := h
  refine r_iast 4 dX12_init_59 (Int.natCast_nonneg _) k57 (by decide) h60 ?_
  replace h := h _ rfl
  generalize upA H59 ((((K39).length : Nat) : Int) : Int).toNat (up1 (H59 ((((K39).length : Nat) : Int) : Int).toNat) (1 : Int).toNat 10) = H61 at h ⊢
  refine r_dup dX12_init_60 (show (2 : Nat) ≠ 1 by decide) ?_
  refine r_iconst dX12_init_61 (by decide) (by decide) ?_
  refine r_bipush dX12_init_62 (by decide) (by decide) ?_
  obtain ⟨h62, h⟩ := h
  refine r_iast 4 dX12_init_64 (Int.natCast_nonneg _) k57 (by decide) h62 ?_
  replace h := h _ rfl
  generalize upA H61 ((((K39).length : Nat) : Int) : Int).toNat (up1 (H61 ((((K39).length : Nat) : Int) : Int).toNat) (2 : Int).toNat 10) = H63 at h ⊢
  refine r_dup dX12_init_65 (show (2 : Nat) ≠ 1 by decide) ?_
  refine r_iconst dX12_init_66 (by decide) (by decide) ?_
  refine r_bipush dX12_init_67 (by decide) (by decide) ?_
  obtain ⟨h64, h⟩ := h
  refine r_iast 4 dX12_init_69 (Int.natCast_nonneg _) k57 (by decide) h64 ?_
  replace h := h _ rfl
  generalize upA H63 ((((K39).length : Nat) : Int) : Int).toNat (up1 (H63 ((((K39).length : Nat) : Int) : Int).toNat) (3 : Int).toNat 10) = H65 at h ⊢
  refine r_putfF cls12 10 dX12_init_70 (by decide) rfl rfl rfl fl_RX12_25 rfl h1 k52 (fun o => ⟨(by omega), o⟩) ?_
  replace h := h _ rfl
  generalize upA H65 (v0 : Int).toNat (up1 (H65 (v0 : Int).toNat) 10 (((K39).length : Nat) : Int)) = H66 at h ⊢
  refine r_aload_n 0 dX12_init_73 rfl rfl ?_
  refine r_iconst dX12_init_74 (by decide) (by decide) ?_
  obtain ⟨h67, h⟩ := h
  obtain ⟨h68, h⟩ := h
  refine r_newa' (N := 4) 20 0 .int dX12_init_75 (by decide) rfl ac_int rfl (by decide) h67 h68 ?_
  replace h := h _ rfl
  generalize upA H66 (K50).length (dflt 20) = H69 at h ⊢
  have k71 := kn_app (l := [(20, 4)]) k51
  have k72 := kn_app (l := [(20, 4)]) k52
  have k73 := kn_app (l := [(20, 4)]) k53
  have k74 := kn_app (l := [(20, 4)]) k54
  have k75 := kn_app (l := [(20, 4)]) k55
  have k76 := kn_app (l := [(20, 4)]) k56
  have k77 := kn_app (l := [(20, 4)]) k57
  have k78 := kn_new (K := K50) (q := (20, 4))
  replace h := h _ rfl
  generalize (K50 ++ [(20, 4)]) = K70 at h k71 k72 k73 k74 k75 k76 k77 k78 ⊢
  refine r_dup dX12_init_77 (show (2 : Nat) ≠ 1 by decide) ?_
  refine r_iconst dX12_init_78 (by decide) (by decide) ?_
  refine r_bipush dX12_init_79 (by decide) (by decide) ?_
  refine r_iast 4 dX12_init_81 (Int.natCast_nonneg _) k78 (by decide) h58 ?_
  replace h := h _ rfl
  generalize upA H69 ((((K50).length : Nat) : Int) : Int).toNat (up1 (H69 ((((K50).length : Nat) : Int) : Int).toNat) (0 : Int).toNat 50) = H79 at h ⊢
  refine r_dup dX12_init_82 (show (2 : Nat) ≠ 1 by decide) ?_
  refine r_iconst dX12_init_83 (by decide) (by decide) ?_
  refine r_bipush dX12_init_84 (by decide) (by decide) ?_
  refine r_iast 4 dX12_init_86 (Int.natCast_nonneg _) k78 (by decide) h60 ?_
  replace h := h _ rfl
  generalize upA H79 ((((K50).length : Nat) : Int) : Int).toNat (up1 (H79 ((((K50).length : Nat) : Int) : Int).toNat) (1 : Int).toNat 50) = H80 at h ⊢
  refine r_dup dX12_init_87 (show (2 : Nat) ≠ 1 by decide) ?_
  refine r_iconst dX12_init_88 (by decide) (by decide) ?_
  refine r_bipush dX12_init_89 (by decide) (by decide) ?_
  refine r_iast 4 dX12_init_91 (Int.natCast_nonneg _) k78 (by decide) h62 ?_
  replace h := h _ rfl
  generalize upA H80 ((((K50).length : Nat) : Int) : Int).toNat (up1 (H80 ((((K50).length : Nat) : Int) : Int).toNat) (2 : Int).toNat 50) = H81 at h ⊢
  refine r_dup dX12_init_92 (show (2 : Nat) ≠ 1 by decide) ?_
  refine r_iconst dX12_init_93 (by decide) (by decide) ?_
  refine r_bipush dX12_init_94 (by decide) (by decide) ?_
  refine r_iast 4 dX12_init_96 (Int.natCast_nonneg _) k78 (by decide) h64 ?_
  replace h := h _ rfl
  generalize upA H81 ((((K50).length : Nat) : Int) : Int).toNat (up1 (H81 ((((K50).length : Nat) : Int) : Int).toNat) (3 : Int).toNat 50) = H82 at h ⊢
  refine r_putfF cls12 11 dX12_init_97 (by decide) rfl rfl rfl fl_RX12_28 rfl h1 k72 (fun o => ⟨(by omega), o⟩) ?_
  replace h := h _ rfl
  generalize upA H82 (v0 : Int).toNat (up1 (H82 (v0 : Int).toNat) 11 (((K50).length : Nat) : Int)) = H83 at h ⊢
  refine r_aload_n 0 dX12_init_100 rfl rfl ?_
  refine r_iconst dX12_init_101 (by decide) (by decide) ?_
  obtain ⟨h84, h⟩ := h
  obtain ⟨h85, h⟩ := h
  refine r_newa' (N := 4) 20 0 .int dX12_init_102 (by decide) rfl ac_int rfl (by decide) h84 h85 ?_
  replace h := h _ rfl
  generalize upA H83 (K70).length (dflt 20) = H86 at h ⊢
  have k88 := kn_app (l := [(20, 4)]) k71
  have k89 := kn_app (l := [(20, 4)]) k72
  have k90 := kn_app (l := [(20, 4)]) k73
  have k91 := kn_app (l := [(20, 4)]) k74
  have k92 := kn_app (l := [(20, 4)]) k75
  have k93 := kn_app (l := [(20, 4)]) k76
  have k94 := kn_app (l := [(20, 4)]) k77
  have k95 := kn_app (l := [(20, 4)]) k78
  have k96 := kn_new (K := K70) (q := (20, 4))
  replace h := h _ rfl
  generalize (K70 ++ [(20, 4)]) = K87 at h k88 k89 k90 k91 k92 k93 k94 k95 k96 ⊢
  refine r_putfF cls12 12 dX12_init_104 (by decide) rfl rfl rfl fl_RX12_31 rfl h1 k89 (fun o => ⟨(by omega), o⟩) ?_
  replace h := h _ rfl
  generalize upA H86 (v0 : Int).toNat (up1 (H86 (v0 : Int).toNat) 12 (((K70).length : Nat) : Int)) = H97 at h ⊢
  refine r_aload_n 0 dX12_init_107 rfl rfl ?_
  refine r_iconst dX12_init_108 (by decide) (by decide) ?_
  obtain ⟨h98, h⟩ := h
  obtain ⟨h99, h⟩ := h
  refine r_newa' (N := 4) 20 0 .int dX12_init_109 (by decide) rfl ac_int rfl (by decide) h98 h99 ?_
  replace h := h _ rfl
  generalize upA H97 (K87).length (dflt 20) = H100 at h ⊢
  have k102 := kn_app (l := [(20, 4)]) k88
  have k103 := kn_app (l := [(20, 4)]) k89
  have k104 := kn_app (l := [(20, 4)]) k90
  have k105 := kn_app (l := [(20, 4)]) k91
  have k106 := kn_app (l := [(20, 4)]) k92
  have k107 := kn_app (l := [(20, 4)]) k93
  have k108 := kn_app (l := [(20, 4)]) k94
  have k109 := kn_app (l := [(20, 4)]) k95
  have k110 := kn_app (l := [(20, 4)]) k96
  have k111 := kn_new (K := K87) (q := (20, 4))
  replace h := h _ rfl
  generalize (K87 ++ [(20, 4)]) = K101 at h k102 k103 k104 k105 k106 k107 k108 k109 k110 k111 ⊢
  refine r_putfF cls12 13 dX12_init_111 (by decide) rfl rfl rfl fl_RX12_34 rfl h1 k103 (fun o => ⟨(by omega), o⟩) ?_
  replace h := h _ rfl
  generalize upA H100 (v0 : Int).toNat (up1 (H100 (v0 : Int).toNat) 13 (((K87).length : Nat) : Int)) = H112 at h ⊢
  refine r_aload_n 0 dX12_init_114 rfl rfl ?_
  refine r_iconst dX12_init_115 (by decide) (by decide) ?_
  obtain ⟨h113, h⟩ := h
  obtain ⟨h114, h⟩ := h
  refine r_newa' (N := 4) 20 0 .int dX12_init_116 (by decide) rfl ac_int rfl (by decide) h113 h114 ?_
  replace h := h _ rfl
  generalize upA H112 (K101).length (dflt 20) = H115 at h ⊢
  have k117 := kn_app (l := [(20, 4)]) k102
  have k118 := kn_app (l := [(20, 4)]) k103
  have k119 := kn_app (l := [(20, 4)]) k104
  have k120 := kn_app (l := [(20, 4)]) k105
  have k121 := kn_app (l := [(20, 4)]) k106
  have k122 := kn_app (l := [(20, 4)]) k107
  have k123 := kn_app (l := [(20, 4)]) k108
  have k124 := kn_app (l := [(20, 4)]) k109
  have k125 := kn_app (l := [(20, 4)]) k110
  have k126 := kn_app (l := [(20, 4)]) k111
  have k127 := kn_new (K := K101) (q := (20, 4))
  replace h := h _ rfl
  generalize (K101 ++ [(20, 4)]) = K116 at h k117 k118 k119 k120 k121 k122 k123 k124 k125 k126 k127 ⊢
  refine r_putfF cls12 14 dX12_init_118 (by decide) rfl rfl rfl fl_RX12_37 rfl h1 k118 (fun o => ⟨(by omega), o⟩) ?_
  replace h := h _ rfl
  generalize upA H115 (v0 : Int).toNat (up1 (H115 (v0 : Int).toNat) 14 (((K101).length : Nat) : Int)) = H128 at h ⊢
  refine r_aload_n 0 dX12_init_121 rfl rfl ?_
  refine r_sipush dX12_init_122 (by decide) (by decide) ?_
  obtain ⟨h129, h⟩ := h
  obtain ⟨h130, h⟩ := h
  refine r_newa' (N := 400) 20 0 .int dX12_init_125 (by decide) rfl ac_int rfl (by decide) h129 h130 ?_
  replace h := h _ rfl
  generalize upA H128 (K116).length (dflt 20) = H131 at h ⊢
  have k133 := kn_app (l := [(20, 400)]) k117
  have k134 := kn_app (l := [(20, 400)]) k118
  have k135 := kn_app (l := [(20, 400)]) k119
  have k136 := kn_app (l := [(20, 400)]) k120
  have k137 := kn_app (l := [(20, 400)]) k121
  have k138 := kn_app (l := [(20, 400)]) k122
  have k139 := kn_app (l := [(20, 400)]) k123
  have k140 := kn_app (l := [(20, 400)]) k124
  have k141 := kn_app (l := [(20, 400)]) k125
  have k142 := kn_app (l := [(20, 400)]) k126
  have k143 := kn_app (l := [(20, 400)]) k127
  have k144 := kn_new (K := K116) (q := (20, 400))
  replace h := h _ rfl
  generalize (K116 ++ [(20, 400)]) = K132 at h k133 k134 k135 k136 k137 k138 k139 k140 k141 k142 k143 k144 ⊢
  refine r_putfF cls12 15 dX12_init_127 (by decide) rfl rfl rfl fl_RX12_40 rfl h1 k134 (fun o => ⟨(by omega), o⟩) ?_
  replace h := h _ rfl
  generalize upA H131 (v0 : Int).toNat (up1 (H131 (v0 : Int).toNat) 15 (((K116).length : Nat) : Int)) = H145 at h ⊢
  refine r_aload_n 0 dX12_init_130 rfl rfl ?_
  refine r_bipush dX12_init_131 (by decide) (by decide) ?_
  obtain ⟨h146, h⟩ := h
  obtain ⟨h147, h⟩ := h
  refine r_newa' (N := 24) 20 0 .int dX12_init_133 (by decide) rfl ac_int rfl (by decide) h146 h147 ?_
  replace h := h _ rfl
  generalize upA H145 (K132).length (dflt 20) = H148 at h ⊢
  have k150 := kn_app (l := [(20, 24)]) k133
  have k151 := kn_app (l := [(20, 24)]) k134
  have k152 := kn_app (l := [(20, 24)]) k135
  have k153 := kn_app (l := [(20, 24)]) k136
  have k154 := kn_app (l := [(20, 24)]) k137
  have k155 := kn_app (l := [(20, 24)]) k138
  have k156 := kn_app (l := [(20, 24)]) k139
  have k157 := kn_app (l := [(20, 24)]) k140
  have k158 := kn_app (l := [(20, 24)]) k141
  have k159 := kn_app (l := [(20, 24)]) k142
  have k160 := kn_app (l := [(20, 24)]) k143
  have k161 := kn_app (l := [(20, 24)]) k144
  have k162 := kn_new (K := K132) (q := (20, 24))
  replace h := h _ rfl
  generalize (K132 ++ [(20, 24)]) = K149 at h k150 k151 k152 k153 k154 k155 k156 k157 k158 k159 k160 k161 k162 ⊢
  refine r_putfF cls12 16 dX12_init_135 (by decide) rfl rfl rfl fl_RX12_43 rfl h1 k151 (fun o => ⟨(by omega), o⟩) ?_
  replace h := h _ rfl
  generalize upA H148 (v0 : Int).toNat (up1 (H148 (v0 : Int).toNat) 16 (((K132).length : Nat) : Int)) = H163 at h ⊢
  refine r_aload_n 0 dX12_init_138 rfl rfl ?_
  refine r_bipush dX12_init_139 (by decide) (by decide) ?_
  obtain ⟨h164, h⟩ := h
  obtain ⟨h165, h⟩ := h
  refine r_newa' (N := 24) 20 0 .int dX12_init_141 (by decide) rfl ac_int rfl (by decide) h164 h165 ?_
  replace h := h _ rfl
  generalize upA H163 (K149).length (dflt 20) = H166 at h ⊢
  have k168 := kn_app (l := [(20, 24)]) k150
  have k169 := kn_app (l := [(20, 24)]) k151
  have k170 := kn_app (l := [(20, 24)]) k152
  have k171 := kn_app (l := [(20, 24)]) k153
  have k172 := kn_app (l := [(20, 24)]) k154
  have k173 := kn_app (l := [(20, 24)]) k155
  have k174 := kn_app (l := [(20, 24)]) k156
  have k175 := kn_app (l := [(20, 24)]) k157
  have k176 := kn_app (l := [(20, 24)]) k158
  have k177 := kn_app (l := [(20, 24)]) k159
  have k178 := kn_app (l := [(20, 24)]) k160
  have k179 := kn_app (l := [(20, 24)]) k161
  have k180 := kn_app (l := [(20, 24)]) k162
  have k181 := kn_new (K := K149) (q := (20, 24))
  replace h := h _ rfl
  generalize (K149 ++ [(20, 24)]) = K167 at h k168 k169 k170 k171 k172 k173 k174 k175 k176 k177 k178 k179 k180 k181 ⊢
  refine r_putfF cls12 17 dX12_init_143 (by decide) rfl rfl rfl fl_RX12_46 rfl h1 k169 (fun o => ⟨(by omega), o⟩) ?_
  replace h := h _ rfl
  generalize upA H166 (v0 : Int).toNat (up1 (H166 (v0 : Int).toNat) 17 (((K149).length : Nat) : Int)) = H182 at h ⊢
  refine r_aload_n 0 dX12_init_146 rfl rfl ?_
  refine r_bipush dX12_init_147 (by decide) (by decide) ?_
  obtain ⟨h183, h⟩ := h
  obtain ⟨h184, h⟩ := h
  refine r_newa' (N := 6) 20 0 .int dX12_init_149 (by decide) rfl ac_int rfl (by decide) h183 h184 ?_
  replace h := h _ rfl
  generalize upA H182 (K167).length (dflt 20) = H185 at h ⊢
  have k187 := kn_app (l := [(20, 6)]) k168
  have k188 := kn_app (l := [(20, 6)]) k169
  have k189 := kn_app (l := [(20, 6)]) k170
  have k190 := kn_app (l := [(20, 6)]) k171
  have k191 := kn_app (l := [(20, 6)]) k172
  have k192 := kn_app (l := [(20, 6)]) k173
  have k193 := kn_app (l := [(20, 6)]) k174
  have k194 := kn_app (l := [(20, 6)]) k175
  have k195 := kn_app (l := [(20, 6)]) k176
  have k196 := kn_app (l := [(20, 6)]) k177
  have k197 := kn_app (l := [(20, 6)]) k178
  have k198 := kn_app (l := [(20, 6)]) k179
  have k199 := kn_app (l := [(20, 6)]) k180
  have k200 := kn_app (l := [(20, 6)]) k181
  have k201 := kn_new (K := K167) (q := (20, 6))
  replace h := h _ rfl
  generalize (K167 ++ [(20, 6)]) = K186 at h k187 k188 k189 k190 k191 k192 k193 k194 k195 k196 k197 k198 k199 k200 k201 ⊢
  refine r_putfF cls12 18 dX12_init_151 (by decide) rfl rfl rfl fl_RX12_49 rfl h1 k188 (fun o => ⟨(by omega), o⟩) ?_
  replace h := h _ rfl
  generalize upA H185 (v0 : Int).toNat (up1 (H185 (v0 : Int).toNat) 18 (((K167).length : Nat) : Int)) = H202 at h ⊢
  refine r_aload_n 0 dX12_init_154 rfl rfl ?_
  refine r_bipush dX12_init_155 (by decide) (by decide) ?_
  obtain ⟨h203, h⟩ := h
  obtain ⟨h204, h⟩ := h
  refine r_newa' (N := 8) 20 0 .int dX12_init_157 (by decide) rfl ac_int rfl (by decide) h203 h204 ?_
  replace h := h _ rfl
  generalize upA H202 (K186).length (dflt 20) = H205 at h ⊢
  have k207 := kn_app (l := [(20, 8)]) k187
  have k208 := kn_app (l := [(20, 8)]) k188
  have k209 := kn_app (l := [(20, 8)]) k189
  have k210 := kn_app (l := [(20, 8)]) k190
  have k211 := kn_app (l := [(20, 8)]) k191
  have k212 := kn_app (l := [(20, 8)]) k192
  have k213 := kn_app (l := [(20, 8)]) k193
  have k214 := kn_app (l := [(20, 8)]) k194
  have k215 := kn_app (l := [(20, 8)]) k195
  have k216 := kn_app (l := [(20, 8)]) k196
  have k217 := kn_app (l := [(20, 8)]) k197
  have k218 := kn_app (l := [(20, 8)]) k198
  have k219 := kn_app (l := [(20, 8)]) k199
  have k220 := kn_app (l := [(20, 8)]) k200
  have k221 := kn_app (l := [(20, 8)]) k201
  have k222 := kn_new (K := K186) (q := (20, 8))
  replace h := h _ rfl
  generalize (K186 ++ [(20, 8)]) = K206 at h k207 k208 k209 k210 k211 k212 k213 k214 k215 k216 k217 k218 k219 k220 k221 k222 ⊢
  refine r_putfF cls12 23 dX12_init_159 (by decide) rfl rfl rfl fl_RX12_52 rfl h1 k208 (fun o => ⟨(by omega), o⟩) ?_
  replace h := h _ rfl
  generalize upA H205 (v0 : Int).toNat (up1 (H205 (v0 : Int).toNat) 23 (((K186).length : Nat) : Int)) = H223 at h ⊢
  refine r_aload_n 0 dX12_init_162 rfl rfl ?_
  refine r_bipush dX12_init_163 (by decide) (by decide) ?_
  obtain ⟨h224, h⟩ := h
  obtain ⟨h225, h⟩ := h
  refine r_newa' (N := 8) 20 0 .int dX12_init_165 (by decide) rfl ac_int rfl (by decide) h224 h225 ?_
  replace h := h _ rfl
  generalize upA H223 (K206).length (dflt 20) = H226 at h ⊢
  have k228 := kn_app (l := [(20, 8)]) k207
  have k229 := kn_app (l := [(20, 8)]) k208
  have k230 := kn_app (l := [(20, 8)]) k209
  have k231 := kn_app (l := [(20, 8)]) k210
  have k232 := kn_app (l := [(20, 8)]) k211
  have k233 := kn_app (l := [(20, 8)]) k212
  have k234 := kn_app (l := [(20, 8)]) k213
  have k235 := kn_app (l := [(20, 8)]) k214
  have k236 := kn_app (l := [(20, 8)]) k215
  have k237 := kn_app (l := [(20, 8)]) k216
  have k238 := kn_app (l := [(20, 8)]) k217
  have k239 := kn_app (l := [(20, 8)]) k218
  have k240 := kn_app (l := [(20, 8)]) k219
  have k241 := kn_app (l := [(20, 8)]) k220
  have k242 := kn_app (l := [(20, 8)]) k221
  have k243 := kn_app (l := [(20, 8)]) k222
  have k244 := kn_new (K := K206) (q := (20, 8))
  replace h := h _ rfl
  generalize (K206 ++ [(20, 8)]) = K227 at h k228 k229 k230 k231 k232 k233 k234 k235 k236 k237 k238 k239 k240 k241 k242 k243 k244 ⊢
  refine r_putfF cls12 24 dX12_init_167 (by decide) rfl rfl rfl fl_RX12_55 rfl h1 k229 (fun o => ⟨(by omega), o⟩) ?_
  replace h := h _ rfl
  generalize upA H226 (v0 : Int).toNat (up1 (H226 (v0 : Int).toNat) 24 (((K206).length : Nat) : Int)) = H245 at h ⊢
  refine r_aload_n 0 dX12_init_170 rfl rfl ?_
  refine r_iconst dX12_init_171 (by decide) (by decide) ?_
  obtain ⟨h246, h⟩ := h
  obtain ⟨h247, h⟩ := h
  refine r_newa' (N := 4) 20 0 .int dX12_init_172 (by decide) rfl ac_int rfl (by decide) h246 h247 ?_
  replace h := h _ rfl
  generalize upA H245 (K227).length (dflt 20) = H248 at h ⊢
  have k250 := kn_app (l := [(20, 4)]) k228
  have k251 := kn_app (l := [(20, 4)]) k229
  have k252 := kn_app (l := [(20, 4)]) k230
  have k253 := kn_app (l := [(20, 4)]) k231
  have k254 := kn_app (l := [(20, 4)]) k232
  have k255 := kn_app (l := [(20, 4)]) k233
  have k256 := kn_app (l := [(20, 4)]) k234
  have k257 := kn_app (l := [(20, 4)]) k235
  have k258 := kn_app (l := [(20, 4)]) k236
  have k259 := kn_app (l := [(20, 4)]) k237
  have k260 := kn_app (l := [(20, 4)]) k238
  have k261 := kn_app (l := [(20, 4)]) k239
  have k262 := kn_app (l := [(20, 4)]) k240
  have k263 := kn_app (l := [(20, 4)]) k241
  have k264 := kn_app (l := [(20, 4)]) k242
  have k265 := kn_app (l := [(20, 4)]) k243
  have k266 := kn_app (l := [(20, 4)]) k244
  have k267 := kn_new (K := K227) (q := (20, 4))
  replace h := h _ rfl
  generalize (K227 ++ [(20, 4)]) = K249 at h k250 k251 k252 k253 k254 k255 k256 k257 k258 k259 k260 k261 k262 k263 k264 k265 k266 k267 ⊢
  refine r_putfF cls12 25 dX12_init_174 (by decide) rfl rfl rfl fl_RX12_58 rfl h1 k251 (fun o => ⟨(by omega), o⟩) ?_
  replace h := h _ rfl
  generalize upA H248 (v0 : Int).toNat (up1 (H248 (v0 : Int).toNat) 25 (((K227).length : Nat) : Int)) = H268 at h ⊢
  refine r_aload_n 0 dX12_init_177 rfl rfl ?_
  refine r_iconst dX12_init_178 (by decide) (by decide) ?_
  obtain ⟨h269, h⟩ := h
  obtain ⟨h270, h⟩ := h
  refine r_newa' (N := 4) 20 0 .int dX12_init_179 (by decide) rfl ac_int rfl (by decide) h269 h270 ?_
  replace h := h _ rfl
  generalize upA H268 (K249).length (dflt 20) = H271 at h ⊢
  have k273 := kn_app (l := [(20, 4)]) k250
  have k274 := kn_app (l := [(20, 4)]) k251
  have k275 := kn_app (l := [(20, 4)]) k252
  have k276 := kn_app (l := [(20, 4)]) k253
  have k277 := kn_app (l := [(20, 4)]) k254
  have k278 := kn_app (l := [(20, 4)]) k255
  have k279 := kn_app (l := [(20, 4)]) k256
  have k280 := kn_app (l := [(20, 4)]) k257
  have k281 := kn_app (l := [(20, 4)]) k258
  have k282 := kn_app (l := [(20, 4)]) k259
  have k283 := kn_app (l := [(20, 4)]) k260
  have k284 := kn_app (l := [(20, 4)]) k261
  have k285 := kn_app (l := [(20, 4)]) k262
  have k286 := kn_app (l := [(20, 4)]) k263
  have k287 := kn_app (l := [(20, 4)]) k264
  have k288 := kn_app (l := [(20, 4)]) k265
  have k289 := kn_app (l := [(20, 4)]) k266
  have k290 := kn_app (l := [(20, 4)]) k267
  have k291 := kn_new (K := K249) (q := (20, 4))
  replace h := h _ rfl
  generalize (K249 ++ [(20, 4)]) = K272 at h k273 k274 k275 k276 k277 k278 k279 k280 k281 k282 k283 k284 k285 k286 k287 k288 k289 k290 k291 ⊢
  refine r_putfF cls12 26 dX12_init_181 (by decide) rfl rfl rfl fl_RX12_61 rfl h1 k274 (fun o => ⟨(by omega), o⟩) ?_
  replace h := h _ rfl
  generalize upA H271 (v0 : Int).toNat (up1 (H271 (v0 : Int).toNat) 26 (((K249).length : Nat) : Int)) = H292 at h ⊢
  refine r_aload_n 0 dX12_init_184 rfl rfl ?_
  refine r_bipush dX12_init_185 (by decide) (by decide) ?_
  obtain ⟨h293, h⟩ := h
  obtain ⟨h294, h⟩ := h
  refine r_newa' (N := 6) 20 0 .int dX12_init_187 (by decide) rfl ac_int rfl (by decide) h293 h294 ?_
  replace h := h _ rfl
  generalize upA H292 (K272).length (dflt 20) = H295 at h ⊢
  have k297 := kn_app (l := [(20, 6)]) k273
  have k298 := kn_app (l := [(20, 6)]) k274
  have k299 := kn_app (l := [(20, 6)]) k275
  have k300 := kn_app (l := [(20, 6)]) k276
  have k301 := kn_app (l := [(20, 6)]) k277
  have k302 := kn_app (l := [(20, 6)]) k278
  have k303 := kn_app (l := [(20, 6)]) k279
  have k304 := kn_app (l := [(20, 6)]) k280
  have k305 := kn_app (l := [(20, 6)]) k281
  have k306 := kn_app (l := [(20, 6)]) k282
  have k307 := kn_app (l := [(20, 6)]) k283
  have k308 := kn_app (l := [(20, 6)]) k284
  have k309 := kn_app (l := [(20, 6)]) k285
  have k310 := kn_app (l := [(20, 6)]) k286
  have k311 := kn_app (l := [(20, 6)]) k287
  have k312 := kn_app (l := [(20, 6)]) k288
  have k313 := kn_app (l := [(20, 6)]) k289
  have k314 := kn_app (l := [(20, 6)]) k290
  have k315 := kn_app (l := [(20, 6)]) k291
  have k316 := kn_new (K := K272) (q := (20, 6))
  replace h := h _ rfl
  generalize (K272 ++ [(20, 6)]) = K296 at h k297 k298 k299 k300 k301 k302 k303 k304 k305 k306 k307 k308 k309 k310 k311 k312 k313 k314 k315 k316 ⊢
  refine r_putfF cls12 29 dX12_init_189 (by decide) rfl rfl rfl fl_RX12_64 rfl h1 k298 (fun o => ⟨(by omega), o⟩) ?_
  replace h := h _ rfl
  generalize upA H295 (v0 : Int).toNat (up1 (H295 (v0 : Int).toNat) 29 (((K272).length : Nat) : Int)) = H317 at h ⊢
  refine r_aload_n 0 dX12_init_192 rfl rfl ?_
  refine r_iconst dX12_init_193 (by decide) (by decide) ?_
  obtain ⟨h318, h⟩ := h
  obtain ⟨h319, h⟩ := h
  refine r_newa' (N := 5) 20 0 .int dX12_init_194 (by decide) rfl ac_int rfl (by decide) h318 h319 ?_
  replace h := h _ rfl
  generalize upA H317 (K296).length (dflt 20) = H320 at h ⊢
  have k322 := kn_app (l := [(20, 5)]) k297
  have k323 := kn_app (l := [(20, 5)]) k298
  have k324 := kn_app (l := [(20, 5)]) k299
  have k325 := kn_app (l := [(20, 5)]) k300
  have k326 := kn_app (l := [(20, 5)]) k301
  have k327 := kn_app (l := [(20, 5)]) k302
  have k328 := kn_app (l := [(20, 5)]) k303
  have k329 := kn_app (l := [(20, 5)]) k304
  have k330 := kn_app (l := [(20, 5)]) k305
  have k331 := kn_app (l := [(20, 5)]) k306
  have k332 := kn_app (l := [(20, 5)]) k307
  have k333 := kn_app (l := [(20, 5)]) k308
  have k334 := kn_app (l := [(20, 5)]) k309
  have k335 := kn_app (l := [(20, 5)]) k310
  have k336 := kn_app (l := [(20, 5)]) k311
  have k337 := kn_app (l := [(20, 5)]) k312
  have k338 := kn_app (l := [(20, 5)]) k313
  have k339 := kn_app (l := [(20, 5)]) k314
  have k340 := kn_app (l := [(20, 5)]) k315
  have k341 := kn_app (l := [(20, 5)]) k316
  have k342 := kn_new (K := K296) (q := (20, 5))
  replace h := h _ rfl
  generalize (K296 ++ [(20, 5)]) = K321 at h k322 k323 k324 k325 k326 k327 k328 k329 k330 k331 k332 k333 k334 k335 k336 k337 k338 k339 k340 k341 k342 ⊢
  refine r_putfF cls12 31 dX12_init_196 (by decide) rfl rfl rfl fl_RX12_67 rfl h1 k323 (fun o => ⟨(by omega), o⟩) ?_
  replace h := h _ rfl
  generalize upA H320 (v0 : Int).toNat (up1 (H320 (v0 : Int).toNat) 31 (((K296).length : Nat) : Int)) = H343 at h ⊢
  refine r_aload_n 0 dX12_init_199 rfl rfl ?_
  refine r_iconst dX12_init_200 (by decide) (by decide) ?_
  obtain ⟨h344, h⟩ := h
  obtain ⟨h345, h⟩ := h
  refine r_newa' (N := 5) 20 0 .int dX12_init_201 (by decide) rfl ac_int rfl (by decide) h344 h345 ?_
  replace h := h _ rfl
  generalize upA H343 (K321).length (dflt 20) = H346 at h ⊢
  have k348 := kn_app (l := [(20, 5)]) k322
  have k349 := kn_app (l := [(20, 5)]) k323
  have k350 := kn_app (l := [(20, 5)]) k324
  have k351 := kn_app (l := [(20, 5)]) k325
  have k352 := kn_app (l := [(20, 5)]) k326
  have k353 := kn_app (l := [(20, 5)]) k327
  have k354 := kn_app (l := [(20, 5)]) k328
  have k355 := kn_app (l := [(20, 5)]) k329
  have k356 := kn_app (l := [(20, 5)]) k330
  have k357 := kn_app (l := [(20, 5)]) k331
  have k358 := kn_app (l := [(20, 5)]) k332
  have k359 := kn_app (l := [(20, 5)]) k333
  have k360 := kn_app (l := [(20, 5)]) k334
  have k361 := kn_app (l := [(20, 5)]) k335
  have k362 := kn_app (l := [(20, 5)]) k336
  have k363 := kn_app (l := [(20, 5)]) k337
  have k364 := kn_app (l := [(20, 5)]) k338
  have k365 := kn_app (l := [(20, 5)]) k339
  have k366 := kn_app (l := [(20, 5)]) k340
  have k367 := kn_app (l := [(20, 5)]) k341
  have k368 := kn_app (l := [(20, 5)]) k342
  have k369 := kn_new (K := K321) (q := (20, 5))
  replace h := h _ rfl
  generalize (K321 ++ [(20, 5)]) = K347 at h k348 k349 k350 k351 k352 k353 k354 k355 k356 k357 k358 k359 k360 k361 k362 k363 k364 k365 k366 k367 k368 k369 ⊢
  refine r_putfF cls12 32 dX12_init_203 (by decide) rfl rfl rfl fl_RX12_70 rfl h1 k349 (fun o => ⟨(by omega), o⟩) ?_
  replace h := h _ rfl
  generalize upA H346 (v0 : Int).toNat (up1 (H346 (v0 : Int).toNat) 32 (((K321).length : Nat) : Int)) = H370 at h ⊢
  refine r_aload_n 0 dX12_init_206 rfl rfl ?_
  refine r_iconst dX12_init_207 (by decide) (by decide) ?_
  obtain ⟨h371, h⟩ := h
  obtain ⟨h372, h⟩ := h
  refine r_newa' (N := 5) 20 0 .int dX12_init_208 (by decide) rfl ac_int rfl (by decide) h371 h372 ?_
  replace h := h _ rfl
  generalize upA H370 (K347).length (dflt 20) = H373 at h ⊢
  have k375 := kn_app (l := [(20, 5)]) k348
  have k376 := kn_app (l := [(20, 5)]) k349
  have k377 := kn_app (l := [(20, 5)]) k350
  have k378 := kn_app (l := [(20, 5)]) k351
  have k379 := kn_app (l := [(20, 5)]) k352
  have k380 := kn_app (l := [(20, 5)]) k353
  have k381 := kn_app (l := [(20, 5)]) k354
  have k382 := kn_app (l := [(20, 5)]) k355
  have k383 := kn_app (l := [(20, 5)]) k356
  have k384 := kn_app (l := [(20, 5)]) k357
  have k385 := kn_app (l := [(20, 5)]) k358
  have k386 := kn_app (l := [(20, 5)]) k359
  have k387 := kn_app (l := [(20, 5)]) k360
  have k388 := kn_app (l := [(20, 5)]) k361
  have k389 := kn_app (l := [(20, 5)]) k362
  have k390 := kn_app (l := [(20, 5)]) k363
  have k391 := kn_app (l := [(20, 5)]) k364
  have k392 := kn_app (l := [(20, 5)]) k365
  have k393 := kn_app (l := [(20, 5)]) k366
  have k394 := kn_app (l := [(20, 5)]) k367
  have k395 := kn_app (l := [(20, 5)]) k368
  have k396 := kn_app (l := [(20, 5)]) k369
  have k397 := kn_new (K := K347) (q := (20, 5))
  replace h := h _ rfl
  generalize (K347 ++ [(20, 5)]) = K374 at h k375 k376 k377 k378 k379 k380 k381 k382 k383 k384 k385 k386 k387 k388 k389 k390 k391 k392 k393 k394 k395 k396 k397 ⊢
  refine r_putfF cls12 33 dX12_init_210 (by decide) rfl rfl rfl fl_RX12_73 rfl h1 k376 (fun o => ⟨(by omega), o⟩) ?_
  replace h := h _ rfl
  generalize upA H373 (v0 : Int).toNat (up1 (H373 (v0 : Int).toNat) 33 (((K347).length : Nat) : Int)) = H398 at h ⊢
  refine r_aload_n 0 dX12_init_213 rfl rfl ?_
  refine r_bipush dX12_init_214 (by decide) (by decide) ?_
  obtain ⟨h399, h⟩ := h
  obtain ⟨h400, h⟩ := h
  refine r_newa' (N := 10) 20 0 .int dX12_init_216 (by decide) rfl ac_int rfl (by decide) h399 h400 ?_
  replace h := h _ rfl
  generalize upA H398 (K374).length (dflt 20) = H401 at h ⊢
  have k403 := kn_app (l := [(20, 10)]) k375
  have k404 := kn_app (l := [(20, 10)]) k376
  have k405 := kn_app (l := [(20, 10)]) k377
  have k406 := kn_app (l := [(20, 10)]) k378
  have k407 := kn_app (l := [(20, 10)]) k379
  have k408 := kn_app (l := [(20, 10)]) k380
  have k409 := kn_app (l := [(20, 10)]) k381
  have k410 := kn_app (l := [(20, 10)]) k382
  have k411 := kn_app (l := [(20, 10)]) k383
  have k412 := kn_app (l := [(20, 10)]) k384
  have k413 := kn_app (l := [(20, 10)]) k385
  have k414 := kn_app (l := [(20, 10)]) k386
  have k415 := kn_app (l := [(20, 10)]) k387
  have k416 := kn_app (l := [(20, 10)]) k388
  have k417 := kn_app (l := [(20, 10)]) k389
  have k418 := kn_app (l := [(20, 10)]) k390
  have k419 := kn_app (l := [(20, 10)]) k391
  have k420 := kn_app (l := [(20, 10)]) k392
  have k421 := kn_app (l := [(20, 10)]) k393
  have k422 := kn_app (l := [(20, 10)]) k394
  have k423 := kn_app (l := [(20, 10)]) k395
  have k424 := kn_app (l := [(20, 10)]) k396
  have k425 := kn_app (l := [(20, 10)]) k397
  have k426 := kn_new (K := K374) (q := (20, 10))
  replace h := h _ rfl
  generalize (K374 ++ [(20, 10)]) = K402 at h k403 k404 k405 k406 k407 k408 k409 k410 k411 k412 k413 k414 k415 k416 k417 k418 k419 k420 k421 k422 k423 k424 k425 k426 ⊢
  refine r_putfF cls12 34 dX12_init_218 (by decide) rfl rfl rfl fl_RX12_76 rfl h1 k404 (fun o => ⟨(by omega), o⟩) ?_
  replace h := h _ rfl
  generalize upA H401 (v0 : Int).toNat (up1 (H401 (v0 : Int).toNat) 34 (((K374).length : Nat) : Int)) = H427 at h ⊢
  refine r_aload_n 0 dX12_init_221 rfl rfl ?_
  refine r_bipush dX12_init_222 (by decide) (by decide) ?_
  obtain ⟨h428, h⟩ := h
  obtain ⟨h429, h⟩ := h
  refine r_newa' (N := 10) 20 0 .int dX12_init_224 (by decide) rfl ac_int rfl (by decide) h428 h429 ?_
  replace h := h _ rfl
  generalize upA H427 (K402).length (dflt 20) = H430 at h ⊢
  have k432 := kn_app (l := [(20, 10)]) k403
  have k433 := kn_app (l := [(20, 10)]) k404
  have k434 := kn_app (l := [(20, 10)]) k405
  have k435 := kn_app (l := [(20, 10)]) k406
  have k436 := kn_app (l := [(20, 10)]) k407
  have k437 := kn_app (l := [(20, 10)]) k408
  have k438 := kn_app (l := [(20, 10)]) k409
  have k439 := kn_app (l := [(20, 10)]) k410
  have k440 := kn_app (l := [(20, 10)]) k411
  have k441 := kn_app (l := [(20, 10)]) k412
  have k442 := kn_app (l := [(20, 10)]) k413
  have k443 := kn_app (l := [(20, 10)]) k414
  have k444 := kn_app (l := [(20, 10)]) k415
  have k445 := kn_app (l := [(20, 10)]) k416
  have k446 := kn_app (l := [(20, 10)]) k417
  have k447 := kn_app (l := [(20, 10)]) k418
  have k448 := kn_app (l := [(20, 10)]) k419
  have k449 := kn_app (l := [(20, 10)]) k420
  have k450 := kn_app (l := [(20, 10)]) k421
  have k451 := kn_app (l := [(20, 10)]) k422
  have k452 := kn_app (l := [(20, 10)]) k423
  have k453 := kn_app (l := [(20, 10)]) k424
  have k454 := kn_app (l := [(20, 10)]) k425
  have k455 := kn_app (l := [(20, 10)]) k426
  have k456 := kn_new (K := K402) (q := (20, 10))
  replace h := h _ rfl
  generalize (K402 ++ [(20, 10)]) = K431 at h k432 k433 k434 k435 k436 k437 k438 k439 k440 k441 k442 k443 k444 k445 k446 k447 k448 k449 k450 k451 k452 k453 k454 k455 k456 ⊢
  refine r_putfF cls12 35 dX12_init_226 (by decide) rfl rfl rfl fl_RX12_79 rfl h1 k433 (fun o => ⟨(by omega), o⟩) ?_
  replace h := h _ rfl
  generalize upA H430 (v0 : Int).toNat (up1 (H430 (v0 : Int).toNat) 35 (((K402).length : Nat) : Int)) = H457 at h ⊢
  refine r_aload_n 0 dX12_init_229 rfl rfl ?_
  refine r_iconst dX12_init_230 (by decide) (by decide) ?_
  obtain ⟨h458, h⟩ := h
  obtain ⟨h459, h⟩ := h
  refine r_newa' (N := 2) 22 0 .boolean dX12_init_231 (by decide) rfl ac_boolean rfl (by decide) h458 h459 ?_
  replace h := h _ rfl
  generalize upA H457 (K431).length (dflt 22) = H460 at h ⊢
  have k462 := kn_app (l := [(22, 2)]) k432
  have k463 := kn_app (l := [(22, 2)]) k433
  have k464 := kn_app (l := [(22, 2)]) k434
  have k465 := kn_app (l := [(22, 2)]) k435
  have k466 := kn_app (l := [(22, 2)]) k436
  have k467 := kn_app (l := [(22, 2)]) k437
  have k468 := kn_app (l := [(22, 2)]) k438
  have k469 := kn_app (l := [(22, 2)]) k439
  have k470 := kn_app (l := [(22, 2)]) k440
  have k471 := kn_app (l := [(22, 2)]) k441
  have k472 := kn_app (l := [(22, 2)]) k442
  have k473 := kn_app (l := [(22, 2)]) k443
  have k474 := kn_app (l := [(22, 2)]) k444
  have k475 := kn_app (l := [(22, 2)]) k445
  have k476 := kn_app (l := [(22, 2)]) k446
  have k477 := kn_app (l := [(22, 2)]) k447
  have k478 := kn_app (l := [(22, 2)]) k448
  have k479 := kn_app (l := [(22, 2)]) k449
  have k480 := kn_app (l := [(22, 2)]) k450
  have k481 := kn_app (l := [(22, 2)]) k451
  have k482 := kn_app (l := [(22, 2)]) k452
  have k483 := kn_app (l := [(22, 2)]) k453
  have k484 := kn_app (l := [(22, 2)]) k454
  have k485 := kn_app (l := [(22, 2)]) k455
  have k486 := kn_app (l := [(22, 2)]) k456
  have k487 := kn_new (K := K431) (q := (22, 2))
  replace h := h _ rfl
  generalize (K431 ++ [(22, 2)]) = K461 at h k462 k463 k464 k465 k466 k467 k468 k469 k470 k471 k472 k473 k474 k475 k476 k477 k478 k479 k480 k481 k482 k483 k484 k485 k486 k487 ⊢
  refine r_putfF cls12 36 dX12_init_233 (by decide) rfl rfl rfl fl_RX12_82 rfl h1 k463 (fun o => ⟨(by omega), o⟩) ?_
  replace h := h _ rfl
  generalize upA H460 (v0 : Int).toNat (up1 (H460 (v0 : Int).toNat) 36 (((K431).length : Nat) : Int)) = H488 at h ⊢
  refine r_aload_n 0 dX12_init_236 rfl rfl ?_
  refine r_bipush dX12_init_237 (by decide) (by decide) ?_
  obtain ⟨h489, h⟩ := h
  obtain ⟨h490, h⟩ := h
  refine r_newa' (N := 48) 20 0 .int dX12_init_239 (by decide) rfl ac_int rfl (by decide) h489 h490 ?_
  replace h := h _ rfl
  generalize upA H488 (K461).length (dflt 20) = H491 at h ⊢
  have k493 := kn_app (l := [(20, 48)]) k462
  have k494 := kn_app (l := [(20, 48)]) k463
  have k495 := kn_app (l := [(20, 48)]) k464
  have k496 := kn_app (l := [(20, 48)]) k465
  have k497 := kn_app (l := [(20, 48)]) k466
  have k498 := kn_app (l := [(20, 48)]) k467
  have k499 := kn_app (l := [(20, 48)]) k468
  have k500 := kn_app (l := [(20, 48)]) k469
  have k501 := kn_app (l := [(20, 48)]) k470
  have k502 := kn_app (l := [(20, 48)]) k471
  have k503 := kn_app (l := [(20, 48)]) k472
  have k504 := kn_app (l := [(20, 48)]) k473
  have k505 := kn_app (l := [(20, 48)]) k474
  have k506 := kn_app (l := [(20, 48)]) k475
  have k507 := kn_app (l := [(20, 48)]) k476
  have k508 := kn_app (l := [(20, 48)]) k477
  have k509 := kn_app (l := [(20, 48)]) k478
  have k510 := kn_app (l := [(20, 48)]) k479
  have k511 := kn_app (l := [(20, 48)]) k480
  have k512 := kn_app (l := [(20, 48)]) k481
  have k513 := kn_app (l := [(20, 48)]) k482
  have k514 := kn_app (l := [(20, 48)]) k483
  have k515 := kn_app (l := [(20, 48)]) k484
  have k516 := kn_app (l := [(20, 48)]) k485
  have k517 := kn_app (l := [(20, 48)]) k486
  have k518 := kn_app (l := [(20, 48)]) k487
  have k519 := kn_new (K := K461) (q := (20, 48))
  replace h := h _ rfl
  generalize (K461 ++ [(20, 48)]) = K492 at h k493 k494 k495 k496 k497 k498 k499 k500 k501 k502 k503 k504 k505 k506 k507 k508 k509 k510 k511 k512 k513 k514 k515 k516 k517 k518 k519 ⊢
  refine r_putfF cls12 49 dX12_init_241 (by decide) rfl rfl rfl fl_RX12_86 rfl h1 k494 (fun o => ⟨(by omega), o⟩) ?_
  replace h := h _ rfl
  generalize upA H491 (v0 : Int).toNat (up1 (H491 (v0 : Int).toNat) 49 (((K461).length : Nat) : Int)) = H520 at h ⊢
  exact r_vret dX12_init_244 rfl h
set_option maxHeartbeats 4000000 in
set_option maxRecDepth 20000 in
theorem eX12_init {d : Nat} {K : Shp} {H : Mem} {q : Shp → Mem → Prop} {v0 : Int} (h : Rng K H → FX12_init_0 d 40 30000 K H (qn K q) v0) : Cn mX12_init (d + 1) 40 30000 [(2, v0)] K H q := Call.of rfl (Nat.le_of_ble_eq_true rfl) (fun o r => h  r)
