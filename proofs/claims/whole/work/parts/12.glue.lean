/-! contracts in the words that the printed lemmas use -/
def qi (K : Shp) (q : Int → Mem → Prop) : Option AV → Shp → Mem → Prop := fun r K' H' => K = K' ∧ ∃ x, r = some (0, x) ∧ q x H'
def ql (K : Shp) (q : Int → Mem → Prop) : Option AV → Shp → Mem → Prop := fun r K' H' => K = K' ∧ ∃ x, r = some (1, x) ∧ q x H'
def qv (K : Shp) (q : Mem → Prop) : Option AV → Shp → Mem → Prop := fun r K' H' => K = K' ∧ r = none ∧ q H'
def qn (K : Shp) (q : Shp → Mem → Prop) : Option AV → Shp → Mem → Prop := fun r K' H' => r = none ∧ ∃ l, K' = K ++ l ∧ q l H'
def Ci (M : MM) (d : Nat) (args : List AV) (K : Shp) (H : Mem) (q : Int → Mem → Prop) : Prop := Call M d 0 0 args K H (qi K q)
def Cl (M : MM) (d : Nat) (args : List AV) (K : Shp) (H : Mem) (q : Int → Mem → Prop) : Prop := Call M d 0 0 args K H (ql K q)
def Cv (M : MM) (d : Nat) (args : List AV) (K : Shp) (H : Mem) (q : Mem → Prop) : Prop := Call M d 0 0 args K H (qv K q)
def Cn (M : MM) (d mc ms : Nat) (args : List AV) (K : Shp) (H : Mem) (q : Shp → Mem → Prop) : Prop := Call M d mc ms args K H (qn K q)
theorem Met.mono {l : Launch} {y : MethodName} {ws : List Cond} {rm : Room} {Pc : Array Value → State → Prop} {Qc Qc' : Array Value → State → Outcome → State → Prop} {mc ms : Nat} {free : Addr → Prop} (h : Met l y ws rm Pc Qc mc ms free) (hq : ∀ a s o t, Qc a s o t → Qc' a s o t) : Met l y ws rm Pc Qc' mc ms free := by
  intro p e ha hc hk s m args below hf hfit hP hK
  obtain ⟨k, o, h1, h2, h3, h4⟩ := h p e ha hc hk s m args below hf hfit hP hK
  exact ⟨k, o, h1, h2, h3, hq _ _ _ _ h4.1, h4.2⟩
theorem Call.mono {M : MM} {d mc ms : Nat} {args : List AV} {K : Shp} {H : Mem} {Q Q' : Option AV → Shp → Mem → Prop} (h : Call M d mc ms args K H Q) (hq : ∀ r K' H', Q r K' H' → Q' r K' H') : Call M d mc ms args K H Q' := by
  intro l base b D aC φ
  refine Met.mono (h l base b D aC φ) ?_
  rintro a s o t ⟨⟨r, K', H', φ', h1, h2, h3, h4⟩, h5⟩
  exact ⟨⟨r, K', H', φ', h1, h2, hq _ _ _ h3, h4⟩, h5⟩
theorem Ci.mono {M : MM} {d : Nat} {args : List AV} {K : Shp} {H : Mem} {q q' : Int → Mem → Prop} (h : Ci M d args K H q) (hq : ∀ x H', q x H' → q' x H') : Ci M d args K H q' :=
  Call.mono h (fun _ _ _ ⟨h1, x, h2, h3⟩ => ⟨h1, x, h2, hq _ _ h3⟩)
theorem Cl.mono {M : MM} {d : Nat} {args : List AV} {K : Shp} {H : Mem} {q q' : Int → Mem → Prop} (h : Cl M d args K H q) (hq : ∀ x H', q x H' → q' x H') : Cl M d args K H q' :=
  Call.mono h (fun _ _ _ ⟨h1, x, h2, h3⟩ => ⟨h1, x, h2, hq _ _ h3⟩)
theorem Cv.mono {M : MM} {d : Nat} {args : List AV} {K : Shp} {H : Mem} {q q' : Mem → Prop} (h : Cv M d args K H q) (hq : ∀ H', q H' → q' H') : Cv M d args K H q' :=
  Call.mono h (fun _ _ _ ⟨h1, h2, h3⟩ => ⟨h1, h2, hq _ h3⟩)
theorem Cn.mono {M : MM} {d mc ms : Nat} {args : List AV} {K : Shp} {H : Mem} {q q' : Shp → Mem → Prop} (h : Cn M d mc ms args K H q) (hq : ∀ l H', q l H' → q' l H') : Cn M d mc ms args K H q' :=
  Call.mono h (fun _ _ _ ⟨h1, l, h2, h3⟩ => ⟨h1, l, h2, hq _ _ h3⟩)
/-- the same with a known answer and a known heap -/
theorem Ci.to {M : MM} {d : Nat} {args : List AV} {K : Shp} {H H2 : Mem} {x : Int} {q : Int → Mem → Prop} (h : Ci M d args K H (fun y H' => y = x ∧ H' = H2)) (hq : q x H2) : Ci M d args K H q := h.mono (fun _ _ ⟨h1, h2⟩ => by rw [h1, h2]; exact hq)
theorem Cl.to {M : MM} {d : Nat} {args : List AV} {K : Shp} {H H2 : Mem} {x : Int} {q : Int → Mem → Prop} (h : Cl M d args K H (fun y H' => y = x ∧ H' = H2)) (hq : q x H2) : Cl M d args K H q := h.mono (fun _ _ ⟨h1, h2⟩ => by rw [h1, h2]; exact hq)
theorem Cv.to {M : MM} {d : Nat} {args : List AV} {K : Shp} {H H2 : Mem} {q : Mem → Prop} (h : Cv M d args K H (fun H' => H' = H2)) (hq : q H2) : Cv M d args K H q := h.mono (fun _ h1 => by rw [h1]; exact hq)
theorem kn_app {K l : Shp} {a : Nat} {q : Nat × Nat} (h : K[a]? = some q) : (K ++ l)[a]? = some q := by
  rw [List.getElem?_append_left (List.getElem?_eq_some_iff.mp h).1]; exact h
theorem kn_new {K : Shp} {q : Nat × Nat} : (K ++ [q])[((K.length : Nat) : Int).toNat]? = some q := by
  rw [Int.toNat_natCast]; simp
section Glue
variable {M M' : MM} {d fc fs mc ms : Nat} {sc : Option (Nat × (Nat → Int))} {pc i : Nat} {ls : List (Nat × AV)} {st As : List AV} {K : Shp} {H : Mem} {Q Q1 : Option AV → Shp → Mem → Prop} {X : Int}
theorem r_new' {ci N : Nat} {C : String} {T : u_T} (cl : Cls ci C T N) (hd : decode M.2.1 pc = .ok (.new i, 3)) (hli : Cond.classLink M.1.cls i C ∈ lw_good) (hin : Cond.instantiable C N ∈ lw_good) (hini : Cond.initialized C ∈ lw_good) (hty : ∀ k, k < N → tyOk 0 (kty ci k) (dflt ci k)) (hdf : ∀ k, k < N → ∀ (φ : Nat → Nat) (b : Nat), defaultValue (fty ci k) = toV φ b (ftag (fty ci k), dflt ci k)) (h1 : 1 ≤ fc) (h2 : N ≤ fs)
    (kk : Fr M d (fc - 1) (fs - N) sc (pc + 3) ls ((2, (K.length : Int)) :: st) (K ++ [(ci, N)]) (upA H K.length (dflt ci)) Q) : Fr M d fc fs sc pc ls st K H Q := by
  have := r_new cl hd hli hin hini hty hdf kk
  rwa [Nat.add_sub_cancel' h1, Nat.add_sub_cancel' h2] at this
theorem r_newa' {at_ : ArrayType} {n : Int} {N : Nat} (kd t0 : Nat) (ty : FieldType) (hd : decode M.2.1 pc = .ok (.newarray at_, 2)) (hk : kd = 20 ∧ ty = .int ∨ kd = 21 ∧ ty = .long ∨ kd = 22 ∧ ty = .boolean) (hty : newarray.typeOf at_ = ty) (hw : Cond.arrayClass ty ∈ lw_good) (hN : n = (N : Int)) (hN2 : N ≤ 1000000) (h1 : 1 ≤ fc) (h2 : N ≤ fs)
    (kk : Fr M d (fc - 1) (fs - N) sc (pc + 2) ls ((2, (K.length : Int)) :: st) (K ++ [(kd, N)]) (upA H K.length (dflt kd)) Q) : Fr M d fc fs sc pc ls ((0, n) :: st) K H Q := by
  have := r_newa kd t0 ty hd hk hty hw hN hN2 kk
  rwa [Nat.add_sub_cancel' h1, Nat.add_sub_cancel' h2] at this
theorem r_newq' {n : Int} {N : Nat} (kd : Nat) (C : String) (hd : decode M.2.1 pc = .ok (.anewarray i, 3)) (hk : kd = 23 ∧ C = "RodBeam$Section" ∨ kd = 24 ∧ C = "RodBeam$Span") (hli : Cond.classLink M.1.cls i C ∈ lw_good) (hov : Cond.arrayOver (.object C) ∈ lw_nest) (hN : n = (N : Int)) (hN2 : N ≤ 1000000) (h1 : 1 ≤ fc) (h2 : N ≤ fs)
    (kk : Fr M d (fc - 1) (fs - N) sc (pc + 3) ls ((2, (K.length : Int)) :: st) (K ++ [(kd, N)]) (upA H K.length (dflt kd)) Q) : Fr M d fc fs sc pc ls ((0, n) :: st) K H Q := by
  have := r_newq kd C hd hk hli hov hN hN2 kk
  rwa [Nat.add_sub_cancel' h1, Nat.add_sub_cancel' h2] at this
theorem r_invV0 {ci n N : Nat} {T : u_T} (hM : Call M' d 0 0 ((2, X) :: As) K H Q1) (hm : MOK M' n) (cl : Cls ci M'.1.cls T N) (hin : Cond.instanceMethod M'.1 ∈ lw_good) (hse : Cond.selects M'.1.cls M'.1 M'.1 ∈ lw_good) (hli : Cond.methodLink M.1.cls i M'.1 ∈ lw_good) (hd : decode M.2.1 pc = .ok (.invokevirtual i, 3)) (hn : As.length = n) (h0 : 0 ≤ X) (hK : K[X.toNat]? = some (ci, N)) (hst : wid st ≤ 8) {sti : List AV} (hsti : sti = As.reverse ++ (2, X) :: st)
    (kk : ∀ (r : Option AV) (K' : Shp) (H' : Mem), Q1 r K' H' → K.length ≤ K'.length → Fr M (d + 1) fc fs sc (pc + 3) ls (r.toList ++ st) K' H' Q) : Fr M (d + 1) fc fs sc pc ls sti K H Q := by
  have := r_invV hM hm cl hin hse hli hd hn h0 hK hst hsti kk
  rwa [Nat.zero_add, Nat.zero_add] at this
theorem r_invI' {n : Nat} (hret0 : M'.2.2.2 = none) (hM : Call M' d mc ms ((2, X) :: As) K H Q1) (hm : MOK M' n) (hi : M'.1.name = "<init>") (hin : Cond.instanceMethod M'.1 ∈ lw_good) (hli : Cond.methodLink M.1.cls i M'.1 ∈ lw_good) (hd : decode M.2.1 pc = .ok (.invokespecial i, 3)) (hn : As.length = n) (h0 : 0 ≤ X) (hst : wid st ≤ 8) {sti : List AV} (hsti : sti = As.reverse ++ (2, X) :: st) (h1 : mc ≤ fc) (h2 : ms ≤ fs)
    (kk : ∀ (r : Option AV) (K' : Shp) (H' : Mem), Q1 r K' H' → K.length ≤ K'.length → Fr M (d + 1) (fc - mc) (fs - ms) sc (pc + 3) ls (r.toList ++ st) K' H' Q) : Fr M (d + 1) fc fs sc pc ls sti K H Q := by
  have := r_invI hret0 hM hm hi hin hli hd hn h0 hst hsti kk
  rwa [Nat.add_sub_cancel' h1, Nat.add_sub_cancel' h2] at this
theorem r_invIN' {n : Nat} {host : String} (hret0 : M'.2.2.2 = none) (hM : Call M' d mc ms ((2, X) :: As) K H Q1) (hm : MOK M' n) (hi : M'.1.name = "<init>") (hin : Cond.instanceMethod M'.1 ∈ lw_good) (hli : Cond.methodLinkNest M.1.cls i M'.1 host ∈ lw_nest) (hd : decode M.2.1 pc = .ok (.invokespecial i, 3)) (hn : As.length = n) (h0 : 0 ≤ X) (hst : wid st ≤ 8) {sti : List AV} (hsti : sti = As.reverse ++ (2, X) :: st) (h1 : mc ≤ fc) (h2 : ms ≤ fs)
    (kk : ∀ (r : Option AV) (K' : Shp) (H' : Mem), Q1 r K' H' → K.length ≤ K'.length → Fr M (d + 1) (fc - mc) (fs - ms) sc (pc + 3) ls (r.toList ++ st) K' H' Q) : Fr M (d + 1) fc fs sc pc ls sti K H Q := by
  have := r_invIN hret0 hM hm hi hin hli hd hn h0 hst hsti kk
  rwa [Nat.add_sub_cancel' h1, Nat.add_sub_cancel' h2] at this
theorem cpy32 {f g : Nat → Int} {sp dp n : Nat} : va_cpy (fun j => Int32.ofInt (f j)) (fun j => Int32.ofInt (g j)) sp dp n = fun j => Int32.ofInt (va_cpy f g sp dp n j) := by
  funext j; unfold va_cpy; split <;> rfl
theorem cpy64 {f g : Nat → Int} {sp dp n : Nat} : va_cpy (fun j => Int64.ofInt (f j)) (fun j => Int64.ofInt (g j)) sp dp n = fun j => Int64.ofInt (va_cpy f g sp dp n j) := by
  funext j; unfold va_cpy; split <;> rfl
theorem rng_cpy {a0 a1 kd n0 n1 sp dp n : Nat} (h : Rng K H) (hk0 : K[a0]? = some (kd, n0)) (hk1 : K[a1]? = some (kd, n1)) (hkd : kd = 20 ∨ kd = 21) (h0 : sp + n ≤ n0) : Rng K (upA H a1 (va_cpy (H a0) (H a1) sp dp n)) := by
  intro a q ha k hk
  unfold upA
  by_cases e : a = a1
  · subst e
    rw [hk1] at ha
    cases ha
    rw [if_pos rfl]
    unfold va_cpy
    split
    · have := h a0 _ hk0 (sp + (k - dp)) (by show _ < n0; omega)
      rcases hkd with rfl | rfl <;> exact this
    · exact h a _ hk1 k hk
  · rw [if_neg e]; exact h a q ha k hk
variable {X0 X1 sp dp n : Int}
theorem r_copyi (n0 n1 : Nat) (hd : decode M.2.1 pc = .ok (.invokestatic i, 3)) (hli : Cond.methodLink M.1.cls i arraycopyName ∈ lw_good) (h00 : 0 ≤ X0) (hK0 : K[X0.toNat]? = some (20, n0)) (h01 : 0 ≤ X1) (hK1 : K[X1.toNat]? = some (20, n1)) (hsp : 0 ≤ sp) (hdp : 0 ≤ dp) (hn : 0 ≤ n) (hs : sp + n ≤ n0) (ht : dp + n ≤ n1) (hst : wid st ≤ 8)
    (kk : Fr M (d + 1) fc fs sc (pc + 3) ls st K (upA H X1.toNat (va_cpy (H X0.toNat) (H X1.toNat) sp.toNat dp.toNat n.toNat)) Q) : Fr M (d + 1) fc fs sc pc ls ((0, n) :: (0, dp) :: (2, X1) :: (0, sp) :: (2, X0) :: st) K H Q := by
  intro p l e R s m args below meth c base b D aC nn φ0 φ Hp locs cells slots lsA QM hC hR1 hR2 hc1 hc2 hP hS hl hlo hso hn0 hag hret
  obtain ⟨hxx, hb, hr, hml, hown, hts, hnw, hKK, hlk, hnm, hbs, hsc⟩ := id hC
  have o1 := ok_2 hso
  have o2 := ok_2 (ok_1 o1.2.2).2
  have hni : inI n := o1.1
  have hdi : inI dp := o1.2.1
  have hsi : inI sp := o2.1
  have hat0 := ws_at (φ := φ) (b := b) (aC := aC) (H := H) hK0
  have hat1 := ws_at (φ := φ) (b := b) (aC := aC) (H := H) hK1
  rw [cell_i] at hat0 hat1
  have ng : ∀ {z : Int}, inI z → 0 ≤ z → ¬ Int32.ofInt z < 0 := fun hz h0 q => by have := (i_lt hz i_zero).mp q; omega
  have hw := wid_st φ b st
  have hnf : nativeFrameWords "java/lang/System" "arraycopy" 5 ≤ 20 := by decide +kernel
  simp only [List.map_cons]
  rw [toV_ref h00, toV_ref h01]
  refine va_copyi hxx hb (hml.trans hl.1.symm) hown (hts _ hli) (hts _ na_copy) (hts _ sm_copy) (hts _ ini_sys) hKK hP.1 hP.2.1 hS X0.toNat X1.toNat 0 0 hat0 hat1 rfl rfl rfl (ng hsi hsp) (ng hdi hdp) (ng hni hn) (by rw [i_clamp hsi, i_clamp hni]; omega) (by rw [i_clamp hdi, i_clamp hni]; omega) (fun _ _ => rfl) (by omega) (by rw [hw]; omega) hd fun H1 locs1 hP1 hD1 hS1 => ?_
  rw [i_clamp hsi, i_clamp hdi, i_clamp hni, cpy32, ← cell_i (φ := φ) (b := b), ws_set hK1] at hP1 hD1
  exact kk p l e R s m args below meth c base b D aC nn φ0 φ H1 locs1 cells slots lsA QM hC hR1 hR2 hc1 hc2 ⟨hP1, hD1, rng_cpy hP.2.2 hK0 hK1 (Or.inl rfl) (by omega)⟩ hS1 hl hlo (fun v hv => hso v (by simp [hv])) hn0 hag hret
theorem r_copyl (n0 n1 : Nat) (hd : decode M.2.1 pc = .ok (.invokestatic i, 3)) (hli : Cond.methodLink M.1.cls i arraycopyName ∈ lw_good) (h00 : 0 ≤ X0) (hK0 : K[X0.toNat]? = some (21, n0)) (h01 : 0 ≤ X1) (hK1 : K[X1.toNat]? = some (21, n1)) (hsp : 0 ≤ sp) (hdp : 0 ≤ dp) (hn : 0 ≤ n) (hs : sp + n ≤ n0) (ht : dp + n ≤ n1) (hst : wid st ≤ 8)
    (kk : Fr M (d + 1) fc fs sc (pc + 3) ls st K (upA H X1.toNat (va_cpy (H X0.toNat) (H X1.toNat) sp.toNat dp.toNat n.toNat)) Q) : Fr M (d + 1) fc fs sc pc ls ((0, n) :: (0, dp) :: (2, X1) :: (0, sp) :: (2, X0) :: st) K H Q := by
  intro p l e R s m args below meth c base b D aC nn φ0 φ Hp locs cells slots lsA QM hC hR1 hR2 hc1 hc2 hP hS hl hlo hso hn0 hag hret
  obtain ⟨hxx, hb, hr, hml, hown, hts, hnw, hKK, hlk, hnm, hbs, hsc⟩ := id hC
  have o1 := ok_2 hso
  have o2 := ok_2 (ok_1 o1.2.2).2
  have hni : inI n := o1.1
  have hdi : inI dp := o1.2.1
  have hsi : inI sp := o2.1
  have hat0 := ws_at (φ := φ) (b := b) (aC := aC) (H := H) hK0
  have hat1 := ws_at (φ := φ) (b := b) (aC := aC) (H := H) hK1
  rw [cell_l] at hat0 hat1
  have ng : ∀ {z : Int}, inI z → 0 ≤ z → ¬ Int32.ofInt z < 0 := fun hz h0 q => by have := (i_lt hz i_zero).mp q; omega
  have hw := wid_st φ b st
  have hnf : nativeFrameWords "java/lang/System" "arraycopy" 5 ≤ 20 := by decide +kernel
  simp only [List.map_cons]
  rw [toV_ref h00, toV_ref h01]
  refine va_copyl hxx hb (hml.trans hl.1.symm) hown (hts _ hli) (hts _ na_copy) (hts _ sm_copy) (hts _ ini_sys) hKK hP.1 hP.2.1 hS X0.toNat X1.toNat 1 1 hat0 hat1 rfl rfl rfl (ng hsi hsp) (ng hdi hdp) (ng hni hn) (by rw [i_clamp hsi, i_clamp hni]; omega) (by rw [i_clamp hdi, i_clamp hni]; omega) (fun _ _ => rfl) (by omega) (by rw [hw]; omega) hd fun H1 locs1 hP1 hD1 hS1 => ?_
  rw [i_clamp hsi, i_clamp hdi, i_clamp hni, cpy64, ← cell_l (φ := φ) (b := b), ws_set hK1] at hP1 hD1
  exact kk p l e R s m args below meth c base b D aC nn φ0 φ H1 locs1 cells slots lsA QM hC hR1 hR2 hc1 hc2 ⟨hP1, hD1, rng_cpy hP.2.2 hK0 hK1 (Or.inr rfl) (by omega)⟩ hS1 hl hlo (fun v hv => hso v (by simp [hv])) hn0 hag hret
end Glue
section MathRules
variable {M : MM} {d fc fs : Nat} {sc : Option (Nat × (Nat → Int))} {pc i : Nat} {ls : List (Nat × AV)} {st : List AV} {K : Shp} {H : Mem} {Q : Option AV → Shp → Mem → Prop} {x y : Int}
theorem mat_ini : Cond.initialized "java/lang/Math" ∈ lw_good := ok_J9_abs_0f7a4.2.1
theorem r_maxi (hd : decode M.2.1 pc = .ok (.invokestatic i, 3)) (hli : Cond.methodLink M.1.cls i mJ9_max_7cf53.1 ∈ lw_good) (hst : wid st ≤ 8) (k : Fr M (d + 1) fc fs sc (pc + 3) ls ((0, max x y) :: st) K H Q) : Fr M (d + 1) fc fs sc pc ls ((0, y) :: (0, x) :: st) K H Q := by
  intro p l e R s m args below meth c base b D aC n0 φ0 φ Hp locs cells slots lsA QM hC hR1 hR2 hc1 hc2 hP hS hl hlo hso hn hag hret
  obtain ⟨hxx, hb, hr, hml, hown, hts, hnw, hKK, hlk, hnm, hbs, hsc⟩ := id hC
  have hw := wid_st φ b st
  have ox : inI x := (ok_2 hso).2.1
  have oy : inI y := (ok_2 hso).1
  have hok : inI (max x y) := by unfold inI at *; omega
  have hk := k p l e R s m args below meth c base b D aC n0 φ0 φ Hp locs cells slots lsA QM hC hR1 hR2 hc1 hc2 hP hS hl hlo (ok_push hok (ok_2 hso).2.2) hn hag hret
  refine va_mmax hxx hb (hml.trans hl.1.symm) hown (hts _ hli) (hts _ sm_J9_max_7cf53) (hts _ mat_ini) (hts _ ok_J9_max_7cf53.1) (by omega) (by rw [hw]; omega) (by omega) (by omega) hd ?_
  have ez : (if Int32.ofInt x < Int32.ofInt y then Int32.ofInt y else Int32.ofInt x) = Int32.ofInt (max x y) := by
    by_cases h : x < y
    · rw [if_pos ((i_lt ox oy).mpr h), show max x y = y by omega]
    · rw [if_neg (fun q => h ((i_lt ox oy).mp q)), show max x y = x by omega]
  show W p l e R s m args below meth c Hp locs cells slots QM (F0 m (pc + 3) lsA (.int (if Int32.ofInt x < Int32.ofInt y then Int32.ofInt y else Int32.ofInt x) :: st.map (toV φ b)))
  rw [ez]
  exact hk
theorem r_mini (hd : decode M.2.1 pc = .ok (.invokestatic i, 3)) (hli : Cond.methodLink M.1.cls i mJ9_min_7cf53.1 ∈ lw_good) (hst : wid st ≤ 8) (k : Fr M (d + 1) fc fs sc (pc + 3) ls ((0, min x y) :: st) K H Q) : Fr M (d + 1) fc fs sc pc ls ((0, y) :: (0, x) :: st) K H Q := by
  intro p l e R s m args below meth c base b D aC n0 φ0 φ Hp locs cells slots lsA QM hC hR1 hR2 hc1 hc2 hP hS hl hlo hso hn hag hret
  obtain ⟨hxx, hb, hr, hml, hown, hts, hnw, hKK, hlk, hnm, hbs, hsc⟩ := id hC
  have hw := wid_st φ b st
  have ox : inI x := (ok_2 hso).2.1
  have oy : inI y := (ok_2 hso).1
  have hok : inI (min x y) := by unfold inI at *; omega
  have hk := k p l e R s m args below meth c base b D aC n0 φ0 φ Hp locs cells slots lsA QM hC hR1 hR2 hc1 hc2 hP hS hl hlo (ok_push hok (ok_2 hso).2.2) hn hag hret
  refine va_mmin hxx hb (hml.trans hl.1.symm) hown (hts _ hli) (hts _ sm_J9_min_7cf53) (hts _ mat_ini) (hts _ ok_J9_min_7cf53.1) (by omega) (by rw [hw]; omega) (by omega) (by omega) hd ?_
  have ez : (if Int32.ofInt y < Int32.ofInt x then Int32.ofInt y else Int32.ofInt x) = Int32.ofInt (min x y) := by
    by_cases h : y < x
    · rw [if_pos ((i_lt oy ox).mpr h), show min x y = y by omega]
    · rw [if_neg (fun q => h ((i_lt oy ox).mp q)), show min x y = x by omega]
  show W p l e R s m args below meth c Hp locs cells slots QM (F0 m (pc + 3) lsA (.int (if Int32.ofInt y < Int32.ofInt x then Int32.ofInt y else Int32.ofInt x) :: st.map (toV φ b)))
  rw [ez]
  exact hk
theorem r_maxl (hd : decode M.2.1 pc = .ok (.invokestatic i, 3)) (hli : Cond.methodLink M.1.cls i mJ9_max_f86c9.1 ∈ lw_good) (hst : wid st ≤ 8) (k : Fr M (d + 1) fc fs sc (pc + 3) ls ((1, max x y) :: st) K H Q) : Fr M (d + 1) fc fs sc pc ls ((1, y) :: (1, x) :: st) K H Q := by
  intro p l e R s m args below meth c base b D aC n0 φ0 φ Hp locs cells slots lsA QM hC hR1 hR2 hc1 hc2 hP hS hl hlo hso hn hag hret
  obtain ⟨hxx, hb, hr, hml, hown, hts, hnw, hKK, hlk, hnm, hbs, hsc⟩ := id hC
  have hw := wid_st φ b st
  have ox : inL x := (ok_2 hso).2.1
  have oy : inL y := (ok_2 hso).1
  have hok : inL (max x y) := by unfold inL at *; omega
  have hk := k p l e R s m args below meth c base b D aC n0 φ0 φ Hp locs cells slots lsA QM hC hR1 hR2 hc1 hc2 hP hS hl hlo (ok_push hok (ok_2 hso).2.2) hn hag hret
  refine va_mmax_long hxx hb (hml.trans hl.1.symm) hown (hts _ hli) (hts _ sm_J9_max_f86c9) (hts _ mat_ini) (hts _ ok_J9_max_f86c9.1) (by omega) (by rw [hw]; omega) (by omega) (by omega) hd ?_
  have ez : (if Int64.ofInt y < Int64.ofInt x then Int64.ofInt x else Int64.ofInt y) = Int64.ofInt (max x y) := by
    by_cases h : y < x
    · rw [if_pos ((l_lt oy ox).mpr h), show max x y = x by omega]
    · rw [if_neg (fun q => h ((l_lt oy ox).mp q)), show max x y = y by omega]
  show W p l e R s m args below meth c Hp locs cells slots QM (F0 m (pc + 3) lsA (.long (if Int64.ofInt y < Int64.ofInt x then Int64.ofInt x else Int64.ofInt y) :: st.map (toV φ b)))
  rw [ez]
  exact hk
theorem r_minl (hd : decode M.2.1 pc = .ok (.invokestatic i, 3)) (hli : Cond.methodLink M.1.cls i mJ9_min_f86c9.1 ∈ lw_good) (hst : wid st ≤ 8) (k : Fr M (d + 1) fc fs sc (pc + 3) ls ((1, min x y) :: st) K H Q) : Fr M (d + 1) fc fs sc pc ls ((1, y) :: (1, x) :: st) K H Q := by
  intro p l e R s m args below meth c base b D aC n0 φ0 φ Hp locs cells slots lsA QM hC hR1 hR2 hc1 hc2 hP hS hl hlo hso hn hag hret
  obtain ⟨hxx, hb, hr, hml, hown, hts, hnw, hKK, hlk, hnm, hbs, hsc⟩ := id hC
  have hw := wid_st φ b st
  have ox : inL x := (ok_2 hso).2.1
  have oy : inL y := (ok_2 hso).1
  have hok : inL (min x y) := by unfold inL at *; omega
  have hk := k p l e R s m args below meth c base b D aC n0 φ0 φ Hp locs cells slots lsA QM hC hR1 hR2 hc1 hc2 hP hS hl hlo (ok_push hok (ok_2 hso).2.2) hn hag hret
  refine va_mmin_long hxx hb (hml.trans hl.1.symm) hown (hts _ hli) (hts _ sm_J9_min_f86c9) (hts _ mat_ini) (hts _ ok_J9_min_f86c9.1) (by omega) (by rw [hw]; omega) (by omega) (by omega) hd ?_
  have ez : (if Int64.ofInt y < Int64.ofInt x then Int64.ofInt y else Int64.ofInt x) = Int64.ofInt (min x y) := by
    by_cases h : y < x
    · rw [if_pos ((l_lt oy ox).mpr h), show min x y = y by omega]
    · rw [if_neg (fun q => h ((l_lt oy ox).mp q)), show min x y = x by omega]
  show W p l e R s m args below meth c Hp locs cells slots QM (F0 m (pc + 3) lsA (.long (if Int64.ofInt y < Int64.ofInt x then Int64.ofInt y else Int64.ofInt x) :: st.map (toV φ b)))
  rw [ez]
  exact hk
theorem r_absi (hd : decode M.2.1 pc = .ok (.invokestatic i, 3)) (hli : Cond.methodLink M.1.cls i mJ9_abs_0f7a4.1 ∈ lw_good) (hst : wid st ≤ 8) (hok : inI (max x (-x))) (k : Fr M (d + 1) fc fs sc (pc + 3) ls ((0, max x (-x)) :: st) K H Q) : Fr M (d + 1) fc fs sc pc ls ((0, x) :: st) K H Q := by
  intro p l e R s m args below meth c base b D aC n0 φ0 φ Hp locs cells slots lsA QM hC hR1 hR2 hc1 hc2 hP hS hl hlo hso hn hag hret
  obtain ⟨hxx, hb, hr, hml, hown, hts, hnw, hKK, hlk, hnm, hbs, hsc⟩ := id hC
  have hw := wid_st φ b st
  have ox : inI x := (ok_1 hso).1
  have hk := k p l e R s m args below meth c base b D aC n0 φ0 φ Hp locs cells slots lsA QM hC hR1 hR2 hc1 hc2 hP hS hl hlo (ok_push hok (ok_1 hso).2) hn hag hret
  refine va_mabs hxx hb (hml.trans hl.1.symm) hown (hts _ hli) (hts _ sm_J9_abs_0f7a4) (hts _ mat_ini) (hts _ ok_J9_abs_0f7a4.1) (by omega) (by rw [hw]; omega) (by omega) (by omega) hd ?_
  have ez : (if 0 ≤ Int32.ofInt x then Int32.ofInt x else 0 - Int32.ofInt x) = Int32.ofInt (max x (-x)) := by
    by_cases h : 0 ≤ x
    · have h9 : (0 : Int32) ≤ Int32.ofInt x := (i_le i_zero ox).mpr h
      rw [if_pos h9, show max x (-x) = x by omega]
    · have h9 : ¬ (0 : Int32) ≤ Int32.ofInt x := fun q => h ((i_le i_zero ox).mp q)
      rw [if_neg h9, show max x (-x) = 0 - x by omega, Int32.ofInt_sub]; rfl
  show W p l e R s m args below meth c Hp locs cells slots QM (F0 m (pc + 3) lsA (.int (if 0 ≤ Int32.ofInt x then Int32.ofInt x else 0 - Int32.ofInt x) :: st.map (toV φ b)))
  rw [ez]
  exact hk
theorem r_absl (hd : decode M.2.1 pc = .ok (.invokestatic i, 3)) (hli : Cond.methodLink M.1.cls i mJ9_abs_067f4.1 ∈ lw_good) (hst : wid st ≤ 8) (hok : inL (max x (-x))) (k : Fr M (d + 1) fc fs sc (pc + 3) ls ((1, max x (-x)) :: st) K H Q) : Fr M (d + 1) fc fs sc pc ls ((1, x) :: st) K H Q := by
  intro p l e R s m args below meth c base b D aC n0 φ0 φ Hp locs cells slots lsA QM hC hR1 hR2 hc1 hc2 hP hS hl hlo hso hn hag hret
  obtain ⟨hxx, hb, hr, hml, hown, hts, hnw, hKK, hlk, hnm, hbs, hsc⟩ := id hC
  have hw := wid_st φ b st
  have ox : inL x := (ok_1 hso).1
  have o0 : inL 0 := ⟨by decide, by decide⟩
  have hk := k p l e R s m args below meth c base b D aC n0 φ0 φ Hp locs cells slots lsA QM hC hR1 hR2 hc1 hc2 hP hS hl hlo (ok_push hok (ok_1 hso).2) hn hag hret
  refine va_mabs_long hxx hb (hml.trans hl.1.symm) hown (hts _ hli) (hts _ sm_J9_abs_067f4) (hts _ mat_ini) (hts _ ok_J9_abs_067f4.1) (by omega) (by rw [hw]; omega) (by omega) (by omega) hd ?_
  have ez : (if 0 < Int64.ofInt x then Int64.ofInt x else -Int64.ofInt x) = Int64.ofInt (max x (-x)) := by
    by_cases h : 0 < x
    · have h9 : (0 : Int64) < Int64.ofInt x := (l_lt o0 ox).mpr h
      rw [if_pos h9, show max x (-x) = x by omega]
    · have h9 : ¬ (0 : Int64) < Int64.ofInt x := fun q => h ((l_lt o0 ox).mp q)
      rw [if_neg h9, show max x (-x) = -x by omega, Int64.ofInt_neg]
  show W p l e R s m args below meth c Hp locs cells slots QM (F0 m (pc + 3) lsA (.long (if 0 < Int64.ofInt x then Int64.ofInt x else -Int64.ofInt x) :: st.map (toV φ b)))
  rw [ez]
  exact hk
end MathRules
