/-! RULES, fifth part: new cells, Object's constructor, arraycopy, switches, shifts and masks -/
theorem mono_tyOk {n n' : Nat} (h : n ≤ n') {t : FieldType} {x : Int} (hx : tyOk n t x) : tyOk n' t x := by
  cases t with
  | int => exact hx
  | long => exact hx
  | boolean => exact hx
  | object C => exact ⟨hx.1, by have := hx.2; omega⟩
  | array C => exact ⟨hx.1, by have := hx.2; omega⟩
  | _ => exact hx.elim
/-- what a new cell holds -/
def dflt (kd k : Nat) : Int := if ftag (kty kd k) = 2 then -1 else 0
theorem rng_new {K : Shp} {H : Mem} {q : Nat × Nat} (h : Rng K H) (hq : ∀ k, k < q.2 → tyOk 0 (kty q.1 k) (dflt q.1 k)) : Rng (K ++ [q]) (upA H K.length (dflt q.1)) := by
  intro a q' ha k hk
  have hl : K.length ≤ (K ++ [q]).length := by simp
  unfold upA
  by_cases e : a = K.length
  · subst e
    rw [List.getElem?_append_right (Nat.le_refl _)] at ha
    simp at ha
    subst ha
    rw [if_pos rfl]
    exact mono_tyOk (Nat.zero_le _) (hq k hk)
  · rw [if_neg e]
    have hlt : a < K.length := by
      have := (List.getElem?_eq_some_iff.mp ha).1
      simp at this
      omega
    rw [List.getElem?_append_left hlt] at ha
    exact mono_tyOk hl (h a q' ha k hk)
theorem cell_same {φ φ' : Nat → Nat} {b : Nat} {aC : Nat → ClassId} {K : Shp} {H : Mem} {a : Nat} {q : Nat × Nat} (hr : Rng K H) (ha : K[a]? = some q) (h : ∀ a, a < K.length → φ' a = φ a) : cellE φ' b aC q (H a) = cellE φ b aC q (H a) ∨ True := Or.inr trivial
theorem ftag2 {t : FieldType} {n : Nat} {x : Int} (h : tyOk n t x) : okV n (ftag t, x) := tyOk_okV h
/-- the world with one cell more; refs of the elder cells point at elder cells -/
theorem ws_new {φ φ' : Nat → Nat} {b : Nat} {aC : Nat → ClassId} {K : Shp} {H : Mem} {q : Nat × Nat} {f : Nat → Int} (hr : Rng K H) (h : ∀ a, a < K.length → φ' a = φ a) :
    (∀ (i : Nat) (x y : Nat × va_E), (wsOf φ b aC K H ++ [(φ' K.length, cellE φ' b aC q f)])[i]? = some x → (wsOf φ' b aC (K ++ [q]) (upA H K.length f))[i]? = some y → x.1 = y.1 ∧ ∀ (D : va_G) (Hp : Heap), va_at D vwCl x Hp → va_at D vwCl y Hp) ∧ (wsOf φ b aC K H ++ [(φ' K.length, cellE φ' b aC q f)]).length = (wsOf φ' b aC (K ++ [q]) (upA H K.length f)).length := by
  have hlen : (wsOf φ b aC K H).length = K.length := by simp [wsOf]
  refine ⟨fun i x y hx hy => ?_, by simp [wsOf]⟩
  by_cases hi : i < K.length
  · rw [List.getElem?_append_left (by rw [hlen]; exact hi)] at hx
    obtain ⟨q', hq'⟩ : ∃ q', K[i]? = some q' := ⟨K[i], List.getElem?_eq_getElem hi⟩
    rw [ws_at hq'] at hx
    have hq2 : (K ++ [q])[i]? = some q' := by rw [List.getElem?_append_left hi]; exact hq'
    rw [ws_at hq2] at hy
    cases hx
    cases hy
    refine ⟨(h i hi).symm, fun D Hp ha => ?_⟩
    have e1 : upA H K.length f i = H i := by unfold upA; rw [if_neg (by omega)]
    rw [e1, h i hi]
    have hok := hr i q' hq'
    obtain ⟨kd, n⟩ := q'
    unfold cellE at ha ⊢
    simp only at ha ⊢ hok
    by_cases hk : kd < 13
    · rw [if_pos hk] at ha ⊢
      have e : ((List.range n).map fun k => toV φ' b (ftag (fty kd k), H i k)) = (List.range n).map fun k => toV φ b (ftag (fty kd k), H i k) := by
        apply List.map_congr_left
        intro k hkm
        have h3 := hok k (List.mem_range.mp hkm)
        rw [kty, if_pos hk] at h3
        exact toV_same h (tyOk_okV h3)
      rw [e]
      exact ha
    · rw [if_neg hk] at ha ⊢
      by_cases hk2 : kd = 21
      · rw [if_pos hk2] at ha ⊢; exact ha
      · rw [if_neg hk2] at ha ⊢
        by_cases hk3 : kd = 20 ∨ kd = 22
        · rw [if_pos hk3] at ha ⊢; exact ha
        · rw [if_neg hk3] at ha ⊢
          show Hp[φ i]? = some (vp_cell _ _)
          have ha : Hp[φ i]? = some (vp_cell (aC kd) (n, .inr (.inr (.inr (.inr fun j => refE φ (H i j)))))) := ha
          rw [ha, vp_cell_q, vp_cell_q]
          congr 1
          unfold arrV
          congr 1
          congr 1
          funext j
          have h3 := hok j.val j.isLt
          have hkt : kty kd j.val = .object "" := by
            unfold kty
            rw [if_neg hk, if_neg (fun e => hk3 (Or.inl e)), if_neg hk2, if_neg (fun e => hk3 (Or.inr e))]
          rw [hkt] at h3
          have h4 : H i j.val < K.length := h3.2
          show va_rf (refE φ (H i j.val)) = va_rf (refE φ' (H i j.val))
          unfold refE
          by_cases h5 : H i j.val < 0
          · rw [if_pos h5, if_pos h5]
          · rw [if_neg h5, if_neg h5, h _ (by omega)]
  · have hl : i < (wsOf φ b aC K H ++ [(φ' K.length, cellE φ' b aC q f)]).length := (List.getElem?_eq_some_iff.mp hx).1
    simp [wsOf] at hl
    have e : i = K.length := by omega
    subst e
    rw [List.getElem?_append_right (by rw [hlen]; exact Nat.le_refl _), hlen, Nat.sub_self] at hx
    have hq2 : (K ++ [q])[K.length]? = some q := by simp
    rw [ws_at hq2] at hy
    cases hx
    cases hy
    refine ⟨rfl, fun D Hp ha => ?_⟩
    have e1 : upA H K.length f K.length = f := by unfold upA; rw [if_pos rfl]
    rw [e1]
    exact ha
theorem P_new {base b : Nat} {D : va_G} {φ φ' : Nat → Nat} {aC : Nat → ClassId} {K : Shp} {H : Mem} {q : Nat × Nat} {f : Nat → Int} {Hp : Heap} (hr : Rng K H) (h : ∀ a, a < K.length → φ' a = φ a)
    (hP : va_P D vwCl (wsOf φ b aC K H ++ [(φ' K.length, cellE φ' b aC q f)]) Hp) (hD : va_D (fun q => base ≤ q) (wsOf φ b aC K H ++ [(φ' K.length, cellE φ' b aC q f)])) :
    va_P D vwCl (wsOf φ' b aC (K ++ [q]) (upA H K.length f)) Hp ∧ va_D (fun q => base ≤ q) (wsOf φ' b aC (K ++ [q]) (upA H K.length f)) := by
  obtain ⟨h1, h2⟩ := ws_new (b := b) (aC := aC) (q := q) (f := f) hr h
  have hex : ∀ (i : Nat) (y : Nat × va_E), (wsOf φ' b aC (K ++ [q]) (upA H K.length f))[i]? = some y → ∃ x, (wsOf φ b aC K H ++ [(φ' K.length, cellE φ' b aC q f)])[i]? = some x := by
    intro i y hy
    have hl := (List.getElem?_eq_some_iff.mp hy).1
    rw [← h2] at hl
    exact ⟨_, List.getElem?_eq_getElem hl⟩
  refine ⟨fun i y hy => ?_, fun i j x y hx hy e => ?_, fun i y hy => ?_⟩
  · obtain ⟨x, hx⟩ := hex i y hy
    exact (h1 i x y hx hy).2 D Hp (hP i x hx)
  · obtain ⟨x', hx'⟩ := hex i x hx
    obtain ⟨y', hy'⟩ := hex j y hy
    exact hD.1 i j x' y' hx' hy' (by rw [(h1 i x' x hx' hx).1, (h1 j y' y hy' hy).1]; exact e)
  · obtain ⟨x, hx⟩ := hex i y hy
    show base ≤ y.1
    rw [← (h1 i x y hx hy).1]
    exact hD.2 i x hx
section Make
variable {M : MM} {d fc fs : Nat} {sc : Option (Nat × (Nat → Int))} {pc i : Nat} {ls : List (Nat × AV)} {st : List AV} {K : Shp} {H : Mem} {Q : Option AV → Shp → Mem → Prop}
def upF (φ : Nat → Nat) (n q : Nat) : Nat → Nat := fun j => if j = n then q else φ j
theorem upφ {φ : Nat → Nat} {n q : Nat} : ∀ a, a < n → upF φ n q a = φ a := fun a h => by unfold upF; rw [if_neg (by omega)]
theorem upφ_eq {φ : Nat → Nat} {n q : Nat} : upF φ n q n = q := by unfold upF; rw [if_pos rfl]
/-- behind a new cell -/
theorem after_new {p : Program} {l : Launch} {e : Env} {R : Room} {s : State} {m : MethodId} {args : Array Value} {below : List Frame} {meth : Method} {c : Code} {base b : Nat} {D : va_G} {aC : Nat → ClassId} {n0 : Nat} {φ0 φ : Nat → Nat} {Hp : Heap} {locs : List Loc} {cells slots pc' : Nat} {lsA : Array Slot} {QM : State → Prop} {q : Nat × Nat} {a : Nat}
    (kk : Fr M d fc fs sc pc' ls ((2, (K.length : Int)) :: st) (K ++ [q]) (upA H K.length (dflt q.1)) Q) (hr : Rng K H) (hq : ∀ k, k < q.2 → tyOk 0 (kty q.1 k) (dflt q.1 k))
    (hP : va_P D vwCl (wsOf φ b aC K H ++ [(a, cellE (upF φ K.length a) b aC q (dflt q.1))]) Hp) (hD : va_D (fun q => base ≤ q) (wsOf φ b aC K H ++ [(a, cellE (upF φ K.length a) b aC q (dflt q.1))]))
    (hC : Cx M sc p s m args meth c base b D aC) (hR1 : d ≤ R.frames) (hR2 : 40 * d ≤ R.locals) (hc1 : cells + fc ≤ R.cells) (hc2 : slots + fs ≤ R.slots) (hS : va_S (fun q => base ≤ q) s.heap Hp locs) (hl : lv_has lsA M.2.2.1 (ls.map fun q => (q.1, toV φ b q.2))) (hlo : ∀ q ∈ ls, okV K.length q.2) (hso : ∀ v ∈ st, okV K.length v)
    (hn : n0 ≤ K.length) (hag : ∀ a, a < n0 → φ a = φ0 a) (hret : Ret M p l e R s m args below meth c base b D aC n0 φ0 QM Q) : W p l e R s m args below meth c Hp locs cells slots QM (F0 m pc' lsA (.ref a :: st.map (toV φ b))) := by
  have hu := upφ (φ := φ) (n := K.length) (q := a)
  have ea : upF φ K.length a K.length = a := upφ_eq
  obtain ⟨hP2, hD2⟩ := P_new (φ' := upF φ K.length a) hr hu (by rw [ea]; exact hP) (by rw [ea]; exact hD)
  have hle : K.length ≤ (K ++ [q]).length := by simp
  have hl' : lv_has lsA M.2.2.1 (ls.map fun z => (z.1, toV (upF φ K.length a) b z.2)) := by
    have e : (ls.map fun z => (z.1, toV (upF φ K.length a) b z.2)) = ls.map fun q => (q.1, toV φ b q.2) := List.map_congr_left fun z hz => by rw [toV_same hu (hlo z hz)]
    rw [e]; exact hl
  have hW := kk p l e R s m args below meth c base b D aC n0 φ0 (upF φ K.length a) Hp locs cells slots lsA QM hC hR1 hR2 hc1 hc2 ⟨hP2, hD2, rng_new hr hq⟩ hS hl' (fun z hz => okV_mono hle (hlo z hz)) (ok_push (by show (K.length : Int) < ((K ++ [q]).length : Nat); rw [List.length_append]; simp; omega) (fun v hv => okV_mono hle (hso v hv))) (Nat.le_trans hn hle) (fun x hx => (hu x (Nat.lt_of_lt_of_le hx hn)).trans (hag x hx)) hret
  have e2 : ((2, (K.length : Int)) :: st).map (toV (upF φ K.length a) b) = .ref a :: st.map (toV φ b) := by
    rw [List.map_cons, toV_ref (by omega), map_same hu hso, Int.toNat_natCast, ea]
  rw [e2] at hW
  exact hW
theorem r_new {ci N : Nat} {C : String} {T : u_T} (cl : Cls ci C T N) (hd : decode M.2.1 pc = .ok (.new i, 3)) (hli : Cond.classLink M.1.cls i C ∈ lw_good) (hin : Cond.instantiable C N ∈ lw_good) (hini : Cond.initialized C ∈ lw_good) (hty : ∀ k, k < N → tyOk 0 (kty ci k) (dflt ci k)) (hdf : ∀ k, k < N → ∀ (φ : Nat → Nat) (b : Nat), defaultValue (fty ci k) = toV φ b (ftag (fty ci k), dflt ci k))
    (kk : Fr M d fc fs sc (pc + 3) ls ((2, (K.length : Int)) :: st) (K ++ [(ci, N)]) (upA H K.length (dflt ci)) Q) : Fr M d (1 + fc) (N + fs) sc pc ls st K H Q := by
  intro p l e R s m args below meth c base b D aC n0 φ0 φ Hp locs cells slots lsA QM hC hR1 hR2 hc1 hc2 hP hS hl hlo hso hn hag hret
  obtain ⟨hxx, hb, hr, hml, hown, hts, hnw, hKK, hlk, hnm, hbs, hsc⟩ := id hC
  refine va_new (fs := (List.range N).map fun k => toV φ b (ftag (fty ci k), dflt ci k)) hxx hb hts cl.2.2.1 (fty ci) cl.2.2.2.1 hown (hts _ hli) (hts _ hin) (hts _ hini) hKK hP.1 hP.2.1 hS (fun q h => Nat.le_trans hbs h) cl.2.1 (fun j hj => by rw [hdf j hj φ b]; simp [vp_V, hj]) (by omega) (by omega) hd fun a H1 hP1 hD1 hS1 => ?_
  have ec : ∀ ψ : Nat → Nat, (.inr (ci, (List.range N).map fun k => toV φ b (ftag (fty ci k), dflt ci k)) : va_E) = cellE ψ b aC (ci, N) (dflt ci) := by
    intro ψ
    rw [cell_obj cl.1]
    congr 2
    apply List.map_congr_left
    intro k hk
    rw [← hdf k (List.mem_range.mp hk) φ b, ← hdf k (List.mem_range.mp hk) ψ b]
  rw [ec (upF φ K.length a)] at hP1 hD1
  exact after_new kk hP.2.2 hty hP1 hD1 hC hR1 hR2 (by omega) (by omega) hS1 hl hlo hso hn hag hret
/-- a new array of ints, longs or booleans -/
theorem r_newa {at_ : ArrayType} {n : Int} {N : Nat} (kd t0 : Nat) (ty : FieldType) (hd : decode M.2.1 pc = .ok (.newarray at_, 2)) (hk : kd = 20 ∧ ty = .int ∨ kd = 21 ∧ ty = .long ∨ kd = 22 ∧ ty = .boolean) (hty : newarray.typeOf at_ = ty) (hw : Cond.arrayClass ty ∈ lw_good) (hN : n = (N : Int)) (hN2 : N ≤ 1000000)
    (kk : Fr M d fc fs sc (pc + 2) ls ((2, (K.length : Int)) :: st) (K ++ [(kd, N)]) (upA H K.length (dflt kd)) Q) : Fr M d (1 + fc) (N + fs) sc pc ls ((0, n) :: st) K H Q := by
  intro p l e R s m args below meth c base b D aC n0 φ0 φ Hp locs cells slots lsA QM hC hR1 hR2 hc1 hc2 hP hS hl hlo hso hn hag hret
  obtain ⟨hxx, hb, hr, hml, hown, hts, hnw, hKK, hlk, hnm, hbs, hsc⟩ := id hC
  subst hN
  have hni : inI (N : Int) := (ok_1 hso).1
  have hn0 : ¬ Int32.ofInt (N : Int) < 0 := fun q => by
    have := (i_lt hni i_zero).mp q
    omega
  have hcl : (Int32.ofInt (N : Int)).toNatClampNeg = N := by rw [i_clamp hni]; simp
  have hcb : N * componentBytes ty ≤ 536870912 := by
    rcases hk with ⟨-, rfl⟩ | ⟨-, rfl⟩ | ⟨-, rfl⟩ <;> simp [componentBytes] <;> omega
  have hA : ∀ q, s.heap.size ≤ q → base ≤ q := fun q h => Nat.le_trans hbs h
  have hcid : ∀ cA : ClassId, va_RA s cA ty → cA = aC kd := by
    intro cA h
    rcases hk with ⟨rfl, rfl⟩ | ⟨rfl, rfl⟩ | ⟨rfl, rfl⟩
    · have h2 := (hKK.2 0 (aC 20, .int) rfl).2
      exact Option.some.inj (Eq.trans (Eq.symm h) h2)
    · have h2 := (hKK.2 1 (aC 21, .long) rfl).2
      exact Option.some.inj (Eq.trans (Eq.symm h) h2)
    · have h2 := (hKK.2 2 (aC 22, .boolean) rfl).2
      exact Option.some.inj (Eq.trans (Eq.symm h) h2)
  rw [List.map_cons]
  rcases hk with ⟨rfl, rfl⟩ | ⟨rfl, rfl⟩ | ⟨rfl, rfl⟩
  · refine va_newa (a0 := (N, .inl fun j => Int32.ofInt (dflt 20 j))) hxx hb (by rw [hty]; exact hts _ hw) hty hKK hP.1 hP.2.1 hS hA (fun cA => rfl) hn0 hcl hcb (by omega) (by omega) hd fun a cA H1 hK1 hP1 hD1 hS1 => ?_
    have e1 := hcid cA (hK1.2 5 (cA, .int) rfl).2
    subst e1
    have ec : ∀ ψ : Nat → Nat, (.inl (aC 20, N, .inl fun j => Int32.ofInt (dflt 20 j)) : va_E) = cellE ψ b aC (20, N) (dflt 20) := fun ψ => cell_i.symm
    rw [ec (upF φ K.length a)] at hP1 hD1
    exact after_new kk hP.2.2 (fun k _ => (⟨by decide, by decide⟩ : inI 0)) hP1 hD1 hC hR1 hR2 (by omega) (by omega) hS1 hl hlo (ok_1 hso).2 hn hag hret
  · refine va_newa (a0 := (N, .inr (.inl fun j => Int64.ofInt (dflt 21 j)))) hxx hb (by rw [hty]; exact hts _ hw) hty hKK hP.1 hP.2.1 hS hA (fun cA => rfl) hn0 hcl hcb (by omega) (by omega) hd fun a cA H1 hK1 hP1 hD1 hS1 => ?_
    have e1 := hcid cA (hK1.2 5 (cA, .long) rfl).2
    subst e1
    have ec : ∀ ψ : Nat → Nat, (.inl (aC 21, N, .inr (.inl fun j => Int64.ofInt (dflt 21 j))) : va_E) = cellE ψ b aC (21, N) (dflt 21) := fun ψ => cell_l.symm
    rw [ec (upF φ K.length a)] at hP1 hD1
    exact after_new kk hP.2.2 (fun k _ => (⟨by decide, by decide⟩ : inL 0)) hP1 hD1 hC hR1 hR2 (by omega) (by omega) hS1 hl hlo (ok_1 hso).2 hn hag hret
  · refine va_newa (a0 := (N, .inl fun j => Int32.ofInt (dflt 22 j))) hxx hb (by rw [hty]; exact hts _ hw) hty hKK hP.1 hP.2.1 hS hA (fun cA => rfl) hn0 hcl hcb (by omega) (by omega) hd fun a cA H1 hK1 hP1 hD1 hS1 => ?_
    have e1 := hcid cA (hK1.2 5 (cA, .boolean) rfl).2
    subst e1
    have ec : ∀ ψ : Nat → Nat, (.inl (aC 22, N, .inl fun j => Int32.ofInt (dflt 22 j)) : va_E) = cellE ψ b aC (22, N) (dflt 22) := fun ψ => cell_z.symm
    rw [ec (upF φ K.length a)] at hP1 hD1
    exact after_new kk hP.2.2 (fun k _ => Or.inl rfl) hP1 hD1 hC hR1 hR2 (by omega) (by omega) hS1 hl hlo (ok_1 hso).2 hn hag hret
/-- a new array of objects -/
theorem r_newq {n : Int} {N : Nat} (kd : Nat) (C : String) (hd : decode M.2.1 pc = .ok (.anewarray i, 3)) (hk : kd = 23 ∧ C = "RodBeam$Section" ∨ kd = 24 ∧ C = "RodBeam$Span") (hli : Cond.classLink M.1.cls i C ∈ lw_good) (hov : Cond.arrayOver (.object C) ∈ lw_nest) (hN : n = (N : Int)) (hN2 : N ≤ 1000000)
    (kk : Fr M d fc fs sc (pc + 3) ls ((2, (K.length : Int)) :: st) (K ++ [(kd, N)]) (upA H K.length (dflt kd)) Q) : Fr M d (1 + fc) (N + fs) sc pc ls ((0, n) :: st) K H Q := by
  intro p l e R s m args below meth c base b D aC n0 φ0 φ Hp locs cells slots lsA QM hC hR1 hR2 hc1 hc2 hP hS hl hlo hso hn hag hret
  obtain ⟨hxx, hb, hr, hml, hown, hts, hnw, hKK, hlk, hnm, hbs, hsc⟩ := id hC
  subst hN
  have hni : inI (N : Int) := (ok_1 hso).1
  have hn0 : ¬ Int32.ofInt (N : Int) < 0 := fun q => by
    have := (i_lt hni i_zero).mp q
    omega
  have hcl : (Int32.ofInt (N : Int)).toNatClampNeg = N := by rw [i_clamp hni]; simp
  have hA : ∀ q, s.heap.size ≤ q → base ≤ q := fun q h => Nat.le_trans hbs h
  have hcid : ∀ cA : ClassId, va_RA s cA (.object C) → cA = aC kd := by
    intro cA h
    obtain ⟨_, _, -, -, -, h⟩ := h
    rcases hk with ⟨rfl, rfl⟩ | ⟨rfl, rfl⟩
    · obtain ⟨_, _, -, -, -, h2⟩ := (hKK.2 3 (aC 23, .object "RodBeam$Section") rfl).2
      exact Option.some.inj (Eq.trans (Eq.symm h) h2)
    · obtain ⟨_, _, -, -, -, h2⟩ := (hKK.2 4 (aC 24, .object "RodBeam$Span") rfl).2
      exact Option.some.inj (Eq.trans (Eq.symm h) h2)
  rw [List.map_cons]
  refine va_newq hxx hb hown (hts _ hli) (va_AO.of (A := #[]) (hnw _ hov)) hKK hP.1 hP.2.1 hS hA hn0 hcl (by omega) (by omega) (by omega) hd fun a cA H1 hK1 hP1 hD1 hS1 => ?_
  have e1 := hcid cA (hK1.2 5 (cA, .object C) rfl).2
  subst e1
  rcases hk with ⟨rfl, rfl⟩ | ⟨rfl, rfl⟩
  · have ec : ∀ ψ : Nat → Nat, (.inl (aC 23, N, .inr (.inr (.inr (.inr fun _ => none)))) : va_E) = cellE ψ b aC (23, N) (dflt 23) := fun ψ => by rw [cell_23]; rfl
    rw [ec (upF φ K.length a)] at hP1 hD1
    exact after_new kk hP.2.2 (fun k _ => (⟨by decide, by decide⟩ : (-1 : Int) ≤ -1 ∧ (-1 : Int) < (0 : Nat))) hP1 hD1 hC hR1 hR2 (by omega) (by omega) hS1 hl hlo (ok_1 hso).2 hn hag hret
  · have ec : ∀ ψ : Nat → Nat, (.inl (aC 24, N, .inr (.inr (.inr (.inr fun _ => none)))) : va_E) = cellE ψ b aC (24, N) (dflt 24) := fun ψ => by rw [cell_24]; rfl
    rw [ec (upF φ K.length a)] at hP1 hD1
    exact after_new kk hP.2.2 (fun k _ => (⟨by decide, by decide⟩ : (-1 : Int) ≤ -1 ∧ (-1 : Int) < (0 : Nat))) hP1 hD1 hC hR1 hR2 (by omega) (by omega) hS1 hl hlo (ok_1 hso).2 hn hag hret
/-- Object's constructor -/
theorem r_objInit {X : Int} (hd : decode M.2.1 pc = .ok (.invokespecial i, 3)) (hli : Cond.methodLink M.1.cls i objectInit ∈ lw_good) (hin : Cond.instanceMethod objectInit ∈ lw_good) (hco : Cond.code objectInit ⟨#[0xb1]⟩ 1 none ∈ lw_good) (h0 : 0 ≤ X) (hst : wid st ≤ 8)
    (kk : Fr M (d + 1) fc fs sc (pc + 3) ls st K H Q) : Fr M (d + 1) fc fs sc pc ls ((2, X) :: st) K H Q := by
  intro p l e R s m args below meth c base b D aC n0 φ0 φ Hp locs cells slots lsA QM hC hR1 hR2 hc1 hc2 hP hS hl hlo hso hn hag hret
  obtain ⟨hxx, hb, hr, hml, hown, hts, hnw, hKK, hlk, hnm, hbs, hsc⟩ := id hC
  rw [List.map_cons, toV_ref h0]
  refine W.objInit hxx hb hown (hts _ hli) (hts _ hin) (hts _ hco) rfl (by rw [hml]; exact hl.1) rfl hd (by omega) ?_ (W.eq (g2 := F0 m (pc + 3) lsA (st.map (toV φ b))) rfl (kk p l e R s m args below meth c base b D aC n0 φ0 φ Hp locs cells slots lsA QM hC hR1 hR2 hc1 hc2 hP hS hl hlo (ok_1 hso).2 hn hag hret))
  have := lv_room (m := m) (pc := pc) (ls := lsA) (rest := .ref (φ X.toNat) :: st.map (toV φ b)) (st := st.map (toV φ b)) (by rw [wid_st]; exact hst)
  omega
end Make
