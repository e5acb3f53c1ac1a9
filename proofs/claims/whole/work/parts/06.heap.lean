/-! RULES, third part: fields and arrays -/
theorem rfv_ref {φ : Nat → Nat} {b : Nat} {X : Int} (h : 0 ≤ X) : rfv φ b X = .ref (φ X.toNat) := by
  unfold rfv; rw [if_neg (by omega), if_neg (by omega)]
theorem toV_ref {φ : Nat → Nat} {b : Nat} {X : Int} (h : 0 ≤ X) : toV φ b (2, X) = .ref (φ X.toNat) := rfv_ref h
def Cls (ci : Nat) (C : String) (T : u_T) (N : Nat) : Prop := ci < 13 ∧ vwCl[ci]? = some (C, T, N) ∧ (∀ w ∈ u_ws C T N, w ∈ lw_good) ∧ (∀ k, k < N → parseFieldDescriptor (T k).2.2.1 = some (fty ci k)) ∧ ∀ a, a < N → ∀ b, b < N → a ≠ b → (T a).2.1 ≠ (T b).2.1
theorem stOk {φ : Nat → Nat} {b n : Nat} {t : FieldType} {x : Int} (h : tyOk n t x) : narrow t (toV φ b (ftag t, x)) = toV φ b (ftag t, x) ∧ fits t (toV φ b (ftag t, x)) = true := by
  cases t with
  | int => exact ⟨rfl, rfl⟩
  | long => exact ⟨rfl, rfl⟩
  | boolean =>
    rcases h with h | h <;> subst h
    · show narrow .boolean (.int (Int32.ofInt 0)) = .int (Int32.ofInt 0) ∧ fits .boolean (.int (Int32.ofInt 0)) = true
      exact ⟨by decide +kernel, by decide +kernel⟩
    · show narrow .boolean (.int (Int32.ofInt 1)) = .int (Int32.ofInt 1) ∧ fits .boolean (.int (Int32.ofInt 1)) = true
      exact ⟨by decide +kernel, by decide +kernel⟩
  | object C =>
    show narrow (.object C) (rfv φ b x) = rfv φ b x ∧ fits (.object C) (rfv φ b x) = true
    unfold rfv; split <;> (try split) <;> exact ⟨rfl, rfl⟩
  | array C =>
    show narrow (.array C) (rfv φ b x) = rfv φ b x ∧ fits (.array C) (rfv φ b x) = true
    unfold rfv; split <;> (try split) <;> exact ⟨rfl, rfl⟩
  | _ => exact h.elim
theorem tyOk_okV {n : Nat} {t : FieldType} {x : Int} (h : tyOk n t x) : okV n (ftag t, x) := by
  cases t with
  | int => exact h
  | long => exact h
  | boolean => rcases h with h | h <;> subst h <;> exact ⟨by decide, by decide⟩
  | object C => exact h.2
  | array C => exact h.2
  | _ => exact h.elim
theorem rng_up {K : Shp} {H : Mem} {a k : Nat} {q : Nat × Nat} {x : Int} (h : Rng K H) (hk : K[a]? = some q) (hx : tyOk K.length (kty q.1 k) x) : Rng K (upA H a (up1 (H a) k x)) := by
  intro a' q' h' k' hk'
  unfold upA
  by_cases e : a' = a
  · subst e
    rw [hk] at h'
    cases h'
    rw [if_pos rfl]
    unfold up1
    by_cases e2 : k' = k
    · rw [if_pos e2, e2]; exact hx
    · rw [if_neg e2]; exact h a' q hk k' hk'
  · rw [if_neg e]; exact h a' q' h' k' hk'
theorem cell_obj {φ : Nat → Nat} {b : Nat} {aC : Nat → ClassId} {ci N : Nat} {f : Nat → Int} (h : ci < 13) : cellE φ b aC (ci, N) f = .inr (ci, (List.range N).map fun k => toV φ b (ftag (fty ci k), f k)) := by
  simp [cellE, h]
theorem cell_put {φ : Nat → Nat} {b : Nat} {aC : Nat → ClassId} {ci N k : Nat} {f : Nat → Int} {x : Int} (h : ci < 13) : (.inr (ci, ((List.range N).map fun k => toV φ b (ftag (fty ci k), f k)).set k (toV φ b (ftag (fty ci k), x))) : va_E) = cellE φ b aC (ci, N) (up1 f k x) := by
  rw [cell_obj h, range_set]
  congr 2
  apply List.map_congr_left
  intro j _
  by_cases e : j = k
  · subst e; simp [up1]
  · simp [up1, e]
section Rules3
variable {M : MM} {d fc fs : Nat} {sc : Option (Nat × (Nat → Int))} {pc : Nat} {ls : List (Nat × AV)} {st : List AV} {K : Shp} {H : Mem} {Q : Option AV → Shp → Mem → Prop}
variable {ci k N i : Nat} {C : String} {T : u_T} {X : Int}
theorem r_getf (cl : Cls ci C T N) (k : Nat) (hd : decode M.2.1 pc = .ok (.getfield i, 3)) (hk : k < N) (hw : Cond.fieldLink M.1.cls i (T k).1 (T k).2.1 (T k).2.2.1 ∈ lw_good) {tg : Nat} (ht : ftag (fty ci k) = tg) (h0 : 0 ≤ X) (hK : K[X.toNat]? = some (ci, N))
    (kk : Fr M d fc fs sc (pc + 3) ls ((tg, H X.toNat k) :: st) K H Q) : Fr M d fc fs sc pc ls ((2, X) :: st) K H Q := by
  subst ht
  intro p l e R s m args below meth c base b D aC n0 φ0 φ Hp locs cells slots lsA QM hC hR1 hR2 hc1 hc2 hP hS hl hlo hso hn hag hret
  obtain ⟨hx, hb, hr, hml, hown, hts, hnw, hKK, hlk, hnm, hbs, hsc⟩ := id hC
  have hat := ws_at (φ := φ) (b := b) (aC := aC) (H := H) hK
  rw [cell_obj cl.1] at hat
  have hok : tyOk K.length (fty ci k) (H X.toNat k) := by
    have := hP.2.2 X.toNat _ hK k hk
    rw [kty, if_pos cl.1] at this
    exact this
  have hw2 := kk p l e R s m args below meth c base b D aC n0 φ0 φ Hp locs cells slots lsA QM hC hR1 hR2 hc1 hc2 hP hS hl hlo (ok_push (tyOk_okV hok) (ok_1 hso).2) hn hag hret
  rw [List.map_cons, toV_ref h0]
  exact va_get hx hb hts cl.2.2.1 hown hKK hP.1 X.toNat hat cl.2.1 k hk (hts _ hw) (fun _ h => h) (v := toV φ b (ftag (fty ci k), H X.toNat k)) (by simp [hk]) hd hw2
theorem r_putf (cl : Cls ci C T N) (k : Nat) {x : Int} {tg : Nat} (hd : decode M.2.1 pc = .ok (.putfield i, 3)) (hk : k < N) (hf : (T k).2.2.2 = false) (hw : Cond.fieldLink M.1.cls i (T k).1 (T k).2.1 (T k).2.2.1 ∈ lw_good) (ht : ftag (fty ci k) = tg) (h0 : 0 ≤ X) (hK : K[X.toNat]? = some (ci, N)) (hx : okV K.length (tg, x) → tyOk K.length (fty ci k) x)
    (kk : Fr M d fc fs sc (pc + 3) ls st K (upA H X.toNat (up1 (H X.toNat) k x)) Q) : Fr M d fc fs sc pc ls ((tg, x) :: (2, X) :: st) K H Q := by
  subst ht
  intro p l e R s m args below meth c base b D aC n0 φ0 φ Hp locs cells slots lsA QM hC hR1 hR2 hc1 hc2 hP hS hl hlo hso hn hag hret
  obtain ⟨hxx, hb, hr, hml, hown, hts, hnw, hKK, hlk, hnm, hbs, hsc⟩ := id hC
  have hx := hx (ok_1 hso).1
  have hat := ws_at (φ := φ) (b := b) (aC := aC) (H := H) hK
  rw [cell_obj cl.1] at hat
  rw [List.map_cons, List.map_cons, toV_ref h0]
  refine va_put hxx hb hts cl.2.2.1 (fty ci) cl.2.2.2.1 cl.2.2.2.2 hown hKK hP.1 hP.2.1 hS X.toNat hat cl.2.1 k hk (hts _ hw) (fun _ h => h) hf (cl.2.2.2.1 k hk) (stOk hx).1 (stOk hx).2 (by simp [hk]) hd fun H1 locs1 hP1 hD1 hS1 => ?_
  rw [cell_put (aC := aC) cl.1, ws_set hK] at hP1 hD1
  exact kk p l e R s m args below meth c base b D aC n0 φ0 φ H1 locs1 cells slots lsA QM hC hR1 hR2 hc1 hc2 ⟨hP1, hD1, rng_up hP.2.2 hK (by rw [kty, if_pos cl.1]; exact hx)⟩ hS1 hl hlo (ok_2 hso).2.2 hn hag hret
/-- a final field, in a constructor -/
theorem r_putfF (cl : Cls ci C T N) (k : Nat) {x : Int} {tg : Nat} (hd : decode M.2.1 pc = .ok (.putfield i, 3)) (hk : k < N) (hf : (T k).2.2.2 = true) (hi : M.1.name = "<init>") (ho : (T k).1 = M.1.cls) (hw : Cond.fieldLink M.1.cls i (T k).1 (T k).2.1 (T k).2.2.1 ∈ lw_good) (ht : ftag (fty ci k) = tg) (h0 : 0 ≤ X) (hK : K[X.toNat]? = some (ci, N)) (hx : okV K.length (tg, x) → tyOk K.length (fty ci k) x)
    (kk : Fr M d fc fs sc (pc + 3) ls st K (upA H X.toNat (up1 (H X.toNat) k x)) Q) : Fr M d fc fs sc pc ls ((tg, x) :: (2, X) :: st) K H Q := by
  subst ht
  intro p l e R s m args below meth c base b D aC n0 φ0 φ Hp locs cells slots lsA QM hC hR1 hR2 hc1 hc2 hP hS hl hlo hso hn hag hret
  obtain ⟨hxx, hb, hr, hml, hown, hts, hnw, hKK, hlk, hnm, hbs, hsc⟩ := id hC
  have hx := hx (ok_1 hso).1
  have hat := ws_at (φ := φ) (b := b) (aC := aC) (H := H) hK
  rw [cell_obj cl.1] at hat
  rw [List.map_cons, List.map_cons, toV_ref h0]
  refine va_putF hxx hb hts cl.2.2.1 (fty ci) cl.2.2.2.1 cl.2.2.2.2 hown hKK hP.1 hP.2.1 hS X.toNat hat cl.2.1 k hk (hts _ hw) (fun _ h => h) hf (hnm.trans hi) ho (cl.2.2.2.1 k hk) (stOk hx).1 (stOk hx).2 (by simp [hk]) hd fun H1 locs1 hP1 hD1 hS1 => ?_
  rw [cell_put (aC := aC) cl.1, ws_set hK] at hP1 hD1
  exact kk p l e R s m args below meth c base b D aC n0 φ0 φ H1 locs1 cells slots lsA QM hC hR1 hR2 hc1 hc2 ⟨hP1, hD1, rng_up hP.2.2 hK (by rw [kty, if_pos cl.1]; exact hx)⟩ hS1 hl hlo (ok_2 hso).2.2 hn hag hret
/-- arrays -/
theorem cell_i {φ : Nat → Nat} {b : Nat} {aC : Nat → ClassId} {n : Nat} {f : Nat → Int} : cellE φ b aC (20, n) f = .inl (aC 20, n, .inl fun j => Int32.ofInt (f j)) := by simp [cellE]
theorem cell_z {φ : Nat → Nat} {b : Nat} {aC : Nat → ClassId} {n : Nat} {f : Nat → Int} : cellE φ b aC (22, n) f = .inl (aC 22, n, .inl fun j => Int32.ofInt (f j)) := by simp [cellE]
theorem cell_l {φ : Nat → Nat} {b : Nat} {aC : Nat → ClassId} {n : Nat} {f : Nat → Int} : cellE φ b aC (21, n) f = .inl (aC 21, n, .inr (.inl fun j => Int64.ofInt (f j))) := by simp [cellE]
theorem cell_23 {φ : Nat → Nat} {b : Nat} {aC : Nat → ClassId} {n : Nat} {f : Nat → Int} : cellE φ b aC (23, n) f = .inl (aC 23, n, .inr (.inr (.inr (.inr fun j => refE φ (f j))))) := by simp [cellE]
theorem cell_24 {φ : Nat → Nat} {b : Nat} {aC : Nat → ClassId} {n : Nat} {f : Nat → Int} : cellE φ b aC (24, n) f = .inl (aC 24, n, .inr (.inr (.inr (.inr fun j => refE φ (f j))))) := by simp [cellE]
theorem up32 {f : Nat → Int} {k : Nat} {x : Int} : upd (fun j => Int32.ofInt (f j)) k (Int32.ofInt x) = fun j => Int32.ofInt (up1 f k x j) := by
  funext j; unfold upd up1; split <;> rfl
theorem up64 {f : Nat → Int} {k : Nat} {x : Int} : vp_updL (fun j => Int64.ofInt (f j)) k (Int64.ofInt x) = fun j => Int64.ofInt (up1 f k x j) := by
  funext j; unfold vp_updL up1; split <;> rfl
variable {n : Nat} {j x : Int}
theorem r_iald (n : Nat) (hd : decode M.2.1 pc = .ok (.iaload, 1)) (h0 : 0 ≤ X) (hK : K[X.toNat]? = some (20, n)) (hj : 0 ≤ j) (hj2 : j < n)
    (kk : Fr M d fc fs sc (pc + 1) ls ((0, H X.toNat j.toNat) :: st) K H Q) : Fr M d fc fs sc pc ls ((0, j) :: (2, X) :: st) K H Q := by
  intro p l e R s m args below meth c base b D aC n0 φ0 φ Hp locs cells slots lsA QM hC hR1 hR2 hc1 hc2 hP hS hl hlo hso hn hag hret
  have hji : inI j := (ok_1 hso).1
  have hat := ws_at (φ := φ) (b := b) (aC := aC) (H := H) hK
  rw [cell_i] at hat
  have hok := hP.2.2 X.toNat _ hK j.toNat (by show j.toNat < n; omega)
  have hw2 := kk p l e R s m args below meth c base b D aC n0 φ0 φ Hp locs cells slots lsA QM hC hR1 hR2 hc1 hc2 hP hS hl hlo (ok_push hok (ok_2 hso).2.2) hn hag hret
  rw [List.map_cons, List.map_cons, toV_ref h0]
  refine va_iald hC.1 hC.2.1 hC.2.2.2.2.2.2.2.1 hP.1 X.toNat 0 hat rfl (i_in hji hj hj2) hd ?_
  rw [i_clamp hji]
  exact hw2
theorem r_zald (n : Nat) (hd : decode M.2.1 pc = .ok (.baload, 1)) (h0 : 0 ≤ X) (hK : K[X.toNat]? = some (22, n)) (hj : 0 ≤ j) (hj2 : j < n)
    (kk : Fr M d fc fs sc (pc + 1) ls ((0, H X.toNat j.toNat) :: st) K H Q) : Fr M d fc fs sc pc ls ((0, j) :: (2, X) :: st) K H Q := by
  intro p l e R s m args below meth c base b D aC n0 φ0 φ Hp locs cells slots lsA QM hC hR1 hR2 hc1 hc2 hP hS hl hlo hso hn hag hret
  have hji : inI j := (ok_1 hso).1
  have hat := ws_at (φ := φ) (b := b) (aC := aC) (H := H) hK
  rw [cell_z] at hat
  have hok : tyOk K.length .boolean _ := hP.2.2 X.toNat _ hK j.toNat (by show j.toNat < n; omega)
  have hw2 := kk p l e R s m args below meth c base b D aC n0 φ0 φ Hp locs cells slots lsA QM hC hR1 hR2 hc1 hc2 hP hS hl hlo (ok_push (tyOk_okV hok) (ok_2 hso).2.2) hn hag hret
  rw [List.map_cons, List.map_cons, toV_ref h0]
  refine va_zald hC.1 hC.2.1 hC.2.2.2.2.2.2.2.1 hP.1 X.toNat 2 hat rfl (i_in hji hj hj2) hd ?_
  rw [i_clamp hji]
  exact hw2
theorem r_lald (n : Nat) (hd : decode M.2.1 pc = .ok (.laload, 1)) (h0 : 0 ≤ X) (hK : K[X.toNat]? = some (21, n)) (hj : 0 ≤ j) (hj2 : j < n)
    (kk : Fr M d fc fs sc (pc + 1) ls ((1, H X.toNat j.toNat) :: st) K H Q) : Fr M d fc fs sc pc ls ((0, j) :: (2, X) :: st) K H Q := by
  intro p l e R s m args below meth c base b D aC n0 φ0 φ Hp locs cells slots lsA QM hC hR1 hR2 hc1 hc2 hP hS hl hlo hso hn hag hret
  have hji : inI j := (ok_1 hso).1
  have hat := ws_at (φ := φ) (b := b) (aC := aC) (H := H) hK
  rw [cell_l] at hat
  have hok : tyOk K.length .long _ := hP.2.2 X.toNat _ hK j.toNat (by show j.toNat < n; omega)
  have hw2 := kk p l e R s m args below meth c base b D aC n0 φ0 φ Hp locs cells slots lsA QM hC hR1 hR2 hc1 hc2 hP hS hl hlo (ok_push (tyOk_okV hok) (ok_2 hso).2.2) hn hag hret
  rw [List.map_cons, List.map_cons, toV_ref h0]
  refine va_lald hC.1 hC.2.1 hC.2.2.2.2.2.2.2.1 hP.1 X.toNat 1 hat rfl (i_in hji hj hj2) hd ?_
  rw [i_clamp hji]
  exact hw2
theorem rf_eq {φ : Nat → Nat} {b : Nat} {x : Int} (h : -1 ≤ x) : va_rf (refE φ x) = toV φ b (2, x) := by
  show _ = rfv φ b x
  unfold refE rfv
  by_cases h0 : x < 0
  · rw [if_pos h0, if_neg (by omega), if_pos h0]; rfl
  · rw [if_neg h0, if_neg (by omega), if_neg h0]; rfl
theorem r_aald (kd n : Nat) (hkd : kd = 23 ∨ kd = 24) (hd : decode M.2.1 pc = .ok (.aaload, 1)) (h0 : 0 ≤ X) (hK : K[X.toNat]? = some (kd, n)) (hj : 0 ≤ j) (hj2 : j < n)
    (kk : Fr M d fc fs sc (pc + 1) ls ((2, H X.toNat j.toNat) :: st) K H Q) : Fr M d fc fs sc pc ls ((0, j) :: (2, X) :: st) K H Q := by
  intro p l e R s m args below meth c base b D aC n0 φ0 φ Hp locs cells slots lsA QM hC hR1 hR2 hc1 hc2 hP hS hl hlo hso hn hag hret
  have hji : inI j := (ok_1 hso).1
  have hat := ws_at (φ := φ) (b := b) (aC := aC) (H := H) hK
  rcases hkd with rfl | rfl
  · rw [cell_23] at hat
    have hok : tyOk K.length (.object "") _ := hP.2.2 X.toNat _ hK j.toNat (by show j.toNat < n; omega)
    have hw2 := kk p l e R s m args below meth c base b D aC n0 φ0 φ Hp locs cells slots lsA QM hC hR1 hR2 hc1 hc2 hP hS hl hlo (ok_push (tyOk_okV hok) (ok_2 hso).2.2) hn hag hret
    rw [List.map_cons, List.map_cons, toV_ref h0]
    refine va_aldq hC.1 hC.2.1 hC.2.2.2.2.2.2.2.1 hP.1 X.toNat 3 hat rfl (i_in hji hj hj2) hd ?_
    rw [i_clamp hji, rf_eq (b := b) hok.1]
    exact hw2
  · rw [cell_24] at hat
    have hok : tyOk K.length (.object "") _ := hP.2.2 X.toNat _ hK j.toNat (by show j.toNat < n; omega)
    have hw2 := kk p l e R s m args below meth c base b D aC n0 φ0 φ Hp locs cells slots lsA QM hC hR1 hR2 hc1 hc2 hP hS hl hlo (ok_push (tyOk_okV hok) (ok_2 hso).2.2) hn hag hret
    rw [List.map_cons, List.map_cons, toV_ref h0]
    refine va_aldq hC.1 hC.2.1 hC.2.2.2.2.2.2.2.1 hP.1 X.toNat 4 hat rfl (i_in hji hj hj2) hd ?_
    rw [i_clamp hji, rf_eq (b := b) hok.1]
    exact hw2
theorem r_iast (n : Nat) (hd : decode M.2.1 pc = .ok (.iastore, 1)) (h0 : 0 ≤ X) (hK : K[X.toNat]? = some (20, n)) (hj : 0 ≤ j) (hj2 : j < n)
    (kk : Fr M d fc fs sc (pc + 1) ls st K (upA H X.toNat (up1 (H X.toNat) j.toNat x)) Q) : Fr M d fc fs sc pc ls ((0, x) :: (0, j) :: (2, X) :: st) K H Q := by
  intro p l e R s m args below meth c base b D aC n0 φ0 φ Hp locs cells slots lsA QM hC hR1 hR2 hc1 hc2 hP hS hl hlo hso hn hag hret
  have hji : inI j := (ok_2 hso).2.1
  have hat := ws_at (φ := φ) (b := b) (aC := aC) (H := H) hK
  rw [cell_i] at hat
  rw [List.map_cons, List.map_cons, List.map_cons, toV_ref h0]
  refine va_iast hC.1 hC.2.1 hC.2.2.2.2.2.2.2.1 hP.1 hP.2.1 hS X.toNat 0 hat rfl (i_in hji hj hj2) hd fun H1 locs1 hP1 hD1 hS1 => ?_
  rw [i_clamp hji, up32, ← cell_i (φ := φ) (b := b), ws_set hK] at hP1 hD1
  exact kk p l e R s m args below meth c base b D aC n0 φ0 φ H1 locs1 cells slots lsA QM hC hR1 hR2 hc1 hc2 ⟨hP1, hD1, rng_up hP.2.2 hK (ok_2 hso).1⟩ hS1 hl hlo (ok_1 (ok_2 hso).2.2).2 hn hag hret
theorem r_last (n : Nat) (hd : decode M.2.1 pc = .ok (.lastore, 1)) (h0 : 0 ≤ X) (hK : K[X.toNat]? = some (21, n)) (hj : 0 ≤ j) (hj2 : j < n)
    (kk : Fr M d fc fs sc (pc + 1) ls st K (upA H X.toNat (up1 (H X.toNat) j.toNat x)) Q) : Fr M d fc fs sc pc ls ((1, x) :: (0, j) :: (2, X) :: st) K H Q := by
  intro p l e R s m args below meth c base b D aC n0 φ0 φ Hp locs cells slots lsA QM hC hR1 hR2 hc1 hc2 hP hS hl hlo hso hn hag hret
  have hji : inI j := (ok_2 hso).2.1
  have hat := ws_at (φ := φ) (b := b) (aC := aC) (H := H) hK
  rw [cell_l] at hat
  rw [List.map_cons, List.map_cons, List.map_cons, toV_ref h0]
  refine va_last hC.1 hC.2.1 hC.2.2.2.2.2.2.2.1 hP.1 hP.2.1 hS X.toNat 1 hat rfl (i_in hji hj hj2) hd fun H1 locs1 hP1 hD1 hS1 => ?_
  rw [i_clamp hji, up64, ← cell_l (φ := φ) (b := b), ws_set hK] at hP1 hD1
  exact kk p l e R s m args below meth c base b D aC n0 φ0 φ H1 locs1 cells slots lsA QM hC hR1 hR2 hc1 hc2 ⟨hP1, hD1, rng_up hP.2.2 hK (ok_2 hso).1⟩ hS1 hl hlo (ok_1 (ok_2 hso).2.2).2 hn hag hret
theorem nar01 {x : Int} (h : x = 0 ∨ x = 1) : vp_nar .boolean (Int32.ofInt x) = Int32.ofInt x := by
  rcases h with h | h <;> subst h <;> decide +kernel
theorem r_zast (n : Nat) (hd : decode M.2.1 pc = .ok (.bastore, 1)) (h0 : 0 ≤ X) (hK : K[X.toNat]? = some (22, n)) (hj : 0 ≤ j) (hj2 : j < n) (hx : x = 0 ∨ x = 1)
    (kk : Fr M d fc fs sc (pc + 1) ls st K (upA H X.toNat (up1 (H X.toNat) j.toNat x)) Q) : Fr M d fc fs sc pc ls ((0, x) :: (0, j) :: (2, X) :: st) K H Q := by
  intro p l e R s m args below meth c base b D aC n0 φ0 φ Hp locs cells slots lsA QM hC hR1 hR2 hc1 hc2 hP hS hl hlo hso hn hag hret
  have hji : inI j := (ok_2 hso).2.1
  have hat := ws_at (φ := φ) (b := b) (aC := aC) (H := H) hK
  rw [cell_z] at hat
  rw [List.map_cons, List.map_cons, List.map_cons, toV_ref h0]
  refine va_zast hC.1 hC.2.1 hC.2.2.2.2.2.2.2.1 hP.1 hP.2.1 hS X.toNat 2 hat rfl (i_in hji hj hj2) hd fun H1 locs1 hP1 hD1 hS1 => ?_
  rw [i_clamp hji, nar01 hx, up32, ← cell_z (φ := φ) (b := b), ws_set hK] at hP1 hD1
  exact kk p l e R s m args below meth c base b D aC n0 φ0 φ H1 locs1 cells slots lsA QM hC hR1 hR2 hc1 hc2 ⟨hP1, hD1, rng_up hP.2.2 hK hx⟩ hS1 hl hlo (ok_1 (ok_2 hso).2.2).2 hn hag hret
theorem upRef {φ : Nat → Nat} {f : Nat → Int} {k : Nat} {x : Int} (h : 0 ≤ x) : va_up (fun j => refE φ (f j)) k (some (φ x.toNat)) = fun j => refE φ (up1 f k x j) := by
  funext j; unfold va_up up1
  split
  · unfold refE; rw [if_neg (by omega)]
  · rfl
/-- an object of class ci into an array of such -/
theorem r_aast (kd n : Nat) (hkd : kd = 23 ∧ ci = 4 ∨ kd = 24 ∧ ci = 7) (hd : decode M.2.1 pc = .ok (.aastore, 1)) (h0 : 0 ≤ X) (hK : K[X.toNat]? = some (kd, n)) (hj : 0 ≤ j) (hj2 : j < n) (hx0 : 0 ≤ x) (hxK : K[x.toNat]? = some (ci, N))
    (kk : Fr M d fc fs sc (pc + 1) ls st K (upA H X.toNat (up1 (H X.toNat) j.toNat x)) Q) : Fr M d fc fs sc pc ls ((2, x) :: (0, j) :: (2, X) :: st) K H Q := by
  intro p l e R s m args below meth c base b D aC n0 φ0 φ Hp locs cells slots lsA QM hC hR1 hR2 hc1 hc2 hP hS hl hlo hso hn hag hret
  have hji : inI j := (ok_2 hso).2.1
  have hat := ws_at (φ := φ) (b := b) (aC := aC) (H := H) hK
  have hax := ws_at (φ := φ) (b := b) (aC := aC) (H := H) hxK
  have hxl : x < K.length := (ok_2 hso).1
  rw [List.map_cons, List.map_cons, List.map_cons, toV_ref h0, toV_ref hx0]
  rcases hkd with ⟨rfl, rfl⟩ | ⟨rfl, rfl⟩
  · rw [cell_23] at hat
    rw [cell_obj (by decide)] at hax
    refine va_astq hC.1 hC.2.1 hC.2.2.2.2.2.2.2.1 hP.1 hP.2.1 hS X.toNat 3 x.toNat 4 (r := (RX4, TX4, 18)) hat rfl hax rfl (i_in hji hj hj2) hd fun H1 locs1 hP1 hD1 hS1 => ?_
    rw [i_clamp hji, upRef hx0, ← cell_23 (φ := φ) (b := b), ws_set hK] at hP1 hD1
    exact kk p l e R s m args below meth c base b D aC n0 φ0 φ H1 locs1 cells slots lsA QM hC hR1 hR2 hc1 hc2 ⟨hP1, hD1, rng_up hP.2.2 hK ⟨by omega, hxl⟩⟩ hS1 hl hlo (ok_1 (ok_2 hso).2.2).2 hn hag hret
  · rw [cell_24] at hat
    rw [cell_obj (by decide)] at hax
    refine va_astq hC.1 hC.2.1 hC.2.2.2.2.2.2.2.1 hP.1 hP.2.1 hS X.toNat 4 x.toNat 7 (r := (RX7, TX7, 5)) hat rfl hax rfl (i_in hji hj hj2) hd fun H1 locs1 hP1 hD1 hS1 => ?_
    rw [i_clamp hji, upRef hx0, ← cell_24 (φ := φ) (b := b), ws_set hK] at hP1 hD1
    exact kk p l e R s m args below meth c base b D aC n0 φ0 φ H1 locs1 cells slots lsA QM hC hR1 hR2 hc1 hc2 ⟨hP1, hD1, rng_up hP.2.2 hK ⟨by omega, hxl⟩⟩ hS1 hl hlo (ok_1 (ok_2 hso).2.2).2 hn hag hret
theorem r_alen (kd n t0 : Nat) {ty : FieldType} (hd : decode M.2.1 pc = .ok (.arraylength, 1)) (h0 : 0 ≤ X) (hK : K[X.toNat]? = some (kd, n)) (hkd : kd = 20 ∨ kd = 21) (hn2 : n < 2147483648)
    (kk : Fr M d fc fs sc (pc + 1) ls ((0, (n : Int)) :: st) K H Q) : Fr M d fc fs sc pc ls ((2, X) :: st) K H Q := by
  intro p l e R s m args below meth c base b D aC n0 φ0 φ Hp locs cells slots lsA QM hC hR1 hR2 hc1 hc2 hP hS hl hlo hso hn hag hret
  have hat := ws_at (φ := φ) (b := b) (aC := aC) (H := H) hK
  have hw2 := kk p l e R s m args below meth c base b D aC n0 φ0 φ Hp locs cells slots lsA QM hC hR1 hR2 hc1 hc2 hP hS hl hlo (ok_push (⟨by omega, by omega⟩ : inI (n : Int)) (ok_1 hso).2) hn hag hret
  rw [List.map_cons, toV_ref h0]
  rcases hkd with rfl | rfl
  · rw [cell_i] at hat
    exact va_alen hC.1 hC.2.1 hC.2.2.2.2.2.2.2.1 hP.1 X.toNat 0 hat (ty := .int) rfl (Int32.ofInt_eq_ofNat).symm hd hw2
  · rw [cell_l] at hat
    exact va_alen hC.1 hC.2.1 hC.2.2.2.2.2.2.2.1 hP.1 X.toNat 1 hat (ty := .long) rfl (Int32.ofInt_eq_ofNat).symm hd hw2
/-- the law's script -/
theorem r_sald {L : Nat} {xs : Nat → Int} (hsc : sc = some (L, xs)) (hd : decode M.2.1 pc = .ok (.iaload, 1)) (hj : 0 ≤ j) (hj2 : j < L)
    (kk : Fr M d fc fs sc (pc + 1) ls ((0, xs j.toNat) :: st) K H Q) : Fr M d fc fs sc pc ls ((0, j) :: (2, -2) :: st) K H Q := by
  intro p l e R s m args below meth c base b D aC n0 φ0 φ Hp locs cells slots lsA QM hC hR1 hR2 hc1 hc2 hP hS hl hlo hso hn hag hret
  have hji : inI j := (ok_1 hso).1
  obtain ⟨hX, hb1, hb2, hL, hxs⟩ := hC.2.2.2.2.2.2.2.2.2.2.2 L xs hsc
  have hw2 := kk p l e R s m args below meth c base b D aC n0 φ0 φ Hp locs cells slots lsA QM hC hR1 hR2 hc1 hc2 hP hS hl hlo (ok_push (hxs j.toNat (by omega)) (ok_2 hso).2.2) hn hag hret
  refine va_sld hC.1 hC.2.1 hX hb1 (A := fun q => base ≤ q) (Nat.not_le.mpr hb2) hS (i_in hji hj hj2) hd ?_
  rw [i_clamp hji]
  exact hw2
theorem r_slen {L : Nat} {xs : Nat → Int} (hsc : sc = some (L, xs)) (hd : decode M.2.1 pc = .ok (.arraylength, 1))
    (kk : Fr M d fc fs sc (pc + 1) ls ((0, (L : Int)) :: st) K H Q) : Fr M d fc fs sc pc ls ((2, -2) :: st) K H Q := by
  intro p l e R s m args below meth c base b D aC n0 φ0 φ Hp locs cells slots lsA QM hC hR1 hR2 hc1 hc2 hP hS hl hlo hso hn hag hret
  obtain ⟨hX, hb1, hb2, hL, hxs⟩ := hC.2.2.2.2.2.2.2.2.2.2.2 L xs hsc
  have hw2 := kk p l e R s m args below meth c base b D aC n0 φ0 φ Hp locs cells slots lsA QM hC hR1 hR2 hc1 hc2 hP hS hl hlo (ok_push (⟨by omega, by omega⟩ : inI (L : Int)) (ok_1 hso).2) hn hag hret
  refine va_slen hC.1 hC.2.1 hX hb1 (A := fun q => base ≤ q) (Nat.not_le.mpr hb2) hS hd ?_
  have e : Int32.ofNat L = Int32.ofInt (L : Int) := (Int32.ofInt_eq_ofNat).symm
  rw [e]
  exact hw2
end Rules3
