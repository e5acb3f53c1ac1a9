/-! the law, from its entry -/
set_option maxHeartbeats 4000000 in
set_option maxRecDepth 100000 in
theorem whole_start {p : Program} {e : Env} {s : State} {m : MethodId} {below : List Frame} {meth : Method} {c : Code} (l : Launch) {b L : Nat} {xs : Nat → Int32} (hL : L ≤ 2560) (hnm : meth.name = "law") (C0 : lw_At p s m meth c b L xs) : W p l e room_1 s m #[Value.ref b] below meth c s.heap [] 0 0 (lw_Z below #[Value.ref b] s) (entryFrame m ([Value.ref b] : List Value).toArray 4) := by
  obtain ⟨hx, hb, hr, hml, hown, hts, hX, hbl, hlocks, hgv⟩ := id C0
  have htg : ∀ w ∈ lw_good, w.before #[Value.ref b] s = true := fun w hw => hts w (List.mem_filter.mp hw).1
  have hnw : ∀ w ∈ lw_nest, va_Nw w s := by
    intro w hw
    have h1 := hts w (List.mem_filter.mp hw).1
    have h2 := (List.mem_filter.mp hw).2
    unfold isNest at h2
    split at h2
    · exact h1
    · exact h1
    · cases h2
  obtain ⟨c0, i0, hKn0⟩ := u_known (C := RX0) (T := TX0) (N := 12) (n := 12) htg cls0.2.2.1 (htg _ ins0)
  obtain ⟨c1, i1, hKn1⟩ := u_known (C := RX1) (T := TX1) (N := 8) (n := 8) htg cls1.2.2.1 (htg _ ins1)
  obtain ⟨c2, i2, hKn2⟩ := u_known (C := RX2) (T := TX2) (N := 3) (n := 3) htg cls2.2.2.1 (htg _ ins2)
  obtain ⟨c3, i3, hKn3⟩ := u_known (C := RX3) (T := TX3) (N := 5) (n := 5) htg cls3.2.2.1 (htg _ ins3)
  obtain ⟨c4, i4, hKn4⟩ := u_known (C := RX4) (T := TX4) (N := 18) (n := 18) htg cls4.2.2.1 (htg _ ins4)
  obtain ⟨c5, i5, hKn5⟩ := u_known (C := RX5) (T := TX5) (N := 2) (n := 2) htg cls5.2.2.1 (htg _ ins5)
  obtain ⟨c6, i6, hKn6⟩ := u_known (C := RX6) (T := TX6) (N := 3) (n := 3) htg cls6.2.2.1 (htg _ ins6)
  obtain ⟨c7, i7, hKn7⟩ := u_known (C := RX7) (T := TX7) (N := 5) (n := 5) htg cls7.2.2.1 (htg _ ins7)
  obtain ⟨c8, i8, hKn8⟩ := u_known (C := RX8) (T := TX8) (N := 3) (n := 3) htg cls8.2.2.1 (htg _ ins8)
  obtain ⟨c9, i9, hKn9⟩ := u_known (C := RX9) (T := TX9) (N := 6) (n := 6) htg cls9.2.2.1 (htg _ ins9)
  obtain ⟨c10, i10, hKn10⟩ := u_known (C := RX10) (T := TX10) (N := 1) (n := 1) htg cls10.2.2.1 (htg _ ins10)
  obtain ⟨c11, i11, hKn11⟩ := u_known (C := RX11) (T := TX11) (N := 8) (n := 8) htg cls11.2.2.1 (htg _ ins11)
  obtain ⟨c12, i12, hKn12⟩ := u_known (C := RX12) (T := TX12) (N := 51) (n := 51) htg cls12.2.2.1 (htg _ ins12)
  obtain ⟨dC, dI, hKc⟩ : ∃ (dC : Nat → ClassId) (dI : Nat → Nat → Nat), ∀ (k : Nat) (q : vw_C), vwCl[k]? = some q → u_Kn s q.1 q.2.1 q.2.2 (dC k) (dI k) := by
    refine ⟨fun k => if k = 0 then c0 else if k = 1 then c1 else if k = 2 then c2 else if k = 3 then c3 else if k = 4 then c4 else if k = 5 then c5 else if k = 6 then c6 else if k = 7 then c7 else if k = 8 then c8 else if k = 9 then c9 else if k = 10 then c10 else if k = 11 then c11 else c12, fun k => if k = 0 then i0 else if k = 1 then i1 else if k = 2 then i2 else if k = 3 then i3 else if k = 4 then i4 else if k = 5 then i5 else if k = 6 then i6 else if k = 7 then i7 else if k = 8 then i8 else if k = 9 then i9 else if k = 10 then i10 else if k = 11 then i11 else i12, ?_⟩
    intro k q hq
    match k, hq with
    | 0, hq => cases hq; exact hKn0
    | 1, hq => cases hq; exact hKn1
    | 2, hq => cases hq; exact hKn2
    | 3, hq => cases hq; exact hKn3
    | 4, hq => cases hq; exact hKn4
    | 5, hq => cases hq; exact hKn5
    | 6, hq => cases hq; exact hKn6
    | 7, hq => cases hq; exact hKn7
    | 8, hq => cases hq; exact hKn8
    | 9, hq => cases hq; exact hKn9
    | 10, hq => cases hq; exact hKn10
    | 11, hq => cases hq; exact hKn11
    | 12, hq => cases hq; exact hKn12
    | k + 13, hq => simp [vwCl] at hq
  obtain ⟨a20, k20, p20, f20, g20, h20⟩ := Cond.arrayClass_spec (htg _ ac_int)
  obtain ⟨a21, k21, p21, f21, g21, h21⟩ := Cond.arrayClass_spec (htg _ ac_long)
  obtain ⟨a22, k22, p22, f22, g22, h22⟩ := Cond.arrayClass_spec (htg _ ac_boolean)
  obtain ⟨p23, a23, k23, u23, v23, g23, h23, f23⟩ := Cond.arrayOver_spec (hnw _ ao_RX4)
  obtain ⟨p24, a24, k24, u24, v24, g24, h24, f24⟩ := Cond.arrayOver_spec (hnw _ ao_RX7)
  obtain ⟨aC, e20, e21, e22, e23, e24⟩ : ∃ aC : Nat → ClassId, aC 20 = a20 ∧ aC 21 = a21 ∧ aC 22 = a22 ∧ aC 23 = a23 ∧ aC 24 = a24 := ⟨fun k => if k = 20 then a20 else if k = 21 then a21 else if k = 22 then a22 else if k = 23 then a23 else a24, rfl, rfl, rfl, rfl, rfl⟩
  have hK : va_K (dC, dI) vwCl (tysOf aC) s := by
    refine ⟨hKc, fun k q hq => ?_⟩
    match k, hq with
    | 0, hq => cases hq; rw [e20]; exact ⟨fun n z => ⟨fun k h => (by cases h), k20, g20, p20, h20⟩, f20⟩
    | 1, hq => cases hq; rw [e21]; exact ⟨fun n z => ⟨fun k h => (by cases h), k21, g21, p21, h21⟩, f21⟩
    | 2, hq => cases hq; rw [e22]; exact ⟨fun n z => ⟨fun k h => (by cases h), k22, g22, p22, h22⟩, f22⟩
    | 3, hq => cases hq; rw [e23]; exact ⟨fun n z => ⟨fun k h => (by cases h), k23, g23, p23, h23⟩, k23, p23, g23, h23, u23, f23⟩
    | 4, hq => cases hq; rw [e24]; exact ⟨fun n z => ⟨fun k h => (by cases h), k24, g24, p24, h24⟩, k24, p24, g24, h24, u24, f24⟩
    | k + 5, hq => simp [tysOf] at hq
  have hl := lv_entry ([.ref b]) (n := 4) (Nat.le_of_ble_eq_true rfl)
  rw [lg_entry_eq]
  generalize (lg_sl ([.ref b]) ++ List.replicate (4 - (lg_sl ([.ref b])).length) Slot.unset).toArray = ls at hl ⊢
  have hl : lv_has ls 4 [(0, .ref b)] := hl
  have F : FL_law_0 20 600000 7302250 [] (fun _ _ => 0) (fun r _ _ => r = some (0, 1)) L (fun j => (xs j).toInt) := law_all (d := 0) hL (by decide) (by decide) (fun _ _ => rfl) _
  have hXi : va_X b L (fun j => Int32.ofInt (xs j).toInt) s s.heap := by
    have : (fun j => Int32.ofInt (xs j).toInt) = xs := funext fun j => Int32.ofInt_toInt (xs j)
    rw [this]; exact hX
  refine F p l e room_1 s m #[Value.ref b] below meth c s.heap.size b (dC, dI) aC 0 (fun k => k) (fun k => k) s.heap [] 0 0 ls (lw_Z below #[Value.ref b] s) ⟨hx, hb, hr, hml, hown, htg, hnw, hK, hlocks, hnm, Nat.le_refl _, ?_⟩ (by decide) (by decide) (by decide) (by decide) ⟨fun k q h => by simp [wsOf] at h, ⟨fun i j p q h => by simp [wsOf] at h, fun k q h => by simp [wsOf] at h⟩, fun a q h => by simp at h⟩ va_S.rf hl ?_ (fun v hv => by cases hv) (Nat.le_refl _) (fun _ h => rfl) ?_
  · intro L' xs' hh
    cases hh
    refine ⟨hXi, hbl, hbl, by omega, fun j _ => ⟨?_, ?_⟩⟩
    · have := Int32.le_toInt (xs j)
      show (-2147483648 : Int) ≤ (xs j).toInt
      omega
    · have := Int32.toInt_lt (xs j)
      show (xs j).toInt ≤ 2147483647
      omega
  · intro q hq
    rcases List.mem_cons.mp hq with h | h
    · rw [h]; show (-2 : Int) < _; decide
    · cases h
  · intro r K' H' φ' Hp locs cells slots pc ls' hQ hR hS hc1 hc2 _ _ hret
    have hQ' : r = some (0, 1) := hQ
    subst hQ'
    rcases hret with ⟨x, e1, _, hd, _⟩ | ⟨x, e1, _, _, _⟩ | ⟨e1, _, _⟩
    · refine va_forget (fun q hq => hS.2.2 q hq) ?_
      refine W.widen (k := 600000) (n := 7302250) hc1 hc2 ?_
      exact lw_ret hx hb hr hlocks hd
    · cases e1
    · cases e1
