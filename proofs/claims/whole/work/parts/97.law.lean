/-! the start, and the law's loop -/
theorem RbN.later {K K' : Shp} {H H' : Mem} {a X n : Nat} (h : RbN K H X) (L : Later a n K H K' H') (hb : X + 122 < n) (ha : X + 122 < a) : RbN K' H' X := by
  obtain ⟨h1, h2, h3, ⟨h4, h4'⟩, ⟨h5, h5'⟩, h6, ⟨h7, h7'⟩, h8, h9, h10, h11⟩ := h
  refine ⟨L.1 _ _ h1, h2.later L (by omega) (by omega), L.1 _ _ h3, ⟨h4.later L (by omega) (by omega), by rw [L.2 _ (by omega) (by omega)]; exact h4'⟩, ⟨h5.later L (by omega) (by omega), by rw [L.2 _ (by omega) (by omega)]; exact h5'⟩, h6.later L (by omega) (by omega), ⟨h7.later L, by rw [L.2 _ (by omega) (by omega)]; exact h7'⟩, h8.later L (by omega) (by omega), fun i hi => ⟨(h9 i hi).1.later L (by omega) (by omega), by rw [L.2 _ (by omega) (by omega)]; exact (h9 i hi).2⟩, by rw [L.2 _ (by omega) (by omega)]; exact h10, by rw [L.2 _ (by omega) (by omega)]; exact h11⟩
theorem inv_start {K : Shp} {H0 H : Mem} {X M : Nat} (hM : M = X + 123) (r : RbN K H X) (f : RfN K H0 H M) (e0 : H0 M = dflt 12) : Inv K H X M := by
  obtain ⟨h1, ⟨t1, t2, t3, t4, t5, t6⟩, h3, ⟨⟨p1, p2, p3, p4, p5⟩, p0⟩, ⟨⟨z1, z2, z3, z4, z5⟩, z0⟩, ⟨b1, b2, ⟨b3, b3'⟩, b4, b5, ⟨b6, b6'⟩, b7, b8, b9, b0⟩, ⟨w1, w1'⟩, ⟨c1, ⟨c2, c2'⟩, c3, c4, c5, c6, c7, c8⟩, hs, hp, h0⟩ := r
  obtain ⟨f1, f2, ⟨g0, g9, g27, g28, g37⟩, f6, f7, f8, f9, f10, f11, f25⟩ := f
  rw [e0] at g0 g9 g27 g28 g37
  refine ⟨hM, ⟨h1, t1, t2, h3, ⟨p1, p2, p3⟩, ⟨z1, z2, z3⟩, b1, b2, b3, b6, b7, fun i hi => ⟨(b8 i hi).1.1, (b8 i hi).1.2.1, (b8 i hi).1.2.2.1⟩, w1, c1, c2, c3, c4, c5, c6, c7⟩, f1, ⟨t3, b4, b5, b6', w1', c2', c8⟩, ⟨hp, ⟨t4, t5⟩, fun i hi => (hs i hi).2, ⟨p4, p5⟩, ⟨z4, z5⟩, b9, fun i hi => (b8 i hi).2, fun i hi => (b8 i hi).1.2.2.2⟩, f2, ⟨fun _ => 0, fun _ => 0, 0, 0, 0, fun _ => 0, fun i hi => ?_, ?_, ?_, ?_⟩, ?_, ?_⟩
  · obtain ⟨sI, s0, s1, s14⟩ := (hs i hi).1
    refine ⟨⟨sI, ⟨?_, ?_, ?_, ?_, ?_, fun y hy => ?_, fun r hr => absurd hr (Nat.not_lt_zero r)⟩, fun r hr => absurd hr (Nat.not_lt_zero r)⟩, Or.inl s14⟩
    · rw [f6 i hi, s0]
    · rw [f7 i hi, s1]
    · rw [f8 i]; rfl
    · rw [f9 i]; rfl
    · rw [f10 i]; rfl
    · rw [f11 _]; rfl
  · exact ⟨p0, by omega, by rw [g27]; decide, fun p hp => absurd hp (by omega)⟩
  · exact ⟨z0, by omega, by rw [g28]; decide, fun p hp => absurd hp (by omega)⟩
  · refine ⟨b0, by omega, by rw [g37]; decide, fun i hi => absurd hi (by omega), fun e he => ?_⟩
    have := b3' e
    exact ⟨by rw [f25 e]; exact this.symm, Or.inl this⟩
  · refine ⟨by rw [g9, t6]; decide, by rw [t6]; decide, fun k hk => ?_⟩
    rw [t6] at hk
    omega
  · rw [h0, g0]; decide
section Lw
variable {d : Nat} {K : Shp} {H : Mem} {X M : Nat}
theorem law_one {D : Nat} {mA mB : MM} {aA aB : List AV} {P N : Mem → Prop} (hM : K[M]? = some (12, 51)) (nx : ∀ H', Inv K H' X M → P H') (h : ∀ q : Int → Int → Mem → Prop, (∀ r H', Inv K H' X M → q r r H') → Ci mA D aA K H (fun r H1 => Ci mB D aB K H1 (fun r' H2 => q r r' H2))) :
    Ci mA D aA K H (fun x H1 => (0 ≤ (M : Int)) ∧ (K[M]? = some (12, 51)) ∧ Ci mB D aB K H1 (fun y H2 => (x = y → P H2) ∧ (¬ x = y → N H2))) :=
  (h (fun x y H2 => (x = y → P H2) ∧ (¬ x = y → N H2)) (fun r H' i => ⟨fun _ => nx H' i, fun g => absurd rfl g⟩)).mono (fun r H1 g => ⟨by omega, hM, g⟩)
theorem law_b {D : Nat} {mA mB : MM} {aA aB : List AV} {P N : Mem → Prop} {c : Prop} {Y : Int → Mem → Prop} (hM : K[M]? = some (12, 51)) (nx : ∀ H', Inv K H' X M → P H') (hc : c) (h : ∀ q : Int → Int → Mem → Prop, (∀ r H', Inv K H' X M → q r r H') → Ci mA D aA K H (fun r H1 => Ci mB D aB K H1 (fun r' H2 => q r r' H2))) :
    Ci mA D aA K H (fun x H1 => (c → (0 ≤ (M : Int)) ∧ (K[M]? = some (12, 51)) ∧ Ci mB D aB K H1 (fun y H2 => (x = y → P H2) ∧ (¬ x = y → N H2))) ∧ (¬ c → Y x H1)) :=
  (law_one (P := P) (N := N) hM nx h).mono (fun r H1 g => ⟨fun _ => g, fun n => absurd hc n⟩)
theorem law_n {D : Nat} {mA mB : MM} {aA aB : List AV} {P N : Mem → Prop} {c : Prop} {Y : Int → Mem → Prop} (hM : K[M]? = some (12, 51)) (nx : ∀ H', Inv K H' X M → P H') (hc : ¬ c) (h : ∀ q : Int → Int → Mem → Prop, (∀ r H', Inv K H' X M → q r r H') → Ci mA D aA K H (fun r H1 => Ci mB D aB K H1 (fun r' H2 => q r r' H2))) :
    Ci mA D aA K H (fun x H1 => (c → Y x H1) ∧ (¬ c → (0 ≤ (M : Int)) ∧ (K[M]? = some (12, 51)) ∧ Ci mB D aB K H1 (fun y H2 => (x = y → P H2) ∧ (¬ x = y → N H2)))) :=
  (law_one (P := P) (N := N) hM nx h).mono (fun r H1 g => ⟨fun n => absurd n hc, fun _ => g⟩)
set_option maxHeartbeats 4000000 in
theorem law_loop {fc fs L : Nat} {xs : Nat → Int} {Q : Option AV → Shp → Mem → Prop} (hL : L ≤ 2560) (hQ : ∀ H', Q (some (0, 1)) K H') :
    ∀ m i H, L ≤ i + m → i ≤ L + 5 → Inv K H X M → FL_law_18 (d + 20) fc fs K H Q L xs (X : Int) (M : Int) (i : Int) := by
  intro m
  induction m with
  | zero =>
    intro i H hi hi2 h
    refine bL_law_18 ⟨⟨by omega, by omega⟩, fun _ => hQ H, fun g => by omega⟩
  | succ m ih =>
    intro i H hi hi2 h
    have hX := h.2.1.1
    have hM := h.2.2.1.k0
    refine bL_law_18 ⟨⟨by omega, by omega⟩, fun _ => hQ H, fun g => ⟨by omega, by omega, ?_⟩⟩
    have nx : ∀ H', Inv K H' X M → (inI ((i : Int) + 5)) ∧ FL_law_18 (d + 20) fc fs K H' Q L xs (X : Int) (M : Int) ((i : Int) + 5) := fun H' g' => ⟨⟨by omega, by omega⟩, ih (i + 5) H' (by omega) (by omega) g'⟩
    simp only [Int.toNat_natCast]
    refine ⟨fun _ => ⟨by omega, hX, law_one hM nx (fun q hq => sim_status (d := d + 20) h hq)⟩,
      fun _ => ⟨⟨by omega, by omega⟩, by omega, by omega, by omega, hX, law_one hM nx (fun q hq => sim_out (d := d + 20) h hq)⟩,
      fun _ => ⟨⟨by omega, by omega⟩, by omega, by omega, ⟨by omega, by omega⟩, by omega, by omega, ⟨by omega, by omega⟩, by omega, by omega, by omega, hX, law_one hM nx (fun q hq => sim_stone (d := d + 8) h hq)⟩,
      fun _ => ⟨⟨by omega, by omega⟩, by omega, by omega, ⟨by omega, by omega⟩, by omega, by omega, ⟨by omega, by omega⟩, by omega, by omega, ⟨by omega, by omega⟩, by omega, by omega, by omega, hX, law_one hM nx (fun q hq => sim_band (d := d + 8) h hq)⟩,
      fun _ => ⟨⟨by omega, by omega⟩, by omega, by omega, ⟨by omega, by omega⟩, by omega, by omega, ⟨by omega, by omega⟩, by omega, by omega, by omega, hX, law_one hM nx (fun q hq => sim_rod (d := d + 8) h hq)⟩,
      fun _ => ⟨⟨by omega, by omega⟩, by omega, by omega, ⟨by omega, by omega⟩, by omega, by omega, ⟨by omega, by omega⟩, by omega, by omega, by omega, hX, law_one hM nx (fun q hq => sim_change (d := d + 8) h hq)⟩,
      fun _ => ⟨⟨by omega, by omega⟩, by omega, by omega, ⟨by omega, by omega⟩, by omega, by omega, by omega, hX, law_one hM nx (fun q hq => sim_told (d := d + 8) h hq)⟩,
      fun _ => ⟨⟨by omega, by omega⟩, by omega, by omega, ⟨by omega, by omega⟩, by omega, by omega, by omega, hX, law_one hM nx (fun q hq => sim_strength (d := d + 8) h hq)⟩,
      fun _ => ⟨⟨by omega, by omega⟩, by omega, by omega, ⟨by omega, by omega⟩, by omega, by omega, by omega, hX, law_one hM nx (fun q hq => sim_width (d := d + 8) h hq)⟩,
      fun _ => ⟨⟨by omega, by omega⟩, by omega, by omega, ⟨by omega, by omega⟩, by omega, by omega, ⟨by omega, by omega⟩, by omega, by omega, fun c => ⟨by omega, hX, law_b hM nx c (fun q hq => sim_bend (d := d + 8) h hq)⟩, fun c => ⟨by omega, hX, law_n hM nx c (fun q hq => sim_bend (d := d + 8) h hq)⟩⟩,
      fun _ => ⟨⟨by omega, by omega⟩, by omega, by omega, ⟨by omega, by omega⟩, by omega, by omega, ⟨by omega, by omega⟩, by omega, by omega, fun c => ⟨by omega, hX, law_b hM nx c (fun q hq => sim_cut (d := d + 8) h hq)⟩, fun c => ⟨by omega, hX, law_n hM nx c (fun q hq => sim_cut (d := d + 8) h hq)⟩⟩,
      fun _ => ⟨⟨by omega, by omega⟩, by omega, by omega, ⟨by omega, by omega⟩, by omega, by omega, ⟨by omega, by omega⟩, by omega, by omega, by omega, hX, law_one hM nx (fun q hq => sim_borne (d := d + 8) h hq)⟩,
      fun _ => ⟨⟨by omega, by omega⟩, by omega, by omega, ⟨by omega, by omega⟩, by omega, by omega, by omega, hX, law_one hM nx (fun q hq => sim_pair (d := d + 8) h hq)⟩,
      fun _ => ⟨by omega, hX, law_one hM nx (fun q hq => sim_clear (d := d + 8) h hq)⟩,
      fun _ => ⟨⟨by omega, by omega⟩, by omega, by omega, by omega, hX, law_one hM nx (fun q hq => sim_safe (d := d + 8) h hq)⟩,
      fun _ => ⟨⟨by omega, by omega⟩, by omega, by omega, ⟨by omega, by omega⟩, by omega, by omega, by omega, hX, law_one hM nx (fun q hq => sim_size (d := d + 8) h hq)⟩,
      fun _ => ⟨⟨by omega, by omega⟩, by omega, by omega, by omega, hX, law_one hM nx (fun q hq => sim_best (d := d) h hq)⟩,
      fun _ => ⟨⟨by omega, by omega⟩, by omega, by omega, ⟨by omega, by omega⟩, by omega, by omega, by omega, hX, law_one hM nx (fun q hq => sim_chosen (d := d) h hq)⟩,
      fun _ => ⟨⟨by omega, by omega⟩, by omega, by omega, by omega, hX, law_one hM nx (fun q hq => sim_take (d := d) h hq)⟩,
      fun _ => ⟨⟨by omega, by omega⟩, by omega, by omega, ⟨by omega, by omega⟩, by omega, by omega, by omega, hX, law_one hM nx (fun q hq => sim_span (d := d + 8) h hq)⟩,
      fun _ => ⟨by omega, hX, law_one hM nx (fun q hq => sim_away (d := d + 8) h hq)⟩,
      fun _ => ⟨⟨by omega, by omega⟩, by omega, by omega, ⟨by omega, by omega⟩, by omega, by omega, fun c => ⟨by omega, hX, law_b hM nx c (fun q hq => sim_hold (d := d + 8) h (Or.inl rfl) hq)⟩, fun c => ⟨by omega, hX, law_n hM nx c (fun q hq => sim_hold (d := d + 8) h (Or.inr rfl) hq)⟩⟩,
      fun _ => ⟨⟨by omega, by omega⟩, by omega, by omega, ⟨by omega, by omega⟩, by omega, by omega, ⟨by omega, by omega⟩, by omega, by omega, by omega, hX, law_one hM nx (fun q hq => sim_load (d := d + 8) h hq)⟩,
      fun _ => ⟨⟨by omega, by omega⟩, by omega, by omega, ⟨by omega, by omega⟩, by omega, by omega, by omega, hX, law_one hM nx (fun q hq => sim_times (d := d + 8) h hq)⟩,
      fun _ => ⟨by omega, hX, law_one hM nx (fun q hq => sim_factor (d := d + 8) h hq)⟩,
      fun _ => ⟨by omega, hX, law_one hM nx (fun q hq => sim_weakest (d := d + 8) h hq)⟩,
      fun _ => nx H h⟩
theorem law_all {fc fs L : Nat} {xs : Nat → Int} {Q : Option AV → Shp → Mem → Prop} (hL : L ≤ 2560) (hfc : 200 ≤ fc) (hfs : 40000 ≤ fs) (hQ : ∀ K' H', Q (some (0, 1)) K' H') (H : Mem) : FL_law_0 (d + 20) fc fs [] H Q L xs := by
  refine bL_law_0 ⟨by omega, by omega, fun H1 e1 K1 k1 => ⟨by omega, by omega, ?_⟩⟩
  have k1' : K1.length = 0 + 1 := by rw [k1]; rfl
  have r1 : K1[0]? = some (11, 8) := by rw [k1]; rfl
  refine in_X11 (d := d + 16) (a := 0) k1' r1 ?_
  intro l2 H2 len2 fr2 rb K2 k2
  refine ⟨by omega, by omega, fun H3 e3 K3 k3 => ⟨by omega, by omega, ?_⟩⟩
  rw [← k2] at len2 rb
  have len2' : K2.length = 123 := by omega
  rw [len2'] at e3 ⊢
  have k3' : K3.length = 123 + 1 := by rw [k3]; simp [len2']
  have r3 : K3[123]? = some (12, 51) := by rw [k3]; exact new_at len2'
  refine in_X12 (d := d + 19) (a := 123) k3' r3 ?_
  intro l4 H4 len4 fr4 rf K4 k4
  rw [← k4] at rf
  have X3 : Ext K2 K4 := (show Ext K2 K3 by rw [k3]; exact Ext.app _).tr (by rw [k4]; exact Ext.app _)
  have LL : Later 123 123 K2 H2 K4 H4 := ⟨X3, fun x y1 y2 => by rw [fr4 x y2, e3, upA_ne y1]⟩
  have I := inv_start (X := 0) (M := 123) rfl (rb.later LL (by omega) (by omega)) rf (by rw [e3, upA_same])
  exact law_loop (d := d) hL (fun H' => hQ K4 H') L 0 H4 (by omega) (by omega) I
end Lw
