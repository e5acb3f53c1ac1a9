/-! constructor of RodBeamModel -/
theorem St.arr4 {K0 K K1 : Shp} {H0 H H1 P0 P1 P2 P3 H2 : Mem} {a n f kd sz : Nat} {v : Int} (S : St K0 H0 a K H n) (e1 : H1 = upA H K.length (dflt kd)) (k1 : K1 = K ++ [(kd, sz)]) (p0 : P0 = upA H1 K.length (up1 (H1 K.length) 0 v)) (p1 : P1 = upA P0 K.length (up1 (P0 K.length) 1 v)) (p2 : P2 = upA P1 K.length (up1 (P1 K.length) 2 v)) (p3 : P3 = upA P2 K.length (up1 (P2 K.length) 3 v)) (e2 : H2 = upA P3 a (up1 (P3 a) f ((K.length : Nat) : Int))) :
    St K0 H0 a K1 H2 (n + 1) ∧ K1[n]? = some (kd, sz) ∧ (∀ i, i < 4 → H2 n i = v) ∧ H2 a = up1 (H a) f ((n : Nat) : Int) ∧ Later a n K H K1 H2 := by
  obtain ⟨⟨l, s1⟩, s2, s3, s4⟩ := S
  rw [s2] at e1 p0 p1 p2 p3 e2
  have c3 : ∀ x, x ≠ n → P3 x = H x := fun x hx => by rw [p3, upA_ne hx, p2, upA_ne hx, p1, upA_ne hx, p0, upA_ne hx, e1, upA_ne hx]
  have v3 : P3 n = up1 (up1 (up1 (up1 (dflt kd) 0 v) 1 v) 2 v) 3 v := by rw [p3, upA_same, p2, upA_same, p1, upA_same, p0, upA_same, e1, upA_same]
  have c : ∀ x, x ≠ a → x ≠ n → H2 x = H x := fun x h1 h2 => by rw [e2, upA_ne h1, c3 x h2]
  refine ⟨⟨⟨l ++ [(kd, sz)], by rw [k1, s1, List.append_assoc]⟩, by rw [k1]; simp [s2], by omega, fun x hx => (c x (by omega) (by omega)).trans (s4 x hx)⟩, by rw [k1]; exact new_at s2, fun i hi => ?_, ?_, by rw [k1]; exact Ext.app _, fun x h1 h2 => c x h1 (by omega)⟩
  · rw [e2, upA_ne (by omega), v3]
    match i, hi with
    | 0, _ => rfl
    | 1, _ => rfl
    | 2, _ => rfl
    | 3, _ => rfl
  · rw [e2, upA_same, c3 a (by omega)]
section Mk4
variable {d : Nat} {K : Shp} {H : Mem} {a : Nat} {q : Shp → Mem → Prop}
/-- a new RodBeamModel at M -/
def RfN (K : Shp) (H0 H : Mem) (M : Nat) : Prop := RefS K M ∧ RefP (H M) M ∧ (H M 0 = H0 M 0 ∧ H M 9 = H0 M 9 ∧ H M 27 = H0 M 27 ∧ H M 28 = H0 M 28 ∧ H M 37 = H0 M 37) ∧ (∀ i, i < 4 → H (M + 6) i = 10) ∧ (∀ i, i < 4 → H (M + 7) i = 50) ∧ (∀ k, H (M + 8) k = 0) ∧ (∀ k, H (M + 9) k = 0) ∧ (∀ k, H (M + 10) k = 0) ∧ (∀ k, H (M + 11) k = 0) ∧ ∀ k, H (M + 25) k = 0
set_option maxHeartbeats 4000000 in
set_option maxRecDepth 4000 in
theorem in_X12 (hn : K.length = a + 1) (ha : K[a]? = some (12, 51)) (hq : ∀ l H', (K ++ l).length = a + 27 → (∀ x, x < a → H' x = H x) → RfN (K ++ l) H H' a → q l H') : Cn mX12_init (d + 1) 40 30000 [(2, (a : Int))] K H q := by
  refine eX12_init fun _ => bX12_init_0 ?_
  simp only [Int.toNat_natCast]
  have S0 := St.start (H := H) hn
  refine And.intro (by omega) ?_
  refine ⟨by decide, by decide, fun A0 a0 B0 b0 => ?_⟩
  refine And.intro (by rw [b0]; exact Ext.app _ _ _ ha) ?_
  intro H0 h0
  obtain ⟨S1, w0, z0, v0, L0⟩ := S0.arr a0 b0 h0
  clear a0 b0 h0
  refine ⟨by decide, by decide, fun A1 a1 B1 b1 => ?_⟩
  intro H1 h1
  obtain ⟨S2, w1, z1, v1, L1⟩ := S1.arr a1 b1 h1
  clear a1 b1 h1
  refine ⟨by decide, by decide, fun A2 a2 B2 b2 => ?_⟩
  intro H2 h2
  obtain ⟨S3, w2, z2, v2, L2⟩ := S2.arr a2 b2 h2
  clear a2 b2 h2
  refine ⟨by decide, by decide, fun A3 a3 B3 b3 => ?_⟩
  intro H3 h3
  obtain ⟨S4, w3, z3, v3, L3⟩ := S3.arr a3 b3 h3
  clear a3 b3 h3
  refine ⟨by decide, by decide, fun A4 a4 B4 b4 => ?_⟩
  intro H4 h4
  obtain ⟨S5, w4, z4, v4, L4⟩ := S4.arr a4 b4 h4
  clear a4 b4 h4
  refine ⟨by decide, by decide, fun A5 a5 B5 b5 => ?_⟩
  refine ⟨by decide, fun P0 p0 => ⟨by decide, fun P1 p1 => ⟨by decide, fun P2 p2 => ⟨by decide, fun P3 p3 => ?_⟩⟩⟩⟩
  intro H5 h5
  obtain ⟨S6, w5, z5, v5, L5⟩ := S5.arr4 a5 b5 p0 p1 p2 p3 h5
  clear p0 p1 p2 p3
  clear a5 b5 h5
  refine ⟨by decide, by decide, fun A6 a6 B6 b6 => ?_⟩
  intro Q0 p0 Q1 p1 Q2 p2 Q3 p3 H6 h6
  obtain ⟨S7, w6, z6, v6, L6⟩ := S6.arr4 a6 b6 p0 p1 p2 p3 h6
  clear p0 p1 p2 p3
  clear a6 b6 h6
  refine ⟨by decide, by decide, fun A7 a7 B7 b7 => ?_⟩
  intro H7 h7
  obtain ⟨S8, w7, z7, v7, L7⟩ := S7.arr a7 b7 h7
  clear a7 b7 h7
  refine ⟨by decide, by decide, fun A8 a8 B8 b8 => ?_⟩
  intro H8 h8
  obtain ⟨S9, w8, z8, v8, L8⟩ := S8.arr a8 b8 h8
  clear a8 b8 h8
  refine ⟨by decide, by decide, fun A9 a9 B9 b9 => ?_⟩
  intro H9 h9
  obtain ⟨S10, w9, z9, v9, L9⟩ := S9.arr a9 b9 h9
  clear a9 b9 h9
  refine ⟨by decide, by decide, fun A10 a10 B10 b10 => ?_⟩
  intro H10 h10
  obtain ⟨S11, w10, z10, v10, L10⟩ := S10.arr a10 b10 h10
  clear a10 b10 h10
  refine ⟨by decide, by decide, fun A11 a11 B11 b11 => ?_⟩
  intro H11 h11
  obtain ⟨S12, w11, z11, v11, L11⟩ := S11.arr a11 b11 h11
  clear a11 b11 h11
  refine ⟨by decide, by decide, fun A12 a12 B12 b12 => ?_⟩
  intro H12 h12
  obtain ⟨S13, w12, z12, v12, L12⟩ := S12.arr a12 b12 h12
  clear a12 b12 h12
  refine ⟨by decide, by decide, fun A13 a13 B13 b13 => ?_⟩
  intro H13 h13
  obtain ⟨S14, w13, z13, v13, L13⟩ := S13.arr a13 b13 h13
  clear a13 b13 h13
  refine ⟨by decide, by decide, fun A14 a14 B14 b14 => ?_⟩
  intro H14 h14
  obtain ⟨S15, w14, z14, v14, L14⟩ := S14.arr a14 b14 h14
  clear a14 b14 h14
  refine ⟨by decide, by decide, fun A15 a15 B15 b15 => ?_⟩
  intro H15 h15
  obtain ⟨S16, w15, z15, v15, L15⟩ := S15.arr a15 b15 h15
  clear a15 b15 h15
  refine ⟨by decide, by decide, fun A16 a16 B16 b16 => ?_⟩
  intro H16 h16
  obtain ⟨S17, w16, z16, v16, L16⟩ := S16.arr a16 b16 h16
  clear a16 b16 h16
  refine ⟨by decide, by decide, fun A17 a17 B17 b17 => ?_⟩
  intro H17 h17
  obtain ⟨S18, w17, z17, v17, L17⟩ := S17.arr a17 b17 h17
  clear a17 b17 h17
  refine ⟨by decide, by decide, fun A18 a18 B18 b18 => ?_⟩
  intro H18 h18
  obtain ⟨S19, w18, z18, v18, L18⟩ := S18.arr a18 b18 h18
  clear a18 b18 h18
  refine ⟨by decide, by decide, fun A19 a19 B19 b19 => ?_⟩
  intro H19 h19
  obtain ⟨S20, w19, z19, v19, L19⟩ := S19.arr a19 b19 h19
  clear a19 b19 h19
  refine ⟨by decide, by decide, fun A20 a20 B20 b20 => ?_⟩
  intro H20 h20
  obtain ⟨S21, w20, z20, v20, L20⟩ := S20.arr a20 b20 h20
  clear a20 b20 h20
  refine ⟨by decide, by decide, fun A21 a21 B21 b21 => ?_⟩
  intro H21 h21
  obtain ⟨S22, w21, z21, v21, L21⟩ := S21.arr a21 b21 h21
  clear a21 b21 h21
  refine ⟨by decide, by decide, fun A22 a22 B22 b22 => ?_⟩
  intro H22 h22
  obtain ⟨S23, w22, z22, v22, L22⟩ := S22.arr a22 b22 h22
  clear a22 b22 h22
  refine ⟨by decide, by decide, fun A23 a23 B23 b23 => ?_⟩
  intro H23 h23
  obtain ⟨S24, w23, z23, v23, L23⟩ := S23.arr a23 b23 h23
  clear a23 b23 h23
  refine ⟨by decide, by decide, fun A24 a24 B24 b24 => ?_⟩
  intro H24 h24
  obtain ⟨S25, w24, z24, v24, L24⟩ := S24.arr a24 b24 h24
  clear a24 b24 h24
  refine ⟨by decide, by decide, fun A25 a25 B25 b25 => ?_⟩
  intro H25 h25
  obtain ⟨S26, w25, z25, v25, L25⟩ := S25.arr a25 b25 h25
  clear a25 b25 h25
  have T24 := L25
  have T23 := L24.tr T24 (by omega)
  have T22 := L23.tr T23 (by omega)
  have T21 := L22.tr T22 (by omega)
  have T20 := L21.tr T21 (by omega)
  have T19 := L20.tr T20 (by omega)
  have T18 := L19.tr T19 (by omega)
  have T17 := L18.tr T18 (by omega)
  have T16 := L17.tr T17 (by omega)
  have T15 := L16.tr T16 (by omega)
  have T14 := L15.tr T15 (by omega)
  have T13 := L14.tr T14 (by omega)
  have T12 := L13.tr T13 (by omega)
  have T11 := L12.tr T12 (by omega)
  have T10 := L11.tr T11 (by omega)
  have T9 := L10.tr T10 (by omega)
  have T8 := L9.tr T9 (by omega)
  have T7 := L8.tr T8 (by omega)
  have T6 := L7.tr T7 (by omega)
  have T5 := L6.tr T6 (by omega)
  have T4 := L5.tr T5 (by omega)
  have T3 := L4.tr T4 (by omega)
  have T2 := L3.tr T3 (by omega)
  have T1 := L2.tr T2 (by omega)
  have T0 := L1.tr T1 (by omega)
  have TT := L0.tr T0 (by omega)
  have vv : H25 a = (up1 (up1 (up1 (up1 (up1 (up1 (up1 (up1 (up1 (up1 (up1 (up1 (up1 (up1 (up1 (up1 (up1 (up1 (up1 (up1 (up1 (up1 (up1 (up1 (up1 (up1 (H a) 1 ((a + 1 : Nat) : Int)) 3 ((a + 2 : Nat) : Int)) 4 ((a + 3 : Nat) : Int)) 5 ((a + 4 : Nat) : Int)) 8 ((a + 5 : Nat) : Int)) 10 ((a + 6 : Nat) : Int)) 11 ((a + 7 : Nat) : Int)) 12 ((a + 8 : Nat) : Int)) 13 ((a + 9 : Nat) : Int)) 14 ((a + 10 : Nat) : Int)) 15 ((a + 11 : Nat) : Int)) 16 ((a + 12 : Nat) : Int)) 17 ((a + 13 : Nat) : Int)) 18 ((a + 14 : Nat) : Int)) 23 ((a + 15 : Nat) : Int)) 24 ((a + 16 : Nat) : Int)) 25 ((a + 17 : Nat) : Int)) 26 ((a + 18 : Nat) : Int)) 29 ((a + 19 : Nat) : Int)) 31 ((a + 20 : Nat) : Int)) 32 ((a + 21 : Nat) : Int)) 33 ((a + 22 : Nat) : Int)) 34 ((a + 23 : Nat) : Int)) 35 ((a + 24 : Nat) : Int)) 36 ((a + 25 : Nat) : Int)) 49 ((a + 26 : Nat) : Int)) := by rw [v25, v24, v23, v22, v21, v20, v19, v18, v17, v16, v15, v14, v13, v12, v11, v10, v9, v8, v7, v6, v5, v4, v3, v2, v1, v0]
  clear v25 v24 v23 v22 v21 v20 v19 v18 v17 v16 v15 v14 v13 v12 v11 v10 v9 v8 v7 v6 v5 v4 v3 v2 v1 v0 L25 L24 L23 L22 L21 L20 L19 L18 L17 L16 L15 L14 L13 L12 L11 L10 L9 L8 L7 L6 L5 L4 L3 L2 L1 L0 S25 S24 S23 S22 S21 S20 S19 S18 S17 S16 S15 S14 S13 S12 S11 S10 S9 S8 S7 S6 S5 S4 S3 S2 S1 S0
  refine qn_of S26.1 (fun l el => ?_)
  have R : RfN B25 H H25 a := by
    refine ⟨⟨TT.1 _ _ ha, T0.1 _ _ w0, T1.1 _ _ w1, T2.1 _ _ w2, T3.1 _ _ w3, T4.1 _ _ w4, T5.1 _ _ w5, T6.1 _ _ w6, T7.1 _ _ w7, T8.1 _ _ w8, T9.1 _ _ w9, T10.1 _ _ w10, T11.1 _ _ w11, T12.1 _ _ w12, T13.1 _ _ w13, T14.1 _ _ w14, T15.1 _ _ w15, T16.1 _ _ w16, T17.1 _ _ w17, T18.1 _ _ w18, T19.1 _ _ w19, T20.1 _ _ w20, T21.1 _ _ w21, T22.1 _ _ w22, T23.1 _ _ w23, T24.1 _ _ w24, w25⟩, ?_, ?_, fun i hi => ?_, fun i hi => ?_, fun k => ?_, fun k => ?_, fun k => ?_, fun k => ?_, fun k => ?_⟩
    · rw [vv]; exact ⟨rfl, rfl, rfl, rfl, rfl, rfl, rfl, rfl, rfl, rfl, rfl, rfl, rfl, rfl, rfl, rfl, rfl, rfl, rfl, rfl, rfl, rfl, rfl, rfl, rfl, rfl⟩
    · rw [vv]; exact ⟨rfl, rfl, rfl, rfl, rfl⟩
    · rw [T5.2 (a + 6) (by omega) (by omega)]; exact z5 i hi
    · rw [T6.2 (a + 7) (by omega) (by omega)]; exact z6 i hi
    · rw [T7.2 (a + 8) (by omega) (by omega), z7]; rfl
    · rw [T8.2 (a + 9) (by omega) (by omega), z8]; rfl
    · rw [T9.2 (a + 10) (by omega) (by omega), z9]; rfl
    · rw [T10.2 (a + 11) (by omega) (by omega), z10]; rfl
    · rw [T24.2 (a + 25) (by omega) (by omega), z24]; rfl
  rw [el] at R
  exact hq l H25 (by rw [← el]; exact S26.2.1) S26.2.2.2 R
end Mk4
