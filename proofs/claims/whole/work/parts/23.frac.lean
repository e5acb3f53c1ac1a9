/-! fractions, pure: how a sum of two shortened ones is shortened, and that a shortened one is alone -/
def Red (p q : Int) : Prop := 0 < q ∧ Int.gcd p q = 1
theorem red_unique {a b c e : Int} (h1 : Red a b) (h2 : Red c e) (h : a * e = c * b) : a = c ∧ b = e := by
  obtain ⟨hb, g1⟩ := h1
  obtain ⟨he, g2⟩ := h2
  have hn : a.natAbs * e.natAbs = c.natAbs * b.natAbs := by rw [← Int.natAbs_mul, ← Int.natAbs_mul, h]
  have d1 : b.natAbs ∣ e.natAbs := by
    have : b.natAbs ∣ a.natAbs * e.natAbs := ⟨c.natAbs, by rw [hn, Nat.mul_comm]⟩
    exact Nat.Coprime.dvd_of_dvd_mul_left (Nat.coprime_comm.mp g1) this
  have d2 : e.natAbs ∣ b.natAbs := by
    have : e.natAbs ∣ c.natAbs * b.natAbs := ⟨a.natAbs, by rw [← hn, Nat.mul_comm]⟩
    exact Nat.Coprime.dvd_of_dvd_mul_left (Nat.coprime_comm.mp g2) this
  have e0 := Nat.dvd_antisymm d1 d2
  have e1 : b = e := by omega
  refine ⟨?_, e1⟩
  subst e1
  exact Int.eq_of_mul_eq_mul_right (by omega) h
theorem cop_mul {t a b : Nat} (h1 : Nat.gcd t a = 1) (h2 : Nat.gcd t b = 1) : Nat.gcd t (a * b) = 1 := Nat.Coprime.mul_right h1 h2
/-- t = A b' + B a' has with a' b' s no more in common than with s -/
theorem sum_red {A B a b s c t : Nat} (hA : Nat.gcd A (a * s) = 1) (hB : Nat.gcd B (b * s) = 1) (hab : Nat.gcd a b = 1) (ht : t = A * b + B * a) (hc : c = Nat.gcd s t) (hc0 : 0 < c) : Nat.gcd (t / c) (a * (b * (s / c))) = 1 := by
  have hAa : Nat.gcd A a = 1 := Nat.Coprime.coprime_mul_right_right hA
  have hBb : Nat.gcd B b = 1 := Nat.Coprime.coprime_mul_right_right hB
  have hta : Nat.gcd t a = 1 := by
    rw [ht, Nat.gcd_add_mul_right_left]
    exact Nat.Coprime.mul_left hAa (by rw [Nat.coprime_comm]; exact hab)
  have htb : Nat.gcd t b = 1 := by
    rw [ht, Nat.add_comm, Nat.gcd_add_mul_right_left]
    exact Nat.Coprime.mul_left hBb hab
  obtain ⟨t', et⟩ : c ∣ t := hc ▸ Nat.gcd_dvd_right s t
  obtain ⟨s', es⟩ : c ∣ s := hc ▸ Nat.gcd_dvd_left s t
  have e1 : t / c = t' := by rw [et, Nat.mul_div_cancel_left _ hc0]
  have e2 : s / c = s' := by rw [es, Nat.mul_div_cancel_left _ hc0]
  rw [e1, e2]
  have hts : Nat.gcd t' s' = 1 := by
    have h : Nat.gcd s t = c * Nat.gcd s' t' := by rw [et, es, Nat.gcd_mul_left]
    rw [← hc] at h
    have h2 : c * 1 = c * Nat.gcd s' t' := by omega
    rw [Nat.gcd_comm]
    exact (Nat.eq_of_mul_eq_mul_left hc0 h2).symm
  have h3 : ∀ {x : Nat}, Nat.gcd t x = 1 → Nat.gcd t' x = 1 := fun {x} hx => by
    rw [et] at hx
    exact Nat.Coprime.coprime_mul_left hx
  exact cop_mul (h3 hta) (cop_mul (h3 htb) hts)
