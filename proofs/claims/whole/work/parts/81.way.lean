/-! ways as digits; the best of them: pure -/
def hor (b : Nat) (c : Nat → Nat) : Nat → Nat
  | 0 => 0
  | k + 1 => hor b c k * b + c k
theorem hor_lt {b : Nat} {c : Nat → Nat} : ∀ {n : Nat}, (∀ j, j < n → c j < b) → hor b c n < b ^ n
  | 0, _ => by simp [hor]
  | n + 1, h => by
    have i := hor_lt (n := n) (fun j hj => h j (by omega))
    have g := h n (by omega)
    have m : (hor b c n + 1) * b ≤ b ^ n * b := Nat.mul_le_mul_right b i
    rw [Nat.add_mul, Nat.one_mul] at m
    rw [Nat.pow_succ]
    show hor b c n * b + c n < _
    omega
theorem hor_div {b k : Nat} {c : Nat → Nat} : ∀ {m : Nat}, (∀ j, j < k + m → c j < b) → hor b c (k + m) / b ^ m = hor b c k
  | 0, _ => by rw [Nat.pow_zero, Nat.div_one, Nat.add_zero]
  | m + 1, h => by
    have g := h (k + m) (by omega)
    have i := hor_div (k := k) (m := m) (c := c) (b := b) (fun j hj => h j (by omega))
    rw [Nat.pow_succ, Nat.mul_comm, ← Nat.div_div_eq_div_mul]
    show (hor b c (k + m) * b + c (k + m)) / b / b ^ m = _
    rw [Nat.mul_comm (hor b c (k + m)), Nat.mul_add_div (by omega), Nat.div_eq_of_lt g, Nat.add_zero]
    exact i
theorem dgt_hor {b n k : Nat} {c : Nat → Nat} (hk : k < n) (h : ∀ j, j < n → c j < b) : dgt b n (hor b c n) k = c k := by
  unfold dgt
  have e := hor_div (b := b) (c := c) (k := k + 1) (m := n - 1 - k) (fun j hj => h j (by omega))
  rw [show k + 1 + (n - 1 - k) = n by omega] at e
  rw [e]
  show (hor b c k * b + c k) % b = c k
  rw [Nat.mul_comm, Nat.mul_add_mod, Nat.mod_eq_of_lt (h k hk)]
theorem hor_dgt {b n w : Nat} (hw : w < b ^ n) : ∀ k, k ≤ n → hor b (dgt b n w) k = w / b ^ (n - k)
  | 0, _ => by rw [Nat.sub_zero, Nat.div_eq_of_lt hw]; rfl
  | k + 1, h => by
    have i := hor_dgt hw k (by omega)
    show hor b (dgt b n w) k * b + dgt b n w k = _
    unfold dgt at *
    rw [i, show n - k = n - 1 - k + 1 by omega, Nat.pow_succ, ← Nat.div_div_eq_div_mul, show n - (k + 1) = n - 1 - k by omega]
    rw [Nat.mul_comm]
    exact Nat.div_add_mod _ _
theorem hor_full {b n w : Nat} (hw : w < b ^ n) : hor b (dgt b n w) n = w := by
  rw [hor_dgt hw n (Nat.le_refl _), Nat.sub_self, Nat.pow_zero, Nat.div_one]
theorem hor_congr {b : Nat} {c e : Nat → Nat} : ∀ {k : Nat}, (∀ j, j < k → c j = e j) → hor b c k = hor b e k
  | 0, _ => rfl
  | k + 1, h => by
    show hor b c k * b + c k = hor b e k * b + e k
    rw [hor_congr (fun j hj => h j (by omega)), h k (by omega)]
theorem hor_lex {b a n : Nat} {c e : Nat → Nat} (ha : a < n) (h1 : ∀ j, j < a → c j = e j) (h2 : c a < e a) (hc : ∀ j, j < n → c j < b) : hor b c n < hor b e n := by
  have go : ∀ m, a + 1 + m ≤ n → hor b c (a + 1 + m) < hor b e (a + 1 + m) := by
    intro m
    induction m with
    | zero =>
      intro _
      show hor b c a * b + c a < hor b e a * b + e a
      rw [hor_congr h1]
      omega
    | succ m ih =>
      intro hm
      have i := ih (by omega)
      have g := hc (a + 1 + m) (by omega)
      have x : (hor b c (a + 1 + m) + 1) * b ≤ hor b e (a + 1 + m) * b := Nat.mul_le_mul_right b i
      rw [Nat.add_mul, Nat.one_mul] at x
      show hor b c (a + 1 + m) * b + c (a + 1 + m) < hor b e (a + 1 + m) * b + e (a + 1 + m)
      omega
  have := go (n - (a + 1)) (by omega)
  rw [show a + 1 + (n - (a + 1)) = n by omega] at this
  exact this
theorem dgt_lt {b n w k : Nat} (h : 0 < b) : dgt b n w k < b := Nat.mod_lt _ h
def usD (st : Nat → Int) (nr : Nat) (c : Nat → Nat) : Nat → Int := fun k => if k < nr then chS st (c k) else 0
def prD (pr : Nat → Int) (c : Nat → Nat) (n : Nat) : Int := sumN (fun k => chS pr (c k)) n
theorem usW_D {st : Nat → Int} {nz nr w : Nat} : usW st nz nr w = usD st nr (dgt (nz + 1) nr w) := rfl
theorem prW_D {pr : Nat → Int} {nz nr w : Nat} : prW pr nz nr w = prD pr (dgt (nz + 1) nr w) nr := rfl
theorem usD_congr {st : Nat → Int} {nr : Nat} {c e : Nat → Nat} (h : ∀ k, k < nr → c k = e k) : usD st nr c = usD st nr e := by
  funext k
  unfold usD
  split
  · next g => rw [h k g]
  · rfl
theorem prD_congr {pr : Nat → Int} {n : Nat} {c e : Nat → Nat} (h : ∀ k, k < n → c k = e k) : prD pr c n = prD pr e n := sumN_congr (fun k hk => by rw [h k hk])
section Bst
variable {B : (Nat → Int) → Int → Int → Bool} {np nz nr w : Nat} {pn pm st pr : Nat → Int}
theorem best_digits {c : Nat → Nat} (h : IsBest B np pn pm nz st pr nr w) (hc : ∀ j, j < nr → c j < nz + 1) (hs : safeW B np pn pm (usD st nr c)) : prD pr (dgt (nz + 1) nr w) nr < prD pr c nr ∨ (prD pr (dgt (nz + 1) nr w) nr = prD pr c nr ∧ w ≤ hor (nz + 1) c nr) := by
  have e : ∀ k, k < nr → dgt (nz + 1) nr (hor (nz + 1) c nr) k = c k := fun k hk => dgt_hor hk hc
  have g := h.2.2 (hor (nz + 1) c nr) (hor_lt hc) (by rw [usW_D, usD_congr e]; exact hs)
  rw [prW_D, prW_D, prD_congr e] at g
  exact g
theorem best_before {c : Nat → Nat} {a : Nat} (h : IsBest B np pn pm nz st pr nr w) (hc : ∀ j, j < nr → c j < nz + 1) (hs : safeW B np pn pm (usD st nr c)) (ha : a < nr) (h1 : ∀ j, j < a → c j = dgt (nz + 1) nr w j) (h2 : c a < dgt (nz + 1) nr w a) : prD pr (dgt (nz + 1) nr w) nr < prD pr c nr := by
  have g := best_digits h hc hs
  have l := hor_lex ha h1 h2 hc
  rw [hor_full h.1] at l
  omega
theorem sumN_one {f g : Nat → Int} {r : Nat} : ∀ {n : Nat}, r < n → (∀ k, k < n → k ≠ r → g k = f k) → sumN g n = sumN f n + (g r - f r)
  | 0, h, _ => absurd h (by omega)
  | n + 1, h, e => by
    show sumN g n + g n = sumN f n + f n + (g r - f r)
    by_cases x : r = n
    · rw [x, sumN_congr (fun k hk => e k (by omega) (by omega))]; omega
    · rw [sumN_one (n := n) (by omega) (fun k hk => e k (by omega)), e n (by omega) (by omega)]; omega
/-- the best choice takes no idle size -/
theorem best_idle {r dd o : Nat} (mono : ∀ us us' : Nat → Int, (∀ k, k < nr → us k ≤ us' k ∧ 0 ≤ us k ∧ us' k ≤ 200) → safeW B np pn pm us → safeW B np pn pm us') (hst : ∀ k, k < nz → 1 ≤ st k ∧ st k ≤ 200) (h : IsBest B np pn pm nz st pr nr w) (hr : r < nr) (hd : dgt (nz + 1) nr w r = dd + 1) (ho : o < nz) (hp : pr o < pr dd ∨ (pr o = pr dd ∧ o < dd)) (hs : st dd ≤ st o) : False := by
  have dz : dd < nz := by
    have := dgt_lt (b := nz + 1) (n := nr) (w := w) (k := r) (by omega)
    omega
  obtain ⟨e, he⟩ : ∃ e, e = dgt (nz + 1) nr w := ⟨_, rfl⟩
  rw [← he] at hd
  obtain ⟨c, hcd⟩ : ∃ c : Nat → Nat, c = fun k => if k = r then o + 1 else e k := ⟨_, rfl⟩
  have cr : c r = o + 1 := by rw [hcd]; simp
  have cn : ∀ k, k ≠ r → c k = e k := fun k hk => by rw [hcd]; simp [hk]
  have el : ∀ k, e k < nz + 1 := fun k => by rw [he]; exact dgt_lt (by omega)
  have hc : ∀ j, j < nr → c j < nz + 1 := fun j _ => by
    by_cases g : j = r
    · rw [g, cr]; omega
    · rw [cn j g]; exact el j
  have chb : ∀ d, d < nz + 1 → 0 ≤ chS st d ∧ chS st d ≤ 200 := fun d hd' => by
    unfold chS
    split
    · omega
    · have := hst (d - 1) (by omega); omega
  have sf : safeW B np pn pm (usD st nr c) := by
    refine mono (usD st nr e) _ (fun k hk => ?_) (by rw [he, ← usW_D]; exact h.2.1)
    unfold usD
    rw [if_pos hk, if_pos hk]
    refine ⟨?_, (chb _ (el k)).1, (chb _ (hc k hk)).2⟩
    by_cases g : k = r
    · rw [g, cr, hd]
      unfold chS
      rw [if_neg (by omega), if_neg (by omega)]
      exact hs
    · rw [cn k g]; exact Int.le_refl _
  have g := best_digits h hc sf
  have ps : prD pr c nr = prD pr e nr + (pr o - pr dd) := by
    unfold prD
    rw [sumN_one (f := fun k => chS pr (e k)) (g := fun k => chS pr (c k)) hr (fun k _ hk => by show chS pr (c k) = chS pr (e k); rw [cn k hk])]
    show _ + (chS pr (c r) - chS pr (e r)) = _
    rw [cr, hd]
    unfold chS
    rw [if_neg (by omega), if_neg (by omega)]
    rfl
  rw [← he, ps] at g
  rcases hp with x | ⟨x, y⟩
  · omega
  · have l := hor_lex (b := nz + 1) (c := c) (e := e) (n := nr) hr (fun j hj => cn j (by omega)) (by rw [cr, hd]; omega) hc
    rw [he, hor_full h.1] at l
    rw [he] at g
    omega
def BestTo (B : (Nat → Int) → Int → Int → Bool) (np : Nat) (pn pm : Nat → Int) (nz : Nat) (st pr : Nat → Int) (nr m w : Nat) : Prop := w < m ∧ safeW B np pn pm (usW st nz nr w) ∧ ∀ w', w' < m → safeW B np pn pm (usW st nz nr w') → prW pr nz nr w < prW pr nz nr w' ∨ (prW pr nz nr w = prW pr nz nr w' ∧ w ≤ w')
theorem BestTo.keep {m : Nat} (h : BestTo B np pn pm nz st pr nr m w) (hn : ¬ (safeW B np pn pm (usW st nz nr m) ∧ prW pr nz nr m < prW pr nz nr w)) : BestTo B np pn pm nz st pr nr (m + 1) w := by
  obtain ⟨h1, h2, h3⟩ := h
  refine ⟨by omega, h2, fun w' hw hs => ?_⟩
  by_cases g : w' = m
  · subst g
    have : ¬ prW pr nz nr w' < prW pr nz nr w := fun x => hn ⟨hs, x⟩
    omega
  · exact h3 w' (by omega) hs
theorem BestTo.new {m : Nat} (h : BestTo B np pn pm nz st pr nr m w) (hs : safeW B np pn pm (usW st nz nr m)) (hp : prW pr nz nr m < prW pr nz nr w) : BestTo B np pn pm nz st pr nr (m + 1) m := by
  obtain ⟨h1, h2, h3⟩ := h
  refine ⟨by omega, hs, fun w' hw hs' => ?_⟩
  by_cases g : w' = m
  · subst g; omega
  · have := h3 w' (by omega) hs'; omega
theorem BestTo.first {m : Nat} (no : ∀ w', w' < m → ¬ safeW B np pn pm (usW st nz nr w')) (hs : safeW B np pn pm (usW st nz nr m)) : BestTo B np pn pm nz st pr nr (m + 1) m := by
  refine ⟨by omega, hs, fun w' hw hs' => ?_⟩
  by_cases g : w' = m
  · subst g; omega
  · exact absurd hs' (no w' (by omega))
theorem best_ex : ∀ (m : Nat), (∀ w', w' < m → ¬ safeW B np pn pm (usW st nz nr w')) ∨ ∃ w, BestTo B np pn pm nz st pr nr m w
  | 0 => Or.inl (fun w' h => absurd h (by omega))
  | m + 1 => by
    by_cases hs : safeW B np pn pm (usW st nz nr m)
    · rcases best_ex m with no | ⟨w, h⟩
      · exact Or.inr ⟨m, BestTo.first no hs⟩
      · by_cases hp : prW pr nz nr m < prW pr nz nr w
        · exact Or.inr ⟨m, h.new hs hp⟩
        · exact Or.inr ⟨w, h.keep (fun x => hp x.2)⟩
    · rcases best_ex m with no | ⟨w, h⟩
      · refine Or.inl (fun w' hw => ?_)
        by_cases g : w' = m
        · rw [g]; exact hs
        · exact no w' (by omega)
      · exact Or.inr ⟨w, h.keep (fun x => hs x.1)⟩
theorem IsBest.unique {w2 : Nat} (h : IsBest B np pn pm nz st pr nr w) (h2 : IsBest B np pn pm nz st pr nr w2) : w = w2 := by
  have x := h.2.2 w2 h2.1 h2.2.1
  have y := h2.2.2 w h.1 h.2.1
  omega
end Bst
