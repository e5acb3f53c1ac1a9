/-! AN ABSTRACT MACHINE over pure numbers: every value is an Int with a tag (0 int, 1 long, 2 reference), the heap is a function
from (cell, place) to Int beside a list of shapes; cells are numbered as they are made. Fr: a frame's walk; Call: a method's contract. -/
abbrev AV : Type := Nat × Int
abbrev Shp : Type := List (Nat × Nat)
abbrev Mem : Type := Nat → Nat → Int
abbrev MM : Type := MethodName × ByteArray × Nat × Option FieldType
def inI (x : Int) : Prop := -2147483648 ≤ x ∧ x ≤ 2147483647
def inL (x : Int) : Prop := -9223372036854775808 ≤ x ∧ x ≤ 9223372036854775807
def rfv (φ : Nat → Nat) (b : Nat) (x : Int) : Value := if x = -2 then .ref b else if x < 0 then .null else .ref (φ x.toNat)
def toV (φ : Nat → Nat) (b : Nat) (v : AV) : Value := match v.1 with
  | 0 => .int (Int32.ofInt v.2)
  | 1 => .long (Int64.ofInt v.2)
  | _ => rfv φ b v.2
def okV (n : Nat) (v : AV) : Prop := match v.1 with
  | 0 => inI v.2
  | 1 => inL v.2
  | _ => v.2 < n
def ftag (t : FieldType) : Nat := match t with
  | .long => 1
  | .object _ => 2
  | .array _ => 2
  | _ => 0
def tyOk (n : Nat) (t : FieldType) (x : Int) : Prop := match t with
  | .boolean => x = 0 ∨ x = 1
  | .int => inI x
  | .long => inL x
  | .object _ => -1 ≤ x ∧ x < n
  | .array _ => -1 ≤ x ∧ x < n
  | _ => False
def kty (kd k : Nat) : FieldType := if kd < 13 then fty kd k else if kd = 20 then .int else if kd = 21 then .long else if kd = 22 then .boolean else .object ""
def Rng (K : Shp) (H : Mem) : Prop := ∀ (a : Nat) (q : Nat × Nat), K[a]? = some q → ∀ k, k < q.2 → tyOk K.length (kty q.1 k) (H a k)
def refE (φ : Nat → Nat) (x : Int) : Option Nat := if x < 0 then none else some (φ x.toNat)
def cellE (φ : Nat → Nat) (b : Nat) (aC : Nat → ClassId) (q : Nat × Nat) (f : Nat → Int) : va_E :=
  if q.1 < 13 then .inr (q.1, (List.range q.2).map fun k => toV φ b (ftag (fty q.1 k), f k))
  else if q.1 = 21 then .inl (aC 21, q.2, .inr (.inl fun j => Int64.ofInt (f j)))
  else if q.1 = 20 ∨ q.1 = 22 then .inl (aC q.1, q.2, .inl fun j => Int32.ofInt (f j))
  else .inl (aC q.1, q.2, .inr (.inr (.inr (.inr fun j => refE φ (f j)))))
def wsOf (φ : Nat → Nat) (b : Nat) (aC : Nat → ClassId) (K : Shp) (H : Mem) : va_W := K.mapIdx fun a q => (φ a, cellE φ b aC q (H a))
def tysOf (aC : Nat → ClassId) : List (ClassId × FieldType) := [(aC 20, .int), (aC 21, .long), (aC 22, .boolean), (aC 23, .object "RodBeam$Section"), (aC 24, .object "RodBeam$Span")]
def upA (H : Mem) (a : Nat) (f : Nat → Int) : Mem := fun x => if x = a then f else H x
def up1 (f : Nat → Int) (k : Nat) (x : Int) : Nat → Int := fun j => if j = k then x else f j
def lw_good : List Cond := lw_tbl.filter goodWord
def isNest (w : Cond) : Bool := match w with
  | .methodLinkNest _ _ _ _ => true
  | .arrayOver (.object _) => true
  | _ => false
def lw_nest : List Cond := lw_tbl.filter isNest
theorem ws_at {φ : Nat → Nat} {b : Nat} {aC : Nat → ClassId} {K : Shp} {H : Mem} {a : Nat} {q : Nat × Nat} (h : K[a]? = some q) : (wsOf φ b aC K H)[a]? = some (φ a, cellE φ b aC q (H a)) := by
  simp [wsOf, List.getElem?_mapIdx, h]
theorem ws_set {φ : Nat → Nat} {b : Nat} {aC : Nat → ClassId} {K : Shp} {H : Mem} {a : Nat} {q : Nat × Nat} {f : Nat → Int} (h : K[a]? = some q) : (wsOf φ b aC K H).set a (φ a, cellE φ b aC q f) = wsOf φ b aC K (upA H a f) := by
  apply List.ext_getElem?
  intro i
  by_cases hi : i = a
  · subst hi
    obtain ⟨hl, he⟩ := List.getElem?_eq_some_iff.mp h
    simp [wsOf, List.getElem?_mapIdx, upA, List.getElem?_set, hl, he]
  · simp [wsOf, List.getElem?_mapIdx, upA, List.getElem?_set, Ne.symm hi, hi]
theorem range_set {N k : Nat} {f : Nat → Value} {v : Value} : ((List.range N).map f).set k v = (List.range N).map fun j => if j = k then v else f j := by
  apply List.ext_getElem?
  intro i
  by_cases hi : i = k
  · subst hi
    by_cases hl : i < N
    · simp [List.getElem?_set, hl]
    · simp [List.getElem?_set, hl]
  · simp [List.getElem?_set, Ne.symm hi]
    cases h : (List.range N)[i]? with
    | none => rfl
    | some j =>
      have : j = i := by
        have := List.getElem?_eq_some_iff.mp h
        obtain ⟨h1, h2⟩ := this
        rw [List.getElem_range] at h2
        exact h2.symm
      subst this
      simp [hi]
/-- what holds of the machine where a method of ours runs -/
def Cx (M : MM) (sc : Option (Nat × (Nat → Int))) (p : Program) (s : State) (m : MethodId) (args : Array Value) (meth : Method) (c : Code) (base b : Nat) (D : va_G) (aC : Nat → ClassId) : Prop :=
  p.tables.exec = Jvm.exec ∧ c.code = M.2.1 ∧ meth.sig.returnType = M.2.2.2 ∧ c.maxLocals = M.2.2.1 ∧ s.vm.findClass M.1.cls = some m.cls ∧ (∀ w ∈ lw_good, w.before args s = true) ∧ (∀ w ∈ lw_nest, va_Nw w s) ∧
  va_K D vwCl (tysOf aC) s ∧ meth.locks = false ∧ meth.name = M.1.name ∧ base ≤ s.heap.size ∧
  (∀ (L : Nat) (xs : Nat → Int), sc = some (L, xs) → va_X b L (fun j => Int32.ofInt (xs j)) s s.heap ∧ b < s.heap.size ∧ b < base ∧ L < 2147483648 ∧ ∀ j, j < L → inI (xs j))
def Rp (base b : Nat) (D : va_G) (aC : Nat → ClassId) (φ : Nat → Nat) (K : Shp) (H : Mem) (Hp : Heap) : Prop :=
  va_P D vwCl (wsOf φ b aC K H) Hp ∧ va_D (fun q => base ≤ q) (wsOf φ b aC K H) ∧ Rng K H
def RetAt (M : MM) (pc : Nat) (r : Option AV) : Prop :=
  (∃ x, r = some (0, x) ∧ inI x ∧ decode M.2.1 pc = .ok (.ireturn, 1) ∧ (M.2.2.2 = some .int ∨ M.2.2.2 = some .boolean ∧ (x = 0 ∨ x = 1))) ∨
  (∃ x, r = some (1, x) ∧ inL x ∧ decode M.2.1 pc = .ok (.lreturn, 1) ∧ M.2.2.2 = some .long) ∨ (r = none ∧ decode M.2.1 pc = .ok (.return_, 1) ∧ M.2.2.2 = none)
def Ret (M : MM) (p : Program) (l : Launch) (e : Env) (R : Room) (s : State) (m : MethodId) (args : Array Value) (below : List Frame) (meth : Method) (c : Code) (base b : Nat) (D : va_G) (aC : Nat → ClassId) (n0 : Nat) (φ0 : Nat → Nat) (QM : State → Prop) (Q : Option AV → Shp → Mem → Prop) : Prop :=
  ∀ (r : Option AV) (K : Shp) (H : Mem) (φ : Nat → Nat) (Hp : Heap) (locs : List Loc) (cells slots pc : Nat) (ls : Array Slot), Q r K H → Rp base b D aC φ K H Hp → va_S (fun q => base ≤ q) s.heap Hp locs → cells ≤ R.cells → slots ≤ R.slots → n0 ≤ K.length → (∀ a, a < n0 → φ a = φ0 a) → RetAt M pc r →
    W p l e R s m args below meth c Hp locs cells slots QM (F0 m pc ls ((r.map (toV φ b)).toList))
/-- A FRAME of method M at pc, with room for d calls one in another, fc cells and fs slots still to be made: it comes to its end, with Q -/
def Fr (M : MM) (d fc fs : Nat) (sc : Option (Nat × (Nat → Int))) (pc : Nat) (ls : List (Nat × AV)) (st : List AV) (K : Shp) (H : Mem) (Q : Option AV → Shp → Mem → Prop) : Prop :=
  ∀ (p : Program) (l : Launch) (e : Env) (R : Room) (s : State) (m : MethodId) (args : Array Value) (below : List Frame) (meth : Method) (c : Code) (base b : Nat) (D : va_G) (aC : Nat → ClassId) (n0 : Nat) (φ0 φ : Nat → Nat) (Hp : Heap) (locs : List Loc) (cells slots : Nat) (lsA : Array Slot) (QM : State → Prop),
    Cx M sc p s m args meth c base b D aC → d ≤ R.frames → 40 * d ≤ R.locals → cells + fc ≤ R.cells → slots + fs ≤ R.slots →
    Rp base b D aC φ K H Hp → va_S (fun q => base ≤ q) s.heap Hp locs → lv_has lsA M.2.2.1 (ls.map fun q => (q.1, toV φ b q.2)) → (∀ q ∈ ls, okV K.length q.2) → (∀ v ∈ st, okV K.length v) →
    n0 ≤ K.length → (∀ a, a < n0 → φ a = φ0 a) → Ret M p l e R s m args below meth c base b D aC n0 φ0 QM Q →
    W p l e R s m args below meth c Hp locs cells slots QM (F0 m pc lsA (st.map (toV φ b)))
def rmOf (d mc ms : Nat) : Room := { frames := d, cells := mc, slots := ms, locals := 40 * d }
def wsM (M : MM) : List Cond := Cond.code M.1 M.2.1 M.2.2.1 M.2.2.2 :: lw_good
/-- what a method's start and end say -/
def PcM (base b : Nat) (D : va_G) (aC : Nat → ClassId) (φ : Nat → Nat) (args : List AV) (K : Shp) (H : Mem) : Array Value → State → Prop :=
  va_Pc (args.map (toV φ b)) (fun U => (∀ w ∈ lw_nest, va_Nw w U) ∧ va_K D vwCl (tysOf aC) U ∧ base ≤ U.heap.size ∧ Rp base b D aC φ K H U.heap ∧ ∀ v ∈ args, okV K.length v)
def QcM (base b : Nat) (D : va_G) (aC : Nat → ClassId) (φ : Nat → Nat) (K : Shp) (Q : Option AV → Shp → Mem → Prop) : Array Value → State → Outcome → State → Prop :=
  fun _ st oc t => (∃ (r : Option AV) (K' : Shp) (H' : Mem) (φ' : Nat → Nat), oc = .returned (r.map (toV φ' b)) ∧ (∀ v, r = some v → v.1 < 2 ∧ okV 0 v) ∧ Q r K' H' ∧ Rp base b D aC φ' K' H' t.heap ∧ K.length ≤ K'.length ∧ ∀ a, a < K.length → φ' a = φ a) ∧ va_F (fun q => base ≤ q) st t
/-- THE CONTRACT of M at arguments and heap -/
def Call (M : MM) (d mc ms : Nat) (args : List AV) (K : Shp) (H : Mem) (Q : Option AV → Shp → Mem → Prop) : Prop :=
  ∀ (l : Launch) (base b : Nat) (D : va_G) (aC : Nat → ClassId) (φ : Nat → Nat), Met l M.1 (wsM M) (rmOf d mc ms) (PcM base b D aC φ args K H) (QcM base b D aC φ K Q) mc ms (fun q => base ≤ q)
def argL : Nat → List AV → List (Nat × AV)
  | _, [] => []
  | i, v :: vs => (i, v) :: argL (if v.1 = 1 then i + 2 else i + 1) vs
theorem cat_toV (φ : Nat → Nat) (b : Nat) (v : AV) : (toV φ b v).category = if v.1 = 1 then 2 else 1 := by
  obtain ⟨t, x⟩ := v
  match t with
  | 0 => rfl
  | 1 => rfl
  | t + 2 =>
    show (rfv φ b x).category = _
    unfold rfv
    split
    · rfl
    · split <;> rfl
theorem argL_eq (φ : Nat → Nat) (b : Nat) (vs : List AV) : ∀ i, lv_args i (vs.map (toV φ b)) = (argL i vs).map fun q => (q.1, toV φ b q.2) := by
  induction vs with
  | nil => intro i; rfl
  | cons v vs ih =>
    intro i
    have hc := cat_toV φ b v
    by_cases h : v.1 = 1
    · rw [if_pos h] at hc
      simp [lv_args, argL, h, hc, ih]
    · rw [if_neg h] at hc
      simp [lv_args, argL, h, hc, ih]
theorem argL_mem (vs : List AV) : ∀ i q, q ∈ argL i vs → q.2 ∈ vs := by
  induction vs with
  | nil => intro i q h; cases h
  | cons v vs ih =>
    intro i q h
    rcases List.mem_cons.mp h with rfl | h
    · exact List.mem_cons_self
    · exact List.mem_cons_of_mem _ (ih _ _ h)
def wid (vs : List AV) : Nat := (vs.map fun v => if v.1 = 1 then 2 else 1).sum
theorem wid_eq (φ : Nat → Nat) (b : Nat) (vs : List AV) : (lg_sl (vs.map (toV φ b))).length = wid vs := by
  induction vs with
  | nil => rfl
  | cons v vs ih =>
    have hc := cat_toV φ b v
    by_cases h : v.1 = 1
    · rw [if_pos h] at hc
      simp [lg_sl, wid, h, hc] at ih ⊢
      omega
    · rw [if_neg h] at hc
      simp [lg_sl, wid, h, hc] at ih ⊢
      omega
