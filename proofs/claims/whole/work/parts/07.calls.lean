/-! RULES, fourth part: returns, the entry, calls, new cells -/
section Ends
variable {M : MM} {d fc fs : Nat} {sc : Option (Nat × (Nat → Int))} {pc : Nat} {ls : List (Nat × AV)} {st : List AV} {K : Shp} {H : Mem} {Q : Option AV → Shp → Mem → Prop}
theorem r_iret {x : Int} (hd : decode M.2.1 pc = .ok (.ireturn, 1)) (hr : M.2.2.2 = some .int) (h : Q (some (0, x)) K H) : Fr M d fc fs sc pc ls [(0, x)] K H Q := by
  intro p l e R s m args below meth c base b D aC n0 φ0 φ Hp locs cells slots lsA QM hC hR1 hR2 hc1 hc2 hP hS hl hlo hso hn hag hret
  exact hret (some (0, x)) K H φ Hp locs cells slots pc lsA h hP hS (by omega) (by omega) hn hag (Or.inl ⟨x, rfl, (ok_1 hso).1, hd, Or.inl hr⟩)
theorem r_zret {x : Int} (hd : decode M.2.1 pc = .ok (.ireturn, 1)) (hr : M.2.2.2 = some .boolean) (hx : x = 0 ∨ x = 1) (h : Q (some (0, x)) K H) : Fr M d fc fs sc pc ls [(0, x)] K H Q := by
  intro p l e R s m args below meth c base b D aC n0 φ0 φ Hp locs cells slots lsA QM hC hR1 hR2 hc1 hc2 hP hS hl hlo hso hn hag hret
  exact hret (some (0, x)) K H φ Hp locs cells slots pc lsA h hP hS (by omega) (by omega) hn hag (Or.inl ⟨x, rfl, (ok_1 hso).1, hd, Or.inr ⟨hr, hx⟩⟩)
theorem r_lret {x : Int} (hd : decode M.2.1 pc = .ok (.lreturn, 1)) (hr : M.2.2.2 = some .long) (h : Q (some (1, x)) K H) : Fr M d fc fs sc pc ls [(1, x)] K H Q := by
  intro p l e R s m args below meth c base b D aC n0 φ0 φ Hp locs cells slots lsA QM hC hR1 hR2 hc1 hc2 hP hS hl hlo hso hn hag hret
  exact hret (some (1, x)) K H φ Hp locs cells slots pc lsA h hP hS (by omega) (by omega) hn hag (Or.inr (Or.inl ⟨x, rfl, (ok_1 hso).1, hd, hr⟩))
theorem r_vret (hd : decode M.2.1 pc = .ok (.return_, 1)) (hr : M.2.2.2 = none) (h : Q none K H) : Fr M d fc fs sc pc ls [] K H Q := by
  intro p l e R s m args below meth c base b D aC n0 φ0 φ Hp locs cells slots lsA QM hC hR1 hR2 hc1 hc2 hP hS hl hlo hso hn hag hret
  exact hret none K H φ Hp locs cells slots pc lsA h hP hS (by omega) (by omega) hn hag (Or.inr (Or.inr ⟨rfl, hd, hr⟩))
theorem good_in {w : Cond} (h : w ∈ lw_good) : (w.onTables && w.keeps) = true ∨ ∃ ty, w = .arrayClass ty := good_of_word (List.mem_filter.mp h).2
/-- THE ENTRY: a contract is the walk of its body -/
theorem Call.of {mc ms : Nat} {args : List AV} (hpl : plainName M.1.cls = true) (hw : wid args ≤ M.2.2.1) (h : (∀ v ∈ args, okV K.length v) → Rng K H → Fr M d mc ms none 0 (argL 0 args) [] K H Q) : Call M d mc ms args K H Q := by
  intro l base b D aC φ
  refine Met.ofW (cc := M.2.1) (maxL := M.2.2.1) (ret := M.2.2.2) (ws' := lw_good) hpl rfl ?_
  intro p e s m args' below meth c s₁ B hml hv
  obtain ⟨rfl, hnw, hK, hbs, hRp, hok⟩ := hv
  have hts := atoms_spec (ws := wsM M) B.pre
  have hown : s.vm.findClass M.1.cls = some m.cls := findClass_of_methodNamed B.named
  have hl := lv_entry (args.map (toV φ b)) (n := M.2.2.1) (by rw [wid_eq]; exact hw)
  rw [argL_eq] at hl
  rw [lg_entry_eq]
  refine h hok hRp.2.2 p l e _ s m _ below meth c base b D aC K.length φ φ s.heap [] 0 0 _ _ ⟨B.exec, B.bytes, B.returns, hml, hown, fun w hw => hts w (List.mem_cons_of_mem _ hw), hnw, hK, B.notSynchronized, (name_of_methodNamed B.named B.method).1, hbs, fun _ _ h => by cases h⟩ (Nat.le_refl _) (Nat.le_refl _) (Nat.le_of_eq (Nat.zero_add _)) (Nat.le_of_eq (Nat.zero_add _)) hRp va_S.rf hl (fun q hq => hok _ (argL_mem _ _ _ hq)) (fun _ h => by cases h) (Nat.le_refl _) (fun _ _ => rfl) ?_
  intro r K' H' φ' Hp locs cells slots pc' ls' hQ hR hS hc1 hc2 hn hag hret
  have hlk := B.notSynchronized
  refine W.widen (k := mc) (n := ms) hc1 hc2 ?_
  rcases hret with ⟨x, rfl, hx, hd, hr⟩ | ⟨x, rfl, hx, hd, hr⟩ | ⟨rfl, hd, hr⟩
  · have hq : ∀ t : State, t.heap = Hp → s.WarmedH t.vm → QcM base b D aC φ K Q (args.map (toV φ b)).toArray s (.returned (some (.int (Int32.ofInt x)))) t := fun t ht _ =>
      ⟨⟨some (0, x), K', H', φ', rfl, fun v e => by cases e; exact ⟨(by show 0 < 2; decide), hx⟩, hQ, by rw [ht]; exact hR, hn, hag⟩, hS.F ht⟩
    rcases hr with hr | ⟨hr, h01⟩
    · exact W.iret B.exec B.bytes (B.returns.trans hr) hq hS.2.2 hd hlk
    · refine W.zret B.exec B.bytes (B.returns.trans hr) ?_ hq hS.2.2 hd hlk
      rcases h01 with h | h <;> subst h <;> decide +kernel
  · exact W.lret B.exec B.bytes (B.returns.trans hr) (fun t ht _ => ⟨⟨some (1, x), K', H', φ', rfl, fun v e => by cases e; exact ⟨(by show 1 < 2; decide), hx⟩, hQ, by rw [ht]; exact hR, hn, hag⟩, hS.F ht⟩) hS.2.2 hd hlk
  · exact W.vret B.exec B.bytes (B.returns.trans hr) (fun t ht _ => ⟨⟨none, K', H', φ', rfl, fun v e => (by cases e), hQ, by rw [ht]; exact hR, hn, hag⟩, hS.F ht⟩) hS.2.2 hd hlk
end Ends
/-- what is said of a method that is called -/
def MOK (M : MM) (n : Nat) : Prop := Cond.code M.1 M.2.1 M.2.2.1 M.2.2.2 ∈ lw_good ∧ Cond.initialized M.1.cls ∈ lw_good ∧ (M.1.cls ≠ "java/lang/invoke/MethodHandle" ∧ M.1.cls ≠ "java/lang/invoke/VarHandle" ∧ (parseMethodDescriptor M.1.desc).map (fun d => d.parameters.length) = some n) ∧ M.2.2.1 ≤ 20
theorem toV_same {φ φ' : Nat → Nat} {b n : Nat} (h : ∀ a, a < n → φ' a = φ a) {v : AV} (hv : okV n v) : toV φ' b v = toV φ b v := by
  obtain ⟨t, x⟩ := v
  match t, hv with
  | 0, _ => rfl
  | 1, _ => rfl
  | t + 2, hv =>
    show rfv φ' b x = rfv φ b x
    have hx : x < n := hv
    unfold rfv
    split
    · rfl
    · split
      · rfl
      · rw [h x.toNat (by omega)]
theorem map_same {φ φ' : Nat → Nat} {b n : Nat} (h : ∀ a, a < n → φ' a = φ a) {st : List AV} (hv : ∀ v ∈ st, okV n v) : st.map (toV φ' b) = st.map (toV φ b) :=
  List.map_congr_left fun v hm => toV_same h (hv v hm)
theorem okV_mono {n n' : Nat} (h : n ≤ n') {v : AV} (hv : okV n v) : okV n' v := by
  obtain ⟨t, x⟩ := v
  match t, hv with
  | 0, hv => exact hv
  | 1, hv => exact hv
  | t + 2, hv =>
    have hx : x < n := hv
    show x < n'
    omega
theorem nest_moved {s U : State} (hW : s.WarmedH U.vm) (h : ∀ w ∈ lw_nest, va_Nw w s) : ∀ w ∈ lw_nest, va_Nw w U := by
  intro w hw
  have hn := (List.mem_filter.mp hw).2
  have h0 := h w hw
  cases w
  case methodLinkNest => exact va_Nw.warmM hW h0
  case arrayOver t =>
    cases t
    case object C => exact va_AO.moved hW.alike h0
    all_goals (exfalso; revert hn; simp [isNest])
  all_goals (exfalso; revert hn; simp [isNest])
theorem nest_same {U V : State} (hv : U.vm = V.vm) (h : ∀ w ∈ lw_nest, va_Nw w U) : ∀ w ∈ lw_nest, va_Nw w V := by
  intro w hw
  have hn := (List.mem_filter.mp hw).2
  have h0 := h w hw
  cases w
  case methodLinkNest => exact va_Nw.same rfl hv h0
  case arrayOver t =>
    cases t
    case object C => exact va_AO.moved (by rw [hv]; exact Vm.Alike.refl _) h0
    all_goals (exfalso; revert hn; simp [isNest])
  all_goals (exfalso; revert hn; simp [isNest])
section Calls2
variable {M M' : MM} {d fc fs mc ms : Nat} {sc : Option (Nat × (Nat → Int))} {pc i : Nat} {ls : List (Nat × AV)} {st As : List AV} {K : Shp} {H : Mem} {Q Q1 : Option AV → Shp → Mem → Prop} {X : Int}
theorem blindP {base b : Nat} {D : va_G} {aC : Nat → ClassId} {φ : Nat → Nat} {args : List AV} {K : Shp} {H : Mem} : FrameBlind (PcM base b D aC φ args K H) := by
  intro a U g mk q
  obtain ⟨q0, q1, q2, q3, q4, q5⟩ := q
  exact ⟨q0, nest_same (U := U) (V := U.calling g mk a) rfl q1, va_K.moved (u := U) (U := U.calling g mk a) (Vm.Alike.refl U.vm) q2, q3, q4, q5⟩
/-- behind a call, whatever its kind -/
theorem after_call {p : Program} {l : Launch} {e : Env} {R : Room} {s : State} {m : MethodId} {args : Array Value} {below : List Frame} {meth : Method} {c : Code} {base b : Nat} {D : va_G} {aC : Nat → ClassId} {n0 : Nat} {φ0 φ : Nat → Nat} {Hp : Heap} {locs : List Loc} {cells slots : Nat} {lsA : Array Slot} {QM : State → Prop} {a : Array Value} {st0 : List Value}
    (hr : va_Run p l e R s m args below meth c Hp locs cells slots mc ms (F0 m pc lsA st0) (st.map (toV φ b)) (QcM base b D aC φ K Q1 a) (fun q => base ≤ q))
    (kk : ∀ (r : Option AV) (K' : Shp) (H' : Mem), Q1 r K' H' → K.length ≤ K'.length → Fr M (d + 1) fc fs sc (pc + 3) ls (r.toList ++ st) K' H' Q)
    (hC : Cx M sc p s m args meth c base b D aC) (hR1 : d + 1 ≤ R.frames) (hR2 : 40 * (d + 1) ≤ R.locals) (hc1 : cells + mc + fc ≤ R.cells) (hc2 : slots + ms + fs ≤ R.slots) (hS : va_S (fun q => base ≤ q) s.heap Hp locs) (hl : lv_has lsA M.2.2.1 (ls.map fun q => (q.1, toV φ b q.2))) (hlo : ∀ q ∈ ls, okV K.length q.2) (hso : ∀ v ∈ st, okV K.length v)
    (hn : n0 ≤ K.length) (hag : ∀ a, a < n0 → φ a = φ0 a) (hret : Ret M p l e R s m args below meth c base b D aC n0 φ0 QM Q) : W p l e R s m args below meth c Hp locs cells slots QM (F0 m pc lsA st0) := by
  intro T hT X
  obtain ⟨v, st₀, t, T', L, h0, X', hL, e1, e2, ⟨⟨r, K', H', φ', hv, hvo, hQ, hRp, hlen, hag'⟩, hz, hk⟩, hst⟩ := hr T hT X
  cases hv
  rw [h0] at hz hk
  have hS' : va_S (fun q => base ≤ q) s.heap t.heap (locs ++ L) := ⟨Nat.le_trans hS.1 hz, fun q h1 h2 => by rw [hk q (Nat.lt_of_lt_of_le h1 hS.1) h2]; exact hS.2.1 q h1 h2, fun q hq => by
    rcases List.mem_append.mp hq with h | h
    · exact hS.2.2 q h
    · exact hL q h⟩
  have hl' : lv_has lsA M.2.2.1 (ls.map fun q => (q.1, toV φ' b q.2)) := by
    have e : (ls.map fun q => (q.1, toV φ' b q.2)) = ls.map fun q => (q.1, toV φ b q.2) := List.map_congr_left fun q hq => by rw [toV_same hag' (hlo q hq)]
    rw [e]; exact hl
  have hso' : ∀ v ∈ r.toList ++ st, okV K'.length v := by
    intro v hv
    rcases List.mem_append.mp hv with h | h
    · have e : r = some v := by cases r with
        | none => cases h
        | some w => simp at h; rw [h]
      obtain ⟨h1, h2⟩ := hvo v e
      exact okV_mono (Nat.zero_le _) h2
    · exact okV_mono hlen (hso v h)
  have hW := kk r K' H' hQ hlen p l e R s m args below meth c base b D aC n0 φ0 φ' t.heap (locs ++ L) (cells + mc) (slots + ms) lsA QM hC hR1 hR2 hc1 hc2 hRp hS' hl' (fun q hq => okV_mono hlen (hlo q hq)) hso' (Nat.le_trans hn hlen) (fun a ha => (hag' a (Nat.lt_of_lt_of_le ha hn)).trans (hag a ha)) hret
  obtain ⟨t2, a1, b1⟩ := hW T' e1 X'
  refine ⟨t2, hst t2 ?_, b1⟩
  have e3 : (r.map (toV φ' b)).toList ++ st.map (toV φ b) = (r.toList ++ st).map (toV φ' b) := by
    rw [List.map_append, map_same hag' hso]
    cases r <;> rfl
  rw [e3]
  exact a1
theorem pre_call {s : State} {base b : Nat} {D : va_G} {aC : Nat → ClassId} {φ : Nat → Nat} {Hp : Heap} {locs : List Loc} {args : List AV} {h0 : List Value} (he : args.map (toV φ b) = h0) (hnw : ∀ w ∈ lw_nest, va_Nw w s) (hK : va_K D vwCl (tysOf aC) s) (hbs : base ≤ s.heap.size) (hS : va_S (fun q => base ≤ q) s.heap Hp locs) (hP : Rp base b D aC φ K H Hp) (hok : ∀ v ∈ args, okV K.length v) :
    ∀ U : State, U.heap = Hp → s.WarmedH U.vm → PcM base b D aC φ args K H h0.toArray U := by
  intro U hU hW
  subst he
  exact ⟨rfl, nest_moved hW hnw, va_K.moved hW.alike hK, by rw [hU]; exact Nat.le_trans hbs hS.1, by rw [hU]; exact hP, hok⟩
theorem good_ws (h : Cond.code M'.1 M'.2.1 M'.2.2.1 M'.2.2.2 ∈ lw_good) : GoodIn lw_good (wsM M') := fun w hw => (List.mem_cons.mp hw).elim (fun e => by rw [e]; exact ⟨h, good_in h⟩) (fun h => ⟨h, good_in h⟩)
theorem wid_st (φ : Nat → Nat) (b : Nat) (st : List AV) : ((st.map (toV φ b)).map fun v => v.category).sum = wid st := by
  induction st with
  | nil => rfl
  | cons v st ih =>
    simp only [List.map_cons, List.sum_cons, cat_toV, wid] at ih ⊢
    omega
/-- a call of an instance method by invokevirtual -/
theorem r_invV {ci n N : Nat} {T : u_T} (hM : Call M' d mc ms ((2, X) :: As) K H Q1) (hm : MOK M' n) (cl : Cls ci M'.1.cls T N) (hin : Cond.instanceMethod M'.1 ∈ lw_good) (hse : Cond.selects M'.1.cls M'.1 M'.1 ∈ lw_good) (hli : Cond.methodLink M.1.cls i M'.1 ∈ lw_good) (hd : decode M.2.1 pc = .ok (.invokevirtual i, 3)) (hn : As.length = n) (h0 : 0 ≤ X) (hK : K[X.toNat]? = some (ci, N)) (hst : wid st ≤ 8) {sti : List AV} (hsti : sti = As.reverse ++ (2, X) :: st)
    (kk : ∀ (r : Option AV) (K' : Shp) (H' : Mem), Q1 r K' H' → K.length ≤ K'.length → Fr M (d + 1) fc fs sc (pc + 3) ls (r.toList ++ st) K' H' Q) : Fr M (d + 1) (mc + fc) (ms + fs) sc pc ls sti K H Q := by
  subst hsti
  intro p l e R s m args below meth c base b D aC n0 φ0 φ Hp locs cells slots lsA QM hC hR1 hR2 hc1 hc2 hP hS hl hlo hso hn0 hag hret
  obtain ⟨hx, hb, hr, hml, hown, hts, hnw, hKK, hlk, hnm, hbs, hsc⟩ := id hC
  have hokA : ∀ v ∈ (2, X) :: As, okV K.length v := fun v hv => hso v (by
    rcases List.mem_cons.mp hv with rfl | h
    · simp
    · simp [h])
  have hokS : ∀ v ∈ st, okV K.length v := fun v hv => hso v (by simp [hv])
  have hat := ws_at (φ := φ) (b := b) (aC := aC) (H := H) hK
  rw [cell_obj cl.1] at hat
  have e0 : ((2, X) :: As).map (toV φ b) = .ref (φ X.toNat) :: As.map (toV φ b) := by rw [List.map_cons, toV_ref h0]
  refine after_call (va_runV (As := As.map (toV φ b)) (rest := st.map (toV φ b)) (Ts := lw_good) (nL := M.2.2.1) ⟨hx, hb, hml, hown, hts⟩ (hM l base b D aC φ) (bytes := M'.2.1) (maxL := M'.2.2.1) (ret := M'.2.2.2) (C := M'.1.cls) (n := n) (index := i) (b := φ X.toNat)
    ⟨callB_of n hts (good_ws hm.1) rfl rfl rfl (hts _ hm.2.1) (hts _ hli) hm.2.2.1 ⟨hR1, by have := hm.2.2.2; show 8 + (M'.2.2.1 + 11) + 40 * d ≤ R.locals; omega⟩, hts _ hin, hts _ hse⟩
    ⟨blindP, va_recv hKK hP.1 cl.2.1 hat, pre_call e0 hnw hKK hbs hS hP hokA⟩ rfl (by rw [List.length_map]; exact hn) hl.1 (by simp [toV_ref h0]) (lv_room (by rw [wid_st]; exact hst)) hd ⟨by omega, by omega⟩) kk hC hR1 hR2 (by omega) (by omega) hS hl hlo hokS hn0 hag hret
/-- a static method -/
theorem r_invS {n : Nat} (hM : Call M' d mc ms As K H Q1) (hm : MOK M' n) (hin : Cond.static M'.1 ∈ lw_good) (hli : Cond.methodLink M.1.cls i M'.1 ∈ lw_good) (hd : decode M.2.1 pc = .ok (.invokestatic i, 3)) (hn : As.length = n) (hst : wid st ≤ 8) {sti : List AV} (hsti : sti = As.reverse ++ st)
    (kk : ∀ (r : Option AV) (K' : Shp) (H' : Mem), Q1 r K' H' → K.length ≤ K'.length → Fr M (d + 1) fc fs sc (pc + 3) ls (r.toList ++ st) K' H' Q) : Fr M (d + 1) (mc + fc) (ms + fs) sc pc ls sti K H Q := by
  subst hsti
  intro p l e R s m args below meth c base b D aC n0 φ0 φ Hp locs cells slots lsA QM hC hR1 hR2 hc1 hc2 hP hS hl hlo hso hn0 hag hret
  obtain ⟨hx, hb, hr, hml, hown, hts, hnw, hKK, hlk, hnm, hbs, hsc⟩ := id hC
  have hokA : ∀ v ∈ As, okV K.length v := fun v hv => hso v (by simp [hv])
  have hokS : ∀ v ∈ st, okV K.length v := fun v hv => hso v (by simp [hv])
  refine after_call (va_runS (As := As.map (toV φ b)) (rest := st.map (toV φ b)) (Ts := lw_good) (nL := M.2.2.1) ⟨hx, hb, hml, hown, hts⟩ (hM l base b D aC φ) (bytes := M'.2.1) (maxL := M'.2.2.1) (ret := M'.2.2.2) (n := n) (index := i)
    ⟨callB_of n hts (good_ws hm.1) rfl rfl rfl (hts _ hm.2.1) (hts _ hli) hm.2.2.1 ⟨hR1, by have := hm.2.2.2; show 8 + (M'.2.2.1 + 11) + 40 * d ≤ R.locals; omega⟩, hts _ hin⟩
    ⟨blindP, pre_call rfl hnw hKK hbs hS hP hokA⟩ rfl (by rw [List.length_map]; exact hn) hl.1 (by simp) (lv_room (by rw [wid_st]; exact hst)) hd ⟨by omega, by omega⟩) kk hC hR1 hR2 (by omega) (by omega) hS hl hlo hokS hn0 hag hret
theorem nest_cn {R : Room} {s : State} {args : Array Value} {own host : String} {n : Nat} (hts : ∀ w ∈ lw_good, w.before args s = true) (hnw : ∀ w ∈ lw_nest, va_Nw w s) (hm : MOK M' n) (hli : Cond.methodLinkNest own i M'.1 host ∈ lw_nest) (hR1 : d + 1 ≤ R.frames) (hR2 : 40 * (d + 1) ≤ R.locals) : va_CN R s args own i M'.1 host M'.2.1 M'.2.2.1 M'.2.2.2 (wsM M') (rmOf d mc ms) mc ms n :=
  va_cnB n hts (good_ws hm.1) rfl rfl rfl (hnw _ hli) (hts _ hm.2.1) hm.2.2.1 ⟨hR1, by have := hm.2.2.2; show 8 + (M'.2.2.1 + 11) + 40 * d ≤ R.locals; omega⟩
/-- a nest mate's private static method -/
theorem r_invSN {n : Nat} {host : String} (hM : Call M' d mc ms As K H Q1) (hm : MOK M' n) (hin : Cond.static M'.1 ∈ lw_good) (hli : Cond.methodLinkNest M.1.cls i M'.1 host ∈ lw_nest) (hd : decode M.2.1 pc = .ok (.invokestatic i, 3)) (hn : As.length = n) (hst : wid st ≤ 8) {sti : List AV} (hsti : sti = As.reverse ++ st)
    (kk : ∀ (r : Option AV) (K' : Shp) (H' : Mem), Q1 r K' H' → K.length ≤ K'.length → Fr M (d + 1) fc fs sc (pc + 3) ls (r.toList ++ st) K' H' Q) : Fr M (d + 1) (mc + fc) (ms + fs) sc pc ls sti K H Q := by
  subst hsti
  intro p l e R s m args below meth c base b D aC n0 φ0 φ Hp locs cells slots lsA QM hC hR1 hR2 hc1 hc2 hP hS hl hlo hso hn0 hag hret
  obtain ⟨hx, hb, hr, hml, hown, hts, hnw, hKK, hlk, hnm, hbs, hsc⟩ := id hC
  have hokA : ∀ v ∈ As, okV K.length v := fun v hv => hso v (by simp [hv])
  have hokS : ∀ v ∈ st, okV K.length v := fun v hv => hso v (by simp [hv])
  refine after_call (va_runSN (As := As.map (toV φ b)) (rest := st.map (toV φ b)) (Ts := lw_good) (nL := M.2.2.1) ⟨hx, hb, hml, hown, hts⟩ (hM l base b D aC φ) (bytes := M'.2.1) (maxL := M'.2.2.1) (ret := M'.2.2.2) (n := n) (index := i)
    ⟨nest_cn hts hnw hm hli hR1 hR2, hts _ hin, trivial⟩
    ⟨blindP, pre_call rfl hnw hKK hbs hS hP hokA⟩ rfl (by rw [List.length_map]; exact hn) hl.1 (by simp) (lv_room (by rw [wid_st]; exact hst)) hd ⟨by omega, by omega⟩) kk hC hR1 hR2 (by omega) (by omega) hS hl hlo hokS hn0 hag hret
/-- a constructor -/
theorem r_invI {n : Nat} (hret0 : M'.2.2.2 = none) (hM : Call M' d mc ms ((2, X) :: As) K H Q1) (hm : MOK M' n) (hi : M'.1.name = "<init>") (hin : Cond.instanceMethod M'.1 ∈ lw_good) (hli : Cond.methodLink M.1.cls i M'.1 ∈ lw_good) (hd : decode M.2.1 pc = .ok (.invokespecial i, 3)) (hn : As.length = n) (h0 : 0 ≤ X) (hst : wid st ≤ 8) {sti : List AV} (hsti : sti = As.reverse ++ (2, X) :: st)
    (kk : ∀ (r : Option AV) (K' : Shp) (H' : Mem), Q1 r K' H' → K.length ≤ K'.length → Fr M (d + 1) fc fs sc (pc + 3) ls (r.toList ++ st) K' H' Q) : Fr M (d + 1) (mc + fc) (ms + fs) sc pc ls sti K H Q := by
  subst hsti
  intro p l e R s m args below meth c base b D aC n0 φ0 φ Hp locs cells slots lsA QM hC hR1 hR2 hc1 hc2 hP hS hl hlo hso hn0 hag hret
  obtain ⟨hx, hb, hr, hml, hown, hts, hnw, hKK, hlk, hnm, hbs, hsc⟩ := id hC
  have hokA : ∀ v ∈ (2, X) :: As, okV K.length v := fun v hv => hso v (by
    rcases List.mem_cons.mp hv with rfl | h
    · simp
    · simp [h])
  have hokS : ∀ v ∈ st, okV K.length v := fun v hv => hso v (by simp [hv])
  have e0 : ((2, X) :: As).map (toV φ b) = .ref (φ X.toNat) :: As.map (toV φ b) := by rw [List.map_cons, toV_ref h0]
  have hg := good_ws hm.1
  have hws : wsM M' = Cond.code M'.1 M'.2.1 M'.2.2.1 none :: lw_good := by unfold wsM; rw [hret0]
  refine after_call (va_runI (As := As.map (toV φ b)) (rest := st.map (toV φ b)) (Ts := lw_good) (nL := M.2.2.1) ⟨hx, hb, hml, hown, hts⟩ (hM l base b D aC φ) (bytes := M'.2.1) (maxL := M'.2.2.1) (n := n) (index := i) (b := φ X.toNat)
    ⟨callB_of n hts hg hws rfl rfl (hts _ hm.2.1) (hts _ hli) hm.2.2.1 ⟨hR1, by have := hm.2.2.2; show 8 + (M'.2.2.1 + 11) + 40 * d ≤ R.locals; omega⟩, hi, hts _ hin⟩
    ⟨blindP, pre_call e0 hnw hKK hbs hS hP hokA⟩ rfl (by rw [List.length_map]; exact hn) hl.1 (by simp [toV_ref h0]) (lv_room (by rw [wid_st]; exact hst)) hd ⟨by omega, by omega⟩) kk hC hR1 hR2 (by omega) (by omega) hS hl hlo hokS hn0 hag hret
/-- a nest mate's private constructor -/
theorem r_invIN {n : Nat} {host : String} (hret0 : M'.2.2.2 = none) (hM : Call M' d mc ms ((2, X) :: As) K H Q1) (hm : MOK M' n) (hi : M'.1.name = "<init>") (hin : Cond.instanceMethod M'.1 ∈ lw_good) (hli : Cond.methodLinkNest M.1.cls i M'.1 host ∈ lw_nest) (hd : decode M.2.1 pc = .ok (.invokespecial i, 3)) (hn : As.length = n) (h0 : 0 ≤ X) (hst : wid st ≤ 8) {sti : List AV} (hsti : sti = As.reverse ++ (2, X) :: st)
    (kk : ∀ (r : Option AV) (K' : Shp) (H' : Mem), Q1 r K' H' → K.length ≤ K'.length → Fr M (d + 1) fc fs sc (pc + 3) ls (r.toList ++ st) K' H' Q) : Fr M (d + 1) (mc + fc) (ms + fs) sc pc ls sti K H Q := by
  subst hsti
  intro p l e R s m args below meth c base b D aC n0 φ0 φ Hp locs cells slots lsA QM hC hR1 hR2 hc1 hc2 hP hS hl hlo hso hn0 hag hret
  obtain ⟨hx, hb, hr, hml, hown, hts, hnw, hKK, hlk, hnm, hbs, hsc⟩ := id hC
  have hokA : ∀ v ∈ (2, X) :: As, okV K.length v := fun v hv => hso v (by
    rcases List.mem_cons.mp hv with rfl | h
    · simp
    · simp [h])
  have hokS : ∀ v ∈ st, okV K.length v := fun v hv => hso v (by simp [hv])
  have e0 : ((2, X) :: As).map (toV φ b) = .ref (φ X.toNat) :: As.map (toV φ b) := by rw [List.map_cons, toV_ref h0]
  have hcn := nest_cn (mc := mc) (ms := ms) hts hnw hm hli hR1 hR2
  rw [hret0] at hcn
  refine after_call (va_runIN (As := As.map (toV φ b)) (rest := st.map (toV φ b)) (Ts := lw_good) (nL := M.2.2.1) ⟨hx, hb, hml, hown, hts⟩ (hM l base b D aC φ) (bytes := M'.2.1) (maxL := M'.2.2.1) (n := n) (index := i) (b := φ X.toNat)
    ⟨hcn, hi, hts _ hin⟩
    ⟨blindP, pre_call e0 hnw hKK hbs hS hP hokA⟩ rfl (by rw [List.length_map]; exact hn) hl.1 (by simp [toV_ref h0]) (lv_room (by rw [wid_st]; exact hst)) hd ⟨by omega, by omega⟩) kk hC hR1 hR2 (by omega) (by omega) hS hl hlo hokS hn0 hag hret
end Calls2
