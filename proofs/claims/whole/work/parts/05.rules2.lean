/-! RULES, second part: locals, branches, fields, arrays -/
section Rules2
variable {M : MM} {d fc fs : Nat} {sc : Option (Nat × (Nat → Int))} {pc : Nat} {ls : List (Nat × AV)} {st : List AV} {K : Shp} {H : Mem} {Q : Option AV → Shp → Mem → Prop}
theorem lv_mem {φ : Nat → Nat} {b nL : Nat} {lsA : Array Slot} {ls : List (Nat × AV)} {i : Nat} {v : AV} (h : lv_has lsA nL (ls.map fun q => (q.1, toV φ b q.2))) (hm : (i, v) ∈ ls) : lsA[i]? = some (.val (toV φ b v)) :=
  h.2.2 (i, toV φ b v) (List.mem_map.mpr ⟨(i, v), hm, rfl⟩)
/-- a load: i has been read -/
theorem Fr.load {pc' i : Nat} {v : AV} (hm : (i, v) ∈ ls) (k : Fr M d fc fs sc pc' ls (v :: st) K H Q)
    (hw : ∀ {p : Program} {l : Launch} {e : Env} {R : Room} {s : State} {m : MethodId} {args : Array Value} {below : List Frame} {meth : Method} {c : Code} {Hp : Heap} {locs : List Loc} {cells slots : Nat} {QM : State → Prop} (φ : Nat → Nat) (b : Nat) (lsA : Array Slot), p.tables.exec = Jvm.exec → c.code = M.2.1 → lsA[i]? = some (.val (toV φ b v)) →
      W p l e R s m args below meth c Hp locs cells slots QM (F0 m pc' lsA (toV φ b v :: st.map (toV φ b))) → W p l e R s m args below meth c Hp locs cells slots QM (F0 m pc lsA (st.map (toV φ b)))) : Fr M d fc fs sc pc ls st K H Q := by
  intro p l e R s m args below meth c base b D aC n0 φ0 φ Hp locs cells slots lsA QM hC hR1 hR2 hc1 hc2 hP hS hl hlo hso hn hag hret
  exact hw φ b lsA hC.1 hC.2.1 (lv_mem hl hm) (k p l e R s m args below meth c base b D aC n0 φ0 φ Hp locs cells slots lsA QM hC hR1 hR2 hc1 hc2 hP hS hl hlo (ok_push (hlo _ hm) hso) hn hag hret)
theorem mem_at {α : Type} {l : List α} {j : Nat} {x : α} (h : l[j]? = some x) : x ∈ l := List.mem_of_getElem? h
theorem r_iload {i : Nat} {x : Int} (j : Nat) (hd : decode M.2.1 pc = .ok (.iload i, 2)) (hm : ls[j]? = some (i, (0, x))) (k : Fr M d fc fs sc (pc + 2) ls ((0, x) :: st) K H Q) : Fr M d fc fs sc pc ls st K H Q :=
  Fr.load (mem_at hm) k fun φ b lsA hx hb hl w => lv_iload hx hb hd hl w
theorem r_iload_n {n : Fin 4} {i : Nat} {x : Int} (j : Nat) (hd : decode M.2.1 pc = .ok (.iload_n n, 1)) (hi : (n : Nat) = i) (hm : ls[j]? = some (i, (0, x))) (k : Fr M d fc fs sc (pc + 1) ls ((0, x) :: st) K H Q) : Fr M d fc fs sc pc ls st K H Q :=
  Fr.load (mem_at hm) k fun φ b lsA hx hb hl w => lv_iload_n hx hb hd hi hl w
theorem r_lload {i : Nat} {x : Int} (j : Nat) (hd : decode M.2.1 pc = .ok (.lload i, 2)) (hm : ls[j]? = some (i, (1, x))) (k : Fr M d fc fs sc (pc + 2) ls ((1, x) :: st) K H Q) : Fr M d fc fs sc pc ls st K H Q :=
  Fr.load (mem_at hm) k fun φ b lsA hx hb hl w => lv_lload hx hb hd hl w
theorem r_lload_n {n : Fin 4} {i : Nat} {x : Int} (j : Nat) (hd : decode M.2.1 pc = .ok (.lload_n n, 1)) (hi : (n : Nat) = i) (hm : ls[j]? = some (i, (1, x))) (k : Fr M d fc fs sc (pc + 1) ls ((1, x) :: st) K H Q) : Fr M d fc fs sc pc ls st K H Q :=
  Fr.load (mem_at hm) k fun φ b lsA hx hb hl w => lv_lload_n hx hb hd hi hl w
theorem r_aload {i : Nat} {x : Int} (j : Nat) (hd : decode M.2.1 pc = .ok (.aload i, 2)) (hm : ls[j]? = some (i, (2, x))) (k : Fr M d fc fs sc (pc + 2) ls ((2, x) :: st) K H Q) : Fr M d fc fs sc pc ls st K H Q :=
  Fr.load (mem_at hm) k fun φ b lsA hx hb hl w => by
    change lsA[i]? = some (.val (rfv φ b x)) at hl
    change W _ _ _ _ _ _ _ _ _ _ _ _ _ _ _ (F0 _ _ _ (rfv φ b x :: _)) at w
    unfold rfv at hl w
    split at hl
    · rw [if_pos (by assumption)] at w; exact lv_aload hx hb hd hl w
    · rw [if_neg (by assumption)] at w
      split at hl
      · rw [if_pos (by assumption)] at w; exact lv_aloadN hx hb hd hl w
      · rw [if_neg (by assumption)] at w; exact lv_aload hx hb hd hl w
theorem r_aload_n {n : Fin 4} {i : Nat} {x : Int} (j : Nat) (hd : decode M.2.1 pc = .ok (.aload_n n, 1)) (hi : (n : Nat) = i) (hm : ls[j]? = some (i, (2, x))) (k : Fr M d fc fs sc (pc + 1) ls ((2, x) :: st) K H Q) : Fr M d fc fs sc pc ls st K H Q :=
  Fr.load (mem_at hm) k fun φ b lsA hx hb hl w => by
    change lsA[i]? = some (.val (rfv φ b x)) at hl
    change W _ _ _ _ _ _ _ _ _ _ _ _ _ _ _ (F0 _ _ _ (rfv φ b x :: _)) at w
    unfold rfv at hl w
    split at hl
    · rw [if_pos (by assumption)] at w; exact lv_aload_n hx hb hd hi hl w
    · rw [if_neg (by assumption)] at w
      split at hl
      · rw [if_pos (by assumption)] at w; exact lv_aload_nN hx hb hd hi hl w
      · rw [if_neg (by assumption)] at w; exact lv_aload_n hx hb hd hi hl w
/-- what stays of the locals behind a store at i -/
def cut1 (i : Nat) (ls : List (Nat × AV)) : List (Nat × AV) := ls.filter fun q => !(q.1 == i) && !(q.1 + 1 == i && q.2.1 == 1)
def cut2 (i : Nat) (ls : List (Nat × AV)) : List (Nat × AV) := ls.filter fun q => !(q.1 == i) && (!(q.1 == i + 1) && !(q.1 + 1 == i && q.2.1 == 1))
theorem cat2 (φ : Nat → Nat) (b : Nat) (v : AV) : ((toV φ b v).category == 2) = (v.1 == 1) := by
  rw [cat_toV]
  by_cases h : v.1 = 1
  · simp [h]
  · simp [h]
theorem cut1_eq (φ : Nat → Nat) (b i : Nat) (v : AV) (ls : List (Nat × AV)) : (i, toV φ b v) :: (ls.map fun q => (q.1, toV φ b q.2)).filter (fun q => !(q.1 == i) && !(q.1 + 1 == i && q.2.category == 2)) = ((i, v) :: cut1 i ls).map fun q => (q.1, toV φ b q.2) := by
  simp only [cut1, List.map_cons, List.filter_map, Function.comp_def, cat2]
theorem cut2_eq (φ : Nat → Nat) (b i : Nat) (v : AV) (ls : List (Nat × AV)) : (i, toV φ b v) :: (ls.map fun q => (q.1, toV φ b q.2)).filter (fun q => !(q.1 == i) && (!(q.1 == i + 1) && !(q.1 + 1 == i && q.2.category == 2))) = ((i, v) :: cut2 i ls).map fun q => (q.1, toV φ b q.2) := by
  simp only [cut2, List.map_cons, List.filter_map, Function.comp_def, cat2]
theorem Fr.store {pc' i : Nat} {v : AV} {ls' : List (Nat × AV)} (cut : Nat → List (Nat × AV) → List (Nat × AV)) (hcut : ∀ q, q ∈ cut i ls → q ∈ ls) (he : (i, v) :: cut i ls = ls') (k : Fr M d fc fs sc pc' ls' st K H Q)
    (hw : ∀ {p : Program} {l : Launch} {e : Env} {R : Room} {s : State} {m : MethodId} {args : Array Value} {below : List Frame} {meth : Method} {c : Code} {Hp : Heap} {locs : List Loc} {cells slots : Nat} {QM : State → Prop} (φ : Nat → Nat) (b : Nat) (lsA : Array Slot), p.tables.exec = Jvm.exec → c.code = M.2.1 → lv_has lsA M.2.2.1 (ls.map fun q => (q.1, toV φ b q.2)) →
      (∀ lsB : Array Slot, lv_has lsB M.2.2.1 (((i, v) :: cut i ls).map fun q => (q.1, toV φ b q.2)) → W p l e R s m args below meth c Hp locs cells slots QM (F0 m pc' lsB (st.map (toV φ b)))) → W p l e R s m args below meth c Hp locs cells slots QM (F0 m pc lsA (toV φ b v :: st.map (toV φ b)))) : Fr M d fc fs sc pc ls (v :: st) K H Q := by
  intro p l e R s m args below meth c base b D aC n0 φ0 φ Hp locs cells slots lsA QM hC hR1 hR2 hc1 hc2 hP hS hl hlo hso hn hag hret
  subst he
  exact hw φ b lsA hC.1 hC.2.1 hl fun lsB hlB => k p l e R s m args below meth c base b D aC n0 φ0 φ Hp locs cells slots lsB QM hC hR1 hR2 hc1 hc2 hP hS hlB (fun q hq => (List.mem_cons.mp hq).elim (fun e => by rw [e]; exact (ok_1 hso).1) (fun h => hlo q (hcut q h))) (ok_1 hso).2 hn hag hret
theorem cut1_in (i : Nat) (ls : List (Nat × AV)) : ∀ q, q ∈ cut1 i ls → q ∈ ls := fun _ h => (List.mem_filter.mp h).1
theorem cut2_in (i : Nat) (ls : List (Nat × AV)) : ∀ q, q ∈ cut2 i ls → q ∈ ls := fun _ h => (List.mem_filter.mp h).1
theorem r_istore {i : Nat} {x : Int} {ls' : List (Nat × AV)} (hd : decode M.2.1 pc = .ok (.istore i, 2)) (hn : i < M.2.2.1) (he : (i, (0, x)) :: cut1 i ls = ls') (k : Fr M d fc fs sc (pc + 2) ls' st K H Q) : Fr M d fc fs sc pc ls ((0, x) :: st) K H Q :=
  Fr.store cut1 (cut1_in i ls) he k fun φ b lsA hx hb hl w => lv_istore hx hb hd hl hn (cut1_eq φ b i (0, x) ls) w
theorem r_istore_n {n : Fin 4} {i : Nat} {x : Int} {ls' : List (Nat × AV)} (hd : decode M.2.1 pc = .ok (.istore_n n, 1)) (hi : (n : Nat) = i) (hn : i < M.2.2.1) (he : (i, (0, x)) :: cut1 i ls = ls') (k : Fr M d fc fs sc (pc + 1) ls' st K H Q) : Fr M d fc fs sc pc ls ((0, x) :: st) K H Q :=
  Fr.store cut1 (cut1_in i ls) he k fun φ b lsA hx hb hl w => lv_istore_n hx hb hd hi hl hn (cut1_eq φ b i (0, x) ls) w
theorem r_lstore {i : Nat} {x : Int} {ls' : List (Nat × AV)} (hd : decode M.2.1 pc = .ok (.lstore i, 2)) (hn : i + 1 < M.2.2.1) (he : (i, (1, x)) :: cut2 i ls = ls') (k : Fr M d fc fs sc (pc + 2) ls' st K H Q) : Fr M d fc fs sc pc ls ((1, x) :: st) K H Q :=
  Fr.store cut2 (cut2_in i ls) he k fun φ b lsA hx hb hl w => lv_lstore hx hb hd hl hn (cut2_eq φ b i (1, x) ls) w
theorem r_lstore_n {n : Fin 4} {i : Nat} {x : Int} {ls' : List (Nat × AV)} (hd : decode M.2.1 pc = .ok (.lstore_n n, 1)) (hi : (n : Nat) = i) (hn : i + 1 < M.2.2.1) (he : (i, (1, x)) :: cut2 i ls = ls') (k : Fr M d fc fs sc (pc + 1) ls' st K H Q) : Fr M d fc fs sc pc ls ((1, x) :: st) K H Q :=
  Fr.store cut2 (cut2_in i ls) he k fun φ b lsA hx hb hl w => lv_lstore_n hx hb hd hi hl hn (cut2_eq φ b i (1, x) ls) w
theorem r_astore {i : Nat} {x : Int} {ls' : List (Nat × AV)} (hd : decode M.2.1 pc = .ok (.astore i, 2)) (hn : i < M.2.2.1) (he : (i, (2, x)) :: cut1 i ls = ls') (k : Fr M d fc fs sc (pc + 2) ls' st K H Q) : Fr M d fc fs sc pc ls ((2, x) :: st) K H Q :=
  Fr.store cut1 (cut1_in i ls) he k fun φ b lsA hx hb hl w => by
    have e := cut1_eq φ b i (2, x) ls
    change W _ _ _ _ _ _ _ _ _ _ _ _ _ _ _ (F0 _ _ _ (rfv φ b x :: _))
    change (i, rfv φ b x) :: _ = _ at e
    unfold rfv at e ⊢
    split
    · rw [if_pos (by assumption)] at e; exact lv_astore hx hb hd hl hn e w
    · rw [if_neg (by assumption)] at e
      split
      · rw [if_pos (by assumption)] at e; exact lv_astoreN hx hb hd hl hn e w
      · rw [if_neg (by assumption)] at e; exact lv_astore hx hb hd hl hn e w
theorem r_astore_n {n : Fin 4} {i : Nat} {x : Int} {ls' : List (Nat × AV)} (hd : decode M.2.1 pc = .ok (.astore_n n, 1)) (hi : (n : Nat) = i) (hn : i < M.2.2.1) (he : (i, (2, x)) :: cut1 i ls = ls') (k : Fr M d fc fs sc (pc + 1) ls' st K H Q) : Fr M d fc fs sc pc ls ((2, x) :: st) K H Q :=
  Fr.store cut1 (cut1_in i ls) he k fun φ b lsA hx hb hl w => by
    have e := cut1_eq φ b i (2, x) ls
    change W _ _ _ _ _ _ _ _ _ _ _ _ _ _ _ (F0 _ _ _ (rfv φ b x :: _))
    change (i, rfv φ b x) :: _ = _ at e
    unfold rfv at e ⊢
    split
    · rw [if_pos (by assumption)] at e; exact lv_astore_n hx hb hd hi hl hn e w
    · rw [if_neg (by assumption)] at e
      split
      · rw [if_pos (by assumption)] at e; exact lv_astore_nN hx hb hd hi hl hn e w
      · rw [if_neg (by assumption)] at e; exact lv_astore_n hx hb hd hi hl hn e w
theorem r_iinc {i : Nat} {n x : Int} {ls' : List (Nat × AV)} (j : Nat) (hd : decode M.2.1 pc = .ok (.iinc i n, 3)) (hn : i < M.2.2.1) (hm : ls[j]? = some (i, (0, x))) (h : inI (x + n)) (he : (i, (0, x + n)) :: cut1 i ls = ls') (k : Fr M d fc fs sc (pc + 3) ls' st K H Q) : Fr M d fc fs sc pc ls st K H Q := by
  intro p l e R s m args below meth c base b D aC n0 φ0 φ Hp locs cells slots lsA QM hC hR1 hR2 hc1 hc2 hP hS hl hlo hso hn' hag hret
  subst he
  have hk : (ls.map fun q => (q.1, toV φ b q.2))[j]? = some (i, .int (Int32.ofInt x)) := by rw [List.getElem?_map, hm]; rfl
  exact lv_iinc hC.1 hC.2.1 hd hl hk (Int32.ofInt_add x n).symm hn (cut1_eq φ b i (0, x + n) ls) fun lsB hlB => k p l e R s m args below meth c base b D aC n0 φ0 φ Hp locs cells slots lsB QM hC hR1 hR2 hc1 hc2 hP hS hlB (fun q hq => (List.mem_cons.mp hq).elim (fun e => by rw [e]; exact h) (fun h => hlo q (cut1_in i ls q h))) hso hn' hag hret
/-- fewer locals, in any order -/
theorem Fr.fewer {ls' : List (Nat × AV)} (ks : List Nat) (he : ks.filterMap (fun k => ls[k]?) = ls') (k : Fr M d fc fs sc pc ls' st K H Q) : Fr M d fc fs sc pc ls st K H Q := by
  intro p l e R s m args below meth c base b D aC n0 φ0 φ Hp locs cells slots lsA QM hC hR1 hR2 hc1 hc2 hP hS hl hlo hso hn' hag hret
  have hin : ∀ q, q ∈ ls' → q ∈ ls := by
    intro q hq
    rw [← he] at hq
    obtain ⟨i, -, hi⟩ := List.mem_filterMap.mp hq
    exact List.mem_of_getElem? hi
  refine k p l e R s m args below meth c base b D aC n0 φ0 φ Hp locs cells slots lsA QM hC hR1 hR2 hc1 hc2 hP hS ⟨hl.1, hl.2.1, fun q hq => ?_⟩ (fun q hq => hlo q (hin q hq)) hso hn' hag hret
  obtain ⟨q0, h1, h2⟩ := List.mem_map.mp hq
  exact hl.2.2 q (List.mem_map.mpr ⟨q0, hin q0 h1, h2⟩)
/-- what may be taken as known of a frame's numbers -/
theorem Fr.know (k : (∀ q ∈ ls, okV K.length q.2) → Rng K H → Fr M d fc fs sc pc ls st K H Q) : Fr M d fc fs sc pc ls st K H Q := by
  intro p l e R s m args below meth c base b D aC n0 φ0 φ Hp locs cells slots lsA QM hC hR1 hR2 hc1 hc2 hP hS hl hlo hso hn' hag hret
  exact k hlo hP.2.2 p l e R s m args below meth c base b D aC n0 φ0 φ Hp locs cells slots lsA QM hC hR1 hR2 hc1 hc2 hP hS hl hlo hso hn' hag hret
/-- branches -/
theorem Fr.br {c0 : Prop} {tgt pc' : Nat} {st1 : List AV} (ho : (∀ v ∈ st1, okV K.length v) → ∀ v ∈ st, okV K.length v) (kt : c0 → Fr M d fc fs sc tgt ls st K H Q) (kf : ¬ c0 → Fr M d fc fs sc pc' ls st K H Q)
    (hw : ∀ {p : Program} {l : Launch} {e : Env} {R : Room} {s : State} {m : MethodId} {args : Array Value} {below : List Frame} {meth : Method} {c : Code} {Hp : Heap} {locs : List Loc} {cells slots : Nat} {QM : State → Prop} (φ : Nat → Nat) (b : Nat) (lsA : Array Slot), p.tables.exec = Jvm.exec → c.code = M.2.1 → (∀ v ∈ st1, okV K.length v) →
      (c0 → W p l e R s m args below meth c Hp locs cells slots QM (F0 m tgt lsA (st.map (toV φ b)))) → (¬ c0 → W p l e R s m args below meth c Hp locs cells slots QM (F0 m pc' lsA (st.map (toV φ b)))) → W p l e R s m args below meth c Hp locs cells slots QM (F0 m pc lsA (st1.map (toV φ b)))) : Fr M d fc fs sc pc ls st1 K H Q := by
  intro p l e R s m args below meth c base b D aC n0 φ0 φ Hp locs cells slots lsA QM hC hR1 hR2 hc1 hc2 hP hS hl hlo hso hn hag hret
  exact hw φ b lsA hC.1 hC.2.1 hso (fun h => kt h p l e R s m args below meth c base b D aC n0 φ0 φ Hp locs cells slots lsA QM hC hR1 hR2 hc1 hc2 hP hS hl hlo (ho hso) hn hag hret) (fun h => kf h p l e R s m args below meth c base b D aC n0 φ0 φ Hp locs cells slots lsA QM hC hR1 hR2 hc1 hc2 hP hS hl hlo (ho hso) hn hag hret)
theorem r_icmp_eq {x y off : Int} {tgt : Nat} (hd : decode M.2.1 pc = .ok (.if_icmp .eq off, 3)) (ht : (pc : Int) + off = (tgt : Int)) (kt : x = y → Fr M d fc fs sc tgt ls st K H Q) (kf : ¬ x = y → Fr M d fc fs sc (pc + 3) ls st K H Q) : Fr M d fc fs sc pc ls ((0, y) :: (0, x) :: st) K H Q :=
  Fr.br (fun o => (ok_2 o).2.2) kt kf fun φ b lsA hx hb o wt wf => lv_icmp_eq hx hb hd ht (fun h => wt ((i_eq (ok_2 o).2.1 (ok_2 o).1).mp h)) (fun h => wf (fun q => h ((i_eq (ok_2 o).2.1 (ok_2 o).1).mpr q)))
theorem r_icmp_ne {x y off : Int} {tgt : Nat} (hd : decode M.2.1 pc = .ok (.if_icmp .ne off, 3)) (ht : (pc : Int) + off = (tgt : Int)) (kt : ¬ x = y → Fr M d fc fs sc tgt ls st K H Q) (kf : x = y → Fr M d fc fs sc (pc + 3) ls st K H Q) : Fr M d fc fs sc pc ls ((0, y) :: (0, x) :: st) K H Q :=
  Fr.br (c0 := ¬ x = y) (fun o => (ok_2 o).2.2) kt (fun h => kf (Classical.not_not.mp h)) fun φ b lsA hx hb o wt wf => lv_icmp_ne hx hb hd ht (fun h => wt (fun q => h ((i_eq (ok_2 o).2.1 (ok_2 o).1).mpr q))) (fun h => wf (fun q => q ((i_eq (ok_2 o).2.1 (ok_2 o).1).mp h)))
theorem r_icmp_lt {x y off : Int} {tgt : Nat} (hd : decode M.2.1 pc = .ok (.if_icmp .lt off, 3)) (ht : (pc : Int) + off = (tgt : Int)) (kt : x < y → Fr M d fc fs sc tgt ls st K H Q) (kf : ¬ x < y → Fr M d fc fs sc (pc + 3) ls st K H Q) : Fr M d fc fs sc pc ls ((0, y) :: (0, x) :: st) K H Q :=
  Fr.br (fun o => (ok_2 o).2.2) kt kf fun φ b lsA hx hb o wt wf => lv_icmp_lt hx hb hd ht (fun h => wt ((i_lt (ok_2 o).2.1 (ok_2 o).1).mp h)) (fun h => wf (fun q => h ((i_lt (ok_2 o).2.1 (ok_2 o).1).mpr q)))
theorem r_icmp_ge {x y off : Int} {tgt : Nat} (hd : decode M.2.1 pc = .ok (.if_icmp .ge off, 3)) (ht : (pc : Int) + off = (tgt : Int)) (kt : ¬ x < y → Fr M d fc fs sc tgt ls st K H Q) (kf : x < y → Fr M d fc fs sc (pc + 3) ls st K H Q) : Fr M d fc fs sc pc ls ((0, y) :: (0, x) :: st) K H Q :=
  Fr.br (c0 := y ≤ x) (fun o => (ok_2 o).2.2) (fun h => kt (Int.not_lt.mpr h)) (fun h => kf (Int.not_le.mp h)) fun φ b lsA hx hb o wt wf => lv_icmp_ge hx hb hd ht (fun h => wt ((i_le (ok_2 o).1 (ok_2 o).2.1).mp h)) (fun h => wf (fun q => h ((i_le (ok_2 o).1 (ok_2 o).2.1).mpr q)))
theorem r_icmp_gt {x y off : Int} {tgt : Nat} (hd : decode M.2.1 pc = .ok (.if_icmp .gt off, 3)) (ht : (pc : Int) + off = (tgt : Int)) (kt : ¬ x ≤ y → Fr M d fc fs sc tgt ls st K H Q) (kf : x ≤ y → Fr M d fc fs sc (pc + 3) ls st K H Q) : Fr M d fc fs sc pc ls ((0, y) :: (0, x) :: st) K H Q :=
  Fr.br (c0 := y < x) (fun o => (ok_2 o).2.2) (fun h => kt (Int.not_le.mpr h)) (fun h => kf (Int.not_lt.mp h)) fun φ b lsA hx hb o wt wf => lv_icmp_gt hx hb hd ht (fun h => wt ((i_lt (ok_2 o).1 (ok_2 o).2.1).mp h)) (fun h => wf (fun q => h ((i_lt (ok_2 o).1 (ok_2 o).2.1).mpr q)))
theorem r_icmp_le {x y off : Int} {tgt : Nat} (hd : decode M.2.1 pc = .ok (.if_icmp .le off, 3)) (ht : (pc : Int) + off = (tgt : Int)) (kt : x ≤ y → Fr M d fc fs sc tgt ls st K H Q) (kf : ¬ x ≤ y → Fr M d fc fs sc (pc + 3) ls st K H Q) : Fr M d fc fs sc pc ls ((0, y) :: (0, x) :: st) K H Q :=
  Fr.br (fun o => (ok_2 o).2.2) kt kf fun φ b lsA hx hb o wt wf => lv_icmp_le hx hb hd ht (fun h => wt ((i_le (ok_2 o).2.1 (ok_2 o).1).mp h)) (fun h => wf (fun q => h ((i_le (ok_2 o).2.1 (ok_2 o).1).mpr q)))
theorem r_if_eq {x off : Int} {tgt : Nat} (hd : decode M.2.1 pc = .ok (.ifCond .eq off, 3)) (ht : (pc : Int) + off = (tgt : Int)) (kt : x = 0 → Fr M d fc fs sc tgt ls st K H Q) (kf : ¬ x = 0 → Fr M d fc fs sc (pc + 3) ls st K H Q) : Fr M d fc fs sc pc ls ((0, x) :: st) K H Q :=
  Fr.br (fun o => (ok_1 o).2) kt kf fun φ b lsA hx hb o wt wf => lv_if_eq hx hb hd ht (fun h => wt ((i_eq (ok_1 o).1 i_zero).mp h)) (fun h => wf (fun q => h ((i_eq (ok_1 o).1 i_zero).mpr q)))
theorem r_if_ne {x off : Int} {tgt : Nat} (hd : decode M.2.1 pc = .ok (.ifCond .ne off, 3)) (ht : (pc : Int) + off = (tgt : Int)) (kt : ¬ x = 0 → Fr M d fc fs sc tgt ls st K H Q) (kf : x = 0 → Fr M d fc fs sc (pc + 3) ls st K H Q) : Fr M d fc fs sc pc ls ((0, x) :: st) K H Q :=
  Fr.br (c0 := ¬ x = 0) (fun o => (ok_1 o).2) kt (fun h => kf (Classical.not_not.mp h)) fun φ b lsA hx hb o wt wf => lv_if_ne hx hb hd ht (fun h => wt (fun q => h ((i_eq (ok_1 o).1 i_zero).mpr q))) (fun h => wf (fun q => q ((i_eq (ok_1 o).1 i_zero).mp h)))
theorem r_if_lt {x off : Int} {tgt : Nat} (hd : decode M.2.1 pc = .ok (.ifCond .lt off, 3)) (ht : (pc : Int) + off = (tgt : Int)) (kt : x < 0 → Fr M d fc fs sc tgt ls st K H Q) (kf : ¬ x < 0 → Fr M d fc fs sc (pc + 3) ls st K H Q) : Fr M d fc fs sc pc ls ((0, x) :: st) K H Q :=
  Fr.br (fun o => (ok_1 o).2) kt kf fun φ b lsA hx hb o wt wf => lv_if_lt hx hb hd ht (fun h => wt ((i_lt (ok_1 o).1 i_zero).mp h)) (fun h => wf (fun q => h ((i_lt (ok_1 o).1 i_zero).mpr q)))
theorem r_if_ge {x off : Int} {tgt : Nat} (hd : decode M.2.1 pc = .ok (.ifCond .ge off, 3)) (ht : (pc : Int) + off = (tgt : Int)) (kt : ¬ x < 0 → Fr M d fc fs sc tgt ls st K H Q) (kf : x < 0 → Fr M d fc fs sc (pc + 3) ls st K H Q) : Fr M d fc fs sc pc ls ((0, x) :: st) K H Q :=
  Fr.br (c0 := 0 ≤ x) (fun o => (ok_1 o).2) (fun h => kt (Int.not_lt.mpr h)) (fun h => kf (Int.not_le.mp h)) fun φ b lsA hx hb o wt wf => lv_if_ge hx hb hd ht (fun h => wt ((i_le i_zero (ok_1 o).1).mp h)) (fun h => wf (fun q => h ((i_le i_zero (ok_1 o).1).mpr q)))
theorem r_if_gt {x off : Int} {tgt : Nat} (hd : decode M.2.1 pc = .ok (.ifCond .gt off, 3)) (ht : (pc : Int) + off = (tgt : Int)) (kt : ¬ x ≤ 0 → Fr M d fc fs sc tgt ls st K H Q) (kf : x ≤ 0 → Fr M d fc fs sc (pc + 3) ls st K H Q) : Fr M d fc fs sc pc ls ((0, x) :: st) K H Q :=
  Fr.br (c0 := 0 < x) (fun o => (ok_1 o).2) (fun h => kt (Int.not_le.mpr h)) (fun h => kf (Int.not_lt.mp h)) fun φ b lsA hx hb o wt wf => lv_if_gt hx hb hd ht (fun h => wt ((i_lt i_zero (ok_1 o).1).mp h)) (fun h => wf (fun q => h ((i_lt i_zero (ok_1 o).1).mpr q)))
theorem r_if_le {x off : Int} {tgt : Nat} (hd : decode M.2.1 pc = .ok (.ifCond .le off, 3)) (ht : (pc : Int) + off = (tgt : Int)) (kt : x ≤ 0 → Fr M d fc fs sc tgt ls st K H Q) (kf : ¬ x ≤ 0 → Fr M d fc fs sc (pc + 3) ls st K H Q) : Fr M d fc fs sc pc ls ((0, x) :: st) K H Q :=
  Fr.br (fun o => (ok_1 o).2) kt kf fun φ b lsA hx hb o wt wf => lv_if_le hx hb hd ht (fun h => wt ((i_le (ok_1 o).1 i_zero).mp h)) (fun h => wf (fun q => h ((i_le (ok_1 o).1 i_zero).mpr q)))
/-- a compare of longs: -1, 0, 1 -/
def cmpL (x y : Int) : Int := if y < x then 1 else if x = y then 0 else -1
theorem cmpL_in (x y : Int) : inI (cmpL x y) := by unfold cmpL inI; split <;> (try split) <;> omega
theorem cmpL_lt {x y : Int} : cmpL x y < 0 ↔ x < y := by unfold cmpL; split <;> (try split) <;> omega
theorem cmpL_le {x y : Int} : cmpL x y ≤ 0 ↔ x ≤ y := by unfold cmpL; split <;> (try split) <;> omega
theorem cmpL_eq {x y : Int} : cmpL x y = 0 ↔ x = y := by unfold cmpL; split <;> (try split) <;> omega
theorem rb_cmp_eq {x y : Int} (hx : inL x) (hy : inL y) : lg_cmp (Int64.ofInt x) (Int64.ofInt y) = Int32.ofInt (cmpL x y) := by
  unfold lg_cmp cmpL
  by_cases h1 : y < x
  · have := (l_lt hy hx).mpr h1
    simp [h1, this]; try rfl
  · have h1' : ¬ Int64.ofInt y < Int64.ofInt x := fun q => h1 ((l_lt hy hx).mp q)
    by_cases h2 : x = y
    · subst h2
      simp [h1']; try rfl
    · have h2' : ¬ Int64.ofInt x = Int64.ofInt y := fun q => h2 ((l_eq hx hy).mp q)
      simp [h1, h1', h2, h2']; try rfl
theorem r_lcmp {x y : Int} (hd : decode M.2.1 pc = .ok (.lcmp, 1)) (k : Fr M d fc fs sc (pc + 1) ls ((0, cmpL x y) :: st) K H Q) : Fr M d fc fs sc pc ls ((1, y) :: (1, x) :: st) K H Q :=
  Fr.pure k (fun o => ok_push (cmpL_in x y) (ok_2 o).2.2) (fun φ b lsA hx hb _ _ o w => W.lcmp hx hb hd (by
    rw [rb_cmp_eq (ok_2 o).2.1 (ok_2 o).1]; exact w))
end Rules2
