section RN
variable {l : Launch} {E : eE} {d a b : Nat} {y : MethodName} {cc : ByteArray} {nL : Nat} {ret : Option FieldType} {pc : Nat} {ls : List (Nat × vV)} {st : List vV} {h : hP} {Q : Option vV → hP → Prop}
theorem rS_map (r : Option vV) (st : List vV) : (r.map (eV E)).toList ++ st.map (eV E) = (r.toList ++ st).map (eV E) := by cases r <;> rfl
theorem lg_len (vs : List vV) (n : Nat) (h : (vs.map (fun v => match v with | .inr (.inl _) => 2 | _ => 1)).sum ≤ n) : (lg_sl (vs.map (eV E))).length ≤ n := by
  suffices hh : (lg_sl (vs.map (eV E))).length = (vs.map (fun v => match v with | .inr (.inl _) => 2 | _ => 1)).sum by omega
  clear h
  induction vs with
  | nil => rfl
  | cons v vs ih =>
    have e : lg_sl ((v :: vs).map (eV E)) = (if (eV E v).category = 2 then [Slot.val (eV E v), .second] else [.val (eV E v)]) ++ lg_sl (vs.map (eV E)) := by
      simp [lg_sl]
    rw [e, List.length_append, ih, List.map_cons, List.sum_cons]
    congr 1
    rcases v with x | x | k
    · rfl
    · rfl
    · show (if (eR E k).category = 2 then _ else _ : List Slot).length = 1
      rw [if_neg (by rw [eR_cat]; decide)]; rfl
/-- a contract out of a walk, also for a class that has natives -/
theorem met_w {ws ws' : List Cond} {rm : Room} {Pc : Array Value → State → Prop} {Qc : Array Value → State → Outcome → State → Prop} {mc ms : Nat} {free : Addr → Prop} {cw : ByteArray} {maxL : Nat} {rt : Option FieldType}
    (hy : plainFor y = true) (hw : ws = Cond.code y cw maxL rt :: ws')
    (body : ∀ p e s m args below meth c s₁, BodyLoose p l y (headSpec ws rm) cw maxL rt e s m args below meth c s₁ → c.maxLocals = maxL → Pc args s → W p l e (headSpec ws rm).room s m args below meth c s.heap [] 0 0 (MQ below Qc args s mc ms free) (entryFrame m args maxL)) : Met l y ws rm Pc Qc mc ms free := by
  refine MetFree.of_bodySF (code := cw) (maxLocals := maxL) (ret := rt) hy (fun args s m h hn => ?_) (fun p e s m args below meth c s₁ B hml hP _ => ?_)
  · obtain ⟨meth, c, h1, h2, h3, h4, h5, h6, -, -⟩ := Cond.code_spec hn (atoms_spec (ws := ws) h _ (by rw [hw]; exact List.mem_cons_self))
    exact ⟨meth, c, h1, h2, h3, h4, h5, h6⟩
  · have hh : s₁.heap = s.heap := by rw [B.state]; rfl
    obtain ⟨t, a1, o, b1, b2, b3⟩ := body p e s m args below meth c s₁ B hml hP s₁ hh (Stand.of_body B)
    exact ⟨t, o, a1, b1, b2, ⟨b3.1, b3.2⟩⟩
theorem ct_of_rn {as : List vV} (hy : plainFor y = true) (hn : (as.map (fun v => match v with | .inr (.inl _) => 2 | _ => 1)).sum ≤ nL) (k : rn l E d a b y cc nL ret 0 (aL 0 as) [] h Q) : ct l E d a b y cc nL ret as h Q := by
  refine met_w (cw := cc) (maxL := nL) (rt := ret) hy rfl ?_
  intro p e s m args below meth c s₁ B hml hv
  obtain ⟨rfl, hw, hSt⟩ := hv
  have hts := atoms_spec (ws := .code y cc nL ret :: allw) B.pre
  have hown : s.vm.findClass y.cls = some m.cls := findClass_of_methodNamed B.named
  have hlocks := B.notSynchronized
  have hl := lv_entry (as.map (eV E)) (n := nL) (lg_len as nL hn)
  rw [← aL_args] at hl
  rw [lg_entry_eq]
  refine k p e _ s m _ below meth c a b _ ⟨B.exec, B.bytes, hml, hown, fun w hw => hts w (List.mem_cons_of_mem _ hw), hlocks, (name_of_methodNamed B.named B.method).1, hSt, Nat.le_refl _, Nat.le_refl _, rfl, rfl, ?_⟩ s.heap [] 0 0 _ hw (fun _ h => by cases h) (by omega) (by omega) hl
  intro r h' pc' arr' H' locs' cells' slots' hq hr hw' hlo hc hs
  refine W.widen hc hs ?_
  have hrt := B.returns
  rcases hr with ⟨rfl, rfl, hd⟩ | ⟨v, ty, rfl, rfl, hn, hd⟩ | ⟨k0, n, rfl, rfl, hd⟩
  · exact W.vret B.exec B.bytes hrt (fun t ht _ => ⟨none, h', hq, rfl, by rw [ht]; exact hw'⟩) hlo hd
  · exact W.zret B.exec B.bytes hrt hn (fun t ht _ => ⟨some (.inl v), h', hq, rfl, by rw [ht]; exact hw'⟩) hlo hd
  · refine W.aret (v := eR E k0) B.exec B.bytes hrt (Or.inl ⟨n, rfl⟩) ?_ (fun t ht _ => ⟨some (.inr (.inr k0)), h', hq, rfl, by rw [ht]; exact hw'⟩) hlo hd
    unfold eR
    cases eA E k0 with
    | none => exact Or.inl rfl
    | some q => exact Or.inr ⟨q, rfl⟩
theorem rn_weaken {Q' : Option vV → hP → Prop} (hQ : ∀ r h', Q' r h' → Q r h') (k : rn l E d a b y cc nL ret pc ls st h Q') : rn l E d a b y cc nL ret pc ls st h Q := by
  intro p e R s m args below meth c mc ms Z C H locs cells slots arr hw hlo hc hs hl
  obtain ⟨c1, c2, c3, c4, c5, c6, c7, c8, c9, c10, c11, c12, hZ⟩ := C
  exact k p e R s m args below meth c mc ms Z ⟨c1, c2, c3, c4, c5, c6, c7, c8, c9, c10, c11, c12, fun r h' pc' arr' H' locs' cells' slots' q => hZ r h' pc' arr' H' locs' cells' slots' (hQ r h' q)⟩ H locs cells slots arr hw hlo hc hs hl
theorem rn_ret {v : Int32} (hq : Q (some (.inl v)) h) (ty : FieldType) (hr : ret = some ty) (hn : narrow ty (.int v) = .int v) (hd : decode cc pc = .ok (.ireturn, 1)) : rn l E d a b y cc nL ret pc ls [.inl v] h Q := by
  intro p e R s m args below meth c mc ms Z C H locs cells slots arr hw hlo hc hs hl
  exact C.2.2.2.2.2.2.2.2.2.2.2.2 (some (.inl v)) h pc arr H locs cells slots hq (Or.inr (Or.inl ⟨v, ty, rfl, hr, hn, hd⟩)) hw hlo (by omega) (by omega)
theorem rn_retv (hq : Q none h) (hr : ret = none) (hd : decode cc pc = .ok (.return_, 1)) : rn l E d a b y cc nL ret pc ls [] h Q := by
  intro p e R s m args below meth c mc ms Z C H locs cells slots arr hw hlo hc hs hl
  exact C.2.2.2.2.2.2.2.2.2.2.2.2 none h pc arr H locs cells slots hq (Or.inl ⟨rfl, hr, hd⟩) hw hlo (by omega) (by omega)
theorem rn_retr {k : Nat} (hq : Q (some (.inr (.inr k))) h) (n : String) (hr : ret = some (.object n)) (hd : decode cc pc = .ok (.areturn, 1)) : rn l E d a b y cc nL ret pc ls [.inr (.inr k)] h Q := by
  intro p e R s m args below meth c mc ms Z C H locs cells slots arr hw hlo hc hs hl
  exact C.2.2.2.2.2.2.2.2.2.2.2.2 (some (.inr (.inr k))) h pc arr H locs cells slots hq (Or.inr (Or.inr ⟨k, n, rfl, hr, hd⟩)) hw hlo (by omega) (by omega)
/-- fewer locals, in another order -/
theorem rn_sub {ls' : List (Nat × vV)} (ks : List Nat) (hk : ks.filterMap (fun k => ls[k]?) = ls') (k : rn l E d a b y cc nL ret pc ls' st h Q) : rn l E d a b y cc nL ret pc ls st h Q := by
  intro p e R s m args below meth c mc ms Z C H locs cells slots arr hw hlo hc hs hl
  refine k p e R s m args below meth c mc ms Z C H locs cells slots arr hw hlo hc hs (lv_sub hl ks ?_)
  rw [← hk]
  unfold lv_pick eL
  rw [List.map_filterMap]
  congr 1
  funext i
  rw [List.getElem?_map]
theorem eL_get {i : Nat} {v : vV} (k : Nat) (hk : ls[k]? = some (i, v)) : (eL E ls)[k]? = some (i, eV E v) := by
  unfold eL
  rw [List.getElem?_map, hk]; rfl

theorem rn_iconst {n : Int} {v : Int32} (hv : Int32.ofInt n = v) (hd : decode cc pc = .ok (.iconst n, 1)) (k : rn l E d a b y cc nL ret (pc + 1) ls (.inl v :: st) h Q) : rn l E d a b y cc nL ret pc ls (st) h Q := by
  intro p e R s m args below meth c mc ms Z C H locs cells slots arr hw hlo hc hs hl
  exact lv_iconst C.1 C.2.1 hd hv (k p e R s m args below meth c mc ms Z C H locs cells slots arr hw hlo hc hs hl)

theorem rn_bipush {n : Int} {v : Int32} (hv : (Int8.ofInt n).toInt32 = v) (hd : decode cc pc = .ok (.bipush n, 2)) (k : rn l E d a b y cc nL ret (pc + 2) ls (.inl v :: st) h Q) : rn l E d a b y cc nL ret pc ls (st) h Q := by
  intro p e R s m args below meth c mc ms Z C H locs cells slots arr hw hlo hc hs hl
  exact lv_bipush C.1 C.2.1 hd hv (k p e R s m args below meth c mc ms Z C H locs cells slots arr hw hlo hc hs hl)

theorem rn_sipush {n : Int} {v : Int32} (hv : (Int16.ofInt n).toInt32 = v) (hd : decode cc pc = .ok (.sipush n, 3)) (k : rn l E d a b y cc nL ret (pc + 3) ls (.inl v :: st) h Q) : rn l E d a b y cc nL ret pc ls (st) h Q := by
  intro p e R s m args below meth c mc ms Z C H locs cells slots arr hw hlo hc hs hl
  exact lv_sipush C.1 C.2.1 hd hv (k p e R s m args below meth c mc ms Z C H locs cells slots arr hw hlo hc hs hl)

theorem rn_lconst {n : Fin 2} {v : Int64} (hv : Int64.ofNat (n : Nat) = v) (hd : decode cc pc = .ok (.lconst n, 1)) (k : rn l E d a b y cc nL ret (pc + 1) ls (.inr (.inl v) :: st) h Q) : rn l E d a b y cc nL ret pc ls (st) h Q := by
  intro p e R s m args below meth c mc ms Z C H locs cells slots arr hw hlo hc hs hl
  exact lv_lconst C.1 C.2.1 hd hv (k p e R s m args below meth c mc ms Z C H locs cells slots arr hw hlo hc hs hl)

theorem rn_iload_n {i : Fin 4} {j : Nat} {x : Int32} (w : Nat) (hi : (i : Nat) = j) (hk : ls[w]? = some (j, .inl x)) (hd : decode cc pc = .ok (.iload_n i, 1)) (k : rn l E d a b y cc nL ret (pc + 1) ls (.inl x :: st) h Q) : rn l E d a b y cc nL ret pc ls (st) h Q := by
  intro p e R s m args below meth c mc ms Z C H locs cells slots arr hw hlo hc hs hl
  exact lv_iload_n C.1 C.2.1 hd hi (lv_at hl w (eL_get w hk)) (k p e R s m args below meth c mc ms Z C H locs cells slots arr hw hlo hc hs hl)

theorem rn_iload {j : Nat} {x : Int32} (w : Nat) (hk : ls[w]? = some (j, .inl x)) (hd : decode cc pc = .ok (.iload j, 2)) (k : rn l E d a b y cc nL ret (pc + 2) ls (.inl x :: st) h Q) : rn l E d a b y cc nL ret pc ls (st) h Q := by
  intro p e R s m args below meth c mc ms Z C H locs cells slots arr hw hlo hc hs hl
  exact lv_iload C.1 C.2.1 hd (lv_at hl w (eL_get w hk)) (k p e R s m args below meth c mc ms Z C H locs cells slots arr hw hlo hc hs hl)

theorem rn_lload_n {i : Fin 4} {j : Nat} {x : Int64} (w : Nat) (hi : (i : Nat) = j) (hk : ls[w]? = some (j, .inr (.inl x))) (hd : decode cc pc = .ok (.lload_n i, 1)) (k : rn l E d a b y cc nL ret (pc + 1) ls (.inr (.inl x) :: st) h Q) : rn l E d a b y cc nL ret pc ls (st) h Q := by
  intro p e R s m args below meth c mc ms Z C H locs cells slots arr hw hlo hc hs hl
  exact lv_lload_n C.1 C.2.1 hd hi (lv_at hl w (eL_get w hk)) (k p e R s m args below meth c mc ms Z C H locs cells slots arr hw hlo hc hs hl)

theorem rn_lload {j : Nat} {x : Int64} (w : Nat) (hk : ls[w]? = some (j, .inr (.inl x))) (hd : decode cc pc = .ok (.lload j, 2)) (k : rn l E d a b y cc nL ret (pc + 2) ls (.inr (.inl x) :: st) h Q) : rn l E d a b y cc nL ret pc ls (st) h Q := by
  intro p e R s m args below meth c mc ms Z C H locs cells slots arr hw hlo hc hs hl
  exact lv_lload C.1 C.2.1 hd (lv_at hl w (eL_get w hk)) (k p e R s m args below meth c mc ms Z C H locs cells slots arr hw hlo hc hs hl)

theorem eR_at (E : eE) {k : Nat} (hk : k ≠ 0) : ∃ q, eR E k = .ref q := by
  unfold eR eA
  rw [if_neg hk]
  split <;> exact ⟨_, rfl⟩
theorem rn_aload_n {i : Fin 4} {j q : Nat} (w : Nat) (hi : (i : Nat) = j) (hk : ls[w]? = some (j, .inr (.inr q))) (hq : q ≠ 0) (hd : decode cc pc = .ok (.aload_n i, 1)) (k : rn l E d a b y cc nL ret (pc + 1) ls (.inr (.inr q) :: st) h Q) : rn l E d a b y cc nL ret pc ls st h Q := by
  intro p e R s m args below meth c mc ms Z C H locs cells slots arr hw hlo hc hs hl
  have k1 := k p e R s m args below meth c mc ms Z C H locs cells slots arr hw hlo hc hs hl
  have e1 := lv_at hl w (eL_get w hk)
  obtain ⟨z, hz⟩ := eR_at E hq
  have e0 : (Sum.inr (Sum.inr q) :: st : List vV).map (eV E) = .ref z :: st.map (eV E) := by rw [← hz]; rfl
  rw [e0] at k1
  rw [show eV E (.inr (.inr q)) = .ref z from hz] at e1
  exact lv_aload_n C.1 C.2.1 hd hi e1 k1
theorem rn_aload {j q : Nat} (w : Nat) (hk : ls[w]? = some (j, .inr (.inr q))) (hq : q ≠ 0) (hd : decode cc pc = .ok (.aload j, 2)) (k : rn l E d a b y cc nL ret (pc + 2) ls (.inr (.inr q) :: st) h Q) : rn l E d a b y cc nL ret pc ls st h Q := by
  intro p e R s m args below meth c mc ms Z C H locs cells slots arr hw hlo hc hs hl
  have k1 := k p e R s m args below meth c mc ms Z C H locs cells slots arr hw hlo hc hs hl
  have e1 := lv_at hl w (eL_get w hk)
  obtain ⟨z, hz⟩ := eR_at E hq
  have e0 : (Sum.inr (Sum.inr q) :: st : List vV).map (eV E) = .ref z :: st.map (eV E) := by rw [← hz]; rfl
  rw [e0] at k1
  rw [show eV E (.inr (.inr q)) = .ref z from hz] at e1
  exact lv_aload C.1 C.2.1 hd e1 k1
def lF1 (i : Nat) (ls : List (Nat × vV)) : List (Nat × vV) := ls.filter (fun q => !(q.1 == i) && !(q.1 + 1 == i && (match q.2 with | .inr (.inl _) => true | _ => false)))
def lF2 (i : Nat) (ls : List (Nat × vV)) : List (Nat × vV) := ls.filter (fun q => !(q.1 == i) && (!(q.1 == i + 1) && !(q.1 + 1 == i && (match q.2 with | .inr (.inl _) => true | _ => false))))
theorem cat_b (E : eE) (v : vV) : ((eV E v).category == 2) = (match v with | .inr (.inl _) => true | _ => false) := by
  rcases v with x | x | k
  · rfl
  · rfl
  · show ((eR E k).category == 2) = false
    rw [eR_cat]; rfl
theorem lF1_e (i : Nat) (v : vV) : (i, eV E v) :: (eL E ls).filter (fun q => !(q.1 == i) && !(q.1 + 1 == i && q.2.category == 2)) = eL E ((i, v) :: lF1 i ls) := by
  unfold eL lF1
  rw [List.map_cons, List.filter_map]
  congr 2
  apply List.filter_congr
  intro q _
  simp only [Function.comp_apply, cat_b]
theorem lF2_e (i : Nat) (v : vV) : (i, eV E v) :: (eL E ls).filter (fun q => !(q.1 == i) && (!(q.1 == i + 1) && !(q.1 + 1 == i && q.2.category == 2))) = eL E ((i, v) :: lF2 i ls) := by
  unfold eL lF2
  rw [List.map_cons, List.filter_map]
  congr 2
  apply List.filter_congr
  intro q _
  simp only [Function.comp_apply, cat_b]

theorem rn_istore_n {i : Fin 4} {j : Nat} {x : Int32} {ls' : List (Nat × vV)} (hi : (i : Nat) = j) (hn : j < nL) (hl' : (j, .inl x) :: lF1 j ls = ls') (hd : decode cc pc = .ok (.istore_n i, 1)) (k : rn l E d a b y cc nL ret (pc + 1) ls' st h Q) : rn l E d a b y cc nL ret pc ls (.inl x :: st) h Q := by
  intro p e R s m args below meth c mc ms Z C H locs cells slots arr hw hlo hc hs hl
  exact lv_istore_n C.1 C.2.1 hd hi hl hn ((lF1_e j (.inl x)).trans (by rw [hl'])) (fun arr hl => (k p e R s m args below meth c mc ms Z C H locs cells slots arr hw hlo hc hs hl))

theorem rn_istore {j : Nat} {x : Int32} {ls' : List (Nat × vV)} (hn : j < nL) (hl' : (j, .inl x) :: lF1 j ls = ls') (hd : decode cc pc = .ok (.istore j, 2)) (k : rn l E d a b y cc nL ret (pc + 2) ls' st h Q) : rn l E d a b y cc nL ret pc ls (.inl x :: st) h Q := by
  intro p e R s m args below meth c mc ms Z C H locs cells slots arr hw hlo hc hs hl
  exact lv_istore C.1 C.2.1 hd hl hn ((lF1_e j (.inl x)).trans (by rw [hl'])) (fun arr hl => (k p e R s m args below meth c mc ms Z C H locs cells slots arr hw hlo hc hs hl))

theorem rn_lstore_n {i : Fin 4} {j : Nat} {x : Int64} {ls' : List (Nat × vV)} (hi : (i : Nat) = j) (hn : j + 1 < nL) (hl' : (j, .inr (.inl x)) :: lF2 j ls = ls') (hd : decode cc pc = .ok (.lstore_n i, 1)) (k : rn l E d a b y cc nL ret (pc + 1) ls' st h Q) : rn l E d a b y cc nL ret pc ls (.inr (.inl x) :: st) h Q := by
  intro p e R s m args below meth c mc ms Z C H locs cells slots arr hw hlo hc hs hl
  exact lv_lstore_n C.1 C.2.1 hd hi hl hn ((lF2_e j (.inr (.inl x))).trans (by rw [hl'])) (fun arr hl => (k p e R s m args below meth c mc ms Z C H locs cells slots arr hw hlo hc hs hl))

theorem rn_lstore {j : Nat} {x : Int64} {ls' : List (Nat × vV)} (hn : j + 1 < nL) (hl' : (j, .inr (.inl x)) :: lF2 j ls = ls') (hd : decode cc pc = .ok (.lstore j, 2)) (k : rn l E d a b y cc nL ret (pc + 2) ls' st h Q) : rn l E d a b y cc nL ret pc ls (.inr (.inl x) :: st) h Q := by
  intro p e R s m args below meth c mc ms Z C H locs cells slots arr hw hlo hc hs hl
  exact lv_lstore C.1 C.2.1 hd hl hn ((lF2_e j (.inr (.inl x))).trans (by rw [hl'])) (fun arr hl => (k p e R s m args below meth c mc ms Z C H locs cells slots arr hw hlo hc hs hl))

theorem rn_astore_n {i : Fin 4} {j q : Nat} {ls' : List (Nat × vV)} (hi : (i : Nat) = j) (hn : j < nL) (hq : q ≠ 0) (hl' : (j, .inr (.inr q)) :: lF1 j ls = ls') (hd : decode cc pc = .ok (.astore_n i, 1)) (k : rn l E d a b y cc nL ret (pc + 1) ls' st h Q) : rn l E d a b y cc nL ret pc ls (.inr (.inr q) :: st) h Q := by
  intro p e R s m args below meth c mc ms Z C H locs cells slots arr hw hlo hc hs hl
  obtain ⟨z, hz⟩ := eR_at E hq
  have e0 : (Sum.inr (Sum.inr q) :: st : List vV).map (eV E) = .ref z :: st.map (eV E) := by rw [← hz]; rfl
  rw [e0]
  have e1 := lF1_e (E := E) (ls := ls) j (.inr (.inr q))
  rw [hl', show eV E (.inr (.inr q)) = .ref z from hz] at e1
  exact lv_astore_n C.1 C.2.1 hd hi hl hn e1 (fun arr hl => k p e R s m args below meth c mc ms Z C H locs cells slots arr hw hlo hc hs hl)
theorem rn_astore {j q : Nat} {ls' : List (Nat × vV)} (hn : j < nL) (hq : q ≠ 0) (hl' : (j, .inr (.inr q)) :: lF1 j ls = ls') (hd : decode cc pc = .ok (.astore j, 2)) (k : rn l E d a b y cc nL ret (pc + 2) ls' st h Q) : rn l E d a b y cc nL ret pc ls (.inr (.inr q) :: st) h Q := by
  intro p e R s m args below meth c mc ms Z C H locs cells slots arr hw hlo hc hs hl
  obtain ⟨z, hz⟩ := eR_at E hq
  have e0 : (Sum.inr (Sum.inr q) :: st : List vV).map (eV E) = .ref z :: st.map (eV E) := by rw [← hz]; rfl
  rw [e0]
  have e1 := lF1_e (E := E) (ls := ls) j (.inr (.inr q))
  rw [hl', show eV E (.inr (.inr q)) = .ref z from hz] at e1
  exact lv_astore C.1 C.2.1 hd hl hn e1 (fun arr hl => k p e R s m args below meth c mc ms Z C H locs cells slots arr hw hlo hc hs hl)
theorem rn_iinc {i : Nat} {n : Int} {x v : Int32} {ls' : List (Nat × vV)} (w : Nat) (hk : ls[w]? = some (i, .inl x)) (hv : x + Int32.ofInt n = v) (hn : i < nL) (hl' : (i, .inl v) :: lF1 i ls = ls') (hd : decode cc pc = .ok (.iinc i n, 3)) (k : rn l E d a b y cc nL ret (pc + 3) ls' st h Q) : rn l E d a b y cc nL ret pc ls st h Q := by
  intro p e R s m args below meth c mc ms Z C H locs cells slots arr hw hlo hc hs hl
  exact lv_iinc (v := v) C.1 C.2.1 hd hl (k := w) (eL_get w hk) hv hn ((lF1_e (E := E) (ls := ls) i (.inl v)).trans (by rw [hl'])) (fun arr hl => k p e R s m args below meth c mc ms Z C H locs cells slots arr hw hlo hc hs hl)

theorem rn_iadd {x1 x2 : Int32} (hd : decode cc pc = .ok (.iadd, 1)) (k : rn l E d a b y cc nL ret (pc + 1) ls (.inl (x1 + x2) :: st) h Q) : rn l E d a b y cc nL ret pc ls (.inl x2 :: .inl x1 :: st) h Q := by
  intro p e R s m args below meth c mc ms Z C H locs cells slots arr hw hlo hc hs hl
  exact lv_iadd C.1 C.2.1 hd (k p e R s m args below meth c mc ms Z C H locs cells slots arr hw hlo hc hs hl)

theorem rn_isub {x1 x2 : Int32} (hd : decode cc pc = .ok (.isub, 1)) (k : rn l E d a b y cc nL ret (pc + 1) ls (.inl (x1 - x2) :: st) h Q) : rn l E d a b y cc nL ret pc ls (.inl x2 :: .inl x1 :: st) h Q := by
  intro p e R s m args below meth c mc ms Z C H locs cells slots arr hw hlo hc hs hl
  exact lv_isub C.1 C.2.1 hd (k p e R s m args below meth c mc ms Z C H locs cells slots arr hw hlo hc hs hl)

theorem rn_imul {x1 x2 : Int32} (hd : decode cc pc = .ok (.imul, 1)) (k : rn l E d a b y cc nL ret (pc + 1) ls (.inl (x1 * x2) :: st) h Q) : rn l E d a b y cc nL ret pc ls (.inl x2 :: .inl x1 :: st) h Q := by
  intro p e R s m args below meth c mc ms Z C H locs cells slots arr hw hlo hc hs hl
  exact lv_imul C.1 C.2.1 hd (k p e R s m args below meth c mc ms Z C H locs cells slots arr hw hlo hc hs hl)

theorem rn_iand {x1 x2 : Int32} (hd : decode cc pc = .ok (.iand, 1)) (k : rn l E d a b y cc nL ret (pc + 1) ls (.inl (x1 &&& x2) :: st) h Q) : rn l E d a b y cc nL ret pc ls (.inl x2 :: .inl x1 :: st) h Q := by
  intro p e R s m args below meth c mc ms Z C H locs cells slots arr hw hlo hc hs hl
  exact lv_iand C.1 C.2.1 hd (k p e R s m args below meth c mc ms Z C H locs cells slots arr hw hlo hc hs hl)

theorem rn_ior {x1 x2 : Int32} (hd : decode cc pc = .ok (.ior, 1)) (k : rn l E d a b y cc nL ret (pc + 1) ls (.inl (x1 ||| x2) :: st) h Q) : rn l E d a b y cc nL ret pc ls (.inl x2 :: .inl x1 :: st) h Q := by
  intro p e R s m args below meth c mc ms Z C H locs cells slots arr hw hlo hc hs hl
  exact lv_ior C.1 C.2.1 hd (k p e R s m args below meth c mc ms Z C H locs cells slots arr hw hlo hc hs hl)

theorem rn_ixor {x1 x2 : Int32} (hd : decode cc pc = .ok (.ixor, 1)) (k : rn l E d a b y cc nL ret (pc + 1) ls (.inl (x1 ^^^ x2) :: st) h Q) : rn l E d a b y cc nL ret pc ls (.inl x2 :: .inl x1 :: st) h Q := by
  intro p e R s m args below meth c mc ms Z C H locs cells slots arr hw hlo hc hs hl
  exact lv_ixor C.1 C.2.1 hd (k p e R s m args below meth c mc ms Z C H locs cells slots arr hw hlo hc hs hl)

theorem rn_idiv {x1 x2 : Int32} (hne : ¬ x2 = 0) (hd : decode cc pc = .ok (.idiv, 1)) (k : rn l E d a b y cc nL ret (pc + 1) ls (.inl (x1 / x2) :: st) h Q) : rn l E d a b y cc nL ret pc ls (.inl x2 :: .inl x1 :: st) h Q := by
  intro p e R s m args below meth c mc ms Z C H locs cells slots arr hw hlo hc hs hl
  exact lv_idiv C.1 C.2.1 hd hne (k p e R s m args below meth c mc ms Z C H locs cells slots arr hw hlo hc hs hl)

theorem rn_irem {x1 x2 : Int32} (hne : ¬ x2 = 0) (hd : decode cc pc = .ok (.irem, 1)) (k : rn l E d a b y cc nL ret (pc + 1) ls (.inl (x1 - x1 / x2 * x2) :: st) h Q) : rn l E d a b y cc nL ret pc ls (.inl x2 :: .inl x1 :: st) h Q := by
  intro p e R s m args below meth c mc ms Z C H locs cells slots arr hw hlo hc hs hl
  exact lv_irem C.1 C.2.1 hd hne (k p e R s m args below meth c mc ms Z C H locs cells slots arr hw hlo hc hs hl)

theorem rn_ishl {x1 x2 : Int32} (hd : decode cc pc = .ok (.ishl, 1)) (k : rn l E d a b y cc nL ret (pc + 1) ls (.inl (x1 <<< (x2 &&& 31)) :: st) h Q) : rn l E d a b y cc nL ret pc ls (.inl x2 :: .inl x1 :: st) h Q := by
  intro p e R s m args below meth c mc ms Z C H locs cells slots arr hw hlo hc hs hl
  exact lv_ishl C.1 C.2.1 hd (k p e R s m args below meth c mc ms Z C H locs cells slots arr hw hlo hc hs hl)

theorem rn_ishr {x1 x2 : Int32} (hd : decode cc pc = .ok (.ishr, 1)) (k : rn l E d a b y cc nL ret (pc + 1) ls (.inl (x1 >>> (x2 &&& 31)) :: st) h Q) : rn l E d a b y cc nL ret pc ls (.inl x2 :: .inl x1 :: st) h Q := by
  intro p e R s m args below meth c mc ms Z C H locs cells slots arr hw hlo hc hs hl
  exact lv_ishr C.1 C.2.1 hd (k p e R s m args below meth c mc ms Z C H locs cells slots arr hw hlo hc hs hl)

theorem rn_iushr {x1 x2 v : Int32} (hv : (x1.toUInt32 >>> (x2.toUInt32 &&& Int32.toUInt32 31)).toInt32 = v) (hd : decode cc pc = .ok (.iushr, 1)) (k : rn l E d a b y cc nL ret (pc + 1) ls (.inl v :: st) h Q) : rn l E d a b y cc nL ret pc ls (.inl x2 :: .inl x1 :: st) h Q := by
  intro p e R s m args below meth c mc ms Z C H locs cells slots arr hw hlo hc hs hl
  exact lv_iushr C.1 C.2.1 hd hv (k p e R s m args below meth c mc ms Z C H locs cells slots arr hw hlo hc hs hl)

theorem rn_i2l {x : Int32} {v : Int64} (hv : x.toInt64 = v) (hd : decode cc pc = .ok (.i2l, 1)) (k : rn l E d a b y cc nL ret (pc + 1) ls (.inr (.inl v) :: st) h Q) : rn l E d a b y cc nL ret pc ls (.inl x :: st) h Q := by
  intro p e R s m args below meth c mc ms Z C H locs cells slots arr hw hlo hc hs hl
  exact lv_i2l C.1 C.2.1 hd hv (k p e R s m args below meth c mc ms Z C H locs cells slots arr hw hlo hc hs hl)

theorem rn_l2i {x : Int64} {v : Int32} (hv : x.toInt32 = v) (hd : decode cc pc = .ok (.l2i, 1)) (k : rn l E d a b y cc nL ret (pc + 1) ls (.inl v :: st) h Q) : rn l E d a b y cc nL ret pc ls (.inr (.inl x) :: st) h Q := by
  intro p e R s m args below meth c mc ms Z C H locs cells slots arr hw hlo hc hs hl
  exact lv_l2i C.1 C.2.1 hd hv (k p e R s m args below meth c mc ms Z C H locs cells slots arr hw hlo hc hs hl)

theorem rn_i2b {x v : Int32} (hv : x.toInt8.toInt32 = v) (hd : decode cc pc = .ok (.i2b, 1)) (k : rn l E d a b y cc nL ret (pc + 1) ls (.inl v :: st) h Q) : rn l E d a b y cc nL ret pc ls (.inl x :: st) h Q := by
  intro p e R s m args below meth c mc ms Z C H locs cells slots arr hw hlo hc hs hl
  exact lv_i2b C.1 C.2.1 hd hv (k p e R s m args below meth c mc ms Z C H locs cells slots arr hw hlo hc hs hl)

theorem rn_i2c {x v : Int32} (hv : (x.toUInt32 % 65536).toInt32 = v) (hd : decode cc pc = .ok (.i2c, 1)) (k : rn l E d a b y cc nL ret (pc + 1) ls (.inl v :: st) h Q) : rn l E d a b y cc nL ret pc ls (.inl x :: st) h Q := by
  intro p e R s m args below meth c mc ms Z C H locs cells slots arr hw hlo hc hs hl
  exact lv_i2c C.1 C.2.1 hd hv (k p e R s m args below meth c mc ms Z C H locs cells slots arr hw hlo hc hs hl)

theorem rn_land {x1 x2 : Int64} (hd : decode cc pc = .ok (.land, 1)) (k : rn l E d a b y cc nL ret (pc + 1) ls (.inr (.inl (x1 &&& x2)) :: st) h Q) : rn l E d a b y cc nL ret pc ls (.inr (.inl x2) :: .inr (.inl x1) :: st) h Q := by
  intro p e R s m args below meth c mc ms Z C H locs cells slots arr hw hlo hc hs hl
  exact lv_land C.1 C.2.1 hd (k p e R s m args below meth c mc ms Z C H locs cells slots arr hw hlo hc hs hl)

theorem rn_lor {x1 x2 : Int64} (hd : decode cc pc = .ok (.lor, 1)) (k : rn l E d a b y cc nL ret (pc + 1) ls (.inr (.inl (x1 ||| x2)) :: st) h Q) : rn l E d a b y cc nL ret pc ls (.inr (.inl x2) :: .inr (.inl x1) :: st) h Q := by
  intro p e R s m args below meth c mc ms Z C H locs cells slots arr hw hlo hc hs hl
  exact lv_lor C.1 C.2.1 hd (k p e R s m args below meth c mc ms Z C H locs cells slots arr hw hlo hc hs hl)

theorem rn_lushr {x v : Int64} {w : Int32} (hv : (x.toUInt64 >>> (w.toInt64.toUInt64 &&& Int64.toUInt64 63)).toInt64 = v) (hd : decode cc pc = .ok (.lushr, 1)) (k : rn l E d a b y cc nL ret (pc + 1) ls (.inr (.inl v) :: st) h Q) : rn l E d a b y cc nL ret pc ls (.inl w :: .inr (.inl x) :: st) h Q := by
  intro p e R s m args below meth c mc ms Z C H locs cells slots arr hw hlo hc hs hl
  exact lv_lushr C.1 C.2.1 hd hv (k p e R s m args below meth c mc ms Z C H locs cells slots arr hw hlo hc hs hl)

theorem rn_lshl {x v : Int64} {w : Int32} (hv : x <<< (w.toInt64 &&& 63) = v) (hd : decode cc pc = .ok (.lshl, 1)) (k : rn l E d a b y cc nL ret (pc + 1) ls (.inr (.inl v) :: st) h Q) : rn l E d a b y cc nL ret pc ls (.inl w :: .inr (.inl x) :: st) h Q := by
  intro p e R s m args below meth c mc ms Z C H locs cells slots arr hw hlo hc hs hl
  exact lv_lshl C.1 C.2.1 hd hv (k p e R s m args below meth c mc ms Z C H locs cells slots arr hw hlo hc hs hl)

theorem eV_c1 (E : eE) (v : vV) (hv : (match v with | .inr (.inl _) => true | _ => false) = false) : (eV E v).category = 1 := by
  rcases v with x | x | k
  · rfl
  · cases hv
  · exact eR_cat E k

theorem rn_dup {v : vV} (hv : (match v with | .inr (.inl _) => true | _ => false) = false) (hd : decode cc pc = .ok (.dup, 1)) (k : rn l E d a b y cc nL ret (pc + 1) ls (v :: v :: st) h Q) : rn l E d a b y cc nL ret pc ls (v :: st) h Q := by
  intro p e R s m args below meth c mc ms Z C H locs cells slots arr hw hlo hc hs hl
  exact lv_dup C.1 C.2.1 hd (eV_c1 E v hv) (k p e R s m args below meth c mc ms Z C H locs cells slots arr hw hlo hc hs hl)

theorem rn_pop {v : vV} (hv : (match v with | .inr (.inl _) => true | _ => false) = false) (hd : decode cc pc = .ok (.pop, 1)) (k : rn l E d a b y cc nL ret (pc + 1) ls (st) h Q) : rn l E d a b y cc nL ret pc ls (v :: st) h Q := by
  intro p e R s m args below meth c mc ms Z C H locs cells slots arr hw hlo hc hs hl
  exact lv_pop C.1 C.2.1 hd (eV_c1 E v hv) (k p e R s m args below meth c mc ms Z C H locs cells slots arr hw hlo hc hs hl)

theorem rn_dup_x1 {v w : vV} (hv : (match v with | .inr (.inl _) => true | _ => false) = false) (hw : (match w with | .inr (.inl _) => true | _ => false) = false) (hd : decode cc pc = .ok (.dup_x1, 1)) (k : rn l E d a b y cc nL ret (pc + 1) ls (v :: w :: v :: st) h Q) : rn l E d a b y cc nL ret pc ls (v :: w :: st) h Q := by
  intro p e R s m args below meth c mc ms Z C H locs cells slots arr hw hlo hc hs hl
  exact lv_dup_x1 C.1 C.2.1 hd (eV_c1 E v hv) (eV_c1 E w (by assumption)) (k p e R s m args below meth c mc ms Z C H locs cells slots arr hw hlo hc hs hl)

theorem rn_dup2 {v w : vV} (hv : (match v with | .inr (.inl _) => true | _ => false) = false) (hw2 : (match w with | .inr (.inl _) => true | _ => false) = false) (hd : decode cc pc = .ok (.dup2, 1)) (k : rn l E d a b y cc nL ret (pc + 1) ls (v :: w :: v :: w :: st) h Q) : rn l E d a b y cc nL ret pc ls (v :: w :: st) h Q := by
  intro p e R s m args below meth c mc ms Z C H locs cells slots arr hw hlo hc hs hl
  exact lv_dup2_11 C.1 C.2.1 hd (eV_c1 E v hv) (eV_c1 E w hw2) (k p e R s m args below meth c mc ms Z C H locs cells slots arr hw hlo hc hs hl)

theorem rn_if_eq {x : Int32} {off : Int} {tgt : Nat} (hd : decode cc pc = .ok (.ifCond .eq off, 3)) (ht : (pc : Int) + off = (tgt : Int)) (kt : x = 0 → rn l E d a b y cc nL ret tgt ls st h Q) (kf : ¬ (x = 0) → rn l E d a b y cc nL ret (pc + 3) ls st h Q) : rn l E d a b y cc nL ret pc ls (.inl x :: st) h Q := by
  intro p e R s m args below meth c mc ms Z C H locs cells slots arr hw hlo hc hs hl
  exact lv_if_eq C.1 C.2.1 hd ht (fun z => kt z p e R s m args below meth c mc ms Z C H locs cells slots arr hw hlo hc hs hl) (fun z => kf z p e R s m args below meth c mc ms Z C H locs cells slots arr hw hlo hc hs hl)
theorem rn_icmp_eq {x1 x2 : Int32} {off : Int} {tgt : Nat} (hd : decode cc pc = .ok (.if_icmp .eq off, 3)) (ht : (pc : Int) + off = (tgt : Int)) (kt : x1 = x2 → rn l E d a b y cc nL ret tgt ls st h Q) (kf : ¬ (x1 = x2) → rn l E d a b y cc nL ret (pc + 3) ls st h Q) : rn l E d a b y cc nL ret pc ls (.inl x2 :: .inl x1 :: st) h Q := by
  intro p e R s m args below meth c mc ms Z C H locs cells slots arr hw hlo hc hs hl
  exact lv_icmp_eq C.1 C.2.1 hd ht (fun z => kt z p e R s m args below meth c mc ms Z C H locs cells slots arr hw hlo hc hs hl) (fun z => kf z p e R s m args below meth c mc ms Z C H locs cells slots arr hw hlo hc hs hl)

theorem rn_if_ne {x : Int32} {off : Int} {tgt : Nat} (hd : decode cc pc = .ok (.ifCond .ne off, 3)) (ht : (pc : Int) + off = (tgt : Int)) (kt : x = 0 → rn l E d a b y cc nL ret (pc + 3) ls st h Q) (kf : ¬ x = 0 → rn l E d a b y cc nL ret tgt ls st h Q) : rn l E d a b y cc nL ret pc ls (.inl x :: st) h Q := by
  intro p e R s m args below meth c mc ms Z C H locs cells slots arr hw hlo hc hs hl
  exact lv_if_ne C.1 C.2.1 hd ht (fun z => kf z p e R s m args below meth c mc ms Z C H locs cells slots arr hw hlo hc hs hl) (fun z => kt z p e R s m args below meth c mc ms Z C H locs cells slots arr hw hlo hc hs hl)
theorem rn_icmp_ne {x1 x2 : Int32} {off : Int} {tgt : Nat} (hd : decode cc pc = .ok (.if_icmp .ne off, 3)) (ht : (pc : Int) + off = (tgt : Int)) (kt : x1 = x2 → rn l E d a b y cc nL ret (pc + 3) ls st h Q) (kf : ¬ x1 = x2 → rn l E d a b y cc nL ret tgt ls st h Q) : rn l E d a b y cc nL ret pc ls (.inl x2 :: .inl x1 :: st) h Q := by
  intro p e R s m args below meth c mc ms Z C H locs cells slots arr hw hlo hc hs hl
  exact lv_icmp_ne C.1 C.2.1 hd ht (fun z => kf z p e R s m args below meth c mc ms Z C H locs cells slots arr hw hlo hc hs hl) (fun z => kt z p e R s m args below meth c mc ms Z C H locs cells slots arr hw hlo hc hs hl)

theorem rn_if_lt {x : Int32} {off : Int} {tgt : Nat} (hd : decode cc pc = .ok (.ifCond .lt off, 3)) (ht : (pc : Int) + off = (tgt : Int)) (kt : x < 0 → rn l E d a b y cc nL ret tgt ls st h Q) (kf : ¬ (x < 0) → rn l E d a b y cc nL ret (pc + 3) ls st h Q) : rn l E d a b y cc nL ret pc ls (.inl x :: st) h Q := by
  intro p e R s m args below meth c mc ms Z C H locs cells slots arr hw hlo hc hs hl
  exact lv_if_lt C.1 C.2.1 hd ht (fun z => kt z p e R s m args below meth c mc ms Z C H locs cells slots arr hw hlo hc hs hl) (fun z => kf z p e R s m args below meth c mc ms Z C H locs cells slots arr hw hlo hc hs hl)
theorem rn_icmp_lt {x1 x2 : Int32} {off : Int} {tgt : Nat} (hd : decode cc pc = .ok (.if_icmp .lt off, 3)) (ht : (pc : Int) + off = (tgt : Int)) (kt : x1 < x2 → rn l E d a b y cc nL ret tgt ls st h Q) (kf : ¬ (x1 < x2) → rn l E d a b y cc nL ret (pc + 3) ls st h Q) : rn l E d a b y cc nL ret pc ls (.inl x2 :: .inl x1 :: st) h Q := by
  intro p e R s m args below meth c mc ms Z C H locs cells slots arr hw hlo hc hs hl
  exact lv_icmp_lt C.1 C.2.1 hd ht (fun z => kt z p e R s m args below meth c mc ms Z C H locs cells slots arr hw hlo hc hs hl) (fun z => kf z p e R s m args below meth c mc ms Z C H locs cells slots arr hw hlo hc hs hl)

theorem rn_if_ge {x : Int32} {off : Int} {tgt : Nat} (hd : decode cc pc = .ok (.ifCond .ge off, 3)) (ht : (pc : Int) + off = (tgt : Int)) (kt : 0 ≤ x → rn l E d a b y cc nL ret tgt ls st h Q) (kf : ¬ (0 ≤ x) → rn l E d a b y cc nL ret (pc + 3) ls st h Q) : rn l E d a b y cc nL ret pc ls (.inl x :: st) h Q := by
  intro p e R s m args below meth c mc ms Z C H locs cells slots arr hw hlo hc hs hl
  exact lv_if_ge C.1 C.2.1 hd ht (fun z => kt z p e R s m args below meth c mc ms Z C H locs cells slots arr hw hlo hc hs hl) (fun z => kf z p e R s m args below meth c mc ms Z C H locs cells slots arr hw hlo hc hs hl)
theorem rn_icmp_ge {x1 x2 : Int32} {off : Int} {tgt : Nat} (hd : decode cc pc = .ok (.if_icmp .ge off, 3)) (ht : (pc : Int) + off = (tgt : Int)) (kt : x2 ≤ x1 → rn l E d a b y cc nL ret tgt ls st h Q) (kf : ¬ (x2 ≤ x1) → rn l E d a b y cc nL ret (pc + 3) ls st h Q) : rn l E d a b y cc nL ret pc ls (.inl x2 :: .inl x1 :: st) h Q := by
  intro p e R s m args below meth c mc ms Z C H locs cells slots arr hw hlo hc hs hl
  exact lv_icmp_ge C.1 C.2.1 hd ht (fun z => kt z p e R s m args below meth c mc ms Z C H locs cells slots arr hw hlo hc hs hl) (fun z => kf z p e R s m args below meth c mc ms Z C H locs cells slots arr hw hlo hc hs hl)

theorem rn_if_gt {x : Int32} {off : Int} {tgt : Nat} (hd : decode cc pc = .ok (.ifCond .gt off, 3)) (ht : (pc : Int) + off = (tgt : Int)) (kt : 0 < x → rn l E d a b y cc nL ret tgt ls st h Q) (kf : ¬ (0 < x) → rn l E d a b y cc nL ret (pc + 3) ls st h Q) : rn l E d a b y cc nL ret pc ls (.inl x :: st) h Q := by
  intro p e R s m args below meth c mc ms Z C H locs cells slots arr hw hlo hc hs hl
  exact lv_if_gt C.1 C.2.1 hd ht (fun z => kt z p e R s m args below meth c mc ms Z C H locs cells slots arr hw hlo hc hs hl) (fun z => kf z p e R s m args below meth c mc ms Z C H locs cells slots arr hw hlo hc hs hl)
theorem rn_icmp_gt {x1 x2 : Int32} {off : Int} {tgt : Nat} (hd : decode cc pc = .ok (.if_icmp .gt off, 3)) (ht : (pc : Int) + off = (tgt : Int)) (kt : x2 < x1 → rn l E d a b y cc nL ret tgt ls st h Q) (kf : ¬ (x2 < x1) → rn l E d a b y cc nL ret (pc + 3) ls st h Q) : rn l E d a b y cc nL ret pc ls (.inl x2 :: .inl x1 :: st) h Q := by
  intro p e R s m args below meth c mc ms Z C H locs cells slots arr hw hlo hc hs hl
  exact lv_icmp_gt C.1 C.2.1 hd ht (fun z => kt z p e R s m args below meth c mc ms Z C H locs cells slots arr hw hlo hc hs hl) (fun z => kf z p e R s m args below meth c mc ms Z C H locs cells slots arr hw hlo hc hs hl)

theorem rn_if_le {x : Int32} {off : Int} {tgt : Nat} (hd : decode cc pc = .ok (.ifCond .le off, 3)) (ht : (pc : Int) + off = (tgt : Int)) (kt : x ≤ 0 → rn l E d a b y cc nL ret tgt ls st h Q) (kf : ¬ (x ≤ 0) → rn l E d a b y cc nL ret (pc + 3) ls st h Q) : rn l E d a b y cc nL ret pc ls (.inl x :: st) h Q := by
  intro p e R s m args below meth c mc ms Z C H locs cells slots arr hw hlo hc hs hl
  exact lv_if_le C.1 C.2.1 hd ht (fun z => kt z p e R s m args below meth c mc ms Z C H locs cells slots arr hw hlo hc hs hl) (fun z => kf z p e R s m args below meth c mc ms Z C H locs cells slots arr hw hlo hc hs hl)
theorem rn_icmp_le {x1 x2 : Int32} {off : Int} {tgt : Nat} (hd : decode cc pc = .ok (.if_icmp .le off, 3)) (ht : (pc : Int) + off = (tgt : Int)) (kt : x1 ≤ x2 → rn l E d a b y cc nL ret tgt ls st h Q) (kf : ¬ (x1 ≤ x2) → rn l E d a b y cc nL ret (pc + 3) ls st h Q) : rn l E d a b y cc nL ret pc ls (.inl x2 :: .inl x1 :: st) h Q := by
  intro p e R s m args below meth c mc ms Z C H locs cells slots arr hw hlo hc hs hl
  exact lv_icmp_le C.1 C.2.1 hd ht (fun z => kt z p e R s m args below meth c mc ms Z C H locs cells slots arr hw hlo hc hs hl) (fun z => kf z p e R s m args below meth c mc ms Z C H locs cells slots arr hw hlo hc hs hl)

theorem rn_goto {off : Int} {tgt : Nat} (hd : decode cc pc = .ok (.goto off, 3)) (ht : (pc : Int) + off = (tgt : Int)) (k : rn l E d a b y cc nL ret tgt ls st h Q) : rn l E d a b y cc nL ret pc ls st h Q := by
  intro p e R s m args below meth c mc ms Z C H locs cells slots arr hw hlo hc hs hl
  exact lv_goto C.1 C.2.1 hd ht (k p e R s m args below meth c mc ms Z C H locs cells slots arr hw hlo hc hs hl)
theorem rn_lsw {dflt : Int} {ps : Array (Int × Int)} {len : Nat} {x : Int32} {off : Int} {tgt : Nat} (hd : decode cc pc = .ok (.lookupswitch dflt ps, len)) (hp : (ps.toList.zip (ps.toList.drop 1)).all (fun (a, next) => a.1 < next.1) = true) (ho : Op.lookupswitch.offset ps.toList dflt x.toInt = off) (ht : (pc : Int) + off = (tgt : Int)) (k : rn l E d a b y cc nL ret tgt ls st h Q) : rn l E d a b y cc nL ret pc ls (.inl x :: st) h Q := by
  intro p e R s m args below meth c mc ms Z C H locs cells slots arr hw hlo hc hs hl
  exact lv_lookup C.1 C.2.1 hd hp ho ht (k p e R s m args below meth c mc ms Z C H locs cells slots arr hw hlo hc hs hl)
theorem rn_tswO {dflt lo hi : Int} {offs : Array Int} {len : Nat} {x : Int32} {tgt : Nat} (hd : decode cc pc = .ok (.tableswitch dflt lo hi offs, len)) (hx : x.toInt < lo ∨ hi < x.toInt) (ht : (pc : Int) + dflt = (tgt : Int)) (k : rn l E d a b y cc nL ret tgt ls st h Q) : rn l E d a b y cc nL ret pc ls (.inl x :: st) h Q := by
  intro p e R s m args below meth c mc ms Z C H locs cells slots arr hw hlo hc hs hl
  exact lv_tableOut C.1 C.2.1 hd hx ht (k p e R s m args below meth c mc ms Z C H locs cells slots arr hw hlo hc hs hl)
theorem rn_tswI {dflt lo hi : Int} {offs : Array Int} {len : Nat} {x : Int32} {off : Int} {tgt : Nat} (hd : decode cc pc = .ok (.tableswitch dflt lo hi offs, len)) (h1 : ¬ x.toInt < lo) (h2 : ¬ hi < x.toInt) (ho : offs[(x.toInt - lo).toNat]? = some off) (ht : (pc : Int) + off = (tgt : Int)) (k : rn l E d a b y cc nL ret tgt ls st h Q) : rn l E d a b y cc nL ret pc ls (.inl x :: st) h Q := by
  intro p e R s m args below meth c mc ms Z C H locs cells slots arr hw hlo hc hs hl
  exact lv_tableIn C.1 C.2.1 hd h1 h2 ho ht (k p e R s m args below meth c mc ms Z C H locs cells slots arr hw hlo hc hs hl)
theorem rn_lcmp {x1 x2 : Int64} {v : Int32} (hv : lg_cmp x1 x2 = v) (hd : decode cc pc = .ok (.lcmp, 1)) (k : rn l E d a b y cc nL ret (pc + 1) ls (.inl v :: st) h Q) : rn l E d a b y cc nL ret pc ls (.inr (.inl x2) :: .inr (.inl x1) :: st) h Q := by
  intro p e R s m args below meth c mc ms Z C H locs cells slots arr hw hlo hc hs hl
  subst hv
  exact W.lcmp C.1 C.2.1 hd (k p e R s m args below meth c mc ms Z C H locs cells slots arr hw hlo hc hs hl)
theorem rn_ldc2 {index : Nat} {v : Int64} (hw2 : Cond.constantLong y.cls index v ∈ allw) (hd : decode cc pc = .ok (.ldc2_w index, 3)) (k : rn l E d a b y cc nL ret (pc + 3) ls (.inr (.inl v) :: st) h Q) : rn l E d a b y cc nL ret pc ls st h Q := by
  intro p e R s m args below meth c mc ms Z C H locs cells slots arr hw hlo hc hs hl
  exact lv_ldc2 C.1 C.2.1 C.2.2.2.1 (C.2.2.2.2.1 _ hw2) hd (k p e R s m args below meth c mc ms Z C H locs cells slots arr hw hlo hc hs hl)
theorem rn_ldc {index : Nat} {v : Int32} (hw2 : Cond.constant y.cls index v ∈ allw) (hd : decode cc pc = .ok (.ldc index, 2)) (k : rn l E d a b y cc nL ret (pc + 2) ls (.inl v :: st) h Q) : rn l E d a b y cc nL ret pc ls st h Q := by
  intro p e R s m args below meth c mc ms Z C H locs cells slots arr hw hlo hc hs hl
  exact lv_ldc C.1 C.2.1 C.2.2.2.1 (C.2.2.2.2.1 _ hw2) hd (k p e R s m args below meth c mc ms Z C H locs cells slots arr hw hlo hc hs hl)

theorem rn_ldcw {index : Nat} {v : Int32} (hw2 : Cond.constant y.cls index v ∈ allw) (hd : decode cc pc = .ok (.ldc_w index, 3)) (k : rn l E d a b y cc nL ret (pc + 3) ls (.inl v :: st) h Q) : rn l E d a b y cc nL ret pc ls st h Q := by
  intro p e R s m args below meth c mc ms Z C H locs cells slots arr hw hlo hc hs hl
  exact lv_ldcw C.1 C.2.1 C.2.2.2.1 (C.2.2.2.2.1 _ hw2) hd (k p e R s m args below meth c mc ms Z C H locs cells slots arr hw hlo hc hs hl)

end RN