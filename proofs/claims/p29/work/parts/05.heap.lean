theorem cl_in0 : ∀ w ∈ u_ws RX0 TX0 10, w ∈ lw_tbl := by decide +kernel
theorem cl_in1 : ∀ w ∈ u_ws RX1 TX1 3, w ∈ lw_tbl := by decide +kernel
theorem cl_in2 : ∀ w ∈ u_ws RX2 TX2 12, w ∈ lw_tbl := by decide +kernel
theorem cl_in3 : ∀ w ∈ u_ws RX3 TX3 8, w ∈ lw_tbl := by decide +kernel
theorem cl_in4 : ∀ w ∈ u_ws RX4 TX4 5, w ∈ lw_tbl := by decide +kernel
theorem cl_in5 : ∀ w ∈ u_ws RX5 TX5 6, w ∈ lw_tbl := by decide +kernel
theorem u_good (C : String) (T : u_T) (N : Nat) : ∀ w ∈ u_ws C T N, goodWord w = true := by
  intro w hw
  obtain ⟨k, -, rfl⟩ := List.mem_map.mp hw
  unfold u_lay
  split <;> rfl
theorem cl_in {ci : Nat} (h : ci < 6) : ∀ w ∈ u_ws (clC ci) (clT ci) (clN ci), w ∈ allw := by
  intro w hw
  refine aw ?_ (u_good _ _ _ w hw)
  match ci, h with
  | 0, _ => exact cl_in0 w hw
  | 1, _ => exact cl_in1 w hw
  | 2, _ => exact cl_in2 w hw
  | 3, _ => exact cl_in3 w hw
  | 4, _ => exact cl_in4 w hw
  | 5, _ => exact cl_in5 w hw
theorem cl_ty {ci : Nat} (h : ci < 6) : ∀ k, k < clN ci → parseFieldDescriptor (clT ci k).2.2.1 = some (clY ci k) := by
  match ci, h with
  | 0, _ => exact tyX0_ok
  | 1, _ => exact tyX1_ok
  | 2, _ => exact tyX2_ok
  | 3, _ => exact tyX3_ok
  | 4, _ => exact tyX4_ok
  | 5, _ => exact tyX5_ok
theorem cl_nm {ci : Nat} (h : ci < 6) : ∀ a, a < clN ci → ∀ b, b < clN ci → a ≠ b → (clT ci a).2.1 ≠ (clT ci b).2.1 := by
  match ci, h with
  | 0, _ => exact nmX0
  | 1, _ => exact nmX1
  | 2, _ => exact nmX2
  | 3, _ => exact nmX3
  | 4, _ => exact nmX4
  | 5, _ => exact nmX5
def lk (own : String) (idx ci k : Nat) : Prop := ci < 6 ∧ k < clN ci ∧ Cond.fieldLink own idx (clT ci k).1 (clT ci k).2.1 (clT ci k).2.2.1 ∈ allw
def up2 {α : Type} (D : Nat → Nat → α) (o k : Nat) (v : α) : Nat → Nat → α := fun i j => if i = o ∧ j = k then v else D i j
theorem up2_self {α : Type} (D : Nat → Nat → α) (o k : Nat) (v : α) : up2 D o k v o k = v := if_pos ⟨rfl, rfl⟩
theorem up2_ne {α : Type} (D : Nat → Nat → α) {o k i j : Nat} (v : α) (h : ¬ (i = o ∧ j = k)) : up2 D o k v i j = D i j := if_neg h
theorem up2_o {α : Type} (D : Nat → Nat → α) {o i : Nat} (k : Nat) (v : α) (h : i ≠ o) : up2 D o k v i = D i := by
  funext j
  exact up2_ne D v (fun z => h z.1)
theorem eR_o (E : eE) {o : Nat} (h : 18 ≤ o) : eR E o = .ref (ad E o) := by
  unfold eR eA
  rw [if_neg (by omega), if_neg (by omega)]; rfl
theorem ad_inj (E : eE) {x z : Nat} (hx : 18 ≤ x) (hz : 18 ≤ z) (h : ad E x = ad E z) : x = z := by
  unfold ad at h
  omega
theorem cAt.kept {E : eE} {o : Nat} {kl : Nat × Nat} {r : Nat → Nat} {dd : Nat → Int32} {H H' : Heap} (h : cAt E o kl r dd H) (hq : H'[ad E o]? = H[ad E o]?) : cAt E o kl r dd H' := by
  unfold cAt at h ⊢
  split
  · next hk =>
    rw [if_pos hk] at h
    exact h.kept hq
  · next hk =>
    rw [if_neg hk] at h
    rw [hq]; exact h
theorem cAt.lt {E : eE} {o : Nat} {kl : Nat × Nat} {r : Nat → Nat} {dd : Nat → Int32} {H : Heap} (h : cAt E o kl r dd H) : ad E o < H.size := by
  unfold cAt at h
  split at h
  · obtain ⟨cell, h, -⟩ := h
    exact (Array.getElem?_eq_some_iff.mp h).1
  · exact (Array.getElem?_eq_some_iff.mp h).1
theorem wd_set {E : eE} {n : Nat} {S : Nat → Nat × Nat} {Rr Rr' : Nat → Nat → Nat} {D D' : Nat → Nat → Int32} {o : Nat} {H H' : Heap} (hw : wd E (n, S, Rr, D) H) (h16 : 18 ≤ o) (z : H'.size = H.size) (oq : ∀ q : Nat, q ≠ ad E o → H'[q]? = H[q]?)
    (hc : cAt E o (S o) (Rr' o) (D' o) H') (hR : ∀ o', o' ≠ o → Rr' o' = Rr o') (hD : ∀ o', o' ≠ o → D' o' = D o') : wd E (n, S, Rr', D') H' := by
  obtain ⟨h1, h2, h3⟩ := hw
  refine ⟨by rw [z]; exact h1, fun q hq => ?_, fun o' ho hn => ?_⟩
  · rw [oq q (by unfold ad; omega)]
    exact h2 q hq
  · by_cases e : o' = o
    · subst e; exact hc
    · show cAt E o' (S o') (Rr' o') (D' o') H'
      rw [hR o' e, hD o' e]
      exact (h3 o' ho hn).kept (oq _ (fun e2 => e (ad_inj E ho h16 e2)))
section RH

variable {l : Launch} {E : eE} {d a b : Nat} {y : MethodName} {cc : ByteArray} {nL : Nat} {ret : Option FieldType} {pc : Nat} {ls : List (Nat × vV)} {st : List vV} {h : hP} {Q : Option vV → hP → Prop}
variable {n : Nat} {S : Nat → Nat × Nat} {Rr : Nat → Nat → Nat} {D : Nat → Nat → Int32}
theorem obj_at {ci o : Nat} {H : Heap} (hw : wd E (n, S, Rr, D) H) (h16 : 18 ≤ o) (hn : o < 18 + n) (hc : ci < 6) (hS : (S o).1 = ci) : t_OB (ad E o) (E.2.2.2.1.1 ci) (clN ci) (E.2.2.2.1.2 ci) H (fun k => if fT ci k = true then eR E (Rr o k) else .int (D o k)) := by
  have h := hw.2.2 o h16 hn
  unfold cAt at h
  rw [if_pos (by show (S o).1 < 6; rw [hS]; exact hc)] at h
  have h : t_OB (ad E o) (E.2.2.2.1.1 (S o).1) (clN (S o).1) (E.2.2.2.1.2 (S o).1) H (fun k => if fT (S o).1 k = true then eR E (Rr o k) else .int (D o k)) := h
  rw [hS] at h
  exact h
theorem arr_at {kd N o : Nat} {H : Heap} (hw : wd E (n, S, Rr, D) H) (h16 : 18 ≤ o) (hn : o < 18 + n) (hc : 10 ≤ kd) (hS : S o = (kd, N)) : H[ad E o]? = some (arrV (E.2.2.2.2.1 kd) N (fun j => if kd < 12 then .int (D o j) else eR E (Rr o j))) := by
  have h := hw.2.2 o h16 hn
  unfold cAt at h
  rw [if_neg (by show ¬ (S o).1 < 6; rw [hS]; show ¬ kd < 6; omega)] at h
  have h : H[ad E o]? = some (arrV (E.2.2.2.2.1 (S o).1) (S o).2 (fun j => if (S o).1 < 12 then .int (D o j) else eR E (Rr o j))) := h
  rw [hS] at h
  exact h
theorem rn_getf {idx ci k o : Nat} (hk : lk y.cls idx ci k) (h16 : 18 ≤ o) (hn : o < 18 + n) (hS : (S o).1 = ci) (hd : decode cc pc = .ok (.getfield idx, 3)) {v : vV} (hv : (if fT ci k = true then .inr (.inr (Rr o k)) else .inl (D o k)) = v)
    (kk : rn l E d a b y cc nL ret (pc + 3) ls (v :: st) (n, S, Rr, D) Q) : rn l E d a b y cc nL ret pc ls (.inr (.inr o) :: st) (n, S, Rr, D) Q := by
  intro p e R s m args below meth c mc ms Z C H locs cells slots arr hw hlo hc hs hl
  obtain ⟨hx, hb, hml, hown, hts, hlk, hnm, hSt, hdf, hdl, hrc, hrs, hZ⟩ := id C
  obtain ⟨hk1, hk2, hk3⟩ := hk
  obtain ⟨cell, q1, q2, q3, q4⟩ := obj_at hw h16 hn hk1 hS
  obtain ⟨hSl, hfc, kC, hkC, hkind⟩ := hSt.2.1 ci hk1
  obtain ⟨cf, kf, fi, f, hi, hsl⟩ := hSl k hk2
  have e0 : (Sum.inr (Sum.inr o) :: st : List vV).map (eV E) = .ref (ad E o) :: st.map (eV E) := by rw [← eR_o E h16]; rfl
  rw [e0]
  refine W.getf hx hb hown (hts _ hk3) hi (u_facts hfc hkC (u_lays hts (cl_in hk1) hk2) hi).1 q1 (by rw [q3]; exact fun h => by cases h) (v := eV E v) ?_ rfl rfl hd (kk p e R s m args below meth c mc ms Z C H locs cells slots arr hw hlo hc hs hl)
  rw [hsl, q4 k hk2, ← hv]
  show some (if fT ci k = true then eR E (Rr o k) else .int (D o k)) = _
  split <;> rfl
/-- an int field -/
theorem rn_geti {idx ci k o : Nat} (hk : lk y.cls idx ci k) (h16 : 18 ≤ o) (hn : o < 18 + n) (hS : (S o).1 = ci) (hf : fT ci k = false) (hd : decode cc pc = .ok (.getfield idx, 3))
    (kk : rn l E d a b y cc nL ret (pc + 3) ls (.inl (D o k) :: st) (n, S, Rr, D) Q) : rn l E d a b y cc nL ret pc ls (.inr (.inr o) :: st) (n, S, Rr, D) Q := rn_getf hk h16 hn hS hd (by rw [hf]; rfl) kk
/-- a field that holds a reference -/
theorem rn_getr {idx ci k o q : Nat} (hk : lk y.cls idx ci k) (h16 : 18 ≤ o) (hn : o < 18 + n) (hS : (S o).1 = ci) (hf : fT ci k = true) (hq : Rr o k = q) (hd : decode cc pc = .ok (.getfield idx, 3))
    (kk : rn l E d a b y cc nL ret (pc + 3) ls (.inr (.inr q) :: st) (n, S, Rr, D) Q) : rn l E d a b y cc nL ret pc ls (.inr (.inr o) :: st) (n, S, Rr, D) Q := rn_getf hk h16 hn hS hd (by rw [hf, hq]; rfl) kk
theorem cl_apart {s : State} {args : Array Value} (hts : ∀ w ∈ allw, w.before args s = true) (hSt : St E s) {ci : Nat} (hc : ci < 6) : ∀ x y, x < clN ci → y < clN ci → x ≠ y → (E.2.2.2.1.2 ci) x ≠ (E.2.2.2.1.2 ci) y := by
  intro x y hx hy hne
  obtain ⟨hS, -⟩ := hSt.2.1 ci hc
  obtain ⟨_, _, _, fa, hia, ea⟩ := hS x hx
  obtain ⟨_, _, _, fb, hib, eb⟩ := hS y hy
  rw [← ea, ← eb]
  refine u_apart (u_lays hts (cl_in hc) hx) (u_lays hts (cl_in hc) hy) hia hib ?_
  rw [(State.fieldFound?_type hia (cl_ty hc x hx)).1, (State.fieldFound?_type hib (cl_ty hc y hy)).1]
  exact cl_nm hc x hx y hy hne
theorem rn_puti {idx ci k o : Nat} {v : Int32} (hk : lk y.cls idx ci k) (h16 : 18 ≤ o) (hn : o < 18 + n) (hS : (S o).1 = ci) (hf : fT ci k = false) (hfin : (clT ci k).2.2.2 = false) (hnr : narrow (clY ci k) (.int v) = .int v) (hft : fits (clY ci k) (.int v) = true) (hd : decode cc pc = .ok (.putfield idx, 3))
    (kk : rn l E d a b y cc nL ret (pc + 3) ls st (n, S, Rr, up2 D o k v) Q) : rn l E d a b y cc nL ret pc ls (.inl v :: .inr (.inr o) :: st) (n, S, Rr, D) Q := by
  intro p e R s m args below meth c mc ms Z C H locs cells slots arr hw hlo hc hs hl
  obtain ⟨hx, hb, hml, hown, hts, hlk, hnm, hSt, hdf, hdl, hrc, hrs, hZ⟩ := id C
  obtain ⟨hk1, hk2, hk3⟩ := hk
  have hap := cl_apart hts hSt hk1
  obtain ⟨cell, q1, q2, q3, q4⟩ := obj_at hw h16 hn hk1 hS
  obtain ⟨hSl, hfc, kC, hkC, hkind⟩ := hSt.2.1 ci hk1
  obtain ⟨cf, kf, fi, f, hi, hsl⟩ := hSl k hk2
  have hlay := hts _ (cl_in hk1 _ (u_in_lay hk2))
  unfold u_lay at hlay
  rw [if_neg (by rw [hfin]; decide)] at hlay
  have hst := (u_facts hfc hkC (u_lays hts (cl_in hk1) hk2) hi).1
  have h6 := u_store hfc hkC hkind hlay hi (cl_ty hk1 k hk2) hnr hft
  have e0 : (Sum.inl v :: Sum.inr (Sum.inr o) :: st : List vV).map (eV E) = .int v :: .ref (ad E o) :: st.map (eV E) := by rw [← eR_o E h16]; rfl
  rw [e0]
  refine W.putK hx hb (f := f) ⟨hown, hts _ hk3, ⟨_, _, _, hi⟩, hst⟩ (by rw [q2]; exact h6) q1 q3 (by rw [hsl]; exact k2_hasslot (q4 k hk2)) rfl rfl hd fun H' e1 e2 e3 => ?_
  rw [hsl] at e1 ⊢
  refine kk p e R s m args below meth c mc ms Z C H' _ cells slots arr (wd_set hw h16 e2 e3 ?_ (fun _ _ => rfl) (fun o' h9 => up2_o D k v h9)) ?_ hc hs hl
  · unfold cAt
    rw [if_pos (by rw [hS]; exact hk1)]
    rw [hS]
    refine t_OB.to (V := updV (fun k => if fT ci k = true then eR E (Rr o k) else .int (D o k)) k (.int v)) ⟨_, e1, q2, q3, t_set q4 hap hk2 _⟩ (fun j _ => ?_)
    unfold updV
    by_cases hj : j = k
    · subst hj
      rw [if_pos rfl, if_neg (by rw [hf]; decide), up2_self]
    · rw [if_neg hj, up2_ne D v (fun z => hj z.2)]
  · intro q hq
    rcases List.mem_append.mp hq with h9 | h9
    · exact hlo q h9
    · rw [List.mem_singleton.mp h9]; show E.1 ≤ ad E o; unfold ad; omega
/-- a final field that holds a reference, in the constructor -/
theorem rn_putr {idx ci k o q : Nat} (hk : lk y.cls idx ci k) (h16 : 18 ≤ o) (hn : o < 18 + n) (hS : (S o).1 = ci) (hf : fT ci k = true) (hq : q ≠ 0) (hfin : (clT ci k).2.2.2 = true) (hin2 : y.name = "<init>") (hdecl : (clT ci k).1 = y.cls) (hnr : ∀ z, narrow (clY ci k) (.ref z) = .ref z) (hft : ∀ z, fits (clY ci k) (.ref z) = true) (hd : decode cc pc = .ok (.putfield idx, 3))
    (kk : rn l E d a b y cc nL ret (pc + 3) ls st (n, S, up2 Rr o k q, D) Q) : rn l E d a b y cc nL ret pc ls (.inr (.inr q) :: .inr (.inr o) :: st) (n, S, Rr, D) Q := by
  intro p e R s m args below meth c mc ms Z C H locs cells slots arr hw hlo hc hs hl
  obtain ⟨hx, hb, hml, hown, hts, hlk, hnm, hSt, hdf, hdl, hrc, hrs, hZ⟩ := id C
  obtain ⟨hk1, hk2, hk3⟩ := hk
  have hap := cl_apart hts hSt hk1
  obtain ⟨cell, q1, q2, q3, q4⟩ := obj_at hw h16 hn hk1 hS
  obtain ⟨hSl, hfc, kC, hkC, hkind⟩ := hSt.2.1 ci hk1
  obtain ⟨cf, kf, fi, f, hi, hsl⟩ := hSl k hk2
  have hlay := hts _ (cl_in hk1 _ (u_in_lay hk2))
  unfold u_lay at hlay
  rw [if_pos hfin] at hlay
  have hst := (u_facts hfc hkC (u_lays hts (cl_in hk1) hk2) hi).1
  obtain ⟨zr, hzr⟩ := eR_at E hq
  have hcf : m.cls = cf := by
    obtain ⟨_, _, c', _, _, _, -, -, hf', -, -, -, hown2, -⟩ := Cond.laysFinal_spec hlay
    have e1 : c' = cf := by have := hi.symm.trans hf'; simp at this; exact this.1.symm
    rw [hdecl] at hown2
    rw [← e1]; exact Option.some.inj (hown.symm.trans hown2)
  have h6 := u_fits hfc hkC hkind (Or.inr hlay) hi (cl_ty hk1 k hk2) (hnr zr) (hft zr)
  have e0 : (Sum.inr (Sum.inr q) :: Sum.inr (Sum.inr o) :: st : List vV).map (eV E) = .ref zr :: .ref (ad E o) :: st.map (eV E) := by rw [← eR_o E h16, ← hzr]; rfl
  rw [e0]
  refine W.putFinK hx hb hown (hts _ hk3) hi hst hcf (hnm.trans hin2) (by rw [q2]; exact h6) q1 q3 (by rw [hsl]; exact k2_hasslot (q4 k hk2)) rfl rfl hd fun H' e1 e2 e3 => ?_
  rw [hsl] at e1 ⊢
  refine kk p e R s m args below meth c mc ms Z C H' _ cells slots arr (wd_set hw h16 e2 e3 ?_ (fun o' h9 => up2_o Rr k q h9) (fun _ _ => rfl)) ?_ hc hs hl
  · unfold cAt
    rw [if_pos (by rw [hS]; exact hk1)]
    rw [hS]
    refine t_OB.to (V := updV (fun k => if fT ci k = true then eR E (Rr o k) else .int (D o k)) k (.ref zr)) ⟨_, e1, q2, q3, t_set q4 hap hk2 _⟩ (fun j _ => ?_)
    unfold updV
    by_cases hj : j = k
    · subst hj
      rw [if_pos rfl, if_pos hf, up2_self, hzr]
    · rw [if_neg hj, up2_ne Rr q (fun z => hj z.2)]
  · intro q hq
    rcases List.mem_append.mp hq with h9 | h9
    · exact hlo q h9
    · rw [List.mem_singleton.mp h9]; show E.1 ≤ ad E o; unfold ad; omega
theorem rn_iald {N o : Nat} {i : Int32} (h16 : 18 ≤ o) (hn : o < 18 + n) (hS : S o = (10, N)) (hi : vp_in i N) (hd : decode cc pc = .ok (.iaload, 1))
    (kk : rn l E d a b y cc nL ret (pc + 1) ls (.inl (D o i.toNatClampNeg) :: st) (n, S, Rr, D) Q) : rn l E d a b y cc nL ret pc ls (.inl i :: .inr (.inr o) :: st) (n, S, Rr, D) Q := by
  intro p e R s m args below meth c mc ms Z C H locs cells slots arr hw hlo hc hs hl
  obtain ⟨hx, hb, hml, hown, hts, hlk, hnm, hSt, hdf, hdl, hrc, hrs, hZ⟩ := id C
  have hA := arr_at hw h16 hn (by omega) hS
  have hlt : i.toNatClampNeg < N := Nat.not_le.mp fun q => hi (Or.inr q)
  have e0 : (Sum.inl i :: Sum.inr (Sum.inr o) :: st : List vV).map (eV E) = .int i :: .ref (ad E o) :: st.map (eV E) := by rw [← eR_o E h16]; rfl
  rw [e0]
  exact W.iald (v := .int (D o i.toNatClampNeg)) hx hb hA ((hSt.2.2.1 10 (by omega) (by omega)).1 N _) (fun q => by cases q) (by rw [arrV_size]; exact hi) (by rw [arrV_read _ _ hlt]; rfl) rfl rfl hd (kk p e R s m args below meth c mc ms Z C H locs cells slots arr hw hlo hc hs hl)
theorem rn_zald {N o : Nat} {i : Int32} (h16 : 18 ≤ o) (hn : o < 18 + n) (hS : S o = (11, N)) (hi : vp_in i N) (hd : decode cc pc = .ok (.baload, 1))
    (kk : rn l E d a b y cc nL ret (pc + 1) ls (.inl (D o i.toNatClampNeg) :: st) (n, S, Rr, D) Q) : rn l E d a b y cc nL ret pc ls (.inl i :: .inr (.inr o) :: st) (n, S, Rr, D) Q := by
  intro p e R s m args below meth c mc ms Z C H locs cells slots arr hw hlo hc hs hl
  obtain ⟨hx, hb, hml, hown, hts, hlk, hnm, hSt, hdf, hdl, hrc, hrs, hZ⟩ := id C
  have hA := arr_at hw h16 hn (by omega) hS
  have hlt : i.toNatClampNeg < N := Nat.not_le.mp fun q => hi (Or.inr q)
  have e0 : (Sum.inl i :: Sum.inr (Sum.inr o) :: st : List vV).map (eV E) = .int i :: .ref (ad E o) :: st.map (eV E) := by rw [← eR_o E h16]; rfl
  rw [e0]
  exact W.zald (v := .int (D o i.toNatClampNeg)) hx hb hA ((hSt.2.2.1 11 (by omega) (by omega)).1 N _) (fun q => by cases q) (by rw [arrV_size]; exact hi) (by rw [arrV_read _ _ hlt]; rfl) rfl rfl hd (kk p e R s m args below meth c mc ms Z C H locs cells slots arr hw hlo hc hs hl)
theorem rn_aald {kd N o q : Nat} {i : Int32} (h16 : 18 ≤ o) (hn : o < 18 + n) (hk1 : 12 ≤ kd) (hk2 : kd < 15) (hS : S o = (kd, N)) (hi : vp_in i N) (hq : Rr o i.toNatClampNeg = q) (hd : decode cc pc = .ok (.aaload, 1))
    (kk : rn l E d a b y cc nL ret (pc + 1) ls (.inr (.inr q) :: st) (n, S, Rr, D) Q) : rn l E d a b y cc nL ret pc ls (.inl i :: .inr (.inr o) :: st) (n, S, Rr, D) Q := by
  intro p e R s m args below meth c mc ms Z C H locs cells slots arr hw hlo hc hs hl
  obtain ⟨hx, hb, hml, hown, hts, hlk, hnm, hSt, hdf, hdl, hrc, hrs, hZ⟩ := id C
  have hA := arr_at hw h16 hn (by omega) hS
  have hlt : i.toNatClampNeg < N := Nat.not_le.mp fun q => hi (Or.inr q)
  have e0 : (Sum.inl i :: Sum.inr (Sum.inr o) :: st : List vV).map (eV E) = .int i :: .ref (ad E o) :: st.map (eV E) := by rw [← eR_o E h16]; rfl
  rw [e0]
  subst hq
  have hty : (aTy kd).isReference = true := by
    rcases (show kd = 12 ∨ kd = 13 ∨ kd = 14 by omega) with rfl | rfl | rfl <;> rfl
  exact W.aald (v := eR E (Rr o i.toNatClampNeg)) hx hb hA ((hSt.2.2.1 kd (by omega) (by omega)).1 N _) hty (fun q => by cases q) (by rw [arrV_size]; exact hi) (by rw [arrV_read _ _ hlt, if_neg (by omega)]) rfl rfl hd (kk p e R s m args below meth c mc ms Z C H locs cells slots arr hw hlo hc hs hl)
theorem rn_alen {kd N o : Nat} {v : Int32} (h16 : 18 ≤ o) (hn : o < 18 + n) (hk1 : 10 ≤ kd) (hk2 : kd < 15) (hS : S o = (kd, N)) (hv : Int32.ofNat N = v) (hd : decode cc pc = .ok (.arraylength, 1))
    (kk : rn l E d a b y cc nL ret (pc + 1) ls (.inl v :: st) (n, S, Rr, D) Q) : rn l E d a b y cc nL ret pc ls (.inr (.inr o) :: st) (n, S, Rr, D) Q := by
  intro p e R s m args below meth c mc ms Z C H locs cells slots arr hw hlo hc hs hl
  obtain ⟨hx, hb, hml, hown, hts, hlk, hnm, hSt, hdf, hdl, hrc, hrs, hZ⟩ := id C
  have hA := arr_at hw h16 hn (by omega) hS
  have e0 : (Sum.inr (Sum.inr o) :: st : List vV).map (eV E) = .ref (ad E o) :: st.map (eV E) := by rw [← eR_o E h16]; rfl
  rw [e0]
  exact W.alen (n := v) hx hb hA ((hSt.2.2.1 kd (by omega) (by omega)).1 N _) (by rw [arrV_size, ← hv] <;> rfl) rfl rfl hd (kk p e R s m args below meth c mc ms Z C H locs cells slots arr hw hlo hc hs hl)
theorem arr_put {kd N o j : Nat} {H' : Heap} {Rr' : Nat → Nat → Nat} {D' : Nat → Nat → Int32} {w : Value} (hc : 10 ≤ kd) (hS : S o = (kd, N)) (e : H'[ad E o]? = some ((arrV (E.2.2.2.2.1 kd) N (fun j => if kd < 12 then .int (D o j) else eR E (Rr o j))).setSlot j w))
    (he : updV (fun j => if kd < 12 then .int (D o j) else eR E (Rr o j)) j w = fun j => if kd < 12 then .int (D' o j) else eR E (Rr' o j)) : cAt E o (S o) (Rr' o) (D' o) H' := by
  unfold cAt
  rw [if_neg (by rw [hS]; show ¬ kd < 6; omega), e, arrV_store, he, hS]
theorem locs_add {locs : List Loc} {o k : Nat} (hlo : ∀ q ∈ locs, E.1 ≤ q.base) : ∀ q ∈ locs ++ [⟨ad E o, k⟩], E.1 ≤ q.base := by
  intro q hq
  rcases List.mem_append.mp hq with h9 | h9
  · exact hlo q h9
  · rw [List.mem_singleton.mp h9]; show E.1 ≤ ad E o; unfold ad; omega
theorem rn_iast {N o : Nat} {i v : Int32} (h16 : 18 ≤ o) (hn : o < 18 + n) (hS : S o = (10, N)) (hi : vp_in i N) (hd : decode cc pc = .ok (.iastore, 1))
    (kk : rn l E d a b y cc nL ret (pc + 1) ls st (n, S, Rr, up2 D o i.toNatClampNeg v) Q) : rn l E d a b y cc nL ret pc ls (.inl v :: .inl i :: .inr (.inr o) :: st) (n, S, Rr, D) Q := by
  intro p e R s m args below meth c mc ms Z C H locs cells slots arr hw hlo hc hs hl
  obtain ⟨hx, hb, hml, hown, hts, hlk, hnm, hSt, hdf, hdl, hrc, hrs, hZ⟩ := id C
  have hA := arr_at hw h16 hn (by omega) hS
  have e0 : (Sum.inl v :: Sum.inl i :: Sum.inr (Sum.inr o) :: st : List vV).map (eV E) = .int v :: .int i :: .ref (ad E o) :: st.map (eV E) := by rw [← eR_o E h16]; rfl
  rw [e0]
  refine W.iast hx hb hA ((hSt.2.2.1 10 (by omega) (by omega)).1 N _) (fun q => by cases q) (by rw [arrV_size]; exact hi) rfl rfl hd fun H' e1 e2 e3 => ?_
  refine kk p e R s m args below meth c mc ms Z C H' _ cells slots arr (wd_set hw h16 e2 e3 (arr_put (by omega) hS e1 ?_) (fun _ _ => rfl) (fun o' h9 => up2_o D _ v h9)) (locs_add hlo) hc hs hl
  funext j
  unfold updV
  by_cases hj : j = i.toNatClampNeg
  · rw [if_pos hj, hj]; simp [up2_self]
  · rw [if_neg hj, up2_ne D v (fun z => hj z.2)]
theorem rn_zast {N o : Nat} {i v : Int32} (h16 : 18 ≤ o) (hn : o < 18 + n) (hS : S o = (11, N)) (hi : vp_in i N) (hv : narrow .boolean (.int v) = .int v) (hd : decode cc pc = .ok (.bastore, 1))
    (kk : rn l E d a b y cc nL ret (pc + 1) ls st (n, S, Rr, up2 D o i.toNatClampNeg v) Q) : rn l E d a b y cc nL ret pc ls (.inl v :: .inl i :: .inr (.inr o) :: st) (n, S, Rr, D) Q := by
  intro p e R s m args below meth c mc ms Z C H locs cells slots arr hw hlo hc hs hl
  obtain ⟨hx, hb, hml, hown, hts, hlk, hnm, hSt, hdf, hdl, hrc, hrs, hZ⟩ := id C
  have hA := arr_at hw h16 hn (by omega) hS
  have e0 : (Sum.inl v :: Sum.inl i :: Sum.inr (Sum.inr o) :: st : List vV).map (eV E) = .int v :: .int i :: .ref (ad E o) :: st.map (eV E) := by rw [← eR_o E h16]; rfl
  rw [e0]
  refine W.zast hx hb hA ((hSt.2.2.1 11 (by omega) (by omega)).1 N _) (fun q => by cases q) (by rw [arrV_size]; exact hi) rfl rfl hd fun H' e1 e2 e3 => ?_
  rw [hv] at e1
  refine kk p e R s m args below meth c mc ms Z C H' _ cells slots arr (wd_set hw h16 e2 e3 (arr_put (by omega) hS e1 ?_) (fun _ _ => rfl) (fun o' h9 => up2_o D _ v h9)) (locs_add hlo) hc hs hl
  funext j
  unfold updV
  by_cases hj : j = i.toNatClampNeg
  · rw [if_pos hj, hj]; simp [up2_self]
  · rw [if_neg hj, up2_ne D v (fun z => hj z.2)]
def aCl (kd : Nat) : Nat := match kd with | 12 => 4 | 13 => 2 | _ => 0
theorem rn_aast {kd N o q : Nat} {i : Int32} (h16 : 18 ≤ o) (hn : o < 18 + n) (hk1 : 12 ≤ kd) (hk2 : kd < 15) (hS : S o = (kd, N)) (hi : vp_in i N) (hq1 : 18 ≤ q) (hq2 : q < 18 + n) (hq3 : (S q).1 = aCl kd) (hd : decode cc pc = .ok (.aastore, 1))
    (kk : rn l E d a b y cc nL ret (pc + 1) ls st (n, S, up2 Rr o i.toNatClampNeg q, D) Q) : rn l E d a b y cc nL ret pc ls (.inr (.inr q) :: .inl i :: .inr (.inr o) :: st) (n, S, Rr, D) Q := by
  intro p e R s m args below meth c mc ms Z C H locs cells slots arr hw hlo hc hs hl
  obtain ⟨hx, hb, hml, hown, hts, hlk, hnm, hSt, hdf, hdl, hrc, hrs, hZ⟩ := id C
  have hA := arr_at hw h16 hn (by omega) hS
  have e0 : (Sum.inr (Sum.inr q) :: Sum.inl i :: Sum.inr (Sum.inr o) :: st : List vV).map (eV E) = .ref (ad E q) :: .int i :: .ref (ad E o) :: st.map (eV E) := by rw [← eR_o E h16, ← eR_o E hq1]; rfl
  rw [e0]
  have hc7 : aCl kd < 6 := by
    rcases (show kd = 12 ∨ kd = 13 ∨ kd = 14 by omega) with rfl | rfl | rfl <;> decide
  have haty : aTy kd = .object (clC (aCl kd)) := by
    rcases (show kd = 12 ∨ kd = 13 ∨ kd = 14 by omega) with rfl | rfl | rfl <;> rfl
  obtain ⟨cellV, g1, g2, g3, -⟩ := obj_at hw hq1 hq2 hc7 hq3
  have hcls := (hSt.2.1 _ hc7).2
  have hRA := (hSt.2.2.1 kd (by omega) (by omega)).2
  rw [haty] at hRA
  obtain ⟨kA, comp, k1, k2, k3, -⟩ := hRA
  have hcomp : comp = E.2.2.2.1.1 (aCl kd) := Option.some.inj (k3.symm.trans hcls.1)
  subst hcomp
  obtain ⟨kC, hkC, -⟩ := id hcls.2
  refine W.aast hx hb hA (fun q h => by cases h) (fun h => by cases h) k1 k2 rfl hkC ⟨fun z => hi (Or.inl z), by rw [arrV_size]; exact Nat.not_le.mp fun z => hi (Or.inr z)⟩ g1 (fun q h => by rw [g3] at h; cases h) (by rw [g2]; exact hkC) (by rw [g2]; exact va_assign hcls) rfl rfl hd fun H' e1 e2 e3 => ?_
  refine kk p e R s m args below meth c mc ms Z C H' _ cells slots arr (wd_set hw h16 e2 e3 (arr_put (by omega) hS e1 ?_) (fun o' h9 => up2_o Rr _ q h9) (fun _ _ => rfl)) (locs_add hlo) hc hs hl
  funext j
  unfold updV
  by_cases hj : j = i.toNatClampNeg
  · rw [if_pos hj, hj, if_neg (by omega), up2_self, eR_o E hq1]
  · rw [if_neg hj, up2_ne Rr q (fun z => hj z.2)]

end RH