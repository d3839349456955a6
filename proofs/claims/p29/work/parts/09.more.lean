section MO
variable {l : Launch} {E : eE} {d a b : Nat} {y : MethodName} {cc : ByteArray} {nL : Nat} {ret : Option FieldType} {pc : Nat} {ls : List (Nat × vV)} {st : List vV} {h : hP} {Q : Option vV → hP → Prop}
theorem rn_mmin {idx : Nat} {x1 x2 : Int32} (h1 : Cond.methodLink y.cls idx Lib.Math.min.name ∈ allw) (hW : (st.map vcat).sum ≤ 8) (hd : decode cc pc = .ok (.invokestatic idx, 3)) (k : rn l E (d + 1) a b y cc nL ret (pc + 3) ls (.inl (if x2 < x1 then x2 else x1) :: st) h Q) : rn l E (d + 1) a b y cc nL ret pc ls (.inl x2 :: .inl x1 :: st) h Q := by
  intro p e R s m args below meth c mc ms Z C H locs cells slots arr hw hlo hc hs hl
  obtain ⟨hx, hb, hml, hown, hts, hlk, hnm, hSt, hdf, hdl, hrc, hrs, hZ⟩ := id C
  exact va_mmin hx hb (hml.trans hl.1.symm) hown (hts _ h1) (hts _ mth_min_s) (hts _ mth_i) (hts _ mth_min_c) (by omega) (by rw [cat_sum]; omega) (by omega) (by omega) hd (k p e R s m args below meth c mc ms Z C H locs cells slots arr hw hlo hc hs hl)
theorem rn_mmax {idx : Nat} {x1 x2 : Int32} (h1 : Cond.methodLink y.cls idx Lib.Math.max.name ∈ allw) (hW : (st.map vcat).sum ≤ 8) (hd : decode cc pc = .ok (.invokestatic idx, 3)) (k : rn l E (d + 1) a b y cc nL ret (pc + 3) ls (.inl (if x1 < x2 then x2 else x1) :: st) h Q) : rn l E (d + 1) a b y cc nL ret pc ls (.inl x2 :: .inl x1 :: st) h Q := by
  intro p e R s m args below meth c mc ms Z C H locs cells slots arr hw hlo hc hs hl
  obtain ⟨hx, hb, hml, hown, hts, hlk, hnm, hSt, hdf, hdl, hrc, hrs, hZ⟩ := id C
  exact va_mmax hx hb (hml.trans hl.1.symm) hown (hts _ h1) (hts _ mth_max_s) (hts _ mth_i) (hts _ mth_max_c) (by omega) (by rw [cat_sum]; omega) (by omega) (by omega) hd (k p e R s m args below meth c mc ms Z C H locs cells slots arr hw hlo hc hs hl)
/-- the law's script -/
theorem rn_scald {i : Int32} (hi : vp_in i E.2.2.2.2.2.1) (hd : decode cc pc = .ok (.iaload, 1))
    (kk : rn l E d a b y cc nL ret (pc + 1) ls (.inl (E.2.2.2.2.2.2 i.toNatClampNeg) :: st) h Q) : rn l E d a b y cc nL ret pc ls (.inl i :: .inr (.inr 17) :: st) h Q := by
  intro p e R s m args below meth c mc ms Z C H locs cells slots arr hw hlo hc hs hl
  obtain ⟨hx, hb, hml, hown, hts, hlk, hnm, hSt, hdf, hdl, hrc, hrs, hZ⟩ := id C
  obtain ⟨⟨scr, g1, g2, g3, g4, g5⟩, g6, g7⟩ := hSt.2.2.2.2.2.2.2.2.2.2
  have hlt : i.toNatClampNeg < E.2.2.2.2.2.1 := Nat.not_le.mp fun q => hi (Or.inr q)
  have e0 : (Sum.inl i :: Sum.inr (Sum.inr 17) :: st : List vV).map (eV E) = .int i :: .ref (E.2.2.1 17) :: st.map (eV E) := by rw [← eR_s (by omega) (by omega)]; rfl
  rw [e0]
  exact W.iald (v := .int (E.2.2.2.2.2.2 i.toNatClampNeg)) hx hb (by rw [hw.2.1 _ g6]; exact g1) g2 g3 (by rw [g4]; exact hi) (g5 _ hlt) rfl rfl hd (kk p e R s m args below meth c mc ms Z C H locs cells slots arr hw hlo hc hs hl)
theorem rn_sclen (hd : decode cc pc = .ok (.arraylength, 1))
    (kk : rn l E d a b y cc nL ret (pc + 1) ls (.inl (Int32.ofNat E.2.2.2.2.2.1) :: st) h Q) : rn l E d a b y cc nL ret pc ls (.inr (.inr 17) :: st) h Q := by
  intro p e R s m args below meth c mc ms Z C H locs cells slots arr hw hlo hc hs hl
  obtain ⟨hx, hb, hml, hown, hts, hlk, hnm, hSt, hdf, hdl, hrc, hrs, hZ⟩ := id C
  obtain ⟨⟨scr, g1, g2, g3, g4, g5⟩, g6, g7⟩ := hSt.2.2.2.2.2.2.2.2.2.2
  have e0 : (Sum.inr (Sum.inr 17) :: st : List vV).map (eV E) = .ref (E.2.2.1 17) :: st.map (eV E) := by rw [← eR_s (by omega) (by omega)]; rfl
  rw [e0]
  exact W.alen (n := Int32.ofNat E.2.2.2.2.2.1) hx hb (by rw [hw.2.1 _ g6]; exact g1) g2 (by rw [g4] <;> rfl) rfl rfl hd (kk p e R s m args below meth c mc ms Z C H locs cells slots arr hw hlo hc hs hl)
theorem rn_scald2 {i : Int32} {sL : Nat} {sX : Nat → Int32} (hX : E.2.2.2.2.2.2 = sX) (hL : E.2.2.2.2.2.1 = sL) (hi : vp_in i sL) (hd : decode cc pc = .ok (.iaload, 1))
    (kk : rn l E d a b y cc nL ret (pc + 1) ls (.inl (sX i.toNatClampNeg) :: st) h Q) : rn l E d a b y cc nL ret pc ls (.inl i :: .inr (.inr 17) :: st) h Q := by
  subst hX; subst hL
  exact rn_scald hi hd kk
theorem rn_sclen2 {sL : Nat} (hL : E.2.2.2.2.2.1 = sL) (hd : decode cc pc = .ok (.arraylength, 1))
    (kk : rn l E d a b y cc nL ret (pc + 1) ls (.inl (Int32.ofNat sL) :: st) h Q) : rn l E d a b y cc nL ret pc ls (.inr (.inr 17) :: st) h Q := by
  subst hL
  exact rn_sclen hd kk
end MO
theorem cn_L_8 : Cond.constantLong RL 8 (3) ∈ allw := aw (List.mem_append_right _ (List.mem_of_getElem? (i := 293) (by decide +kernel))) rfl
theorem cn_L_10 : Cond.constantLong RL 10 (31) ∈ allw := aw (List.mem_append_right _ (List.mem_of_getElem? (i := 294) (by decide +kernel))) rfl
theorem cn_L_7 : Cond.constant RL 7 (2147483647) ∈ allw := aw (List.mem_append_right _ (List.mem_of_getElem? (i := 347) (by decide +kernel))) rfl
theorem cn_J6_265 : Cond.constant RJ6 265 (1431655765) ∈ allw := aw (List.mem_append_right _ (List.mem_of_getElem? (i := 417) (by decide +kernel))) rfl
theorem cn_J6_266 : Cond.constant RJ6 266 (858993459) ∈ allw := aw (List.mem_append_right _ (List.mem_of_getElem? (i := 418) (by decide +kernel))) rfl
theorem cn_J6_267 : Cond.constant RJ6 267 (252645135) ∈ allw := aw (List.mem_append_right _ (List.mem_of_getElem? (i := 419) (by decide +kernel))) rfl
