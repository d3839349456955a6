theorem dJ3_checkIndex_8e157_0 : decode cJ3_checkIndex_8e157 0 = .ok (.iload_n 0, 1) := by decide +kernel
theorem dJ3_checkIndex_8e157_1 : decode cJ3_checkIndex_8e157 1 = .ok (.ifCond .lt 8, 3) := by decide +kernel
theorem dJ3_checkIndex_8e157_4 : decode cJ3_checkIndex_8e157 4 = .ok (.iload_n 0, 1) := by decide +kernel
theorem dJ3_checkIndex_8e157_5 : decode cJ3_checkIndex_8e157 5 = .ok (.iload_n 1, 1) := by decide +kernel
theorem dJ3_checkIndex_8e157_6 : decode cJ3_checkIndex_8e157 6 = .ok (.if_icmp .lt 10, 3) := by decide +kernel
theorem dJ3_checkIndex_8e157_9 : decode cJ3_checkIndex_8e157 9 = .ok (.aload_n 2, 1) := by decide +kernel
theorem dJ3_checkIndex_8e157_10 : decode cJ3_checkIndex_8e157 10 = .ok (.iload_n 0, 1) := by decide +kernel
theorem dJ3_checkIndex_8e157_11 : decode cJ3_checkIndex_8e157 11 = .ok (.iload_n 1, 1) := by decide +kernel
theorem dJ3_checkIndex_8e157_12 : decode cJ3_checkIndex_8e157 12 = .ok (.invokestatic 95, 3) := by decide +kernel
theorem dJ3_checkIndex_8e157_15 : decode cJ3_checkIndex_8e157 15 = .ok (.athrow, 1) := by decide +kernel
theorem dJ3_checkIndex_8e157_16 : decode cJ3_checkIndex_8e157 16 = .ok (.iload_n 0, 1) := by decide +kernel
theorem dJ3_checkIndex_8e157_17 : decode cJ3_checkIndex_8e157 17 = .ok (.ireturn, 1) := by decide +kernel
section MO
variable {l : Launch} {E : eE} {d a b : Nat} {y : MethodName} {cc : ByteArray} {nL : Nat} {ret : Option FieldType} {pc : Nat} {ls : List (Nat × vV)} {st : List vV} {h : hP} {Q : Option vV → hP → Prop}
theorem rn_mmin {idx : Nat} {x1 x2 : Int32} (h1 : Cond.methodLink y.cls idx Lib.Math.min.name ∈ allw) (hW : (st.map vcat).sum ≤ 8) (hd : decode cc pc = .ok (.invokestatic idx, 3)) (k : rn l E (d + 1) a b y cc nL ret (pc + 3) ls (.inl (if x2 < x1 then x2 else x1) :: st) h Q) : rn l E (d + 1) a b y cc nL ret pc ls (.inl x2 :: .inl x1 :: st) h Q := by
  intro p e R s m args below meth c mc ms Z C H locs cells slots arr hw hlo hc hs hl
  obtain ⟨hx, hb, hml, hown, hts, hlk, hnm, hSt, hdf, hdl, hrc, hrs, hZ⟩ := id C
  exact va_mmin hx hb (hml.trans hl.1.symm) hown (hts _ h1) (hts _ mth_min_s) (hts _ mth_i) (hts _ mth_min_c) (by omega) (by rw [cat_sum]; omega) (by omega) (by omega) hd (k p e R s m args below meth c mc ms Z C H locs cells slots arr hw hlo hc hs hl)
theorem rn_mmax {idx : Nat} {x1 x2 : Int32} (h1 : Cond.methodLink y.cls idx Lib.Math.max.name ∈ allw) (hW : (st.map vcat).sum ≤ 8) (hd : decode cc pc = .ok (.invokestatic idx, 3)) (k : rn l E (d + 1) a b y cc nL ret (pc + 3) ls (.inl (if x1 < x2 then x2 else x1) :: st) h Q) : rn l E (d + 1) a b y cc nL ret pc ls (.inl x2 :: .inl x1 :: st) h Q := by
  intro p e R s m args below meth c mc ms Z C H locs cells slots arr hw hlo hc hs hl
  obtain ⟨hx, hb, hml, hown, hts, hlk, hnm, hSt, hdf, hdl, hrc, hrs, hZ⟩ := id C
  exact va_mmax hx hb (hml.trans hl.1.symm) hown (hts _ h1) (hts _ mth_max_s) (hts _ mth_i) (hts _ mth_max_c) (by omega) (by rw [cat_sum]; omega) (by omega) (by omega) hd (k p e R s m args below meth c mc ms Z C H locs cells slots arr hw hlo hc hs hl)
theorem sa_lt {s : State} {o n d' : String} {v : Value} {t : Nat} (h : va_OF o n d' v t (bA E) s E.2.1) : t < E.1 := by
  obtain ⟨_, _, _, _, _, _, _, _, _, _, h7⟩ := h
  exact Nat.not_le.mp h7
theorem rn_strf {idx k : Nat} {nm ds : String} {v : vV} (h4 : 4 ≤ k) (h10 : k < 10) (hOF : ∀ s, St E s → va_OF "java/lang/String" nm ds (eV E v) (E.2.2.1 k) (bA E) s E.2.1) (hk : Cond.fieldLink y.cls idx "java/lang/String" nm ds ∈ allw) (hd : decode cc pc = .ok (.getfield idx, 3))
    (kk : rn l E d a b y cc nL ret (pc + 3) ls (v :: st) h Q) : rn l E d a b y cc nL ret pc ls (.inr (.inr k) :: st) h Q := by
  intro p e R s m args below meth c mc ms Z C H locs cells slots arr hw hlo hc hs hl
  obtain ⟨hx, hb, hml, hown, hts, hlk, hnm, hSt, hdf, hdl, hrc, hrs, hZ⟩ := id C
  obtain ⟨cf, kf, i, f, cell, g1, g2, g3, g4, g5, g6⟩ := hOF s hSt
  have e0 : (Sum.inr (Sum.inr k) :: st : List vV).map (eV E) = .ref (E.2.2.1 k) :: st.map (eV E) := by rw [← eR_s (by omega) (by omega)]; rfl
  rw [e0]
  exact W.getf hx hb hown (hts _ hk) g1 g2 (by rw [hw.2.1 _ (Nat.not_le.mp g6)]; exact g3) g4 (v := eV E v) g5 rfl rfl hd (kk p e R s m args below meth c mc ms Z C H locs cells slots arr hw hlo hc hs hl)
/-- a text's bytes -/
theorem rn_strV {idx k : Nat} (h4 : 4 ≤ k) (h10 : k < 10) (hk : Cond.fieldLink y.cls idx "java/lang/String" "value" "[B" ∈ allw) (hd : decode cc pc = .ok (.getfield idx, 3))
    (kk : rn l E d a b y cc nL ret (pc + 3) ls (.inr (.inr (k + 6)) :: st) h Q) : rn l E d a b y cc nL ret pc ls (.inr (.inr k) :: st) h Q := by
  refine rn_strf (v := .inr (.inr (k + 6))) h4 h10 (fun s hSt => ?_) hk hd kk
  have h := (hSt.2.2.2.2.2.2.2.1.1 (k - 4) (by omega)).2.2.1
  dsimp only at h
  rw [show 4 + (k - 4) = k by omega, show 10 + (k - 4) = k + 6 by omega] at h
  rw [show eV E (.inr (.inr (k + 6))) = .ref (E.2.2.1 (k + 6)) from eR_s (by omega) (by omega)]
  exact h
theorem rn_strC {idx k : Nat} (h4 : 4 ≤ k) (h10 : k < 10) (hk : Cond.fieldLink y.cls idx "java/lang/String" "coder" "B" ∈ allw) (hd : decode cc pc = .ok (.getfield idx, 3))
    (kk : rn l E d a b y cc nL ret (pc + 3) ls (.inl 0 :: st) h Q) : rn l E d a b y cc nL ret pc ls (.inr (.inr k) :: st) h Q := by
  refine rn_strf (v := .inl 0) h4 h10 (fun s hSt => ?_) hk hd kk
  have h := (hSt.2.2.2.2.2.2.2.1.1 (k - 4) (by omega)).2.1
  dsimp only at h
  rw [show 4 + (k - 4) = k by omega] at h
  exact h
theorem sby_at {s : State} (hSt : St E s) {k : Nat} (h10 : 10 ≤ k) (h16 : k < 16) : va_T .byte (E.2.2.1 k) (tLen.getD (k - 10) 0) (fun j => .int ((tByt.getD (k - 10) []).getD j 0)) (bA E) s E.2.1 := by
  have h := (hSt.2.2.2.2.2.2.2.1.1 (k - 10) (by omega)).2.2.2
  dsimp only at h
  rw [show 10 + (k - 10) = k by omega] at h
  exact h
theorem rn_sblen {k : Nat} {v : Int32} (h10 : 10 ≤ k) (h16 : k < 16) (hv : Int32.ofNat (tLen.getD (k - 10) 0) = v) (hd : decode cc pc = .ok (.arraylength, 1))
    (kk : rn l E d a b y cc nL ret (pc + 1) ls (.inl v :: st) h Q) : rn l E d a b y cc nL ret pc ls (.inr (.inr k) :: st) h Q := by
  intro p e R s m args below meth c mc ms Z C H locs cells slots arr hw hlo hc hs hl
  obtain ⟨hx, hb, hml, hown, hts, hlk, hnm, hSt, hdf, hdl, hrc, hrs, hZ⟩ := id C
  obtain ⟨cell, g1, g2, g3, g4, g5, g6, g7⟩ := sby_at hSt h10 h16
  have e0 : (Sum.inr (Sum.inr k) :: st : List vV).map (eV E) = .ref (E.2.2.1 k) :: st.map (eV E) := by rw [← eR_s (by omega) (by omega)]; rfl
  rw [e0]
  exact W.alen (n := v) hx hb (by rw [hw.2.1 _ (Nat.not_le.mp g7)]; exact g1) g2 (by rw [g5, hv]) rfl rfl hd (kk p e R s m args below meth c mc ms Z C H locs cells slots arr hw hlo hc hs hl)
theorem tLen_lt (k : Nat) : tLen.getD k 0 < 2 ^ 31 := by
  match k with
  | 0 => decide
  | 1 => decide
  | 2 => decide
  | 3 => decide
  | 4 => decide
  | 5 => decide
  | k + 6 => show 0 < 2 ^ 31; decide
theorem rn_sbald {k : Nat} {i : Int32} (h10 : 10 ≤ k) (h16 : k < 16) (hi : vp_in i (tLen.getD (k - 10) 0)) (hd : decode cc pc = .ok (.baload, 1))
    (kk : rn l E d a b y cc nL ret (pc + 1) ls (.inl ((tByt.getD (k - 10) []).getD i.toNatClampNeg 0) :: st) h Q) : rn l E d a b y cc nL ret pc ls (.inl i :: .inr (.inr k) :: st) h Q := by
  intro p e R s m args below meth c mc ms Z C H locs cells slots arr hw hlo hc hs hl
  obtain ⟨hx, hb, hml, hown, hts, hlk, hnm, hSt, hdf, hdl, hrc, hrs, hZ⟩ := id C
  obtain ⟨cell, g1, g2, g3, g4, g5, g6, g7⟩ := sby_at hSt h10 h16
  have hlt : i.toNatClampNeg < tLen.getD (k - 10) 0 := Nat.not_le.mp fun q => hi (Or.inr q)
  have e0 : (Sum.inl i :: Sum.inr (Sum.inr k) :: st : List vV).map (eV E) = .int i :: .ref (E.2.2.1 k) :: st.map (eV E) := by rw [← eR_s (by omega) (by omega)]; rfl
  rw [e0]
  exact W.bald (v := .int ((tByt.getD (k - 10) []).getD i.toNatClampNeg 0)) hx hb (by rw [hw.2.1 _ (Nat.not_le.mp g7)]; exact g1) g2 g3 (fun z => z.elim (fun z => hi (Or.inl z)) (fun z => by omega)) (g6 _ hlt) rfl rfl hd (kk p e R s m args below meth c mc ms Z C H locs cells slots arr hw hlo hc hs hl)
theorem rn_getz {idx : Nat} {n ds Cn : String} {v : vV} (hZ9 : ∀ s, St E s → va_Z Cn n ds (eV E v) (bA E) s E.2.1) (hk : Cond.fieldLink y.cls idx Cn n ds ∈ allw) (hd : decode cc pc = .ok (.getstatic idx, 3))
    (kk : rn l E d a b y cc nL ret (pc + 3) ls (v :: st) h Q) : rn l E d a b y cc nL ret pc ls st h Q := by
  intro p e R s m args below meth c mc ms Z C H locs cells slots arr hw hlo hc hs hl
  obtain ⟨hx, hb, hml, hown, hts, hlk, hnm, hSt, hdf, hdl, hrc, hrs, hZ⟩ := id C
  obtain ⟨cf, kf, fi, f, q, cell, g1, g2, g3, g4, g5, g6, g7, g8⟩ := hZ9 s hSt
  exact W.gets hx hb hown (hts _ hk) g1 g2 g3 g4 (by rw [hw.2.1 q (Nat.not_le.mp g8)]; exact g5) (fun z => by rw [z] at g6; cases g6) g7 rfl hd (kk p e R s m args below meth c mc ms Z C H locs cells slots arr hw hlo hc hs hl)
theorem rn_getsC {idx : Nat} (hk : Cond.fieldLink y.cls idx "java/lang/String" "COMPACT_STRINGS" "Z" ∈ allw) (hd : decode cc pc = .ok (.getstatic idx, 3))
    (kk : rn l E d a b y cc nL ret (pc + 3) ls (.inl 1 :: st) h Q) : rn l E d a b y cc nL ret pc ls st h Q :=
  rn_getz (v := .inl 1) (fun s hSt => hSt.2.2.2.2.2.2.1) hk hd kk
/-- the formatter of the machine's own throws: null or not -/
theorem rn_getsF {idx : Nat} (hk : Cond.fieldLink y.cls idx "jdk/internal/util/Preconditions" "SIOOBE_FORMATTER" "Ljava/util/function/BiFunction;" ∈ allw) (hd : decode cc pc = .ok (.getstatic idx, 3))
    (kk : ∀ k, rn l E d a b y cc nL ret (pc + 3) ls (.inr (.inr k) :: st) h Q) : rn l E d a b y cc nL ret pc ls st h Q := by
  intro p e R s m args below meth c mc ms Z C H locs cells slots arr hw hlo hc hs hl
  obtain ⟨hx, hb, hml, hown, hts, hlk, hnm, hSt, hdf, hdl, hrc, hrs, hZ⟩ := id C
  have h9 : ∃ k, va_Z "jdk/internal/util/Preconditions" "SIOOBE_FORMATTER" "Ljava/util/function/BiFunction;" (eR E k) (bA E) s E.2.1 := by
    rcases hSt.2.2.2.2.2.2.2.2.2.1 with h | h
    · exact ⟨0, h⟩
    · exact ⟨16, by rw [eR_s (by omega) (by omega)]; exact h⟩
  obtain ⟨k, cf, kf, fi, f, q, cell, g1, g2, g3, g4, g5, g6, g7, g8⟩ := h9
  exact W.gets hx hb hown (hts _ hk) g1 g2 g3 g4 (by rw [hw.2.1 q (Nat.not_le.mp g8)]; exact g5) (fun z => by rw [z] at g6; cases g6) g7 rfl hd (kk k p e R s m args below meth c mc ms Z C H locs cells slots arr hw hlo hc hs hl)
/-- the law's script -/
theorem rn_scald {i : Int32} (hi : vp_in i E.2.2.2.2.2.1) (hd : decode cc pc = .ok (.iaload, 1))
    (kk : rn l E d a b y cc nL ret (pc + 1) ls (.inl (E.2.2.2.2.2.2 i.toNatClampNeg) :: st) h Q) : rn l E d a b y cc nL ret pc ls (.inl i :: .inr (.inr 17) :: st) h Q := by
  intro p e R s m args below meth c mc ms Z C H locs cells slots arr hw hlo hc hs hl
  obtain ⟨hx, hb, hml, hown, hts, hlk, hnm, hSt, hdf, hdl, hrc, hrs, hZ⟩ := id C
  obtain ⟨⟨scr, g1, g2, g3, g4, g5⟩, g6, g7⟩ := hSt.2.2.2.2.2.2.2.2.2.2
  have hlt : i.toNatClampNeg < E.2.2.2.2.2.1 := Nat.not_le.mp fun q => hi (Or.inr q)
  have e0 : (Sum.inl i :: Sum.inr (Sum.inr 17) :: st : List vV).map (eV E) = .int i :: .ref (E.2.2.1 17) :: st.map (eV E) := by rw [← eR_s (by omega) (by omega)]; rfl
  rw [e0]
  exact W.iald (v := .int (E.2.2.2.2.2.2 i.toNatClampNeg)) hx hb (by rw [hw.2.1 _ g6]; exact g1) g2 g3 (by rw [g4]; exact hi) (g5 _ hlt) rfl rfl hd (kk p e R s m args below meth c mc ms Z C H locs cells slots arr hw hlo hc hs hl)
theorem rn_sclen (hd : decode cc pc = .ok (.arraylength, 1))
    (kk : rn l E d a b y cc nL ret (pc + 1) ls (.inl (Int32.ofNat E.2.2.2.2.2.1) :: st) h Q) : rn l E d a b y cc nL ret pc ls (.inr (.inr 17) :: st) h Q := by
  intro p e R s m args below meth c mc ms Z C H locs cells slots arr hw hlo hc hs hl
  obtain ⟨hx, hb, hml, hown, hts, hlk, hnm, hSt, hdf, hdl, hrc, hrs, hZ⟩ := id C
  obtain ⟨⟨scr, g1, g2, g3, g4, g5⟩, g6, g7⟩ := hSt.2.2.2.2.2.2.2.2.2.2
  have e0 : (Sum.inr (Sum.inr 17) :: st : List vV).map (eV E) = .ref (E.2.2.1 17) :: st.map (eV E) := by rw [← eR_s (by omega) (by omega)]; rfl
  rw [e0]
  exact W.alen (n := Int32.ofNat E.2.2.2.2.2.1) hx hb (by rw [hw.2.1 _ g6]; exact g1) g2 (by rw [g4] <;> rfl) rfl rfl hd (kk p e R s m args below meth c mc ms Z C H locs cells slots arr hw hlo hc hs hl)
theorem rn_scald2 {i : Int32} {sL : Nat} {sX : Nat → Int32} (hX : E.2.2.2.2.2.2 = sX) (hL : E.2.2.2.2.2.1 = sL) (hi : vp_in i sL) (hd : decode cc pc = .ok (.iaload, 1))
    (kk : rn l E d a b y cc nL ret (pc + 1) ls (.inl (sX i.toNatClampNeg) :: st) h Q) : rn l E d a b y cc nL ret pc ls (.inl i :: .inr (.inr 17) :: st) h Q := by
  subst hX; subst hL
  exact rn_scald hi hd kk
theorem rn_sclen2 {sL : Nat} (hL : E.2.2.2.2.2.1 = sL) (hd : decode cc pc = .ok (.arraylength, 1))
    (kk : rn l E d a b y cc nL ret (pc + 1) ls (.inl (Int32.ofNat sL) :: st) h Q) : rn l E d a b y cc nL ret pc ls (.inr (.inr 17) :: st) h Q := by
  subst hL
  exact rn_sclen hd kk
theorem rn_ldcS {idx k : Nat} {tx : String} (h4 : 4 ≤ k) (h10 : k < 10) (hR : ∀ s, St E s → vk_R y.cls idx tx (E.2.2.1 k) s) (hd : decode cc pc = .ok (.ldc idx, 2))
    (kk : rn l E d a b y cc nL ret (pc + 2) ls (.inr (.inr k) :: st) h Q) : rn l E d a b y cc nL ret pc ls st h Q := by
  intro p e R s m args below meth c mc ms Z C H locs cells slots arr hw hlo hc hs hl
  obtain ⟨hx, hb, hml, hown, hts, hlk, hnm, hSt, hdf, hdl, hrc, hrs, hZ⟩ := id C
  have k1 := kk p e R s m args below meth c mc ms Z C H locs cells slots arr hw hlo hc hs hl
  have e0 : (Sum.inr (Sum.inr k) :: st : List vV).map (eV E) = .ref (E.2.2.1 k) :: st.map (eV E) := by rw [← eR_s (by omega) (by omega)]; rfl
  rw [e0] at k1
  exact va_ldcS hx hb hown (hR s hSt) hd k1

end MO
theorem str_0 {k : Nat} (h : 4 ≤ k) : k ≠ 0 := by omega
theorem nz_c {v : Int32} (h : (v.toUInt32 % 65536).toInt32 = v) : narrow .char (.int v) = .int v := by
  rw [← h]; exact pk_nc v
theorem nz_y {v : Int32} (h : v.toInt8.toInt32 = v) : narrow .byte (.int v) = .int v := by
  rw [← h]; exact pk_nb v
theorem g_J0_38 : Cond.fieldLink RJ0 38 "java/lang/String" "COMPACT_STRINGS" "Z" ∈ allw := aw (List.mem_append_right _ (List.mem_of_getElem? (i := 600) (by decide +kernel))) rfl
theorem g_J0_1053 : Cond.fieldLink RJ0 1053 "jdk/internal/util/Preconditions" "SIOOBE_FORMATTER" "Ljava/util/function/BiFunction;" ∈ allw := aw (List.mem_append_right _ (List.mem_of_getElem? (i := 639) (by decide +kernel))) rfl
theorem g_J0_15 : Cond.fieldLink RJ0 15 "java/lang/String" "coder" "B" ∈ allw := aw (List.mem_append_right _ (List.mem_of_getElem? (i := 1129) (by decide +kernel))) rfl
theorem g_J0_9 : Cond.fieldLink RJ0 9 "java/lang/String" "value" "[B" ∈ allw := aw (List.mem_append_right _ (List.mem_of_getElem? (i := 1130) (by decide +kernel))) rfl
theorem cn_J6_265 : Cond.constant RJ6 265 (1431655765) ∈ allw := aw (List.mem_append_right _ (List.mem_of_getElem? (i := 333) (by decide +kernel))) rfl
theorem cn_J6_266 : Cond.constant RJ6 266 (858993459) ∈ allw := aw (List.mem_append_right _ (List.mem_of_getElem? (i := 334) (by decide +kernel))) rfl
theorem cn_J6_267 : Cond.constant RJ6 267 (252645135) ∈ allw := aw (List.mem_append_right _ (List.mem_of_getElem? (i := 335) (by decide +kernel))) rfl
theorem cn_X6_187 : Cond.constantLong RX6 187 (255) ∈ allw := aw (List.mem_append_right _ (List.mem_of_getElem? (i := 1060) (by decide +kernel))) rfl
theorem cn_L_94 : Cond.constantLong RL 94 (4294967295) ∈ allw := aw (List.mem_append_right _ (List.mem_of_getElem? (i := 1128) (by decide +kernel))) rfl
