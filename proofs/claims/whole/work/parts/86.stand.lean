/-! what the start gives: the tables, the texts, the script -/
def gvN : List Cond := flatC (Jvm.Cond.and given_1 narrow_1)
def tIx (i : Nat) : Nat := [64, 83, 85, 87, 89, 91].getD i 0
def tmS (i : Nat) : Term := .string "PianoCrews$Pad" (tIx i)
theorem gv_ex : ∀ i, i < 6 → Cond.exactly (tmS i) "java/lang/String" ∈ gvN := by decide +kernel
theorem gv_co : ∀ i, i < 6 → Cond.eq (.field (tmS i) "java/lang/String" "coder" "B") (.int 0) ∈ gvN := by decide +kernel
theorem gv_ar : ∀ i, i < 6 → Cond.arrayOf (.field (tmS i) "java/lang/String" "value" "[B") .byte ∈ gvN := by decide +kernel
theorem gv_le : ∀ i, i < 6 → Cond.eq (.length (.field (tmS i) "java/lang/String" "value" "[B")) (.int (Int32.ofNat (tLen.getD i 0))) ∈ gvN := by decide +kernel
theorem gv_el : ∀ i, i < 6 → ∀ j, j < tLen.getD i 0 → Cond.eq (.elem (.field (tmS i) "java/lang/String" "value" "[B") (.int (Int32.ofNat j))) (.int ((tByt.getD i []).getD j 0)) ∈ gvN := by decide +kernel
theorem gv_ne : ∀ i, i < 6 → ∀ j, j < 6 → i ≠ j → Cond.not (Cond.eq (tmS i) (tmS j)) ∈ gvN ∨ Cond.not (Cond.eq (tmS j) (tmS i)) ∈ gvN := by decide +kernel
theorem gv_t1 : ∀ k, 1 ≤ k → k < 4 → Cond.arrayOf (.static "PianoCrews" (sNam k) "[I") .int ∈ gvN ∧ Cond.eq (.length (.static "PianoCrews" (sNam k) "[I")) (.int (Int32.ofNat (sLen k))) ∈ gvN := by
  intro k h1 h2
  exact (by decide +kernel : ∀ k, k < 4 → 1 ≤ k → Cond.arrayOf (.static "PianoCrews" (sNam k) "[I") .int ∈ gvN ∧ Cond.eq (.length (.static "PianoCrews" (sNam k) "[I")) (.int (Int32.ofNat (sLen k))) ∈ gvN) k h2 h1
theorem gv_t2 : ∀ k, 1 ≤ k → k < 4 → ∀ j, j < sLen k → Cond.eq (.elem (.static "PianoCrews" (sNam k) "[I") (.int (Int32.ofNat j))) (.int (sDat k j)) ∈ gvN := by
  intro k h1 h2
  exact (by decide +kernel : ∀ k, k < 4 → 1 ≤ k → ∀ j, j < sLen k → Cond.eq (.elem (.static "PianoCrews" (sNam k) "[I") (.int (Int32.ofNat j))) (.int (sDat k j)) ∈ gvN) k h2 h1
theorem tb_ls : ∀ k, 1 ≤ k → k < 4 → Cond.laysStatic "PianoCrews" (sNam k) "[I" ∈ lw_tbl := by
  intro k h1 h2
  exact (by decide +kernel : ∀ k, k < 4 → 1 ≤ k → Cond.laysStatic "PianoCrews" (sNam k) "[I" ∈ lw_tbl) k h2 h1
theorem tb_in : Cond.initialized "PianoCrews" ∈ lw_tbl := by decide +kernel
theorem tb_ne : ∀ w ∈ nestW, w ∈ lw_tbl := by decide +kernel
theorem tb_nt : ∀ w ∈ nestW, w.onTables = true := by decide +kernel
theorem tb_a4 : Cond.arrayOver (.object RX4) ∈ lw_tbl := by decide +kernel
theorem tb_a2 : Cond.arrayOver (.object RX2) ∈ lw_tbl := by decide +kernel
theorem tb_a0 : Cond.arrayOver (.object RX0) ∈ lw_tbl := by decide +kernel
theorem tb_cs : Cond.laysStatic "java/lang/String" "COMPACT_STRINGS" "Z" ∈ lw_tbl := by decide +kernel
theorem tb_ci : Cond.initialized "java/lang/String" ∈ lw_tbl := by decide +kernel
theorem gv_cs : Cond.eq (.static "java/lang/String" "COMPACT_STRINGS" "Z") (.int 1) ∈ gvN := by decide +kernel
theorem tb_fs : Cond.laysStatic "jdk/internal/util/Preconditions" "SIOOBE_FORMATTER" "Ljava/util/function/BiFunction;" ∈ lw_tbl := by decide +kernel
theorem tb_fi : Cond.initialized "jdk/internal/util/Preconditions" ∈ lw_tbl := by decide +kernel
theorem gv_fs : Cond.isRef (.static "jdk/internal/util/Preconditions" "SIOOBE_FORMATTER" "Ljava/util/function/BiFunction;") ∈ gvN := by decide +kernel
def tTx (i : Nat) : String := ["wjgdxan", "", "N+N", "N:", "N,D,D,D,N", "N"].getD i ""
theorem tb_sr : ∀ i, i < 6 → Cond.stringRef RX3 (tIx i) (tTx i) ∈ lw_tbl := by decide +kernel
theorem arr_i {s : State} {args : Array Value} {ty : FieldType} (hp : ty.isReference = false) (h : (Cond.arrayClass ty).before args s = true) : ∃ c, ArrOfT s c ty ∧ s.vm.findClass ("[" ++ ty.toString) = some c := by
  obtain ⟨c, k, comp, h1, h2, h3⟩ := Cond.arrayClass_spec h
  exact ⟨c, fun n z => ⟨(fun k h => by cases h), k, h2, comp, h3⟩, h1⟩
theorem arr_o {s : State} {args : Array Value} {C : String} (h : (Cond.arrayOver (.object C)).before args s = true) : ∃ c, ArrOfT s c (.object C) ∧ va_RA s c (.object C) := by
  obtain ⟨comp, c, k, h1, h2, h3, h4, h5⟩ := Cond.arrayOver_spec h
  exact ⟨c, fun n z => ⟨(fun k h => by cases h), k, h3, comp, h4⟩, k, comp, h3, h4, h1, h5⟩
def cA9 (t : Nat → Nat) (aK aV : Nat → Nat) (ft b : Nat) (k : Nat) : Nat := if k < 4 then t k else if k < 10 then aK (k - 4) else if k < 16 then aV (k - 10) else if k = 16 then ft else b
theorem St_ex {s : State} {b L : Nat} {xs : Nat → Int32} (hts : ∀ w ∈ lw_tbl, w.before #[Value.ref b] s = true) (hgv : (Jvm.Cond.and given_1 narrow_1).before #[Value.ref b] s = true) (hX : va_X b L xs s s.heap) (hb : b < s.heap.size) (hL : L ≤ 3072) :
    ∃ E : eE, St E s ∧ E.1 = s.heap.size ∧ E.2.1 = s.heap ∧ E.2.2.1 17 = b ∧ E.2.2.2.2.2.1 = L := by
  have hg : ∀ w ∈ gvN, w.before #[Value.ref b] s = true := flat_of_before _ hgv
  have ha : ∀ w ∈ allw, w.before #[Value.ref b] s = true := fun w hw => hts w (List.mem_filter.mp hw).1
  have hA : ∀ a : Nat, a < s.heap.size → ¬ s.heap.size ≤ a := fun a h z => by omega
  -- classes
  have hcl : ∀ ci : Nat, ∃ q : ClassId × (Nat → Nat), ci < 7 → u_Kn s (clC ci) (clT ci) (clN ci) q.1 q.2 := by
    intro ci
    by_cases h : ci < 7
    · have hi : (Cond.instantiable (clC ci) (clN ci)).before #[Value.ref b] s = true := by
        match ci, h with
        | 0, _ => exact ha _ nw_0
        | 1, _ => exact ha _ nw_1
        | 2, _ => exact ha _ nw_2
        | 3, _ => exact ha _ nw_3
        | 4, _ => exact ha _ nw_4
        | 5, _ => exact ha _ nw_5
        | 6, _ => exact ha _ nw_6
      obtain ⟨cC, iS, hk⟩ := u_known ha (cl_in h) hi
      exact ⟨(cC, iS), fun _ => hk⟩
    · exact ⟨((0 : Nat), fun _ => 0), fun z => absurd z h⟩
  obtain ⟨cl, hcl⟩ := Classical.axiomOfChoice hcl
  -- arrays
  have har : ∀ k : Nat, ∃ q : ClassId, 10 ≤ k → k < 15 → ArrOfT s q (aTy k) ∧ va_RA s q (aTy k) := by
    intro k
    by_cases h : 10 ≤ k ∧ k < 15
    · rcases (show k = 10 ∨ k = 11 ∨ k = 12 ∨ k = 13 ∨ k = 14 by omega) with rfl | rfl | rfl | rfl | rfl
      · obtain ⟨c, h1, h2⟩ := arr_i rfl (ha _ na_i)
        exact ⟨c, fun _ _ => ⟨h1, h2⟩⟩
      · obtain ⟨c, h1, h2⟩ := arr_i rfl (ha _ na_z)
        exact ⟨c, fun _ _ => ⟨h1, h2⟩⟩
      · obtain ⟨c, h1⟩ := arr_o (hts _ tb_a4)
        exact ⟨c, fun _ _ => h1⟩
      · obtain ⟨c, h1⟩ := arr_o (hts _ tb_a2)
        exact ⟨c, fun _ _ => h1⟩
      · obtain ⟨c, h1⟩ := arr_o (hts _ tb_a0)
        exact ⟨c, fun _ _ => h1⟩
    · exact ⟨(cl 0).1, fun z1 z2 => absurd ⟨z1, z2⟩ h⟩
  obtain ⟨ar, har⟩ := Classical.axiomOfChoice har
  -- tables
  have htb : ∀ k : Nat, ∃ t : Nat, 1 ≤ k → k < 4 → va_Z "PianoCrews" (sNam k) "[I" (.ref t) (fun q => s.heap.size ≤ q) s s.heap ∧ va_T .int t (sLen k) (fun j => .int (sDat k j)) (fun q => s.heap.size ≤ q) s s.heap := by
    intro k
    by_cases h : 1 ≤ k ∧ k < 4
    · have hl : sLen k < 2 ^ 31 := by
        rcases (show k = 1 ∨ k = 2 ∨ k = 3 by omega) with rfl | rfl | rfl <;> decide
      obtain ⟨t, h1, h2⟩ := va_Tof (f := fun j => .int (sDat k j)) (A := fun q => s.heap.size ≤ q) hl (hg _ (gv_t1 k h.1 h.2).1) (va_eqt (hg _ (gv_t1 k h.1 h.2).2)) (fun j hj => va_eqt (hg _ (gv_t2 k h.1 h.2 j hj))) hA
      exact ⟨t, fun _ _ => ⟨va_Zref (hts _ (tb_ls k h.1 h.2)) (hts _ tb_in) h1 hA, h2⟩⟩
    · exact ⟨0, fun z1 z2 => absurd ⟨z1, z2⟩ h⟩
  obtain ⟨tt, htb⟩ := Classical.axiomOfChoice htb
  -- texts
  obtain ⟨aK, aV, hS, hev⟩ := vk_Sof (args := #[Value.ref b]) (s := s) (N := 6) (tm := tmS) (len := tLen) (byt := tByt) (A := fun q => s.heap.size ≤ q) (fun i _ => tLen_lt i) (fun i hi => hg _ (gv_ex i hi)) (fun i hi => hg _ (gv_co i hi)) (fun i hi => hg _ (gv_ar i hi)) (fun i hi => hg _ (gv_le i hi)) (fun i hi j hj => hg _ (gv_el i hi j hj)) (fun i j hi hj hij => (gv_ne i hi j hj hij).imp (hg _) (hg _)) hA
  have hR : ∀ i, i < 6 → vk_R RX3 (tIx i) (tTx i) (aK i) s := fun i hi => vk_R.of (hts _ (tb_sr i hi)) (hev i hi)
  -- the formatter
  have hft : ∃ ft : Nat, va_Z "jdk/internal/util/Preconditions" "SIOOBE_FORMATTER" "Ljava/util/function/BiFunction;" .null (fun q => s.heap.size ≤ q) s s.heap ∨ va_Z "jdk/internal/util/Preconditions" "SIOOBE_FORMATTER" "Ljava/util/function/BiFunction;" (.ref ft) (fun q => s.heap.size ≤ q) s s.heap := by
    rcases va_Zqof (A := fun q => s.heap.size ≤ q) (hts _ tb_fs) (hts _ tb_fi) (hg _ gv_fs) hA with h | ⟨t, h⟩
    · exact ⟨0, Or.inl h⟩
    · exact ⟨t, Or.inr h⟩
  obtain ⟨ft, hft⟩ := hft
  refine ⟨(s.heap.size, s.heap, cA9 tt aK aV ft b, (fun ci => (cl ci).1, fun ci => (cl ci).2), ar, (L, xs)), ⟨rfl, hcl, fun k a b => har k a b, fun w hw => va_Nw.of (tb_nt w hw) (hts w (tb_ne w hw)), ⟨va_AO.of (hts _ tb_a4), va_AO.of (hts _ tb_a2), va_AO.of (hts _ tb_a0)⟩, ?_, va_Zof (hts _ tb_cs) (hts _ tb_ci) (va_eqi (hg _ gv_cs)) hA, ⟨fun i hi => ?_, fun i j hi hj h => ?_⟩, ⟨?_, ?_, ?_, ?_, ?_, ?_⟩, hft, hX, hb, hL⟩, rfl, rfl, rfl, rfl⟩
  · intro k h1 h2
    show va_Z _ _ _ (.ref (cA9 tt aK aV ft b k)) _ _ _ ∧ va_T _ (cA9 tt aK aV ft b k) _ _ _ _ _
    rw [show cA9 tt aK aV ft b k = tt k from if_pos h2]
    exact htb k h1 h2
  · have e1 : cA9 tt aK aV ft b (4 + i) = aK i := by
      unfold cA9
      rw [if_neg (by omega), if_pos (by omega), show 4 + i - 4 = i by omega]
    have e2 : cA9 tt aK aV ft b (10 + i) = aV i := by
      unfold cA9
      rw [if_neg (by omega), if_neg (by omega), if_pos (by omega), show 10 + i - 10 = i by omega]
    show va_O _ (cA9 tt aK aV ft b (4 + i)) _ _ _ ∧ va_OF _ _ _ _ (cA9 tt aK aV ft b (4 + i)) _ _ _ ∧ va_OF _ _ _ (.ref (cA9 tt aK aV ft b (10 + i))) (cA9 tt aK aV ft b (4 + i)) _ _ _ ∧ va_T _ (cA9 tt aK aV ft b (10 + i)) _ _ _ _ _
    rw [e1, e2]
    exact hS.1 i hi
  · have e1 : ∀ i, i < 6 → cA9 tt aK aV ft b (4 + i) = aK i := fun i hi => by
      unfold cA9
      rw [if_neg (by omega), if_pos (by omega), show 4 + i - 4 = i by omega]
    have h : cA9 tt aK aV ft b (4 + i) = cA9 tt aK aV ft b (4 + j) := h
    rw [e1 i hi, e1 j hj] at h
    exact hS.2 i j hi hj h
  · exact hR 0 (by omega)
  · exact hR 1 (by omega)
  · exact hR 2 (by omega)
  · exact hR 3 (by omega)
  · exact hR 4 (by omega)
  · exact hR 5 (by omega)
