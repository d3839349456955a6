/-! what the start gives: the tables, the texts, the script -/
def gvN : List Cond := flatC (Jvm.Cond.and given_1 narrow_1)
theorem gv_t1 : ∀ k, 1 ≤ k → k < 4 → Cond.arrayOf (.static "PianoCrews" (sNam k) "[I") .int ∈ gvN ∧ Cond.eq (.length (.static "PianoCrews" (sNam k) "[I")) (.int (Int32.ofNat (sLen k))) ∈ gvN := by
  intro k h1 h2
  exact (by decide +kernel : ∀ k, k < 4 → 1 ≤ k → Cond.arrayOf (.static "PianoCrews" (sNam k) "[I") .int ∈ gvN ∧ Cond.eq (.length (.static "PianoCrews" (sNam k) "[I")) (.int (Int32.ofNat (sLen k))) ∈ gvN) k h2 h1
theorem gv_t2 : ∀ k, 1 ≤ k → k < 4 → ∀ j, j < sLen k → Cond.eq (.elem (.static "PianoCrews" (sNam k) "[I") (.int (Int32.ofNat j))) (.int (sDat k j)) ∈ gvN := by
  intro k h1 h2
  exact (by decide +kernel : ∀ k, k < 4 → 1 ≤ k → ∀ j, j < sLen k → Cond.eq (.elem (.static "PianoCrews" (sNam k) "[I") (.int (Int32.ofNat j))) (.int (sDat k j)) ∈ gvN) k h2 h1
theorem tb_ls : ∀ k, 1 ≤ k → k < 4 → Cond.laysStatic "PianoCrews" (sNam k) "[I" ∈ lw_tbl := by
  intro k h1 h2
  exact (by decide +kernel : ∀ k, k < 4 → 1 ≤ k → Cond.laysStatic "PianoCrews" (sNam k) "[I" ∈ lw_tbl) k h2 h1
theorem tb_in : Cond.initialized "PianoCrews" ∈ lw_tbl := by decide +kernel
theorem tb_ne : ∀ w ∈ nestW, w ∈ lw_tbl := by decide +kernel
theorem tb_nt : ∀ w ∈ nestW, w.onTables = true := by decide +kernel
theorem tb_a4 : Cond.arrayOver (.object RX4) ∈ lw_tbl := by decide +kernel
theorem tb_a2 : Cond.arrayOver (.object RX2) ∈ lw_tbl := by decide +kernel
theorem tb_a0 : Cond.arrayOver (.object RX0) ∈ lw_tbl := by decide +kernel
theorem arr_i {s : State} {args : Array Value} {ty : FieldType} (hp : ty.isReference = false) (h : (Cond.arrayClass ty).before args s = true) : ∃ c, ArrOfT s c ty ∧ s.vm.findClass ("[" ++ ty.toString) = some c := by
  obtain ⟨c, k, comp, h1, h2, h3⟩ := Cond.arrayClass_spec h
  exact ⟨c, fun n z => ⟨(fun k h => by cases h), k, h2, comp, h3⟩, h1⟩
theorem arr_o {s : State} {args : Array Value} {C : String} (h : (Cond.arrayOver (.object C)).before args s = true) : ∃ c, ArrOfT s c (.object C) ∧ va_RA s c (.object C) := by
  obtain ⟨comp, c, k, h1, h2, h3, h4, h5⟩ := Cond.arrayOver_spec h
  exact ⟨c, fun n z => ⟨(fun k h => by cases h), k, h3, comp, h4⟩, k, comp, h3, h4, h1, h5⟩
def cA9 (t : Nat → Nat) (b : Nat) (k : Nat) : Nat := if k < 4 then t k else b
theorem St_ex {s : State} {b L : Nat} {xs : Nat → Int32} (hts : ∀ w ∈ lw_tbl, w.before #[Value.ref b] s = true) (hgv : (Jvm.Cond.and given_1 narrow_1).before #[Value.ref b] s = true) (hX : va_X b L xs s s.heap) (hb : b < s.heap.size) (hL : L ≤ 3072) :
    ∃ E : eE, St E s ∧ E.1 = s.heap.size ∧ E.2.1 = s.heap ∧ E.2.2.1 17 = b ∧ E.2.2.2.2.2.1 = L := by
  have hg : ∀ w ∈ gvN, w.before #[Value.ref b] s = true := flat_of_before _ hgv
  have ha : ∀ w ∈ allw, w.before #[Value.ref b] s = true := fun w hw => hts w (List.mem_filter.mp hw).1
  have hA : ∀ a : Nat, a < s.heap.size → ¬ s.heap.size ≤ a := fun a h z => by omega
  -- classes
  have hcl : ∀ ci : Nat, ∃ q : ClassId × (Nat → Nat), ci < 6 → u_Kn s (clC ci) (clT ci) (clN ci) q.1 q.2 := by
    intro ci
    by_cases h : ci < 6
    · have hi : (Cond.instantiable (clC ci) (clN ci)).before #[Value.ref b] s = true := by
        match ci, h with
        | 0, _ => exact ha _ nw_0
        | 1, _ => exact ha _ nw_1
        | 2, _ => exact ha _ nw_2
        | 3, _ => exact ha _ nw_3
        | 4, _ => exact ha _ nw_4
        | 5, _ => exact ha _ nw_5
      obtain ⟨cC, iS, hk⟩ := u_known ha (cl_in h) hi
      exact ⟨(cC, iS), fun _ => hk⟩
    · exact ⟨((0 : Nat), fun _ => 0), fun z => absurd z h⟩
  obtain ⟨cl, hcl⟩ := Classical.axiomOfChoice hcl
  -- arrays
  have har : ∀ k : Nat, ∃ q : ClassId, 10 ≤ k → k < 15 → ArrOfT s q (aTy k) ∧ va_RA s q (aTy k) := by
    intro k
    by_cases h : 10 ≤ k ∧ k < 15
    · rcases (show k = 10 ∨ k = 11 ∨ k = 12 ∨ k = 13 ∨ k = 14 by omega) with rfl | rfl | rfl | rfl | rfl
      · obtain ⟨c, h1, h2⟩ := arr_i rfl (ha _ na_i)
        exact ⟨c, fun _ _ => ⟨h1, h2⟩⟩
      · obtain ⟨c, h1, h2⟩ := arr_i rfl (ha _ na_z)
        exact ⟨c, fun _ _ => ⟨h1, h2⟩⟩
      · obtain ⟨c, h1⟩ := arr_o (hts _ tb_a4)
        exact ⟨c, fun _ _ => h1⟩
      · obtain ⟨c, h1⟩ := arr_o (hts _ tb_a2)
        exact ⟨c, fun _ _ => h1⟩
      · obtain ⟨c, h1⟩ := arr_o (hts _ tb_a0)
        exact ⟨c, fun _ _ => h1⟩
    · exact ⟨(cl 0).1, fun z1 z2 => absurd ⟨z1, z2⟩ h⟩
  obtain ⟨ar, har⟩ := Classical.axiomOfChoice har
  -- tables
  have htb : ∀ k : Nat, ∃ t : Nat, 1 ≤ k → k < 4 → va_Z "PianoCrews" (sNam k) "[I" (.ref t) (fun q => s.heap.size ≤ q) s s.heap ∧ va_T .int t (sLen k) (fun j => .int (sDat k j)) (fun q => s.heap.size ≤ q) s s.heap := by
    intro k
    by_cases h : 1 ≤ k ∧ k < 4
    · have hl : sLen k < 2 ^ 31 := by
        rcases (show k = 1 ∨ k = 2 ∨ k = 3 by omega) with rfl | rfl | rfl <;> decide
      obtain ⟨t, h1, h2⟩ := va_Tof (f := fun j => .int (sDat k j)) (A := fun q => s.heap.size ≤ q) hl (hg _ (gv_t1 k h.1 h.2).1) (va_eqt (hg _ (gv_t1 k h.1 h.2).2)) (fun j hj => va_eqt (hg _ (gv_t2 k h.1 h.2 j hj))) hA
      exact ⟨t, fun _ _ => ⟨va_Zref (hts _ (tb_ls k h.1 h.2)) (hts _ tb_in) h1 hA, h2⟩⟩
    · exact ⟨0, fun z1 z2 => absurd ⟨z1, z2⟩ h⟩
  obtain ⟨tt, htb⟩ := Classical.axiomOfChoice htb
  refine ⟨(s.heap.size, s.heap, cA9 tt b, (fun ci => (cl ci).1, fun ci => (cl ci).2), ar, (L, xs)), ⟨rfl, hcl, fun k a b => har k a b, fun w hw => va_Nw.of (tb_nt w hw) (hts w (tb_ne w hw)), ⟨va_AO.of (hts _ tb_a4), va_AO.of (hts _ tb_a2), va_AO.of (hts _ tb_a0)⟩, ?_, trivial, trivial, trivial, trivial, hX, hb, hL⟩, rfl, rfl, rfl, rfl⟩
  intro k h1 h2
  show va_Z _ _ _ (.ref (cA9 tt b k)) _ _ _ ∧ va_T _ (cA9 tt b k) _ _ _ _ _
  rw [show cA9 tt b k = tt k from if_pos h2]
  exact htb k h1 h2
