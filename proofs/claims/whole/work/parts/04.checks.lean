/-! The tables agree with the words of the claim (by the kernel, in one go a list). -/
theorem pm_mem {i : Nat} {w : Jvm.Cond} (h : lw_tbl[i]? = some w) : w ∈ lw_tbl := List.mem_of_getElem? h
/-- a field's link -/
def pm_chF (o : Nat) (x : Nat × Nat × Nat × Nat × Bool) : Bool := match pm_cl[x.2.1]? with
  | some (_, T, N) => decide (N = pm_nf x.2.1) && (decide (x.2.2.1 < N) && (decide ((T x.2.2.1).2.2.2 = pm_fin x.2.1 x.2.2.1) && ((!pm_own o x.2.1 || (decide ((T x.2.2.1).1 = pm_on o) && !x.2.2.2.2)) && (if x.2.2.2.2 then decide (lw_tbl[x.2.2.2.1]? = some (.fieldLinkNest (pm_on o) x.1 (T x.2.2.1).1 (T x.2.2.1).2.1 (T x.2.2.1).2.2.1 "BoundedSchemes")) else decide (lw_tbl[x.2.2.2.1]? = some (.fieldLink (pm_on o) x.1 (T x.2.2.1).1 (T x.2.2.1).2.1 (T x.2.2.1).2.2.1))))))
  | none => false
theorem pm_alF0 : (pm_fl 0).all (pm_chF 0) = true := by decide +kernel
theorem pm_alF1 : (pm_fl 1).all (pm_chF 1) = true := by decide +kernel
theorem pm_alF2 : (pm_fl 2).all (pm_chF 2) = true := by decide +kernel
theorem pm_alF3 : (pm_fl 3).all (pm_chF 3) = true := by decide +kernel
theorem pm_alF4 : (pm_fl 4).all (pm_chF 4) = true := by decide +kernel
theorem pm_alF5 : (pm_fl 5).all (pm_chF 5) = true := by decide +kernel
theorem pm_alF6 : (pm_fl 6).all (pm_chF 6) = true := by decide +kernel
theorem pm_alF7 : (pm_fl 7).all (pm_chF 7) = true := by decide +kernel
theorem pm_alF8 : (pm_fl 8).all (pm_chF 8) = true := by decide +kernel
theorem pm_alF9 : (pm_fl 9).all (pm_chF 9) = true := by decide +kernel
theorem pm_alF10 : (pm_fl 10).all (pm_chF 10) = true := by decide +kernel
theorem pm_alF11 : (pm_fl 11).all (pm_chF 11) = true := by decide +kernel
theorem pm_alF (o : Nat) : (pm_fl o).all (pm_chF o) = true := by
  match o with
  | 0 => exact pm_alF0
  | 1 => exact pm_alF1
  | 2 => exact pm_alF2
  | 3 => exact pm_alF3
  | 4 => exact pm_alF4
  | 5 => exact pm_alF5
  | 6 => exact pm_alF6
  | 7 => exact pm_alF7
  | 8 => exact pm_alF8
  | 9 => exact pm_alF9
  | 10 => exact pm_alF10
  | 11 => exact pm_alF11
  | n + 12 => rfl
theorem pm_okF {o i c f : Nat} (h : pm_fld o i = some (c, f)) : ∃ (C : String) (T : u_T), pm_cl[c]? = some (C, T, pm_nf c) ∧ f < pm_nf c ∧ (Jvm.Cond.fieldLink (pm_on o) i (T f).1 (T f).2.1 (T f).2.2.1 ∈ lw_tbl ∨ ∃ host, Jvm.Cond.fieldLinkNest (pm_on o) i (T f).1 (T f).2.1 (T f).2.2.1 host ∈ lw_tbl) ∧ (T f).2.2.2 = pm_fin c f ∧ (pm_own o c = true → (T f).1 = pm_on o ∧ Jvm.Cond.fieldLink (pm_on o) i (T f).1 (T f).2.1 (T f).2.2.1 ∈ lw_tbl) := by
  unfold pm_fld at h
  split at h
  · rename_i c' f' r hl
    cases h
    have h1 := List.all_eq_true.mp (pm_alF o) _ (pm_lk_mem hl)
    unfold pm_chF at h1
    simp only at h1
    split at h1
    · rename_i C T N hc
      simp only [Bool.and_eq_true, decide_eq_true_eq] at h1
      obtain ⟨rfl, h2, h3, h4, h5⟩ := h1
      refine ⟨C, T, hc, h2, ?_, h3, ?_⟩
      · split at h5
        · exact Or.inr ⟨_, pm_mem (of_decide_eq_true h5)⟩
        · exact Or.inl (pm_mem (of_decide_eq_true h5))
      · intro ho
        rw [ho] at h4
        simp only [Bool.not_true, Bool.false_or, Bool.and_eq_true, decide_eq_true_eq, Bool.not_eq_true'] at h4
        rw [h4.2] at h5
        exact ⟨h4.1, pm_mem (of_decide_eq_true (by simpa using h5))⟩
    · cases h1
  · cases h
theorem pm_chC0 : (List.range 15).all (fun k => decide (lw_tbl[pm_lx0.getD k 0]? = some (u_lay "BoundedSchemes" pm_T0 k)) && (decide (parseFieldDescriptor (pm_T0 k).2.2.1 = some (pm_ft0 k)) && (decide (pm_fk0 k = pm_ko (pm_ft0 k)) && decide (pm_fk0 k < 4)))) = true := by decide +kernel
theorem pm_chN0 : ∀ a, a < 15 → ∀ b, b < 15 → a ≠ b → (pm_T0 a).2.1 ≠ (pm_T0 b).2.1 := by decide +kernel
theorem pm_chC1 : (List.range 3).all (fun k => decide (lw_tbl[pm_lx1.getD k 0]? = some (u_lay "BoundedSchemes$KeptType" pm_T1 k)) && (decide (parseFieldDescriptor (pm_T1 k).2.2.1 = some (pm_ft1 k)) && (decide (pm_fk1 k = pm_ko (pm_ft1 k)) && decide (pm_fk1 k < 4)))) = true := by decide +kernel
theorem pm_chN1 : ∀ a, a < 3 → ∀ b, b < 3 → a ≠ b → (pm_T1 a).2.1 ≠ (pm_T1 b).2.1 := by decide +kernel
theorem pm_chC2 : (List.range 7).all (fun k => decide (lw_tbl[pm_lx2.getD k 0]? = some (u_lay "BoundedSchemes$TypeRoom" pm_T2 k)) && (decide (parseFieldDescriptor (pm_T2 k).2.2.1 = some (pm_ft2 k)) && (decide (pm_fk2 k = pm_ko (pm_ft2 k)) && decide (pm_fk2 k < 4)))) = true := by decide +kernel
theorem pm_chN2 : ∀ a, a < 7 → ∀ b, b < 7 → a ≠ b → (pm_T2 a).2.1 ≠ (pm_T2 b).2.1 := by decide +kernel
theorem pm_chC3 : (List.range 4).all (fun k => decide (lw_tbl[pm_lx3.getD k 0]? = some (u_lay "BoundedSchemes$Page" pm_T3 k)) && (decide (parseFieldDescriptor (pm_T3 k).2.2.1 = some (pm_ft3 k)) && (decide (pm_fk3 k = pm_ko (pm_ft3 k)) && decide (pm_fk3 k < 4)))) = true := by decide +kernel
theorem pm_chN3 : ∀ a, a < 4 → ∀ b, b < 4 → a ≠ b → (pm_T3 a).2.1 ≠ (pm_T3 b).2.1 := by decide +kernel
theorem pm_chC4 : (List.range 7).all (fun k => decide (lw_tbl[pm_lx4.getD k 0]? = some (u_lay "BoundedSchemes$Term" pm_T4 k)) && (decide (parseFieldDescriptor (pm_T4 k).2.2.1 = some (pm_ft4 k)) && (decide (pm_fk4 k = pm_ko (pm_ft4 k)) && decide (pm_fk4 k < 4)))) = true := by decide +kernel
theorem pm_chN4 : ∀ a, a < 7 → ∀ b, b < 7 → a ≠ b → (pm_T4 a).2.1 ≠ (pm_T4 b).2.1 := by decide +kernel
theorem pm_chC5 : (List.range 13).all (fun k => decide (lw_tbl[pm_lx5.getD k 0]? = some (u_lay "BoundedSchemes$Reader" pm_T5 k)) && (decide (parseFieldDescriptor (pm_T5 k).2.2.1 = some (pm_ft5 k)) && (decide (pm_fk5 k = pm_ko (pm_ft5 k)) && decide (pm_fk5 k < 4)))) = true := by decide +kernel
theorem pm_chN5 : ∀ a, a < 13 → ∀ b, b < 13 → a ≠ b → (pm_T5 a).2.1 ≠ (pm_T5 b).2.1 := by decide +kernel
theorem pm_chC6 : (List.range 3).all (fun k => decide (lw_tbl[pm_lx6.getD k 0]? = some (u_lay "BoundedSchemes$Checker" pm_T6 k)) && (decide (parseFieldDescriptor (pm_T6 k).2.2.1 = some (pm_ft6 k)) && (decide (pm_fk6 k = pm_ko (pm_ft6 k)) && decide (pm_fk6 k < 4)))) = true := by decide +kernel
theorem pm_chN6 : ∀ a, a < 3 → ∀ b, b < 3 → a ≠ b → (pm_T6 a).2.1 ≠ (pm_T6 b).2.1 := by decide +kernel
theorem pm_chC7 : (List.range 17).all (fun k => decide (lw_tbl[pm_lx7.getD k 0]? = some (u_lay "BoundedSchemes$Machine" pm_T7 k)) && (decide (parseFieldDescriptor (pm_T7 k).2.2.1 = some (pm_ft7 k)) && (decide (pm_fk7 k = pm_ko (pm_ft7 k)) && decide (pm_fk7 k < 4)))) = true := by decide +kernel
theorem pm_chN7 : ∀ a, a < 17 → ∀ b, b < 17 → a ≠ b → (pm_T7 a).2.1 ≠ (pm_T7 b).2.1 := by decide +kernel
theorem pm_chC8 : (List.range 5).all (fun k => decide (lw_tbl[pm_lx8.getD k 0]? = some (u_lay "BoundedSchemes$Values" pm_T8 k)) && (decide (parseFieldDescriptor (pm_T8 k).2.2.1 = some (pm_ft8 k)) && (decide (pm_fk8 k = pm_ko (pm_ft8 k)) && decide (pm_fk8 k < 4)))) = true := by decide +kernel
theorem pm_chN8 : ∀ a, a < 5 → ∀ b, b < 5 → a ≠ b → (pm_T8 a).2.1 ≠ (pm_T8 b).2.1 := by decide +kernel
theorem pm_chC9 : (List.range 66).all (fun k => decide (lw_tbl[pm_lx9.getD k 0]? = some (u_lay "BoundedSchemesModel" pm_T9 k)) && (decide (parseFieldDescriptor (pm_T9 k).2.2.1 = some (pm_ft9 k)) && (decide (pm_fk9 k = pm_ko (pm_ft9 k)) && decide (pm_fk9 k < 4)))) = true := by decide +kernel
theorem pm_chN9 : ∀ a, a < 66 → ∀ b, b < 66 → a ≠ b → (pm_T9 a).2.1 ≠ (pm_T9 b).2.1 := by decide +kernel
theorem pm_chW {C : String} {T : u_T} {N : Nat} {lx : List Nat} {ft : Nat → FieldType} {fk : Nat → Nat} (h : (List.range N).all (fun k => decide (lw_tbl[lx.getD k 0]? = some (u_lay C T k)) && (decide (parseFieldDescriptor (T k).2.2.1 = some (ft k)) && (decide (fk k = pm_ko (ft k)) && decide (fk k < 4)))) = true) : (∀ w ∈ u_ws C T N, w ∈ lw_tbl) ∧ (∀ k, k < N → parseFieldDescriptor (T k).2.2.1 = some (ft k) ∧ fk k = pm_ko (ft k) ∧ fk k < 4) := by
  rw [List.all_eq_true] at h
  refine ⟨fun w hw => ?_, fun k hk => ?_⟩
  · obtain ⟨k, hk, rfl⟩ := List.mem_map.mp hw
    have h1 := h k hk
    simp only [Bool.and_eq_true, decide_eq_true_eq] at h1
    exact pm_mem h1.1
  · have h1 := h k (List.mem_range.mpr hk)
    simp only [Bool.and_eq_true, decide_eq_true_eq] at h1
    exact h1.2
theorem pm_okC {c : Nat} {C : String} {T : u_T} {N : Nat} (h : pm_cl[c]? = some (C, T, N)) : N = pm_nf c ∧ (∀ w ∈ u_ws C T N, w ∈ lw_tbl) ∧ (∀ k, k < N → parseFieldDescriptor (T k).2.2.1 = some (pm_ft c k) ∧ pm_fk c k = pm_ko (pm_ft c k) ∧ pm_fk c k < 4) ∧ (∀ a, a < N → ∀ b, b < N → a ≠ b → (T a).2.1 ≠ (T b).2.1) ∧ Jvm.Cond.instantiable C N ∈ lw_tbl ∧ Jvm.Cond.initialized C ∈ lw_tbl := by
  match c, h with
  | 0, h => cases h; exact ⟨rfl, (pm_chW pm_chC0).1, (pm_chW pm_chC0).2, pm_chN0, pm_mem (i := 180) (by decide +kernel), pm_mem (i := 166) (by decide +kernel)⟩
  | 1, h => cases h; exact ⟨rfl, (pm_chW pm_chC1).1, (pm_chW pm_chC1).2, pm_chN1, pm_mem (i := 189) (by decide +kernel), pm_mem (i := 167) (by decide +kernel)⟩
  | 2, h => cases h; exact ⟨rfl, (pm_chW pm_chC2).1, (pm_chW pm_chC2).2, pm_chN2, pm_mem (i := 210) (by decide +kernel), pm_mem (i := 168) (by decide +kernel)⟩
  | 3, h => cases h; exact ⟨rfl, (pm_chW pm_chC3).1, (pm_chW pm_chC3).2, pm_chN3, pm_mem (i := 244) (by decide +kernel), pm_mem (i := 169) (by decide +kernel)⟩
  | 4, h => cases h; exact ⟨rfl, (pm_chW pm_chC4).1, (pm_chW pm_chC4).2, pm_chN4, pm_mem (i := 265) (by decide +kernel), pm_mem (i := 170) (by decide +kernel)⟩
  | 5, h => cases h; exact ⟨rfl, (pm_chW pm_chC5).1, (pm_chW pm_chC5).2, pm_chN5, pm_mem (i := 303) (by decide +kernel), pm_mem (i := 171) (by decide +kernel)⟩
  | 6, h => cases h; exact ⟨rfl, (pm_chW pm_chC6).1, (pm_chW pm_chC6).2, pm_chN6, pm_mem (i := 352) (by decide +kernel), pm_mem (i := 172) (by decide +kernel)⟩
  | 7, h => cases h; exact ⟨rfl, (pm_chW pm_chC7).1, (pm_chW pm_chC7).2, pm_chN7, pm_mem (i := 369) (by decide +kernel), pm_mem (i := 173) (by decide +kernel)⟩
  | 8, h => cases h; exact ⟨rfl, (pm_chW pm_chC8).1, (pm_chW pm_chC8).2, pm_chN8, pm_mem (i := 375) (by decide +kernel), pm_mem (i := 174) (by decide +kernel)⟩
  | 9, h => cases h; exact ⟨rfl, (pm_chW pm_chC9).1, (pm_chW pm_chC9).2, pm_chN9, pm_mem (i := 1044) (by decide +kernel), pm_mem (i := 175) (by decide +kernel)⟩
  | n + 10, h => simp [pm_cl] at h
theorem pm_okD {o i : Nat} {v : Int32} (h : pm_ldc o i = some v) : Jvm.Cond.constant (pm_on o) i v ∈ lw_tbl := by
  have hall : pm_dl.all (fun x => decide (lw_tbl[x.2.2]? = some (.constant (pm_on x.1.1) x.1.2 x.2.1))) = true := by decide +kernel
  unfold pm_ldc at h
  split at h
  · rename_i v' r hl
    cases h
    exact pm_mem (of_decide_eq_true (List.all_eq_true.mp hall _ (pm_lk2_mem hl)))
  · cases h
theorem pm_okN {o i c : Nat} (h : pm_new o i = some c) : ∃ (C : String) (T : u_T), pm_cl[c]? = some (C, T, pm_nf c) ∧ Jvm.Cond.classLink (pm_on o) i C ∈ lw_tbl := by
  have hall : pm_nl.all (fun x => match pm_cl[x.2.1]? with
    | some (C, _, N) => decide (N = pm_nf x.2.1) && decide (lw_tbl[x.2.2]? = some (.classLink (pm_on x.1.1) x.1.2 C))
    | none => false) = true := by decide +kernel
  unfold pm_new at h
  split at h
  · rename_i c' r hl
    cases h
    have h1 := List.all_eq_true.mp hall _ (pm_lk2_mem hl)
    simp only at h1
    split at h1
    · rename_i C T N hc
      simp only [Bool.and_eq_true, decide_eq_true_eq] at h1
      obtain ⟨rfl, h2⟩ := h1
      exact ⟨C, T, hc, pm_mem h2⟩
    · cases h1
  · cases h
theorem pm_okQ : ∃ T : u_T, pm_cl[pm_qc]? = some ("BoundedSchemes$KeptType", T, pm_nf pm_qc) := ⟨_, rfl⟩
theorem pm_okA {o i : Nat} (h : pm_anw o i = true) : Jvm.Cond.classLink (pm_on o) i "BoundedSchemes$KeptType" ∈ lw_tbl ∧ Jvm.Cond.arrayOver (.object "BoundedSchemes$KeptType") ∈ lw_tbl := by
  unfold pm_anw at h
  split at h
  · rename_i c hc
    have e := of_decide_eq_true h
    subst e
    obtain ⟨C, T, h1, h2⟩ := pm_okN hc
    obtain ⟨T2, h3⟩ := pm_okQ
    cases h1.symm.trans h3
    exact ⟨h2, pm_mem (i := 188) (by decide +kernel)⟩
  · cases h
theorem pm_okAI : Jvm.Cond.arrayClass .int ∈ lw_tbl := pm_mem (i := 208) (by decide +kernel)
theorem pm_okAC : Jvm.Cond.arrayClass .char ∈ lw_tbl := pm_mem (i := 207) (by decide +kernel)
theorem pm_okAZ : Jvm.Cond.arrayClass .boolean ∈ lw_tbl := pm_mem (i := 1248) (by decide +kernel)
theorem pm_okO1 : Jvm.Cond.instanceMethod Lib.objectInit ∈ lw_tbl := pm_mem (i := 185) (by decide +kernel)
theorem pm_okO2 : Jvm.Cond.code Lib.objectInit ⟨#[0xb1]⟩ 1 none ∈ lw_tbl := pm_mem (i := 186) (by decide +kernel)
def pm_chB (o : Nat) (x : Nat × Nat × Nat) : Bool := match x.2.1 with
  | 1 => decide (lw_tbl[x.2.2]? = some (.methodLink (pm_on o) x.1 Lib.objectInit))
  | 2 => decide (lw_tbl[x.2.2]? = some (.methodLink (pm_on o) x.1 Lib.Math.min.name))
  | 3 => decide (lw_tbl[x.2.2]? = some (.methodLink (pm_on o) x.1 arraycopyName))
  | _ => false
theorem pm_alB0 : (pm_bl 0).all (pm_chB 0) = true := by decide +kernel
theorem pm_alB1 : (pm_bl 1).all (pm_chB 1) = true := by decide +kernel
theorem pm_alB2 : (pm_bl 2).all (pm_chB 2) = true := by decide +kernel
theorem pm_alB3 : (pm_bl 3).all (pm_chB 3) = true := by decide +kernel
theorem pm_alB4 : (pm_bl 4).all (pm_chB 4) = true := by decide +kernel
theorem pm_alB5 : (pm_bl 5).all (pm_chB 5) = true := by decide +kernel
theorem pm_alB6 : (pm_bl 6).all (pm_chB 6) = true := by decide +kernel
theorem pm_alB7 : (pm_bl 7).all (pm_chB 7) = true := by decide +kernel
theorem pm_alB8 : (pm_bl 8).all (pm_chB 8) = true := by decide +kernel
theorem pm_alB9 : (pm_bl 9).all (pm_chB 9) = true := by decide +kernel
theorem pm_alB10 : (pm_bl 10).all (pm_chB 10) = true := by decide +kernel
theorem pm_alB11 : (pm_bl 11).all (pm_chB 11) = true := by decide +kernel
theorem pm_alB (o : Nat) : (pm_bl o).all (pm_chB o) = true := by
  match o with
  | 0 => exact pm_alB0
  | 1 => exact pm_alB1
  | 2 => exact pm_alB2
  | 3 => exact pm_alB3
  | 4 => exact pm_alB4
  | 5 => exact pm_alB5
  | 6 => exact pm_alB6
  | 7 => exact pm_alB7
  | 8 => exact pm_alB8
  | 9 => exact pm_alB9
  | 10 => exact pm_alB10
  | 11 => exact pm_alB11
  | n + 12 => rfl
theorem pm_biK {o i k : Nat} (h : pm_bi o i = k + 1) : ∃ r, pm_chB o (i, k + 1, r) = true := by
  unfold pm_bi at h
  split at h
  · rename_i k' r hl
    subst h
    exact ⟨_, List.all_eq_true.mp (pm_alB o) _ (pm_lk_mem hl)⟩
  · cases h
theorem pm_okO {o i : Nat} (h : pm_bi o i = 1) : Jvm.Cond.methodLink (pm_on o) i Lib.objectInit ∈ lw_tbl := by
  obtain ⟨r, h1⟩ := pm_biK (k := 0) h
  exact pm_mem (of_decide_eq_true h1)
theorem pm_okMin {o i : Nat} (h : pm_bi o i = 2) : Jvm.Cond.methodLink (pm_on o) i Lib.Math.min.name ∈ lw_tbl ∧ Jvm.Cond.static Lib.Math.min.name ∈ lw_tbl ∧ Jvm.Cond.initialized "java/lang/Math" ∈ lw_tbl ∧ Jvm.Cond.code Lib.Math.min.name Lib.Math.min.code 2 (some .int) ∈ lw_tbl := by
  obtain ⟨r, h1⟩ := pm_biK (k := 1) h
  exact ⟨pm_mem (of_decide_eq_true h1), pm_mem (i := 523) (by decide +kernel), pm_mem (i := 176) (by decide +kernel), pm_mem (i := 524) (by decide +kernel)⟩
theorem pm_okCpy {o i : Nat} (h : pm_bi o i = 3) : Jvm.Cond.methodLink (pm_on o) i arraycopyName ∈ lw_tbl ∧ Jvm.Cond.native arraycopyName ∈ lw_tbl ∧ Jvm.Cond.static arraycopyName ∈ lw_tbl ∧ Jvm.Cond.initialized "java/lang/System" ∈ lw_tbl := by
  obtain ⟨r, h1⟩ := pm_biK (k := 2) h
  exact ⟨pm_mem (of_decide_eq_true h1), pm_mem (i := 575) (by decide +kernel), pm_mem (i := 574) (by decide +kernel), pm_mem (i := 178) (by decide +kernel)⟩
def pm_chM (j : Nat) : Bool := (plainName (pm_y j).cls && (decide ((pm_y j).cls ≠ "java/lang/invoke/MethodHandle") && (decide ((pm_y j).cls ≠ "java/lang/invoke/VarHandle") && (decide ((parseMethodDescriptor (pm_y j).desc).map (fun d => d.parameters.length) = some (pm_np j)) && (decide ((pm_y j).cls = pm_on (pm_ow j)) && (decide (pm_max j ≤ 40) && (match pm_kd j with
  | 0 => decide (lw_tbl[(pm_ix j).2.1]? = some (.static (pm_y j)))
  | 1 => decide (lw_tbl[(pm_ix j).2.1]? = some (.instanceMethod (pm_y j))) && (match pm_cl[pm_mc j]? with
    | some (C, _, N) => decide (N = pm_nf (pm_mc j)) && decide (lw_tbl[(pm_ix j).2.2]? = some (.selects C (pm_y j) (pm_y j)))
    | none => false)
  | 2 => decide (lw_tbl[(pm_ix j).2.1]? = some (.instanceMethod (pm_y j))) && (decide ((pm_y j).name = "<init>") && decide (pm_rt j = none))
  | _ => false)))))))
def pm_chR (j : Nat) : Bool := match pm_rk j with
  | 0 => decide (pm_rt j = none)
  | 1 => decide (pm_rt j = some .int)
  | 2 => decide (pm_rt j = some .boolean)
  | 3 => decide (pm_rt j = some (.array .int))
  | 4 => decide (pm_rt j = some .char)
  | _ => false
/-- classes that are initialised -/
def pm_ii (o : Nat) : Nat := ([166, 167, 168, 169, 170, 171, 172, 173, 174, 175, 165, 177] : List Nat).getD o 0
def pm_chI : Bool := (List.range 12).all (fun o => decide (lw_tbl[pm_ii o]? = some (.initialized (pm_on o))))
theorem pm_chI_ok : pm_chI = true := by decide +kernel
theorem pm_chR_ok : (List.range (pm_cnt + 1)).all pm_chR = true := by decide +kernel
theorem pm_chO_ok : (List.range (pm_cnt + 1)).all (fun j => decide (pm_ow j < 12)) = true := by decide +kernel
theorem pm_alM0 : (List.range 20).all (fun k => pm_chM (0 + k)) = true := by decide +kernel
theorem pm_alM1 : (List.range 20).all (fun k => pm_chM (20 + k)) = true := by decide +kernel
theorem pm_alM2 : (List.range 20).all (fun k => pm_chM (40 + k)) = true := by decide +kernel
theorem pm_alM3 : (List.range 20).all (fun k => pm_chM (60 + k)) = true := by decide +kernel
theorem pm_alM4 : (List.range 20).all (fun k => pm_chM (80 + k)) = true := by decide +kernel
theorem pm_alM5 : (List.range 20).all (fun k => pm_chM (100 + k)) = true := by decide +kernel
theorem pm_alM6 : (List.range 20).all (fun k => pm_chM (120 + k)) = true := by decide +kernel
theorem pm_alM7 : (List.range 20).all (fun k => pm_chM (140 + k)) = true := by decide +kernel
theorem pm_alM8 : (List.range 20).all (fun k => pm_chM (160 + k)) = true := by decide +kernel
theorem pm_alM9 : (List.range 20).all (fun k => pm_chM (180 + k)) = true := by decide +kernel
theorem pm_alM10 : (List.range 12).all (fun k => pm_chM (200 + k)) = true := by decide +kernel
theorem pm_alM {j : Nat} (h : j < pm_cnt) : pm_chM j = true := by
  have h : j < 212 := h
  by_cases h0 : j < 20
  · have := List.all_eq_true.mp pm_alM0 (j - 0) (List.mem_range.mpr (by omega))
    rw [show 0 + (j - 0) = j by omega] at this
    exact this
  by_cases h1 : j < 40
  · have := List.all_eq_true.mp pm_alM1 (j - 20) (List.mem_range.mpr (by omega))
    rw [show 20 + (j - 20) = j by omega] at this
    exact this
  by_cases h2 : j < 60
  · have := List.all_eq_true.mp pm_alM2 (j - 40) (List.mem_range.mpr (by omega))
    rw [show 40 + (j - 40) = j by omega] at this
    exact this
  by_cases h3 : j < 80
  · have := List.all_eq_true.mp pm_alM3 (j - 60) (List.mem_range.mpr (by omega))
    rw [show 60 + (j - 60) = j by omega] at this
    exact this
  by_cases h4 : j < 100
  · have := List.all_eq_true.mp pm_alM4 (j - 80) (List.mem_range.mpr (by omega))
    rw [show 80 + (j - 80) = j by omega] at this
    exact this
  by_cases h5 : j < 120
  · have := List.all_eq_true.mp pm_alM5 (j - 100) (List.mem_range.mpr (by omega))
    rw [show 100 + (j - 100) = j by omega] at this
    exact this
  by_cases h6 : j < 140
  · have := List.all_eq_true.mp pm_alM6 (j - 120) (List.mem_range.mpr (by omega))
    rw [show 120 + (j - 120) = j by omega] at this
    exact this
  by_cases h7 : j < 160
  · have := List.all_eq_true.mp pm_alM7 (j - 140) (List.mem_range.mpr (by omega))
    rw [show 140 + (j - 140) = j by omega] at this
    exact this
  by_cases h8 : j < 180
  · have := List.all_eq_true.mp pm_alM8 (j - 160) (List.mem_range.mpr (by omega))
    rw [show 160 + (j - 160) = j by omega] at this
    exact this
  by_cases h9 : j < 200
  · have := List.all_eq_true.mp pm_alM9 (j - 180) (List.mem_range.mpr (by omega))
    rw [show 180 + (j - 180) = j by omega] at this
    exact this
  by_cases h10 : j < 212
  · have := List.all_eq_true.mp pm_alM10 (j - 200) (List.mem_range.mpr (by omega))
    rw [show 200 + (j - 200) = j by omega] at this
    exact this
  omega
theorem pm_okI {o : Nat} (h : o < 12) : Jvm.Cond.initialized (pm_on o) ∈ lw_tbl := pm_mem (of_decide_eq_true (List.all_eq_true.mp pm_chI_ok o (List.mem_range.mpr h)))
theorem pm_okM {j : Nat} (h : j < pm_cnt) : Jvm.Cond.code (pm_y j) (pm_code j) (pm_max j) (pm_rt j) ∈ lw_tbl ∧ plainName (pm_y j).cls = true ∧ Jvm.Cond.initialized (pm_y j).cls ∈ lw_tbl ∧ ((pm_y j).cls ≠ "java/lang/invoke/MethodHandle" ∧ (pm_y j).cls ≠ "java/lang/invoke/VarHandle") ∧ (∀ sig, parseMethodDescriptor (pm_y j).desc = some sig → pm_np j = sig.parameters.length) ∧ (pm_y j).cls = pm_on (pm_ow j) ∧ (pm_kd j ≠ 0 → Jvm.Cond.instanceMethod (pm_y j) ∈ lw_tbl) ∧ (pm_kd j = 0 → Jvm.Cond.static (pm_y j) ∈ lw_tbl) ∧ (pm_kd j = 1 → ∃ (C : String) (T : u_T), pm_cl[pm_mc j]? = some (C, T, pm_nf (pm_mc j)) ∧ Jvm.Cond.selects C (pm_y j) (pm_y j) ∈ lw_tbl) ∧ (pm_kd j = 2 → (pm_y j).name = "<init>" ∧ pm_rt j = none) ∧ pm_max j ≤ 40 ∧ ((pm_rk j = 0 → pm_rt j = none) ∧ (pm_rk j = 1 → pm_rt j = some .int) ∧ (pm_rk j = 2 → pm_rt j = some .boolean) ∧ (pm_rk j = 3 → ∃ rt, pm_rt j = some rt ∧ ((∃ n, rt = .object n) ∨ ∃ t, rt = .array t)) ∧ (pm_rk j = 4 → pm_rt j = some .char)) := by
  have hm := pm_alM h
  have hr := List.all_eq_true.mp pm_chR_ok j (List.mem_range.mpr (by omega))
  have ho := of_decide_eq_true (List.all_eq_true.mp pm_chO_ok j (List.mem_range.mpr (by omega)))
  unfold pm_chM at hm
  simp only [Bool.and_eq_true, decide_eq_true_eq] at hm
  obtain ⟨h2, h3, h4, h5, h6, h7, h8⟩ := hm
  refine ⟨pm_cw h, h2, by rw [h6]; exact pm_okI ho, ⟨h3, h4⟩, fun sig hs => ?_, h6, fun hk => ?_, fun hk => ?_, fun hk => ?_, fun hk => ?_, h7, fun hk => ?_, fun hk => ?_, fun hk => ?_, fun hk => ?_, fun hk => ?_⟩
  · rw [hs] at h5
    exact (Option.some.inj h5).symm
  · split at h8
    · rename_i e; exact absurd e hk
    · simp only [Bool.and_eq_true, decide_eq_true_eq] at h8; exact pm_mem h8.1
    · simp only [Bool.and_eq_true, decide_eq_true_eq] at h8; exact pm_mem h8.1
    · cases h8
  · rw [hk] at h8
    exact pm_mem (of_decide_eq_true h8)
  · rw [hk] at h8
    simp only [Bool.and_eq_true] at h8
    obtain ⟨-, h9⟩ := h8
    split at h9
    · rename_i C T N hc
      simp only [Bool.and_eq_true, decide_eq_true_eq] at h9
      obtain ⟨rfl, h10⟩ := h9
      exact ⟨C, T, hc, pm_mem h10⟩
    · cases h9
  · rw [hk] at h8
    simp only [Bool.and_eq_true, decide_eq_true_eq] at h8
    exact h8.2
  all_goals (unfold pm_chR at hr; rw [hk] at hr; have hr := of_decide_eq_true hr; first | exact hr | exact ⟨_, hr, Or.inr ⟨_, rfl⟩⟩)
def pm_chL (o : Nat) (x : Nat × Nat × Nat × Bool) : Bool := decide (x.2.1 < pm_cnt) && (if x.2.2.2 then decide (lw_tbl[x.2.2.1]? = some (.methodLinkNest (pm_on o) x.1 (pm_y x.2.1) "BoundedSchemes")) else decide (lw_tbl[x.2.2.1]? = some (.methodLink (pm_on o) x.1 (pm_y x.2.1))))
theorem pm_alL0 : (pm_ml 0).all (pm_chL 0) = true := by decide +kernel
theorem pm_alL1 : (pm_ml 1).all (pm_chL 1) = true := by decide +kernel
theorem pm_alL2 : (pm_ml 2).all (pm_chL 2) = true := by decide +kernel
theorem pm_alL3 : (pm_ml 3).all (pm_chL 3) = true := by decide +kernel
theorem pm_alL4 : (pm_ml 4).all (pm_chL 4) = true := by decide +kernel
theorem pm_alL5 : (pm_ml 5).all (pm_chL 5) = true := by decide +kernel
theorem pm_alL6 : (pm_ml 6).all (pm_chL 6) = true := by decide +kernel
theorem pm_alL7 : (pm_ml 7).all (pm_chL 7) = true := by decide +kernel
theorem pm_alL8 : (pm_ml 8).all (pm_chL 8) = true := by decide +kernel
theorem pm_alL9 : (pm_ml 9).all (pm_chL 9) = true := by decide +kernel
theorem pm_alL10 : (pm_ml 10).all (pm_chL 10) = true := by decide +kernel
theorem pm_alL11 : (pm_ml 11).all (pm_chL 11) = true := by decide +kernel
theorem pm_alL (o : Nat) : (pm_ml o).all (pm_chL o) = true := by
  match o with
  | 0 => exact pm_alL0
  | 1 => exact pm_alL1
  | 2 => exact pm_alL2
  | 3 => exact pm_alL3
  | 4 => exact pm_alL4
  | 5 => exact pm_alL5
  | 6 => exact pm_alL6
  | 7 => exact pm_alL7
  | 8 => exact pm_alL8
  | 9 => exact pm_alL9
  | 10 => exact pm_alL10
  | 11 => exact pm_alL11
  | n + 12 => rfl
theorem pm_okL {o i j : Nat} (h : pm_mth o i = some j) : j < pm_cnt ∧ (Jvm.Cond.methodLink (pm_on o) i (pm_y j) ∈ lw_tbl ∨ ∃ host, Jvm.Cond.methodLinkNest (pm_on o) i (pm_y j) host ∈ lw_tbl) := by
  unfold pm_mth at h
  split at h
  · rename_i j' r hl
    cases h
    have h1 := List.all_eq_true.mp (pm_alL o) _ (pm_lk_mem hl)
    unfold pm_chL at h1
    simp only [Bool.and_eq_true, decide_eq_true_eq] at h1
    refine ⟨h1.1, ?_⟩
    have h2 := h1.2
    split at h2
    · exact Or.inr ⟨_, pm_mem (of_decide_eq_true h2)⟩
    · exact Or.inl (pm_mem (of_decide_eq_true h2))
  · cases h
