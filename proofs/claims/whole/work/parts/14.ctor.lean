/-! THE TWO CONSTRUCTORS, by computing. -/
def pm_st (c : pm_R) : pm_S := match c with
  | some (_, σ) => σ
  | none => pm_0
theorem pm_st_eq {c : pm_R} {r : Option Value} (h : c.map (fun x => x.1) = some r) : c = some (r, pm_st c) := by
  cases c with
  | none => cases h
  | some x =>
    obtain ⟨a, σ⟩ := x
    cases h
    rfl
def pm_s1 : pm_S := pm_mkS pm_0 10 0 15
def pm_c1 : pm_R := pm_call 3000 6 0 [.ref 1] pm_s1
theorem pm_c1_ok : pm_c1.map (fun x => x.1) = some none := by decide +kernel
def pm_s2 : pm_S := pm_st pm_c1
theorem pm_s2_n : pm_s2.2.2.2.2.1 = 55 := by decide +kernel
def pm_s3 : pm_S := pm_mkS pm_s2 19 0 66
def pm_c2 : pm_R := pm_call 3000 6 134 [.ref 56] pm_s3
theorem pm_c2_ok : pm_c2.map (fun x => x.1) = some none := by decide +kernel
def pm_s4 : pm_S := pm_st pm_c2
theorem pm_s4_chk : pm_chk pm_s4 = true := by decide +kernel
theorem pm_s4_fresh : pm_Fresh pm_s4 := pm_Fresh_of pm_s4_chk
