/-! BOTH RUN ALIKE: a run made at once and a run made in steps. -/
theorem itr_cut : ∀ {q q' n1 n2 : Nat} {c c1 c2 : Cf}, itr q c = some (n1, c1) → itr (q + q') c = some (n2, c2) → ∃ n3, itr q' c1 = some (n3, c2) ∧ n2 = n1 + n3
  | 0, q', n1, n2, c, c1, c2, h, h' => by
    cases h
    rw [Nat.zero_add] at h'
    exact ⟨n2, h', by omega⟩
  | q + 1, q', n1, n2, c, c1, c2, h, h' => by
    obtain ⟨b, c0, n0, e1, e2, e3⟩ := itr_split h
    rw [show q + 1 + q' = q + q' + 1 by omega] at h'
    obtain ⟨b', c0', n0', f1, f2, f3⟩ := itr_split h'
    rw [e1] at f1
    cases f1
    obtain ⟨n3, g1, g2⟩ := itr_cut e2 f2
    exact ⟨n3, g1, by omega⟩
def isV (c : Cf) : Prop := ∃ v, c = .inr (v, [])
theorem isV.no {c : Cf} (h : isV c) : mv c = none := by obtain ⟨v, rfl⟩ := h; rfl
/-- no step is left, or the next move is a step -/
def Stl (c : Cf) : Prop := isV c ∨ ∃ c', mv c = some (true, c')
theorem stl_more {c c1 : Cf} {q n1 : Nat} (h : Stl c) (hq : 0 < q) (e : itr q c = some (n1, c1)) : 0 < n1 ∧ ¬ isV c := by
  cases q with
  | zero => exact absurd hq (Nat.lt_irrefl _)
  | succ q =>
    obtain ⟨b, c0, n0, e1, e2, e3⟩ := itr_split e
    rcases h with h | ⟨c', h⟩
    · rw [h.no] at e1; exact absurd e1 (by simp)
    · refine ⟨?_, fun hv => ?_⟩
      · rw [h] at e1; cases e1; rw [if_pos rfl] at e3; omega
      · rw [hv.no] at h; exact absurd h (by simp)
theorem run_agree {S c cF : Cf} {st tot : Nat} (hF : ∃ q, itr q S = some (tot, cF)) (t6 : tot ≤ 60) (fF : isV cF ∨ (tot = 60 ∧ ∃ c', mv cF = some (true, c'))) (hc : ∃ q, itr q S = some (st, c)) (s6 : st ≤ 60) (sc : Stl c) : st ≤ tot ∧ (st = tot → c = cF) ∧ (isV c → st = tot) := by
  obtain ⟨q, hF⟩ := hF
  obtain ⟨q', hc⟩ := hc
  by_cases e : q' ≤ q
  · rw [show q = q' + (q - q') by omega] at hF
    obtain ⟨n3, g1, g2⟩ := itr_cut hc hF
    by_cases e0 : q - q' = 0
    · rw [e0] at g1
      cases g1
      exact ⟨by omega, fun _ => rfl, fun _ => by omega⟩
    · have := stl_more sc (by omega) g1
      exact ⟨by omega, fun h => by omega, fun h => absurd h this.2⟩
  · rw [show q' = q + (q' - q) by omega] at hc
    obtain ⟨n3, g1, g2⟩ := itr_cut hF hc
    have sF : Stl cF := fF.imp id (fun h => h.2)
    have := stl_more sF (by omega) g1
    rcases fF with h | ⟨h, _⟩
    · exact absurd h this.2
    · omega
