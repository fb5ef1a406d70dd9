/-! THE CLAIM OUT OF ONE WALK OF THE LAW'S BODY. Your part is whole_start (and what it stands on); all else here is the same for every law, but numbers. -/
def R_law : String := "BoundedSchemesLaw"
def lw_P (b : Addr) (xs : List Int32) (args : Array Value) (s : State) : Prop := args = #[.ref b] ∧ s.IntsAt b xs ∧ xs.length ≤ 2048 ∧ (Jvm.Cond.and given_1 narrow_1).before args s = true
def lw_Q (_ : Array Value) (s : State) (o : Outcome) (t : State) : Prop := o = .returned (some (.int 1)) ∧ Framed s o t [] 600000 7302250
def lw_Z (below : List Frame) (a : Array Value) (s : State) : State → Prop := fun t => ∃ o, t.status = .running ∧ Ended t below o ∧ lw_Q a s o t
/-- the law's own end, with 1 on the stack, nothing written that was there before, its room as the claim has it -/
theorem lw_ret {p : Program} {l : Launch} {e : Env} {s : State} {m : MethodId} {below : List Frame} {meth : Method} {c : Code} {b : Nat} (hx : p.tables.exec = Jvm.exec) (hb : c.code = code) (hr : meth.sig.returnType = ret) (hlocks : meth.locks = false) {pc : Nat} {H : Heap} {ls : Array Slot} (hdg : decode code pc = .ok (.ireturn, 1)) : W p l e room_1 s m #[Value.ref b] below meth c H [] 600000 7302250 (lw_Z below #[Value.ref b] s) (F0 m pc ls [.int 1]) := by
  intro T hT X
  obtain ⟨fs, hret, hrun, hended, hW, hframe⟩ := X.leave (v := some (.int 1)) (hlocks := hlocks) (fun h => by rw [hr] at h; cases h)
  have hmeth' : T.vm.method? m = some meth := X.method'
  refine ⟨T.setFrames fs, ?_, .returned (some (.int 1)), hrun, hended, rfl, ⟨_, rfl⟩, hW, hframe⟩
  jvm_step X.here [X.here.top, hx, hb, hdg, hmeth', hr, ret, narrow_b1]
  (try refine ⟨rfl, ?_⟩); (try refine ⟨rfl, ?_⟩)
  first | (intro acts; rw [hret _ acts rfl rfl rfl]) | rw [hret _ _ rfl rfl rfl]
  exact Steps.refl _
/-- what holds at the law's entry: the machine, the code, the tables' words (any of lw_tbl by 'hts w (by decide +kernel)'), the script of L ints xs at the cell b, what the Statement gives of the start (any of its parts by flat_of_before) -/
def lw_At (p : Program) (s : State) (m : MethodId) (meth : Method) (c : Code) (b L : Nat) (xs : Nat → Int32) : Prop :=
  p.tables.exec = Jvm.exec ∧ c.code = code ∧ meth.sig.returnType = ret ∧ c.maxLocals = 4 ∧ s.vm.findClass R_law = some m.cls ∧ (∀ w ∈ lw_tbl, w.before #[Value.ref b] s = true) ∧ va_X b L xs s s.heap ∧ b < s.heap.size ∧ meth.locks = false ∧ (Jvm.Cond.and given_1 narrow_1).before #[Value.ref b] s = true
/-! THE LAW: a run of the picture machine from the empty picture is a walk of the law's body. -/
def pm_0 : pm_S := (fun _ _ => 0, fun _ _ => 0, fun _ => 0, fun _ => 0, 0, 0)
theorem pm_Tb_of {A : Array Value} {s : State} (h : ∀ w ∈ lw_tbl, w.before A s = true) : pm_Tb s := by
  intro w hw hk a
  by_cases hg : goodWord w = true
  · exact word_at (State.WarmedH.refl s) (good_of_word hg) (h w hw)
  · have hb := h w hw
    simp only [pm_ok, Bool.eq_false_iff.mpr hg, Bool.false_or] at hk
    split at hk
    · exact va_Nw.use rfl (va_Nw.of rfl hb)
    · exact va_Nw.use rfl (va_Nw.of rfl hb)
    · exact va_AO.use (va_AO.of hb)
    · cases hk
theorem pm_known {A : Array Value} {s : State} (h : ∀ w ∈ lw_tbl, w.before A s = true) : ∃ (D : va_G) (kA : Nat → ClassId), va_K D pm_cl (pm_tys kA) s := by
  have h1 : ∀ k : Nat, ∃ x : ClassId × (Nat → Nat), ∀ q : vw_C, pm_cl[k]? = some q → u_Kn s q.1 q.2.1 q.2.2 x.1 x.2 := by
    intro k
    cases hk : pm_cl[k]? with
    | none => exact ⟨(0, fun _ => 0), fun q hq => by cases hq⟩
    | some q =>
      obtain ⟨C, T, N⟩ := q
      obtain ⟨-, c2, -, -, c5, -⟩ := pm_okC hk
      obtain ⟨cC, iS, hKn⟩ := u_known h c2 (h _ c5)
      exact ⟨(cC, iS), fun q hq => by cases hq; exact hKn⟩
  have h2 : ∀ k : Nat, ∃ x : ClassId, k < pm_nk → ArrOfT s x (pm_ty k) ∧ va_RA s x (pm_ty k) := by
    intro k
    match k with
    | 0 =>
      obtain ⟨c, kc, comp, e1, e2, e3⟩ := Cond.arrayClass_spec (h _ pm_okAI)
      exact ⟨c, fun _ => ⟨fun n z => ⟨fun k h => (by cases h), kc, e2, comp, e3⟩, e1⟩⟩
    | 1 =>
      obtain ⟨c, kc, comp, e1, e2, e3⟩ := Cond.arrayClass_spec (h _ pm_okAC)
      exact ⟨c, fun _ => ⟨fun n z => ⟨fun k h => (by cases h), kc, e2, comp, e3⟩, e1⟩⟩
    | 2 =>
      obtain ⟨c, kc, comp, e1, e2, e3⟩ := Cond.arrayClass_spec (h _ pm_okAZ)
      exact ⟨c, fun _ => ⟨fun n z => ⟨fun k h => (by cases h), kc, e2, comp, e3⟩, e1⟩⟩
    | 3 =>
      obtain ⟨comp, c, kc, e1, e2, e3, e4, e5⟩ := Cond.arrayOver_spec (h _ (pm_okA (o := 0) (i := 13) rfl).2)
      exact ⟨c, fun _ => ⟨fun n z => ⟨fun k h => (by cases h), kc, e3, comp, e4⟩, kc, comp, e3, e4, e1, e5⟩⟩
    | n + 4 => exact ⟨0, fun h => absurd h (by show ¬ n + 4 < 4; omega)⟩
  refine ⟨(fun k => (Classical.choose (h1 k)).1, fun k => (Classical.choose (h1 k)).2), fun k => Classical.choose (h2 k), fun k q hq => Classical.choose_spec (h1 k) q hq, fun k q hq => ?_⟩
  have hk : k < pm_nk := by
    have := (List.getElem?_eq_some_iff.mp hq).1
    simpa [pm_tys] using this
  rw [pm_tys_at hk] at hq
  cases hq
  exact Classical.choose_spec (h2 k) hk
/-- what is to be shown of the picture machine alone -/
def pm_Law (L : Nat) (xs : Nat → Int32) : Prop := ∃ d : Nat, d ≤ 1000 ∧ pm_Wp (some (L, xs)) d 212 0 (pm_in 212 [.ref 0]) [] pm_0 (fun r σ' => r = some (.int 1) ∧ σ'.2.2.2.2.1 ≤ 600000 ∧ σ'.2.2.2.2.2 ≤ 7302250)
set_option maxHeartbeats 4000000 in
theorem pm_start {p : Program} {e : Env} {s : State} {m : MethodId} {below : List Frame} {meth : Method} {c : Code} (l : Launch) {b L : Nat} {xs : Nat → Int32} (C0 : lw_At p s m meth c b L xs) (h : pm_Law L xs) : W p l e room_1 s m #[Value.ref b] below meth c s.heap [] 0 0 (lw_Z below #[Value.ref b] s) (entryFrame m ([Value.ref b] : List Value).toArray 4) := by
  obtain ⟨hx, hb, hr, hml, hown, hts, hX, hbl, hlocks, hgv⟩ := C0
  obtain ⟨D, kA, hK⟩ := pm_known hts
  obtain ⟨d, hd, F, f, r, σ', hrun, rfl, h1, h2⟩ := h
  have hF : pm_Fr D kA b (some (L, xs)) s.heap 212 p room_1 s m meth c := ⟨hx, hb, hml, hown, pm_Tb_of hts, hK, (fun x hx => by cases hx; exact ⟨hX, hbl⟩), fun h => (by cases h), by decide, by decide⟩
  have e0 : pm_v b s.heap (.ref 0) = .ref b := rfl
  have hl := pm_in_has (b := b) (HL := s.heap) (j := 212) (as := [.ref 0]) (by decide) (by decide)
  rw [lg_entry_eq]
  refine pm_exec_w (l := l) (C := pm_call F d) (d := d) (R := room_1) (mc := σ'.2.2.2.2.1) (ms := σ'.2.2.2.2.2) (pm_call_le d) (fun j as σ r σ' h => pm_call_met d j as σ r σ' h) hF ⟨by show d + 1 ≤ 2048; omega, by show 64 * (d + 1) ≤ 84000; omega⟩ ⟨h1, h2⟩ ?_ f 0 (pm_in 212 [.ref 0]) [] pm_0 hrun s.heap [] _ 0 0 ⟨fun k q hq => by simp [pm_w, pm_0] at hq, va_S.rf, rfl, hl, pm_in_len (by decide)⟩ rfl (by show 0 + (σ'.2.2.2.2.1 - 0) = _; omega) (by show 0 + (σ'.2.2.2.2.2 - 0) = _; omega)
  intro pc i st ls H locs la hdec hret hR
  have hf : ∀ q ∈ locs, s.heap.size ≤ q.base := hR.2.1.2.2
  cases i with
  | ireturn =>
    simp only [pm_ret] at hret
    split at hret
    · rename_i hk; exact absurd hk (by decide)
    · split at hret
      · match st, hret with
        | [.int x], hret =>
          simp only at hret
          split at hret
          · cases hret
            refine va_forget hf (W.widen h1 h2 ?_)
            exact lw_ret hx hb hr hlocks hdec
          · cases hret
      · split at hret
        · rename_i hk; exact absurd hk (by decide)
        · cases hret
  | return_ =>
    simp only [pm_ret] at hret
    split at hret
    · rename_i hk; exact absurd hk (by decide)
    · cases hret
  | areturn =>
    simp only [pm_ret] at hret
    split at hret
    · rename_i hk; exact absurd hk (by decide)
    · cases hret
  | _ => cases hret
