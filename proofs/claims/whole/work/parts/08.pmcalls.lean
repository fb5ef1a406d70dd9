theorem pm_wr_n {o kd : Nat} {i : Jvm.ClassFile.Instr} {st st' : List Value} {σ σ' : pm_S} (h : pm_wr o kd i st σ = some (σ', st')) : σ'.2.2.2.2 = σ.2.2.2.2 := by
  unfold pm_wr at h
  split at h
  all_goals (repeat' (split at h))
  all_goals first | (cases h; rfl) | cases h
theorem pm_jdk_n {o : Nat} {i : Jvm.ClassFile.Instr} {st st' : List Value} {σ σ' : pm_S} (h : pm_jdk o i st σ = some (σ', st')) : σ'.2.2.2.2 = σ.2.2.2.2 := by
  unfold pm_jdk at h
  split at h
  all_goals (repeat' (split at h))
  all_goals first | (cases h; rfl) | cases h
def pm_le (σ σ' : pm_S) : Prop := σ.2.2.2.2.1 ≤ σ'.2.2.2.2.1 ∧ σ.2.2.2.2.2 ≤ σ'.2.2.2.2.2
theorem pm_le.rfl (σ : pm_S) : pm_le σ σ := ⟨Nat.le_refl _, Nat.le_refl _⟩
theorem pm_le.trans {σ σ1 σ' : pm_S} (h1 : pm_le σ σ1) (h2 : pm_le σ1 σ') : pm_le σ σ' := ⟨Nat.le_trans h1.1 h2.1, Nat.le_trans h1.2 h2.2⟩
theorem pm_step_le {X : pm_X} {o kd pc len : Nat} {i : Jvm.ClassFile.Instr} {ls : pm_L} {st : List Value} {σ : pm_S} {pc' : Nat} {ls' : pm_L} {st' : List Value} {σ' : pm_S} (h : pm_step X o kd pc len i ls st σ = some (pc', ls', st', σ')) : pm_le σ σ' := by
  unfold pm_step at h
  split at h
  · cases h; exact pm_le.rfl _
  · split at h
    · split at h
      · cases h; exact pm_le.rfl _
      · split at h
        · split at h
          · cases h; exact pm_le.rfl _
          · cases h
        · split at h
          · rename_i hw
            cases h
            have := pm_wr_n hw
            exact ⟨by rw [this]; exact Nat.le_refl _, by rw [this]; exact Nat.le_refl _⟩
          · split at h
            · cases h
              exact ⟨Nat.le_succ _, Nat.le_add_right _ _⟩
            · split at h
              · rename_i hw
                cases h
                have := pm_jdk_n hw
                exact ⟨by rw [this]; exact Nat.le_refl _, by rw [this]; exact Nat.le_refl _⟩
              · split at h
                · cases h; exact pm_le.rfl _
                · cases h
    · cases h
theorem pm_exec_le {X : pm_X} {C : pm_O} (hC : ∀ j as σ r σ', C j as σ = some (r, σ') → pm_le σ σ') : ∀ (f mi pc : Nat) (ls : pm_L) (st : List Value) (σ : pm_S) (r : Option Value) (σ' : pm_S), pm_exec X C f mi pc ls st σ = some (r, σ') → pm_le σ σ'
  | 0, _, _, _, _, _, _, _, h => by cases h
  | f + 1, mi, pc, ls, st, σ, r, σ', h => by
    unfold pm_exec at h
    split at h
    · split at h
      · split at h
        · cases h; exact pm_le.rfl _
        · cases h
      · split at h
        · split at h
          · split at h
            · rename_i hc
              exact (hC _ _ _ _ _ hc).trans (pm_exec_le hC f _ _ _ _ _ _ _ h)
            · cases h
          · cases h
        · split at h
          · rename_i hs
            exact (pm_step_le hs).trans (pm_exec_le hC f _ _ _ _ _ _ _ h)
          · cases h
    · cases h
theorem pm_call_le {F : Nat} : ∀ (d j : Nat) (as : List Value) (σ : pm_S) (r : Option Value) (σ' : pm_S), pm_call F d j as σ = some (r, σ') → pm_le σ σ'
  | 0, _, _, _, _, _, h => by cases h
  | d + 1, j, as, σ, r, σ', h => by
    unfold pm_call at h
    split at h
    · exact pm_exec_le (pm_call_le d) _ _ _ _ _ _ _ _ h
    · cases h
def pm_Q (D : va_G) (kA : Nat → ClassId) (b : Nat) (HL : Heap) (r : Option Value) (σ' : pm_S) : Array Value → State → Outcome → State → Prop := fun _ _ oc t => oc = .returned (r.map (pm_v b HL)) ∧ pm_Wd D kA HL σ' t
def pm_ws (j : Nat) : List Jvm.Cond := [Jvm.Cond.code (pm_y j) (pm_code j) (pm_max j) (pm_rt j)]
def pm_rm (d : Nat) (σ σ' : pm_S) : Room := { frames := d, cells := σ'.2.2.2.2.1 - σ.2.2.2.2.1, slots := σ'.2.2.2.2.2 - σ.2.2.2.2.2, locals := 64 * d }
def pm_Met (l : Launch) (D : va_G) (kA : Nat → ClassId) (b : Nat) (HL : Heap) (d j : Nat) (as : List Value) (σ : pm_S) (r : Option Value) (σ' : pm_S) : Prop :=
  Met l (pm_y j) (pm_ws j) (pm_rm d σ σ') (va_Pc (as.map (pm_v b HL)) (pm_Wd D kA HL σ)) (pm_Q D kA b HL r σ') (σ'.2.2.2.2.1 - σ.2.2.2.2.1) (σ'.2.2.2.2.2 - σ.2.2.2.2.2) (fun q => HL.size ≤ q)
section PmV
variable {p : Program} {l : Launch} {e : Env} {R : Room} {s : State} {m : MethodId} {args : Array Value} {below : List Frame} {meth : Method} {c : Code} {H : Heap} {locs : List Loc} {cells slots : Nat} {Q : State → Prop}
variable {D : va_G} {kA : Nat → ClassId} {b : Nat} {X : pm_X} {HL : Heap} {cc : ByteArray} {pc : Nat} {la : Array Slot}
theorem pm_run_w {mc ms : Nat} {st0 rest : List Value} {a : Array Value} {r : Option Value} {σ1 : pm_S} (hr : va_Run p l e R s m args below meth c H locs cells slots mc ms (F0 m pc la st0) rest (pm_Q D kA b HL r σ1 a) (fun q => HL.size ≤ q)) (hS : va_S (fun q => HL.size ≤ q) HL H locs)
    (k : ∀ H1 locs1, va_P D pm_cl (pm_w kA HL σ1) H1 → va_S (fun q => HL.size ≤ q) HL H1 locs1 → H1.size = HL.size + σ1.2.2.2.2.1 → W p l e R s m args below meth c H1 locs1 (cells + mc) (slots + ms) Q (F0 m (pc + 3) la ((r.map (pm_v b HL)).toList ++ rest))) : W p l e R s m args below meth c H locs cells slots Q (F0 m pc la st0) := by
  intro T hT X0
  obtain ⟨v, st₀, t, T', L, h0, X', hL, e1, e2, ⟨hv, hWd⟩, st⟩ := hr T hT X0
  cases hv
  obtain ⟨-, -, w5, w6, w7⟩ := hWd
  obtain ⟨t2, a1, b1⟩ := k T'.heap (locs ++ L) (by rw [e1]; exact w7) ⟨by rw [e1]; exact w5.1, fun q h1 h2 => by rw [e1]; exact w5.2.1 q h1 h2, fun q hq => by
    rcases List.mem_append.mp hq with h | h
    · exact hS.2.2 q h
    · exact hL q h⟩ (by rw [e1]; exact w6) T' rfl X'
  exact ⟨t2, st t2 a1, b1⟩
theorem pm_blind {as : List Value} {σ : pm_S} : FrameBlind (va_Pc as (pm_Wd D kA HL σ)) := fun a U g mk q => ⟨q.1, pm_Wd.moved (s := U) (U := U.calling g mk a) (State.WarmedH.refl U) rfl q.2⟩
theorem pm_Wd_now {mi : Nat} {ls : pm_L} {σ : pm_S} (hF : pm_Fr D kA b X HL mi p R s m meth c) (hR : pm_Re D kA b HL mi σ ls H locs la) (U : State) (hU : U.heap = H) (hW : s.WarmedH U.vm) : pm_Wd D kA HL σ U := by
  obtain ⟨hx, hb, hml, hown, hTb, hK, hX, -, -, -⟩ := hF
  obtain ⟨hP, hS, hz, hl, hlen⟩ := hR
  exact ⟨hTb.moved hW, va_K.moved hW.alike hK, by rw [hU]; exact ⟨hS.1, hS.2.1, fun _ h => by cases h⟩, by rw [hU]; exact hz, by rw [hU]; exact hP⟩
theorem pm_code_ws {j : Nat} (hj : j < pm_cnt) (hTb : pm_Tb s) : ∀ w ∈ pm_ws j, ∀ (a' : Array Value) (U : State), s.WarmedH U.vm → w.before a' U = true := by
  intro w hw a' U hW
  unfold pm_ws at hw
  rw [List.mem_singleton] at hw
  subst hw
  exact (hTb.moved hW) _ (pm_okM hj).1 rfl a'
set_option maxHeartbeats 4000000 in
/-- a call: the callee's contract is used -/
theorem pm_inv_w {mi d j : Nat} {i : Jvm.ClassFile.Instr} {ls : pm_L} {st as rest : List Value} {σ σ1 : pm_S} {r : Option Value} (hF : pm_Fr D kA b X HL mi p R s m meth c) (hR : pm_Re D kA b HL mi σ ls H locs la) (hRd : d + 1 ≤ R.frames ∧ 64 * (d + 1) ≤ R.locals) (hd : decode (pm_code mi) pc = .ok (i, 3)) (h : pm_inv (pm_ow mi) i st σ = some (j, as, rest))
    (hM : pm_Met l D kA b HL d j as σ r σ1) (hf : cells + (σ1.2.2.2.2.1 - σ.2.2.2.2.1) ≤ R.cells ∧ slots + (σ1.2.2.2.2.2 - σ.2.2.2.2.2) ≤ R.slots)
    (k : ∀ H1 locs1, pm_Re D kA b HL mi σ1 ls H1 locs1 la → W p l e R s m args below meth c H1 locs1 (cells + (σ1.2.2.2.2.1 - σ.2.2.2.2.1)) (slots + (σ1.2.2.2.2.2 - σ.2.2.2.2.2)) Q (F0 m (pc + 3) la ((r.toList ++ rest).map (pm_v b HL)))) : W p l e R s m args below meth c H locs cells slots Q (F0 m pc la (st.map (pm_v b HL))) := by
  have hnow := pm_Wd_now hF hR
  obtain ⟨hx, hb, hml, hown, hTb, hK, hX, -, -, -⟩ := hF
  obtain ⟨hP, hS, hz, hl, hlen⟩ := hR
  have kk : ∀ H1 locs1, va_P D pm_cl (pm_w kA HL σ1) H1 → va_S (fun q => HL.size ≤ q) HL H1 locs1 → H1.size = HL.size + σ1.2.2.2.2.1 → W p l e R s m args below meth c H1 locs1 (cells + (σ1.2.2.2.2.1 - σ.2.2.2.2.1)) (slots + (σ1.2.2.2.2.2 - σ.2.2.2.2.2)) Q (F0 m (pc + 3) la ((r.map (pm_v b HL)).toList ++ rest.map (pm_v b HL))) := by
    intro H1 locs1 q1 q2 q3
    have := k H1 locs1 ⟨q1, q2, q3, hl, hlen⟩
    rw [List.map_append] at this
    cases r <;> exact this
  have S : CallFix p m c (pm_code mi) (pm_max mi) s args [] (pm_on (pm_ow mi)) := ⟨hx, hb, hml, hown, fun _ h => by cases h⟩
  cases i with
  | invokevirtual n =>
    simp only [pm_inv] at h
    split at h
    · rename_i j' hj'
      split at h
      · rename_i q rest' hdr
        split at h
        · rename_i hc
          simp only [Bool.and_eq_true, decide_eq_true_eq] at hc
          obtain ⟨h1, h2, h3, h4, h5, h6, h7⟩ := hc
          simp only [Option.some.injEq, Prod.mk.injEq] at h
          obtain ⟨rfl, rfl, rfl⟩ := h
          obtain ⟨hjc, hlk⟩ := pm_okL hj'
          obtain ⟨m1, m2, m3, m4, m5, m6, m7, m8, m9, m10, m11, m12⟩ := pm_okM hjc
          have m7 := m7 (by omega)
          obtain ⟨C, T, v1, v2⟩ := m9 h1
          have he := pm_w_at (kA := kA) (HL := HL) h3 h4
          rw [pm_e_obj h5] at he
          have hrec := va_recv hK hP v1 he
          have hst : st.map (pm_v b HL) = (((st.take (pm_np j')).reverse).map (pm_v b HL)).reverse ++ .ref (pm_a b HL q) :: rest'.map (pm_v b HL) := by
            rw [List.map_reverse, List.reverse_reverse, show (.ref (pm_a b HL q) :: rest'.map (pm_v b HL) : List Value) = (Value.ref q :: rest').map (pm_v b HL) from rfl, ← hdr, ← List.map_append, List.take_append_drop]
          have hall : rest'.all pm_vc = true := by
            rw [List.all_eq_true] at h7 ⊢
            intro x hxm
            exact h7 x (List.mem_of_mem_drop (by rw [hdr]; exact List.mem_cons_of_mem _ hxm))
          have hsum := pm_cats (b := b) (HL := HL) rest' hall
          have hWr := lv_room (m := m) (pc := pc) (ls := la) (rest := st.map (pm_v b HL)) (st := rest'.map (pm_v b HL)) (by rw [hsum]; exact h6)
          have hlenA : (((st.take (pm_np j')).reverse).map (pm_v b HL)).length = pm_np j' := by
            rw [List.length_map, List.length_reverse, List.length_take]
            omega
          have hpre : PreV s H C (pm_a b HL q) (va_Pc ((.ref q :: (st.take (pm_np j')).reverse).map (pm_v b HL)) (pm_Wd D kA HL σ)) (((st.take (pm_np j')).reverse).map (pm_v b HL)) := by
            refine ⟨pm_blind, ?_, fun U hU hW => ⟨rfl, hnow U hU hW⟩⟩
            rw [pm_a_pos h3]
            exact hrec
          have hroom : (pm_rm d σ σ1).frames + 1 ≤ R.frames ∧ 8 + (pm_max j' + 11) + (pm_rm d σ σ1).locals ≤ R.locals := by
            refine ⟨hRd.1, ?_⟩
            show 8 + (pm_max j' + 11) + 64 * d ≤ R.locals
            omega
          rcases hlk with hlk | ⟨host, hlk⟩
          · exact pm_run_w (va_runV (g := F0 m pc la (st.map (pm_v b HL))) (rest := rest'.map (pm_v b HL)) S hM ⟨⟨rfl, rfl, hroom.1, hroom.2, pm_code_ws hjc hTb, List.mem_singleton.mpr rfl, pm_word hTb m1 rfl, pm_word hTb m3 rfl, m4, m5, pm_word hTb hlk rfl⟩, pm_word hTb m7 rfl, pm_word hTb v2 rfl⟩ hpre rfl hlenA hl.1 hst hWr hd hf) hS kk
          · exact pm_run_w (va_runVN (g := F0 m pc la (st.map (pm_v b HL))) (rest := rest'.map (pm_v b HL)) S hM ⟨⟨⟨rfl, rfl, hroom.1, hroom.2, pm_code_ws hjc hTb, List.mem_singleton.mpr rfl⟩, pm_word hTb m1 rfl, pm_word hTb m3 rfl, m4, m5, pm_word hTb hlk rfl⟩, pm_word hTb m7 rfl, pm_word hTb v2 rfl⟩ hpre rfl hlenA hl.1 hst hWr hd hf) hS kk
        · cases h
      · cases h
    · cases h
  | invokespecial n =>
    simp only [pm_inv] at h
    split at h
    · rename_i j' hj'
      split at h
      · rename_i q rest' hdr
        split at h
        · rename_i hc
          simp only [Bool.and_eq_true, decide_eq_true_eq] at hc
          obtain ⟨h1, h2, h3, h6, h7⟩ := hc
          simp only [Option.some.injEq, Prod.mk.injEq] at h
          obtain ⟨rfl, rfl, rfl⟩ := h
          obtain ⟨hjc, hlk⟩ := pm_okL hj'
          obtain ⟨m1, m2, m3, m4, m5, m6, m7, m8, m9, m10, m11, m12⟩ := pm_okM hjc
          have m7 := m7 (by omega)
          obtain ⟨n1, n2⟩ := m10 h1
          have m1 := m1
          rw [n2] at m1
          have hcw : Jvm.Cond.code (pm_y j') (pm_code j') (pm_max j') none ∈ pm_ws j' := by
            unfold pm_ws
            rw [n2]
            exact List.mem_singleton.mpr rfl
          have hst : st.map (pm_v b HL) = (((st.take (pm_np j')).reverse).map (pm_v b HL)).reverse ++ .ref (pm_a b HL q) :: rest'.map (pm_v b HL) := by
            rw [List.map_reverse, List.reverse_reverse, show (.ref (pm_a b HL q) :: rest'.map (pm_v b HL) : List Value) = (Value.ref q :: rest').map (pm_v b HL) from rfl, ← hdr, ← List.map_append, List.take_append_drop]
          have hall : rest'.all pm_vc = true := by
            rw [List.all_eq_true] at h7 ⊢
            intro x hxm
            exact h7 x (List.mem_of_mem_drop (by rw [hdr]; exact List.mem_cons_of_mem _ hxm))
          have hsum := pm_cats (b := b) (HL := HL) rest' hall
          have hWr := lv_room (m := m) (pc := pc) (ls := la) (rest := st.map (pm_v b HL)) (st := rest'.map (pm_v b HL)) (by rw [hsum]; exact h6)
          have hlenA : (((st.take (pm_np j')).reverse).map (pm_v b HL)).length = pm_np j' := by
            rw [List.length_map, List.length_reverse, List.length_take]
            omega
          have hpre : PreS s H (va_Pc ((.ref q :: (st.take (pm_np j')).reverse).map (pm_v b HL)) (pm_Wd D kA HL σ)) (.ref (pm_a b HL q) :: ((st.take (pm_np j')).reverse).map (pm_v b HL)) :=
            ⟨pm_blind, fun U hU hW => ⟨rfl, hnow U hU hW⟩⟩
          have hroom : (pm_rm d σ σ1).frames + 1 ≤ R.frames ∧ 8 + (pm_max j' + 11) + (pm_rm d σ σ1).locals ≤ R.locals := by
            refine ⟨hRd.1, ?_⟩
            show 8 + (pm_max j' + 11) + 64 * d ≤ R.locals
            omega
          rcases hlk with hlk | ⟨host, hlk⟩
          · exact pm_run_w (va_runI (g := F0 m pc la (st.map (pm_v b HL))) (rest := rest'.map (pm_v b HL)) S hM ⟨⟨rfl, rfl, hroom.1, hroom.2, pm_code_ws hjc hTb, hcw, pm_word hTb m1 rfl, pm_word hTb m3 rfl, m4, m5, pm_word hTb hlk rfl⟩, n1, pm_word hTb m7 rfl⟩ hpre rfl hlenA hl.1 hst hWr hd hf) hS kk
          · exact pm_run_w (va_runIN (g := F0 m pc la (st.map (pm_v b HL))) (rest := rest'.map (pm_v b HL)) S hM ⟨⟨⟨rfl, rfl, hroom.1, hroom.2, pm_code_ws hjc hTb, hcw⟩, pm_word hTb m1 rfl, pm_word hTb m3 rfl, m4, m5, pm_word hTb hlk rfl⟩, n1, pm_word hTb m7 rfl⟩ hpre rfl hlenA hl.1 hst hWr hd hf) hS kk
        · cases h
      · cases h
    · cases h
  | invokestatic n =>
    simp only [pm_inv] at h
    split at h
    · rename_i j' hj'
      split at h
      · rename_i hc
        simp only [Bool.and_eq_true, decide_eq_true_eq] at hc
        obtain ⟨h1, h2, h6, h7⟩ := hc
        simp only [Option.some.injEq, Prod.mk.injEq] at h
        obtain ⟨rfl, rfl, rfl⟩ := h
        obtain ⟨hjc, hlk⟩ := pm_okL hj'
        obtain ⟨m1, m2, m3, m4, m5, m6, m7, m8, m9, m10, m11, m12⟩ := pm_okM hjc
        have m8 := m8 h1
        have hst : st.map (pm_v b HL) = (((st.take (pm_np j')).reverse).map (pm_v b HL)).reverse ++ (st.drop (pm_np j')).map (pm_v b HL) := by
          rw [List.map_reverse, List.reverse_reverse, ← List.map_append, List.take_append_drop]
        have hall : (st.drop (pm_np j')).all pm_vc = true := by
          rw [List.all_eq_true] at h7 ⊢
          intro x hxm
          exact h7 x (List.mem_of_mem_drop hxm)
        have hsum := pm_cats (b := b) (HL := HL) (st.drop (pm_np j')) hall
        have hWr := lv_room (m := m) (pc := pc) (ls := la) (rest := st.map (pm_v b HL)) (st := (st.drop (pm_np j')).map (pm_v b HL)) (by rw [hsum]; exact h6)
        have hlenA : (((st.take (pm_np j')).reverse).map (pm_v b HL)).length = pm_np j' := by
          rw [List.length_map, List.length_reverse, List.length_take]
          omega
        have hpre : PreS s H (va_Pc (((st.take (pm_np j')).reverse).map (pm_v b HL)) (pm_Wd D kA HL σ)) (((st.take (pm_np j')).reverse).map (pm_v b HL)) :=
          ⟨pm_blind, fun U hU hW => ⟨rfl, hnow U hU hW⟩⟩
        have hroom : (pm_rm d σ σ1).frames + 1 ≤ R.frames ∧ 8 + (pm_max j' + 11) + (pm_rm d σ σ1).locals ≤ R.locals := by
          refine ⟨hRd.1, ?_⟩
          show 8 + (pm_max j' + 11) + 64 * d ≤ R.locals
          omega
        rcases hlk with hlk | ⟨host, hlk⟩
        · exact pm_run_w (va_runS (g := F0 m pc la (st.map (pm_v b HL))) (rest := (st.drop (pm_np j')).map (pm_v b HL)) S hM ⟨⟨rfl, rfl, hroom.1, hroom.2, pm_code_ws hjc hTb, List.mem_singleton.mpr rfl, pm_word hTb m1 rfl, pm_word hTb m3 rfl, m4, m5, pm_word hTb hlk rfl⟩, pm_word hTb m8 rfl⟩ hpre rfl hlenA hl.1 hst hWr hd hf) hS kk
        · exact pm_run_w (va_runSN (g := F0 m pc la (st.map (pm_v b HL))) (rest := (st.drop (pm_np j')).map (pm_v b HL)) S hM ⟨⟨⟨rfl, rfl, hroom.1, hroom.2, pm_code_ws hjc hTb, List.mem_singleton.mpr rfl⟩, pm_word hTb m1 rfl, pm_word hTb m3 rfl, m4, m5, pm_word hTb hlk rfl⟩, pm_word hTb m8 rfl, trivial⟩ hpre rfl hlenA hl.1 hst hWr hd hf) hS kk
      · cases h
    · cases h
  | _ => cases h
end PmV
set_option maxHeartbeats 4000000 in
/-- THE RUN: from a frame that holds the picture to where the picture machine returns -/
theorem pm_exec_w {l : Launch} {D : va_G} {kA : Nat → ClassId} {b : Nat} {X : pm_X} {HL : Heap} {C : pm_O} {d : Nat} (hCle : ∀ j as σ r σ', C j as σ = some (r, σ') → pm_le σ σ') (hC : ∀ j as σ r σ', C j as σ = some (r, σ') → pm_Met l D kA b HL d j as σ r σ')
    {p : Program} {e : Env} {R : Room} {s : State} {m : MethodId} {args : Array Value} {below : List Frame} {meth : Method} {c : Code} {Q : State → Prop} {mi : Nat} {r : Option Value} {σ' : pm_S} {mc ms : Nat} (hF : pm_Fr D kA b X HL mi p R s m meth c) (hRd : d + 1 ≤ R.frames ∧ 64 * (d + 1) ≤ R.locals) (hrc : mc ≤ R.cells ∧ ms ≤ R.slots)
    (fin : ∀ (pc : Nat) (i : Jvm.ClassFile.Instr) (st : List Value) (ls : pm_L) (H : Heap) (locs : List Loc) (la : Array Slot), decode (pm_code mi) pc = .ok (i, 1) → pm_ret (pm_rk mi) i st = some r → pm_Re D kA b HL mi σ' ls H locs la → W p l e R s m args below meth c H locs mc ms Q (F0 m pc la (st.map (pm_v b HL)))) :
    ∀ (f pc : Nat) (ls : pm_L) (st : List Value) (σ : pm_S), pm_exec X C f mi pc ls st σ = some (r, σ') → ∀ (H : Heap) (locs : List Loc) (la : Array Slot) (cells slots : Nat), pm_Re D kA b HL mi σ ls H locs la → s.heap.size + cells = HL.size + σ.2.2.2.2.1 → cells + (σ'.2.2.2.2.1 - σ.2.2.2.2.1) = mc → slots + (σ'.2.2.2.2.2 - σ.2.2.2.2.2) = ms →
      W p l e R s m args below meth c H locs cells slots Q (F0 m pc la (st.map (pm_v b HL)))
  | 0, _, _, _, _, h => by cases h
  | f + 1, pc, ls, st, σ, h => by
    intro H locs la cells slots hR hcs hmc hms
    have ih := fun pc ls st σ h => pm_exec_w hCle hC hF hRd hrc fin f pc ls st σ h
    unfold pm_exec at h
    split at h
    · rename_i i len hdec
      split at h
      · rename_i r' hret
        split at h
        · rename_i hlen
          subst hlen
          cases h
          rw [Nat.sub_self, Nat.add_zero] at hmc hms
          subst hmc
          subst hms
          exact fin pc i st ls H locs la hdec hret hR
        · cases h
      · split at h
        · rename_i j as rest hinv
          split at h
          · rename_i hlen
            subst hlen
            split at h
            · rename_i r1 σ1 hcall
              have l1 := hCle _ _ _ _ _ hcall
              have l2 := pm_exec_le hCle f _ _ _ _ _ _ _ h
              have l11 := l1.1
              have l12 := l1.2
              have l21 := l2.1
              have l22 := l2.2
              exact pm_inv_w hF hR hRd hdec hinv (hC _ _ _ _ _ hcall) ⟨by omega, by omega⟩ fun H1 locs1 hR1 => ih _ _ _ _ h H1 locs1 la _ _ hR1 (by omega) (by omega) (by omega)
            · cases h
          · cases h
        · split at h
          · rename_i pc' ls' st' σ1 hst
            have l1 := pm_step_le hst
            have l2 := pm_exec_le hCle f _ _ _ _ _ _ _ h
            have l11 := l1.1
            have l12 := l1.2
            have l21 := l2.1
            have l22 := l2.2
            unfold pm_step at hst
            split at hst
            · rename_i t st2 hj
              cases hst
              exact pm_jmp_w hF.1 hF.2.1 hdec hj (ih _ _ _ _ h H locs la cells slots hR hcs hmc hms)
            · split at hst
              · rename_i hlen
                subst hlen
                split at hst
                · rename_i v st2 hrd
                  cases hst
                  exact pm_rd_w hF hR hdec hrd (ih _ _ (v :: st2) _ h H locs la cells slots hR hcs hmc hms)
                · split at hst
                  · rename_i n v st2 hlc
                    split at hst
                    · rename_i hn
                      cases hst
                      exact pm_loc_w hF hR hdec hlc hn fun la' hR' => ih _ _ _ _ h H locs la' cells slots hR' hcs hmc hms
                    · cases hst
                  · split at hst
                    · rename_i σ2 st2 hwr
                      cases hst
                      have hn := pm_wr_n hwr
                      have hn1 : σ1.2.2.2.2.1 = σ.2.2.2.2.1 := by rw [hn]
                      have hn2 : σ1.2.2.2.2.2 = σ.2.2.2.2.2 := by rw [hn]
                      exact pm_wr_w hF hR hcs hdec hwr fun H1 locs1 hR1 => ih _ _ _ _ h H1 locs1 la cells slots hR1 (by omega) (by omega) (by omega)
                    · split at hst
                      · rename_i kd n sl st2 hmk
                        cases hst
                        have e1 : (pm_mkS σ kd n sl).2.2.2.2.1 = σ.2.2.2.2.1 + 1 := rfl
                        have e2 : (pm_mkS σ kd n sl).2.2.2.2.2 = σ.2.2.2.2.2 + sl := rfl
                        refine pm_mk_w hF hR hcs (by omega) (by omega) hdec hmk fun H1 hR1 => ?_
                        have := ih _ _ _ _ h H1 locs la (cells + 1) (slots + sl) hR1 (by omega) (by omega) (by omega)
                        have e3 : pm_v b HL (.ref (σ.2.2.2.2.1 + 1)) = .ref (HL.size + σ.2.2.2.2.1) := by
                          show Value.ref (pm_a b HL (σ.2.2.2.2.1 + 1)) = _
                          rw [pm_a_pos (by omega), Nat.add_sub_cancel]
                        rw [List.map_cons, e3] at this
                        exact this
                      · split at hst
                        · rename_i σ2 st2 hjd
                          cases hst
                          have hn := pm_jdk_n hjd
                          have hn1 : σ1.2.2.2.2.1 = σ.2.2.2.2.1 := by rw [hn]
                          have hn2 : σ1.2.2.2.2.2 = σ.2.2.2.2.2 := by rw [hn]
                          exact pm_jdk_w hF hR hcs (by omega) (by omega) hdec hjd fun H1 locs1 hR1 => ih _ _ _ _ h H1 locs1 la cells slots hR1 (by omega) (by omega) (by omega)
                        · split at hst
                          · rename_i st2 hsk
                            cases hst
                            exact pm_stk_w hF.1 hF.2.1 hdec hsk (ih _ _ _ _ h H locs la cells slots hR hcs hmc hms)
                          · cases hst
              · cases hst
          · cases h
    · cases h
set_option maxHeartbeats 4000000 in
/-- THE CALL: a run of the picture machine is a contract of the method -/
theorem pm_call_met {l : Launch} {D : va_G} {kA : Nat → ClassId} {b : Nat} {HL : Heap} {F : Nat} : ∀ (d j : Nat) (as : List Value) (σ : pm_S) (r : Option Value) (σ' : pm_S), pm_call F d j as σ = some (r, σ') → pm_Met l D kA b HL d j as σ r σ'
  | 0, _, _, _, _, _, h => by cases h
  | d + 1, j, as, σ, r, σ', h => by
    unfold pm_call at h
    split at h
    · rename_i hc
      simp only [Bool.and_eq_true, decide_eq_true_eq] at hc
      obtain ⟨hj, hlen, hvc⟩ := hc
      obtain ⟨m1, m2, m3, m4, m5, m6, m7, m8, m9, m10, m11, m12⟩ := pm_okM hj
      refine Met.ofW (cc := pm_code j) (maxL := pm_max j) (ret := pm_rt j) m2 rfl ?_
      intro p e s m args below meth c s₁ B hml hv
      obtain ⟨rfl, hWd⟩ := hv
      obtain ⟨w1, w2, w5, w6, w7⟩ := hWd
      have hown : s.vm.findClass (pm_on (pm_ow j)) = some m.cls := by rw [← m6]; exact findClass_of_methodNamed B.named
      have hlocks : meth.locks = false := B.notSynchronized
      have hr : meth.sig.returnType = pm_rt j := B.returns
      have hF : pm_Fr D kA b none HL j p (pm_rm (d + 1) σ σ') s m meth c := ⟨B.exec, B.bytes, hml, hown, w1, w2, (fun x hx => by cases hx), fun h2 => by rw [(name_of_methodNamed B.named B.method).1]; exact (m10 h2).1, Nat.le_add_left 1 d, by show 64 ≤ 64 * (d + 1); omega⟩
      rw [lg_entry_eq]
      refine pm_exec_w (l := l) (C := pm_call F d) (d := d) (R := pm_rm (d + 1) σ σ') (mc := σ'.2.2.2.2.1 - σ.2.2.2.2.1) (ms := σ'.2.2.2.2.2 - σ.2.2.2.2.2) (pm_call_le d) (fun j as σ r σ' h => pm_call_met d j as σ r σ' h) hF ⟨Nat.le_refl _, Nat.le_refl _⟩ ⟨Nat.le_refl _, Nat.le_refl _⟩ ?_ F 0 (pm_in j as) [] σ h s.heap [] _ 0 0 ⟨w7, w5, w6, pm_in_has hlen hvc, pm_in_len hlen⟩ (by rw [w6]; rfl) (Nat.zero_add _) (Nat.zero_add _)
      intro pc i st ls H locs la hdec hret hR
      have hq := pm_Wd_now hF hR
      have hf : ∀ q ∈ locs, HL.size ≤ q.base := hR.2.1.2.2
      cases i with
      | return_ =>
        simp only [pm_ret] at hret
        split at hret
        · rename_i hk
          match st, hret with
          | [], hret =>
            cases hret
            exact W.vret B.exec B.bytes (hr.trans (m12.1 hk)) (fun t ht hW => ⟨rfl, hq t ht hW⟩) hf hdec
        · cases hret
      | ireturn =>
        simp only [pm_ret] at hret
        split at hret
        · rename_i hk
          match st, hret with
          | [.int x], hret =>
            cases hret
            exact W.iret B.exec B.bytes (hr.trans (m12.2.1 hk)) (fun t ht hW => ⟨rfl, hq t ht hW⟩) hf hdec
        · split at hret
          · rename_i hk
            match st, hret with
            | [.int x], hret =>
              simp only at hret
              split at hret
              · rename_i hx
                cases hret
                rw [Bool.or_eq_true, decide_eq_true_eq, decide_eq_true_eq] at hx
                exact W.zret (ty := .boolean) B.exec B.bytes (hr.trans (m12.2.2.1 hk)) (by rcases hx with rfl | rfl <;> rfl) (fun t ht hW => ⟨rfl, hq t ht hW⟩) hf hdec
              · cases hret
          · split at hret
            · rename_i hk
              match st, hret with
              | [.int x], hret =>
                simp only at hret
                split at hret
                · rename_i hx
                  cases hret
                  rw [Bool.and_eq_true, decide_eq_true_eq, decide_eq_true_eq] at hx
                  exact W.zret (ty := .char) B.exec B.bytes (hr.trans (m12.2.2.2.2 hk)) (by
                    obtain ⟨n, h1, rfl⟩ := nI_of2 (M := 65535) (n := 65535) (by decide) hx.1 hx.2
                    exact (pk_charN (by omega)).1) (fun t ht hW => ⟨rfl, hq t ht hW⟩) hf hdec
                · cases hret
            · cases hret
      | areturn =>
        simp only [pm_ret] at hret
        split at hret
        · rename_i hk
          obtain ⟨rt, k1, k2⟩ := m12.2.2.2.1 hk
          match st, hret with
          | [.ref x], hret =>
            cases hret
            exact W.aret B.exec B.bytes (hr.trans k1) k2 (Or.inr ⟨_, rfl⟩) (fun t ht hW => ⟨rfl, hq t ht hW⟩) hf hdec
        · cases hret
      | _ => cases hret
    · cases h
