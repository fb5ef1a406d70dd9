/-! SOUNDNESS: an instruction of the picture machine is that instruction of the machine. -/
section PmW
variable {p : Program} {l : Launch} {e : Env} {R : Room} {s : State} {m : MethodId} {args : Array Value} {below : List Frame} {meth : Method} {c : Code} {H : Heap} {locs : List Loc} {cells slots : Nat} {Q : State → Prop}
variable {D : va_G} {kA : Nat → ClassId} {b : Nat} {X : pm_X} {HL : Heap} {cc : ByteArray} {pc : Nat} {la : Array Slot}
set_option maxHeartbeats 4000000 in
theorem pm_stk_w {i : Jvm.ClassFile.Instr} {st st' : List Value} (hx : p.tables.exec = Jvm.exec) (hb : c.code = cc) (hd : decode cc pc = .ok (i, pm_len i)) (h : pm_stk i st = some st')
    (k : W p l e R s m args below meth c H locs cells slots Q (F0 m (pc + pm_len i) la (st'.map (pm_v b HL)))) : W p l e R s m args below meth c H locs cells slots Q (F0 m pc la (st.map (pm_v b HL))) := by
  cases i with
  | iconst n => cases h; exact lv_iconst hx hb hd rfl k
  | aconst_null => cases h; exact lv_null hx hb hd k
  | dup =>
    match st, h with
    | a :: st, h =>
      simp only [pm_stk] at h
      split at h
      · rename_i hv; cases h; exact lv_dup hx hb hd (pm_vc_cat b HL hv) k
      · cases h
  | pop =>
    match st, h with
    | a :: st, h =>
      simp only [pm_stk] at h
      split at h
      · rename_i hv; cases h; exact lv_pop hx hb hd (pm_vc_cat b HL hv) k
      · cases h
  | dup_x1 =>
    match st, h with
    | a :: a2 :: st, h =>
      simp only [pm_stk] at h
      split at h
      · rename_i hv; cases h; rw [Bool.and_eq_true] at hv; exact lv_dup_x1 hx hb hd (pm_vc_cat b HL hv.1) (pm_vc_cat b HL hv.2) k
      · cases h
  | dup_x2 =>
    match st, h with
    | a :: a2 :: a3 :: st, h =>
      simp only [pm_stk] at h
      split at h
      · rename_i hv; cases h; rw [Bool.and_eq_true, Bool.and_eq_true] at hv; exact lv_dup_x2 hx hb hd (pm_vc_cat b HL hv.1) (pm_vc_cat b HL hv.2.1) (pm_vc_cat b HL hv.2.2) k
      · cases h
  | dup2 =>
    match st, h with
    | a :: a2 :: st, h =>
      simp only [pm_stk] at h
      split at h
      · rename_i hv; cases h; rw [Bool.and_eq_true] at hv; exact lv_dup2_11 hx hb hd (pm_vc_cat b HL hv.1) (pm_vc_cat b HL hv.2) k
      · cases h
  | ineg =>
    match st, h with
    | .int x :: st, h => cases h; exact lv_ineg hx hb hd k
  | i2c =>
    match st, h with
    | .int x :: st, h => cases h; exact lv_i2c hx hb hd rfl k
  | iadd =>
    match st, h with
    | .int y :: .int x :: st, h => cases h; exact lv_iadd hx hb hd k
  | isub =>
    match st, h with
    | .int y :: .int x :: st, h => cases h; exact lv_isub hx hb hd k
  | imul =>
    match st, h with
    | .int y :: .int x :: st, h => cases h; exact lv_imul hx hb hd k
  | iand =>
    match st, h with
    | .int y :: .int x :: st, h => cases h; exact lv_iand hx hb hd k
  | ior =>
    match st, h with
    | .int y :: .int x :: st, h => cases h; exact lv_ior hx hb hd k
  | ixor =>
    match st, h with
    | .int y :: .int x :: st, h => cases h; exact lv_ixor hx hb hd k
  | ishl =>
    match st, h with
    | .int y :: .int x :: st, h => cases h; exact lv_ishl hx hb hd k
  | ishr =>
    match st, h with
    | .int y :: .int x :: st, h => cases h; exact lv_ishr hx hb hd k
  | iushr =>
    match st, h with
    | .int y :: .int x :: st, h => cases h; exact lv_iushr hx hb hd rfl k
  | idiv =>
    match st, h with
    | .int y :: .int x :: st, h =>
      simp only [pm_stk, pm_bin] at h
      by_cases hy : y = 0
      · simp [hy] at h
      · simp only [hy, if_false] at h
        cases h
        exact lv_idiv hx hb hd hy k
  | irem =>
    match st, h with
    | .int y :: .int x :: st, h =>
      simp only [pm_stk, pm_bin] at h
      by_cases hy : y = 0
      · simp [hy] at h
      · simp only [hy, if_false] at h
        cases h
        exact lv_irem hx hb hd hy k
  | _ =>
    exfalso
    revert h
    unfold pm_stk pm_bin
    dsimp only
    split <;> simp
theorem pm_tok_eq {pc : Nat} {off : Int} (h : pm_tok pc off = true) : (pc : Int) + off = ((pm_tgt pc off : Nat) : Int) := by
  unfold pm_tok at h
  unfold pm_tgt
  rw [Int.toNat_of_nonneg (of_decide_eq_true h)]
set_option maxHeartbeats 4000000 in
theorem pm_jmp_w {i : Jvm.ClassFile.Instr} {len t : Nat} {st st' : List Value} (hx : p.tables.exec = Jvm.exec) (hb : c.code = cc) (hd : decode cc pc = .ok (i, len)) (h : pm_jmp pc len i st = some (t, st'))
    (k : W p l e R s m args below meth c H locs cells slots Q (F0 m t la (st'.map (pm_v b HL)))) : W p l e R s m args below meth c H locs cells slots Q (F0 m pc la (st.map (pm_v b HL))) := by
  cases i with
  | ifCond cd off =>
    match st, h with
    | .int x :: st, h2 =>
      simp only [pm_jmp] at h2
      split at h2
      · rename_i hc
        rw [Bool.and_eq_true, decide_eq_true_eq] at hc
        obtain ⟨hl, ht⟩ := hc
        subst hl
        have ht := pm_tok_eq ht
        cases cd
        · refine lv_if_eq (tgt := pm_tgt pc off) hx hb hd ht (fun q => ?_) (fun q => ?_)
          · have hcm : pm_cmp .eq x 0 = true := by simp [pm_cmp, q]
            rw [if_pos hcm] at h2; cases h2; exact k
          · have hcm : ¬ pm_cmp .eq x 0 = true := by simp [pm_cmp, q]
            rw [if_neg hcm] at h2; cases h2; exact k
        · refine lv_if_ne (tgt := pm_tgt pc off) hx hb hd ht (fun q => ?_) (fun q => ?_)
          · have hcm : pm_cmp .ne x 0 = true := by simp [pm_cmp, q]
            rw [if_pos hcm] at h2; cases h2; exact k
          · have hcm : ¬ pm_cmp .ne x 0 = true := by simp [pm_cmp, q]
            rw [if_neg hcm] at h2; cases h2; exact k
        · refine lv_if_lt (tgt := pm_tgt pc off) hx hb hd ht (fun q => ?_) (fun q => ?_)
          · have hcm : pm_cmp .lt x 0 = true := by simp [pm_cmp, q]
            rw [if_pos hcm] at h2; cases h2; exact k
          · have hcm : ¬ pm_cmp .lt x 0 = true := by simp [pm_cmp, q]
            rw [if_neg hcm] at h2; cases h2; exact k
        · refine lv_if_ge (tgt := pm_tgt pc off) hx hb hd ht (fun q => ?_) (fun q => ?_)
          · have hcm : pm_cmp .ge x 0 = true := by simp [pm_cmp, q]
            rw [if_pos hcm] at h2; cases h2; exact k
          · have hcm : ¬ pm_cmp .ge x 0 = true := by simp [pm_cmp, q]
            rw [if_neg hcm] at h2; cases h2; exact k
        · refine lv_if_gt (tgt := pm_tgt pc off) hx hb hd ht (fun q => ?_) (fun q => ?_)
          · have hcm : pm_cmp .gt x 0 = true := by simp [pm_cmp, q]
            rw [if_pos hcm] at h2; cases h2; exact k
          · have hcm : ¬ pm_cmp .gt x 0 = true := by simp [pm_cmp, q]
            rw [if_neg hcm] at h2; cases h2; exact k
        · refine lv_if_le (tgt := pm_tgt pc off) hx hb hd ht (fun q => ?_) (fun q => ?_)
          · have hcm : pm_cmp .le x 0 = true := by simp [pm_cmp, q]
            rw [if_pos hcm] at h2; cases h2; exact k
          · have hcm : ¬ pm_cmp .le x 0 = true := by simp [pm_cmp, q]
            rw [if_neg hcm] at h2; cases h2; exact k
      · cases h2
  | if_icmp cd off =>
    match st, h with
    | .int y :: .int x :: st, h2 =>
      simp only [pm_jmp] at h2
      split at h2
      · rename_i hc
        rw [Bool.and_eq_true, decide_eq_true_eq] at hc
        obtain ⟨hl, ht⟩ := hc
        subst hl
        have ht := pm_tok_eq ht
        cases cd
        · refine lv_icmp_eq (tgt := pm_tgt pc off) hx hb hd ht (fun q => ?_) (fun q => ?_)
          · have hcm : pm_cmp .eq x y = true := by simp [pm_cmp, q]
            rw [if_pos hcm] at h2; cases h2; exact k
          · have hcm : ¬ pm_cmp .eq x y = true := by simp [pm_cmp, q]
            rw [if_neg hcm] at h2; cases h2; exact k
        · refine lv_icmp_ne (tgt := pm_tgt pc off) hx hb hd ht (fun q => ?_) (fun q => ?_)
          · have hcm : pm_cmp .ne x y = true := by simp [pm_cmp, q]
            rw [if_pos hcm] at h2; cases h2; exact k
          · have hcm : ¬ pm_cmp .ne x y = true := by simp [pm_cmp, q]
            rw [if_neg hcm] at h2; cases h2; exact k
        · refine lv_icmp_lt (tgt := pm_tgt pc off) hx hb hd ht (fun q => ?_) (fun q => ?_)
          · have hcm : pm_cmp .lt x y = true := by simp [pm_cmp, q]
            rw [if_pos hcm] at h2; cases h2; exact k
          · have hcm : ¬ pm_cmp .lt x y = true := by simp [pm_cmp, q]
            rw [if_neg hcm] at h2; cases h2; exact k
        · refine lv_icmp_ge (tgt := pm_tgt pc off) hx hb hd ht (fun q => ?_) (fun q => ?_)
          · have hcm : pm_cmp .ge x y = true := by simp [pm_cmp, q]
            rw [if_pos hcm] at h2; cases h2; exact k
          · have hcm : ¬ pm_cmp .ge x y = true := by simp [pm_cmp, q]
            rw [if_neg hcm] at h2; cases h2; exact k
        · refine lv_icmp_gt (tgt := pm_tgt pc off) hx hb hd ht (fun q => ?_) (fun q => ?_)
          · have hcm : pm_cmp .gt x y = true := by simp [pm_cmp, q]
            rw [if_pos hcm] at h2; cases h2; exact k
          · have hcm : ¬ pm_cmp .gt x y = true := by simp [pm_cmp, q]
            rw [if_neg hcm] at h2; cases h2; exact k
        · refine lv_icmp_le (tgt := pm_tgt pc off) hx hb hd ht (fun q => ?_) (fun q => ?_)
          · have hcm : pm_cmp .le x y = true := by simp [pm_cmp, q]
            rw [if_pos hcm] at h2; cases h2; exact k
          · have hcm : ¬ pm_cmp .le x y = true := by simp [pm_cmp, q]
            rw [if_neg hcm] at h2; cases h2; exact k
      · cases h2
  | goto off =>
    simp only [pm_jmp] at h
    split at h
    · rename_i hc
      rw [Bool.and_eq_true, decide_eq_true_eq] at hc
      obtain ⟨hl, ht⟩ := hc
      subst hl
      cases h
      exact lv_goto hx hb hd (pm_tok_eq ht) k
    · cases h
  | tableswitch dflt lo hi offs =>
    match st, h with
    | .int x :: st, h2 =>
      simp only [pm_jmp] at h2
      split at h2
      · rename_i hc
        rw [Bool.or_eq_true, decide_eq_true_eq, decide_eq_true_eq] at hc
        split at h2
        · rename_i ht
          cases h2
          exact lv_tableOut hx hb hd hc (pm_tok_eq ht) k
        · cases h2
      · rename_i hc
        rw [Bool.or_eq_true, decide_eq_true_eq, decide_eq_true_eq, not_or] at hc
        split at h2
        · rename_i off ho
          split at h2
          · rename_i ht
            cases h2
            exact lv_tableIn hx hb hd hc.1 hc.2 ho (pm_tok_eq ht) k
          · cases h2
        · cases h2
  | lookupswitch dflt ps =>
    match st, h with
    | .int x :: st, h2 =>
      simp only [pm_jmp] at h2
      split at h2
      · rename_i hc
        rw [Bool.and_eq_true] at hc
        cases h2
        exact lv_lookup hx hb hd hc.1 rfl (pm_tok_eq hc.2) k
      · cases h2
  | _ => cases h
theorem pm_inb_of {i : Int32} {n : Nat} (h : pm_inb i n = true) : vp_in i n := by
  unfold pm_inb at h
  rw [Bool.and_eq_true, decide_eq_true_eq, decide_eq_true_eq] at h
  intro q
  rcases q with q | q
  · exact h.1 q
  · omega
theorem pm_lays {C : String} {T : u_T} {N : Nat} (hTb : pm_Tb s) (hin : ∀ w ∈ u_ws C T N, w ∈ lw_tbl) : ∀ w ∈ u_ws C T N, w.before args s = true := by
  intro w hw
  refine hTb w (hin w hw) ?_ args
  obtain ⟨k, -, rfl⟩ := List.mem_map.mp hw
  unfold u_lay
  split <;> rfl
theorem pm_fs_at {σ : pm_S} {ci f q : Nat} (h : f < pm_nf ci) : (pm_fs HL σ ci q)[f]? = some (if pm_fk ci f = 3 then va_rf (pm_ro HL (σ.2.1 q f)) else .int (σ.1 q f)) := by
  unfold pm_fs
  rw [List.getElem?_map, List.getElem?_range h]
  rfl
theorem pm_fv {σ : pm_S} {ci f q : Nat} : pm_v b HL (if pm_fk ci f = 3 then pm_rv (σ.2.1 q f) else .int (σ.1 q f)) = (if pm_fk ci f = 3 then va_rf (pm_ro HL (σ.2.1 q f)) else .int (σ.1 q f)) := by
  split
  · exact pm_v_rv b HL _
  · rfl
theorem pm_e_obj {σ : pm_S} {q ci : Nat} (h : σ.2.2.1 q = 10 + ci) : pm_e kA HL σ q = .inr (ci, pm_fs HL σ ci q) := by
  unfold pm_e
  rw [if_neg (by omega), h, Nat.add_sub_cancel_left]
theorem pm_e_int {σ : pm_S} {q k : Nat} (h : σ.2.2.1 q = k) (hk : k < 10) (h3 : k ≠ 3) : pm_e kA HL σ q = .inl (kA k, σ.2.2.2.1 q, .inl (σ.1 q)) := by
  unfold pm_e
  rw [if_pos (by omega), if_neg (by omega), h]
theorem pm_e_ref {σ : pm_S} {q : Nat} (h : σ.2.2.1 q = 3) : pm_e kA HL σ q = .inl (kA 3, σ.2.2.2.1 q, .inr (.inr (.inr (.inr (fun j => pm_ro HL (σ.2.1 q j)))))) := by
  unfold pm_e
  rw [if_pos (by omega), if_pos h]
theorem pm_word {w : Jvm.Cond} (hTb : pm_Tb s) (h : w ∈ lw_tbl) (hk : pm_ok w = true) : w.before args s = true := hTb w h hk args
/-- what a frame of method 'mi' knows of its state -/
def pm_Fr (D : va_G) (kA : Nat → ClassId) (b : Nat) (X : pm_X) (HL : Heap) (mi : Nat) (p : Program) (R : Room) (s : State) (m : MethodId) (meth : Method) (c : Code) : Prop :=
  p.tables.exec = Jvm.exec ∧ c.code = pm_code mi ∧ c.maxLocals = pm_max mi ∧ s.vm.findClass (pm_on (pm_ow mi)) = some m.cls ∧ pm_Tb s ∧ va_K D pm_cl (pm_tys kA) s ∧ (∀ x, X = some x → va_X b x.1 x.2 s HL ∧ b < HL.size) ∧ (pm_kd mi = 2 → meth.name = "<init>") ∧ 1 ≤ R.frames ∧ 64 ≤ R.locals
/-- what the heap and the locals hold -/
def pm_Re (D : va_G) (kA : Nat → ClassId) (b : Nat) (HL : Heap) (mi : Nat) (σ : pm_S) (ls : pm_L) (H : Heap) (locs : List Loc) (la : Array Slot) : Prop :=
  va_P D pm_cl (pm_w kA HL σ) H ∧ va_S (fun q => HL.size ≤ q) HL H locs ∧ H.size = HL.size + σ.2.2.2.2.1 ∧ lv_has la (pm_max mi) (pm_pr b HL ls) ∧ ls.length = pm_max mi
set_option maxHeartbeats 4000000 in
theorem pm_rd_w {mi : Nat} {i : Jvm.ClassFile.Instr} {ls : pm_L} {st st' : List Value} {v : Value} {σ : pm_S} (hF : pm_Fr D kA b X HL mi p R s m meth c) (hR : pm_Re D kA b HL mi σ ls H locs la) (hd : decode (pm_code mi) pc = .ok (i, pm_len i)) (h : pm_rd X (pm_ow mi) i ls st σ = some (v, st'))
    (k : W p l e R s m args below meth c H locs cells slots Q (F0 m (pc + pm_len i) la (pm_v b HL v :: st'.map (pm_v b HL)))) : W p l e R s m args below meth c H locs cells slots Q (F0 m pc la (st.map (pm_v b HL))) := by
  obtain ⟨hx, hb, hml, hown, hTb, hK, hX, -, -, -⟩ := hF
  obtain ⟨hP, hS, hz, hl, -⟩ := hR
  cases i with
  | bipush n => cases h; exact lv_bipush hx hb hd rfl k
  | sipush n => cases h; exact lv_sipush hx hb hd rfl k
  | ldc n =>
    simp only [pm_rd] at h
    split at h
    · rename_i w hw
      cases h
      exact lv_ldc hx hb hown (pm_word hTb (pm_okD hw) rfl) hd k
    · cases h
  | iload n =>
    simp only [pm_rd] at h
    split at h
    · rename_i x hw; cases h; exact lv_iload hx hb hd (pm_pr_at hl hw) k
    · cases h
  | iload_n n =>
    simp only [pm_rd] at h
    split at h
    · rename_i x hw; cases h; exact lv_iload_n hx hb hd rfl (pm_pr_at hl hw) k
    · cases h
  | aload n =>
    simp only [pm_rd] at h
    split at h
    · rename_i x hw; cases h; exact lv_aload hx hb hd (pm_pr_at hl hw) k
    · cases h
  | aload_n n =>
    simp only [pm_rd] at h
    split at h
    · rename_i x hw; cases h; exact lv_aload_n hx hb hd rfl (pm_pr_at hl hw) k
    · cases h
  | getfield n =>
    match st, h with
    | .ref q :: st, h =>
      simp only [pm_rd] at h
      split at h
      · rename_i ci f hw
        split at h
        · rename_i hc
          simp only [Bool.and_eq_true, decide_eq_true_eq] at hc
          obtain ⟨h1, h2, h3⟩ := hc
          simp only [Option.some.injEq, Prod.mk.injEq] at h
          obtain ⟨hv, rfl⟩ := h
          rw [← hv, pm_fv] at k
          obtain ⟨C, T, o1, o2, o3, -⟩ := pm_okF hw
          obtain ⟨-, c2, -⟩ := pm_okC o1
          have he := pm_w_at (kA := kA) (HL := HL) h1 h2
          rw [pm_e_obj h3] at he
          have hts := pm_lays (args := args) hTb c2
          show W p l e R s m args below meth c H locs cells slots Q (F0 m pc la (.ref (pm_a b HL q) :: st.map (pm_v b HL)))
          rw [pm_a_pos h1]
          rcases o3 with o3 | ⟨host, o3⟩
          · exact va_get hx hb hts (fun w h => h) hown hK hP (q - 1) he o1 f o2 (pm_word hTb o3 rfl) (fun x h => h) (pm_fs_at o2) hd k
          · exact va_getN hx hb hts (fun w h => h) hown hK hP (q - 1) he o1 f o2 (pm_word hTb o3 rfl) (fun x h => h) (pm_fs_at o2) hd k
        · cases h
      · cases h
  | iaload =>
    match st, h with
    | .int j :: .ref q :: st, h =>
      simp only [pm_rd] at h
      split at h
      · rename_i hq
        subst hq
        split at h
        · split at h
          · rename_i hi
            cases h
            obtain ⟨hX, hbl⟩ := hX _ rfl
            exact va_sld hx hb hX hbl (Nat.not_le.mpr hbl) hS (pm_inb_of hi) hd k
          · cases h
        · cases h
      · rename_i hq
        split at h
        · rename_i hc
          simp only [Bool.and_eq_true, decide_eq_true_eq] at hc
          obtain ⟨h2, h3, h4⟩ := hc
          simp only [Option.some.injEq, Prod.mk.injEq] at h
          obtain ⟨rfl, rfl⟩ := h
          have h1 : 1 ≤ q := Nat.pos_of_ne_zero hq
          have he := pm_w_at (kA := kA) (HL := HL) h1 h2
          rw [pm_e_int h3 (by decide) (by decide)] at he
          show W p l e R s m args below meth c H locs cells slots Q (F0 m pc la (.int j :: .ref (pm_a b HL q) :: st.map (pm_v b HL)))
          rw [pm_a_pos h1]
          exact va_iald hx hb hK hP (q - 1) 0 he (pm_tys_at pm_nk0) (pm_inb_of h4) hd k
        · cases h
  | caload =>
    match st, h with
    | .int j :: .ref q :: st, h =>
      simp only [pm_rd] at h
      split at h
      · rename_i hc
        simp only [Bool.and_eq_true, decide_eq_true_eq] at hc
        obtain ⟨h1, h2, h3, h4⟩ := hc
        simp only [Option.some.injEq, Prod.mk.injEq] at h
        obtain ⟨rfl, rfl⟩ := h
        have he := pm_w_at (kA := kA) (HL := HL) h1 h2
        rw [pm_e_int h3 (by decide) (by decide)] at he
        show W p l e R s m args below meth c H locs cells slots Q (F0 m pc la (.int j :: .ref (pm_a b HL q) :: st.map (pm_v b HL)))
        rw [pm_a_pos h1]
        exact va_cald hx hb hK hP (q - 1) 1 he (pm_tys_at pm_nk1) (pm_inb_of h4) hd k
      · cases h
  | baload =>
    match st, h with
    | .int j :: .ref q :: st, h =>
      simp only [pm_rd] at h
      split at h
      · rename_i hc
        simp only [Bool.and_eq_true, decide_eq_true_eq] at hc
        obtain ⟨h1, h2, h3, h4⟩ := hc
        simp only [Option.some.injEq, Prod.mk.injEq] at h
        obtain ⟨rfl, rfl⟩ := h
        have he := pm_w_at (kA := kA) (HL := HL) h1 h2
        rw [pm_e_int h3 (by decide) (by decide)] at he
        show W p l e R s m args below meth c H locs cells slots Q (F0 m pc la (.int j :: .ref (pm_a b HL q) :: st.map (pm_v b HL)))
        rw [pm_a_pos h1]
        exact va_zald hx hb hK hP (q - 1) 2 he (pm_tys_at pm_nk2) (pm_inb_of h4) hd k
      · cases h
  | aaload =>
    match st, h with
    | .int j :: .ref q :: st, h =>
      simp only [pm_rd] at h
      split at h
      · rename_i hc
        simp only [Bool.and_eq_true, decide_eq_true_eq] at hc
        obtain ⟨h1, h2, h3, h4⟩ := hc
        simp only [Option.some.injEq, Prod.mk.injEq] at h
        obtain ⟨rfl, rfl⟩ := h
        rw [pm_v_rv] at k
        have he := pm_w_at (kA := kA) (HL := HL) h1 h2
        rw [pm_e_ref h3] at he
        show W p l e R s m args below meth c H locs cells slots Q (F0 m pc la (.int j :: .ref (pm_a b HL q) :: st.map (pm_v b HL)))
        rw [pm_a_pos h1]
        exact va_aldq hx hb hK hP (q - 1) 3 he (pm_tys_at pm_nk3) (pm_inb_of h4) hd k
      · cases h
  | arraylength =>
    match st, h with
    | .ref q :: st, h =>
      simp only [pm_rd] at h
      split at h
      · rename_i hq
        subst hq
        split at h
        · cases h
          obtain ⟨hX, hbl⟩ := hX _ rfl
          exact va_slen hx hb hX hbl (Nat.not_le.mpr hbl) hS hd k
        · cases h
      · rename_i hq
        split at h
        · rename_i hc
          simp only [Bool.and_eq_true, decide_eq_true_eq] at hc
          obtain ⟨h2, h3⟩ := hc
          simp only [Option.some.injEq, Prod.mk.injEq] at h
          obtain ⟨rfl, rfl⟩ := h
          have h1 : 1 ≤ q := Nat.pos_of_ne_zero hq
          have he := pm_w_at (kA := kA) (HL := HL) h1 h2
          show W p l e R s m args below meth c H locs cells slots Q (F0 m pc la (.ref (pm_a b HL q) :: st.map (pm_v b HL)))
          rw [pm_a_pos h1]
          by_cases hk3 : σ.2.2.1 q = 3
          · rw [pm_e_ref hk3] at he
            exact va_alen hx hb hK hP (q - 1) 3 he (pm_tys_at pm_nk3) rfl hd k
          · rw [pm_e_int rfl (Nat.lt_of_lt_of_le h3 pm_nk10) hk3] at he
            exact va_alen hx hb hK hP (q - 1) (σ.2.2.1 q) he (pm_tys_at h3) rfl hd k
        · cases h
  | _ => cases h
set_option maxHeartbeats 4000000 in
theorem pm_loc_w {mi : Nat} {i : Jvm.ClassFile.Instr} {ls : pm_L} {st st' : List Value} {n : Nat} {v : Value} {σ : pm_S} (hF : pm_Fr D kA b X HL mi p R s m meth c) (hR : pm_Re D kA b HL mi σ ls H locs la) (hd : decode (pm_code mi) pc = .ok (i, pm_len i)) (h : pm_loc i ls st = some (n, v, st')) (hn : n < ls.length)
    (k : ∀ la', pm_Re D kA b HL mi σ (ls.set n (some v)) H locs la' → W p l e R s m args below meth c H locs cells slots Q (F0 m (pc + pm_len i) la' (st'.map (pm_v b HL)))) : W p l e R s m args below meth c H locs cells slots Q (F0 m pc la (st.map (pm_v b HL))) := by
  obtain ⟨hx, hb, hml, hown, hTb, hK, hX, -, -, -⟩ := hF
  obtain ⟨hP, hS, hz, hl, hlen⟩ := hR
  rw [hlen] at hn
  have kk : ∀ la', lv_has la' (pm_max mi) ((n, pm_v b HL v) :: (pm_pr b HL ls).filter (fun q => !(q.1 == n) && !(q.1 + 1 == n && q.2.category == 2))) → W p l e R s m args below meth c H locs cells slots Q (F0 m (pc + pm_len i) la' (st'.map (pm_v b HL))) :=
    fun la' h' => k la' ⟨hP, hS, hz, pm_pr_set h', by rw [List.length_set]; exact hlen⟩
  cases i with
  | istore j =>
    match st, h with
    | .int x :: st, h => cases h; exact lv_istore hx hb hd hl hn rfl kk
  | istore_n j =>
    match st, h with
    | .int x :: st, h => cases h; exact lv_istore_n hx hb hd rfl hl hn rfl kk
  | astore j =>
    match st, h with
    | .ref x :: st, h => cases h; exact lv_astore hx hb hd hl hn rfl kk
  | astore_n j =>
    match st, h with
    | .ref x :: st, h => cases h; exact lv_astore_n hx hb hd rfl hl hn rfl kk
  | iinc j x =>
    simp only [pm_loc] at h
    split at h
    · rename_i y hy
      cases h
      obtain ⟨q, hq⟩ := List.getElem?_of_mem (pm_pr_mem (b := b) (HL := HL) (q := (n, .int y)).mpr ⟨_, hy, rfl⟩)
      exact lv_iinc hx hb hd hl hq rfl hn rfl kk
    · cases h
  | _ => cases h
theorem pm_e_same {σ σ' : pm_S} {q : Nat} (h1 : σ'.1 q = σ.1 q) (h2 : σ'.2.1 q = σ.2.1 q) (h3 : σ'.2.2.1 q = σ.2.2.1 q) (h4 : σ'.2.2.2.1 q = σ.2.2.2.1 q) : pm_e kA HL σ' q = pm_e kA HL σ q := by
  unfold pm_e pm_fs
  rw [h1, h2, h3, h4]
theorem pm_fs_seti {σ : pm_S} {ci f q : Nat} {x : Int32} (hf : f < pm_nf ci) (hk : pm_fk ci f ≠ 3) : pm_fs HL (pm_u σ.1 q (upd (σ.1 q) f x), σ.2) ci q = (pm_fs HL σ ci q).set f (.int x) := by
  apply List.ext_getElem?
  intro k
  rw [List.getElem?_set]
  unfold pm_fs
  by_cases hl : k < pm_nf ci
  · rw [List.getElem?_map, List.getElem?_range hl]
    by_cases hkf : f = k
    · subst hkf
      rw [if_pos rfl, if_pos (by simpa using hf)]
      simp only [Option.map_some, if_neg hk]
      rw [pm_us]
      simp [upd]
    · rw [if_neg hkf, List.getElem?_map, List.getElem?_range hl]
      simp only [Option.map_some]
      rw [pm_us]
      have hkf' : ¬ k = f := fun e => hkf e.symm
      simp [upd, hkf']
  · rw [List.getElem?_eq_none (by simpa using hl)]
    by_cases hkf : f = k
    · omega
    · rw [if_neg hkf, List.getElem?_eq_none (by simpa using hl)]
theorem pm_fs_setr {σ : pm_S} {ci f q x : Nat} (hf : f < pm_nf ci) (hk : pm_fk ci f = 3) : pm_fs HL (σ.1, pm_u σ.2.1 q (pm_u (σ.2.1 q) f x), σ.2.2) ci q = (pm_fs HL σ ci q).set f (va_rf (pm_ro HL x)) := by
  apply List.ext_getElem?
  intro k
  rw [List.getElem?_set]
  unfold pm_fs
  by_cases hl : k < pm_nf ci
  · rw [List.getElem?_map, List.getElem?_range hl]
    by_cases hkf : f = k
    · subst hkf
      rw [if_pos rfl, if_pos (by simpa using hf)]
      simp only [Option.map_some, if_pos hk]
      rw [pm_us, pm_us]
    · rw [if_neg hkf, List.getElem?_map, List.getElem?_range hl]
      simp only [Option.map_some]
      rw [pm_us, pm_un _ _ (fun e => hkf e.symm)]
  · rw [List.getElem?_eq_none (by simpa using hl)]
    by_cases hkf : f = k
    · omega
    · rw [if_neg hkf, List.getElem?_eq_none (by simpa using hl)]
theorem pm_fi_ok {ty : FieldType} {x : Int32} (h : pm_fi (pm_ko ty) x = true) : narrow ty (.int x) = .int x ∧ fits ty (.int x) = true := by
  cases ty with
  | int => exact ⟨rfl, rfl⟩
  | boolean =>
    have h' : (decide (x = 0) || decide (x = 1)) = true := h
    rw [Bool.or_eq_true, decide_eq_true_eq, decide_eq_true_eq] at h'
    rcases h' with rfl | rfl
    · exact ⟨rfl, rfl⟩
    · exact ⟨rfl, rfl⟩
  | _ => cases h
theorem pm_ko_ref {ty : FieldType} {v : Value} (h : pm_ko ty = 3) (hv : v = .null ∨ ∃ a, v = .ref a) : narrow ty v = v ∧ fits ty v = true := by
  rcases hv with rfl | ⟨a, rfl⟩ <;> cases ty <;> first | exact ⟨rfl, rfl⟩ | cases h
theorem pm_S_self {A : Nat → Prop} (hS : va_S A HL H locs) : va_S A H H locs := ⟨Nat.le_refl _, fun _ _ _ => rfl, hS.2.2⟩
theorem pm_S_trans {A : Nat → Prop} {H1 : Heap} {locs1 : List Loc} (hS : va_S A HL H locs) (h1 : va_S A H H1 locs1) : va_S A HL H1 locs1 :=
  ⟨Nat.le_trans hS.1 h1.1, fun q hq hn => (h1.2.1 q (Nat.lt_of_lt_of_le hq hS.1) hn).trans (hS.2.1 q hq hn), h1.2.2⟩
/-- the heap is no larger than the cells that are counted -/
theorem pm_size {g : JFrame} (kk : H.size ≤ s.heap.size + cells → W p l e R s m args below meth c H locs cells slots Q g) : W p l e R s m args below meth c H locs cells slots Q g :=
  fun T hT X => kk (by rw [← hT]; exact X.heapSize) T hT X
theorem pm_keep {A : Nat → Prop} {n : Nat} {g : JFrame} {H1 : Heap} {locs1 : List Loc} (hS : va_S A HL H locs) (hz : H.size = HL.size + n) (hcs : s.heap.size + cells = HL.size + n) (h1 : va_S A H H1 locs1)
    (k : va_S A HL H1 locs1 → H1.size = HL.size + n → W p l e R s m args below meth c H1 locs1 cells slots Q g) : W p l e R s m args below meth c H1 locs1 cells slots Q g :=
  pm_size fun hle => k (pm_S_trans hS h1) (by have := h1.1; omega)
set_option maxHeartbeats 4000000 in
theorem pm_wr_w {mi : Nat} {i : Jvm.ClassFile.Instr} {ls : pm_L} {st st' : List Value} {σ σ' : pm_S} (hF : pm_Fr D kA b X HL mi p R s m meth c) (hR : pm_Re D kA b HL mi σ ls H locs la) (hcs : s.heap.size + cells = HL.size + σ.2.2.2.2.1) (hd : decode (pm_code mi) pc = .ok (i, pm_len i)) (h : pm_wr (pm_ow mi) (pm_kd mi) i st σ = some (σ', st'))
    (k : ∀ H' locs', pm_Re D kA b HL mi σ' ls H' locs' la → W p l e R s m args below meth c H' locs' cells slots Q (F0 m (pc + pm_len i) la (st'.map (pm_v b HL)))) : W p l e R s m args below meth c H locs cells slots Q (F0 m pc la (st.map (pm_v b HL))) := by
  obtain ⟨hx, hb, hml, hown, hTb, hK, hX, hin, -, -⟩ := hF
  obtain ⟨hP, hS, hz, hl, hlen⟩ := hR
  have hD := pm_w_D (kA := kA) (HL := HL) (σ := σ)
  have hS0 := pm_S_self hS
  cases i with
  | putfield n =>
    match st, h with
    | .int x :: .ref q :: st, h =>
      simp only [pm_wr] at h
      split at h
      · rename_i ci f hw
        split at h
        · rename_i hc
          simp only [Bool.and_eq_true, decide_eq_true_eq, Bool.or_eq_true, Bool.not_eq_true'] at hc
          obtain ⟨h1, h2, h3, h4, h5⟩ := hc
          simp only [Option.some.injEq, Prod.mk.injEq] at h
          obtain ⟨rfl, rfl⟩ := h
          obtain ⟨C, T, o1, o2, o3, o4, o5⟩ := pm_okF hw
          obtain ⟨-, c2, c3, c4, -⟩ := pm_okC o1
          have hko := (c3 f o2).2.1
          have hk3 : pm_fk ci f ≠ 3 := fun e => by rw [e] at h4; cases h4
          obtain ⟨n1, n2⟩ := pm_fi_ok (ty := pm_ft ci f) (x := x) (by rw [← hko]; exact h4)
          have he := pm_w_at (kA := kA) (HL := HL) h1 h2
          rw [pm_e_obj h3] at he
          have hts := pm_lays (args := args) hTb c2
          have hll : f < (pm_fs HL σ ci q).length := by simpa [pm_fs] using o2
          have hset : (pm_w kA HL σ).set (q - 1) (HL.size + (q - 1), .inr (ci, (pm_fs HL σ ci q).set f (.int x))) = pm_w kA HL (pm_u σ.1 q (upd (σ.1 q) f x), σ.2) :=
            pm_w_set h1 rfl ((pm_e_obj (σ := (pm_u σ.1 q (upd (σ.1 q) f x), σ.2)) h3).trans (by rw [pm_fs_seti o2 hk3])) (fun r hr => pm_e_same (pm_un _ _ hr) rfl rfl rfl)
          show W p l e R s m args below meth c H locs cells slots Q (F0 m pc la (.int x :: .ref (pm_a b HL q) :: st.map (pm_v b HL)))
          rw [pm_a_pos h1]
          have kk : ∀ (H1 : Heap) (locs1 : List Loc), va_P D pm_cl ((pm_w kA HL σ).set (q - 1) (HL.size + (q - 1), .inr (ci, (pm_fs HL σ ci q).set f (.int x)))) H1 → va_D (fun r => HL.size ≤ r) ((pm_w kA HL σ).set (q - 1) (HL.size + (q - 1), .inr (ci, (pm_fs HL σ ci q).set f (.int x)))) → va_S (fun r => HL.size ≤ r) H H1 locs1 → W p l e R s m args below meth c H1 locs1 cells slots Q (F0 m (pc + 3) la (st.map (pm_v b HL))) := by
            intro H1 locs1 hP1 _ hS1
            rw [hset] at hP1
            exact pm_keep hS hz hcs hS1 fun hS2 hz2 => k H1 locs1 ⟨hP1, hS2, hz2, hl, hlen⟩
          by_cases hfin : pm_fin ci f = true
          · have h6 : pm_kd mi = 2 ∧ pm_own (pm_ow mi) ci = true := h5.resolve_left (by rw [hfin]; decide)
            obtain ⟨o6, o7⟩ := o5 h6.2
            exact va_putF hx hb hts (fun w h => h) (pm_ft ci) (fun k hk => (c3 k hk).1) c4 hown hK hP hD hS0 (q - 1) he o1 f o2 (pm_word hTb o7 rfl) (fun x h => h) (o4.trans hfin) (hin h6.1) o6 (c3 f o2).1 n1 n2 hll hd kk
          · have hfin : pm_fin ci f = false := Bool.eq_false_iff.mpr hfin
            rcases o3 with o3 | ⟨host, o3⟩
            · exact va_put hx hb hts (fun w h => h) (pm_ft ci) (fun k hk => (c3 k hk).1) c4 hown hK hP hD hS0 (q - 1) he o1 f o2 (pm_word hTb o3 rfl) (fun x h => h) (o4.trans hfin) (c3 f o2).1 n1 n2 hll hd kk
            · exact va_putN hx hb hts (fun w h => h) (pm_ft ci) (fun k hk => (c3 k hk).1) c4 hown hK hP hD hS0 (q - 1) he o1 f o2 (pm_word hTb o3 rfl) (fun x h => h) (o4.trans hfin) (c3 f o2).1 n1 n2 hll hd kk
        · cases h
      · cases h
    | .ref x :: .ref q :: st, h =>
      simp only [pm_wr] at h
      split at h
      · rename_i ci f hw
        split at h
        · rename_i hc
          simp only [Bool.and_eq_true, decide_eq_true_eq, Bool.or_eq_true, Bool.not_eq_true'] at hc
          obtain ⟨h1, h2, h3, hx1, h4, h5⟩ := hc
          simp only [Option.some.injEq, Prod.mk.injEq] at h
          obtain ⟨rfl, rfl⟩ := h
          obtain ⟨C, T, o1, o2, o3, o4, o5⟩ := pm_okF hw
          obtain ⟨-, c2, c3, c4, -⟩ := pm_okC o1
          have hko := (c3 f o2).2.1
          obtain ⟨n1, n2⟩ := pm_ko_ref (ty := pm_ft ci f) (v := .ref (pm_a b HL x)) (by rw [← hko]; exact h4) (Or.inr ⟨_, rfl⟩)
          have he := pm_w_at (kA := kA) (HL := HL) h1 h2
          rw [pm_e_obj h3] at he
          have hts := pm_lays (args := args) hTb c2
          have hll : f < (pm_fs HL σ ci q).length := by simpa [pm_fs] using o2
          have hv : va_rf (pm_ro HL x) = .ref (pm_a b HL x) := by
            unfold pm_ro
            rw [if_neg (Nat.ne_of_gt hx1), pm_a_pos hx1]; rfl
          have hset : (pm_w kA HL σ).set (q - 1) (HL.size + (q - 1), .inr (ci, (pm_fs HL σ ci q).set f (.ref (pm_a b HL x)))) = pm_w kA HL (σ.1, pm_u σ.2.1 q (pm_u (σ.2.1 q) f x), σ.2.2) :=
            pm_w_set h1 rfl ((pm_e_obj (σ := (σ.1, pm_u σ.2.1 q (pm_u (σ.2.1 q) f x), σ.2.2)) h3).trans (by rw [pm_fs_setr o2 h4, hv])) (fun r hr => pm_e_same rfl (pm_un _ _ hr) rfl rfl)
          show W p l e R s m args below meth c H locs cells slots Q (F0 m pc la (.ref (pm_a b HL x) :: .ref (pm_a b HL q) :: st.map (pm_v b HL)))
          rw [pm_a_pos h1]
          have kk : ∀ (H1 : Heap) (locs1 : List Loc), va_P D pm_cl ((pm_w kA HL σ).set (q - 1) (HL.size + (q - 1), .inr (ci, (pm_fs HL σ ci q).set f (.ref (pm_a b HL x))))) H1 → va_D (fun r => HL.size ≤ r) ((pm_w kA HL σ).set (q - 1) (HL.size + (q - 1), .inr (ci, (pm_fs HL σ ci q).set f (.ref (pm_a b HL x))))) → va_S (fun r => HL.size ≤ r) H H1 locs1 → W p l e R s m args below meth c H1 locs1 cells slots Q (F0 m (pc + 3) la (st.map (pm_v b HL))) := by
            intro H1 locs1 hP1 _ hS1
            rw [hset] at hP1
            exact pm_keep hS hz hcs hS1 fun hS2 hz2 => k H1 locs1 ⟨hP1, hS2, hz2, hl, hlen⟩
          by_cases hfin : pm_fin ci f = true
          · have h6 : pm_kd mi = 2 ∧ pm_own (pm_ow mi) ci = true := h5.resolve_left (by rw [hfin]; decide)
            obtain ⟨o6, o7⟩ := o5 h6.2
            exact va_putF hx hb hts (fun w h => h) (pm_ft ci) (fun k hk => (c3 k hk).1) c4 hown hK hP hD hS0 (q - 1) he o1 f o2 (pm_word hTb o7 rfl) (fun x h => h) (o4.trans hfin) (hin h6.1) o6 (c3 f o2).1 n1 n2 hll hd kk
          · have hfin : pm_fin ci f = false := Bool.eq_false_iff.mpr hfin
            rcases o3 with o3 | ⟨host, o3⟩
            · exact va_put hx hb hts (fun w h => h) (pm_ft ci) (fun k hk => (c3 k hk).1) c4 hown hK hP hD hS0 (q - 1) he o1 f o2 (pm_word hTb o3 rfl) (fun x h => h) (o4.trans hfin) (c3 f o2).1 n1 n2 hll hd kk
            · exact va_putN hx hb hts (fun w h => h) (pm_ft ci) (fun k hk => (c3 k hk).1) c4 hown hK hP hD hS0 (q - 1) he o1 f o2 (pm_word hTb o3 rfl) (fun x h => h) (o4.trans hfin) (c3 f o2).1 n1 n2 hll hd kk
        · cases h
      · cases h
  | iastore =>
    match st, h with
    | .int x :: .int j :: .ref q :: st, h =>
      simp only [pm_wr] at h
      split at h
      · rename_i hc
        simp only [Bool.and_eq_true, decide_eq_true_eq] at hc
        obtain ⟨h1, h2, h3, h4⟩ := hc
        simp only [Option.some.injEq, Prod.mk.injEq] at h
        obtain ⟨rfl, rfl⟩ := h
        have he := pm_w_at (kA := kA) (HL := HL) h1 h2
        rw [pm_e_int h3 (by decide) (by decide)] at he
        have hset : (pm_w kA HL σ).set (q - 1) (HL.size + (q - 1), .inl (kA 0, σ.2.2.2.1 q, .inl (upd (σ.1 q) j.toNatClampNeg x))) = pm_w kA HL (pm_u σ.1 q (upd (σ.1 q) j.toNatClampNeg x), σ.2) :=
          pm_w_set h1 rfl ((pm_e_int (σ := (pm_u σ.1 q (upd (σ.1 q) j.toNatClampNeg x), σ.2)) (k := 0) h3 (by decide) (by decide)).trans (by simp [pm_us])) (fun r hr => pm_e_same (pm_un _ _ hr) rfl rfl rfl)
        show W p l e R s m args below meth c H locs cells slots Q (F0 m pc la (.int x :: .int j :: .ref (pm_a b HL q) :: st.map (pm_v b HL)))
        rw [pm_a_pos h1]
        refine va_iast hx hb hK hP hD hS0 (q - 1) 0 he (pm_tys_at pm_nk0) (pm_inb_of h4) hd fun H1 locs1 hP1 _ hS1 => ?_
        rw [hset] at hP1
        exact pm_keep hS hz hcs hS1 fun hS2 hz2 => k H1 locs1 ⟨hP1, hS2, hz2, hl, hlen⟩
      · cases h
  | castore =>
    match st, h with
    | .int x :: .int j :: .ref q :: st, h =>
      simp only [pm_wr] at h
      split at h
      · rename_i hc
        simp only [Bool.and_eq_true, decide_eq_true_eq] at hc
        obtain ⟨h1, h2, h3, h4⟩ := hc
        simp only [Option.some.injEq, Prod.mk.injEq] at h
        obtain ⟨rfl, rfl⟩ := h
        have he := pm_w_at (kA := kA) (HL := HL) h1 h2
        rw [pm_e_int h3 (by decide) (by decide)] at he
        have hset : (pm_w kA HL σ).set (q - 1) (HL.size + (q - 1), .inl (kA 1, σ.2.2.2.1 q, .inl (upd (σ.1 q) j.toNatClampNeg (vp_nar .char x)))) = pm_w kA HL (pm_u σ.1 q (upd (σ.1 q) j.toNatClampNeg (vp_nar .char x)), σ.2) :=
          pm_w_set h1 rfl ((pm_e_int (σ := (pm_u σ.1 q (upd (σ.1 q) j.toNatClampNeg (vp_nar .char x)), σ.2)) (k := 1) h3 (by decide) (by decide)).trans (by simp [pm_us])) (fun r hr => pm_e_same (pm_un _ _ hr) rfl rfl rfl)
        show W p l e R s m args below meth c H locs cells slots Q (F0 m pc la (.int x :: .int j :: .ref (pm_a b HL q) :: st.map (pm_v b HL)))
        rw [pm_a_pos h1]
        refine va_cast hx hb hK hP hD hS0 (q - 1) 1 he (pm_tys_at pm_nk1) (pm_inb_of h4) hd fun H1 locs1 hP1 _ hS1 => ?_
        rw [hset] at hP1
        exact pm_keep hS hz hcs hS1 fun hS2 hz2 => k H1 locs1 ⟨hP1, hS2, hz2, hl, hlen⟩
      · cases h
  | bastore =>
    match st, h with
    | .int x :: .int j :: .ref q :: st, h =>
      simp only [pm_wr] at h
      split at h
      · rename_i hc
        simp only [Bool.and_eq_true, decide_eq_true_eq] at hc
        obtain ⟨h1, h2, h3, h4⟩ := hc
        simp only [Option.some.injEq, Prod.mk.injEq] at h
        obtain ⟨rfl, rfl⟩ := h
        have he := pm_w_at (kA := kA) (HL := HL) h1 h2
        rw [pm_e_int h3 (by decide) (by decide)] at he
        have hset : (pm_w kA HL σ).set (q - 1) (HL.size + (q - 1), .inl (kA 2, σ.2.2.2.1 q, .inl (upd (σ.1 q) j.toNatClampNeg (vp_nar .boolean x)))) = pm_w kA HL (pm_u σ.1 q (upd (σ.1 q) j.toNatClampNeg (vp_nar .boolean x)), σ.2) :=
          pm_w_set h1 rfl ((pm_e_int (σ := (pm_u σ.1 q (upd (σ.1 q) j.toNatClampNeg (vp_nar .boolean x)), σ.2)) (k := 2) h3 (by decide) (by decide)).trans (by simp [pm_us])) (fun r hr => pm_e_same (pm_un _ _ hr) rfl rfl rfl)
        show W p l e R s m args below meth c H locs cells slots Q (F0 m pc la (.int x :: .int j :: .ref (pm_a b HL q) :: st.map (pm_v b HL)))
        rw [pm_a_pos h1]
        refine va_zast hx hb hK hP hD hS0 (q - 1) 2 he (pm_tys_at pm_nk2) (pm_inb_of h4) hd fun H1 locs1 hP1 _ hS1 => ?_
        rw [hset] at hP1
        exact pm_keep hS hz hcs hS1 fun hS2 hz2 => k H1 locs1 ⟨hP1, hS2, hz2, hl, hlen⟩
      · cases h
  | aastore =>
    match st, h with
    | .ref x :: .int j :: .ref q :: st, h =>
      simp only [pm_wr] at h
      split at h
      · rename_i hc
        simp only [Bool.and_eq_true, decide_eq_true_eq] at hc
        obtain ⟨h1, h2, h3, h4, x1, x2, x3⟩ := hc
        simp only [Option.some.injEq, Prod.mk.injEq] at h
        obtain ⟨rfl, rfl⟩ := h
        have he := pm_w_at (kA := kA) (HL := HL) h1 h2
        rw [pm_e_ref h3] at he
        have hv := pm_w_at (kA := kA) (HL := HL) x1 x2
        rw [pm_e_obj x3] at hv
        obtain ⟨T, hqc⟩ := pm_okQ
        have hset : (pm_w kA HL σ).set (q - 1) (HL.size + (q - 1), .inl (kA 3, σ.2.2.2.1 q, .inr (.inr (.inr (.inr (va_up (fun j => pm_ro HL (σ.2.1 q j)) j.toNatClampNeg (some (HL.size + (x - 1))))))))) = pm_w kA HL (σ.1, pm_u σ.2.1 q (pm_u (σ.2.1 q) j.toNatClampNeg x), σ.2.2) := by
          refine pm_w_set h1 rfl ?_ (fun r hr => pm_e_same rfl (pm_un _ _ hr) rfl rfl)
          refine (pm_e_ref (σ := (σ.1, pm_u σ.2.1 q (pm_u (σ.2.1 q) j.toNatClampNeg x), σ.2.2)) h3).trans ?_
          congr 7
          funext t
          show pm_ro HL (pm_u σ.2.1 q (pm_u (σ.2.1 q) j.toNatClampNeg x) q t) = va_up (fun j => pm_ro HL (σ.2.1 q j)) j.toNatClampNeg (some (HL.size + (x - 1))) t
          rw [pm_us]
          unfold va_up
          by_cases ht : t = j.toNatClampNeg
          · rw [if_pos ht, ht, pm_us]
            unfold pm_ro
            rw [if_neg (Nat.ne_of_gt x1)]
          · rw [if_neg ht, pm_un _ _ ht]
        show W p l e R s m args below meth c H locs cells slots Q (F0 m pc la (.ref (pm_a b HL x) :: .int j :: .ref (pm_a b HL q) :: st.map (pm_v b HL)))
        rw [pm_a_pos h1, pm_a_pos x1]
        refine va_astq hx hb hK hP hD hS0 (q - 1) 3 (x - 1) pm_qc he (pm_tys_at pm_nk3) hv hqc (pm_inb_of h4) hd fun H1 locs1 hP1 _ hS1 => ?_
        rw [hset] at hP1
        exact pm_keep hS hz hcs hS1 fun hS2 hz2 => k H1 locs1 ⟨hP1, hS2, hz2, hl, hlen⟩
      · cases h
  | _ => cases h
theorem pm_w_len {σ : pm_S} : (pm_w kA HL σ).length = σ.2.2.2.2.1 := by simp [pm_w]
theorem pm_fresh {σ : pm_S} {q : Nat} {x : va_E} {H1 : Heap} (hP1 : va_P D pm_cl (pm_w kA HL σ ++ [(q, x)]) H1) (hD1 : va_D (fun r => HL.size ≤ r) (pm_w kA HL σ ++ [(q, x)])) (hle : H1.size ≤ HL.size + σ.2.2.2.2.1 + 1) : q = HL.size + σ.2.2.2.2.1 ∧ H1.size = HL.size + σ.2.2.2.2.1 + 1 := by
  have hq : (pm_w kA HL σ ++ [(q, x)])[σ.2.2.2.2.1]? = some (q, x) := by
    rw [List.getElem?_append_right (by rw [pm_w_len]; exact Nat.le_refl _), pm_w_len, Nat.sub_self]
    rfl
  have h1 : q < H1.size := (hP1 _ _ hq).lt
  have h2 : HL.size ≤ q := hD1.2 _ _ hq
  by_cases h3 : q < HL.size + σ.2.2.2.2.1
  · exfalso
    have h4 := pm_w_at (kA := kA) (HL := HL) (σ := σ) (p := q - HL.size + 1) (by omega) (by omega)
    have h5 : (pm_w kA HL σ ++ [(q, x)])[q - HL.size + 1 - 1]? = some (HL.size + (q - HL.size + 1 - 1), pm_e kA HL σ (q - HL.size + 1)) := by
      rw [List.getElem?_append_left (by rw [pm_w_len]; omega)]
      exact h4
    have h6 := hD1.1 _ _ _ _ hq h5 (by show q = _; omega)
    omega
  · omega
theorem pm_mk_e {σ : pm_S} {k n sl q : Nat} (h : q ≤ σ.2.2.2.2.1) : pm_e kA HL (pm_mkS σ k n sl) q = pm_e kA HL σ q :=
  pm_e_same (pm_un _ _ (by omega)) (pm_un _ _ (by omega)) (pm_un _ _ (by omega)) (pm_un _ _ (by omega))
theorem pm_mk_k {σ : pm_S} {k n sl : Nat} : (pm_mkS σ k n sl).2.2.1 (σ.2.2.2.2.1 + 1) = k := pm_us _ _ _
set_option maxHeartbeats 4000000 in
theorem pm_mk_w {mi : Nat} {i : Jvm.ClassFile.Instr} {ls : pm_L} {st st' : List Value} {σ : pm_S} {kd n sl : Nat} (hF : pm_Fr D kA b X HL mi p R s m meth c) (hR : pm_Re D kA b HL mi σ ls H locs la) (hcs : s.heap.size + cells = HL.size + σ.2.2.2.2.1) (hcr : cells + 1 ≤ R.cells) (hsr : slots + sl ≤ R.slots) (hd : decode (pm_code mi) pc = .ok (i, pm_len i)) (h : pm_mk (pm_ow mi) i st = some (kd, n, sl, st'))
    (k : ∀ H', pm_Re D kA b HL mi (pm_mkS σ kd n sl) ls H' locs la → W p l e R s m args below meth c H' locs (cells + 1) (slots + sl) Q (F0 m (pc + pm_len i) la (.ref (HL.size + σ.2.2.2.2.1) :: st'.map (pm_v b HL)))) : W p l e R s m args below meth c H locs cells slots Q (F0 m pc la (st.map (pm_v b HL))) := by
  obtain ⟨hx, hb, hml, hown, hTb, hK, hX, hin, -, -⟩ := hF
  obtain ⟨hP, hS, hz, hl, hlen⟩ := hR
  have hD := pm_w_D (kA := kA) (HL := HL) (σ := σ)
  have hS0 := pm_S_self hS
  have hA : ∀ q, H.size ≤ q → HL.size ≤ q := fun q h => by omega
  have fin : ∀ (q : Nat) (H1 : Heap) (x : va_E), x = pm_e kA HL (pm_mkS σ kd n sl) (σ.2.2.2.2.1 + 1) → va_P D pm_cl (pm_w kA HL σ ++ [(q, x)]) H1 → va_D (fun r => HL.size ≤ r) (pm_w kA HL σ ++ [(q, x)]) → va_S (fun r => HL.size ≤ r) H H1 locs → W p l e R s m args below meth c H1 locs (cells + 1) (slots + sl) Q (F0 m (pc + pm_len i) la (.ref q :: st'.map (pm_v b HL))) := by
    intro q H1 x hxe hP1 hD1 hS1
    refine pm_size fun hle => ?_
    obtain ⟨hq, hz1⟩ := pm_fresh hP1 hD1 (by omega)
    subst hq
    rw [pm_w_push (σ' := pm_mkS σ kd n sl) rfl hxe.symm (fun q hq => pm_mk_e hq)] at hP1
    exact k H1 ⟨hP1, pm_S_trans hS hS1, hz1, hl, hlen⟩
  cases i with
  | new n0 =>
    simp only [pm_mk] at h
    split at h
    · rename_i ci hw
      simp only [Option.some.injEq, Prod.mk.injEq] at h
      obtain ⟨rfl, rfl, rfl, rfl⟩ := h
      obtain ⟨C, T, o1, o2⟩ := pm_okN hw
      obtain ⟨-, c2, c3, c4, c5, c6⟩ := pm_okC o1
      have hts := pm_lays (args := args) hTb c2
      refine va_new (fs := pm_fs HL (pm_mkS σ (10 + ci) 0 (pm_nf ci)) ci (σ.2.2.2.2.1 + 1)) hx hb hts (fun w h => h) (pm_ft ci) (fun k hk => (c3 k hk).1) hown (pm_word hTb o2 rfl) (pm_word hTb c5 rfl) (pm_word hTb c6 rfl) hK hP hD hS0 hA o1 ?_ hcr hsr hd ?_
      · intro j hj
        unfold vp_V
        rw [List.getD_eq_getElem?_getD, pm_fs_at hj]
        have hko := (c3 j hj).2
        simp only [Option.getD_some]
        have e1 : (pm_mkS σ (10 + ci) 0 (pm_nf ci)).1 (σ.2.2.2.2.1 + 1) j = 0 := by simp [pm_mkS, pm_us]
        have e2 : (pm_mkS σ (10 + ci) 0 (pm_nf ci)).2.1 (σ.2.2.2.2.1 + 1) j = 0 := by simp [pm_mkS, pm_us]
        rw [e1, e2, hko.1]
        have h4 := hko.2
        rw [hko.1] at h4
        cases hty : pm_ft ci j <;> rw [hty] at h4 <;> first | rfl | (exfalso; revert h4; decide)
      · intro q H1 hP1 hD1 hS1
        exact fin q H1 _ (by rw [pm_e_obj (ci := ci) pm_mk_k]) hP1 hD1 hS1
    · cases h
  | newarray at_ =>
    cases at_ with
    | int =>
      match st, h with
      | .int z :: st, h =>
        simp only [pm_mk] at h
        split at h
        · rename_i hc
          simp only [Bool.and_eq_true, decide_eq_true_eq] at hc
          simp only [Option.some.injEq, Prod.mk.injEq] at h
          obtain ⟨rfl, rfl, rfl, rfl⟩ := h
          refine va_newa (a0 := (z.toNatClampNeg, .inl (fun _ => 0))) (atype := .int) hx hb (pm_word (w := .arrayClass .int) hTb pm_okAI rfl) rfl hK hP hD hS0 hA (fun _ => rfl) hc.1 rfl ?_ hcr hsr hd ?_
          · show z.toNatClampNeg * 4 ≤ 536870912
            have := hc.2
            omega
          · intro q cA H1 hK1 hP1 hD1 hS1
            have h1 : s.vm.findClass ("[" ++ FieldType.int.toString) = some (kA 0) := (hK.2 0 _ (pm_tys_at pm_nk0)).2
            have h2 : s.vm.findClass ("[" ++ FieldType.int.toString) = some cA := (hK1.2 (pm_tys kA).length (cA, .int) (by rw [List.getElem?_append_right (Nat.le_refl _), Nat.sub_self]; rfl)).2
            have h3 : cA = kA 0 := Option.some.inj (h2.symm.trans h1)
            subst h3
            exact fin q H1 _ (by rw [pm_e_int (k := 0) pm_mk_k (by decide) (by decide)]; simp [pm_mkS, pm_us]) hP1 hD1 hS1
        · cases h
    | char =>
      match st, h with
      | .int z :: st, h =>
        simp only [pm_mk] at h
        split at h
        · rename_i hc
          simp only [Bool.and_eq_true, decide_eq_true_eq] at hc
          simp only [Option.some.injEq, Prod.mk.injEq] at h
          obtain ⟨rfl, rfl, rfl, rfl⟩ := h
          refine va_newa (a0 := (z.toNatClampNeg, .inl (fun _ => 0))) (atype := .char) hx hb (pm_word (w := .arrayClass .char) hTb pm_okAC rfl) rfl hK hP hD hS0 hA (fun _ => rfl) hc.1 rfl ?_ hcr hsr hd ?_
          · show z.toNatClampNeg * 2 ≤ 536870912
            have := hc.2
            omega
          · intro q cA H1 hK1 hP1 hD1 hS1
            have h1 : s.vm.findClass ("[" ++ FieldType.char.toString) = some (kA 1) := (hK.2 1 _ (pm_tys_at pm_nk1)).2
            have h2 : s.vm.findClass ("[" ++ FieldType.char.toString) = some cA := (hK1.2 (pm_tys kA).length (cA, .char) (by rw [List.getElem?_append_right (Nat.le_refl _), Nat.sub_self]; rfl)).2
            have h3 : cA = kA 1 := Option.some.inj (h2.symm.trans h1)
            subst h3
            exact fin q H1 _ (by rw [pm_e_int (k := 1) pm_mk_k (by decide) (by decide)]; simp [pm_mkS, pm_us]) hP1 hD1 hS1
        · cases h
    | boolean =>
      match st, h with
      | .int z :: st, h =>
        simp only [pm_mk] at h
        split at h
        · rename_i hc
          simp only [Bool.and_eq_true, decide_eq_true_eq] at hc
          simp only [Option.some.injEq, Prod.mk.injEq] at h
          obtain ⟨rfl, rfl, rfl, rfl⟩ := h
          refine va_newa (a0 := (z.toNatClampNeg, .inl (fun _ => 0))) (atype := .boolean) hx hb (pm_word (w := .arrayClass .boolean) hTb pm_okAZ rfl) rfl hK hP hD hS0 hA (fun _ => rfl) hc.1 rfl ?_ hcr hsr hd ?_
          · show z.toNatClampNeg * 1 ≤ 536870912
            have := hc.2
            omega
          · intro q cA H1 hK1 hP1 hD1 hS1
            have h1 : s.vm.findClass ("[" ++ FieldType.boolean.toString) = some (kA 2) := (hK.2 2 _ (pm_tys_at pm_nk2)).2
            have h2 : s.vm.findClass ("[" ++ FieldType.boolean.toString) = some cA := (hK1.2 (pm_tys kA).length (cA, .boolean) (by rw [List.getElem?_append_right (Nat.le_refl _), Nat.sub_self]; rfl)).2
            have h3 : cA = kA 2 := Option.some.inj (h2.symm.trans h1)
            subst h3
            exact fin q H1 _ (by rw [pm_e_int (k := 2) pm_mk_k (by decide) (by decide)]; simp [pm_mkS, pm_us]) hP1 hD1 hS1
        · cases h
    | _ => cases h
  | anewarray n0 =>
    match st, h with
    | .int z :: st, h =>
      simp only [pm_mk] at h
      split at h
      · rename_i hc
        simp only [Bool.and_eq_true, decide_eq_true_eq] at hc
        simp only [Option.some.injEq, Prod.mk.injEq] at h
        obtain ⟨rfl, rfl, rfl, rfl⟩ := h
        obtain ⟨o1, o2⟩ := pm_okA hc.1
        refine va_newq hx hb hown (pm_word hTb o1 rfl) (va_AO.of (pm_word (args := #[]) hTb o2 rfl)) hK hP hD hS0 hA hc.2.1 rfl ?_ hcr hsr hd ?_
        · have := hc.2.2
          omega
        · intro q cA H1 hK1 hP1 hD1 hS1
          obtain ⟨_, _, -, -, -, h1⟩ := (hK.2 3 _ (pm_tys_at pm_nk3)).2
          obtain ⟨_, _, -, -, -, h2⟩ := (hK1.2 (pm_tys kA).length _ (by rw [List.getElem?_append_right (Nat.le_refl _), Nat.sub_self]; rfl)).2
          have h3 : cA = kA 3 := Option.some.inj (h2.symm.trans h1)
          subst h3
          refine fin q H1 _ ?_ hP1 hD1 hS1
          rw [pm_e_ref pm_mk_k]
          simp [pm_mkS, pm_us, pm_ro]
      · cases h
  | _ => cases h
theorem pm_cats : ∀ (st : List Value), st.all pm_vc = true → ((st.map (pm_v b HL)).map fun v => v.category).sum = st.length
  | [], _ => rfl
  | a :: st, h => by
    simp only [List.all_cons, Bool.and_eq_true] at h
    simp only [List.map_cons, List.sum_cons, List.length_cons]
    rw [pm_cats st h.2, pm_vc_cat b HL h.1]
    omega
set_option maxHeartbeats 4000000 in
theorem pm_jdk_w {mi : Nat} {i : Jvm.ClassFile.Instr} {ls : pm_L} {st st' : List Value} {σ σ' : pm_S} (hF : pm_Fr D kA b X HL mi p R s m meth c) (hR : pm_Re D kA b HL mi σ ls H locs la) (hcs : s.heap.size + cells = HL.size + σ.2.2.2.2.1) (hcr : cells ≤ R.cells) (hsr : slots ≤ R.slots) (hd : decode (pm_code mi) pc = .ok (i, pm_len i)) (h : pm_jdk (pm_ow mi) i st σ = some (σ', st'))
    (k : ∀ H' locs', pm_Re D kA b HL mi σ' ls H' locs' la → W p l e R s m args below meth c H' locs' cells slots Q (F0 m (pc + pm_len i) la (st'.map (pm_v b HL)))) : W p l e R s m args below meth c H locs cells slots Q (F0 m pc la (st.map (pm_v b HL))) := by
  have hR0 := hR
  obtain ⟨hx, hb, hml, hown, hTb, hK, hX, hin, hfr, hlo⟩ := hF
  obtain ⟨hP, hS, hz, hl, hlen⟩ := hR
  have hD := pm_w_D (kA := kA) (HL := HL) (σ := σ)
  have hS0 := pm_S_self hS
  cases i with
  | invokespecial n =>
    simp only [pm_jdk] at h
    split at h
    · rename_i hbi
      match st, h with
      | .ref q :: st, h =>
        simp only at h
        split at h
        · rename_i hc
          simp only [Bool.and_eq_true, decide_eq_true_eq] at hc
          simp only [Option.some.injEq, Prod.mk.injEq] at h
          obtain ⟨rfl, rfl⟩ := h
          have hsum := pm_cats (b := b) (HL := HL) st hc.2
          refine W.objInit hx hb hown (pm_word hTb (pm_okO hbi) rfl) (pm_word hTb pm_okO1 rfl) (pm_word hTb pm_okO2 rfl) rfl (hl.1.trans hml.symm) rfl hd hfr ?_ (k H locs hR0)
          have := lv_room (m := m) (pc := pc) (ls := la) (rest := (Value.ref q :: st).map (pm_v b HL)) (st := st.map (pm_v b HL)) (by rw [hsum]; exact hc.1)
          show 2 * (F0 m pc la ((Value.ref q :: st).map (pm_v b HL))).monitorRoom + ((st.map (pm_v b HL)).map fun v => v.category).sum + 12 ≤ R.locals
          omega
        · cases h
    · cases h
  | invokestatic n =>
    simp only [pm_jdk] at h
    split at h
    · rename_i hbi
      match st, h with
      | .int y :: .int x :: st, h =>
        simp only at h
        split at h
        · rename_i hc
          simp only [Bool.and_eq_true, decide_eq_true_eq] at hc
          simp only [Option.some.injEq, Prod.mk.injEq] at h
          obtain ⟨rfl, rfl⟩ := h
          have hsum := pm_cats (b := b) (HL := HL) st hc.2
          obtain ⟨o1, o2, o3, o4⟩ := pm_okMin hbi
          exact va_mmin hx hb (hml.trans hl.1.symm) hown (pm_word hTb o1 rfl) (pm_word hTb o2 rfl) (pm_word hTb o3 rfl) (pm_word hTb o4 rfl) hfr (by omega) hcr hsr hd (k H locs hR0)
        · cases h
    · split at h
      · rename_i hbi
        match st, h with
        | .int n1 :: .int dp :: .ref q2 :: .int sp :: .ref q1 :: st, h =>
          simp only at h
          split at h
          · rename_i hc
            simp only [Bool.and_eq_true, decide_eq_true_eq] at hc
            obtain ⟨g1, g2, p1, p2, p3, r1, r2, r3, a1, a2, a3, a4, a5⟩ := hc
            simp only [Option.some.injEq, Prod.mk.injEq] at h
            obtain ⟨rfl, rfl⟩ := h
            have hsum := pm_cats (b := b) (HL := HL) st g2
            obtain ⟨o1, o2, o3, o4⟩ := pm_okCpy hbi
            have he1 := pm_w_at (kA := kA) (HL := HL) p1 p2
            rw [pm_e_int p3 (by decide) (by decide)] at he1
            have he2 := pm_w_at (kA := kA) (HL := HL) r1 r2
            rw [pm_e_int r3 (by decide) (by decide)] at he2
            have hset : (pm_w kA HL σ).set (q2 - 1) (HL.size + (q2 - 1), .inl (kA 0, σ.2.2.2.1 q2, .inl (va_cpy (σ.1 q1) (σ.1 q2) sp.toNatClampNeg dp.toNatClampNeg n1.toNatClampNeg))) = pm_w kA HL (pm_u σ.1 q2 (va_cpy (σ.1 q1) (σ.1 q2) sp.toNatClampNeg dp.toNatClampNeg n1.toNatClampNeg), σ.2) :=
              pm_w_set r1 rfl ((pm_e_int (σ := (pm_u σ.1 q2 (va_cpy (σ.1 q1) (σ.1 q2) sp.toNatClampNeg dp.toNatClampNeg n1.toNatClampNeg), σ.2)) (k := 0) r3 (by decide) (by decide)).trans (by simp [pm_us])) (fun r hr => pm_e_same (pm_un _ _ hr) rfl rfl rfl)
            show W p l e R s m args below meth c H locs cells slots Q (F0 m pc la (.int n1 :: .int dp :: .ref (pm_a b HL q2) :: .int sp :: .ref (pm_a b HL q1) :: st.map (pm_v b HL)))
            rw [pm_a_pos r1, pm_a_pos p1]
            refine va_copyi hx hb (hml.trans hl.1.symm) hown (pm_word hTb o1 rfl) (pm_word hTb o2 rfl) (pm_word hTb o3 rfl) (pm_word hTb o4 rfl) hK hP hD hS0 (q1 - 1) (q2 - 1) 0 0 he1 he2 (pm_tys_at pm_nk0) (pm_tys_at pm_nk0) rfl a1 a2 a3 a4 a5 (fun _ _ => rfl) hfr ?_ hd fun H1 locs1 hP1 _ hS1 => ?_
            · rw [hsum]
              have : nativeFrameWords "java/lang/System" "arraycopy" 5 + 11 ≤ 56 := by decide
              omega
            · rw [hset] at hP1
              exact pm_keep hS hz hcs hS1 fun hS2 hz2 => k H1 locs1 ⟨hP1, hS2, hz2, hl, hlen⟩
          · cases h
      · cases h
  | _ => cases h
end PmW
