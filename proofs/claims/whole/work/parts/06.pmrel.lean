/-! THE PICTURE AND THE MACHINE'S HEAP: what it is that a heap holds a picture. -/
def pm_ok (w : Jvm.Cond) : Bool := goodWord w || (match w with
  | .fieldLinkNest .. => true
  | .methodLinkNest .. => true
  | .arrayOver (.object _) => true
  | _ => false)
def pm_Tb (U : State) : Prop := ∀ w ∈ lw_tbl, pm_ok w = true → ∀ a : Array Value, w.before a U = true
theorem pm_Tb.moved {s U : State} (hW : s.WarmedH U.vm) (h : pm_Tb s) : pm_Tb U := by
  intro w hw hk a
  by_cases hg : goodWord w = true
  · exact word_at hW (good_of_word hg) (h w hw hk a)
  · have hb := h w hw hk #[]
    simp only [pm_ok, Bool.eq_false_iff.mpr hg, Bool.false_or] at hk
    split at hk
    · exact va_Nw.use rfl (va_Nw.warmF hW hb)
    · exact va_Nw.use rfl (va_Nw.warmM hW hb)
    · exact va_AO.use (va_AO.moved hW.alike hb)
    · cases hk
/-- the address of a place -/
def pm_a (b : Nat) (HL : Heap) (p : Nat) : Nat := if p = 0 then b else HL.size + (p - 1)
theorem pm_a_pos {b : Nat} {HL : Heap} {p : Nat} (h : 1 ≤ p) : pm_a b HL p = HL.size + (p - 1) := by
  unfold pm_a
  rw [if_neg (by omega)]
def pm_v (b : Nat) (HL : Heap) (v : Value) : Value := match v with
  | .ref p => .ref (pm_a b HL p)
  | .int x => .int x
  | .null => .null
  | .long x => .long x
  | .float x => .float x
  | .double x => .double x
  | .retAddr x => .retAddr x
theorem pm_v_cat (b : Nat) (HL : Heap) (v : Value) : (pm_v b HL v).category = v.category := by cases v <;> rfl
theorem pm_vc_cat {v : Value} (b : Nat) (HL : Heap) (h : pm_vc v = true) : (pm_v b HL v).category = 1 := by
  cases v <;> first | rfl | cases h
def pm_ro (HL : Heap) (r : Nat) : Option Nat := if r = 0 then none else some (HL.size + (r - 1))
theorem pm_v_rv (b : Nat) (HL : Heap) (r : Nat) : pm_v b HL (pm_rv r) = va_rf (pm_ro HL r) := by
  unfold pm_rv pm_ro
  by_cases h : r = 0
  · rw [if_pos h, if_pos h]; rfl
  · rw [if_neg h, if_neg h]
    show Value.ref (pm_a b HL r) = .ref (HL.size + (r - 1))
    rw [pm_a_pos (by omega)]
def pm_fs (HL : Heap) (σ : pm_S) (c p : Nat) : List Value := (List.range (pm_nf c)).map (fun k => if pm_fk c k = 3 then va_rf (pm_ro HL (σ.2.1 p k)) else .int (σ.1 p k))
def pm_e (kA : Nat → ClassId) (HL : Heap) (σ : pm_S) (p : Nat) : va_E :=
  if σ.2.2.1 p < 10 then (if σ.2.2.1 p = 3 then .inl (kA 3, σ.2.2.2.1 p, .inr (.inr (.inr (.inr (fun j => pm_ro HL (σ.2.1 p j)))))) else .inl (kA (σ.2.2.1 p), σ.2.2.2.1 p, .inl (σ.1 p))) else .inr (σ.2.2.1 p - 10, pm_fs HL σ (σ.2.2.1 p - 10) p)
def pm_w (kA : Nat → ClassId) (HL : Heap) (σ : pm_S) : va_W := (List.range σ.2.2.2.2.1).map (fun j => (HL.size + j, pm_e kA HL σ (j + 1)))
theorem pm_w_at {kA : Nat → ClassId} {HL : Heap} {σ : pm_S} {p : Nat} (h1 : 1 ≤ p) (h2 : p ≤ σ.2.2.2.2.1) : (pm_w kA HL σ)[p - 1]? = some (HL.size + (p - 1), pm_e kA HL σ p) := by
  unfold pm_w
  rw [List.getElem?_map, List.getElem?_range (by omega)]
  simp only [Option.map_some]
  rw [show p - 1 + 1 = p by omega]
theorem pm_w_D {kA : Nat → ClassId} {HL : Heap} {σ : pm_S} : va_D (fun q => HL.size ≤ q) (pm_w kA HL σ) := by
  have key : ∀ (k : Nat) (q : Nat × va_E), (pm_w kA HL σ)[k]? = some q → q.1 = HL.size + k := by
    intro k q hk
    unfold pm_w at hk
    rw [List.getElem?_map] at hk
    cases hr : (List.range σ.2.2.2.2.1)[k]? with
    | none => rw [hr] at hk; cases hk
    | some j =>
      rw [hr] at hk
      cases hk
      have := List.getElem?_eq_some_iff.mp hr
      obtain ⟨hl, he⟩ := this
      rw [List.getElem_range] at he
      rw [he]
  refine ⟨fun i j p q hi hj hpq => ?_, fun k q hk => ?_⟩
  · have h1 := key i p hi
    have h2 := key j q hj
    omega
  · have h1 := key k q hk
    show HL.size ≤ q.1
    omega
theorem pm_w_set {kA : Nat → ClassId} {HL : Heap} {σ σ' : pm_S} {p : Nat} {e : va_E} (h1 : 1 ≤ p) (hn : σ'.2.2.2.2.1 = σ.2.2.2.2.1) (he : pm_e kA HL σ' p = e) (ho : ∀ q, q ≠ p → pm_e kA HL σ' q = pm_e kA HL σ q) : (pm_w kA HL σ).set (p - 1) (HL.size + (p - 1), e) = pm_w kA HL σ' := by
  apply List.ext_getElem?
  intro k
  unfold pm_w
  rw [List.getElem?_set, hn]
  by_cases hk : p - 1 = k
  · rw [if_pos hk]
    subst hk
    by_cases hl : p - 1 < σ.2.2.2.2.1
    · rw [if_pos (by simpa using hl), List.getElem?_map, List.getElem?_range hl]
      simp only [Option.map_some]
      rw [show p - 1 + 1 = p by omega, he]
    · rw [if_neg (by simpa using hl), List.getElem?_map, List.getElem?_eq_none (by simpa using hl)]
      rfl
  · rw [if_neg hk, List.getElem?_map, List.getElem?_map]
    by_cases hl : k < σ.2.2.2.2.1
    · rw [List.getElem?_range hl]
      simp only [Option.map_some]
      rw [ho (k + 1) (by omega)]
    · rw [List.getElem?_eq_none (by simpa using hl)]
      rfl
theorem pm_w_push {kA : Nat → ClassId} {HL : Heap} {σ σ' : pm_S} {e : va_E} (hn : σ'.2.2.2.2.1 = σ.2.2.2.2.1 + 1) (he : pm_e kA HL σ' (σ.2.2.2.2.1 + 1) = e) (ho : ∀ q, q ≤ σ.2.2.2.2.1 → pm_e kA HL σ' q = pm_e kA HL σ q) : pm_w kA HL σ ++ [(HL.size + σ.2.2.2.2.1, e)] = pm_w kA HL σ' := by
  unfold pm_w
  rw [hn, List.range_succ, List.map_append]
  congr 1
  · apply List.map_congr_left
    intro j hj
    rw [ho (j + 1) (by have := List.mem_range.mp hj; omega)]
  · simp only [List.map_cons, List.map_nil, he]
def pm_tys (kA : Nat → ClassId) : List (ClassId × FieldType) := (List.range pm_nk).map (fun k => (kA k, pm_ty k))
theorem pm_tys_at {kA : Nat → ClassId} {k : Nat} (h : k < pm_nk) : (pm_tys kA)[k]? = some (kA k, pm_ty k) := by
  unfold pm_tys
  rw [List.getElem?_map, List.getElem?_range h]
  rfl
/-- a state that holds the picture -/
def pm_Wd (D : va_G) (kA : Nat → ClassId) (HL : Heap) (σ : pm_S) (U : State) : Prop :=
  pm_Tb U ∧ va_K D pm_cl (pm_tys kA) U ∧ va_S (fun q => HL.size ≤ q) HL U.heap [] ∧ U.heap.size = HL.size + σ.2.2.2.2.1 ∧ va_P D pm_cl (pm_w kA HL σ) U.heap
theorem pm_Wd.moved {D : va_G} {kA : Nat → ClassId} {HL : Heap} {σ : pm_S} {s U : State} (hW : s.WarmedH U.vm) (hh : U.heap = s.heap) (h : pm_Wd D kA HL σ s) : pm_Wd D kA HL σ U := by
  obtain ⟨h1, h2, h5, h6, h7⟩ := h
  exact ⟨h1.moved hW, va_K.moved hW.alike h2, by rw [hh]; exact h5, by rw [hh]; exact h6, by rw [hh]; exact h7⟩
/-- the locals -/
def pm_pr (b : Nat) (HL : Heap) (ls : pm_L) : List (Nat × Value) := (List.range ls.length).filterMap (fun i => (pm_ld ls i).map (fun v => (i, pm_v b HL v)))
theorem pm_ld_lt {ls : pm_L} {i : Nat} {v : Value} (h : pm_ld ls i = some v) : i < ls.length := by
  unfold pm_ld at h
  cases hi : ls[i]? with
  | none => rw [hi] at h; cases h
  | some x => exact (List.getElem?_eq_some_iff.mp hi).1
theorem pm_ld_vc {ls : pm_L} {i : Nat} {v : Value} (h : pm_ld ls i = some v) : pm_vc v = true := by
  unfold pm_ld at h
  split at h <;> cases h <;> rfl
theorem pm_pr_mem {b : Nat} {HL : Heap} {ls : pm_L} {q : Nat × Value} : q ∈ pm_pr b HL ls ↔ ∃ v, pm_ld ls q.1 = some v ∧ q.2 = pm_v b HL v := by
  unfold pm_pr
  rw [List.mem_filterMap]
  constructor
  · rintro ⟨i, -, hi⟩
    cases hv : pm_ld ls i with
    | none => rw [hv] at hi; cases hi
    | some v => rw [hv] at hi; cases hi; exact ⟨v, hv, rfl⟩
  · rintro ⟨v, h1, h2⟩
    refine ⟨q.1, List.mem_range.mpr (pm_ld_lt h1), ?_⟩
    rw [h1]
    show some (q.1, pm_v b HL v) = some q
    rw [← h2]
theorem pm_ld_set {ls : pm_L} {i : Nat} {v : Value} {j : Nat} {w : Value} (h : pm_ld (ls.set i (some v)) j = some w) : (j = i ∧ w = v) ∨ (j ≠ i ∧ pm_ld ls j = some w) := by
  unfold pm_ld at h ⊢
  rw [List.getElem?_set] at h
  by_cases hij : i = j
  · left
    rw [if_pos hij] at h
    refine ⟨hij.symm, ?_⟩
    split at h <;> rename_i hx <;> (first | cases h | skip)
    · split at hx <;> cases hx; rfl
    · split at hx <;> cases hx; rfl
  · right
    rw [if_neg hij] at h
    exact ⟨fun e => hij e.symm, h⟩
theorem pm_pr_set {b : Nat} {HL : Heap} {ls : pm_L} {i nL : Nat} {v : Value} {l1 : Array Slot} (h : lv_has l1 nL ((i, pm_v b HL v) :: (pm_pr b HL ls).filter (fun q => !(q.1 == i) && !(q.1 + 1 == i && q.2.category == 2)))) : lv_has l1 nL (pm_pr b HL (ls.set i (some v))) := by
  refine ⟨h.1, h.2.1, fun q hq => h.2.2 q ?_⟩
  obtain ⟨w, h1, h2⟩ := pm_pr_mem.mp hq
  rcases pm_ld_set h1 with ⟨e1, e2⟩ | ⟨e1, e2⟩
  · rw [List.mem_cons]
    left
    rw [← e1, ← e2, ← h2]
  · rw [List.mem_cons]
    right
    rw [List.mem_filter]
    refine ⟨pm_pr_mem.mpr ⟨w, e2, h2⟩, ?_⟩
    have hc : q.2.category = 1 := by rw [h2]; exact pm_vc_cat b HL (pm_ld_vc e2)
    simp [e1, hc]
theorem pm_pr_at {b : Nat} {HL : Heap} {ls : pm_L} {i nL : Nat} {v : Value} {l1 : Array Slot} (h : lv_has l1 nL (pm_pr b HL ls)) (hv : pm_ld ls i = some v) : l1[i]? = some (.val (pm_v b HL v)) :=
  h.2.2 (i, pm_v b HL v) (pm_pr_mem.mpr ⟨v, hv, rfl⟩)
theorem pm_args_at {b : Nat} {HL : Heap} : ∀ (as : List Value) (k i : Nat) (v : Value), as.all pm_vc = true → as[i]? = some v → (k + i, pm_v b HL v) ∈ lv_args k (as.map (pm_v b HL))
  | [], _, _, _, _, h => by simp at h
  | a :: as, k, i, v, hv, h => by
    simp only [List.all_cons, Bool.and_eq_true] at hv
    show _ ∈ (k, pm_v b HL a) :: lv_args (if (pm_v b HL a).category = 2 then k + 2 else k + 1) (as.map (pm_v b HL))
    rw [pm_vc_cat b HL hv.1, if_neg (by decide)]
    cases i with
    | zero =>
      rw [List.getElem?_cons_zero] at h
      cases h
      exact List.mem_cons_self
    | succ i =>
      rw [List.getElem?_cons_succ] at h
      have := pm_args_at (b := b) (HL := HL) as (k + 1) i v hv.2 h
      rw [show k + 1 + i = k + (i + 1) by omega] at this
      exact List.mem_cons_of_mem _ this
theorem pm_sl_len {b : Nat} {HL : Heap} : ∀ (as : List Value), as.all pm_vc = true → (lg_sl (as.map (pm_v b HL))).length = as.length
  | [], _ => rfl
  | a :: as, hv => by
    simp only [List.all_cons, Bool.and_eq_true] at hv
    have ih := pm_sl_len (b := b) (HL := HL) as hv.2
    unfold lg_sl at ih ⊢
    rw [List.map_cons, List.flatMap_cons, List.length_append, ih, pm_vc_cat b HL hv.1, if_neg (by decide)]
    simp only [List.length_cons, List.length_nil]
    omega
theorem pm_in_has {b : Nat} {HL : Heap} {j : Nat} {as : List Value} (h1 : as.length ≤ pm_max j) (h2 : as.all pm_vc = true) : lv_has ((lg_sl (as.map (pm_v b HL)) ++ List.replicate (pm_max j - (lg_sl (as.map (pm_v b HL))).length) Slot.unset).toArray) (pm_max j) (pm_pr b HL (pm_in j as)) := by
  have h := lv_entry (as.map (pm_v b HL)) (n := pm_max j) (by rw [pm_sl_len as h2]; exact h1)
  refine ⟨h.1, h.2.1, fun q hq => h.2.2 q ?_⟩
  obtain ⟨v, e1, e2⟩ := pm_pr_mem.mp hq
  have hin : as[q.1]? = some v := by
    unfold pm_ld pm_in at e1
    by_cases hl : q.1 < as.length
    · rw [List.getElem?_append_left (by simpa using hl), List.getElem?_map] at e1
      cases ha : as[q.1]? with
      | none => rw [ha] at e1; cases e1
      | some w =>
        rw [ha] at e1
        simp only [Option.map_some] at e1
        split at e1 <;> rename_i hx <;> (first | cases e1 | skip) <;> cases hx <;> rfl
    · rw [List.getElem?_append_right (by simpa using hl)] at e1
      exfalso
      by_cases hr : q.1 - (as.map some).length < pm_max j - as.length
      · rw [List.getElem?_replicate, if_pos hr] at e1
        cases e1
      · rw [List.getElem?_replicate, if_neg hr] at e1
        cases e1
  have := pm_args_at (b := b) (HL := HL) as 0 q.1 v h2 hin
  rw [Nat.zero_add, ← e2] at this
  exact this
theorem pm_in_len {j : Nat} {as : List Value} (h1 : as.length ≤ pm_max j) : (pm_in j as).length = pm_max j := by
  unfold pm_in
  rw [List.length_append, List.length_map, List.length_replicate]
  omega
