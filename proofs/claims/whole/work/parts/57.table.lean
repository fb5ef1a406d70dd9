/-! HOW HEAVY A TYPE OF SO MANY NODES CAN BE. -/
def tA (k : Nat) : Nat := [0, 1, 1, 2, 3, 3, 4, 5, 6, 9, 9, 12, 15, 18, 27, 27, 36].getD k 0
def tB (k : Nat) : Nat := [0, 0, 1, 2, 3, 5, 7, 10, 13, 16, 22, 28, 37, 46, 55, 73, 91].getD k 0
def tabC (a b : Nat) : Bool := decide (a + b + 1 ≤ 16) && (decide (1 ≤ a) && decide (1 ≤ b))
def tab2 (a b : Nat) : Bool := !tabC a b || (decide (tA a + tA b ≤ tA (a + b + 1)) && (decide (1 + tB a + tB b ≤ tB (a + b + 1)) && (decide (tA b * tA a ≤ tA (a + b + 1)) && decide (1 + tA b * (tB a + 1) + tB b ≤ tB (a + b + 1)))))
def tab3 (a b c : Nat) : Bool := !(decide (1 ≤ a + b + c) && decide (a + b + c + 1 ≤ 16)) || (decide (tA a + tA b + tA c ≤ tA (a + b + c + 1)) && decide (1 + tB a + tB b + tB c ≤ tB (a + b + c + 1)))
theorem tab2_all : (List.range 16).all (fun a => (List.range 16).all (fun b => tab2 a b)) = true := by decide +kernel
theorem tab3_all : (List.range 16).all (fun a => (List.range 16).all (fun b => (List.range 16).all (fun c => tab3 a b c))) = true := by decide +kernel
theorem tab_two (a : Nat) (ha : a < 16) (b : Nat) (hb : b < 16) (h1 : 1 ≤ a) (h2 : 1 ≤ b) (h3 : a + b + 1 ≤ 16) : tA a + tA b ≤ tA (a + b + 1) ∧ 1 + tB a + tB b ≤ tB (a + b + 1) ∧ tA b * tA a ≤ tA (a + b + 1) ∧ 1 + tA b * (tB a + 1) + tB b ≤ tB (a + b + 1) := by
  have h := List.all_eq_true.mp (List.all_eq_true.mp tab2_all a (List.mem_range.mpr ha)) b (List.mem_range.mpr hb)
  have hC : tabC a b = true := by
    unfold tabC
    simp only [Bool.and_eq_true, decide_eq_true_eq]
    exact ⟨h3, h1, h2⟩
  unfold tab2 at h
  rw [hC] at h
  simpa only [Bool.not_true, Bool.false_or, Bool.and_eq_true, decide_eq_true_eq] using h
theorem tab_rec (a : Nat) (ha : a < 16) (b : Nat) (hb : b < 16) (c : Nat) (hc : c < 16) (h1 : 1 ≤ a + b + c) (h2 : a + b + c + 1 ≤ 16) : tA a + tA b + tA c ≤ tA (a + b + c + 1) ∧ 1 + tB a + tB b + tB c ≤ tB (a + b + c + 1) := by
  have h := List.all_eq_true.mp (List.all_eq_true.mp (List.all_eq_true.mp tab3_all a (List.mem_range.mpr ha)) b (List.mem_range.mpr hb)) c (List.mem_range.mpr hc)
  have hC : (decide (1 ≤ a + b + c) && decide (a + b + c + 1 ≤ 16)) = true := by
    simp only [Bool.and_eq_true, decide_eq_true_eq]
    exact ⟨h1, h2⟩
  unfold tab3 at h
  rw [hC] at h
  simpa only [Bool.not_true, Bool.false_or, Bool.and_eq_true, decide_eq_true_eq] using h
theorem tab_one : ∀ a, a < 17 → 1 ≤ a → 1 ≤ tA a := by decide +kernel
theorem flat_pos {d : Nat} {t : Ty} (h : ok d t = true) : 1 ≤ (flat t).length := by
  obtain ⟨r, e⟩ := flat_hd h
  rw [e, List.length_cons]; omega
theorem wt_tab : ∀ (n : Nat) (t : Ty) (ω : List Nat) (v : Nat), (flat t).length ≤ n → n ≤ 16 → ok ω.length t = true → 1 ≤ v → (∀ k, k < ω.length → 1 + vw ω k ≤ v) → wt ω t ≤ tA (flat t).length * v + tB (flat t).length
  | 0, t, ω, v, hn, _, h, _, _ => by have := flat_pos h; omega
  | n + 1, t, ω, v, hn, h16, h, v1, hv => by
    rcases ok_cases h with rfl | ⟨k, hk, rfl⟩ | ⟨a, b, rfl, ha, hb⟩ | ⟨a, b, rfl, ha, hb⟩ | ⟨m, x, y, z, hm, rfl, h0, h1, h2⟩
    · rw [wt_top, flat_top]
      show 1 ≤ 1 * v + 0
      omega
    · rw [wt_var, flat_var]
      have := hv k hk
      show 1 + vw ω k ≤ 1 * v + 0
      omega
    · rw [flat_fun, List.length_cons, List.length_append] at hn ⊢
      have i1 := wt_tab n a ω v (by omega) (by omega) ha v1 hv
      have i2 := wt_tab n b ω v (by omega) (by omega) hb v1 hv
      obtain ⟨q1, q2, -, -⟩ := tab_two (flat a).length (by omega) (flat b).length (by omega) (flat_pos ha) (flat_pos hb) (by omega)
      have q3 := Nat.mul_le_mul_right v q1
      rw [Nat.add_mul] at q3
      rw [wt_fun]
      omega
    · rw [flat_all, List.length_cons, List.length_append] at hn ⊢
      have pa := flat_pos ha
      have pb := flat_pos hb
      have i1 := wt_tab n a ω v (by omega) (by omega) ha v1 hv
      have hA := tab_one (flat a).length (by omega) pa
      have hA' : 1 * v ≤ tA (flat a).length * v := Nat.mul_le_mul_right v hA
      have i2 := wt_tab n b (wt ω a :: ω) (tA (flat a).length * v + tB (flat a).length + 1) (by omega) (by omega) hb (by omega) (by
        intro k hk
        show 1 + (if k = ω.length then wt ω a else vw ω k) ≤ _
        by_cases e : k = ω.length
        · rw [if_pos e]; omega
        · rw [if_neg e]
          have := hv k (by rw [List.length_cons] at hk; omega)
          omega)
      obtain ⟨-, -, q1, q2⟩ := tab_two (flat a).length (by omega) (flat b).length (by omega) pa pb (by omega)
      have q3 := Nat.mul_le_mul_right v q1
      rw [Nat.mul_assoc] at q3
      have e : tA (flat b).length * (tA (flat a).length * v + tB (flat a).length + 1) = tA (flat b).length * (tA (flat a).length * v) + tA (flat b).length * (tB (flat a).length + 1) := by rw [Nat.add_assoc, Nat.mul_add]
      rw [e] at i2
      rw [wt_all]
      omega
    · rw [flat_rec, List.length_cons, List.length_append, List.length_append] at hn ⊢
      have key : ∀ (i : Nat) (p : Ty), (flat p).length ≤ n → okl ω.length m i p → wt ω p ≤ tA (flat p).length * v + tB (flat p).length := by
        intro i p hp ho
        unfold okl at ho
        by_cases hb : bit m i = true
        · rw [if_pos hb] at ho
          exact wt_tab n p ω v hp (by omega) ho v1 hv
        · rw [if_neg hb] at ho
          rw [ho, wt_nil]; exact Nat.zero_le _
      have i0 := key 0 x (by omega) h0
      have i1 := key 1 y (by omega) h1
      have i2 := key 2 z (by omega) h2
      rw [wt_rec]
      by_cases hz : 1 ≤ (flat x).length + (flat y).length + (flat z).length
      · obtain ⟨q1, q2⟩ := tab_rec (flat x).length (by omega) (flat y).length (by omega) (flat z).length (by omega) hz (by omega)
        have q3 := Nat.mul_le_mul_right v q1
        rw [Nat.add_mul, Nat.add_mul] at q3
        rw [show (flat x).length + ((flat y).length + (flat z).length) + 1 = (flat x).length + (flat y).length + (flat z).length + 1 by omega]
        omega
      · have z0 : (flat x).length = 0 := by omega
        have z1 : (flat y).length = 0 := by omega
        have z2 : (flat z).length = 0 := by omega
        rw [z0] at i0
        rw [z1] at i1
        rw [z2] at i2
        have t0 : tA 0 * v + tB 0 = 0 := by show 0 * v + 0 = 0; omega
        rw [t0] at i0 i1 i2
        rw [z0, z1, z2]
        show 1 + (wt ω x + (wt ω y + wt ω z)) ≤ 1 * v + 0
        omega
theorem tab_mono : ∀ a, a < 17 → tA a + tB a ≤ 127 := by decide +kernel
/-- a closed type of at most sixteen nodes -/
theorem wt_closed {t : Ty} (h : ok 0 t = true) (hl : (flat t).length ≤ 16) : wt (om []) t ≤ 127 := by
  have i := wt_tab 16 t [] 1 hl (Nat.le_refl _) h (Nat.le_refl _) (fun k hk => absurd hk (Nat.not_lt_zero _))
  have := tab_mono (flat t).length (by omega)
  show wt [] t ≤ 127
  omega
/-- a type is no higher than its nodes, and what its variables add -/
theorem hgt_len : ∀ (n : Nat) (t : Ty) (ω : List Nat) (v : Nat), (flat t).length ≤ n → ok ω.length t = true → (∀ k, k < ω.length → vw ω k ≤ v) → hgt ω t ≤ (flat t).length + v
  | 0, t, ω, v, hn, h, _ => by have := flat_pos h; omega
  | n + 1, t, ω, v, hn, h, hv => by
    rcases ok_cases h with rfl | ⟨k, hk, rfl⟩ | ⟨a, b, rfl, ha, hb⟩ | ⟨a, b, rfl, ha, hb⟩ | ⟨m, x, y, z, hm, rfl, h0, h1, h2⟩
    · rw [hgt_top, flat_top]
      show 1 ≤ 1 + v
      omega
    · rw [hgt_var, flat_var]
      have := hv k hk
      show 1 + vw ω k ≤ 1 + v
      omega
    · rw [flat_fun, List.length_cons, List.length_append] at hn ⊢
      have i1 := hgt_len n a ω v (by omega) ha hv
      have i2 := hgt_len n b ω v (by omega) hb hv
      rw [hgt_fun]
      omega
    · rw [flat_all, List.length_cons, List.length_append] at hn ⊢
      have i1 := hgt_len n a ω v (by omega) ha hv
      have i2 := hgt_len n b (hgt ω a :: ω) ((flat a).length + v) (by omega) hb (by
        intro k hk
        show (if k = ω.length then hgt ω a else vw ω k) ≤ _
        by_cases e : k = ω.length
        · rw [if_pos e]; omega
        · rw [if_neg e]
          have := hv k (by rw [List.length_cons] at hk; omega)
          omega)
      rw [hgt_all]
      omega
    · rw [flat_rec, List.length_cons, List.length_append, List.length_append] at hn ⊢
      have key : ∀ (i : Nat) (p : Ty), (flat p).length ≤ n → okl ω.length m i p → hgt ω p ≤ (flat p).length + v := by
        intro i p hp ho
        unfold okl at ho
        by_cases hb : bit m i = true
        · rw [if_pos hb] at ho
          exact hgt_len n p ω v hp ho hv
        · rw [if_neg hb] at ho
          rw [ho, hgt_nil]; exact Nat.zero_le _
      have i0 := key 0 x (by omega) h0
      have i1 := key 1 y (by omega) h1
      have i2 := key 2 z (by omega) h2
      rw [hgt_rec]
      omega
theorem hgt_closed {t : Ty} (h : ok 0 t = true) (hl : (flat t).length ≤ 16) : hgt (oh []) t ≤ 16 := by
  have := hgt_len 16 t [] 0 hl h (fun k hk => absurd hk (Nat.not_lt_zero _))
  show hgt [] t ≤ 16
  omega
theorem rwt_le : ∀ (t : Ty) (ω ω' : List Nat), ω.length = ω'.length → (∀ k, vw ω k ≤ vw ω' k) → rwt ω t ≤ wt ω' t
  | .tag c (.append a b), ω, ω', hl, h => by
    have ha := rwt_le a ω ω' hl h
    rw [rwt, wt]
    by_cases hc : c = 2
    · rw [if_pos hc, if_pos hc]
      have hb := rwt_le b (rwt ω a :: ω) (wt ω' a :: ω') (by simp [hl]) (fun k => by
        show (if k = ω.length then rwt ω a else vw ω k) ≤ (if k = ω'.length then wt ω' a else vw ω' k)
        rw [hl]
        split
        · exact ha
        · exact h k)
      omega
    · rw [if_neg hc, if_neg hc]
      have hb := rwt_le b ω ω' hl h
      omega
  | .tag c .nil, ω, ω', hl, h => by
    rw [rwt, wt]
    have := h (c - 16)
    split <;> omega
  | .append a b, ω, ω', hl, h => by
    have ha := rwt_le a ω ω' hl h
    have hb := rwt_le b ω ω' hl h
    rw [rwt, wt]
    omega
  | .tag c .line, _, _, _, _ => by simp [rwt]
  | .tag c (.align _), _, _, _, _ => by simp [rwt]
  | .tag c (.text _), _, _, _, _ => by simp [rwt]
  | .tag c (.nest _ _), _, _, _, _ => by simp [rwt]
  | .tag c (.group _ _), _, _, _, _ => by simp [rwt]
  | .tag c (.tag _ _), _, _, _, _ => by simp [rwt]
  | .nil, _, _, _, _ => by simp [rwt]
  | .line, _, _, _, _ => by simp [rwt]
  | .align _, _, _, _, _ => by simp [rwt]
  | .text _, _, _, _, _ => by simp [rwt]
  | .nest _ _, _, _, _, _ => by simp [rwt]
  | .group _ _, _, _, _, _ => by simp [rwt]
theorem swt_le : ∀ (t : Ty) (ω ω' : List Nat), ω.length = ω'.length → (∀ k, vw ω k ≤ vw ω' k) → swt ω t ≤ wt ω' t
  | .tag c (.append a b), ω, ω', hl, h => by
    have ha := swt_le a ω ω' hl h
    rw [swt, wt]
    by_cases hc : c = 2
    · rw [if_pos hc, if_pos hc]
      have hb := swt_le b (swt ω a :: ω) (wt ω' a :: ω') (by simp [hl]) (fun k => by
        show (if k = ω.length then swt ω a else vw ω k) ≤ (if k = ω'.length then wt ω' a else vw ω' k)
        rw [hl]
        split
        · exact ha
        · exact h k)
      omega
    · rw [if_neg hc, if_neg hc]
      have hb := swt_le b ω ω' hl h
      omega
  | .tag c .nil, ω, ω', hl, h => by
    rw [swt, wt]
    have := h (c - 16)
    split <;> omega
  | .append a b, ω, ω', hl, h => by
    have ha := swt_le a ω ω' hl h
    have hb := swt_le b ω ω' hl h
    rw [swt, wt]
    omega
  | .tag c .line, _, _, _, _ => by simp [swt]
  | .tag c (.align _), _, _, _, _ => by simp [swt]
  | .tag c (.text _), _, _, _, _ => by simp [swt]
  | .tag c (.nest _ _), _, _, _, _ => by simp [swt]
  | .tag c (.group _ _), _, _, _, _ => by simp [swt]
  | .tag c (.tag _ _), _, _, _, _ => by simp [swt]
  | .nil, _, _, _, _ => by simp [swt]
  | .line, _, _, _, _ => by simp [swt]
  | .align _, _, _, _, _ => by simp [swt]
  | .text _, _, _, _, _ => by simp [swt]
  | .nest _ _, _, _, _, _ => by simp [swt]
  | .group _ _, _, _, _, _ => by simp [swt]
/-- two closed types of at most sixteen nodes -/
theorem gm_closed {w : Nat} {S T : Ty} (hS : ok 0 S = true) (hT : ok 0 T = true) (lS : (flat S).length ≤ 16) (lT : (flat T).length ≤ 16) (w1 : w ≤ 1) : gm (w, [], S, T) ≤ 381 ∧ gn (w, [], S, T) ≤ 204 := by
  have a1 := wt_closed hS lS
  have a2 := wt_closed hT lT
  have b1 := rwt_le S [] [] rfl (fun _ => Nat.le_refl _)
  have b2 := rwt_le T [] [] rfl (fun _ => Nat.le_refl _)
  have c1 := swt_le S [] [] rfl (fun _ => Nat.le_refl _)
  have c2 := swt_le T [] [] rfl (fun _ => Nat.le_refl _)
  obtain ⟨g1, g2⟩ := gm_gmW (z := (w, [], S, T)) ⟨trivial, hS, hT⟩ (show w ≠ 2 by omega)
  have g1 : gm (w, [], S, T) ≤ (rwt [] S + rwt [] T) + (swt [] S + swt [] T) / 2 := g1
  have g2 : gn (w, [], S, T) ≤ 4 * (swt [] S + swt [] T) / 5 := g2
  have a1 : wt [] S ≤ 127 := a1
  have a2 : wt [] T ≤ 127 := a2
  omega
