/-! WRITING BY PLACES: what the model's write puts at each place, and that it is the type's text. -/
def off (t : Ty) (g : Nat) : Nat := if g = 0 then 0 else if g = 1 then (flat (pt t 0)).length else (flat (pt t 0)).length + (flat (pt t 1)).length
/-- the type stands at a: ends en, codes ce -/
def At (en ce : Nat → Nat) : Nat → Ty → Nat → Prop
  | 0, _, _ => True
  | f + 1, t, a => ce a = hd t ∧ en a = a + (flat t).length ∧ ∀ g, g < 3 → hp t g = true → At en ce f (pt t g) (a + 1 + off t g)
theorem len_pts {D : Nat} {t : Ty} (h : ok D t = true) : (flat t).length = 1 + (flat (pt t 0)).length + (flat (pt t 1)).length + (flat (pt t 2)).length := by
  rw [flat_pts h, List.length_cons, List.length_append, List.length_append]; omega
theorem ok_part {D : Nat} {t : Ty} (h : ok D t = true) {g : Nat} (hg : g < 3) (hb : hp t g = true) : ok (if hd t = 2 ∧ g = 1 then D + 1 else D) (pt t g) = true := by
  rcases ok_cases h with rfl | ⟨k, -, rfl⟩ | ⟨a, b, rfl, ha, hb'⟩ | ⟨a, b, rfl, ha, hb'⟩ | ⟨m, x, y, z, hm, rfl, h0, h1, h2⟩
  · rw [hp_top g hg] at hb; cases hb
  · rw [hp_var k g hg] at hb; cases hb
  · rw [hd_fun, if_neg (by omega)]
    rcases (show g = 0 ∨ g = 1 ∨ g = 2 by omega) with rfl | rfl | rfl
    · rw [(pt_fun a b).1]; exact ha
    · rw [(pt_fun a b).2.1]; exact hb'
    · rw [(hp_fun a b).2.2] at hb; cases hb
  · rw [hd_all]
    rcases (show g = 0 ∨ g = 1 ∨ g = 2 by omega) with rfl | rfl | rfl
    · rw [if_neg (by omega), (pt_all a b).1]; exact ha
    · rw [if_pos ⟨rfl, rfl⟩, (pt_all a b).2.1]; exact hb'
    · rw [(hp_all a b).2.2] at hb; cases hb
  · rw [hd_rec, if_neg (by omega)]
    rw [hp_rec hm x y z g hg] at hb
    rcases (show g = 0 ∨ g = 1 ∨ g = 2 by omega) with rfl | rfl | rfl
    · rw [(pt_rec hm x y z).1]; exact okl_on h0 (bit_iff.mp hb)
    · rw [(pt_rec hm x y z).2.1]; exact okl_on h1 (bit_iff.mp hb)
    · rw [(pt_rec hm x y z).2.2]; exact okl_on h2 (bit_iff.mp hb)
theorem part_len {D : Nat} {t : Ty} (h : ok D t = true) {g : Nat} (hg : g < 3) : (hp t g = true → 1 ≤ (flat (pt t g)).length) ∧ (¬ hp t g = true → (flat (pt t g)).length = 0) :=
  ⟨fun hb => flat_pos (ok_part h hg hb), fun hb => by rw [pt_none h hg hb]; rfl⟩
/-- every place of a type but its first lies in a part -/
theorem part_of {D : Nat} {t : Ty} (h : ok D t = true) {a j : Nat} (h1 : a < j) (h2 : j < a + (flat t).length) : ∃ g, g < 3 ∧ hp t g = true ∧ a + 1 + off t g ≤ j ∧ j < a + 1 + off t g + (flat (pt t g)).length := by
  have hl := len_pts h
  have ne : ∀ g, g < 3 → 1 ≤ (flat (pt t g)).length → hp t g = true := fun g hg hh => by
    by_cases hb : hp t g = true
    · exact hb
    · have := (part_len h hg).2 hb
      omega
  have o0 : off t 0 = 0 := rfl
  have o1 : off t 1 = (flat (pt t 0)).length := rfl
  have o2 : off t 2 = (flat (pt t 0)).length + (flat (pt t 1)).length := rfl
  by_cases c0 : j < a + 1 + (flat (pt t 0)).length
  · exact ⟨0, by decide, ne 0 (by decide) (by omega), by omega, by omega⟩
  by_cases c1 : j < a + 1 + (flat (pt t 0)).length + (flat (pt t 1)).length
  · exact ⟨1, by decide, ne 1 (by decide) (by omega), by omega, by omega⟩
  · exact ⟨2, by decide, ne 2 (by decide) (by omega), by omega, by omega⟩
theorem off_le {D : Nat} {t : Ty} (h : ok D t = true) {g : Nat} (hg : g < 3) : 1 + off t g + (flat (pt t g)).length ≤ (flat t).length := by
  have hl := len_pts h
  have o0 : off t 0 = 0 := rfl
  have o1 : off t 1 = (flat (pt t 0)).length := rfl
  have o2 : off t 2 = (flat (pt t 0)).length + (flat (pt t 1)).length := rfl
  rcases (show g = 0 ∨ g = 1 ∨ g = 2 by omega) with rfl | rfl | rfl <;> omega
section PmW
variable {en ce : Nat → Nat}
theorem At_in : ∀ (f D : Nat) (t : Ty) (a : Nat), ok D t = true → (flat t).length ≤ f → At en ce f t a → ∀ j, a ≤ j → j < a + (flat t).length → j < en j ∧ en j ≤ a + (flat t).length
  | 0, D, t, a, h, hf, _, j, _, _ => by have := flat_pos h; omega
  | f + 1, D, t, a, h, hf, H, j, h1, h2 => by
    obtain ⟨-, e2, hp'⟩ := H
    by_cases e : j = a
    · subst e; omega
    · obtain ⟨g, hg, hb, q1, q2⟩ := part_of h (show a < j by omega) h2
      have ol := off_le h hg
      have := At_in f _ (pt t g) (a + 1 + off t g) (ok_part h hg hb) (by omega) (hp' g hg hb) j q1 q2
      omega
/-- the parent's place -/
def par (en : Nat → Nat) (p : Nat) : Nat → Nat
  | 0 => 0
  | k + 1 => if p < en (k + 1) then k + 1 else par en p k
/-- how many parts stand before -/
def whc (en : Nat → Nat) (p : Nat) : Nat → Nat → Nat
  | 0, _ => 0
  | f + 1, j => if j < p then 1 + whc en p f (en j) else 0
def sel (c w : Nat) : Nat → Nat → Nat → List Int
  | 0, _, _ => []
  | r + 1, k, seen => if bit c k = true then (if seen = w then (if 0 < w then [44] else []) ++ [120 + (k : Int)] else []) ++ sel c w r (k + 1) (seen + 1) else sel c w r (k + 1) seen
def bfr (en ce : Nat → Nat) (p : Nat) : List Int := if ce (par en p (p - 1)) < 8 then (if whc en p 16 (par en p (p - 1) + 1) = 1 then [62] else []) else sel (ce (par en p (p - 1))) (whc en p 16 (par en p (p - 1) + 1)) 3 0 0
def c1 (en ce : Nat → Nat) (p i : Nat) : List Int := if en i = p + 1 then wend (ce i) else []
/-- what is closed behind p, of the places from a on, k of them -/
def clr (en ce : Nat → Nat) (p : Nat) : Nat → Nat → List Int
  | 0, _ => []
  | k + 1, a => c1 en ce p (a + k) ++ clr en ce p k a
/-- schemes of the places from a on, k of them, in whose body p stands -/
def bas (en ce : Nat → Nat) (p a : Nat) : Nat → Nat
  | 0 => 0
  | k + 1 => bas en ce p a k + (if ce (a + k) = 2 ∧ en (a + k + 1) ≤ p ∧ p < en (a + k) then 1 else 0)
def outp (en ce : Nat → Nat) (a p : Nat) : List Int := (if p = a then [] else bfr en ce p) ++ (wh (bas en ce p 0 p) (ce p) ++ clr en ce p (p + 1 - a) a)
def outr (en ce : Nat → Nat) (a b : Nat) : Nat → List Int
  | 0 => []
  | k + 1 => outr en ce a b k ++ outp en ce a (b + k)
theorem clr_add (p m a : Nat) : ∀ k, clr en ce p (m + k) a = clr en ce p k (a + m) ++ clr en ce p m a
  | 0 => rfl
  | k + 1 => by
    show c1 en ce p (a + (m + k)) ++ clr en ce p (m + k) a = c1 en ce p (a + m + k) ++ clr en ce p k (a + m) ++ clr en ce p m a
    rw [clr_add p m a k, List.append_assoc, show a + (m + k) = a + m + k by omega]
theorem clr_nil (p a : Nat) : ∀ k, (∀ i, a ≤ i → i < a + k → en i ≠ p + 1) → clr en ce p k a = []
  | 0, _ => rfl
  | k + 1, h => by
    show c1 en ce p (a + k) ++ clr en ce p k a = []
    rw [clr_nil p a k (fun i h1 h2 => h i h1 (by omega))]
    unfold c1
    rw [if_neg (h (a + k) (by omega) (by omega))]; rfl
theorem outr_add (a b k : Nat) : ∀ m, outr en ce a b (k + m) = outr en ce a b k ++ outr en ce a (b + k) m
  | 0 => by show outr en ce a b k = outr en ce a b k ++ []; rw [List.append_nil]
  | m + 1 => by
    show outr en ce a b (k + m) ++ outp en ce a (b + (k + m)) = outr en ce a b k ++ (outr en ce a (b + k) m ++ outp en ce a (b + k + m))
    rw [outr_add a b k m, List.append_assoc, show b + (k + m) = b + k + m by omega]
theorem bas_add (p a m : Nat) : ∀ k, bas en ce p a (m + k) = bas en ce p a m + bas en ce p (a + m) k
  | 0 => rfl
  | k + 1 => by
    show bas en ce p a (m + k) + (if ce (a + (m + k)) = 2 ∧ en (a + (m + k) + 1) ≤ p ∧ p < en (a + (m + k)) then 1 else 0) = bas en ce p a m + (bas en ce p (a + m) k + (if ce (a + m + k) = 2 ∧ en (a + m + k + 1) ≤ p ∧ p < en (a + m + k) then 1 else 0))
    rw [bas_add p a m k, show a + (m + k) = a + m + k by omega, Nat.add_assoc]
theorem bas_zero (p a : Nat) : ∀ k, (∀ i, a ≤ i → i < a + k → en i ≤ p) → bas en ce p a k = 0
  | 0, _ => rfl
  | k + 1, h => by
    show bas en ce p a k + _ = 0
    rw [bas_zero p a k (fun i h1 h2 => h i h1 (by omega)), if_neg (fun e => by have := h (a + k) (by omega) (by omega); omega)]
theorem bas_same {p q : Nat} (a : Nat) : ∀ k, (∀ i, a ≤ i → i < a + k → (ce i = 2 ∧ en (i + 1) ≤ p ∧ p < en i ↔ ce i = 2 ∧ en (i + 1) ≤ q ∧ q < en i)) → bas en ce p a k = bas en ce q a k
  | 0, _ => rfl
  | k + 1, h => by
    show bas en ce p a k + _ = bas en ce q a k + _
    rw [bas_same a k (fun i h1 h2 => h i h1 (by omega))]
    have e := h (a + k) (by omega) (by omega)
    by_cases c : ce (a + k) = 2 ∧ en (a + k + 1) ≤ p ∧ p < en (a + k)
    · rw [if_pos c, if_pos (e.mp c)]
    · rw [if_neg c, if_neg (fun x => c (e.mpr x))]
theorem par_is {p a : Nat} (ha : p < en a) : ∀ k, a ≤ k → (∀ j, a < j → j ≤ k → en j ≤ p) → par en p k = a
  | 0, h, _ => by
    show 0 = a
    omega
  | k + 1, h, hj => by
    show (if p < en (k + 1) then k + 1 else par en p k) = a
    by_cases e : a = k + 1
    · subst e; rw [if_pos ha]
    · rw [if_neg (by have := hj (k + 1) (by omega) (by omega); omega)]
      exact par_is ha k (by omega) (fun j h1 h2 => hj j h1 (by omega))
end PmW
theorem sel_rec : ∀ m, m < 8 → ∀ g, g < 3 → bit m g = true → sel (8 + m) ((if bit m 0 = true ∧ 0 < g then 1 else 0) + (if bit m 1 = true ∧ 1 < g then 1 else 0)) 3 0 0 = wsep (8 + m) g := by decide
section PmW2
variable {en ce : Nat → Nat}
/-- what stands before a part -/
theorem bfr_part {f D : Nat} {t : Ty} {a g : Nat} (h : ok D t = true) (hf : (flat t).length ≤ f + 1) (hf16 : (flat t).length ≤ 16) (H : At en ce (f + 1) t a) (hg : g < 3) (hb : hp t g = true) : bfr en ce (a + 1 + off t g) = wsep (hd t) g := by
  obtain ⟨e1, e2, hp'⟩ := H
  have hl := len_pts h
  have ol := off_le h hg
  have pl := (part_len h hg).1 hb
  have o0 : off t 0 = 0 := rfl
  have o1 : off t 1 = (flat (pt t 0)).length := rfl
  have o2 : off t 2 = (flat (pt t 0)).length + (flat (pt t 1)).length := rfl
  have before : ∀ j, a < j → j ≤ a + 1 + off t g - 1 → en j ≤ a + 1 + off t g := by
    intro j h1 h2
    obtain ⟨g', hg', hb', q1, q2⟩ := part_of h h1 (show j < a + (flat t).length by omega)
    have ol' := off_le h hg'
    have := At_in f _ (pt t g') (a + 1 + off t g') (ok_part h hg' hb') (by omega) (hp' g' hg' hb') j q1 q2
    have : off t g' + (flat (pt t g')).length ≤ off t g := by
      rcases (show g = 0 ∨ g = 1 ∨ g = 2 by omega) with rfl | rfl | rfl <;> rcases (show g' = 0 ∨ g' = 1 ∨ g' = 2 by omega) with rfl | rfl | rfl <;> omega
    omega
  have hpar : par en (a + 1 + off t g) (a + 1 + off t g - 1) = a := par_is (by omega) _ (by omega) before
  -- ends of the parts
  have ends : ∀ g', g' < 3 → hp t g' = true → en (a + 1 + off t g') = a + 1 + off t g' + (flat (pt t g')).length := by
    intro g' hg' hb'
    have ol' := off_le h hg'
    have pl' := (part_len h hg').1 hb'
    match f, hp' g' hg' hb', hf with
    | 0, _, hf => omega
    | f + 1, q, _ => exact q.2.1
  have w0 : ∀ k, whc en (a + 1 + off t g) (k + 3) (a + 1) = (if hp t 0 = true ∧ 0 < g then 1 else 0) + (if hp t 1 = true ∧ 1 < g then 1 else 0) := by
    intro k
    have stop : ∀ k j, a + 1 + off t g ≤ j → whc en (a + 1 + off t g) (k + 1) j = 0 := fun k j hj => if_neg (by omega)
    have next : ∀ k j, j < a + 1 + off t g → whc en (a + 1 + off t g) (k + 1) j = 1 + whc en (a + 1 + off t g) k (en j) := fun k j hj => if_pos hj
    have z : ∀ g', g' < 3 → ¬ hp t g' = true → (flat (pt t g')).length = 0 := fun g' hg' hb' => (part_len h hg').2 hb'
    rcases (show g = 0 ∨ g = 1 ∨ g = 2 by omega) with rfl | rfl | rfl
    · rw [stop (k + 2) (a + 1) (by omega), if_neg (by omega), if_neg (by omega)]
    · rw [if_neg (show ¬ (hp t 1 = true ∧ 1 < 1) by omega)]
      by_cases b0 : hp t 0 = true
      · have p0 := (part_len h (show 0 < 3 by decide)).1 b0
        have e0 := ends 0 (by decide) b0
        rw [o0, Nat.add_zero] at e0
        rw [next (k + 2) (a + 1) (by omega), e0, stop (k + 1) _ (by omega), if_pos ⟨b0, by decide⟩]
      · have := z 0 (by decide) b0
        rw [stop (k + 2) (a + 1) (by omega), if_neg (fun e => b0 e.1)]
    · by_cases b0 : hp t 0 = true
      · have p0 := (part_len h (show 0 < 3 by decide)).1 b0
        have e0 := ends 0 (by decide) b0
        rw [o0, Nat.add_zero] at e0
        rw [next (k + 2) (a + 1) (by omega), e0, if_pos ⟨b0, by decide⟩]
        by_cases b1 : hp t 1 = true
        · have p1 := (part_len h (show 1 < 3 by decide)).1 b1
          have e1' := ends 1 (by decide) b1
          rw [o1] at e1'
          rw [next (k + 1) _ (by omega), e1', stop k _ (by omega), if_pos ⟨b1, by decide⟩]
        · have := z 1 (by decide) b1
          rw [stop (k + 1) _ (by omega), if_neg (fun e => b1 e.1)]
      · have z0 := z 0 (by decide) b0
        rw [if_neg (fun e => b0 e.1)]
        by_cases b1 : hp t 1 = true
        · have p1 := (part_len h (show 1 < 3 by decide)).1 b1
          have e1' := ends 1 (by decide) b1
          rw [o1, z0, Nat.add_zero] at e1'
          rw [next (k + 2) _ (by omega), e1', stop (k + 1) _ (by omega), if_pos ⟨b1, by decide⟩]
        · have := z 1 (by decide) b1
          rw [stop (k + 2) _ (by omega), if_neg (fun e => b1 e.1)]
  unfold bfr
  rw [hpar, e1, w0 13]
  rcases ok_cases h with rfl | ⟨k, -, rfl⟩ | ⟨x, y, rfl, -, -⟩ | ⟨x, y, rfl, -, -⟩ | ⟨m, x, y, z, hm, rfl, -, -, -⟩
  · rw [hp_top g hg] at hb; cases hb
  · rw [hp_var k g hg] at hb; cases hb
  · rw [hd_fun, if_pos (by decide)]
    rcases (show g = 0 ∨ g = 1 ∨ g = 2 by omega) with rfl | rfl | rfl
    · rw [if_neg (show ¬ (hp (tFun x y) 0 = true ∧ 0 < 0) by omega), if_neg (show ¬ (hp (tFun x y) 1 = true ∧ 1 < 0) by omega)]; rfl
    · rw [if_pos (show hp (tFun x y) 0 = true ∧ 0 < 1 from ⟨(hp_fun x y).1, by decide⟩), if_neg (show ¬ (hp (tFun x y) 1 = true ∧ 1 < 1) by omega)]; rfl
    · rw [(hp_fun x y).2.2] at hb; cases hb
  · rw [hd_all, if_pos (by decide)]
    rcases (show g = 0 ∨ g = 1 ∨ g = 2 by omega) with rfl | rfl | rfl
    · rw [if_neg (show ¬ (hp (tAll x y) 0 = true ∧ 0 < 0) by omega), if_neg (show ¬ (hp (tAll x y) 1 = true ∧ 1 < 0) by omega)]; rfl
    · rw [if_pos (show hp (tAll x y) 0 = true ∧ 0 < 1 from ⟨(hp_all x y).1, by decide⟩), if_neg (show ¬ (hp (tAll x y) 1 = true ∧ 1 < 1) by omega)]; rfl
    · rw [(hp_all x y).2.2] at hb; cases hb
  · have hq := hp_rec hm x y z
    rw [hq g hg] at hb
    rw [hd_rec, if_neg (by omega), hq 0 (by decide), hq 1 (by decide)]
    exact sel_rec m hm g hg hb
/-- the model's walk over a type's places puts its text -/
theorem out_is : ∀ (f D : Nat) (t : Ty) (a : Nat), ok D t = true → (flat t).length ≤ f → (flat t).length ≤ 16 → At en ce f t a → (∀ i, i < a → en i ≤ a ∨ a + (flat t).length ≤ en i) → outr en ce a a (flat t).length = wrf f (bas en ce a 0 a) t
  | 0, D, t, a, h, hf, _, _, _ => by have := flat_pos h; omega
  | f + 1, D, t, a, h, hf, hf16, H, HB => by
    have H0 := H
    obtain ⟨e1, e2, hp'⟩ := H
    have hl := len_pts h
    have inn := At_in (f + 1) D t a h hf H0
    have o0 : off t 0 = 0 := rfl
    have o1 : off t 1 = (flat (pt t 0)).length := rfl
    have o2 : off t 2 = (flat (pt t 0)).length + (flat (pt t 1)).length := rfl
    -- earlier parts end before a later one begins
    have before : ∀ g, g < 3 → ∀ j, a < j → j < a + 1 + off t g → en j ≤ a + 1 + off t g := by
      intro g hg j h1 h2
      have ol := off_le h hg
      obtain ⟨g', hg', hb', q1, q2⟩ := part_of h h1 (show j < a + (flat t).length by omega)
      have ol' := off_le h hg'
      have := At_in f _ (pt t g') (a + 1 + off t g') (ok_part h hg' hb') (by omega) (hp' g' hg' hb') j q1 q2
      have : off t g' + (flat (pt t g')).length ≤ off t g := by
        rcases (show g = 0 ∨ g = 1 ∨ g = 2 by omega) with rfl | rfl | rfl <;> rcases (show g' = 0 ∨ g' = 1 ∨ g' = 2 by omega) with rfl | rfl | rfl <;> omega
      omega
    -- one part
    have one : ∀ g, g < 3 → outr en ce a (a + 1 + off t g) (flat (pt t g)).length = (if hp t g = true then wsep (hd t) g ++ wrf f (if hd t = 2 ∧ g = 1 then bas en ce a 0 a + 1 else bas en ce a 0 a) (pt t g) else []) ++ (if hp t g = true ∧ 1 + off t g + (flat (pt t g)).length = (flat t).length then wend (hd t) else []) := by
      intro g hg
      by_cases hb : hp t g = true
      · rw [if_pos hb]
        have ol := off_le h hg
        have pl := (part_len h hg).1 hb
        have okg := ok_part h hg hb
        have Hg := hp' g hg hb
        have bf := bfr_part h hf hf16 H0 hg hb
        -- schemes around the part
        have hba : bas en ce (a + 1 + off t g) 0 (a + 1 + off t g) = (if hd t = 2 ∧ g = 1 then bas en ce a 0 a + 1 else bas en ce a 0 a) := by
          rw [show bas en ce (a + 1 + off t g) 0 (a + 1 + off t g) = bas en ce (a + 1 + off t g) 0 (a + (1 + off t g)) by rw [show a + (1 + off t g) = a + 1 + off t g by omega], bas_add, Nat.zero_add, bas_add, bas_zero (a + 1 + off t g) (a + 1) (off t g) (fun i h1 h2 => before g hg i (by omega) (by omega)), Nat.add_zero]
          rw [bas_same (p := a + 1 + off t g) (q := a) 0 a (fun i _ hi => ?_)]
          · show bas en ce a 0 a + (0 + (if ce a = 2 ∧ en (a + 1) ≤ a + 1 + off t g ∧ a + 1 + off t g < en a then 1 else 0)) = _
            rw [Nat.zero_add, e1, e2]
            by_cases h2 : hd t = 2
            · obtain ⟨x, y, rfl, ox, oy⟩ := hd_is_all h h2
              have fx : 1 ≤ (flat (pt (tAll x y) 0)).length := (part_len h (show 0 < 3 by decide)).1 (hp_all x y).1
              have q0 := hp' 0 (by decide) (hp_all x y).1
              have en1 : en (a + 1) = a + 1 + (flat (pt (tAll x y) 0)).length := by
                have ol0 := off_le h (show 0 < 3 by decide)
                match f, q0, hf with
                | 0, _, hf => omega
                | f + 1, q, _ => rw [o0, Nat.add_zero] at q; exact q.2.1
              rw [en1]
              rcases (show g = 0 ∨ g = 1 ∨ g = 2 by omega) with rfl | rfl | rfl
              · rw [if_neg (by omega), if_neg (by omega), Nat.add_zero]
              · rw [if_pos ⟨h2, by omega, by omega⟩, if_pos ⟨h2, rfl⟩]
              · rw [(hp_all x y).2.2] at hb; cases hb
            · rw [if_neg (fun e => h2 e.1), if_neg (fun e => h2 e.1), Nat.add_zero]
          · have hi : i < a := by omega
            have q := HB i hi
            have q' : en (i + 1) ≤ a ∨ a + (flat t).length ≤ en (i + 1) := by
              by_cases e : i + 1 = a
              · rw [e, e2]; omega
              · exact HB (i + 1) (by omega)
            omega
        have HBg : ∀ i, i < a + 1 + off t g → en i ≤ a + 1 + off t g ∨ a + 1 + off t g + (flat (pt t g)).length ≤ en i := by
          intro i hi
          by_cases c : i < a
          · have := HB i c; omega
          · by_cases c' : i = a
            · subst c'; omega
            · exact Or.inl (before g hg i (by omega) hi)
        have IH := out_is f _ (pt t g) (a + 1 + off t g) okg (by omega) (by omega) Hg HBg
        rw [hba] at IH
        -- closings of the earlier places
        have cl : ∀ p, a + 1 + off t g ≤ p → p < a + 1 + off t g + (flat (pt t g)).length → clr en ce p (p + 1 - a) a = clr en ce p (p + 1 - (a + 1 + off t g)) (a + 1 + off t g) ++ (if p + 1 = a + (flat t).length then wend (hd t) else []) := by
          intro p h1 h2
          rw [show p + 1 - a = (1 + off t g) + (p + 1 - (a + 1 + off t g)) by omega, clr_add, show a + (1 + off t g) = a + 1 + off t g by omega, clr_add]
          rw [clr_nil p (a + 1) (off t g) (fun i q1 q2 => by have := before g hg i (by omega) (by omega); omega), List.nil_append]
          show _ ++ (c1 en ce p a ++ []) = _
          rw [List.append_nil]
          unfold c1
          rw [e1, e2]
          by_cases c : a + (flat t).length = p + 1
          · rw [if_pos c, if_pos c.symm]
          · rw [if_neg c, if_neg (fun e => c e.symm)]
        have step : ∀ k, k < (flat (pt t g)).length → outr en ce a (a + 1 + off t g) (k + 1) = wsep (hd t) g ++ (outr en ce (a + 1 + off t g) (a + 1 + off t g) (k + 1) ++ (if a + 1 + off t g + k + 1 = a + (flat t).length then wend (hd t) else [])) := by
          intro k
          induction k with
          | zero =>
            intro hk
            show [] ++ outp en ce a (a + 1 + off t g + 0) = wsep (hd t) g ++ ([] ++ outp en ce (a + 1 + off t g) (a + 1 + off t g + 0) ++ _)
            rw [List.nil_append, List.nil_append, Nat.add_zero]
            unfold outp
            rw [if_neg (show ¬ a + 1 + off t g = a by omega), if_pos rfl, bf, cl _ (by omega) (by omega), List.nil_append]
            simp only [List.append_assoc]
          | succ k ih =>
            intro hk
            show outr en ce a (a + 1 + off t g) (k + 1) ++ outp en ce a (a + 1 + off t g + (k + 1)) = wsep (hd t) g ++ ((outr en ce (a + 1 + off t g) (a + 1 + off t g) (k + 1) ++ outp en ce (a + 1 + off t g) (a + 1 + off t g + (k + 1))) ++ _)
            rw [ih (by omega), if_neg (show ¬ a + 1 + off t g + k + 1 = a + (flat t).length by omega), List.append_nil]
            unfold outp
            rw [if_neg (show ¬ a + 1 + off t g + (k + 1) = a by omega), if_neg (show ¬ a + 1 + off t g + (k + 1) = a + 1 + off t g by omega), cl _ (by omega) (by omega)]
            simp only [List.append_assoc]
        have fin := step ((flat (pt t g)).length - 1) (by omega)
        rw [show (flat (pt t g)).length - 1 + 1 = (flat (pt t g)).length by omega, IH] at fin
        rw [fin, List.append_assoc]
        by_cases c : 1 + off t g + (flat (pt t g)).length = (flat t).length
        · rw [if_pos (show a + 1 + off t g + ((flat (pt t g)).length - 1) + 1 = a + (flat t).length by omega), if_pos (show hp t g = true ∧ 1 + off t g + (flat (pt t g)).length = (flat t).length from ⟨hb, c⟩)]
        · rw [if_neg (show ¬ a + 1 + off t g + ((flat (pt t g)).length - 1) + 1 = a + (flat t).length by omega), if_neg (show ¬ (hp t g = true ∧ 1 + off t g + (flat (pt t g)).length = (flat t).length) from fun e => c e.2)]
      · rw [(part_len h hg).2 hb, if_neg hb, if_neg (fun e => hb e.1)]; rfl
    have s0 := one 0 (by decide)
    have s1 := one 1 (by decide)
    have s2 := one 2 (by decide)
    have z : ∀ g', g' < 3 → ¬ hp t g' = true → (flat (pt t g')).length = 0 := fun g' hg' hb' => (part_len h hg').2 hb'
    have ps : ∀ g', g' < 3 → hp t g' = true → 1 ≤ (flat (pt t g')).length := fun g' hg' hb' => (part_len h hg').1 hb'
    rw [o0, Nat.add_zero, show 1 + 0 + (flat (pt t 0)).length = 1 + (flat (pt t 0)).length by omega] at s0
    rw [o1] at s1
    rw [o2] at s2
    rw [show outr en ce a a (flat t).length = outr en ce a a (1 + (flat (pt t 0)).length + (flat (pt t 1)).length + (flat (pt t 2)).length) by rw [hl], outr_add, outr_add, outr_add]
    rw [show a + (1 + (flat (pt t 0)).length + (flat (pt t 1)).length) = a + 1 + ((flat (pt t 0)).length + (flat (pt t 1)).length) by omega, show a + (1 + (flat (pt t 0)).length) = a + 1 + (flat (pt t 0)).length by omega, s0, s1, s2]
    show ([] ++ outp en ce a (a + 0)) ++ _ ++ _ ++ _ = wh (bas en ce a 0 a) (hd t) ++ (wpu (wrf f) (bas en ce a 0 a) t 3 ++ wend (hd t))
    rw [List.nil_append, Nat.add_zero]
    unfold outp
    rw [if_pos rfl, List.nil_append, e1, show a + 1 - a = 1 by omega]
    show wh (bas en ce a 0 a) (hd t) ++ (c1 en ce a a ++ []) ++ _ ++ _ ++ _ = _
    rw [List.append_nil]
    unfold c1
    rw [e1, e2]
    simp only [wpu, List.nil_append]
    by_cases b2 : hp t 2 = true
    · have l2 := ps 2 (by decide) b2
      rw [if_neg (show ¬ a + (flat t).length = a + 1 by omega), if_neg (show ¬ (hp t 0 = true ∧ 1 + (flat (pt t 0)).length = (flat t).length) by omega), if_neg (show ¬ (hp t 1 = true ∧ 1 + (flat (pt t 0)).length + (flat (pt t 1)).length = (flat t).length) by omega), if_pos (show hp t 2 = true ∧ 1 + ((flat (pt t 0)).length + (flat (pt t 1)).length) + (flat (pt t 2)).length = (flat t).length from ⟨b2, by omega⟩)]
      simp only [List.append_assoc, List.append_nil, List.nil_append]
    · have l2 := z 2 (by decide) b2
      rw [if_neg (show ¬ (hp t 2 = true ∧ 1 + ((flat (pt t 0)).length + (flat (pt t 1)).length) + (flat (pt t 2)).length = (flat t).length) from fun e => b2 e.1), if_neg b2]
      by_cases b1 : hp t 1 = true
      · have l1 := ps 1 (by decide) b1
        rw [if_neg (show ¬ a + (flat t).length = a + 1 by omega), if_neg (show ¬ (hp t 0 = true ∧ 1 + (flat (pt t 0)).length = (flat t).length) by omega), if_pos (show hp t 1 = true ∧ 1 + (flat (pt t 0)).length + (flat (pt t 1)).length = (flat t).length from ⟨b1, by omega⟩)]
        simp only [List.append_assoc, List.append_nil, List.nil_append]
      · have l1 := z 1 (by decide) b1
        rw [if_neg (show ¬ (hp t 1 = true ∧ 1 + (flat (pt t 0)).length + (flat (pt t 1)).length = (flat t).length) from fun e => b1 e.1), if_neg b1]
        by_cases b0 : hp t 0 = true
        · have l0 := ps 0 (by decide) b0
          rw [if_neg (show ¬ a + (flat t).length = a + 1 by omega), if_pos (show hp t 0 = true ∧ 1 + (flat (pt t 0)).length = (flat t).length from ⟨b0, by omega⟩)]
          simp only [List.append_assoc, List.append_nil, List.nil_append]
        · have l0 := z 0 (by decide) b0
          rw [if_pos (show a + (flat t).length = a + 1 by omega), if_neg (show ¬ (hp t 0 = true ∧ 1 + (flat (pt t 0)).length = (flat t).length) from fun e => b0 e.1), if_neg b0]
          simp only [List.append_assoc, List.append_nil, List.nil_append]
end PmW2
