/-! EXACT FORMS: how often each variable counts in what a type is worth. -/
def sms : Nat → (Nat → Nat) → Nat
  | 0, _ => 0
  | d + 1, g => sms d g + g d
theorem sms_le {g k : Nat → Nat} : ∀ {d : Nat}, (∀ j, j < d → g j ≤ k j) → sms d g ≤ sms d k
  | 0, _ => Nat.le_refl _
  | d + 1, h => by
    have h1 := sms_le (d := d) (fun j hj => h j (by omega))
    have h2 := h d (by omega)
    show sms d g + g d ≤ sms d k + k d
    omega
theorem sms_add (g k : Nat → Nat) : ∀ d : Nat, sms d (fun j => g j + k j) = sms d g + sms d k
  | 0 => rfl
  | d + 1 => by
    show sms d (fun j => g j + k j) + (g d + k d) = sms d g + g d + (sms d k + k d)
    rw [sms_add g k d]; omega
theorem sms_mul (u : Nat) (g : Nat → Nat) : ∀ d : Nat, sms d (fun j => u * g j) = u * sms d g
  | 0 => rfl
  | d + 1 => by
    show sms d (fun j => u * g j) + u * g d = u * (sms d g + g d)
    rw [sms_mul u g d, Nat.mul_add]
theorem sms_at {g : Nat → Nat} : ∀ {d j : Nat}, j < d → g j ≤ sms d g
  | d + 1, j, hj => by
    show g j ≤ sms d g + g d
    by_cases e : j = d
    · rw [e]; omega
    · have := sms_at (g := g) (d := d) (j := j) (by omega)
      omega
theorem sms_one (k : Nat) : ∀ d : Nat, sms d (fun j => if k = j then 1 else 0) ≤ 1 ∧ (d ≤ k → sms d (fun j => if k = j then 1 else 0) = 0)
  | 0 => ⟨Nat.zero_le _, fun _ => rfl⟩
  | d + 1 => by
    obtain ⟨h1, h2⟩ := sms_one k d
    refine ⟨?_, fun hk => ?_⟩
    · show sms d (fun j => if k = j then 1 else 0) + (if k = d then 1 else 0) ≤ 1
      by_cases e : k = d
      · rw [h2 (by omega), if_pos e]; exact Nat.le_refl _
      · rw [if_neg e]; omega
    · show sms d (fun j => if k = j then 1 else 0) + (if k = d then 1 else 0) = 0
      rw [h2 (by omega), if_neg (by omega)]
theorem sms_zero : ∀ d : Nat, sms d (fun _ => 0) = 0
  | 0 => rfl
  | d + 1 => by
    show sms d (fun _ => 0) + 0 = 0
    rw [sms_zero d]
/-- how often the variable of level j counts, d variables around -/
def xf : Nat → Nat → Ty → Nat
  | d, j, .tag c (.append s t) => if c = 2 then xf (d + 1) j t + xf (d + 1) d t * xf d j s else xf d j s + xf d j t
  | _, j, .tag c .nil => if c = 16 + j then 1 else 0
  | d, j, .append s t => xf d j s + xf d j t
  | _, _, _ => 0
/-- what counts besides -/
def xa (t0 : Nat) (n1 : Nat → Nat) (s2 hv : Nat) : Nat → Ty → Nat
  | d, .tag c (.append s t) => if c = 2 then s2 + xa t0 n1 s2 hv (d + 1) t + xf (d + 1) d t * (hv + max 1 (xa t0 n1 s2 hv d s)) else n1 c + (xa t0 n1 s2 hv d s + xa t0 n1 s2 hv d t)
  | _, .tag c .nil => if 16 ≤ c then 0 else t0
  | d, .append s t => xa t0 n1 s2 hv d s + xa t0 n1 s2 hv d t
  | _, _ => 0
/-- all variables together -/
def xt (d : Nat) (t : Ty) : Nat := sms d (fun j => xf d j t)
section PmVa
variable {t0 s2 hv : Nat} {n1 h : Nat → Nat}
theorem xf_top (d j : Nat) : xf d j tTop = 0 := by
  simp [tTop, xf]
  try omega
theorem xf_var (d j k : Nat) : xf d j (tVar k) = if k = j then 1 else 0 := by
  simp [tVar, xf]
theorem xf_nil (d j : Nat) : xf d j .nil = 0 := by simp [xf]
theorem xf_fun (d j : Nat) (a b : Ty) : xf d j (tFun a b) = xf d j a + xf d j b := by simp [tFun, xf]
theorem xf_all (d j : Nat) (a b : Ty) : xf d j (tAll a b) = xf (d + 1) j b + xf (d + 1) d b * xf d j a := by simp [tAll, xf]
theorem xf_rec (d j : Nat) {m : Nat} (x y z : Ty) : xf d j (tRec m x y z) = xf d j x + (xf d j y + xf d j z) := by
  unfold tRec
  rw [xf, if_neg (by omega), xf]
theorem xa_top (d : Nat) : xa t0 n1 s2 hv d tTop = t0 := by simp [tTop, xa]
theorem xa_var (d k : Nat) : xa t0 n1 s2 hv d (tVar k) = 0 := by simp [tVar, xa]
theorem xa_nil (d : Nat) : xa t0 n1 s2 hv d .nil = 0 := by simp [xa]
theorem xa_fun (d : Nat) (a b : Ty) : xa t0 n1 s2 hv d (tFun a b) = n1 1 + (xa t0 n1 s2 hv d a + xa t0 n1 s2 hv d b) := by simp [tFun, xa]
theorem xa_all (d : Nat) (a b : Ty) : xa t0 n1 s2 hv d (tAll a b) = s2 + xa t0 n1 s2 hv (d + 1) b + xf (d + 1) d b * (hv + max 1 (xa t0 n1 s2 hv d a)) := by simp [tAll, xa]
theorem xa_rec (d : Nat) {m : Nat} (x y z : Ty) : xa t0 n1 s2 hv d (tRec m x y z) = n1 (8 + m) + (xa t0 n1 s2 hv d x + (xa t0 n1 s2 hv d y + xa t0 n1 s2 hv d z)) := by
  unfold tRec
  rw [xa, if_neg (by omega), xa]
theorem xt_top (d : Nat) : xt d tTop = 0 := by
  unfold xt
  rw [show (fun j => xf d j tTop) = fun _ => 0 from funext (fun j => xf_top d j), sms_zero]
theorem xt_var (d k : Nat) : xt d (tVar k) ≤ 1 := by
  unfold xt
  rw [show (fun j => xf d j (tVar k)) = fun j => if k = j then 1 else 0 from funext (fun j => xf_var d j k)]
  exact (sms_one k d).1
theorem xt_nil (d : Nat) : xt d .nil = 0 := by
  unfold xt
  rw [show (fun j => xf d j .nil) = fun _ => 0 from funext (fun j => xf_nil d j), sms_zero]
theorem xt_fun (d : Nat) (a b : Ty) : xt d (tFun a b) = xt d a + xt d b := by
  unfold xt
  rw [show (fun j => xf d j (tFun a b)) = fun j => xf d j a + xf d j b from funext (fun j => xf_fun d j a b), sms_add]
theorem xt_rec (d : Nat) {m : Nat} (x y z : Ty) : xt d (tRec m x y z) = xt d x + (xt d y + xt d z) := by
  unfold xt
  rw [show (fun j => xf d j (tRec m x y z)) = fun j => xf d j x + (xf d j y + xf d j z) from funext (fun j => xf_rec d j x y z), sms_add, sms_add]
/-- the leaves of a body that are not the variable itself -/
def xo (d : Nat) (b : Ty) : Nat := sms d (fun j => xf (d + 1) j b)
theorem xt_all (d : Nat) (a b : Ty) : xt d (tAll a b) = xo d b + xf (d + 1) d b * xt d a := by
  unfold xt xo
  rw [show (fun j => xf d j (tAll a b)) = fun j => xf (d + 1) j b + xf (d + 1) d b * xf d j a from funext (fun j => xf_all d j a b), sms_add, sms_mul]
theorem xt_xo (d : Nat) (b : Ty) : xt (d + 1) b = xo d b + xf (d + 1) d b := rfl
/-- what a type is worth: each variable as often as it counts -/
theorem nz_aff (H : ∀ y, h y ≤ hv + max 1 y) : ∀ (f : Nat) (t : Ty) (ω : List Nat), (flat t).length ≤ f → ok ω.length t = true → nz t0 n1 s2 h ω t ≤ xa t0 n1 s2 hv ω.length t + sms ω.length (fun j => xf ω.length j t * vw ω j)
  | 0, t, ω, hf, o => by have := flat_pos o; omega
  | f + 1, t, ω, hf, o => by
    rcases ok_cases o with rfl | ⟨j, hj, rfl⟩ | ⟨a, c, rfl, ha, hb⟩ | ⟨a, c, rfl, ha, hb⟩ | ⟨m, x, y, z, hm, rfl, h0, h1, h2⟩
    · rw [nz_top, xa_top]; omega
    · have q := sms_at (g := fun i => xf ω.length i (tVar j) * vw ω i) hj
      rw [nz_var, xa_var]
      have e : xf ω.length j (tVar j) * vw ω j = vw ω j := by rw [xf_var, if_pos rfl, Nat.one_mul]
      have q : xf ω.length j (tVar j) * vw ω j ≤ sms ω.length (fun i => xf ω.length i (tVar j) * vw ω i) := q
      omega
    · rw [flat_fun, List.length_cons, List.length_append] at hf
      have q1 := nz_aff H f a ω (by omega) ha
      have q2 := nz_aff H f c ω (by omega) hb
      rw [nz_fun, xa_fun, show (fun j => xf ω.length j (tFun a c) * vw ω j) = fun j => xf ω.length j a * vw ω j + xf ω.length j c * vw ω j from funext (fun j => by rw [xf_fun, Nat.add_mul]), sms_add]
      omega
    · rw [flat_all, List.length_cons, List.length_append] at hf
      have q1 := nz_aff H f a ω (by omega) ha
      have hy := H (nz t0 n1 s2 h ω a)
      rw [nz_all, xa_all]
      generalize h (nz t0 n1 s2 h ω a) = v at *
      have q2 := nz_aff H f c (v :: ω) (by omega) (by rw [List.length_cons]; exact hb)
      rw [List.length_cons] at q2
      have e1 : sms (ω.length + 1) (fun j => xf (ω.length + 1) j c * vw (v :: ω) j) = sms ω.length (fun j => xf (ω.length + 1) j c * vw (v :: ω) j) + xf (ω.length + 1) ω.length c * v := by
        show _ + xf (ω.length + 1) ω.length c * vw (v :: ω) ω.length = _
        rw [vw_cons, if_pos rfl]
      have e2 : sms ω.length (fun j => xf (ω.length + 1) j c * vw (v :: ω) j) ≤ sms ω.length (fun j => xf (ω.length + 1) j c * vw ω j) := sms_le (fun j hj => by
        rw [vw_cons, if_neg (by omega)]
        exact Nat.le_refl _)
      have e3 : sms ω.length (fun j => xf ω.length j (tAll a c) * vw ω j) = sms ω.length (fun j => xf (ω.length + 1) j c * vw ω j) + xf (ω.length + 1) ω.length c * sms ω.length (fun j => xf ω.length j a * vw ω j) := by
        rw [show (fun j => xf ω.length j (tAll a c) * vw ω j) = fun j => xf (ω.length + 1) j c * vw ω j + xf (ω.length + 1) ω.length c * (xf ω.length j a * vw ω j) from funext (fun j => by rw [xf_all, Nat.add_mul, Nat.mul_assoc]), sms_add, sms_mul]
      rw [e3]
      have e4 : v ≤ (hv + max 1 (xa t0 n1 s2 hv ω.length a)) + sms ω.length (fun j => xf ω.length j a * vw ω j) := by omega
      have e5 := Nat.mul_le_mul_left (xf (ω.length + 1) ω.length c) e4
      rw [Nat.mul_add (xf (ω.length + 1) ω.length c) (hv + max 1 (xa t0 n1 s2 hv ω.length a))] at e5
      omega
    · rw [flat_rec, List.length_cons, List.length_append, List.length_append] at hf
      have key : ∀ (i : Nat) (p : Ty), (flat p).length ≤ f → okl ω.length m i p → nz t0 n1 s2 h ω p ≤ xa t0 n1 s2 hv ω.length p + sms ω.length (fun j => xf ω.length j p * vw ω j) := by
        intro i p hp ho
        unfold okl at ho
        by_cases hb : bit m i = true
        · rw [if_pos hb] at ho
          exact nz_aff H f p ω hp ho
        · rw [if_neg hb] at ho
          rw [ho, nz_nil]; exact Nat.zero_le _
      have q0 := key 0 x (by omega) h0
      have q1 := key 1 y (by omega) h1
      have q2 := key 2 z (by omega) h2
      rw [nz_rec, xa_rec, show (fun j => xf ω.length j (tRec m x y z) * vw ω j) = fun j => xf ω.length j x * vw ω j + (xf ω.length j y * vw ω j + xf ω.length j z * vw ω j) from funext (fun j => by rw [xf_rec, Nat.add_mul, Nat.add_mul]), sms_add, sms_add]
      omega
/-- all variables worth at most x -/
theorem nz_xt (H : ∀ y, h y ≤ hv + max 1 y) {t : Ty} {ω : List Nat} {x : Nat} (o : ok ω.length t = true) (hw : ∀ j, j < ω.length → vw ω j ≤ x) : nz t0 n1 s2 h ω t ≤ xa t0 n1 s2 hv ω.length t + xt ω.length t * x := by
  have q := nz_aff (t0 := t0) (n1 := n1) (s2 := s2) H _ t ω (Nat.le_refl _) o
  have q2 : sms ω.length (fun j => xf ω.length j t * vw ω j) ≤ sms ω.length (fun j => x * xf ω.length j t) := sms_le (fun j hj => by
    rw [Nat.mul_comm x]
    exact Nat.mul_le_mul_left _ (hw j hj))
  rw [sms_mul] at q2
  unfold xt
  rw [Nat.mul_comm _ x]
  omega
/-- the variable of a body worth z, the others at most x -/
theorem nz_xo (H : ∀ y, h y ≤ hv + max 1 y) {t : Ty} {ω : List Nat} {x z : Nat} (o : ok (ω.length + 1) t = true) (hw : ∀ j, j < ω.length → vw ω j ≤ x) : nz t0 n1 s2 h (z :: ω) t ≤ xa t0 n1 s2 hv (ω.length + 1) t + xo ω.length t * x + xf (ω.length + 1) ω.length t * z := by
  have q := nz_aff (t0 := t0) (n1 := n1) (s2 := s2) H _ t (z :: ω) (Nat.le_refl _) (by rw [List.length_cons]; exact o)
  rw [List.length_cons] at q
  have e1 : sms (ω.length + 1) (fun j => xf (ω.length + 1) j t * vw (z :: ω) j) = sms ω.length (fun j => xf (ω.length + 1) j t * vw (z :: ω) j) + xf (ω.length + 1) ω.length t * z := by
    show _ + xf (ω.length + 1) ω.length t * vw (z :: ω) ω.length = _
    rw [vw_cons, if_pos rfl]
  have q2 : sms ω.length (fun j => xf (ω.length + 1) j t * vw (z :: ω) j) ≤ sms ω.length (fun j => x * xf (ω.length + 1) j t) := sms_le (fun j hj => by
    rw [vw_cons, if_neg (by omega), Nat.mul_comm x]
    exact Nat.mul_le_mul_left _ (hw j hj))
  rw [sms_mul] at q2
  unfold xo
  rw [Nat.mul_comm _ x]
  omega
end PmVa
