/-! TASKS: what the model's tables say while one type is held against another. -/
/-- rows below u, contexts below x, tasks below k and all else are kept -/
def Ext (M N : pm_M) (u x k : Int) : Prop := ∀ (p : Nat) (i : Int), (p = 56 → i ≠ 22 ∧ i ≠ 24 ∧ i ≠ 34) → (p = 73 → i < 17 * u) → (p = 74 ∨ p = 75 ∨ p = 76 → i < x) → (p = 80 → i < 6 * k) → N p i = M p i
theorem Ext.refl (M : pm_M) (u x k : Int) : Ext M M u x k := fun _ _ _ _ _ _ => rfl
theorem Ext.trans {M N O : pm_M} {u x k u' x' k' : Int} (h : Ext M N u x k) (h' : Ext N O u' x' k') (hu : u ≤ u') (hx : x ≤ x') (hk : k ≤ k') : Ext M O u x k := by
  intro p i h1 h2 h3 h4
  rw [h' p i h1 (fun e => by have := h2 e; omega) (fun e => by have := h3 e; omega) (fun e => by have := h4 e; omega), h p i h1 h2 h3 h4]
theorem Ext.row {M N : pm_M} {u x k r j : Int} {l : List Int} (h : Ext M N u x k) (ru : r < u) (hj : j + l.length ≤ 17) (hr : Row M r j l) : Row N r j l :=
  Row.same (fun i h1 h2 => h 73 _ (fun e => by cases e) (fun _ => by omega) (fun e => by omega) (fun e => by cases e)) hr
theorem Ext.ctx {M N : pm_M} {u x k u' x' : Int} (h : Ext M N u x k) (hu : u ≤ u') (hx : x ≤ x') : ∀ {Γ : List Ty} {c : Int}, Ctx M u x c Γ → Ctx N u' x' c Γ
  | [], _, hc => hc
  | b :: Γ, c, hc => by
    obtain ⟨q0, q1, q2, q3, q4, q5, q6, q7, q8⟩ := hc
    have e4 : N 74 c = M 74 c := h 74 c (fun e => by cases e) (fun e => by cases e) (fun _ => q1) (fun e => by cases e)
    have e5 : N 75 c = M 75 c := h 75 c (fun e => by cases e) (fun e => by cases e) (fun _ => q1) (fun e => by cases e)
    have e6 : N 76 c = M 76 c := h 76 c (fun e => by cases e) (fun e => by cases e) (fun _ => q1) (fun e => by cases e)
    refine ⟨q0, by omega, by rw [e5]; exact q2, by rw [e6]; exact q3, by rw [e6]; omega, ?_, q6, q7, ?_⟩
    · rw [e6]; exact h.row q4 (by omega) q5
    · rw [e4]; exact Ext.ctx h hu hx q8
/-- rows a from p and b from q hold the two types, c is their context of that depth -/
def TH (M : pm_M) (u x a p b q c D : Int) (z : Tsk) : Prop := (0 ≤ a) ∧ (a < u) ∧ (0 ≤ p) ∧ (p + (flat z.2.1).length ≤ 17) ∧ (Row M a p (flat z.2.1)) ∧ (0 ≤ b) ∧ (b < u) ∧ (0 ≤ q) ∧ (q + (flat z.2.2).length ≤ 17) ∧ (Row M b q (flat z.2.2)) ∧ (Ctx M u x c z.1) ∧ (D = z.1.length) ∧ (tok z)
theorem TH.a0 {M : pm_M} {u x a p b q c D : Int} {z : Tsk} (t : TH M u x a p b q c D z) : 0 ≤ a := t.1
theorem TH.a1 {M : pm_M} {u x a p b q c D : Int} {z : Tsk} (t : TH M u x a p b q c D z) : a < u := t.2.1
theorem TH.p0 {M : pm_M} {u x a p b q c D : Int} {z : Tsk} (t : TH M u x a p b q c D z) : 0 ≤ p := t.2.2.1
theorem TH.p1 {M : pm_M} {u x a p b q c D : Int} {z : Tsk} (t : TH M u x a p b q c D z) : p + (flat z.2.1).length ≤ 17 := t.2.2.2.1
theorem TH.ra {M : pm_M} {u x a p b q c D : Int} {z : Tsk} (t : TH M u x a p b q c D z) : Row M a p (flat z.2.1) := t.2.2.2.2.1
theorem TH.b0 {M : pm_M} {u x a p b q c D : Int} {z : Tsk} (t : TH M u x a p b q c D z) : 0 ≤ b := t.2.2.2.2.2.1
theorem TH.b1 {M : pm_M} {u x a p b q c D : Int} {z : Tsk} (t : TH M u x a p b q c D z) : b < u := t.2.2.2.2.2.2.1
theorem TH.q0 {M : pm_M} {u x a p b q c D : Int} {z : Tsk} (t : TH M u x a p b q c D z) : 0 ≤ q := t.2.2.2.2.2.2.2.1
theorem TH.q1 {M : pm_M} {u x a p b q c D : Int} {z : Tsk} (t : TH M u x a p b q c D z) : q + (flat z.2.2).length ≤ 17 := t.2.2.2.2.2.2.2.2.1
theorem TH.rb {M : pm_M} {u x a p b q c D : Int} {z : Tsk} (t : TH M u x a p b q c D z) : Row M b q (flat z.2.2) := t.2.2.2.2.2.2.2.2.2.1
theorem TH.hc {M : pm_M} {u x a p b q c D : Int} {z : Tsk} (t : TH M u x a p b q c D z) : Ctx M u x c z.1 := t.2.2.2.2.2.2.2.2.2.2.1
theorem TH.hD {M : pm_M} {u x a p b q c D : Int} {z : Tsk} (t : TH M u x a p b q c D z) : D = z.1.length := t.2.2.2.2.2.2.2.2.2.2.2.1
theorem TH.ok {M : pm_M} {u x a p b q c D : Int} {z : Tsk} (t : TH M u x a p b q c D z) : tok z := t.2.2.2.2.2.2.2.2.2.2.2.2
theorem TH.mono {M N : pm_M} {u x k u' x' a p b q c D : Int} {z : Tsk} (t : TH M u x a p b q c D z) (h : Ext M N u x k) (hu : u ≤ u') (hx : x ≤ x') : TH N u' x' a p b q c D z :=
  ⟨t.a0, by have := t.a1; omega, t.p0, t.p1, h.row t.a1 t.p1 t.ra, t.b0, by have := t.b1; omega, t.q0, t.q1, h.row t.b1 t.q1 t.rb, h.ctx hu hx t.hc, t.hD, t.ok⟩
theorem Ctx.rng {M : pm_M} {u x c : Int} (x0 : 0 ≤ x) (x1 : x ≤ 900) : ∀ {Γ : List Ty}, Ctx M u x c Γ → -1 ≤ c ∧ c < 900
  | [], h => by have h : c = -1 := h; omega
  | b :: Γ, h => by have h0 := h.1; have h1 := h.2.1; omega
/-- the task of that number -/
def TA (M : pm_M) (u x j : Int) (z : Tsk) : Prop := TH M u x (M 80 (6 * j)) (M 80 (6 * j + 1)) (M 80 (6 * j + 2)) (M 80 (6 * j + 3)) (M 80 (6 * j + 4)) (M 80 (6 * j + 5)) z
theorem TA.mono {M N : pm_M} {u x k u' x' j : Int} {z : Tsk} (t : TA M u x j z) (h : Ext M N u x k) (hu : u ≤ u') (hx : x ≤ x') (hj : j < k) : TA N u' x' j z := by
  have e : ∀ i : Int, i < 6 → N 80 (6 * j + i) = M 80 (6 * j + i) := fun i hi => h 80 _ (fun e => by cases e) (fun e => by cases e) (fun e => by omega) (fun _ => by omega)
  have e0 := e 0 (by decide)
  rw [Int.add_zero] at e0
  unfold TA
  rw [e0, e 1 (by decide), e 2 (by decide), e 3 (by decide), e 4 (by decide), e 5 (by decide)]
  exact TH.mono t h hu hx
/-- the tasks from k on, the topmost first -/
def TS (M : pm_M) (u x k : Int) : List Tsk → Prop
  | [] => True
  | z :: l => TA M u x (k + l.length) z ∧ TS M u x k l
theorem TS.mono {M N : pm_M} {u x k k' u' x' : Int} (h : Ext M N u x k') (hu : u ≤ u') (hx : x ≤ x') : ∀ {l : List Tsk}, k + l.length ≤ k' → TS M u x k l → TS N u' x' k l
  | [], _, _ => trivial
  | z :: l, hk, t => by
    simp only [List.length_cons] at hk
    exact ⟨TA.mono t.1 h hu hx (by omega), TS.mono h hu hx (by omega) t.2⟩
theorem TS.app {M : pm_M} {u x k : Int} : ∀ {a b : List Tsk}, TS M u x k (a ++ b) ↔ TS M u x (k + b.length) a ∧ TS M u x k b
  | [], b => by simp [TS]
  | z :: a, b => by
    show TA M u x (k + ((a ++ b).length : Nat)) z ∧ TS M u x k (a ++ b) ↔ (TA M u x (k + b.length + a.length) z ∧ TS M u x (k + b.length) a) ∧ TS M u x k b
    rw [TS.app, List.length_append, show k + ((a.length + b.length : Nat) : Int) = k + b.length + a.length by omega, and_assoc]
/-- where a walk stands: what is kept of M, and the tasks that were posed since -/
def SI (M N : pm_M) (u x k u' x' : Int) (l : List Tsk) : Prop := (Ext M N u x k) ∧ (∀ p i, R32 (N p i)) ∧ (N 56 22 = u') ∧ (N 56 24 = x') ∧ (u ≤ u') ∧ (x ≤ x') ∧ (N 56 34 = k + l.length) ∧ (TS N u' x' k l)
theorem SI.ext {M N : pm_M} {u x k u' x' : Int} {l : List Tsk} (t : SI M N u x k u' x' l) : Ext M N u x k := t.1
theorem SI.r32 {M N : pm_M} {u x k u' x' : Int} {l : List Tsk} (t : SI M N u x k u' x' l) : ∀ p i, R32 (N p i) := t.2.1
theorem SI.hu {M N : pm_M} {u x k u' x' : Int} {l : List Tsk} (t : SI M N u x k u' x' l) : N 56 22 = u' := t.2.2.1
theorem SI.hx {M N : pm_M} {u x k u' x' : Int} {l : List Tsk} (t : SI M N u x k u' x' l) : N 56 24 = x' := t.2.2.2.1
theorem SI.uu {M N : pm_M} {u x k u' x' : Int} {l : List Tsk} (t : SI M N u x k u' x' l) : u ≤ u' := t.2.2.2.2.1
theorem SI.xx {M N : pm_M} {u x k u' x' : Int} {l : List Tsk} (t : SI M N u x k u' x' l) : x ≤ x' := t.2.2.2.2.2.1
theorem SI.hk {M N : pm_M} {u x k u' x' : Int} {l : List Tsk} (t : SI M N u x k u' x' l) : N 56 34 = k + l.length := t.2.2.2.2.2.2.1
theorem SI.ts {M N : pm_M} {u x k u' x' : Int} {l : List Tsk} (t : SI M N u x k u' x' l) : TS N u' x' k l := t.2.2.2.2.2.2.2
theorem pose_ext (N : pm_M) (ts a b c e f g u x : Int) : Ext N (mset (mset (mset (mset (mset (mset (mset N 80 (6 * ts) a) 80 ((6 * ts) + 1) b) 80 ((6 * ts) + 2) c) 80 ((6 * ts) + 3) e) 80 ((6 * ts) + 4) f) 80 ((6 * ts) + 5) g) 56 34 (ts + 1)) u x ts := by
  intro p i h1 h2 h3 h4
  unfold mset
  by_cases h : p = 56
  · have := h1 h
    rw [if_neg (by omega), if_neg (by omega), if_neg (by omega), if_neg (by omega), if_neg (by omega), if_neg (by omega), if_neg (by omega)]
  · by_cases h' : p = 80
    · have := h4 h'
      rw [if_neg (by omega), if_neg (by omega), if_neg (by omega), if_neg (by omega), if_neg (by omega), if_neg (by omega), if_neg (by omega)]
    · rw [if_neg (by omega), if_neg (by omega), if_neg (by omega), if_neg (by omega), if_neg (by omega), if_neg (by omega), if_neg (by omega)]
theorem mset_R32 {M : pm_M} {p : Nat} {i v : Int} (h : ∀ p i, R32 (M p i)) (hv : R32 v) : ∀ q j, R32 (mset M p i v q j) := by
  intro q j
  unfold mset
  split
  · exact hv
  · exact h q j
section PmM6
variable {d : Nat} {Q : Option Value → pm_S → Prop} {M N : pm_M} {Rf : Nat → Nat → Nat} {K L : Nat → Nat} {n s : Nat}
theorem m_poseS {u x k u' x' a b c e f g : Int} {l : List Tsk} {z : Tsk} (hG : pm_G Rf K L n) (hs : SI M N u x k u' x' l) (t : TH N u' x' a b c e f g z) (k0 : 0 ≤ k) (kl : k + l.length < 300) (u1 : u' ≤ 1100) (x0 : 0 ≤ x') (x1 : x' ≤ 900) (hD : z.1.length ≤ 2000) (h : ∀ N', SI M N' u x k u' x' (z :: l) → Ext N N' u' x' (k + l.length) → Q none (zM N', Rf, K, L, n, s)) : pm_Wc (d + 1) 160 [.ref 56, .int (zI a), .int (zI b), .int (zI c), .int (zI e), .int (zI f), .int (zI g)] (zM N, Rf, K, L, n, s) Q := by
  have hcr := t.hc.rng x0 x1
  have t1 := t.a0; have t2 := t.a1; have t3 := t.p0; have t4 := t.p1; have t5 := t.b0; have t6 := t.b1; have t7 := t.q0; have t8 := t.q1; have t9 := t.hD
  refine m_pose hG hs.hk (by omega) kl (h _ ?_ ?_)
  · have hE := pose_ext N (k + l.length) a b c e f g u' x'
    refine ⟨hs.ext.trans hE hs.uu hs.xx (by omega), ?_, ?_, ?_, hs.uu, hs.xx, ?_, ?_, ?_⟩
    · exact mset_R32 (mset_R32 (mset_R32 (mset_R32 (mset_R32 (mset_R32 (mset_R32 hs.r32 ⟨by omega, by omega⟩) ⟨by omega, by omega⟩) ⟨by omega, by omega⟩) ⟨by omega, by omega⟩) ⟨by omega, by omega⟩) ⟨by omega, by omega⟩) ⟨by omega, by omega⟩
    · simp [mset, hs.hu]
    · simp [mset, hs.hx]
    · simp [mset]; omega
    · unfold TA
      have ht := t.mono hE (Int.le_refl _) (Int.le_refl _)
      generalize hN : mset (mset (mset (mset (mset (mset (mset N 80 (6 * (k + (l.length : Int))) a) 80 ((6 * (k + (l.length : Int))) + 1) b) 80 ((6 * (k + (l.length : Int))) + 2) c) 80 ((6 * (k + (l.length : Int))) + 3) e) 80 ((6 * (k + (l.length : Int))) + 4) f) 80 ((6 * (k + (l.length : Int))) + 5) g) 56 34 (k + (l.length : Int) + 1) = N' at ht ⊢
      have v0 : N' 80 (6 * (k + l.length)) = a := by
        rw [← hN, mset_p _ _ _ _ (by decide), mset_i _ _ _ _ (by omega), mset_i _ _ _ _ (by omega), mset_i _ _ _ _ (by omega), mset_i _ _ _ _ (by omega), mset_i _ _ _ _ (by omega), mset_s]
      have v1 : N' 80 (6 * (k + l.length) + 1) = b := by
        rw [← hN, mset_p _ _ _ _ (by decide), mset_i _ _ _ _ (by omega), mset_i _ _ _ _ (by omega), mset_i _ _ _ _ (by omega), mset_i _ _ _ _ (by omega), mset_s]
      have v2 : N' 80 (6 * (k + l.length) + 2) = c := by
        rw [← hN, mset_p _ _ _ _ (by decide), mset_i _ _ _ _ (by omega), mset_i _ _ _ _ (by omega), mset_i _ _ _ _ (by omega), mset_s]
      have v3 : N' 80 (6 * (k + l.length) + 3) = e := by
        rw [← hN, mset_p _ _ _ _ (by decide), mset_i _ _ _ _ (by omega), mset_i _ _ _ _ (by omega), mset_s]
      have v4 : N' 80 (6 * (k + l.length) + 4) = f := by
        rw [← hN, mset_p _ _ _ _ (by decide), mset_i _ _ _ _ (by omega), mset_s]
      have v5 : N' 80 (6 * (k + l.length) + 5) = g := by
        rw [← hN, mset_p _ _ _ _ (by decide), mset_s]
      rw [v0, v1, v2, v3, v4, v5]
      exact ht
    · exact TS.mono hE (Int.le_refl _) (Int.le_refl _) (Int.le_refl _) hs.ts
  · exact pose_ext N (k + l.length) a b c e f g u' x'
end PmM6
