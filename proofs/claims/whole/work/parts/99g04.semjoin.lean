/-! JOINS AND MEETS. -/
def JS (w : Nat) (ξ : List Pr) (S T R : Ty) : Prop := (w = 0 → Inc ξ S R ∧ Inc ξ T R) ∧ (w = 1 → Inc ξ R S ∧ Inc ξ R T)
theorem tnu_w0 {w : Nat} {R : Ty} (h : tnu w = some R) : w = 0 ∧ R = tTop := by
  unfold tnu at h
  by_cases c : w = 0
  · rw [if_pos c] at h; cases h; exact ⟨c, rfl⟩
  · rw [if_neg c] at h; cases h
theorem uFun_in {w : Nat} {R : Ty} : ∀ {a b : Ru}, uFun w a b = some R → (w = 0 ∧ R = tTop) ∨ ∃ x y, a = some x ∧ b = some y ∧ R = tFun x y
  | none, _, h => Or.inl (tnu_w0 h)
  | some _, none, h => Or.inl (tnu_w0 h)
  | some x, some y, h => by cases h; exact Or.inr ⟨x, y, rfl, rfl, rfl⟩
theorem uAll_in {w : Nat} {A R : Ty} : ∀ {a : Ru}, uAll w A a = some R → (w = 0 ∧ R = tTop) ∨ ∃ x, a = some x ∧ R = tAll A x
  | none, h => Or.inl (tnu_w0 h)
  | some x, h => by cases h; exact Or.inr ⟨x, rfl, rfl⟩
theorem uRec_in {w m : Nat} {R : Ty} : ∀ {a b c : Ru}, uRec w m a b c = some R → (w = 0 ∧ R = tTop) ∨ ∃ x y z, a = some x ∧ b = some y ∧ c = some z ∧ R = tRec m x y z
  | none, _, _, h => Or.inl (tnu_w0 h)
  | some _, none, _, h => Or.inl (tnu_w0 h)
  | some _, some _, none, h => Or.inl (tnu_w0 h)
  | some x, some y, some z, h => by cases h; exact Or.inr ⟨x, y, z, rfl, rfl, rfl, rfl⟩
theorem JS.top {w : Nat} {ξ : List Pr} {S T R : Ty} (h : w = 0 ∧ R = tTop) : JS w ξ S T R :=
  ⟨fun _ => by rw [h.2]; exact ⟨fun n v _ => by rw [sem_top]; trivial, fun n v _ => by rw [sem_top]; trivial⟩, fun e => by have := h.1; omega⟩
theorem lset_bits : ∀ m, m < 8 → ∀ m', m' < 8 → ∀ i, i < 3 → ((bit (m &&& m') i = true ↔ (bit m i = true ∧ bit m' i = true)) ∧ (bit (m ||| m') i = true ↔ (bit m i = true ∨ bit m' i = true))) := by decide
theorem upart_JS {r : Ty → Ty → Ru} {ξ : List Pr} {D w m m' i : Nat} {x y a : Ty} (w2 : w < 2) (hm : m < 8) (hm' : m' < 8) (hi : i < 3) (hx : okl D m i x) (hy : okl D m' i y) (hr : bit m i = true → bit m' i = true → ∀ R, r x y = some R → JS w ξ x y R) (h : upart r (lset w m m') m m' i x y = some a) : (w = 0 → Inc ξ x a ∧ Inc ξ y a) ∧ (w = 1 → Inc ξ a x ∧ Inc ξ a y) := by
  obtain ⟨b1, b2⟩ := lset_bits m hm m' hm' i hi
  unfold upart at h
  have nl : ∀ {u : Ty} {q : Nat}, okl D q i u → ¬ bit q i = true → ∀ s, Inc ξ s u := by
    intro u q ho hb s n v _
    unfold okl at ho
    rw [if_neg hb] at ho
    rw [ho, sem_nil]; trivial
  by_cases h1 : bit (lset w m m') i = true
  · rw [if_pos h1] at h
    by_cases h2 : bit m i = true
    · rw [if_pos h2] at h
      by_cases h3 : bit m' i = true
      · rw [if_pos h3] at h
        exact hr h2 h3 a h
      · rw [if_neg h3] at h
        cases h
        refine ⟨fun e => ?_, fun e => ⟨fun n v hv => hv, nl hy h3 x⟩⟩
        unfold lset at h1
        rw [if_pos e] at h1
        exact absurd (b1.mp h1).2 h3
    · rw [if_neg h2] at h
      cases h
      refine ⟨fun e => ?_, fun e => ⟨nl hx h2 y, fun n v hv => hv⟩⟩
      unfold lset at h1
      rw [if_pos e] at h1
      exact absurd (b1.mp h1).1 h2
  · rw [if_neg h1] at h
    cases h
    refine ⟨fun e => ⟨fun n v _ => by rw [sem_nil]; trivial, fun n v _ => by rw [sem_nil]; trivial⟩, fun e => ?_⟩
    unfold lset at h1
    rw [if_neg (by omega)] at h1
    have n1 : ¬ bit m i = true := fun q => h1 (b2.mpr (Or.inl q))
    have n2 : ¬ bit m' i = true := fun q => h1 (b2.mpr (Or.inr q))
    exact ⟨nl hx n1 _, nl hy n2 _⟩
theorem cu_sem : ∀ (f w : Nat) (Γ : List Ty) (S T R : Ty) (ξ : List Pr), w < 2 → tok (Γ, S, T) → mdl Γ ξ → cu f w Γ S T = some R → JS w ξ S T R
  | 0, _, _, _, _, _, _, _, _, _, h => by cases h
  | f + 1, w, Γ, S, T, R, ξ, w2, h, hm, e => by
    have ht := h
    obtain ⟨hc0, hs0, ht0⟩ := h
    have hc : okc Γ := hc0
    have hs : ok Γ.length S = true := hs0
    have hT : ok Γ.length T = true := ht0
    clear hc0 hs0 ht0
    have e : cmsU (cu f) w Γ S T = some R := e
    unfold cmsU at e
    rw [if_neg (by omega)] at e
    have rfl' : ∀ s : Ty, Inc ξ s s := fun s n v hv => hv
    by_cases c2 : bel Γ S T = true
    · rw [if_pos c2] at e
      have i1 := bel_inc ht hm c2
      by_cases c0 : w = 0
      · rw [if_pos c0] at e; cases e; exact ⟨fun _ => ⟨i1, rfl' _⟩, fun q => by omega⟩
      · rw [if_neg c0] at e; cases e; exact ⟨fun q => absurd q c0, fun _ => ⟨rfl' _, i1⟩⟩
    rw [if_neg c2] at e
    by_cases c3 : bel Γ T S = true
    · rw [if_pos c3] at e
      have i1 := bel_inc (Γ := Γ) (S := T) (T := S) ⟨hc, hT, hs⟩ hm c3
      by_cases c0 : w = 0
      · rw [if_pos c0] at e; cases e; exact ⟨fun _ => ⟨rfl' _, i1⟩, fun q => by omega⟩
      · rw [if_neg c0] at e; cases e; exact ⟨fun q => absurd q c0, fun _ => ⟨i1, rfl' _⟩⟩
    rw [if_neg c3] at e
    by_cases c4 : 16 ≤ hd S
    · rw [if_pos c4] at e
      by_cases c5 : w = 1
      · rw [if_pos c5] at e; cases e
      rw [if_neg c5] at e
      obtain ⟨k, hk, rfl⟩ := hd_is_var hs c4
      rw [exps_var] at e
      have := cu_sem f w Γ _ T R ξ w2 ⟨hc, ok_expose hc hk, hT⟩ hm e
      refine ⟨fun q => ⟨fun n v hv => ?_, (this.1 q).2⟩, fun q => absurd q c5⟩
      rw [sem_var] at hv
      exact (this.1 q).1 n v ((hm.2 k hk).2 n v hv)
    rw [if_neg c4] at e
    by_cases c6 : 16 ≤ hd T
    · rw [if_pos c6] at e
      by_cases c5 : w = 1
      · rw [if_pos c5] at e; cases e
      rw [if_neg c5] at e
      obtain ⟨k, hk, rfl⟩ := hd_is_var hT c6
      rw [exps_var] at e
      have := cu_sem f w Γ S _ R ξ w2 ⟨hc, hs, ok_expose hc hk⟩ hm e
      refine ⟨fun q => ⟨(this.1 q).1, fun n v hv => ?_⟩, fun q => absurd q c5⟩
      rw [sem_var] at hv
      exact (this.1 q).2 n v ((hm.2 k hk).2 n v hv)
    rw [if_neg c6] at e
    by_cases c7 : 8 ≤ hd S ∧ 8 ≤ hd T
    · rw [if_pos c7] at e
      obtain ⟨m, x, y, z, hm1, rfl⟩ := hd_is_rec hs c7.1 (by omega)
      obtain ⟨m', x', y', z', hm', rfl⟩ := hd_is_rec hT c7.2 (by omega)
      obtain ⟨h0, h1, h2⟩ := (ok_rec hm1).mp hs
      obtain ⟨h0', h1', h2'⟩ := (ok_rec hm').mp hT
      rw [hd_rec, hd_rec, show 8 + m - 8 = m by omega, show 8 + m' - 8 = m' by omega] at e
      rcases uRec_in e with e | ⟨a, b, c, ea, eb, ec, e⟩
      · exact JS.top e
      · have q0 := upart_JS (ξ := ξ) w2 hm1 hm' (by omega) h0 h0' (fun i1 i2 R hR => cu_sem f w Γ x x' R ξ w2 ⟨hc, okl_on h0 (bit_iff.mp i1), okl_on h0' (bit_iff.mp i2)⟩ hm hR) ea
        have q1 := upart_JS (ξ := ξ) w2 hm1 hm' (by omega) h1 h1' (fun i1 i2 R hR => cu_sem f w Γ y y' R ξ w2 ⟨hc, okl_on h1 (bit_iff.mp i1), okl_on h1' (bit_iff.mp i2)⟩ hm hR) eb
        have q2 := upart_JS (ξ := ξ) w2 hm1 hm' (by omega) h2 h2' (fun i1 i2 R hR => cu_sem f w Γ z z' R ξ w2 ⟨hc, okl_on h2 (bit_iff.mp i1), okl_on h2' (bit_iff.mp i2)⟩ hm hR) ec
        rw [e]
        have bb := fun g hg => lset_bits m hm1 m' hm' g hg
        refine ⟨fun q => ⟨fun n v hv => ?_, fun n v hv => ?_⟩, fun q => ⟨fun n v hv => ?_, fun n v hv => ?_⟩⟩
        · rw [sem_rec] at hv ⊢
          obtain ⟨l, p1, p2, p3, e1, hb, s1, s2, s3⟩ := hv
          refine ⟨l, p1, p2, p3, e1, fun g hg hbt => hb g hg ?_, (q0.1 q).1 n p1 s1, (q1.1 q).1 n p2 s2, (q2.1 q).1 n p3 s3⟩
          unfold lset at hbt
          rw [if_pos q] at hbt
          exact ((bb g hg).1.mp hbt).1
        · rw [sem_rec] at hv ⊢
          obtain ⟨l, p1, p2, p3, e1, hb, s1, s2, s3⟩ := hv
          refine ⟨l, p1, p2, p3, e1, fun g hg hbt => hb g hg ?_, (q0.1 q).2 n p1 s1, (q1.1 q).2 n p2 s2, (q2.1 q).2 n p3 s3⟩
          unfold lset at hbt
          rw [if_pos q] at hbt
          exact ((bb g hg).1.mp hbt).2
        · rw [sem_rec] at hv ⊢
          obtain ⟨l, p1, p2, p3, e1, hb, s1, s2, s3⟩ := hv
          refine ⟨l, p1, p2, p3, e1, fun g hg hbt => hb g hg ?_, (q0.2 q).1 n p1 s1, (q1.2 q).1 n p2 s2, (q2.2 q).1 n p3 s3⟩
          unfold lset
          rw [if_neg (by omega)]
          exact (bb g hg).2.mpr (Or.inl hbt)
        · rw [sem_rec] at hv ⊢
          obtain ⟨l, p1, p2, p3, e1, hb, s1, s2, s3⟩ := hv
          refine ⟨l, p1, p2, p3, e1, fun g hg hbt => hb g hg ?_, (q0.2 q).2 n p1 s1, (q1.2 q).2 n p2 s2, (q2.2 q).2 n p3 s3⟩
          unfold lset
          rw [if_neg (by omega)]
          exact (bb g hg).2.mpr (Or.inr hbt)
    rw [if_neg c7] at e
    by_cases c8 : hd S = 1 ∧ hd T = 1
    · rw [if_pos c8] at e
      obtain ⟨a, b, rfl, ha, hb⟩ := hd_is_fun hs c8.1
      obtain ⟨a', b', rfl, ha', hb'⟩ := hd_is_fun hT c8.2
      rcases uFun_in e with e | ⟨p, q, ep, eq, e⟩
      · exact JS.top e
      · have q1 := cu_sem f (1 - w) Γ a a' p ξ (by omega) ⟨hc, ha, ha'⟩ hm ep
        have q2 := cu_sem f w Γ b b' q ξ w2 ⟨hc, hb, hb'⟩ hm eq
        have fn : ∀ {x1 x2 y1 y2 : Ty}, Inc ξ y1 x1 → Inc ξ x2 y2 → Inc ξ (tFun x1 x2) (tFun y1 y2) := by
          intro x1 x2 y1 y2 i1 i2 n v hv
          rw [sem_fun] at hv ⊢
          obtain ⟨t, ρ, e, hk, hh⟩ := hv
          exact ⟨t, ρ, e, hk, fun m hm w hw => (hh m hm w (i1 m w hw)).imp i2⟩
        rw [e]
        refine ⟨fun w0 => ⟨fn (q1.2 (by omega)).1 (q2.1 w0).1, fn (q1.2 (by omega)).2 (q2.1 w0).2⟩, fun w1 => ⟨fn (q1.1 (by omega)).1 (q2.2 w1).1, fn (q1.1 (by omega)).2 (q2.2 w1).2⟩⟩
    rw [if_neg c8] at e
    by_cases c9 : hd S = 2 ∧ hd T = 2 ∧ flat (k1 S) = flat (k1 T)
    · rw [if_pos c9] at e
      obtain ⟨a, b, rfl, ha, hb⟩ := hd_is_all hs c9.1
      obtain ⟨a', b', rfl, ha', hb'⟩ := hd_is_all hT c9.2.1
      have ea : a = a' := flat_eq ha ha' c9.2.2
      subst ea
      rcases uAll_in e with e | ⟨q, eq, e⟩
      · exact JS.top e
      · have e : R = tAll a q := e
        have al : ∀ {y1 y2 : Ty}, (∀ p : Pr, dc p → (∀ m u, p m u → sem ξ a m u) → Inc (p :: ξ) y1 y2) → Inc ξ (tAll a y1) (tAll a y2) := by
          intro y1 y2 i1 n v hv
          rw [sem_all] at hv ⊢
          obtain ⟨t, ρ, e, hk, hh⟩ := hv
          exact ⟨t, ρ, e, hk, fun p hp hs m hm2 => (hh p hp hs m hm2).imp (i1 p hp hs)⟩
        have q1 := fun (p : Pr) (hp : dc p) (hs2 : ∀ m u, p m u → sem ξ a m u) => cu_sem f w (a :: Γ) b b' q (p :: ξ) w2 ⟨⟨ha, hc⟩, hb, hb'⟩ (hm.cons hc ha hp hs2) eq
        rw [e]
        exact ⟨fun w0 => ⟨al (fun p hp hs2 => ((q1 p hp hs2).1 w0).1), al (fun p hp hs2 => ((q1 p hp hs2).1 w0).2)⟩, fun w1 => ⟨al (fun p hp hs2 => ((q1 p hp hs2).2 w1).1), al (fun p hp hs2 => ((q1 p hp hs2).2 w1).2)⟩⟩
    rw [if_neg c9] at e
    exact JS.top (tnu_w0 e)
theorem cmu_inc {Γ : List Ty} {S T R : Ty} {ξ : List Pr} (ht : tok (Γ, S, T)) (hm : mdl Γ ξ) (e : cmu 0 Γ S T = some R) : Inc ξ S R ∧ Inc ξ T R := (cu_sem _ 0 Γ S T R ξ (by omega) ht hm e).1 rfl
