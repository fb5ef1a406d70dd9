/-! A JOIN of a side that has such bounds (never in an argument) and a side that has none: it has none. -/
theorem lset_two : ∀ m, m < 8 → ∀ m', m' < 8 → ∀ i, i < 3 → bit (lset 0 m m') i = true → bit m i = true ∧ bit m' i = true := by decide
section PmN4
variable {κ : Ty → Bool}
theorem Wo_upart {q : Nat} {r : Ty → Ty → Ru} {set m m' i : Nat} {x y a : Ty} (hr : bit m i = true → bit m' i = true → ∀ R, r x y = some R → Wo κ q R = true) (hx : bit set i = true → bit m i = true → ¬ bit m' i = true → Wo κ q x = true) (hy : bit set i = true → ¬ bit m i = true → Wo κ q y = true) (e : upart r set m m' i x y = some a) : Wo κ q a = true := by
  unfold upart at e
  by_cases h1 : bit set i = true
  · rw [if_pos h1] at e
    by_cases h2 : bit m i = true
    · rw [if_pos h2] at e
      by_cases h3 : bit m' i = true
      · rw [if_pos h3] at e; exact hr h2 h3 a e
      · rw [if_neg h3] at e; cases e; exact hx h1 h2 h3
    · rw [if_neg h2] at e; cases e; exact hy h1 h2
  · rw [if_neg h1] at e; cases e; rfl
/-- how two types stand to that variable: in a join one side has nothing, in a meet neither -/
def PW (κ : Ty → Bool) (w r : Nat) (S T : Ty) : Prop := (w = 0 → Pz κ r S = true ∧ Pz κ r T = true ∧ (Wo κ r S = true ∨ Wo κ r T = true)) ∧ (w = 1 → Wo κ r S = true ∧ Wo κ r T = true)
theorem PW.both {r w : Nat} {S T : Ty} (h1 : Wo κ r S = true) (h2 : Wo κ r T = true) : PW κ w r S T := ⟨fun _ => ⟨Wo_Pz _ h1, Wo_Pz _ h2, Or.inl h1⟩, fun _ => ⟨h1, h2⟩⟩
theorem cu_Wo (hκ : ∀ j m t, κ (lft j m t) = κ t) : ∀ (f w : Nat) (Γ : List Ty) (S T R : Ty) (r : Nat), w ≤ 1 → r < Γ.length → CWo κ r Γ → tok (Γ, S, T) → PW κ w r S T → cu f w Γ S T = some R → Wo κ r R = true
  | 0, _, _, _, _, _, _, _, _, _, _, _, e => by cases e
  | f + 1, w, Γ, S, T, R, r, w3, hr, hw, tk, pw, e => by
    have hc : okc Γ := tk.1
    have hs : ok Γ.length S = true := tk.2.1
    have hT : ok Γ.length T = true := tk.2.2
    have e : cmsU (cu f) w Γ S T = some R := e
    unfold cmsU at e
    have c1 : ¬ w = 2 := by omega
    rw [if_neg c1] at e
    by_cases c2 : bel Γ S T = true
    · rw [if_pos c2] at e
      by_cases c0 : w = 0
      · rw [if_pos c0] at e; cases e
        obtain ⟨p1, p2, p3⟩ := pw.1 c0
        rcases p3 with p3 | p3
        · exact bel_Wo hκ _ Γ S _ r hr tk (Nat.le_refl _) hw p3 p2 c2
        · exact p3
      · rw [if_neg c0] at e; cases e; exact (pw.2 (by omega)).1
    rw [if_neg c2] at e
    by_cases c3 : bel Γ T S = true
    · rw [if_pos c3] at e
      by_cases c0 : w = 0
      · rw [if_pos c0] at e; cases e
        obtain ⟨p1, p2, p3⟩ := pw.1 c0
        rcases p3 with p3 | p3
        · exact p3
        · exact bel_Wo hκ _ Γ T _ r hr ⟨hc, hT, hs⟩ (Nat.le_refl _) hw p3 p1 c3
      · rw [if_neg c0] at e; cases e; exact (pw.2 (by omega)).2
    rw [if_neg c3] at e
    by_cases c4 : 16 ≤ hd S
    · rw [if_pos c4] at e
      by_cases c5 : w = 1
      · rw [if_pos c5] at e; cases e
      rw [if_neg c5] at e
      obtain ⟨k, hk, rfl⟩ := hd_is_var hs c4
      rw [exps_var] at e
      obtain ⟨p1, p2, p3⟩ := pw.1 (by omega)
      have q := hw.exp hk
      exact cu_Wo hκ f w Γ _ T R r w3 hr hw ⟨hc, ok_expose hc hk, hT⟩ ⟨fun _ => ⟨Wo_Pz _ q, p2, Or.inl q⟩, fun h => absurd h c5⟩ e
    rw [if_neg c4] at e
    by_cases c6 : 16 ≤ hd T
    · rw [if_pos c6] at e
      by_cases c5 : w = 1
      · rw [if_pos c5] at e; cases e
      rw [if_neg c5] at e
      obtain ⟨k, hk, rfl⟩ := hd_is_var hT c6
      rw [exps_var] at e
      obtain ⟨p1, p2, p3⟩ := pw.1 (by omega)
      have q := hw.exp hk
      exact cu_Wo hκ f w Γ S _ R r w3 hr hw ⟨hc, hs, ok_expose hc hk⟩ ⟨fun _ => ⟨p1, Wo_Pz _ q, Or.inr q⟩, fun h => absurd h c5⟩ e
    rw [if_neg c6] at e
    by_cases c7 : 8 ≤ hd S ∧ 8 ≤ hd T
    · rw [if_pos c7] at e
      obtain ⟨m, x, y, z, hm, rfl⟩ := hd_is_rec hs c7.1 (by omega)
      obtain ⟨m', x', y', z', hm', rfl⟩ := hd_is_rec hT c7.2 (by omega)
      obtain ⟨h0, h1, h2⟩ := (ok_rec hm).mp hs
      obtain ⟨h0', h1', h2'⟩ := (ok_rec hm').mp hT
      rw [hd_rec, hd_rec, show 8 + m - 8 = m by omega, show 8 + m' - 8 = m' by omega] at e
      have pp : PW κ w r x x' ∧ PW κ w r y y' ∧ PW κ w r z z' := by
        have := pw
        unfold PW at this
        rw [Pz_rec, Pz_rec, Wo_rec, Wo_rec] at this
        simp only [Bool.and_eq_true] at this
        refine ⟨⟨fun h => ?_, fun h => ?_⟩, ⟨fun h => ?_, fun h => ?_⟩, ⟨fun h => ?_, fun h => ?_⟩⟩
        · exact ⟨(this.1 h).1.1, (this.1 h).2.1.1, (this.1 h).2.2.imp (fun q => q.1) (fun q => q.1)⟩
        · exact ⟨(this.2 h).1.1, (this.2 h).2.1⟩
        · exact ⟨(this.1 h).1.2.1, (this.1 h).2.1.2.1, (this.1 h).2.2.imp (fun q => q.2.1) (fun q => q.2.1)⟩
        · exact ⟨(this.2 h).1.2.1, (this.2 h).2.2.1⟩
        · exact ⟨(this.1 h).1.2.2, (this.1 h).2.1.2.2, (this.1 h).2.2.imp (fun q => q.2.2) (fun q => q.2.2)⟩
        · exact ⟨(this.2 h).1.2.2, (this.2 h).2.2.2⟩
      have one : ∀ (i : Nat) (p p' : Ty), i < 3 → PW κ w r p p' → (bit (lset w m m') i = true → bit m i = true → ¬ bit m' i = true → Wo κ r p = true) ∧ (bit (lset w m m') i = true → ¬ bit m i = true → Wo κ r p' = true) := by
        intro i p p' hi hp
        rcases (show w = 0 ∨ w = 1 by omega) with rfl | rfl
        · exact ⟨fun h _ h3 => absurd (lset_two m hm m' hm' i hi h).2 h3, fun h h2 => absurd (lset_two m hm m' hm' i hi h).1 h2⟩
        · exact ⟨fun _ _ _ => (hp.2 rfl).1, fun _ _ => (hp.2 rfl).2⟩
      rcases uRec_some e with e | ⟨a, b, c, ea, eb, ec, e⟩
      · rw [e]; rfl
      · have q0 := Wo_upart (fun i1 i2 R hR => cu_Wo hκ f w Γ x x' R r w3 hr hw ⟨hc, okl_on h0 (bit_iff.mp i1), okl_on h0' (bit_iff.mp i2)⟩ pp.1 hR) (one 0 x x' (by decide) pp.1).1 (one 0 x x' (by decide) pp.1).2 ea
        have q1 := Wo_upart (fun i1 i2 R hR => cu_Wo hκ f w Γ y y' R r w3 hr hw ⟨hc, okl_on h1 (bit_iff.mp i1), okl_on h1' (bit_iff.mp i2)⟩ pp.2.1 hR) (one 1 y y' (by decide) pp.2.1).1 (one 1 y y' (by decide) pp.2.1).2 eb
        have q2 := Wo_upart (fun i1 i2 R hR => cu_Wo hκ f w Γ z z' R r w3 hr hw ⟨hc, okl_on h2 (bit_iff.mp i1), okl_on h2' (bit_iff.mp i2)⟩ pp.2.2 hR) (one 2 z z' (by decide) pp.2.2).1 (one 2 z z' (by decide) pp.2.2).2 ec
        rw [e, Wo_rec, q0, q1, q2]; rfl
    rw [if_neg c7] at e
    by_cases c8 : hd S = 1 ∧ hd T = 1
    · rw [if_pos c8] at e
      obtain ⟨a, b, rfl, ha, hb⟩ := hd_is_fun hs c8.1
      obtain ⟨a', b', rfl, ha', hb'⟩ := hd_is_fun hT c8.2
      have pp : (Wo κ r a = true ∧ Wo κ r a' = true) ∧ PW κ w r b b' := by
        have := pw
        unfold PW at this
        rw [Pz_fun, Pz_fun, Wo_fun, Wo_fun] at this
        simp only [Bool.and_eq_true] at this
        rcases (show w = 0 ∨ w = 1 by omega) with h | h
        · exact ⟨⟨(this.1 h).1.1, (this.1 h).2.1.1⟩, fun _ => ⟨(this.1 h).1.2, (this.1 h).2.1.2, (this.1 h).2.2.imp (fun q => q.2) (fun q => q.2)⟩, fun h' => by omega⟩
        · exact ⟨⟨(this.2 h).1.1, (this.2 h).2.1⟩, fun h' => by omega, fun _ => ⟨(this.2 h).1.2, (this.2 h).2.2⟩⟩
      rcases uFun_some e with e | ⟨p, q, ep, eq, e⟩
      · rw [e]; rfl
      · have q1 := cu_Wo hκ f (1 - w) Γ a a' p r (by omega) hr hw ⟨hc, ha, ha'⟩ (PW.both pp.1.1 pp.1.2) ep
        have q2 := cu_Wo hκ f w Γ b b' q r w3 hr hw ⟨hc, hb, hb'⟩ pp.2 eq
        rw [e, Wo_fun, q1, q2]; rfl
    rw [if_neg c8] at e
    by_cases c9 : hd S = 2 ∧ hd T = 2 ∧ flat (k1 S) = flat (k1 T)
    · rw [if_pos c9] at e
      obtain ⟨a, b, rfl, ha, hb⟩ := hd_is_all hs c9.1
      obtain ⟨a', b', rfl, ha', hb'⟩ := hd_is_all hT c9.2.1
      have ea : a = a' := flat_eq ha ha' c9.2.2
      subst ea
      have pp : (men r a && κ a) = false ∧ Wo κ r a = true ∧ PW κ w r b b' := by
        have := pw
        unfold PW at this
        rw [Pz_all, Pz_all, Wo_all, Wo_all] at this
        rcases (show w = 0 ∨ w = 1 by omega) with h | h
        · obtain ⟨p1, p2, p3⟩ := this.1 h
          have no : (men r a && κ a) = false := by
            cases q : (men r a && κ a) with
            | false => rfl
            | true => rw [q] at p3; simp at p3
          rw [no] at p1 p2 p3
          simp only [Bool.false_or, Bool.not_false, Bool.true_and, Bool.and_eq_true] at p1 p2 p3
          exact ⟨no, p1.1, fun _ => ⟨p1.2, p2.2, p3.imp (fun q => q.2) (fun q => q.2)⟩, fun h' => by omega⟩
        · obtain ⟨p1, p2⟩ := this.2 h
          simp only [Bool.and_eq_true] at p1 p2
          have no : (men r a && κ a) = false := by
            have := p1.1
            rwa [Bool.not_eq_true'] at this
          exact ⟨no, p1.2.1, fun h' => by omega, fun _ => ⟨p1.2.2, p2.2.2⟩⟩
      rcases uAll_some e with e | ⟨q, eq, e⟩
      · rw [e]; rfl
      · have e : R = tAll a q := e
        have q1 := cu_Wo hκ f w (a :: Γ) b b' q r w3 (by rw [List.length_cons]; omega) (hw.ext hκ hr pp.2.1) ⟨⟨ha, hc⟩, hb, hb'⟩ pp.2.2 eq
        rw [e, Wo_all, pp.1, pp.2.1, q1]; rfl
    rw [if_neg c9] at e
    rw [tnu_some e]; rfl
/-- what has none is not cut -/
theorem ct_Wo {r : Nat} : ∀ t : Ty, Wo κ r t = true → ct κ r t = t
  | .tag c (.append a b), h => by
    rw [Wo] at h
    rw [ct]
    by_cases c2 : c = 2
    · rw [if_pos c2, Bool.and_eq_true, Bool.and_eq_true] at h
      have no : (men r a && κ a) = false := by
        have := h.1
        rwa [Bool.not_eq_true'] at this
      rw [if_pos c2, no, ct_Wo b h.2.2, c2]; rfl
    · rw [if_neg c2, Bool.and_eq_true] at h
      rw [if_neg c2, ct_Wo a h.1, ct_Wo b h.2]
  | .append a b, h => by
    rw [Wo, Bool.and_eq_true] at h
    rw [ct, ct_Wo a h.1, ct_Wo b h.2]
  | .tag c .nil, _ => rfl
  | .tag c .line, _ => rfl
  | .tag c (.align _), _ => rfl
  | .tag c (.text _), _ => rfl
  | .tag c (.nest _ _), _ => rfl
  | .tag c (.group _ _), _ => rfl
  | .tag c (.tag _ _), _ => rfl
  | .nil, _ => rfl
  | .line, _ => rfl
  | .align _, _ => rfl
  | .text _, _ => rfl
  | .nest _ _, _ => rfl
  | .group _ _, _ => rfl
end PmN4
