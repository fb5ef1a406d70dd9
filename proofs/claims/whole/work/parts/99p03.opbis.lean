/-! THE TWO WALKS GO ALIKE. -/
section PmP3
variable {h l : Nat} {B C C' : Ty} {Γ0 Δ : List Ty}
theorem gq_rp {k0 m : Nat} {t : Ty} {D : Nat} (o : ok D t = true) (v : 8 ≤ hd t) (v' : hd t < 16) (g : gq h k0 m t = true) (i : Nat) (hi : i < 3) : gq h k0 m (rp i t) = true := by
  obtain ⟨c, x, y, z, hc, rfl⟩ := hd_is_rec o v v'
  rw [gq_rec] at g
  rcases (show i = 0 ∨ i = 1 ∨ i = 2 by omega) with rfl | rfl | rfl
  · exact g.1
  · exact g.2.1
  · exact g.2.2
theorem ok_rp {t : Ty} {D : Nat} (o : ok D t = true) (v : 8 ≤ hd t) (v' : hd t < 16) (i : Nat) (hi : i < 3) (b : bit (hd t - 8) i = true) : ok D (rp i t) = true := by
  obtain ⟨c, x, y, z, hc, rfl⟩ := hd_is_rec o v v'
  have q := (ok_rec hc).mp o
  rw [hd_rec, show 8 + c - 8 = c by omega] at b
  rcases (show i = 0 ∨ i = 1 ∨ i = 2 by omega) with rfl | rfl | rfl
  · exact okl_on q.1 (bit_iff.mp b)
  · exact okl_on q.2.1 (bit_iff.mp b)
  · exact okl_on q.2.2 (bit_iff.mp b)
theorem ZA_bis (z z' : Tsk) (q : ZA h B C C' Γ0 z z') : tok z ∧ tok z' ∧ hd z.2.1 = hd z'.2.1 ∧ hd z.2.2 = hd z'.2.2 ∧ (16 ≤ hd z.2.1 → ZR h B C C' Γ0 (z.1, exps z.1 z.2.1, z.2.2) (z'.1, exps z'.1 z'.2.1, z'.2.2)) ∧ (16 ≤ hd z.2.2 → ZR h B C C' Γ0 (z.1, z.2.1, exps z.1 z.2.2) (z'.1, z'.2.1, exps z'.1 z'.2.2)) ∧ (8 ≤ hd z.2.1 → hd z.2.1 < 16 → 8 ≤ hd z.2.2 → hd z.2.2 < 16 → ∀ i, i < 3 → bit (hd z.2.1 - 8) i = true → bit (hd z.2.2 - 8) i = true → ZA h B C C' Γ0 (z.1, rp i z.2.1, rp i z.2.2) (z'.1, rp i z'.2.1, rp i z'.2.2)) ∧ (hd z.2.1 = 1 → hd z.2.2 = 1 → ZA h B C C' Γ0 (z.1, k2 z.2.1, k2 z.2.2) (z'.1, k2 z'.2.1, k2 z'.2.2) ∧ ZA h B C C' Γ0 (z.1, k1 z.2.1, k1 z.2.2) (z'.1, k1 z'.2.1, k1 z'.2.2) ∧ ZA h B C C' Γ0 (z.1, k1 z.2.2, k1 z.2.1) (z'.1, k1 z'.2.2, k1 z'.2.1)) ∧ (hd z.2.1 = 2 → hd z.2.2 = 2 → (flat (k1 z.2.1) = flat (k1 z.2.2) ↔ flat (k1 z'.2.1) = flat (k1 z'.2.2)) ∧ (flat (k1 z.2.1) = flat (k1 z.2.2) → ZA h B C C' Γ0 (k1 z.2.1 :: z.1, k2 z.2.1, k2 z.2.2) (k1 z'.2.1 :: z'.1, k2 z'.2.1, k2 z'.2.2))) := by
  obtain ⟨Γ, S, T⟩ := z
  obtain ⟨Γ', S', T'⟩ := z'
  obtain ⟨l, Δ, e1, e2, s, ⟨o1, o2⟩, e3, g⟩ := q
  have e1 : Γ = cxs Δ Γ0 (tAll B C) := e1
  have e2 : Γ' = cxs Δ Γ0 (tAll B C') := e2
  have e4 : (S, T) = (S', T') := e3
  injection e4 with e5 e6
  subst e1 e2 e5 e6
  have o1 : ok (cxs Δ Γ0 (tAll B C)).length S = true := o1
  have o2 : ok (cxs Δ Γ0 (tAll B C)).length T = true := o2
  have g : gq h Γ0.length l S = true ∨ gq h Γ0.length l T = true := g
  have tt := s.tok o1 o2 o1 o2
  refine ⟨tt.1, tt.2, rfl, rfl, fun v => ZA.var s o1 o2 g v, fun v => ?_, ?_, ?_, ?_⟩
  · have v : 16 ≤ hd T := v
    rcases ZA.var s o2 o1 g.symm v with q | q | q
    · obtain ⟨l', Δ', a1, a2, a3, a4, a5, a6⟩ := q
      left
      refine ⟨l', Δ', a1, a2, a3, a4.symm, ?_, a6.symm⟩
      have a5 : (exps _ T, S) = (exps _ T, S) := a5
      injection a5 with a5 _
      show (S, exps _ T) = (S, exps _ T)
      rw [a5]
    · obtain ⟨l', Δ', a1, a2, a3, a4, a5, a6, a7, a8⟩ := q
      right; right
      exact ⟨l', Δ', a1, a2, a3, a4, a5, a6, a7, a8⟩
    · obtain ⟨l', Δ', a1, a2, a3, a4, a5, a6, a7, a8⟩ := q
      right; left
      exact ⟨l', Δ', a1, a2, a3, a4, a5, a6, a7, a8⟩
  · intro v1 v2 v3 v4 i hi b1 b2
    exact ⟨l, Δ, rfl, rfl, s, ⟨ok_rp o1 v1 v2 i hi b1, ok_rp o2 v3 v4 i hi b2⟩, rfl, by
      rcases g with g | g
      · exact Or.inl (gq_rp o1 v1 v2 g i hi)
      · exact Or.inr (gq_rp o2 v3 v4 g i hi)⟩
  · intro v1 v2
    obtain ⟨a, b, rfl, oa, ob⟩ := hd_is_fun o1 v1
    obtain ⟨a', b', rfl, oa', ob'⟩ := hd_is_fun o2 v2
    rw [gq_fun, gq_fun] at g
    refine ⟨⟨l, Δ, rfl, rfl, s, ⟨ob, ob'⟩, rfl, ?_⟩, ⟨l, Δ, rfl, rfl, s, ⟨oa, oa'⟩, rfl, ?_⟩, ⟨l, Δ, rfl, rfl, s, ⟨oa', oa⟩, rfl, ?_⟩⟩
    · rcases g with g | g
      · exact Or.inl g.2
      · exact Or.inr g.2
    · rcases g with g | g
      · exact Or.inl g.1
      · exact Or.inr g.1
    · rcases g with g | g
      · exact Or.inr g.1
      · exact Or.inl g.1
  · intro v1 v2
    obtain ⟨a, b, rfl, oa, ob⟩ := hd_is_all o1 v1
    obtain ⟨a', b', rfl, oa', ob'⟩ := hd_is_all o2 v2
    refine ⟨Iff.rfl, fun ef => ?_⟩
    have ea : a = a' := flat_eq oa oa' ef
    subst ea
    rw [gq_all, gq_all] at g
    have ga : gq h Γ0.length l a = true := by
      rcases g with g | g
      · exact g.2.1
      · exact g.2.1
    refine ⟨l, a :: Δ, rfl, rfl, s.ext oa ga, ⟨ob, ob'⟩, rfl, ?_⟩
    rcases g with g | g
    · exact Or.inl g.2.2
    · exact Or.inr g.2.2
/-- the scheme itself against what is good -/
theorem ZB_no (s : ZC h B C C' Γ0 l Δ) {X T : Ty} {D : Nat} (o : ok D T = true) (g : gq h Γ0.length l T = true) (v : hd T = 2) : ¬ flat (k1 (upb Γ0 Δ (tAll B X))) = flat (k1 T) := by
  obtain ⟨a, b, rfl, oa, ob⟩ := hd_is_all o v
  rw [gq_all] at g
  rw [upb_all]
  intro ef
  have ef : flat (upb Γ0 Δ B) = flat a := ef
  have e1 := s.hdB
  have e2 : hd (upb Γ0 Δ B) = hd a := by
    have oB : ok (cxs Δ Γ0 (tAll B C)).length (upb Γ0 Δ B) = true := by
      have q := s.up.1
      rw [upb_all] at q
      exact (ok_all.mp q).1
    have := flat_eq oB oa ef
    rw [this]
  exact g.1 (by rw [← e2]; exact e1)
theorem ZR_bis : BisT (ZR h B C C' Γ0) := by
  intro Γ Γ' S S' T T' q
  rcases q with q | q | q
  · obtain ⟨t1, t2, a1, a2, a3, a4, a5, a6, a7⟩ := ZA_bis _ _ q
    refine ⟨t1, t2, a1, a2, fun v _ _ => a3 v, fun v1 v2 v3 v4 i hi b1 b2 => Or.inl (a5 v1 v2 v3 v4 i hi b1 b2), fun v1 v2 => ⟨Or.inl (a6 v1 v2).1, Or.inl (a6 v1 v2).2.2⟩, fun v1 v2 => ⟨(a7 v1 v2).1, fun e => Or.inl ((a7 v1 v2).2 e)⟩⟩
  · obtain ⟨l, Δ, e1, e2, s, o2, e3, e4, e5, g⟩ := q
    have e1 : Γ = cxs Δ Γ0 (tAll B C) := e1
    have e2 : Γ' = cxs Δ Γ0 (tAll B C') := e2
    have e3 : S = upb Γ0 Δ (tAll B C) := e3
    have e4 : S' = upb Γ0 Δ (tAll B C') := e4
    have e5 : T = T' := e5
    have g : gq h Γ0.length l T = true := g
    have o2 : ok Γ.length T = true := o2
    subst e1 e2 e3 e4 e5
    have tt := s.tok s.up.1 o2 s.up.2 o2
    have hs : hd (upb Γ0 Δ (tAll B C)) = 2 := by rw [upb_all, hd_all]
    have hs' : hd (upb Γ0 Δ (tAll B C')) = 2 := by rw [upb_all, hd_all]
    refine ⟨tt.1, tt.2, by rw [hs, hs'], rfl, fun v => by omega, fun v1 => by omega, fun v1 => by omega, fun v1 v2 => ?_⟩
    have n1 := ZB_no (X := C) s o2 g v2
    have n2 := ZB_no (X := C') s o2 g v2
    exact ⟨⟨fun e => absurd e n1, fun e => absurd e n2⟩, fun e => absurd e n1⟩
  · obtain ⟨l, Δ, e1, e2, s, o1, e3, e4, e5, g⟩ := q
    have e1 : Γ = cxs Δ Γ0 (tAll B C) := e1
    have e2 : Γ' = cxs Δ Γ0 (tAll B C') := e2
    have e3 : T = upb Γ0 Δ (tAll B C) := e3
    have e4 : T' = upb Γ0 Δ (tAll B C') := e4
    have e5 : S = S' := e5
    have g : gq h Γ0.length l S = true := g
    have o1 : ok Γ.length S = true := o1
    subst e1 e2 e3 e4 e5
    have tt := s.tok o1 s.up.1 o1 s.up.2
    have hs : hd (upb Γ0 Δ (tAll B C)) = 2 := by rw [upb_all, hd_all]
    have hs' : hd (upb Γ0 Δ (tAll B C')) = 2 := by rw [upb_all, hd_all]
    refine ⟨tt.1, tt.2, rfl, by rw [hs, hs'], fun v _ _ => ?_, fun _ _ v3 => by omega, fun _ v2 => by omega, fun v1 _ => ?_⟩
    · obtain ⟨k, hk, rfl⟩ := hd_is_var o1 v
      have ne : k ≠ Γ0.length := by
        rw [gq_var] at g
        have := s.2.2.2.1.1
        omega
      obtain ⟨q1, q2, q3⟩ := s.ex hk ne
      right; right
      exact ⟨l, Δ, rfl, rfl, s, q2, rfl, rfl, q1, q3 g⟩
    · have n1 := ZB_no (X := C) s o1 g v1
      have n2 := ZB_no (X := C') s o1 g v1
      exact ⟨⟨fun e => absurd e.symm n1, fun e => absurd e.symm n2⟩, fun e => absurd e.symm n1⟩
theorem ZR_swap {Γ Γ' : List Ty} {S S' T T' : Ty} (q : ZR h B C C' Γ0 (Γ, S, T) (Γ', S', T')) : ZR h B C C' Γ0 (Γ, T, S) (Γ', T', S') := by
  rcases q with ⟨l, Δ, e1, e2, s, o, e3, g⟩ | ⟨l, Δ, a1, a2, a3, a4, a5, a6, a7, a8⟩ | ⟨l, Δ, a1, a2, a3, a4, a5, a6, a7, a8⟩
  · left
    have e4 : (S, T) = (S', T') := e3
    injection e4 with e5 e6
    subst e5 e6
    exact ⟨l, Δ, e1, e2, s, o.symm, rfl, g.symm⟩
  · right; right
    exact ⟨l, Δ, a1, a2, a3, a4, a5, a6, a7, a8⟩
  · right; left
    exact ⟨l, Δ, a1, a2, a3, a4, a5, a6, a7, a8⟩
theorem ZR_big : BisG (ZR h B C C' Γ0) (ZR h B C C' Γ0) := by
  intro Γ Γ' S S' T T' q
  refine ⟨q, ZR_swap q, fun _ _ => ?_⟩
  obtain ⟨t1, t2, eS, eT, b1, b2, b3, b4⟩ := ZR_bis _ _ _ _ _ _ q
  have sw := ZR_bis _ _ _ _ _ _ (ZR_swap q)
  obtain ⟨-, -, -, -, c1, c2, c3, c4⟩ := sw
  rcases q with q | q | q
  · obtain ⟨-, -, a1, a2, a3, a4, a5, a6, a7⟩ := ZA_bis _ _ q
    exact ⟨fun v => a3 v, fun _ v => a4 v, fun v1 v2 v3 v4 i hi b1 b2 => Or.inl (a5 v1 v2 v3 v4 i hi b1 b2), fun v1 v2 => ⟨Or.inl (a6 v1 v2).2.1, Or.inl (a6 v1 v2).1⟩, fun v1 v2 e => Or.inl ((a7 v1 v2).2 e)⟩
  · obtain ⟨l, Δ, e1, e2, s, o2, e3, e4, e5, g⟩ := q
    have e3 : S = upb Γ0 Δ (tAll B C) := e3
    have hs : hd S = 2 := by rw [e3, upb_all, hd_all]
    refine ⟨fun v => by omega, fun _ v => ?_, fun v1 => by omega, fun v1 => by omega, fun v1 v2 e => (b4 v1 v2).2 e⟩
    have v0 : hd S ≠ 0 := by omega
    have v1 : hd T ≠ hd S := by omega
    exact ZR_swap (c1 v v0 v1)
  · obtain ⟨l, Δ, e1, e2, s, o2, e3, e4, e5, g⟩ := q
    have e3 : T = upb Γ0 Δ (tAll B C) := e3
    have hs : hd T = 2 := by rw [e3, upb_all, hd_all]
    refine ⟨fun v => ?_, fun _ v => by omega, fun _ _ v3 => by omega, fun _ v2 => by omega, fun v1 v2 e => (b4 v1 v2).2 e⟩
    have v0 : hd T ≠ 0 := by omega
    have v1 : hd S ≠ hd T := by omega
    exact b1 v v0 v1
/-- what is good goes as if the scheme had another body -/
theorem gm_good (s : ZC h B C C' Γ0 l Δ) {S T : Ty} (o1 : ok (cxs Δ Γ0 (tAll B C)).length S = true) (o2 : ok (cxs Δ Γ0 (tAll B C)).length T = true) (g : gq h Γ0.length l S = true ∨ gq h Γ0.length l T = true) (w : Nat) : gm (w, cxs Δ Γ0 (tAll B C), S, T) = gm (w, cxs Δ Γ0 (tAll B C'), S, T) ∧ gn (w, cxs Δ Γ0 (tAll B C), S, T) = gn (w, cxs Δ Γ0 (tAll B C'), S, T) :=
  gm_bis ZR_bis ZR_big (z := (cxs Δ Γ0 (tAll B C), S, T)) (z' := (cxs Δ Γ0 (tAll B C'), S, T)) (Or.inl ⟨l, Δ, rfl, rfl, s, ⟨o1, o2⟩, rfl, g⟩)
theorem trx_good (s : ZC h B C C' Γ0 l Δ) {S T : Ty} (o1 : ok (cxs Δ Γ0 (tAll B C)).length S = true) (o2 : ok (cxs Δ Γ0 (tAll B C)).length T = true) (g : gq h Γ0.length l S = true ∨ gq h Γ0.length l T = true) : trx (cxs Δ Γ0 (tAll B C), S, T) = trx (cxs Δ Γ0 (tAll B C'), S, T) :=
  trx_bis ZR_bis (z := (cxs Δ Γ0 (tAll B C), S, T)) (z' := (cxs Δ Γ0 (tAll B C'), S, T)) (Or.inl ⟨l, Δ, rfl, rfl, s, ⟨o1, o2⟩, rfl, g⟩)
end PmP3
