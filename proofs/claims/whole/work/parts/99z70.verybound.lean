/-! EXACT FORMS OF BODIES THAT HOLD THE VERY BOUND, which is any closed type. -/
def inx (d : Nat) (c : Int) : Int := if c < 0 then 15 + (d : Int) - c else c
theorem xf_low : ∀ (f : Nat) (t : Ty) (D i n : Nat), (flat t).length ≤ f → ok D t = true → i < n → xf (D + n) i (lft 0 n t) = 0
  | 0, t, D, i, n, hf, o, _ => by have := flat_pos o; omega
  | f + 1, t, D, i, n, hf, o, hi => by
    rcases ok_cases o with rfl | ⟨j, hj, rfl⟩ | ⟨a, c, rfl, ha, hb⟩ | ⟨a, c, rfl, ha, hb⟩ | ⟨m, x, y, z, hm, rfl, h0, h1, h2⟩
    · rw [lft_top, xf_top]
    · rw [lft_var, if_pos (Nat.zero_le _), xf_var, if_neg (by omega)]
    · rw [flat_fun, List.length_cons, List.length_append] at hf
      rw [lft_fun, xf_fun, xf_low f a D i n (by omega) ha hi, xf_low f c D i n (by omega) hb hi]
    · rw [flat_all, List.length_cons, List.length_append] at hf
      have q := xf_low f c (D + 1) i n (by omega) hb hi
      rw [show D + 1 + n = D + n + 1 by omega] at q
      rw [lft_all, xf_all, xf_low f a D i n (by omega) ha hi, q]
      omega
    · rw [flat_rec, List.length_cons, List.length_append, List.length_append] at hf
      have key : ∀ (g : Nat) (p : Ty), (flat p).length ≤ f → okl D m g p → xf (D + n) i (lft 0 n p) = 0 := by
        intro g p hp ho
        unfold okl at ho
        by_cases hb : bit m g = true
        · rw [if_pos hb] at ho
          exact xf_low f p D i n hp ho hi
        · rw [if_neg hb] at ho
          rw [ho, show lft 0 n Lean.Format.nil = Lean.Format.nil from rfl, xf_nil]
      rw [lft_rec hm, xf_rec, key 0 x (by omega) h0, key 1 y (by omega) h1, key 2 z (by omega) h2]
theorem xt_l0 {B : Ty} (o : ok 0 B = true) (d : Nat) : xt d (lft 0 d B) = 0 := by
  unfold xt
  have q : sms d (fun j => xf d j (lft 0 d B)) ≤ sms d (fun _ => 0) := sms_le (fun j hj => by
    have := xf_low _ B 0 j d (Nat.le_refl _) o hj
    rw [Nat.zero_add] at this
    rw [this]
    exact Nat.le_refl _)
  rw [sms_zero] at q
  omega
theorem ok_l0 {B : Ty} (o : ok 0 B = true) (d : Nat) : ok d (lft 0 d B) = true := by
  have q := ok_lft 0 d B 0 o
  rw [show 0 + d + 0 = d by omega] at q
  exact q
theorem codes_nn : ∀ (f : Nat) (t : Ty) (d : Nat), (flat t).length ≤ f → ok d t = true → ∀ c ∈ flat t, 0 ≤ c
  | 0, t, d, hf, o => by have := flat_pos o; omega
  | f + 1, t, d, hf, o => by
    rcases ok_cases o with rfl | ⟨j, hj, rfl⟩ | ⟨a, c, rfl, ha, hb⟩ | ⟨a, c, rfl, ha, hb⟩ | ⟨m, x, y, z, hm, rfl, h0, h1, h2⟩
    · intro c hc
      rw [show flat tTop = [0] from rfl, List.mem_singleton] at hc
      omega
    · intro c hc
      rw [show flat (tVar j) = [((16 + j : Nat) : Int)] from rfl, List.mem_singleton] at hc
      omega
    · rw [flat_fun, List.length_cons, List.length_append] at hf
      intro c' hc
      rw [flat_fun, List.mem_cons, List.mem_append] at hc
      rcases hc with hc | hc | hc
      · omega
      · exact codes_nn f a d (by omega) ha c' hc
      · exact codes_nn f c d (by omega) hb c' hc
    · rw [flat_all, List.length_cons, List.length_append] at hf
      intro c' hc
      rw [flat_all, List.mem_cons, List.mem_append] at hc
      rcases hc with hc | hc | hc
      · omega
      · exact codes_nn f a d (by omega) ha c' hc
      · exact codes_nn f c (d + 1) (by omega) hb c' hc
    · rw [flat_rec, List.length_cons, List.length_append, List.length_append] at hf
      intro c' hc
      rw [flat_rec, List.mem_cons, List.mem_append, List.mem_append] at hc
      have key : ∀ (i : Nat) (u : Ty), okl d m i u → (flat u).length ≤ f → c' ∈ flat u → 0 ≤ c' := by
        intro i u ou lu cu
        unfold okl at ou
        by_cases hb : bit m i = true
        · rw [if_pos hb] at ou
          exact codes_nn f u d lu ou c' cu
        · rw [if_neg hb] at ou
          rw [ou] at cu
          cases cu
      rcases hc with hc | hc | hc | hc
      · omega
      · exact key 0 x h0 (by omega) hc
      · exact key 1 y h1 (by omega) hc
      · exact key 2 z h2 (by omega) hc
theorem tqN_l0 {B a : Ty} {d : Nat} (oB : ok 0 B = true) (oa : ok d a = true) (h : tqN B 0 d a = true) : a = lft 0 d B := by
  unfold tqN at h
  rw [decide_eq_true_iff] at h
  refine flat_eq oa (ok_l0 oB d) ?_
  have c1 := codes_nn _ a d (Nat.le_refl _) oa
  have c2 := codes_nn _ B 0 (Nat.le_refl _) oB
  have e1 : ((flat a).map (nfx d)).map (inx d) = flat a := by
    rw [List.map_map]
    have : (flat a).map (inx d ∘ nfx d) = (flat a).map id := List.map_congr_left (fun c hc => by
      have q := c1 c hc
      show inx d (nfx d c) = c
      by_cases g : 16 + (d : Int) ≤ c
      · rw [nfx_hi g]
        unfold inx
        rw [if_pos (by omega)]
        omega
      · rw [nfx_lo g]
        unfold inx
        rw [if_neg (by omega)])
    rw [this, List.map_id]
  have e2 : ((flat B).map (nfx 0)).map (inx d) = flat (lft 0 d B) := by
    rw [List.map_map, flat_lft]
    refine List.map_congr_left (fun c hc => ?_)
    have q := c2 c hc
    show inx d (nfx 0 c) = lfc 0 d c
    by_cases g : 16 + ((0 : Nat) : Int) ≤ c
    · rw [nfx_hi g, lfc_hi g]
      unfold inx
      rw [if_pos (by omega)]
      omega
    · rw [nfx_lo g, lfc_lo g]
      unfold inx
      rw [if_neg (by omega)]
  rw [← e1, h, e2]
section PmHf9
variable {B : Ty} {t0 s2 hv : Nat} {n1 : Nat → Nat}
theorem sN_top (D : Nat) : sN B 0 D tTop = false := by simp [tTop, sN]
theorem sN_var (D k : Nat) : sN B 0 D (tVar k) = false := by simp [tVar, sN]
theorem sN_nil (D : Nat) : sN B 0 D .nil = false := by simp [sN]
theorem fld_isN {d m i : Nat} {p : Ty} (o : okl d m i p) : (∀ q ∈ fld m i p, ok d q = true ∧ (flat q).length ≤ (flat p).length) ∧ (fld m i p).length = (if bit m i then 1 else 0) ∧ ((fld m i p).map (xt d)).sum = xt d p ∧ ((fld m i p).map (xa t0 n1 s2 hv d)).sum = xa t0 n1 s2 hv d p ∧ ((fld m i p).map tch).sum = tch p ∧ (fld m i p).any (sN B 0 d) = sN B 0 d p := by
  unfold okl at o
  unfold fld
  by_cases hb : bit m i = true
  · rw [if_pos hb] at o
    rw [if_pos hb, if_pos hb]
    refine ⟨fun q hq => ?_, rfl, by simp, by simp, by simp, by simp⟩
    rw [List.mem_singleton] at hq
    rw [hq]
    exact ⟨o, Nat.le_refl _⟩
  · rw [if_neg hb] at o
    rw [if_neg hb, if_neg hb, o, xt_nil, xa_nil, tch_nil, sN_nil]
    exact ⟨fun q hq => (by cases hq), rfl, rfl, rfl, rfl, rfl⟩
theorem rec_listN {d m : Nat} {x y z : Ty} (o0 : okl d m 0 x) (o1 : okl d m 1 y) (o2 : okl d m 2 z) : ∃ l : List Ty, (∀ q ∈ l, ok d q = true ∧ (flat q).length < (flat (tRec m x y z)).length) ∧ l.length = nlb m ∧ (l.map (xt d)).sum = xt d (tRec m x y z) ∧ n1 (8 + m) + (l.map (xa t0 n1 s2 hv d)).sum = xa t0 n1 s2 hv d (tRec m x y z) ∧ rch m + (l.map tch).sum = tch (tRec m x y z) ∧ l.any (sN B 0 d) = sN B 0 d (tRec m x y z) := by
  obtain ⟨a0, b0, c0, e0, f0, g0⟩ := fld_isN (B := B) (t0 := t0) (n1 := n1) (s2 := s2) (hv := hv) o0
  obtain ⟨a1, b1, c1, e1, f1, g1⟩ := fld_isN (B := B) (t0 := t0) (n1 := n1) (s2 := s2) (hv := hv) o1
  obtain ⟨a2, b2, c2, e2, f2, g2⟩ := fld_isN (B := B) (t0 := t0) (n1 := n1) (s2 := s2) (hv := hv) o2
  have lt : ∀ q : Ty, ((flat q).length ≤ (flat x).length ∨ (flat q).length ≤ (flat y).length ∨ (flat q).length ≤ (flat z).length) → (flat q).length < (flat (tRec m x y z)).length := by
    intro q hq
    rw [flat_rec, List.length_cons, List.length_append, List.length_append]
    omega
  refine ⟨fld m 0 x ++ (fld m 1 y ++ fld m 2 z), fun q hq => ?_, ?_, ?_, ?_, ?_, ?_⟩
  · rcases List.mem_append.mp hq with h | h
    · exact ⟨(a0 q h).1, lt q (Or.inl (a0 q h).2)⟩
    · rcases List.mem_append.mp h with h | h
      · exact ⟨(a1 q h).1, lt q (Or.inr (Or.inl (a1 q h).2))⟩
      · exact ⟨(a2 q h).1, lt q (Or.inr (Or.inr (a2 q h).2))⟩
  · rw [List.length_append, List.length_append, b0, b1, b2]
    unfold nlb
    omega
  · rw [List.map_append, List.map_append, List.sum_append, List.sum_append, c0, c1, c2, xt_rec]
  · rw [List.map_append, List.map_append, List.sum_append, List.sum_append, e0, e1, e2, xa_rec]
  · rw [List.map_append, List.map_append, List.sum_append, List.sum_append, f0, f1, f2, tch_rec]
  · rw [List.any_append, List.any_append, g0, g1, g2, sN_rec]
end PmHf9
section PmHg9
variable {B : Ty} {F G Ff Gf : FrT} {be aB t0 fn s2 hv r0 r1 r2 r3 : Nat} {n1 : Nat → Nat}
theorem xn_form (hc : xrc F G t0 fn s2 hv r0 r1 r2 r3 = true) (hcf : xgc be aB F Ff Gf fn s2 hv r1 r2 r3 = true) (hmf : ∀ {k k2 : Nat}, k ≤ k2 → k2 ≤ 40 → ∀ v ∈ frg Ff k, ∃ w ∈ frg Ff k2, v.1 ≤ w.1 ∧ v.2 ≤ w.2) (hf1 : n1 1 ≤ fn) (hr : ∀ m, m < 8 → n1 (8 + m) ≤ (if nlb m = 0 then r0 else if nlb m = 1 then r1 else if nlb m = 2 then r2 else r3)) (hK : ok 0 B = true ∧ be ≤ tch B ∧ ∀ d, XFm t0 n1 s2 hv d (lft 0 d B) 0 aB) : ∀ (f : Nat) (t : Ty) (d : Nat), (flat t).length ≤ f → ok d t = true → tch t ≤ 40 → sN B 0 d t = true → ∃ p ∈ frg Ff (tch t), XFm t0 n1 s2 hv d t p.1 p.2
  | 0, t, d, hf, o, _, _ => by have := flat_pos o; omega
  | f + 1, t, d, hf, o, hk, hp => by
    have fin : ∀ {l a : Nat} {t : Ty} {k : Nat}, XFm t0 n1 s2 hv d t l a → dom l a (frg Ff k) = true → ∃ p ∈ frg Ff k, XFm t0 n1 s2 hv d t p.1 p.2 := by
      intro l a t k g hd
      obtain ⟨p, hp, h1, h2⟩ := dom_ex hd
      exact ⟨p, hp, g.mono h1 h2⟩
    have all : ∀ (t : Ty) (d : Nat), ok d t = true → tch t ≤ 40 → ∃ p ∈ frg F (tch t), XFm t0 n1 s2 hv d t p.1 p.2 := fun t d o hk => xr_form hc hf1 hr _ t d (Nat.le_refl _) o hk
    have ih := fun t d => xn_form hc hcf hmf hf1 hr hK f t d
    rcases ok_cases o with rfl | ⟨j, hj, rfl⟩ | ⟨a, c, rfl, ha, hb⟩ | ⟨a, c, rfl, ha, hb⟩ | ⟨m, x, y, z, hm, rfl, h0, h1, h2⟩
    · rw [sN_top] at hp; cases hp
    · rw [sN_var] at hp; cases hp
    · rw [flat_fun, List.length_cons, List.length_append] at hf
      rw [tch_fun] at hk ⊢
      have pa := tch_pos ha
      have pc := tch_pos hb
      rw [sN_fun, Bool.or_eq_true] at hp
      rcases hp with hp | hp
      · obtain ⟨p, hp', fp⟩ := ih a d (by omega) ha (by omega) hp
        obtain ⟨q, hq, fq⟩ := all c d hb (by omega)
        rw [show 3 + (tch a + tch c) = tch a + tch c + 3 by omega]
        exact fin ((XFm_fun fp fq).mono (Nat.le_refl _) (show n1 1 + p.2 + q.2 ≤ fn + p.2 + q.2 by omega)) ((xgc_p hcf pa pc (by omega)).2.1 (by omega) p hp' q hq)
      · obtain ⟨p, hp', fp⟩ := ih c d (by omega) hb (by omega) hp
        obtain ⟨q, hq, fq⟩ := all a d ha (by omega)
        rw [show 3 + (tch a + tch c) = tch c + tch a + 3 by omega]
        exact fin ((XFm_fun fq fp).mono (show q.1 + p.1 ≤ p.1 + q.1 by omega) (show n1 1 + q.2 + p.2 ≤ fn + p.2 + q.2 by omega)) ((xgc_p hcf pc pa (by omega)).2.1 (by omega) p hp' q hq)
    · rw [flat_all, List.length_cons, List.length_append] at hf
      rw [tch_all] at hk ⊢
      have pa := tch_pos ha
      have pc := tch_pos hb
      have fin2 : ∀ {p q : Nat × Nat} {k : Nat}, XFm t0 n1 s2 hv d a p.1 p.2 → XFm t0 n1 s2 hv (d + 1) c q.1 q.2 → hsp s2 hv p q (frg Ff k) = true → ∃ v ∈ frg Ff k, XFm t0 n1 s2 hv d (tAll a c) v.1 v.2 := by
        intro p q k fp fq hs
        obtain ⟨u, hu, g⟩ := XFm_all fp fq
        obtain ⟨v, hv', g1, g2⟩ := hsp_dom hs hu
        exact ⟨v, hv', g.mono g1 g2⟩
      rw [sN_all, Bool.or_eq_true, Bool.or_eq_true] at hp
      rcases hp with hp | hp | hp
      · obtain ⟨q, hq, fq⟩ := all c (d + 1) hb (by omega)
        have ea : a = lft 0 d B := tqN_l0 hK.1 ha hp
        have et : tch a = tch B := by rw [ea]; exact tch_lft 0 d B 0 hK.1
        subst ea
        obtain ⟨v, hv', g⟩ := fin2 (p := (0, aB)) (k := tch c + 4 + be) (hK.2.2 d) fq (xgc_s hcf pc (by omega) hq)
        obtain ⟨v2, hv2, m1, m2⟩ := hmf (show tch c + 4 + be ≤ 4 + (tch (lft 0 d B) + tch c) by omega) (by omega) v hv'
        exact ⟨v2, hv2, g.mono m1 m2⟩
      · obtain ⟨p, hp', fp⟩ := ih a d (by omega) ha (by omega) hp
        obtain ⟨q, hq, fq⟩ := all c (d + 1) hb (by omega)
        rw [show 4 + (tch a + tch c) = tch a + tch c + 4 by omega]
        exact fin2 fp fq (((xgc_p hcf pa pc (by omega)).2.2.1 (by omega)).1 p hp' q hq)
      · obtain ⟨p, hp', fp⟩ := all a d ha (by omega)
        obtain ⟨q, hq, fq⟩ := ih c (d + 1) (by omega) hb (by omega) hp
        rw [show 4 + (tch a + tch c) = tch a + tch c + 4 by omega]
        exact fin2 fp fq (((xgc_p hcf pa pc (by omega)).2.2.1 (by omega)).2 p hp' q hq)
    · obtain ⟨l, l1, l2, l3, l4, l5, l6⟩ := rec_listN (B := B) (t0 := t0) (n1 := n1) (s2 := s2) (hv := hv) h0 h1 h2
      have hn := hr m hm
      rw [← l6, List.any_eq_true] at hp
      obtain ⟨p, hp1, hp2⟩ := hp
      have m0 : m ≠ 0 := by
        intro e
        have e2 : nlb m = 0 := by rw [e]; decide
        rw [e2] at l2
        rw [List.eq_nil_of_length_eq_zero l2] at hp1
        cases hp1
      have rc : rch m = 1 + 2 * nlb m := by unfold rch; rw [if_neg m0]
      have op := l1 p hp1
      have pp := tch_pos op.1
      have hk' := hk
      rw [← l5] at hk'
      -- the others
      have key : ∀ (l' : List Ty), l'.length + 1 = nlb m → (∀ q ∈ l', ok d q = true) → tch p + (l'.map tch).sum = (l.map tch).sum → xt d p + (l'.map (xt d)).sum = (l.map (xt d)).sum → xa t0 n1 s2 hv d p + (l'.map (xa t0 n1 s2 hv d)).sum = (l.map (xa t0 n1 s2 hv d)).sum → ∃ v ∈ frg Ff (tch (tRec m x y z)), XFm t0 n1 s2 hv d (tRec m x y z) v.1 v.2 := by
        intro l' e1 e2 e3 e4 e5
        have le : tch p ≤ 40 := by omega
        obtain ⟨v, hv', f1, f2⟩ := ih p d (by omega) op.1 le hp2
        rw [rc] at l5 hk'
        match l', e1, e2, e3, e4, e5 with
        | [], e1, e2, e3, e4, e5 =>
          simp only [List.map_nil, List.sum_nil, List.length_nil] at e1 e3 e4 e5
          rw [if_neg (by omega), if_pos (by omega)] at hn
          rw [← l5, show 1 + 2 * nlb m + (l.map tch).sum = tch p + 3 by omega]
          exact fin (show XFm t0 n1 s2 hv d (tRec m x y z) v.1 (r1 + v.2) from ⟨by omega, by omega⟩) (xgc_1 hcf pp (by omega) hv')
        | [q], e1, e2, e3, e4, e5 =>
          simp only [List.map_cons, List.map_nil, List.sum_cons, List.sum_nil, List.length_cons, List.length_nil] at e1 e3 e4 e5
          have oq := e2 q (by simp)
          have pq := tch_pos oq
          obtain ⟨w, hw, g1, g2⟩ := all q d oq (by omega)
          obtain ⟨u, hu, k1, k2⟩ := dom_ex ((xgc_p hcf pp pq (by omega)).1 v hv' w hw)
          rw [if_neg (by omega), if_neg (by omega), if_pos (by omega)] at hn
          rw [← l5, show 1 + 2 * nlb m + (l.map tch).sum = tch p + tch q + 5 by omega]
          exact fin (show XFm t0 n1 s2 hv d (tRec m x y z) u.1 (r2 + u.2) from ⟨by omega, by omega⟩) (xgc_2 hcf (by omega) (by omega) hu)
        | [q, q'], e1, e2, e3, e4, e5 =>
          simp only [List.map_cons, List.map_nil, List.sum_cons, List.sum_nil, List.length_cons, List.length_nil] at e1 e3 e4 e5
          have oq := e2 q (by simp)
          have pq := tch_pos oq
          have oq' := e2 q' (by simp)
          have pq' := tch_pos oq'
          obtain ⟨w, hw, g1, g2⟩ := all q d oq (by omega)
          obtain ⟨w', hw', g1', g2'⟩ := all q' d oq' (by omega)
          obtain ⟨u, hu, k1, k2⟩ := dom_ex ((xgc_p hcf pp pq (by omega)).1 v hv' w hw)
          rw [if_neg (by omega), if_neg (by omega), if_neg (by omega)] at hn
          rw [← l5, show 1 + 2 * nlb m + (l.map tch).sum = (tch p + tch q) + tch q' + 7 by omega]
          exact fin (show XFm t0 n1 s2 hv d (tRec m x y z) (u.1 + w'.1) (r3 + (u.2 + w'.2)) from ⟨by omega, by omega⟩) ((xgc_p hcf (by omega) pq' (by omega)).2.2.2 (by omega) u hu w' hw')
        | _ :: _ :: _ :: _, e1, _, _, _, _ =>
          have nb : nlb m ≤ 3 := by
            unfold nlb
            split <;> split <;> split <;> omega
          simp only [List.length_cons] at e1
          omega
      rw [flat_rec] at hf
      match l, l1, l2, l3, l4, l5, hp1, key with
      | [a], l1, l2, l3, l4, l5, hp1, key =>
        rw [List.mem_singleton] at hp1
        subst hp1
        exact key [] (by simpa using l2) (fun q hq => by cases hq) (by simp) (by simp) (by simp)
      | [a, b], l1, l2, l3, l4, l5, hp1, key =>
        rcases List.mem_cons.mp hp1 with e | e
        · subst e
          exact key [b] (by simpa using l2) (fun q hq => (l1 q (by simp at hq; simp [hq])).1) (by simp) (by simp) (by simp)
        · rw [List.mem_singleton] at e
          subst e
          exact key [a] (by simpa using l2) (fun q hq => (l1 q (by simp at hq; simp [hq])).1) (by simp; omega) (by simp; omega) (by simp; omega)
      | [a, b, c], l1, l2, l3, l4, l5, hp1, key =>
        rcases List.mem_cons.mp hp1 with e | e
        · subst e
          exact key [b, c] (by simpa using l2) (fun q hq => (l1 q (List.mem_cons_of_mem _ hq)).1) (by simp) (by simp) (by simp)
        · rcases List.mem_cons.mp e with e | e
          · subst e
            exact key [a, c] (by simpa using l2) (fun q hq => (l1 q (by rcases List.mem_cons.mp hq with e | e; exact e ▸ List.mem_cons_self ..; exact List.mem_cons_of_mem _ (List.mem_cons_of_mem _ e))).1) (by simp; omega) (by simp; omega) (by simp; omega)
          · rw [List.mem_singleton] at e
            subst e
            exact key [a, b] (by simpa using l2) (fun q hq => (l1 q (by rcases List.mem_cons.mp hq with e | e; exact e ▸ List.mem_cons_self ..; exact List.mem_cons_of_mem _ (List.mem_singleton.mp e ▸ List.mem_cons_self ..))).1) (by simp; omega) (by simp; omega) (by simp; omega)
      | [], _, _, _, _, _, hp1, _ => cases hp1
      | _ :: _ :: _ :: _ :: _, _, l2, _, _, _, _, _ =>
        have nb : nlb m ≤ 3 := by
          unfold nlb
          split <;> split <;> split <;> omega
        simp only [List.length_cons] at l2
        omega
end PmHg9
theorem XF_l0 {F G : FrT} {t0 fn s2 hv r0 r1 r2 r3 aB : Nat} {n1 : Nat → Nat} {B : Ty} (hc : xrc F G t0 fn s2 hv r0 r1 r2 r3 = true) (hf1 : n1 1 ≤ fn) (hr : ∀ m, m < 8 → n1 (8 + m) ≤ (if nlb m = 0 then r0 else if nlb m = 1 then r1 else if nlb m = 2 then r2 else r3)) (o : ok 0 B = true) (hk : tch B ≤ 40) (ha : (frg F (tch B)).all (fun v => Nat.ble v.2 aB) = true) (d : Nat) : XFm t0 n1 s2 hv d (lft 0 d B) 0 aB := by
  have et := tch_lft 0 d B 0 o
  obtain ⟨v, hv, -, f2⟩ := xr_form (hv := hv) hc hf1 hr _ (lft 0 d B) d (Nat.le_refl _) (ok_l0 o d) (by omega)
  rw [et] at hv
  exact ⟨Nat.le_of_eq (xt_l0 o d), Nat.le_trans f2 (Nat.le_of_ble_eq_true (List.all_eq_true.mp ha v hv))⟩
