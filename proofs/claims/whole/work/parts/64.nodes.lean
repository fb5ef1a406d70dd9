/-! THE CLASS: types as nodes; three parts, present or not, for every kind of type. -/
/-- the class's code of a head -/
def cc (c : Nat) : Nat := if c = 1 then 19 else if c = 2 then 35 else if 16 ≤ c then 64 + 8 * (c - 16) else c
/-- the part at that place (nil where there is none) -/
def pt (t : Ty) (g : Nat) : Ty := if hd t < 8 then (if g = 0 then k1 t else if g = 1 then k2 t else .nil) else if hd t < 16 then (if g = 0 then k1 t else if g = 1 then r2 t else r3 t) else .nil
def hp (t : Ty) (g : Nat) : Bool := bit (cc (hd t)) g
theorem bit_19 : bit 19 0 = true ∧ bit 19 1 = true ∧ bit 19 2 = false := by decide
theorem bit_35 : bit 35 0 = true ∧ bit 35 1 = true ∧ bit 35 2 = false := by decide
theorem bit_8 : ∀ m, m < 8 → ∀ g, g < 3 → bit (8 + m) g = bit m g := by decide
theorem bit_v (k g : Nat) (hg : g < 3) : bit (64 + 8 * k) g = false := by
  unfold bit
  rcases (show g = 0 ∨ g = 1 ∨ g = 2 by omega) with rfl | rfl | rfl
  · rw [show (64 + 8 * k) / 2 ^ 0 % 2 = 0 by omega]; rfl
  · rw [show (64 + 8 * k) / 2 ^ 1 % 2 = 0 by omega]; rfl
  · rw [show (64 + 8 * k) / 2 ^ 2 % 2 = 0 by omega]; rfl
theorem hp_top (g : Nat) (hg : g < 3) : hp tTop g = false := by
  rcases (show g = 0 ∨ g = 1 ∨ g = 2 by omega) with rfl | rfl | rfl <;> decide
theorem hp_var (k g : Nat) (hg : g < 3) : hp (tVar k) g = false := by
  unfold hp cc
  rw [hd_var, if_neg (by omega), if_neg (by omega), if_pos (by omega), show 16 + k - 16 = k by omega]
  exact bit_v k g hg
theorem hp_fun (a b : Ty) : hp (tFun a b) 0 = true ∧ hp (tFun a b) 1 = true ∧ hp (tFun a b) 2 = false := bit_19
theorem hp_all (a b : Ty) : hp (tAll a b) 0 = true ∧ hp (tAll a b) 1 = true ∧ hp (tAll a b) 2 = false := bit_35
theorem cc_rec {m : Nat} (hm : m < 8) : cc (8 + m) = 8 + m := by
  unfold cc
  rw [if_neg (by omega), if_neg (by omega), if_neg (by omega)]
theorem hp_rec {m : Nat} (hm : m < 8) (x y z : Ty) (g : Nat) (hg : g < 3) : hp (tRec m x y z) g = bit m g := by
  unfold hp
  rw [hd_rec, cc_rec hm]
  exact bit_8 m hm g hg
theorem pt_fun (a b : Ty) : pt (tFun a b) 0 = a ∧ pt (tFun a b) 1 = b ∧ pt (tFun a b) 2 = .nil := ⟨rfl, rfl, rfl⟩
theorem pt_all (a b : Ty) : pt (tAll a b) 0 = a ∧ pt (tAll a b) 1 = b ∧ pt (tAll a b) 2 = .nil := ⟨rfl, rfl, rfl⟩
theorem pt_rec {m : Nat} (hm : m < 8) (x y z : Ty) : pt (tRec m x y z) 0 = x ∧ pt (tRec m x y z) 1 = y ∧ pt (tRec m x y z) 2 = z := by
  refine ⟨?_, ?_, ?_⟩ <;> (unfold pt; rw [hd_rec, if_neg (by omega), if_pos (by omega)]; rfl)
theorem cc_cases (c : Nat) : (c = 1 ∧ cc c = 19) ∨ (c = 2 ∧ cc c = 35) ∨ (16 ≤ c ∧ cc c = 64 + 8 * (c - 16)) ∨ (c ≠ 1 ∧ c ≠ 2 ∧ c < 16 ∧ cc c = c) := by
  unfold cc
  by_cases h1 : c = 1
  · exact Or.inl ⟨h1, by rw [if_pos h1]⟩
  · by_cases h2 : c = 2
    · exact Or.inr (Or.inl ⟨h2, by rw [if_neg h1, if_pos h2]⟩)
    · by_cases h3 : 16 ≤ c
      · exact Or.inr (Or.inr (Or.inl ⟨h3, by rw [if_neg h1, if_neg h2, if_pos h3]⟩))
      · exact Or.inr (Or.inr (Or.inr ⟨h1, h2, by omega, by rw [if_neg h1, if_neg h2, if_neg h3]⟩))
theorem cc_eq {c c' : Nat} (e : cc c = cc c') : c = c' := by
  have h := cc_cases c
  have h' := cc_cases c'
  omega
theorem cc_inj {d d' : Nat} {S T : Ty} (hS : ok d S = true) (hT : ok d' T = true) (e : cc (hd S) = cc (hd T)) : hd S = hd T := cc_eq e
theorem cc_small {d : Nat} {S : Ty} (hS : ok d S = true) (hd2 : d ≤ 3000) : cc (hd S) < 1000000 := by
  have := hd_le hS
  unfold cc
  split
  · omega
  · split
    · omega
    · split <;> omega
theorem pt_ok {d : Nat} {S : Ty} (hS : ok d S = true) {g : Nat} (hg : g < 3) (h : hp S g = true) : ∃ d', d' ≤ d + 1 ∧ ok d' (pt S g) = true := by
  rcases ok_cases hS with rfl | ⟨k, -, rfl⟩ | ⟨a, b, rfl, ha, hb⟩ | ⟨a, b, rfl, ha, hb⟩ | ⟨m, x, y, z, hm, rfl, h0, h1, h2⟩
  · rw [hp_top g hg] at h; cases h
  · rw [hp_var k g hg] at h; cases h
  · rcases (show g = 0 ∨ g = 1 ∨ g = 2 by omega) with rfl | rfl | rfl
    · exact ⟨d, by omega, ha⟩
    · exact ⟨d, by omega, hb⟩
    · rw [(hp_fun a b).2.2] at h; cases h
  · rcases (show g = 0 ∨ g = 1 ∨ g = 2 by omega) with rfl | rfl | rfl
    · exact ⟨d, by omega, ha⟩
    · exact ⟨d + 1, Nat.le_refl _, hb⟩
    · rw [(hp_all a b).2.2] at h; cases h
  · rw [hp_rec hm x y z g hg] at h
    rcases (show g = 0 ∨ g = 1 ∨ g = 2 by omega) with rfl | rfl | rfl
    · rw [(pt_rec hm x y z).1]; exact ⟨d, by omega, okl_on h0 (bit_iff.mp h)⟩
    · rw [(pt_rec hm x y z).2.1]; exact ⟨d, by omega, okl_on h1 (bit_iff.mp h)⟩
    · rw [(pt_rec hm x y z).2.2]; exact ⟨d, by omega, okl_on h2 (bit_iff.mp h)⟩
theorem eq_parts {d d' : Nat} {S T : Ty} (hS : ok d S = true) (hT : ok d' T = true) (e : hd S = hd T) (h : ∀ g, g < 3 → hp S g = true → pt S g = pt T g) : S = T := by
  rcases ok_cases hS with rfl | ⟨k, -, rfl⟩ | ⟨a, b, rfl, ha, hb⟩ | ⟨a, b, rfl, ha, hb⟩ | ⟨m, x, y, z, hm, rfl, h0, h1, h2⟩ <;> rcases ok_cases hT with rfl | ⟨k', -, rfl⟩ | ⟨a', b', rfl, ha', hb'⟩ | ⟨a', b', rfl, ha', hb'⟩ | ⟨m', x', y', z', hm', rfl, h0', h1', h2'⟩ <;> simp only [hd_top, hd_var, hd_fun, hd_all, hd_rec] at e <;> first | omega | skip
  · rfl
  · have : k = k' := by omega
    rw [this]
  · have e0 := h 0 (by decide) (hp_fun a b).1
    have e1 := h 1 (by decide) (hp_fun a b).2.1
    rw [(pt_fun a b).1, (pt_fun a' b').1] at e0
    rw [(pt_fun a b).2.1, (pt_fun a' b').2.1] at e1
    rw [e0, e1]
  · have e0 := h 0 (by decide) (hp_all a b).1
    have e1 := h 1 (by decide) (hp_all a b).2.1
    rw [(pt_all a b).1, (pt_all a' b').1] at e0
    rw [(pt_all a b).2.1, (pt_all a' b').2.1] at e1
    rw [e0, e1]
  · have em : m = m' := by omega
    subst em
    have key : ∀ (g : Nat) (p q : Ty), g < 3 → okl d m g p → okl d' m g q → (bit m g = true → p = q) → p = q := by
      intro g p q hg hp hq hpq
      unfold okl at hp hq
      by_cases hb : bit m g = true
      · exact hpq hb
      · rw [if_neg hb] at hp hq
        rw [hp, hq]
    have e0 := key 0 x x' (by decide) h0 h0' (fun hb => by have := h 0 (by decide) (by rw [hp_rec hm x y z 0 (by decide)]; exact hb); rwa [(pt_rec hm x y z).1, (pt_rec hm x' y' z').1] at this)
    have e1 := key 1 y y' (by decide) h1 h1' (fun hb => by have := h 1 (by decide) (by rw [hp_rec hm x y z 1 (by decide)]; exact hb); rwa [(pt_rec hm x y z).2.1, (pt_rec hm x' y' z').2.1] at this)
    have e2 := key 2 z z' (by decide) h2 h2' (fun hb => by have := h 2 (by decide) (by rw [hp_rec hm x y z 2 (by decide)]; exact hb); rwa [(pt_rec hm x y z).2.2, (pt_rec hm x' y' z').2.2] at this)
    rw [e0, e1, e2]
/-- node i is of this code and size, and its parts are nodes -/
def nh (M : pm_M) (Rf : Nat → Nat → Nat) (cn i : Int) (c l : Nat) : Prop := 0 ≤ i ∧ i < cn ∧ M (Rf 6 0) i = (c : Int) ∧ M (Rf 6 4) i = (l : Int) ∧ ∀ g, g < 3 → 0 ≤ M (Rf 6 (1 + g)) i ∧ M (Rf 6 (1 + g)) i < cn
/-- node i stands for this type (no deeper than the first number) -/
def ndf (M : pm_M) (Rf : Nat → Nat → Nat) (cn : Int) : Nat → Ty → Int → Prop
  | 0, _, _ => False
  | N + 1, t, i => nh M Rf cn i (cc (hd t)) (flat t).length ∧ ∀ g, g < 3 → hp t g = true → ndf M Rf cn N (pt t g) (M (Rf 6 (1 + g)) i)
theorem ndf_mono {M M' : pm_M} {Rf Rf' : Nat → Nat → Nat} {cn cn' : Int} (e : ∀ g, g < 5 → ∀ i : Int, 0 ≤ i → i < cn → M' (Rf' 6 g) i = M (Rf 6 g) i) (hc : cn ≤ cn') : ∀ {N N' : Nat} {t : Ty} {i : Int}, N ≤ N' → ndf M Rf cn N t i → ndf M' Rf' cn' N' t i
  | 0, _, _, _, _, h => h.elim
  | N + 1, 0, _, _, h, _ => absurd h (by omega)
  | N + 1, N' + 1, t, i, hN, h => by
    obtain ⟨⟨h0, h1, h2, h3, h4⟩, hp⟩ := h
    refine ⟨⟨h0, by omega, by rw [e 0 (by decide) i h0 h1]; exact h2, by rw [e 4 (by decide) i h0 h1]; exact h3, fun g hg => ?_⟩, fun g hg hb => ?_⟩
    · rw [e (1 + g) (by omega) i h0 h1]
      have := h4 g hg
      omega
    · rw [e (1 + g) (by omega) i h0 h1]
      exact ndf_mono e hc (by omega) (hp g hg hb)
theorem ndf_inj {M : pm_M} {Rf : Nat → Nat → Nat} {cn : Int} : ∀ {N N' : Nat} {S T : Ty} {i : Int} {d d' : Nat}, ok d S = true → ok d' T = true → ndf M Rf cn N S i → ndf M Rf cn N' T i → S = T
  | 0, _, _, _, _, _, _, _, _, h, _ => h.elim
  | N + 1, 0, _, _, _, _, _, _, _, _, h => h.elim
  | N + 1, N' + 1, S, T, i, d, d', hS, hT, h, h' => by
    obtain ⟨⟨-, -, h2, -, -⟩, hp1⟩ := h
    obtain ⟨⟨-, -, h2', -, -⟩, hp2⟩ := h'
    have e : cc (hd S) = cc (hd T) := by omega
    have e2 := cc_inj hS hT e
    refine eq_parts hS hT e2 (fun g hg hb => ?_)
    have hb' : hp T g = true := by unfold hp at hb ⊢; rw [← e2]; exact hb
    obtain ⟨d1, -, o1⟩ := pt_ok hS hg hb
    obtain ⟨d2, -, o2⟩ := pt_ok hT hg hb'
    exact ndf_inj o1 o2 (hp1 g hg hb) (hp2 g hg hb')
section PmC4
variable {d : Nat} {M N : pm_M} {Rf : Nat → Nat → Nat} {K L : Nat → Nat} {n s : Nat}
theorem c_part {Q : Option Value → pm_S → Prop} {z g : Nat} {i : Int} (hG : pm_G Rf K L n) (hR : RmI Rf K L n z) (i0 : 0 ≤ i) (i1 : i < z) (hg : g < 3) (h : Q (some (.int (zI (M (Rf 6 (1 + g)) i)))) (zM M, Rf, K, L, n, s)) : pm_Wc (d + 1) 34 [.ref 6, .int (zI i), .int (zI (g : Int))] (zM M, Rf, K, L, n, s) Q := by
  have hz := hR.2.2.2.2
  refine wc_in (ls0 := [some (.ref 6), some (.int (zI i)), some (.int (zI (g : Int)))]) (by decide) (Nat.le_of_ble_eq_true rfl) rfl rfl ?_
  refine wp_iload_n d34_0 rfl ?_
  refine wz_if_ne (t := 13) d34_1 (by decide) ⟨by omega, by omega⟩ (fun hb => ?_) (fun hb => ?_)
  · refine wp_iload_n d34_13 rfl ?_
    refine wz_iconst d34_14 ?_
    refine wz_icmp_ne (t := 27) d34_15 (by decide) ⟨by omega, by omega⟩ ⟨by omega, by omega⟩ (fun hb' => ?_) (fun hb' => ?_)
    · have e : g = 2 := by omega
      subst e
      refine wp_aload_n d34_27 rfl ?_
      refine wp_getR (q := Rf 6 3) d34_28 rfl (hG.o (by decide) rfl) (by decide) rfl (hR.1 3 (by decide)).1 ?_
      refine wp_iload_n d34_31 rfl ?_
      refine wz_iald (z := z) (v := M (Rf 6 3) i) d34_32 (hR.1 3 (by decide)) i0 i1 (by omega) rfl ?_
      exact wp_ret d34_33 rfl h
    · have e : g = 1 := by omega
      subst e
      refine wp_aload_n d34_18 rfl ?_
      refine wp_getR (q := Rf 6 2) d34_19 rfl (hG.o (by decide) rfl) (by decide) rfl (hR.1 2 (by decide)).1 ?_
      refine wp_iload_n d34_22 rfl ?_
      refine wz_iald (z := z) (v := M (Rf 6 2) i) d34_23 (hR.1 2 (by decide)) i0 i1 (by omega) rfl ?_
      refine wp_goto (t := 33) d34_24 (by decide) ?_
      exact wp_ret d34_33 rfl h
  · have e : g = 0 := by omega
    subst e
    refine wp_aload_n d34_4 rfl ?_
    refine wp_getR (q := Rf 6 1) d34_5 rfl (hG.o (by decide) rfl) (by decide) rfl (hR.1 1 (by decide)).1 ?_
    refine wp_iload_n d34_8 rfl ?_
    refine wz_iald (z := z) (v := M (Rf 6 1) i) d34_9 (hR.1 1 (by decide)) i0 i1 (by omega) rfl ?_
    refine wp_goto (t := 33) d34_10 (by decide) ?_
    exact wp_ret d34_33 rfl h
end PmC4
