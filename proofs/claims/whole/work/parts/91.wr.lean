/-! WRITING A TYPE: the characters; the class's writeOn. -/
theorem wz_i2c {mi pc : Nat} {X : pm_X} {d : Nat} {ls : pm_L} {st : List Value} {σ : pm_S} {Q : Option Value → pm_S → Prop} {a : Int} (hd : decode (pm_code mi) pc = .ok (.i2c, 1)) (a0 : 0 ≤ a) (a1 : a < 65536) (h : pm_Wp X d mi (pc + 1) ls (.int (zI a) :: st) σ Q) : pm_Wp X d mi pc ls (.int (zI a) :: st) σ Q := by
  refine wp_i2c hd ?_
  obtain ⟨k, rfl⟩ := Int.eq_ofNat_of_zero_le a0
  have e : ((zI (k : Int)).toUInt32 % 65536).toInt32 = zI (k : Int) := by
    have := (pk_charN (q := k) (by omega)).1
    rw [← zI_nI] at this
    have e2 : narrow .char (.int (zI (k : Int))) = .int (((zI (k : Int)).toUInt32 % 65536).toInt32) := rfl
    rw [e2] at this
    injection this
  rw [e]
  exact h
theorem wp_retc {mi pc : Nat} {X : pm_X} {d : Nat} {ls : pm_L} {σ : pm_S} {Q : Option Value → pm_S → Prop} {a : Int} (hd : decode (pm_code mi) pc = .ok (.ireturn, 1)) (hk : pm_rk mi = 4) (a0 : 0 ≤ a) (a1 : a < 65536) (h : Q (some (.int (zI a))) σ) : pm_Wp X d mi pc ls [.int (zI a)] σ Q := by
  refine wp_ret hd ?_ h
  rw [hk]
  have h1 : ¬ (zI a < 0) := by
    show ¬ (zI a < zI 0)
    rw [zI_lt ⟨by omega, by omega⟩ ⟨by omega, by omega⟩]; omega
  have h2 : zI a ≤ 65535 := by
    show zI a ≤ zI 65535
    rw [zI_le ⟨by omega, by omega⟩ ⟨by omega, by omega⟩]; omega
  unfold pm_ret
  simp [h1, h2]
/-- what stands before a type's parts, before the part at a place, behind its parts -/
def wh (o h : Nat) : List Int := if h = 0 then [84] else if h = 1 then [40] else if h = 2 then [60, 80 + (o : Int), 58] else if h < 16 then [91] else [80 + ((h - 16 : Nat) : Int)]
def wsep (h g : Nat) : List Int := if h < 8 then (if g = 1 then [62] else []) else (if h % 2 ^ g ≠ 0 then [44] else []) ++ [120 + (g : Int)]
def wend (h : Nat) : List Int := if h = 1 then [41] else if 8 ≤ h ∧ h < 16 then [93] else []
/-- the characters of the parts, by a function for a part's characters -/
def wpu (w : Nat → Ty → List Int) (o : Nat) (t : Ty) : Nat → List Int
  | 0 => []
  | g + 1 => wpu w o t g ++ (if hp t g = true then wsep (hd t) g ++ w (if hd t = 2 ∧ g = 1 then o + 1 else o) (pt t g) else [])
/-- the characters of a type -/
def wrf : Nat → Nat → Ty → List Int
  | 0, _, _ => []
  | f + 1, o, t => wh o (hd t) ++ (wpu (wrf f) o t 3 ++ wend (hd t))
theorem wr_top (f o : Nat) : wrf (f + 1) o tTop = [84] := by
  show wh o (hd tTop) ++ (wpu (wrf f) o tTop 3 ++ wend (hd tTop)) = [84]
  simp only [wpu]
  rw [hp_top 0 (by decide), hp_top 1 (by decide), hp_top 2 (by decide), hd_top]
  rfl
theorem wr_var (f o k : Nat) : wrf (f + 1) o (tVar k) = [80 + (k : Int)] := by
  show wh o (hd (tVar k)) ++ (wpu (wrf f) o (tVar k) 3 ++ wend (hd (tVar k))) = _
  simp only [wpu]
  rw [hp_var k 0 (by decide), hp_var k 1 (by decide), hp_var k 2 (by decide), hd_var]
  have e1 : wh o (16 + k) = [80 + (k : Int)] := by
    unfold wh
    rw [if_neg (by omega), if_neg (by omega), if_neg (by omega), if_neg (by omega), show 16 + k - 16 = k by omega]
  have e2 : wend (16 + k) = [] := by
    unfold wend
    rw [if_neg (by omega), if_neg (by omega)]
  rw [e1, e2]
  rfl
theorem wr_fun (f o : Nat) (a b : Ty) : wrf (f + 1) o (tFun a b) = [40] ++ (wrf f o a ++ ([62] ++ (wrf f o b ++ [41]))) := by
  show wh o (hd (tFun a b)) ++ (wpu (wrf f) o (tFun a b) 3 ++ wend (hd (tFun a b))) = _
  simp only [wpu]
  rw [(hp_fun a b).1, (hp_fun a b).2.1, (hp_fun a b).2.2, (pt_fun a b).1, (pt_fun a b).2.1, hd_fun]
  simp [wh, wsep, wend]
theorem wr_all (f o : Nat) (a b : Ty) : wrf (f + 1) o (tAll a b) = [60] ++ ([80 + (o : Int)] ++ ([58] ++ (wrf f o a ++ ([62] ++ wrf f (o + 1) b)))) := by
  show wh o (hd (tAll a b)) ++ (wpu (wrf f) o (tAll a b) 3 ++ wend (hd (tAll a b))) = _
  simp only [wpu]
  rw [(hp_all a b).1, (hp_all a b).2.1, (hp_all a b).2.2, (pt_all a b).1, (pt_all a b).2.1, hd_all]
  simp [wh, wsep, wend]
theorem wr_rec {m : Nat} (hm : m < 8) (f o : Nat) (x y z : Ty) : wrf (f + 1) o (tRec m x y z) = [91] ++ (wpu (wrf f) o (tRec m x y z) 3 ++ [93]) := by
  show wh o (hd (tRec m x y z)) ++ (wpu (wrf f) o (tRec m x y z) 3 ++ wend (hd (tRec m x y z))) = _
  rw [hd_rec]
  unfold wh wend
  rw [if_neg (by omega), if_neg (by omega), if_neg (by omega), if_pos (by omega), if_neg (by omega), if_pos (by omega)]
/-- the page's draft -/
def DR (M : pm_M) (w : List Int) : Prop := M 13 3 = (w.length : Int) ∧ (∀ i : Nat, i < w.length → i < 100 → w[i]? = some (M 15 i)) ∧ ∀ c ∈ w, 0 ≤ c ∧ c < 65536
theorem DR_mem {M : pm_M} {w : List Int} {c : Int} (hw : DR M w) (c0 : 0 ≤ c) (c1 : c < 65536) : ∀ e ∈ w ++ [c], 0 ≤ e ∧ e < 65536 := by
  intro e he
  rcases List.mem_append.mp he with q | q
  · exact hw.2.2 e q
  · rw [List.mem_singleton] at q; omega
/-- only the draft has changed -/
def PGF (M M' : pm_M) : Prop := ∀ (p : Nat) (i : Int), p ≠ 15 → ¬ (p = 13 ∧ i = 3) → M' p i = M p i
theorem PGF.refl (M : pm_M) : PGF M M := fun _ _ _ _ => rfl
theorem PGF.trans {M M1 M2 : pm_M} (h : PGF M M1) (h' : PGF M1 M2) : PGF M M2 := fun p i a b => (h' p i a b).trans (h p i a b)
theorem PGF.nodes {M M' : pm_M} {Rf : Nat → Nat → Nat} {K L : Nat → Nat} {n z : Nat} (h : PGF M M') (hR : RmI Rf K L n z) : ∀ g, g < 5 → ∀ i : Int, M' (Rf 6 g) i = M (Rf 6 g) i := by
  intro g hg i
  have := hR.2.1 g hg
  exact h _ _ (by omega) (by omega)
theorem PGF.ndf {M M' : pm_M} {Rf : Nat → Nat → Nat} {K L : Nat → Nat} {n z N : Nat} {cn i : Int} {t : Ty} (h : PGF M M') (hR : RmI Rf K L n z) (hd : ndf M Rf cn N t i) : ndf M' Rf cn N t i := ndf_mono (fun g hg i _ _ => h.nodes hR g hg i) (Int.le_refl _) (Nat.le_refl _) hd
theorem lt_bits : ∀ h, h < 16 → ∀ g, g < 3 → (bit h g = true → h % 2 ^ (g + 1) ≠ 0) ∧ (¬ bit h g = true → h % 2 ^ (g + 1) = h % 2 ^ g) := by decide
section PmC23
variable {d : Nat} {Q : Option Value → pm_S → Prop} {M : pm_M} {Rf : Nat → Nat → Nat} {K L : Nat → Nat} {n s : Nat}
theorem c_put {w : List Int} {c : Int} (hG : pm_G Rf K L n) (hM : ∀ p i, R32 (M p i)) (hw : DR M w) (hl : w.length < 1000000) (c0 : 0 ≤ c) (c1 : c < 65536) (h : ∀ M' : pm_M, PGF M M' → DR M' (w ++ [c]) → (∀ p i, R32 (M' p i)) → Q none (zM M', Rf, K, L, n, s)) : pm_Wc (d + 1) 64 [.ref 13, .int (zI c)] (zM M, Rf, K, L, n, s) Q := by
  refine wc_in (ls0 := [some (.ref 13), some (.int (zI c))]) (by decide) (Nat.le_of_ble_eq_true rfl) rfl rfl ?_
  refine wp_aload_n d64_0 rfl ?_
  refine wz_getI (v := (w.length : Int)) d64_1 rfl (hG.o (by decide) rfl) (by decide) (hw.1) ?_
  refine wz_bipush d64_4 (by decide) ?_
  refine wz_icmp_ge (t := 19) d64_6 (by decide) ⟨by omega, by omega⟩ ⟨by omega, by omega⟩ (fun hb => ?_) (fun hb => ?_)
  · skip
    refine wp_aload_n d64_19 rfl ?_
    refine wp_dupr d64_20 ?_
    refine wz_getI (v := (w.length : Int)) d64_21 rfl (hG.o (by decide) rfl) (by decide) (hw.1) ?_
    refine wz_iconst d64_24 ?_
    refine wz_iadd d64_25 ?_
    refine wz_putI (i := 3) d64_26 rfl (hG.o (by decide) rfl) rfl (by decide) rfl ?_
    refine wp_ret d64_29 rfl (h _ ?_ ⟨?_, ?_, DR_mem hw c0 c1⟩ (mset_R32 hM ⟨by omega, by omega⟩))
    · intro p i hp hi
      unfold mset
      rw [if_neg hi]
    · rw [mset_s, List.length_append]; simp
    · intro i hi i1
      rw [mset_p _ _ _ _ (by decide), List.getElem?_append_left (by omega)]
      exact hw.2.1 i (by omega) i1
  · skip
    refine wp_aload_n d64_9 rfl ?_
    refine wp_getR (q := 15) d64_10 rfl (hG.o (by decide) rfl) (by decide) (hG.r (by decide +kernel)) (by decide) ?_
    refine wp_aload_n d64_13 rfl ?_
    refine wz_getI (v := (w.length : Int)) d64_14 rfl (hG.o (by decide) rfl) (by decide) (hw.1) ?_
    refine wp_iload_n d64_17 rfl ?_
    refine wz_cast (z := 100) d64_18 (hG.a (by decide) rfl rfl) (by omega) (by omega) (by decide) (by omega) (by omega) ?_
    refine wp_aload_n d64_19 rfl ?_
    refine wp_dupr d64_20 ?_
    refine wz_getI (v := (w.length : Int)) d64_21 rfl (hG.o (by decide) rfl) (by decide) (by rw [mset_p _ _ _ _ (by decide)]; exact hw.1) ?_
    refine wz_iconst d64_24 ?_
    refine wz_iadd d64_25 ?_
    refine wz_putI (i := 3) d64_26 rfl (hG.o (by decide) rfl) rfl (by decide) rfl ?_
    refine wp_ret d64_29 rfl (h _ ?_ ⟨?_, ?_, DR_mem hw c0 c1⟩ (mset_R32 (mset_R32 hM ⟨by omega, by omega⟩) ⟨by omega, by omega⟩))
    · intro p i hp hi
      unfold mset
      rw [if_neg hi, if_neg (fun e => hp e.1)]
    · rw [mset_s, List.length_append]; simp
    · intro i hi i1
      rw [mset_p _ _ _ _ (by decide)]
      by_cases e : i = w.length
      · subst e
        rw [mset_s, List.getElem?_concat_length]
      · rw [List.length_append] at hi
        have hi : i < w.length + 1 := hi
        rw [mset_i _ _ _ _ (by omega), List.getElem?_append_left (by omega)]
        exact hw.2.1 i (by omega) i1
theorem c_nameOf {k : Int} (k0 : 0 ≤ k) (k1 : k < 60000) (h : Q (some (.int (zI (80 + k)))) (zM M, Rf, K, L, n, s)) : pm_Wc (d + 1) 61 [.int (zI k)] (zM M, Rf, K, L, n, s) Q := by
  refine wc_in (ls0 := [some (.int (zI k))]) (by decide) (Nat.le_of_ble_eq_true rfl) rfl rfl ?_
  refine wz_bipush d61_0 (by decide) ?_
  refine wp_iload_n d61_2 rfl ?_
  refine wz_iadd d61_3 ?_
  refine wz_i2c d61_4 (by omega) (by omega) ?_
  exact wp_retc d61_5 rfl (by omega) (by omega) h
theorem c_pbegin (hG : pm_G Rf K L n) (h : Q none (zM (mset M 13 3 0), Rf, K, L, n, s)) : pm_Wc (d + 1) 63 [.ref 13] (zM M, Rf, K, L, n, s) Q := by
  refine wc_in (ls0 := [some (.ref 13)]) (by decide) (Nat.le_of_ble_eq_true rfl) rfl rfl ?_
  refine wp_aload_n d63_0 rfl ?_
  refine wz_iconst d63_1 ?_
  refine wz_putI (i := 3) d63_2 rfl (hG.o (by decide) rfl) rfl (by decide) rfl ?_
  exact wp_ret d63_5 rfl (h)
end PmC23
/-- what writeOn does, N deep -/
def WrC (d N : Nat) : Prop := ∀ (Rf : Nat → Nat → Nat) (K L : Nat → Nat) (n s z D o deep : Nat) (cn i : Int) (t : Ty) (M : pm_M) (w : List Int) (Q : Option Value → pm_S → Prop), pm_G Rf K L n → RmI Rf K L n z → (∀ p i, R32 (M p i)) → cn ≤ z → ndf M Rf cn N t i → ok D t = true → D + N ≤ 1000 → o + N ≤ 1000 → deep + N ≤ 40 → DR M w → w.length + (wrf N o t).length ≤ 100000 → (∀ M' : pm_M, PGF M M' → DR M' (w ++ wrf N o t) → (∀ p i, R32 (M' p i)) → Q none (zM M', Rf, K, L, n, s)) → pm_Wc (d + 2 * N + 2) 59 [.ref 6, .ref 13, .int (zI i), .int (zI (o : Int)), .int (zI (deep : Int))] (zM M, Rf, K, L, n, s) Q
section PmC24
variable {d : Nat}
set_option maxRecDepth 20000 in
set_option maxHeartbeats 1000000 in
theorem c_writeRec {N m : Nat} (IH : WrC d N) {Rf : Nat → Nat → Nat} {K L : Nat → Nat} {n s z D o deep : Nat} {cn i : Int} {X0 X1 X2 : Ty} {M : pm_M} {w : List Int} {Q : Option Value → pm_S → Prop} (hm : m < 8) (hG : pm_G Rf K L n) (hR : RmI Rf K L n z) (hM : ∀ p i, R32 (M p i)) (cz : cn ≤ z) (nd : ndf M Rf cn (N + 1) (tRec m X0 X1 X2) i) (ot : ok D (tRec m X0 X1 X2) = true) (hD : D + N ≤ 1000) (ho : o + N ≤ 1000) (hdp : deep + N + 1 ≤ 40) (hw : DR M w) (hl : w.length + (wrf (N + 1) o (tRec m X0 X1 X2)).length ≤ 100000) (h : ∀ M' : pm_M, PGF M M' → DR M' (w ++ wrf (N + 1) o (tRec m X0 X1 X2)) → (∀ p i, R32 (M' p i)) → Q none (zM M', Rf, K, L, n, s)) : pm_Wc (d + 2 * N + 3) 60 [.ref 6, .ref 13, .int (zI i), .int (zI (o : Int)), .int (zI (deep : Int))] (zM M, Rf, K, L, n, s) Q := by
  have hz := hR.2.2.2.2
  obtain ⟨p0, p1, p2⟩ := pt_rec hm X0 X1 X2
  have hpS := hp_rec hm X0 X1 X2
  obtain ⟨oX0, oX1, oX2⟩ := (ok_rec hm).mp ot
  have hh := hd_rec m X0 X1 X2
  have okp : ∀ g, g < 3 → hp (tRec m X0 X1 X2) g = true → ok D (pt (tRec m X0 X1 X2) g) = true := by
    intro g hg hb
    rw [hpS g hg] at hb
    rcases (show g = 0 ∨ g = 1 ∨ g = 2 by omega) with rfl | rfl | rfl
    · rw [p0]; exact okl_on oX0 (bit_iff.mp hb)
    · rw [p1]; exact okl_on oX1 (bit_iff.mp hb)
    · rw [p2]; exact okl_on oX2 (bit_iff.mp hb)
  rw [wr_rec hm] at hl h
  clear ot p0 p1 p2 hpS oX0 oX1 oX2
  generalize hte : tRec m X0 X1 X2 = t at nd hl h okp hh
  clear hte
  obtain ⟨⟨i0, i1, iC, -, -⟩, iP⟩ := nd
  have ccs := cc_cases (hd t)
  have hl3 : w.length + 1 + ((wpu (wrf N) o t 3).length + 1) ≤ 100000 := by
    rw [List.length_append, List.length_append] at hl
    have e1 : ([91] : List Int).length = 1 := rfl
    have e2 : ([93] : List Int).length = 1 := rfl
    omega
  have mono : ∀ g, g ≤ 3 → (wpu (wrf N) o t g).length ≤ (wpu (wrf N) o t 3).length := by
    have e : ∀ g, (wpu (wrf N) o t g).length ≤ (wpu (wrf N) o t (g + 1)).length := by
      intro g
      show _ ≤ (wpu (wrf N) o t g ++ _).length
      rw [List.length_append]; omega
    intro g hg
    have e0 := e 0
    have e1 := e 1
    have e2 := e 2
    rcases (show g = 0 ∨ g = 1 ∨ g = 2 ∨ g = 3 by omega) with rfl | rfl | rfl | rfl <;> simp only [Nat.zero_add, Nat.reduceAdd] at * <;> omega
  have loop : ∀ (k g : Nat) (M1 : pm_M), g + k = 3 → PGF M M1 → DR M1 (w ++ ([91] ++ wpu (wrf N) o t g)) → (∀ p i, R32 (M1 p i)) → pm_Wp none (d + 2 * N + 2) 60 12 [some (.ref 6), some (.ref 13), some (.int (zI i)), some (.int (zI (o : Int))), some (.int (zI (deep : Int))), some (.int (zI (if hd t % 2 ^ g ≠ 0 then 1 else 0))), some (.int (zI (g : Int)))] [] (zM M1, Rf, K, L, n, s) Q := by
    intro k
    induction k with
    | zero =>
      intro g M1 hgk pf dr hM1
      have e : g = 3 := by omega
      subst e
      refine wp_iload d60_12 rfl ?_
      refine wz_iconst d60_14 ?_
      refine wz_icmp_ge (t := 79) d60_15 (by decide) ⟨by omega, by omega⟩ ⟨by omega, by omega⟩ (fun _ => ?_) (fun hb => absurd (by omega) hb)
      refine wp_aload_n d60_79 rfl ?_
      refine wz_bipush d60_80 (by decide) ?_
      refine wp_virt (as := [.int (zI 93)]) (rest := []) d60_82 rfl rfl rfl (hG.o (by decide) rfl) rfl rfl (Nat.le_of_ble_eq_true rfl) ?_
      refine c_put hG hM1 dr (by have := mono 3 (by decide); rw [List.length_append, List.length_append]; have e1 : ([91] : List Int).length = 1 := rfl; omega) (by omega) (by omega) (fun M2 pf2 dr2 hM2 => ?_)
      refine wp_ret d60_85 rfl (h M2 (pf.trans pf2) ?_ hM2)
      rw [List.append_assoc, List.append_assoc] at dr2
      exact dr2
    | succ k ih =>
      intro g M1 hgk pf dr hM1
      have hg : g < 3 := by omega
      have lb := lt_bits (hd t) (by omega) g hg
      have nodes := pf.nodes hR
      have hlw : (w ++ ([91] ++ wpu (wrf N) o t g)).length = w.length + 1 + (wpu (wrf N) o t g).length := by
        rw [List.length_append, List.length_append]
        have e1 : ([91] : List Int).length = 1 := rfl
        omega
      have m1 := mono (g + 1) (by omega)
      have ee : wpu (wrf N) o t (g + 1) = wpu (wrf N) o t g ++ (if hp t g = true then wsep (hd t) g ++ wrf N (if hd t = 2 ∧ g = 1 then o + 1 else o) (pt t g) else []) := rfl
      refine wp_iload d60_12 rfl ?_
      refine wz_iconst d60_14 ?_
      refine wz_icmp_ge (t := 79) d60_15 (by decide) ⟨by omega, by omega⟩ ⟨by omega, by omega⟩ (fun hb => absurd hb (by omega)) (fun _ => ?_)
      refine wp_aload_n d60_18 rfl ?_
      refine wp_getR (q := Rf 6 0) d60_19 rfl (hG.o (by decide) rfl) (by decide) rfl (hR.1 0 (by decide)).1 ?_
      refine wp_iload_n d60_22 rfl ?_
      refine wz_iald (z := z) (v := (cc (hd t) : Int)) d60_23 (hR.1 0 (by decide)) (i0) (by omega) (by omega) ((nodes 0 (by decide) i).trans iC) ?_
      refine wp_iload d60_24 rfl ?_
      refine wp_stat (as := [.int (zI (g : Int)), .int (zI ((cc (hd t) : Int)))]) (rest := []) d60_26 rfl rfl rfl rfl rfl (Nat.le_of_ble_eq_true rfl) ?_
      refine c_holds (c := cc (hd t)) (i := g) (by omega) hg (fun hb => ?_) (fun hb => ?_)
      · skip
        refine wz_if_eq (t := 73) d60_29 (by decide) ⟨by omega, by omega⟩ (fun hb => absurd hb (by decide)) (fun _ => ?_)
        have hb' : bit (hd t) g = true := by
          have e : cc (hd t) = hd t := by omega
          rw [e] at hb; exact hb
        have hpg : hp t g = true := hb
        have hlt : (if hd t % 2 ^ (g + 1) ≠ 0 then (1 : Int) else 0) = 1 := if_pos (lb.1 hb')
        rw [if_pos hpg, if_neg (show ¬ (hd t = 2 ∧ g = 1) by omega)] at ee
        have es : wsep (hd t) g = (if hd t % 2 ^ g ≠ 0 then [44] else []) ++ [120 + (g : Int)] := if_neg (by omega)
        rw [es] at ee
        have el : (wpu (wrf N) o t (g + 1)).length = (wpu (wrf N) o t g).length + (((if hd t % 2 ^ g ≠ 0 then [44] else []) : List Int).length + 1 + (wrf N o (pt t g)).length) := by
          rw [ee, List.length_append, List.length_append, List.length_append]; rfl
        -- behind the comma
        have tail : ∀ (M2 : pm_M) (v : Int), PGF M M2 → DR M2 (w ++ ([91] ++ wpu (wrf N) o t g) ++ ((if hd t % 2 ^ g ≠ 0 then [44] else []) : List Int)) → (∀ p i, R32 (M2 p i)) → pm_Wp none (d + 2 * N + 2) 60 43 [some (.ref 6), some (.ref 13), some (.int (zI i)), some (.int (zI (o : Int))), some (.int (zI (deep : Int))), some (.int (zI v)), some (.int (zI (g : Int)))] [] (zM M2, Rf, K, L, n, s) Q := by
          intro M2 v pf2 dr2 hM2
          refine wz_iconst d60_43 ?_
          refine wp_istore d60_44 (Nat.le_of_ble_eq_true rfl) rfl ?_
          refine wp_aload_n d60_46 rfl ?_
          refine wz_bipush d60_47 (by decide) ?_
          refine wp_iload d60_49 rfl ?_
          refine wz_iadd d60_51 ?_
          refine wz_i2c d60_52 (by omega) (by omega) ?_
          refine wp_virt (as := [.int (zI (120 + (g : Int)))]) (rest := []) d60_53 rfl rfl rfl (hG.o (by decide) rfl) rfl rfl (Nat.le_of_ble_eq_true rfl) ?_
          refine c_put hG hM2 dr2 (by rw [List.length_append]; omega) (by omega) (by omega) (fun M3 pf3 dr3 hM3 => ?_)
          refine wp_aload_n d60_56 rfl ?_
          refine wp_aload_n d60_57 rfl ?_
          refine wp_aload_n d60_58 rfl ?_
          refine wp_iload_n d60_59 rfl ?_
          refine wp_iload d60_60 rfl ?_
          refine wp_virt (as := [.int (zI (g : Int)), .int (zI i)]) (rest := [.ref 13, .ref 6]) d60_62 rfl rfl rfl (hG.o (by decide) rfl) rfl rfl (Nat.le_of_ble_eq_true rfl) ?_
          refine c_part hG hR i0 (by omega) hg ?_
          have pf13 := pf2.trans pf3
          refine wp_iload_n d60_65 rfl ?_
          refine wp_iload d60_66 rfl ?_
          refine wz_iconst d60_68 ?_
          refine wz_iadd d60_69 ?_
          refine wp_virt (as := [.int (zI ((deep : Int) + 1)), .int (zI (o : Int)), .int (zI (M3 (Rf 6 (1 + g)) i)), .ref 13]) (rest := []) d60_70 rfl rfl rfl (hG.o (by decide) rfl) rfl rfl (Nat.le_of_ble_eq_true rfl) ?_
          refine IH Rf K L n s z D o (deep + 1) cn _ (pt t g) M3 _ _ hG hR hM3 cz ?_ (okp g hg hpg) hD ho (by omega) dr3 ?_ (fun M4 pf4 dr4 hM4 => ?_)
          · have q := pf13.ndf hR (iP g hg hpg)
            rw [← pf13.nodes hR (1 + g) (by omega) i] at q
            exact q
          · rw [List.length_append, List.length_append]
            have e1 : ([120 + (g : Int)] : List Int).length = 1 := rfl
            omega
          refine wz_iinc d60_73 rfl rfl ?_
          refine wp_goto (t := 12) d60_76 (by decide) ?_
          have q := ih (g + 1) M4 (by omega) (pf13.trans pf4) ?_ hM4
          · rw [hlt] at q
            rw [show ((g : Int) + 1) = ((g + 1 : Nat) : Int) by omega]
            exact q
          · rw [ee]
            simp only [List.append_assoc] at dr4 ⊢
            exact dr4
        refine wp_iload d60_32 rfl ?_
        by_cases hc : hd t % 2 ^ g ≠ 0
        · skip
          rw [if_pos hc]
          refine wz_if_eq (t := 43) d60_34 (by decide) ⟨by omega, by omega⟩ (fun hb => absurd hb (by decide)) (fun _ => ?_)
          refine wp_aload_n d60_37 rfl ?_
          refine wz_bipush d60_38 (by decide) ?_
          refine wp_virt (as := [.int (zI 44)]) (rest := []) d60_40 rfl rfl rfl (hG.o (by decide) rfl) rfl rfl (Nat.le_of_ble_eq_true rfl) ?_
          refine c_put hG hM1 dr (by omega) (by omega) (by omega) (fun M2 pf2 dr2 hM2 => ?_)
          refine tail M2 1 (pf.trans pf2) ?_ hM2
          rw [if_pos hc]
          exact dr2
        · skip
          rw [if_neg hc]
          refine wz_if_eq (t := 43) d60_34 (by decide) ⟨by omega, by omega⟩ (fun _ => ?_) (fun hb => absurd (by decide) hb)
          refine tail M1 0 pf ?_ hM1
          rw [if_neg hc, List.append_nil]
          exact dr
      · skip
        have hb' : ¬ bit (hd t) g = true := by
          have e : cc (hd t) = hd t := by omega
          rw [e] at hb; exact hb
        have hpg : ¬ hp t g = true := hb
        have hlt := lb.2 hb'
        rw [if_neg hpg, List.append_nil] at ee
        refine wz_if_eq (t := 73) d60_29 (by decide) ⟨by omega, by omega⟩ (fun _ => ?_) (fun hb => absurd (by decide) hb)
        refine wz_iinc d60_73 rfl rfl ?_
        refine wp_goto (t := 12) d60_76 (by decide) ?_
        have q := ih (g + 1) M1 (by omega) pf (by rw [ee]; exact dr) hM1
        rw [hlt] at q
        rw [show ((g : Int) + 1) = ((g + 1 : Nat) : Int) by omega]
        exact q
  refine wc_in (ls0 := [some (.ref 6), some (.ref 13), some (.int (zI i)), some (.int (zI (o : Int))), some (.int (zI (deep : Int))), none, none]) (by decide) (Nat.le_of_ble_eq_true rfl) rfl rfl ?_
  refine wp_aload_n d60_0 rfl ?_
  refine wz_bipush d60_1 (by decide) ?_
  refine wp_virt (as := [.int (zI 91)]) (rest := []) d60_3 rfl rfl rfl (hG.o (by decide) rfl) rfl rfl (Nat.le_of_ble_eq_true rfl) ?_
  refine c_put hG hM hw (by omega) (by omega) (by omega) (fun M1 pf1 dr1 hM1 => ?_)
  refine wz_iconst d60_6 ?_
  refine wp_istore d60_7 (Nat.le_of_ble_eq_true rfl) rfl ?_
  refine wz_iconst d60_9 ?_
  refine wp_istore d60_10 (Nat.le_of_ble_eq_true rfl) rfl ?_
  have q := loop 3 0 M1 (by decide) pf1 (by show DR M1 (w ++ ([91] ++ [])); rw [List.append_nil]; exact dr1) hM1
  have e0 : (if hd t % 2 ^ 0 ≠ 0 then (1 : Int) else 0) = 0 := if_neg (by omega)
  rw [e0] at q
  exact q
set_option maxRecDepth 20000 in
set_option maxHeartbeats 1000000 in
theorem c_writeOn {N : Nat} (IH : WrC d N) : WrC d (N + 1) := by
  intro Rf K L n s z D o deep cn i t M w Q hG hR hM cz nd ot hD ho hdp hw hl h
  have hz := hR.2.2.2.2
  have cS := cc_small ot (by omega)
  have ccs := cc_cases (hd t)
  have nd0 := nd
  obtain ⟨⟨i0, i1, iC, -, -⟩, iP⟩ := nd
  refine wc_in (ls0 := [some (.ref 6), some (.ref 13), some (.int (zI i)), some (.int (zI (o : Int))), some (.int (zI (deep : Int)))]) (by decide) (Nat.le_of_ble_eq_true rfl) rfl rfl ?_
  refine wp_iload d59_0 rfl ?_
  refine wz_bipush d59_2 (by decide) ?_
  refine wz_icmp_lt (t := 8) d59_4 (by decide) ⟨by omega, by omega⟩ ⟨by omega, by omega⟩ (fun _ => ?_) (fun hb => absurd (by omega) hb)
  refine wp_aload_n d59_8 rfl ?_
  refine wp_iload_n d59_9 rfl ?_
  refine wp_virt (as := [.int (zI i)]) (rest := []) d59_10 rfl rfl rfl (hG.o (by decide) rfl) rfl rfl (Nat.le_of_ble_eq_true rfl) ?_
  refine c_isVar (c := hd t) hG hR i0 (by omega) iC cS (fun hv => ?_) (fun hv => ?_)
  · skip
    refine wz_if_eq (t := 31) d59_13 (by decide) ⟨by omega, by omega⟩ (fun hb => absurd hb (by decide)) (fun _ => ?_)
    obtain ⟨k, hk, rfl⟩ := hd_is_var ot hv
    rw [wr_var] at hl h
    have el : ([80 + (k : Int)] : List Int).length = 1 := rfl
    refine wp_aload_n d59_16 rfl ?_
    refine wp_aload_n d59_17 rfl ?_
    refine wp_iload_n d59_18 rfl ?_
    refine wp_virt (as := [.int (zI i)]) (rest := [.ref 13]) d59_19 rfl rfl rfl (hG.o (by decide) rfl) rfl rfl (Nat.le_of_ble_eq_true rfl) ?_
    rw [hd_var] at iC
    refine c_levelOf hG hR i0 (by omega) iC (by omega) ?_
    refine wp_stat (as := [.int (zI (k : Int))]) (rest := [.ref 13]) d59_22 rfl rfl rfl rfl rfl (Nat.le_of_ble_eq_true rfl) ?_
    refine c_nameOf (by omega) (by omega) ?_
    refine wp_virt (as := [.int (zI (80 + (k : Int)))]) (rest := []) d59_25 rfl rfl rfl (hG.o (by decide) rfl) rfl rfl (Nat.le_of_ble_eq_true rfl) ?_
    refine c_put hG hM hw (by omega) (by omega) (by omega) (fun M1 pf1 dr1 hM1 => ?_)
    refine wp_goto (t := 195) d59_28 (by decide) ?_
    exact wp_ret d59_195 rfl (h M1 pf1 dr1 hM1)
  -- no variable
  refine wz_if_eq (t := 31) d59_13 (by decide) ⟨by omega, by omega⟩ (fun _ => ?_) (fun hb => absurd (by decide) hb)
  refine wp_aload_n d59_31 rfl ?_
  refine wp_getR (q := Rf 6 0) d59_32 rfl (hG.o (by decide) rfl) (by decide) rfl (hR.1 0 (by decide)).1 ?_
  refine wp_iload_n d59_35 rfl ?_
  refine wz_iald (z := z) (v := (cc (hd t) : Int)) d59_36 (hR.1 0 (by decide)) (i0) (by omega) (by omega) (iC) ?_
  refine wz_bipush d59_37 (by decide) ?_
  refine wz_icmp_ne (t := 95) d59_39 (by decide) ⟨by omega, by omega⟩ ⟨by omega, by omega⟩ (fun hf => ?_) (fun hf => ?_)
  rotate_left
  · skip
    obtain ⟨x, y, rfl, ox, oy⟩ := hd_is_fun ot (by omega)
    rw [wr_fun] at hl h
    simp only [List.length_append] at hl
    have e1 : ([40] : List Int).length = 1 := rfl
    have e2 : ([62] : List Int).length = 1 := rfl
    have e3 : ([41] : List Int).length = 1 := rfl
    have fx := iP 0 (by decide) (hp_fun x y).1
    have fy := iP 1 (by decide) (hp_fun x y).2.1
    rw [(pt_fun x y).1] at fx
    rw [(pt_fun x y).2.1] at fy
    refine wp_aload_n d59_42 rfl ?_
    refine wz_bipush d59_43 (by decide) ?_
    refine wp_virt (as := [.int (zI 40)]) (rest := []) d59_45 rfl rfl rfl (hG.o (by decide) rfl) rfl rfl (Nat.le_of_ble_eq_true rfl) ?_
    refine c_put hG hM hw (by omega) (by omega) (by omega) (fun M1 pf1 dr1 hM1 => ?_)
    refine wp_aload_n d59_48 rfl ?_
    refine wp_aload_n d59_49 rfl ?_
    refine wp_aload_n d59_50 rfl ?_
    refine wp_getR (q := Rf 6 1) d59_51 rfl (hG.o (by decide) rfl) (by decide) rfl (hR.1 1 (by decide)).1 ?_
    refine wp_iload_n d59_54 rfl ?_
    refine wz_iald (z := z) (v := M (Rf 6 1) i) d59_55 (hR.1 1 (by decide)) (i0) (by omega) (by omega) (pf1.nodes hR 1 (by decide) i) ?_
    refine wp_iload_n d59_56 rfl ?_
    refine wp_iload d59_57 rfl ?_
    refine wz_iconst d59_59 ?_
    refine wz_iadd d59_60 ?_
    refine wp_virt (as := [.int (zI ((deep : Int) + 1)), .int (zI (o : Int)), .int (zI (M (Rf 6 1) i)), .ref 13]) (rest := []) d59_61 rfl rfl rfl (hG.o (by decide) rfl) rfl rfl (Nat.le_of_ble_eq_true rfl) ?_
    refine wc_deep (show d + 2 * N + 2 ≤ d + 2 * (N + 1) + 1 by omega) ?_
    refine IH Rf K L n s z D o (deep + 1) cn _ x M1 _ _ hG hR hM1 cz (pf1.ndf hR fx) ox (by omega) (by omega) (by omega) dr1 (by simp only [List.length_append]; omega) (fun M2 pf2 dr2 hM2 => ?_)
    have pf12 := pf1.trans pf2
    refine wp_aload_n d59_64 rfl ?_
    refine wz_bipush d59_65 (by decide) ?_
    refine wp_virt (as := [.int (zI 62)]) (rest := []) d59_67 rfl rfl rfl (hG.o (by decide) rfl) rfl rfl (Nat.le_of_ble_eq_true rfl) ?_
    refine c_put hG hM2 dr2 (by simp only [List.length_append]; omega) (by omega) (by omega) (fun M3 pf3 dr3 hM3 => ?_)
    have pf13 := pf12.trans pf3
    refine wp_aload_n d59_70 rfl ?_
    refine wp_aload_n d59_71 rfl ?_
    refine wp_aload_n d59_72 rfl ?_
    refine wp_getR (q := Rf 6 2) d59_73 rfl (hG.o (by decide) rfl) (by decide) rfl (hR.1 2 (by decide)).1 ?_
    refine wp_iload_n d59_76 rfl ?_
    refine wz_iald (z := z) (v := M (Rf 6 2) i) d59_77 (hR.1 2 (by decide)) (i0) (by omega) (by omega) (pf13.nodes hR 2 (by decide) i) ?_
    refine wp_iload_n d59_78 rfl ?_
    refine wp_iload d59_79 rfl ?_
    refine wz_iconst d59_81 ?_
    refine wz_iadd d59_82 ?_
    refine wp_virt (as := [.int (zI ((deep : Int) + 1)), .int (zI (o : Int)), .int (zI (M (Rf 6 2) i)), .ref 13]) (rest := []) d59_83 rfl rfl rfl (hG.o (by decide) rfl) rfl rfl (Nat.le_of_ble_eq_true rfl) ?_
    refine wc_deep (show d + 2 * N + 2 ≤ d + 2 * (N + 1) + 1 by omega) ?_
    refine IH Rf K L n s z D o (deep + 1) cn _ y M3 _ _ hG hR hM3 cz (pf13.ndf hR fy) oy (by omega) (by omega) (by omega) dr3 (by simp only [List.length_append]; omega) (fun M4 pf4 dr4 hM4 => ?_)
    have pf14 := pf13.trans pf4
    refine wp_aload_n d59_86 rfl ?_
    refine wz_bipush d59_87 (by decide) ?_
    refine wp_virt (as := [.int (zI 41)]) (rest := []) d59_89 rfl rfl rfl (hG.o (by decide) rfl) rfl rfl (Nat.le_of_ble_eq_true rfl) ?_
    refine c_put hG hM4 dr4 (by simp only [List.length_append]; omega) (by omega) (by omega) (fun M5 pf5 dr5 hM5 => ?_)
    refine wp_goto (t := 195) d59_92 (by decide) ?_
    refine wp_ret d59_195 rfl (h M5 (pf14.trans pf5) ?_ hM5)
    simp only [List.append_assoc] at dr5 ⊢
    exact dr5
  refine wp_aload_n d59_95 rfl ?_
  refine wp_getR (q := Rf 6 0) d59_96 rfl (hG.o (by decide) rfl) (by decide) rfl (hR.1 0 (by decide)).1 ?_
  refine wp_iload_n d59_99 rfl ?_
  refine wz_iald (z := z) (v := (cc (hd t) : Int)) d59_100 (hR.1 0 (by decide)) (i0) (by omega) (by omega) (iC) ?_
  refine wz_bipush d59_101 (by decide) ?_
  refine wz_icmp_ne (t := 169) d59_103 (by decide) ⟨by omega, by omega⟩ ⟨by omega, by omega⟩ (fun hs => ?_) (fun hs => ?_)
  rotate_left
  · skip
    obtain ⟨x, y, rfl, ox, oy⟩ := hd_is_all ot (by omega)
    rw [wr_all] at hl h
    simp only [List.length_append] at hl
    have e1 : ([60] : List Int).length = 1 := rfl
    have e2 : ([62] : List Int).length = 1 := rfl
    have e3 : ([58] : List Int).length = 1 := rfl
    have e4 : ([80 + (o : Int)] : List Int).length = 1 := rfl
    have fx := iP 0 (by decide) (hp_all x y).1
    have fy := iP 1 (by decide) (hp_all x y).2.1
    rw [(pt_all x y).1] at fx
    rw [(pt_all x y).2.1] at fy
    refine wp_aload_n d59_106 rfl ?_
    refine wz_bipush d59_107 (by decide) ?_
    refine wp_virt (as := [.int (zI 60)]) (rest := []) d59_109 rfl rfl rfl (hG.o (by decide) rfl) rfl rfl (Nat.le_of_ble_eq_true rfl) ?_
    refine c_put hG hM hw (by omega) (by omega) (by omega) (fun M1 pf1 dr1 hM1 => ?_)
    refine wp_aload_n d59_112 rfl ?_
    refine wp_iload_n d59_113 rfl ?_
    refine wp_stat (as := [.int (zI (o : Int))]) (rest := [.ref 13]) d59_114 rfl rfl rfl rfl rfl (Nat.le_of_ble_eq_true rfl) ?_
    refine c_nameOf (by omega) (by omega) ?_
    refine wp_virt (as := [.int (zI (80 + (o : Int)))]) (rest := []) d59_117 rfl rfl rfl (hG.o (by decide) rfl) rfl rfl (Nat.le_of_ble_eq_true rfl) ?_
    refine c_put hG hM1 dr1 (by simp only [List.length_append]; omega) (by omega) (by omega) (fun M1b pf1b dr1b hM1b => ?_)
    have pfb := pf1.trans pf1b
    refine wp_aload_n d59_120 rfl ?_
    refine wz_bipush d59_121 (by decide) ?_
    refine wp_virt (as := [.int (zI 58)]) (rest := []) d59_123 rfl rfl rfl (hG.o (by decide) rfl) rfl rfl (Nat.le_of_ble_eq_true rfl) ?_
    refine c_put hG hM1b dr1b (by simp only [List.length_append]; omega) (by omega) (by omega) (fun M1c pf1c dr1c hM1c => ?_)
    have pfc := pfb.trans pf1c
    refine wp_aload_n d59_126 rfl ?_
    refine wp_aload_n d59_127 rfl ?_
    refine wp_aload_n d59_128 rfl ?_
    refine wp_getR (q := Rf 6 1) d59_129 rfl (hG.o (by decide) rfl) (by decide) rfl (hR.1 1 (by decide)).1 ?_
    refine wp_iload_n d59_132 rfl ?_
    refine wz_iald (z := z) (v := M (Rf 6 1) i) d59_133 (hR.1 1 (by decide)) (i0) (by omega) (by omega) (pfc.nodes hR 1 (by decide) i) ?_
    refine wp_iload_n d59_134 rfl ?_
    refine wp_iload d59_135 rfl ?_
    refine wz_iconst d59_137 ?_
    refine wz_iadd d59_138 ?_
    refine wp_virt (as := [.int (zI ((deep : Int) + 1)), .int (zI (o : Int)), .int (zI (M (Rf 6 1) i)), .ref 13]) (rest := []) d59_139 rfl rfl rfl (hG.o (by decide) rfl) rfl rfl (Nat.le_of_ble_eq_true rfl) ?_
    refine wc_deep (show d + 2 * N + 2 ≤ d + 2 * (N + 1) + 1 by omega) ?_
    refine IH Rf K L n s z D o (deep + 1) cn _ x M1c _ _ hG hR hM1c cz (pfc.ndf hR fx) ox (by omega) (by omega) (by omega) dr1c (by simp only [List.length_append]; omega) (fun M2 pf2 dr2 hM2 => ?_)
    have pf12 := pfc.trans pf2
    refine wp_aload_n d59_142 rfl ?_
    refine wz_bipush d59_143 (by decide) ?_
    refine wp_virt (as := [.int (zI 62)]) (rest := []) d59_145 rfl rfl rfl (hG.o (by decide) rfl) rfl rfl (Nat.le_of_ble_eq_true rfl) ?_
    refine c_put hG hM2 dr2 (by simp only [List.length_append]; omega) (by omega) (by omega) (fun M3 pf3 dr3 hM3 => ?_)
    have pf13 := pf12.trans pf3
    refine wp_aload_n d59_148 rfl ?_
    refine wp_aload_n d59_149 rfl ?_
    refine wp_aload_n d59_150 rfl ?_
    refine wp_getR (q := Rf 6 2) d59_151 rfl (hG.o (by decide) rfl) (by decide) rfl (hR.1 2 (by decide)).1 ?_
    refine wp_iload_n d59_154 rfl ?_
    refine wz_iald (z := z) (v := M (Rf 6 2) i) d59_155 (hR.1 2 (by decide)) (i0) (by omega) (by omega) (pf13.nodes hR 2 (by decide) i) ?_
    refine wp_iload_n d59_156 rfl ?_
    refine wz_iconst d59_157 ?_
    refine wz_iadd d59_158 ?_
    refine wp_iload d59_159 rfl ?_
    refine wz_iconst d59_161 ?_
    refine wz_iadd d59_162 ?_
    refine wp_virt (as := [.int (zI ((deep : Int) + 1)), .int (zI ((o : Int) + 1)), .int (zI (M (Rf 6 2) i)), .ref 13]) (rest := []) d59_163 rfl rfl rfl (hG.o (by decide) rfl) rfl rfl (Nat.le_of_ble_eq_true rfl) ?_
    refine wc_deep (show d + 2 * N + 2 ≤ d + 2 * (N + 1) + 1 by omega) ?_
    refine IH Rf K L n s z (D + 1) (o + 1) (deep + 1) cn _ y M3 _ _ hG hR hM3 cz (pf13.ndf hR fy) oy (by omega) (by omega) (by omega) dr3 (by simp only [List.length_append]; omega) (fun M4 pf4 dr4 hM4 => ?_)
    have pf14 := pf13.trans pf4
    refine wp_goto (t := 195) d59_166 (by decide) ?_
    refine wp_ret d59_195 rfl (h M4 pf14 ?_ hM4)
    simp only [List.append_assoc] at dr4 ⊢
    exact dr4
  refine wp_aload_n d59_169 rfl ?_
  refine wp_iload_n d59_170 rfl ?_
  refine wp_virt (as := [.int (zI i)]) (rest := []) d59_171 rfl rfl rfl (hG.o (by decide) rfl) rfl rfl (Nat.le_of_ble_eq_true rfl) ?_
  refine c_isRec (c := hd t) hG hR i0 (by omega) iC cS (fun hr => ?_) (fun hr => ?_)
  · skip
    refine wz_if_eq (t := 189) d59_174 (by decide) ⟨by omega, by omega⟩ (fun hb => absurd hb (by decide)) (fun _ => ?_)
    obtain ⟨m, X0, X1, X2, hm, rfl⟩ := hd_is_rec ot hr.1 hr.2
    refine wp_aload_n d59_177 rfl ?_
    refine wp_aload_n d59_178 rfl ?_
    refine wp_iload_n d59_179 rfl ?_
    refine wp_iload_n d59_180 rfl ?_
    refine wp_iload d59_181 rfl ?_
    refine wp_virt (as := [.int (zI (deep : Int)), .int (zI (o : Int)), .int (zI i), .ref 13]) (rest := []) d59_183 rfl rfl rfl (hG.o (by decide) rfl) rfl rfl (Nat.le_of_ble_eq_true rfl) ?_
    refine wc_deep (show d + 2 * N + 3 ≤ d + 2 * (N + 1) + 1 by omega) ?_
    refine c_writeRec IH hm hG hR hM cz nd0 ot (by omega) (by omega) (by omega) hw hl (fun M1 pf1 dr1 hM1 => ?_)
    refine wp_goto (t := 195) d59_186 (by decide) ?_
    exact wp_ret d59_195 rfl (h M1 pf1 dr1 hM1)
  · skip
    refine wz_if_eq (t := 189) d59_174 (by decide) ⟨by omega, by omega⟩ (fun _ => ?_) (fun hb => absurd (by decide) hb)
    have h0 : t = tTop := by
      rcases ok_cases ot with e | ⟨k, hk, rfl⟩ | ⟨x, y, rfl, -, -⟩ | ⟨x, y, rfl, -, -⟩ | ⟨m, x, y, w, hm, rfl, -, -, -⟩
      · exact e
      · rw [hd_var] at hv; omega
      · rw [hd_fun] at ccs hf; omega
      · rw [hd_all] at ccs hs; omega
      · rw [hd_rec] at hr; omega
    subst h0
    rw [wr_top] at hl h
    refine wp_aload_n d59_189 rfl ?_
    refine wz_bipush d59_190 (by decide) ?_
    refine wp_virt (as := [.int (zI 84)]) (rest := []) d59_192 rfl rfl rfl (hG.o (by decide) rfl) rfl rfl (Nat.le_of_ble_eq_true rfl) ?_
    refine c_put hG hM hw (by omega) (by omega) (by omega) (fun M1 pf1 dr1 hM1 => ?_)
    exact wp_ret d59_195 rfl (h M1 pf1 dr1 hM1)
theorem c_write (d : Nat) : ∀ N, WrC d N
  | 0 => by
    intro Rf K L n s z D o deep cn i t M w Q hG hR hM cz nd
    exact nd.elim
  | N + 1 => c_writeOn (c_write d N)
end PmC24
