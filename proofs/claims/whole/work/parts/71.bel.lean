/-! BELOW, step by step; the class's bounds. -/
theorem sb_cons (f : Nat) (z : Tsk) (l : List Tsk) : sb (f + 1) (z :: l) = (match stp z.1 z.2.1 z.2.2 with | none => false | some l' => sb f (l' ++ l)) := by rw [sb]; rfl
theorem sb_app : ∀ (f : Nat) (a b : List Tsk), (∀ z ∈ a, tok z) → (∀ z ∈ b, tok z) → tws a + tws b ≤ f → sb f (a ++ b) = (sb f a && sb f b)
  | f, [], b, _, _, _ => by
    have e : sb f [] = true := by cases f <;> rfl
    rw [e, List.nil_append, Bool.true_and]
  | 0, z :: a, b, ha, _, hf => by
    have := twt_two (ha z (List.mem_cons_self ..))
    have hf : twt z + tws a + tws b ≤ 0 := hf
    omega
  | f + 1, z :: a, b, ha, hb, hf => by
    have htz := ha z (List.mem_cons_self ..)
    have hf : twt z + tws a + tws b ≤ f + 1 := hf
    have h2 := twt_two htz
    have eb : sb (f + 1) b = sb f b := sb_more (f + 1) f b hb (by omega) (by omega)
    rw [eb]
    show sb (f + 1) (z :: (a ++ b)) = _
    rw [sb_cons, sb_cons]
    cases e : stp z.1 z.2.1 z.2.2 with
    | none => rfl
    | some l' =>
      obtain ⟨w1, w2⟩ := stp_next htz e
      show sb f (l' ++ (a ++ b)) = (sb f (l' ++ a) && sb f b)
      rw [← List.append_assoc]
      exact sb_app f (l' ++ a) b (fun y hy => by
        rcases List.mem_append.mp hy with hy | hy
        · exact w2 y hy
        · exact ha y (List.mem_cons_of_mem _ hy)) hb (by rw [tws_app]; omega)
def belz (z : Tsk) : Bool := bel z.1 z.2.1 z.2.2
theorem sb_all : ∀ (l : List Tsk) (f : Nat), (∀ z ∈ l, tok z) → tws l ≤ f → sb f l = l.all belz
  | [], f, _, _ => by cases f <;> rfl
  | z :: l, f, h, hf => by
    have hf : twt z + tws l ≤ f := hf
    have hz : ∀ y ∈ [z], tok y := fun y hy => by rw [List.mem_singleton.mp hy]; exact h z (List.mem_cons_self ..)
    have e := sb_app f [z] l hz (fun y hy => h y (List.mem_cons_of_mem _ hy)) (by show twt z + 0 + tws l ≤ f; omega)
    rw [List.singleton_append] at e
    rw [e, sb_all l f (fun y hy => h y (List.mem_cons_of_mem _ hy)) (by omega)]
    show (sb f [z] && l.all belz) = (belz z && l.all belz)
    have : sb f [z] = belz z := sb_more f (twt z) [z] hz (by show twt z + 0 ≤ f; omega) (by show twt z + 0 ≤ twt z; omega)
    rw [this]
/-- below, one step -/
theorem bel_eq {Γ : List Ty} {S T : Ty} (h : tok (Γ, S, T)) : bel Γ S T = (match stp Γ S T with | none => false | some l => l.all belz) := by
  have h2 := twt_two h
  obtain ⟨k, hk⟩ : ∃ k, twt (Γ, S, T) = k + 1 := ⟨twt (Γ, S, T) - 1, by omega⟩
  have e0 : bel Γ S T = sb (twt (Γ, S, T)) [(Γ, S, T)] := rfl
  rw [e0, hk, sb_cons]
  show (match stp Γ S T with | none => false | some l' => sb k (l' ++ [])) = _
  cases e : stp Γ S T with
  | none => rfl
  | some l =>
    obtain ⟨w1, w2⟩ := stp_w h e
    show sb k (l ++ []) = l.all belz
    rw [List.append_nil]
    exact sb_all l k w2 (by omega)
/-- nodes of the bounds -/
def BN (M : pm_M) (Rf : Nat → Nat → Nat) (cn : Int) (Γ : List Ty) : Prop := ∀ k : Nat, k < Γ.length → ndf M Rf cn 16 (bnd Γ k) (M 12 k) ∧ (flat (bnd Γ k)).length ≤ 16
theorem BN.mono {M M' : pm_M} {Rf Rf' : Nat → Nat → Nat} {cn cn' : Int} {Γ : List Ty} (h : BN M Rf cn Γ) (e : ∀ g, g < 5 → ∀ i : Int, 0 ≤ i → i < cn → M' (Rf' 6 g) i = M (Rf 6 g) i) (e12 : ∀ k : Nat, k < Γ.length → M' 12 k = M 12 k) (hc : cn ≤ cn') : BN M' Rf' cn' Γ := by
  intro k hk
  obtain ⟨h1, h2⟩ := h k hk
  rw [e12 k hk]
  exact ⟨ndf_mono e hc (Nat.le_refl _) h1, h2⟩
theorem BN.cons {M : pm_M} {Rf : Nat → Nat → Nat} {cn : Int} {Γ : List Ty} {A : Ty} (h : BN M Rf cn Γ) (hA : ndf M Rf cn 16 A (M 12 (Γ.length : Int))) (hl : (flat A).length ≤ 16) : BN M Rf cn (A :: Γ) := by
  intro k hk
  show ndf M Rf cn 16 (if k = Γ.length then A else bnd Γ k) (M 12 k) ∧ (flat (if k = Γ.length then A else bnd Γ k)).length ≤ 16
  by_cases e : k = Γ.length
  · rw [if_pos e, e]; exact ⟨hA, hl⟩
  · rw [if_neg e]; exact h k (by rw [List.length_cons] at hk; omega)
theorem okc_bnd : ∀ {Γ : List Ty} {k : Nat}, okc Γ → k < Γ.length → ok k (bnd Γ k) = true
  | [], _, _, h => absurd h (Nat.not_lt_zero _)
  | b :: Γ, k, hc, hk => by
    show ok k (if k = Γ.length then b else bnd Γ k) = true
    by_cases e : k = Γ.length
    · rw [if_pos e, e]; exact hc.1
    · rw [if_neg e]; exact okc_bnd hc.2 (by rw [List.length_cons] at hk; omega)
section PmC10
variable {d : Nat} {Q : Option Value → pm_S → Prop} {M : pm_M} {Rf : Nat → Nat → Nat} {K L : Nat → Nat} {n s : Nat}
theorem c_boundOf {z k : Nat} {cn i : Int} {Γ : List Ty} (hG : pm_G Rf K L n) (hR : RmI Rf K L n z) (hM : ∀ p i, R32 (M p i)) (hcn : M 6 6 = cn) (c1 : 1 ≤ cn) (cz : cn ≤ z) (c2 : cn + 16 ≤ 16384) (hc : okc Γ) (bn : BN M Rf cn Γ) (hk : k < Γ.length) (hΓ : Γ.length ≤ 64) (i0 : 0 ≤ i) (i1 : i < cn) (iC : M (Rf 6 0) i = (cc (16 + k) : Int)) (h : ∀ (M' : pm_M) (Rf' : Nat → Nat → Nat) (K' L' : Nat → Nat) (n' s' z' : Nat) (cn' r : Int), CX (fun p i => p = 6 ∧ i = 6) M Rf K L n s z cn M' Rf' K' L' n' s' z' → M' 6 6 = cn' → cn ≤ cn' → cn' ≤ cn + 16 → cn' ≤ z' → ndf M' Rf' cn' 16 (lft k (Γ.length - k) (bnd Γ k)) r → Q (some (.int (zI r))) (zM M', Rf', K', L', n', s')) : pm_Wc (d + 22) 45 [.ref 6, .int (zI i), .int (zI (Γ.length : Int))] (zM M, Rf, K, L, n, s) Q := by
  have hz := hR.2.2.2.2
  obtain ⟨nb, lb⟩ := bn k hk
  refine wc_in (ls0 := [some (.ref 6), some (.int (zI i)), some (.int (zI (Γ.length : Int))), none]) (by decide) (Nat.le_of_ble_eq_true rfl) rfl rfl ?_
  refine wp_aload_n d45_0 rfl ?_
  refine wp_iload_n d45_1 rfl ?_
  refine wp_virt (as := [.int (zI i)]) (rest := []) d45_2 rfl rfl rfl (hG.o (by decide) rfl) rfl rfl (Nat.le_of_ble_eq_true rfl) ?_
  refine c_levelOf (v := k) hG hR i0 (by omega) iC (by omega) ?_
  refine wp_istore_n d45_5 (Nat.le_of_ble_eq_true rfl) rfl ?_
  refine wp_iload_n d45_6 rfl ?_
  refine wz_if_lt (t := 21) d45_7 (by decide) ⟨by omega, by omega⟩ (fun hb => absurd hb (by omega)) (fun _ => ?_)
  refine wp_iload_n d45_10 rfl ?_
  refine wp_iload_n d45_11 rfl ?_
  refine wz_icmp_ge (t := 21) d45_12 (by decide) ⟨by omega, by omega⟩ ⟨by omega, by omega⟩ (fun hb => absurd hb (by omega)) (fun _ => ?_)
  refine wp_iload_n d45_15 rfl ?_
  refine wz_bipush d45_16 (by decide) ?_
  refine wz_icmp_lt (t := 23) d45_18 (by decide) ⟨by omega, by omega⟩ ⟨by omega, by omega⟩ (fun _ => ?_) (fun hb => absurd (by omega) hb)
  refine wp_aload_n d45_23 rfl ?_
  refine wp_aload_n d45_24 rfl ?_
  refine wp_getR (q := 12) d45_25 rfl (hG.o (by decide) rfl) (by decide) (hG.r (by decide +kernel)) (by decide) ?_
  refine wp_iload_n d45_28 rfl ?_
  refine wz_iald (z := 64) (v := M 12 k) d45_29 (hG.a (by decide) rfl rfl) (by omega) (by omega) (by decide) rfl ?_
  refine wp_iload_n d45_30 rfl ?_
  refine wp_iload_n d45_31 rfl ?_
  refine wp_iload_n d45_32 rfl ?_
  refine wz_isub d45_33 ?_
  rw [show (Γ.length : Int) - (k : Int) = ((Γ.length - k : Nat) : Int) by omega]
  refine wz_iconst d45_34 ?_
  refine wp_virt (as := [.int (zI 0), .int (zI ((Γ.length - k : Nat) : Int)), .int (zI (k : Int)), .int (zI (M 12 k))]) (rest := []) d45_35 rfl rfl rfl (hG.o (by decide) rfl) rfl rfl (Nat.le_of_ble_eq_true rfl) ?_
  refine c_lift (d := d) 16 (bnd Γ k) (M 12 k) k (Γ.length - k) k 0 M Rf K L n s z cn _ hG hR hM hcn c1 cz (by omega) (okc_bnd hc hk) (Nat.le_refl _) (by omega) nb (by omega) (fun M' Rf' K' L' n' s' z' cn' r cx v1 v2 v3 v4 nd' => ?_)
  exact wp_ret d45_38 rfl (h M' Rf' K' L' n' s' z' cn' r cx v1 v2 (by omega) v4 nd')
theorem c_openOne {o : Nat} {v : Int} (hG : pm_G Rf K L n) (ho : o < 64) (h : Q (some (.int (zI 1))) (zM (mset M 12 o v), Rf, K, L, n, s)) : pm_Wc (d + 1) 47 [.ref 6, .int (zI v), .int (zI (o : Int))] (zM M, Rf, K, L, n, s) Q := by
  refine wc_in (ls0 := [some (.ref 6), some (.int (zI v)), some (.int (zI (o : Int)))]) (by decide) (Nat.le_of_ble_eq_true rfl) rfl rfl ?_
  refine wp_iload_n d47_0 rfl ?_
  refine wz_if_lt (t := 10) d47_1 (by decide) ⟨by omega, by omega⟩ (fun hb => absurd hb (by omega)) (fun _ => ?_)
  refine wp_iload_n d47_4 rfl ?_
  refine wz_bipush d47_5 (by decide) ?_
  refine wz_icmp_lt (t := 12) d47_7 (by decide) ⟨by omega, by omega⟩ ⟨by omega, by omega⟩ (fun _ => ?_) (fun hb => absurd (by omega) hb)
  refine wp_aload_n d47_12 rfl ?_
  refine wp_getR (q := 12) d47_13 rfl (hG.o (by decide) rfl) (by decide) (hG.r (by decide +kernel)) (by decide) ?_
  refine wp_iload_n d47_16 rfl ?_
  refine wp_iload_n d47_17 rfl ?_
  refine wz_iast (z := 64) d47_18 (hG.a (by decide) rfl rfl) (by omega) (by omega) (by decide) ?_
  refine wz_iconst d47_19 ?_
  exact wp_ret d47_20 rfl h
theorem c_sameBound {z N N' dA dB : Nat} {cn i j : Int} {A B : Ty} (hG : pm_G Rf K L n) (hR : RmI Rf K L n z) (hM : ∀ p i, R32 (M p i)) (cz : cn ≤ z) (i0 : 0 ≤ i) (i1 : i < cn) (j0 : 0 ≤ j) (j1 : j < cn) (nA : ndf M Rf cn N A (M (Rf 6 1) i)) (nB : ndf M Rf cn N' B (M (Rf 6 1) j)) (oA : ok dA A = true) (oB : ok dB B = true) (hd2 : dA + N ≤ 3000) (hN : N ≤ 40) (h1 : A = B → Q (some (.int (zI 1))) (zM M, Rf, K, L, n, s)) (h0 : A ≠ B → Q (some (.int (zI 0))) (zM M, Rf, K, L, n, s)) : pm_Wc (d + N + 3) 51 [.ref 6, .int (zI i), .int (zI j)] (zM M, Rf, K, L, n, s) Q := by
  have hz := hR.2.2.2.2
  refine wc_in (ls0 := [some (.ref 6), some (.int (zI i)), some (.int (zI j))]) (by decide) (Nat.le_of_ble_eq_true rfl) rfl rfl ?_
  refine wp_aload_n d51_0 rfl ?_
  refine wp_aload_n d51_1 rfl ?_
  refine wp_getR (q := Rf 6 1) d51_2 rfl (hG.o (by decide) rfl) (by decide) rfl (hR.1 1 (by decide)).1 ?_
  refine wp_iload_n d51_5 rfl ?_
  refine wz_iald (z := z) (v := M (Rf 6 1) i) d51_6 (hR.1 1 (by decide)) i0 (by omega) (by omega) rfl ?_
  refine wp_aload_n d51_7 rfl ?_
  refine wp_getR (q := Rf 6 1) d51_8 rfl (hG.o (by decide) rfl) (by decide) rfl (hR.1 1 (by decide)).1 ?_
  refine wp_iload_n d51_11 rfl ?_
  refine wz_iald (z := z) (v := M (Rf 6 1) j) d51_12 (hR.1 1 (by decide)) j0 (by omega) (by omega) rfl ?_
  refine wz_iconst d51_13 ?_
  refine wp_virt (as := [.int (zI 0), .int (zI (M (Rf 6 1) j)), .int (zI (M (Rf 6 1) i))]) (rest := []) d51_14 rfl rfl rfl (hG.o (by decide) rfl) rfl rfl (Nat.le_of_ble_eq_true rfl) ?_
  exact c_same (d := d) hG hR hM cz N A B _ _ 0 dA dB N' _ oA oB hd2 nA nB (by omega) (fun e => wp_ret d51_17 rfl (h1 e)) (fun e => wp_ret d51_17 rfl (h0 e))
end PmC10
