section
-- from 99z60a
def u0R : LnT := [[], [], [], [], [], [], [], [], [], [], [], [], [], [], [], [], [], [], [], [], [], [], [], [], [], [], [(14, 0, 10, 1, 0, 9)], [(16, 0, 12, 1, 0, 10)], [(16, 0, 12, 1, 0, 11)], [(22, 0, 18, 1, 0, 12)], [(23, 0, 19, 2, 0, 13)], [(27, 0, 23, 2, 1, 14)], [(27, 0, 23, 2, 1, 15)], [(39, 0, 35, 2, 1, 16)], [(39, 0, 35, 3, 1, 17)], [(43, 0, 39, 3, 1, 18)], [(49, 0, 45, 3, 1, 19)], [(57, 0, 53, 3, 1, 20)], [(57, 0, 53, 4, 1, 21)], [(81, 0, 77, 4, 1, 22)], [(81, 0, 77, 4, 1, 23)], [(83, 0, 79, 4, 1, 24)], [(97, 0, 93, 3, 1, 21), (81, 0, 77, 5, 0, 25)], [(119, 0, 115, 4, 1, 21), (83, 0, 79, 4, 0, 23), (71, 0, 67, 6, 0, 26)], [(119, 0, 115, 6, 1, 27)], [(119, 0, 115, 6, 1, 28)], [(143, 0, 139, 5, 1, 29), (83, 0, 31, 6, 0, 29)], [(157, 0, 153, 4, 1, 30), (95, 0, 53, 8, 1, 30), (80, 0, 31, 9, 0, 30)]]
def u0G : LnT := [[], [], [], [], [], [], [], [], [], [], [], [], [], [], [], [], [], [], [], [], [], [], [], [], [], [], [(7, 0, 5, 1, 0, 9)], [(7, 0, 5, 1, 0, 10)], [(7, 0, 5, 1, 0, 11)], [(12, 0, 10, 1, 0, 12)], [(12, 0, 10, 2, 0, 13)], [(12, 0, 10, 2, 1, 14)], [(19, 0, 17, 2, 1, 15)], [(22, 0, 20, 2, 1, 16)], [(22, 0, 20, 3, 1, 17)], [(25, 0, 23, 3, 1, 18)], [(36, 0, 34, 3, 1, 19)], [(36, 0, 34, 3, 1, 20)], [(37, 0, 35, 4, 1, 21)], [(48, 0, 46, 4, 1, 22)], [(53, 0, 51, 4, 1, 23)], [(53, 0, 51, 4, 1, 24)], [(72, 0, 70, 4, 1, 21), (54, 0, 52, 5, 0, 25)], [(72, 0, 70, 4, 1, 21), (56, 0, 54, 4, 0, 23), (35, 0, 33, 6, 0, 26)], [(73, 0, 71, 6, 1, 27)], [(75, 0, 73, 6, 1, 28)], [(107, 0, 105, 4, 1, 29), (53, 0, 20, 6, 0, 29)], [(107, 0, 105, 4, 1, 30), (65, 0, 26, 8, 1, 30), (50, 0, 12, 9, 0, 30)]]
theorem u0R_20 : lnf false false u0R fr1 fg1 1 2 3 2 2 2 2 887 20 48 3 6 = true := by sorry
theorem u0G_20 : lnf false false u0G frq fgq 0 1 1 1 3 2 1 597 20 48 3 6 = true := by sorry
def u1R : LnT := [[], [], [], [], [], [], [], [], [], [], [], [], [], [], [], [], [], [], [], [], [], [], [], [], [], [], [(14, 0, 10, 1, 0, 9)], [(16, 0, 12, 1, 0, 10)], [(16, 0, 12, 1, 0, 11)], [(22, 0, 18, 1, 0, 12)], [(23, 0, 19, 2, 0, 13)], [(27, 0, 23, 2, 1, 14)], [(27, 0, 23, 2, 1, 15)], [(39, 0, 35, 2, 1, 16)], [(39, 0, 35, 3, 1, 17)], [(43, 0, 39, 3, 1, 18)], [(49, 0, 45, 3, 1, 19)], [(57, 0, 53, 3, 1, 20)], [(57, 0, 53, 4, 1, 21)], [(81, 0, 77, 4, 1, 22)], [(81, 0, 77, 4, 1, 23)], [(83, 0, 79, 4, 1, 24)], [], [], [], [], [], []]
def u1G : LnT := [[], [], [], [], [], [], [], [], [], [], [], [], [], [], [], [], [], [], [], [], [], [], [], [], [], [], [(7, 0, 5, 1, 0, 9)], [(7, 0, 5, 1, 0, 10)], [(7, 0, 5, 1, 0, 11)], [(12, 0, 10, 1, 0, 12)], [(12, 0, 10, 2, 0, 13)], [(12, 0, 10, 2, 1, 14)], [(19, 0, 17, 2, 1, 15)], [(22, 0, 20, 2, 1, 16)], [(22, 0, 20, 3, 1, 17)], [(25, 0, 23, 3, 1, 18)], [(36, 0, 34, 3, 1, 19)], [(36, 0, 34, 3, 1, 20)], [(37, 0, 35, 4, 1, 21)], [(48, 0, 46, 4, 1, 22)], [(53, 0, 51, 4, 1, 23)], [(53, 0, 51, 4, 1, 24)], [], [], [], [], [], []]
theorem u1R_36 : lnf true false u1R fr1 fg1 1 2 3 2 2 2 2 887 36 48 6 20 = true := by sorry
theorem u1G_36 : lnf true false u1G frq fgq 0 1 1 1 3 2 1 597 36 48 6 20 = true := by sorry
end
section
-- from 99z60b
theorem u1R_30 : lnf true false u1R fr1 fg1 1 2 3 2 2 2 2 887 30 36 6 20 = true := by sorry
theorem u1G_30 : lnf true false u1G frq fgq 0 1 1 1 3 2 1 597 30 36 6 20 = true := by sorry
def u2R : LnT := [[], [], [], [], [], [], [], [], [], [], [], [], [], [], [], [], [], [], [], [], [], [], [], [], [], [], [(14, 0, 10, 1, 0, 9)], [(16, 0, 12, 1, 0, 10)], [(16, 0, 12, 1, 0, 11)], [(22, 0, 18, 1, 0, 12)], [(23, 0, 19, 2, 0, 13)], [(27, 0, 23, 2, 1, 14)], [(27, 0, 23, 2, 1, 15)], [(39, 0, 35, 2, 1, 16)], [(39, 0, 35, 3, 1, 17)], [(43, 0, 39, 3, 1, 18)], [(49, 0, 45, 3, 1, 19)], [(57, 0, 53, 3, 1, 20)], [(57, 0, 53, 4, 1, 21)], [(81, 0, 77, 4, 1, 22)], [(81, 0, 77, 4, 1, 23)], [(83, 0, 79, 4, 1, 24)], [(97, 0, 93, 5, 1, 25)], [], [], [], [], []]
def u2G : LnT := [[], [], [], [], [], [], [], [], [], [], [], [], [], [], [], [], [], [], [], [], [], [], [], [], [], [], [(7, 0, 5, 1, 0, 9)], [(7, 0, 5, 1, 0, 10)], [(7, 0, 5, 1, 0, 11)], [(12, 0, 10, 1, 0, 12)], [(12, 0, 10, 2, 0, 13)], [(12, 0, 10, 2, 1, 14)], [(19, 0, 17, 2, 1, 15)], [(22, 0, 20, 2, 1, 16)], [(22, 0, 20, 3, 1, 17)], [(25, 0, 23, 3, 1, 18)], [(36, 0, 34, 3, 1, 19)], [(36, 0, 34, 3, 1, 20)], [(37, 0, 35, 4, 1, 21)], [(48, 0, 46, 4, 1, 22)], [(53, 0, 51, 4, 1, 23)], [(53, 0, 51, 4, 1, 24)], [(72, 0, 70, 5, 1, 25)], [], [], [], [], []]
theorem u2R_34 : lnf true true u2R fr1 fg1 1 2 3 2 2 2 2 887 34 48 8 20 = true := by sorry
theorem u2G_34 : lnf true true u2G frq fgq 0 1 1 1 3 2 1 597 34 48 8 20 = true := by sorry
end
section
-- from 99z61
def zgR (L : LnT) (be k q1 q2 : Nat) : Bool := liy L (soR be q1) fr1 fg1 1 3 (kpz fr1 0 (max 1 (fx1.getD q1 0)) 0) (wbz fr1 1 (max 1 (fx1.getD q1 0)) be) (max 1 (fx1.getD q1 0)) (ojz k 0 q1 q2) k q2 (8 + be + k + q1 + q2)
def zgG (L : LnT) (be k q1 q2 : Nat) : Bool := liy L (soG be q1) frq fgq 0 1 (kpz frq 1 (max 1 (fxq.getD q1 0)) 0) (wbz frq 0 (max 1 (fxq.getD q1 0)) be) (max 1 (fxq.getD q1 0)) (ojz k 0 q1 q2) k q2 (8 + be + k + q1 + q2)
def B5z (e : Bool) (m be k q1 q2 : Nat) : Bool := if e then (Nat.ble 8 m && (Nat.ble 34 (8 + be + k + q1 + q2) && (zgR u2R be k q1 q2 && zgG u2G be k q1 q2))) else if Nat.ble m 5 then zgR u0R be k q1 q2 && zgG u0G be k q1 q2 else Nat.ble 30 (8 + be + k + q1 + q2) && (zgR u1R be k q1 q2 && zgG u1G be k q1 q2)
section PmHy
variable {f : Nat} {t B C : Ty} {Γ0 Δ1 : List Ty} {Δ : List (Nat × Ty × Nat)}
theorem nat_bg (q13 : cch Γ0 ≤ 13) (lb : LBd Γ0 Δ1 (tAll B C) tTop B C) (nB : nsch B = true) (b2 : 4 ≤ tch B) (b16 : tch B ≤ 16) (fl : sB B C = true) (w : TWf f (cxs Δ1 Γ0 (tAll B C)).length (Δ.map (fun a => a.1)) t) (he : TE (cxs Δ1 Γ0 (tAll B C)) Δ) (ch : CHo f t []) (hz : B5z Δ.isEmpty (mch t) (tch B) (tch C) (cch Γ0) (cch Δ1) = true) (m3 : 3 ≤ mch t) (h20 : 20 ≤ cch (cxs Δ1 Γ0 (tAll B C))) (h47 : cch (cxs Δ1 Γ0 (tAll B C)) ≤ 47) (q38 : cch Δ1 ≤ 38) (hb : cch (cxs Δ1 Γ0 (tAll B C)) + dch Δ + 2 * mch t ≤ 58) : NtV (cxs Δ1 Γ0 (tAll B C)) Δ f t 887 597 := by sorry
end PmHy
def AzG (f : Nat) (t : Ty) (Γ : List Ty) (Δ : List (Nat × Ty × Nat)) : Prop := ∃ (Δ1 Γ0 : List Ty) (B C : Ty), Γ = cxs Δ1 Γ0 (tAll B C) ∧ cch Γ0 ≤ 13 ∧ LBd Γ0 Δ1 (tAll B C) tTop B C ∧ nsch B = true ∧ 4 ≤ tch B ∧ tch B ≤ 16 ∧ sB B C = true ∧ CHo (pee f t).1 (pee f t).2 [] ∧ B5z Δ.isEmpty (mch (pee f t).2) (tch B) (tch C) (cch Γ0) (cch Δ1) = true ∧ 3 ≤ mch (pee f t).2 ∧ cch Δ1 ≤ 38 ∧ cch Γ + dch Δ + 2 * mch (pee f t).2 ≤ 58
theorem AzG.v {f : Nat} {t : Ty} {Γ : List Ty} {Δ : List (Nat × Ty × Nat)} (w : TWf f Γ.length (Δ.map (fun a => a.1)) t) (he : TE Γ Δ) (h20 : 20 ≤ cch Γ) (h47 : cch Γ ≤ 47) (h : AzG f t Γ Δ) : NtV Γ Δ f t 887 597 := by sorry
def RESTo9 : Prop := ∀ (f : Nat) (x y : Ty) (Γ : List Ty) (Δ : List (Nat × Ty × Nat)), TWf f Γ.length (Δ.map (fun a => a.1)) x → TWf f Γ.length (Δ.map (fun a => a.1)) y → TE Γ Δ → NAt f x → NAt f y → noac Γ → (∀ a ∈ Δ, noal a.2.1 = true) → TNo f x → TNo f y → 3 ≤ mch x → 3 ≤ mch y → (mch x ≤ mch y → ¬ NOp f x) → (¬ mch x ≤ mch y → ¬ NOp f y) → 20 ≤ cch Γ → cch Γ ≤ 47 → cch Γ + dch Δ + (2 + (mch x + mch y)) ≤ 60 → NoO f x y Γ Δ → ¬ AzT f x Γ Δ → ¬ AzT f y Γ Δ → ¬ AzB f x Γ Δ → ¬ AzB f y Γ Δ → ¬ AzC f x Γ Δ → ¬ AzC f y Γ Δ → ¬ AzI f x Γ Δ → ¬ AzI f y Γ Δ → ¬ AzF f x Γ Δ → ¬ AzF f y Γ Δ → ¬ AzG f x Γ Δ → ¬ AzG f y Γ Δ → (¬ ((mch x ≤ mch y → CHo f x []) ∧ (¬ mch x ≤ mch y → CHo f y [])) ∨ LeftJ f x y Γ Δ) → PRn f x y Γ Δ
theorem restn9_of (R : RESTo9) : RESTn9 := by sorry
theorem pairn_oo (R : RESTo9) : PAIRn := by sorry
end
section
-- from 99z62
def nbk : Stk → Bool
  | [] => false
  | none :: ρ => hs ρ
  | some _ :: ρ => nbk ρ
theorem cnS_len : ∀ ρ : Stk, cnS ρ ≤ ρ.length := by sorry
theorem hs_cnS : ∀ ρ : Stk, hs ρ = true → 1 ≤ cnS ρ := by sorry
theorem nbk_len : ∀ ρ : Stk, nbk ρ = true → hs ρ = true ∧ 1 ≤ cnS ρ ∧ cnS ρ + 1 ≤ ρ.length := by sorry
theorem nbk_tail (p : Option Nat) (ρ : Stk) (h : nbk (p :: ρ) = false) : nbk ρ = false := by sorry
theorem hs_tail' (p : Option Nat) (ρ : Stk) (h : hs (p :: ρ) = false) : hs ρ = false := by sorry
section PmHs
variable {t0 s2 : Nat} {n1 h : Nat → Nat}
theorem vz_Eq {E E' : Stk → Nat} {Q : Stk → Prop} (hQ : ∀ p σ, Q (p :: σ) → Q σ) (hE : ∀ σ : Stk, σ ≠ [] → Q σ → E σ ≤ E' σ) : ∀ (f : Nat) (t : Ty) (ρ : Stk) (ω : List Nat), (flat t).length ≤ f → ok ω.length t = true → Q ρ → vz t0 n1 s2 h E t ρ ω ≤ vz t0 n1 s2 h E' t ρ ω := by sorry
def E8 (X7 : Nat) (eS e2S eb e2 : Nat → Nat) (π : Stk) : Nat := if nbk π = true then E2 X7 eb e2 π else E2 X7 eS e2S π
variable {X7 : Nat} {eS e2S eb e2 : Nat → Nat}
theorem E2_lb (l1 : ∀ z, eS z ≤ eb z) (l2 : ∀ z, e2S z ≤ e2 z) (π : Stk) : E2 X7 eS e2S π ≤ E2 X7 eb e2 π := by sorry
theorem E8_b (l1 : ∀ z, eS z ≤ eb z) (l2 : ∀ z, e2S z ≤ e2 z) (π : Stk) : E8 X7 eS e2S eb e2 π ≤ E2 X7 eb e2 π := by sorry
theorem E8_s {π : Stk} (q : nbk π = false) : E8 X7 eS e2S eb e2 π = E2 X7 eS e2S π := by sorry
theorem E8_l {π : Stk} (q : nbk π = true) : E8 X7 eS e2S eb e2 π = E2 X7 eb e2 π := by sorry
theorem vz_E8 (l1 : ∀ z, eS z ≤ eb z) (l2 : ∀ z, e2S z ≤ e2 z) {t : Ty} {ρ : Stk} {ω : List Nat} (o : ok ω.length t = true) (hs' : nbk ρ = false → vz t0 n1 s2 h (E2 X7 eS e2S) t ρ ω ≤ E2 X7 eS e2S ρ) (hb : vz t0 n1 s2 h (E2 X7 eb e2) t ρ ω ≤ E2 X7 eb e2 ρ) : vz t0 n1 s2 h (E8 X7 eS e2S eb e2) t ρ ω ≤ E8 X7 eS e2S eb e2 ρ := by sorry
def H8 (X7 : Nat) (eS e2S eb e2 : Nat → Nat) (Z : Nat → Nat) (w : Nat) : Nat := max (Hdw X7 eS e2S Z w) (max (if Nat.ble 4 w then eb (Z (w - 3)) else 0) (if Nat.ble 6 w then e2 (Z (w - 5)) else 0))
theorem E8_w {gy : Nat → Nat} {Z : Nat → Nat → Nat} {b : Nat} (heS : ∀ z z', z ≤ z' → eS z ≤ eS z') (he2S : ∀ z z', z ≤ z' → e2S z ≤ e2S z') (he : ∀ z z', z ≤ z' → eb z ≤ eb z') (he2 : ∀ z z', z ≤ z' → e2 z ≤ e2 z') (hZ : ∀ s s', s ≤ s' → Z b s ≤ Z b s') (π : Stk) (w : Nat) (sk : SKb Z gy b π w) : E8 X7 eS e2S eb e2 π ≤ H8 X7 eS e2S eb e2 (Z b) w := by sorry
theorem DHy8 {un : Bool} {a5 fn r0 r1 r2 r3 mt : Nat} {V gy : Nat → Nat} {Z Ha Hb : Nat → Nat → Nat} {D D' : Nat → Nat → Nat → Nat} (heS : ∀ z z', z ≤ z' → eS z ≤ eS z') (he2S : ∀ z z', z ≤ z' → e2S z ≤ e2S z') (he : ∀ z z', z ≤ z' → eb z ≤ eb z') (he2 : ∀ z z', z ≤ z' → e2 z ≤ e2 z') (l1 : ∀ z, eS z ≤ eb z) (l2 : ∀ z, e2S z ≤ e2 z) (ds : DHy un a5 t0 fn s2 r0 r1 r2 r3 mt n1 h V gy Z Ha (E2 X7 eS e2S) D) (db : DHy un a5 t0 fn s2 r0 r1 r2 r3 mt n1 h V gy Z Hb (E2 X7 eb e2) D') : DHy un a5 t0 fn s2 r0 r1 r2 r3 mt n1 h V gy Z (fun b => H8 X7 eS e2S eb e2 (Z b)) (E8 X7 eS e2S eb e2) (DT un a5 fn s2 r0 r1 r2 r3 V Z (fun b => H8 X7 eS e2S eb e2 (Z b)) mt) := by sorry
theorem DVn8 {V0 : Nat} {ω : List Nat} {Δ : List (Nat × Ty × Nat)} (l1 : ∀ z, eS z ≤ eb z) (l2 : ∀ z, e2S z ≤ e2 z) (ds : DVn t0 n1 s2 h (E2 X7 eS e2S) V0 ω Δ) (db : DVn t0 n1 s2 h (E2 X7 eb e2) V0 ω Δ) : DVn t0 n1 s2 h (E8 X7 eS e2S eb e2) V0 ω Δ := by sorry
theorem vz_s8 {t : Ty} {ω : List Nat} (o : ok ω.length t = true) (h2 : hd t ≠ 2) (hb : ∀ ρ, ρ ≠ [] → vz t0 n1 s2 h (E2 X7 eb e2) t ρ ω ≤ E2 X7 eb e2 ρ) : ∀ ρ : Stk, ρ ≠ [] → nbk ρ = false → vz t0 n1 s2 h (E2 X7 eS e2S) t ρ ω ≤ E2 X7 eS e2S ρ := by sorry
theorem HEk8 (l1 : ∀ z, eS z ≤ eb z) (l2 : ∀ z, e2S z ≤ e2 z) : ∀ {Γ : List Ty} {ω : List Nat}, okc Γ → ω.length = Γ.length → (∀ b ∈ Γ, hd b ≠ 2) → HEk t0 n1 s2 h (E2 X7 eb e2) Γ ω → HEk t0 n1 s2 h (E8 X7 eS e2S eb e2) Γ ω := by sorry
end PmHs
section PmHt
variable {t0 fn s2 hv r0 r1 r2 r3 x0 : Nat} {n1 h : Nat → Nat} {P Q : List (List Nat)} {F G W : FrT} {X : List Nat}
def dp8 (un : Bool) (F W : FrT) (a5 hv fn s2 r0 r1 r2 r3 E0 p wB ob k y cd m : Nat) : Nat := DT un a5 fn s2 r0 r1 r2 r3 (Vbw F W y cd) (Zbw F W y) (fun b => H8 (X7w F W y cd m) (ebw F W hv y cd m 0 0 0 0) (e2w F W hv y cd m 0) (ebw F W hv y cd m E0 p wB ob) (e2w F W hv y cd m k) (Zbw F W y b)) m m 0 0
theorem gen_fin8s (hn : NC t0 n1 s2 h) (hm : ∀ y y', y ≤ y' → h y ≤ h y') (T : TBs 58 t0 fn s2 hv r0 r1 r2 r3 x0 n1 h P Q F G X) (hFm : frm F = true) (hgr : fgc F W hv = true) (hWm : fgm W = true) (hW1 : fg1s W = true) (hW : (1, 0) ∈ frg W 0) (H1 : ∀ y, h y ≤ hv + max 1 y) {f : Nat} {t S : Ty} {Γ : List Ty} {ω : List Nat} {Δ : List (Nat × Ty × Nat)} {un : Bool} {a5 ob cd wB Bd y E0 p k : Nat} (w : TWf f Γ.length (Δ.map (fun a => a.1)) t) (he : TE Γ Δ) (l1 : ω.length = Γ.length) (cu : un = true ∨ COk f t 0) (hm30 : mch t ≤ 30) (hdc : dch Δ ≤ cd) (hcd : cd ≤ 56) (a55 : a5 ≤ 5) (ha5 : Δ ≠ [] → a5 = 0) (y01 : x0 ≤ y) (k50 : k ≤ 50) (hr : ∀ b ∈ Γ, hd b ≠ 2) (hω2 : ∀ j, j < ω.length → vw ω j ≤ y) (hkb : HEk t0 n1 s2 h (E2 (X7w F W y cd (mch t)) (ebw F W hv y cd (mch t) E0 p wB ob) (e2w F W hv y cd (mch t) k)) Γ ω) (go : ∀ E Z, AQh t0 n1 s2 h E Z f t [] ω → HEk t0 n1 s2 h E Γ ω → GOk t0 n1 s2 h E f t [] ω Γ Δ) (R1 : dp8 un F W a5 hv fn s2 r0 r1 r2 r3 E0 p wB ob k y cd (mch t) ≤ Bd) (hS : tyF f t Γ Δ = .inr S) : nz t0 n1 s2 h ω S ≤ Bd := by sorry
end PmHt

end
section
-- from 99z63
section PmHv
variable {t0 fn s2 hv r0 r1 r2 r3 x0 : Nat} {n1 h : Nat → Nat} {P Q : List (List Nat)} {F G W : FrT} {X : List Nat}
theorem gen_zs (hn : NC t0 n1 s2 h) (hm : ∀ y y', y ≤ y' → h y ≤ h y') (hh : ∀ y δ, h (y + δ) ≤ h y + δ) (T : TBs 58 t0 fn s2 hv r0 r1 r2 r3 x0 n1 h P Q F G X) (hFm : frm F = true) (hgr : fgc F W hv = true) (hWm : fgm W = true) (hW1 : fg1s W = true) (hW : (1, 0) ∈ frg W 0) (H1 : ∀ y, h y ≤ hv + max 1 y) (s21 : 1 ≤ s2) {f : Nat} {t S b b' B C : Ty} {Γ0 Δ1 : List Ty} {Δ : List (Nat × Ty × Nat)} {un : Bool} {a5 ob cd Bd y1 κ wB : Nat} {v : Nat × Nat} (ds : DSp Γ0.length (tAll B C) b' b) (w : TWf f (cxs Δ1 Γ0 b).length (Δ.map (fun a => a.1)) t) (he : TE (cxs Δ1 Γ0 b) Δ) (cu : un = true ∨ COk f t 0) (hm30 : mch t ≤ 30) (hdc : dch Δ ≤ cd) (hcd : cd ≤ 56) (a55 : a5 ≤ 5) (ha5 : Δ ≠ [] → a5 = 0) (hb0 : ∀ a ∈ Γ0, OBs ob a) (hb1 : ∀ a ∈ Δ1, OBs ob a) (hbs : ∀ B' C', ok Γ0.length (tAll B' C') = true → tch C' ≤ tch C → tch (tAll B' C') + tch (tAll B C) + 5 ≤ tch b → tch C' ≤ 40 ∧ lmx xr1 (tch C') ≤ ob ∧ lmx fr1 (tch C') ≤ ob) (q38 : cch Δ1 ≤ 38) (q56 : cch Γ0 ≤ 56) (e1 : max x0 (X.getD (cch Γ0) 0) ≤ y1) (hκ : nz t0 n1 s2 h (onz t0 n1 s2 h Γ0) b' ≤ κ) (hwB : h (nz t0 n1 s2 h (onz t0 n1 s2 h Γ0) B) ≤ wB) (hv1 : xt (Γ0.length + 1) C ≤ v.1) (hv2 : xa t0 n1 s2 hv (Γ0.length + 1) C ≤ v.2) (go : ∀ E Z, AQh t0 n1 s2 h E Z f t [] (onz t0 n1 s2 h (cxs Δ1 Γ0 b)) → HEk t0 n1 s2 h E (cxs Δ1 Γ0 b) (onz t0 n1 s2 h (cxs Δ1 Γ0 b)) → GOk t0 n1 s2 h E f t [] (onz t0 n1 s2 h (cxs Δ1 Γ0 b)) (cxs Δ1 Γ0 b) Δ) (hT : ∀ p, p ≤ v.1 → ∀ u ∈ frg W (cch Δ1), ∃ s : T6, (TiD hv s2 κ wB y1 ob (tch C) p v u s ∧ ∃ w0 ∈ frg F s.2.2.2.2.2, ob + 1 ≤ w0.1) ∧ dp8 un F W a5 hv fn s2 r0 r1 r2 r3 s.2.2.1 s.2.2.2.1 s.1 s.2.2.2.2.1 s.2.2.2.2.2 s.1 cd (mch t) ≤ Bd) (hr : ∀ a ∈ cxs Δ1 Γ0 b, hd a ≠ 2) (hS : tyF f t (cxs Δ1 Γ0 b) Δ = .inr S) : nz t0 n1 s2 h (onz t0 n1 s2 h (cxs Δ1 Γ0 b)) S ≤ Bd := by sorry
end PmHv
def lnf8 (un e : Bool) (L : LnT) (F W : FrT) (hv fn s2 r0 r1 r2 r3 Bd a b m0 m1 : Nat) : Bool := (List.range b).all (fun c => Nat.blt c a || (lng L c).all (fun s => (List.range m1).all (fun m => Nat.blt m m0 || (Nat.blt 58 (c + 2 * m) || (if e then Nat.ble (dp8 un F W 5 hv fn s2 r0 r1 r2 r3 s.2.2.1 s.2.2.2.1 s.1 s.2.2.2.2.1 s.2.2.2.2.2 s.1 0 m) Bd else (Nat.blt (58 - 2 * m - c) 5 || Nat.ble (dp8 un F W 0 hv fn s2 r0 r1 r2 r3 s.2.2.1 s.2.2.2.1 s.1 s.2.2.2.2.1 s.2.2.2.2.2 s.1 (58 - 2 * m - c) m) Bd))))))
theorem lnf8_get {un e : Bool} {L : LnT} {F W : FrT} {hv fn s2 r0 r1 r2 r3 Bd a b m0 m1 c m : Nat} (h : lnf8 un e L F W hv fn s2 r0 r1 r2 r3 Bd a b m0 m1 = true) (ha : a ≤ c) (hb : c < b) (h0 : m0 ≤ m) (h1 : m < m1) (hc : c + 2 * m ≤ 58) {s : T6} (hs : s ∈ lng L c) : (e = false → 5 ≤ 58 - 2 * m - c → dp8 un F W 0 hv fn s2 r0 r1 r2 r3 s.2.2.1 s.2.2.2.1 s.1 s.2.2.2.2.1 s.2.2.2.2.2 s.1 (58 - 2 * m - c) m ≤ Bd) ∧ (e = true → dp8 un F W 5 hv fn s2 r0 r1 r2 r3 s.2.2.1 s.2.2.2.1 s.1 s.2.2.2.2.1 s.2.2.2.2.2 s.1 0 m ≤ Bd) := by sorry
section PmHw
variable {f : Nat} {t b b' B C : Ty} {Γ0 Δ1 : List Ty} {Δ : List (Nat × Ty × Nat)} {un e : Bool} {LR LG : LnT} {c0 c1 m0 m1 : Nat}
theorem zone_hs (hr : ∀ a ∈ cxs Δ1 Γ0 b, hd a ≠ 2) (lb : LBd Γ0 Δ1 b b' B C) (w : TWf f (cxs Δ1 Γ0 b).length (Δ.map (fun a => a.1)) t) (he : TE (cxs Δ1 Γ0 b) Δ) (hΔ : (e = true ∧ Δ = []) ∨ (e = false ∧ Δ ≠ [])) (cu : un = true ∨ COk f t 0) (ch : CHo f t []) (zR : liz LR xr1 fr1 fg1 1 3 (kpz fr1 0 (max 1 (fx1.getD (cch Γ0) 0)) (tch b - tch (tAll B C))) (wbz fr1 1 (max 1 (fx1.getD (cch Γ0) 0)) (tch B)) (max 1 (fx1.getD (cch Γ0) 0)) (ojz (tch C) (tch b - tch (tAll B C)) (cch Γ0) (cch Δ1)) (tch C) (cch Δ1) (cch (cxs Δ1 Γ0 b)) = true) (zG : liz LG xrq frq fgq 0 1 (kpz frq 1 (max 1 (fxq.getD (cch Γ0) 0)) (tch b - tch (tAll B C))) (wbz frq 0 (max 1 (fxq.getD (cch Γ0) 0)) (tch B)) (max 1 (fxq.getD (cch Γ0) 0)) (ojz (tch C) (tch b - tch (tAll B C)) (cch Γ0) (cch Δ1)) (tch C) (cch Δ1) (cch (cxs Δ1 Γ0 b)) = true) (tR : lnf8 un e LR fr1 fg1 1 2 3 2 2 2 2 887 c0 c1 m0 m1 = true) (tG : lnf8 un e LG frq fgq 0 1 1 1 3 2 1 597 c0 c1 m0 m1 = true) (h0 : c0 ≤ cch (cxs Δ1 Γ0 b)) (h1 : cch (cxs Δ1 Γ0 b) < c1) (g0 : m0 ≤ mch t) (g1 : mch t < m1) (h47 : cch (cxs Δ1 Γ0 b) ≤ 47) (q38 : cch Δ1 ≤ 38) (hb : cch (cxs Δ1 Γ0 b) + dch Δ + 2 * mch t ≤ 58) : NtV (cxs Δ1 Γ0 b) Δ f t 887 597 := by sorry
end PmHw

end
section
-- from 99z64
def s0R : LnT := [[], [], [], [], [], [], [], [], [], [], [], [], [], [], [], [], [], [], [], [], [], [], [], [], [], [], [], [], [], [], [], [], [], [], [], [], [], [], [], [], [], [(66, 0, 49, 12, 0, 26)], [(66, 0, 49, 12, 0, 26)], [(66, 0, 49, 12, 0, 26)], [(155, 0, 97, 18, 1, 32)], [(156, 0, 97, 18, 1, 33)], [(195, 0, 97, 20, 3, 34)], [(203, 0, 112, 27, 3, 35)]]
def s0G : LnT := [[], [], [], [], [], [], [], [], [], [], [], [], [], [], [], [], [], [], [], [], [], [], [], [], [], [], [], [], [], [], [], [], [], [], [], [], [], [], [], [], [], [(50, 0, 42, 11, 0, 26), (32, 0, 12, 12, 0, 26)], [(50, 0, 42, 11, 0, 26), (32, 0, 12, 12, 0, 26)], [(50, 0, 42, 11, 0, 26), (32, 0, 12, 12, 0, 26)], [(104, 0, 69, 18, 1, 32)], [(119, 0, 75, 18, 1, 33)], [(151, 0, 75, 20, 3, 34)], [(152, 0, 87, 27, 3, 35)]]
theorem s0R_39 : lnf8 false false s0R fr1 fg1 1 2 3 2 2 2 2 887 39 48 3 6 = true := by sorry
theorem s0G_39 : lnf8 false false s0G frq fgq 0 1 1 1 3 2 1 597 39 48 3 6 = true := by sorry
def s1R : LnT := [[], [], [], [], [], [], [], [], [], [], [], [], [], [], [], [], [], [], [], [], [], [], [], [], [], [], [], [], [], [], [(35, 0, 23, 6, 0, 18)], [(41, 0, 29, 6, 0, 19)], [(50, 0, 29, 6, 0, 20)], [(51, 0, 29, 6, 0, 21)], [(53, 0, 29, 6, 0, 21)], [(59, 0, 29, 6, 0, 21)], [], [], [(74, 0, 38, 9, 0, 25), (62, 0, 49, 12, 0, 26)], [(85, 0, 41, 9, 0, 25), (63, 0, 49, 12, 0, 26)], [(107, 0, 30, 8, 1, 25), (84, 0, 47, 10, 1, 26), (62, 0, 49, 12, 0, 26)], [(108, 0, 70, 7, 3, 26), (85, 0, 37, 10, 0, 26), (64, 0, 30, 12, 0, 26)], [], [], [], [], [], []]
def s1G : LnT := [[], [], [], [], [], [], [], [], [], [], [], [], [], [], [], [], [], [], [], [], [], [], [], [], [], [], [], [], [], [], [(22, 0, 17, 6, 0, 18)], [(27, 0, 22, 6, 0, 19)], [(37, 0, 24, 6, 0, 20)], [(37, 0, 24, 6, 0, 21)], [(35, 0, 24, 6, 0, 21)], [(49, 0, 24, 5, 0, 21), (38, 0, 15, 6, 0, 21)], [], [], [(59, 0, 22, 9, 0, 23), (47, 0, 42, 11, 0, 26), (29, 0, 12, 12, 0, 26)], [(71, 0, 16, 6, 0, 21), (53, 0, 28, 9, 0, 24), (47, 0, 42, 11, 0, 26), (29, 0, 12, 12, 0, 26)], [(80, 0, 31, 7, 1, 26), (59, 0, 42, 9, 0, 26), (29, 0, 14, 12, 0, 26)], [(81, 0, 56, 6, 3, 26), (59, 0, 23, 9, 0, 26), (32, 0, 14, 12, 0, 26)], [], [], [], [], [], []]
theorem s1R_30 : lnf8 true false s1R fr1 fg1 1 2 3 2 2 2 2 887 30 36 6 15 = true := by sorry
theorem s1G_30 : lnf8 true false s1G frq fgq 0 1 1 1 3 2 1 597 30 36 6 15 = true := by sorry
theorem s1R_36 : lnf8 true false s1R fr1 fg1 1 2 3 2 2 2 2 887 36 48 6 12 = true := by sorry
theorem s1G_36 : lnf8 true false s1G frq fgq 0 1 1 1 3 2 1 597 36 48 6 12 = true := by sorry
def s2R : LnT := [[], [], [], [], [], [], [], [], [], [], [], [], [], [], [], [], [], [], [], [], [], [], [], [], [], [], [], [], [], [], [], [], [], [], [(47, 0, 34, 9, 0, 22)], [(56, 0, 43, 9, 0, 23)], [(71, 0, 45, 9, 0, 24)], [], [(62, 0, 49, 12, 0, 26)], [(74, 0, 58, 12, 0, 27)], [(101, 0, 67, 12, 0, 28)], [(102, 0, 67, 12, 0, 29)], [(107, 0, 67, 16, 0, 30)], [], [], [], [], []]
def s2G : LnT := [[], [], [], [], [], [], [], [], [], [], [], [], [], [], [], [], [], [], [], [], [], [], [], [], [], [], [], [], [], [], [], [], [], [], [(33, 0, 28, 9, 0, 22)], [(38, 0, 33, 9, 0, 23)], [(53, 0, 33, 9, 0, 24)], [], [(47, 0, 42, 10, 0, 26), (29, 0, 13, 12, 0, 26)], [(49, 0, 44, 12, 0, 27)], [(77, 0, 46, 12, 0, 28)], [(77, 0, 51, 12, 0, 29)], [(89, 0, 56, 16, 0, 30)], [], [], [], [], []]
theorem s2R_34 : lnf8 true true s2R fr1 fg1 1 2 3 2 2 2 2 887 34 48 8 13 = true := by sorry
theorem s2G_34 : lnf8 true true s2G frq fgq 0 1 1 1 3 2 1 597 34 48 8 13 = true := by sorry
end
section
-- from 99z65
def B6z (e : Bool) (m be k ov q1 q2 : Nat) : Bool := if e then (Nat.ble 8 m && (Nat.ble 34 (8 + be + k + ov + q1 + q2) && (zjR s2R be k ov q1 q2 && zjG s2G be k ov q1 q2))) else if Nat.ble m 5 then (Nat.ble 39 (8 + be + k + ov + q1 + q2) && (zjR s0R be k ov q1 q2 && zjG s0G be k ov q1 q2)) else (Nat.ble 30 (8 + be + k + ov + q1 + q2) && (zjR s1R be k ov q1 q2 && zjG s1G be k ov q1 q2))
section PmHx9
variable {f : Nat} {t b b' B C : Ty} {Γ0 Δ1 : List Ty} {Δ : List (Nat × Ty × Nat)}
theorem nat_bs (hr : ∀ a ∈ cxs Δ1 Γ0 b, hd a ≠ 2) (lb : LBd Γ0 Δ1 b b' B C) (w : TWf f (cxs Δ1 Γ0 b).length (Δ.map (fun a => a.1)) t) (he : TE (cxs Δ1 Γ0 b) Δ) (ch : CHo f t []) (hz : B6z Δ.isEmpty (mch t) (tch B) (tch C) (tch b - tch (tAll B C)) (cch Γ0) (cch Δ1) = true) (m3 : 3 ≤ mch t) (h20 : 20 ≤ cch (cxs Δ1 Γ0 b)) (h47 : cch (cxs Δ1 Γ0 b) ≤ 47) (q38 : cch Δ1 ≤ 38) (hb : cch (cxs Δ1 Γ0 b) + dch Δ + 2 * mch t ≤ 58) : NtV (cxs Δ1 Γ0 b) Δ f t 887 597 := by sorry
end PmHx9
def AzH (f : Nat) (t : Ty) (Γ : List Ty) (Δ : List (Nat × Ty × Nat)) : Prop := ∃ (Δ1 Γ0 : List Ty) (b b' B C : Ty), Γ = cxs Δ1 Γ0 b ∧ (∀ a ∈ cxs Δ1 Γ0 b, hd a ≠ 2) ∧ LBd Γ0 Δ1 b b' B C ∧ CHo (pee f t).1 (pee f t).2 [] ∧ B6z Δ.isEmpty (mch (pee f t).2) (tch B) (tch C) (tch b - tch (tAll B C)) (cch Γ0) (cch Δ1) = true ∧ 3 ≤ mch (pee f t).2 ∧ cch Δ1 ≤ 38 ∧ cch Γ + dch Δ + 2 * mch (pee f t).2 ≤ 58
theorem AzH.v {f : Nat} {t : Ty} {Γ : List Ty} {Δ : List (Nat × Ty × Nat)} (w : TWf f Γ.length (Δ.map (fun a => a.1)) t) (he : TE Γ Δ) (h20 : 20 ≤ cch Γ) (h47 : cch Γ ≤ 47) (h : AzH f t Γ Δ) : NtV Γ Δ f t 887 597 := by sorry
def RESTp9 : Prop := ∀ (f : Nat) (x y : Ty) (Γ : List Ty) (Δ : List (Nat × Ty × Nat)), TWf f Γ.length (Δ.map (fun a => a.1)) x → TWf f Γ.length (Δ.map (fun a => a.1)) y → TE Γ Δ → NAt f x → NAt f y → noac Γ → (∀ a ∈ Δ, noal a.2.1 = true) → TNo f x → TNo f y → 3 ≤ mch x → 3 ≤ mch y → (mch x ≤ mch y → ¬ NOp f x) → (¬ mch x ≤ mch y → ¬ NOp f y) → 20 ≤ cch Γ → cch Γ ≤ 47 → cch Γ + dch Δ + (2 + (mch x + mch y)) ≤ 60 → NoO f x y Γ Δ → ¬ AzT f x Γ Δ → ¬ AzT f y Γ Δ → ¬ AzB f x Γ Δ → ¬ AzB f y Γ Δ → ¬ AzC f x Γ Δ → ¬ AzC f y Γ Δ → ¬ AzI f x Γ Δ → ¬ AzI f y Γ Δ → ¬ AzF f x Γ Δ → ¬ AzF f y Γ Δ → ¬ AzG f x Γ Δ → ¬ AzG f y Γ Δ → ¬ AzH f x Γ Δ → ¬ AzH f y Γ Δ → (¬ ((mch x ≤ mch y → CHo f x []) ∧ (¬ mch x ≤ mch y → CHo f y [])) ∨ LeftJ f x y Γ Δ) → PRn f x y Γ Δ
theorem resto9_of (R : RESTp9) : RESTo9 := by sorry
theorem pairn_op (R : RESTp9) : PAIRn := by sorry
end
section
-- from 99z66
def TwR (un e : Bool) (wB cd m L : Nat) (s : T6) : Prop := (s.2.2.2.2.2 ≤ 50 ∧ wB ≤ s.1) ∧ (e = false → 5 ≤ cd → dpD un fr1 fg1 0 1 2 3 2 2 2 2 s.2.2.1 s.2.2.2.1 s.1 s.2.2.2.2.1 s.2.2.2.2.2 s.1 cd m ≤ L) ∧ (e = true → dpD un fr1 fg1 5 1 2 3 2 2 2 2 s.2.2.1 s.2.2.2.1 s.1 s.2.2.2.2.1 s.2.2.2.2.2 s.1 0 m ≤ L)
def TwG (un e : Bool) (wB cd m L : Nat) (s : T6) : Prop := (s.2.2.2.2.2 ≤ 50 ∧ wB ≤ s.1) ∧ (e = false → 5 ≤ cd → dpD un frq fgq 0 0 1 1 1 3 2 1 s.2.2.1 s.2.2.2.1 s.1 s.2.2.2.2.1 s.2.2.2.2.2 s.1 cd m ≤ L) ∧ (e = true → dpD un frq fgq 5 0 1 1 1 3 2 1 s.2.2.1 s.2.2.2.1 s.1 s.2.2.2.2.1 s.2.2.2.2.2 s.1 0 m ≤ L)
theorem mxw {w y : Nat} (z : Nat) (h : w ≤ y) : max z w ≤ max z y := by sorry
section PmHy9
variable {f : Nat} {t B C Dm : Ty} {Γ0 Δ1 : List Ty} {Δ : List (Nat × Ty × Nat)} {un e : Bool} {cd ob wR wG va vg LR LG : Nat} {VR VG : List (Nat × Nat)}
theorem zone_sw (w : TWf f (cxs Δ1 Γ0 (tAll B C)).length (Δ.map (fun a => a.1)) t) (he : TE (cxs Δ1 Γ0 (tAll B C)) Δ) (hΔ : (e = true ∧ Δ = []) ∨ (e = false ∧ Δ ≠ [])) (cu : un = true ∨ COk f t 0) (m30 : mch t ≤ 30) (hdd : dch Δ ≤ cd) (hcd : cd ≤ 56) (hb0 : ∀ b ∈ Γ0, nsch b = true ∨ flv b ≤ ob) (hb1 : ∀ b ∈ Δ1, nsch b = true ∨ flv b ≤ ob) (q56 : cch Γ0 ≤ 56) (q38 : cch Δ1 ≤ 38) (wbR : ∀ b, vlr b 1 (nz 0 (fun _ => 1 + 1) (2 + 1) (vlr b 1) (onz 0 (fun _ => 1 + 1) (2 + 1) (vlr b 1) Γ0) B) ≤ wR) (wbG : nz 1 ngc 1 (fun x => x) (onz 1 ngc 1 (fun x => x) Γ0) B ≤ wG)
  (hVR : ∃ v ∈ VR, xt (Γ0.length + 1) C ≤ v.1 ∧ xa 0 (fun _ => 1 + 1) 3 1 (Γ0.length + 1) C ≤ v.2) (hVG : ∃ v ∈ VG, xt (Γ0.length + 1) C ≤ v.1 ∧ xa 1 ngc 1 0 (Γ0.length + 1) C ≤ v.2)
  (oD : ok (Γ0.length + 1) Dm = true) (vD : ∀ b, vlr b 1 (mz b 1 Γ0 (tAll B Dm)) ≤ va) (vG : gz Γ0 (tAll B Dm) ≤ vg)
  (goR : ∀ (b : Bool) E Z, AQh 0 (fun _ => 1 + 1) (2 + 1) (vlr b 1) E Z f t [] (onz 0 (fun _ => 1 + 1) (2 + 1) (vlr b 1) (cxs Δ1 Γ0 (tAll B Dm))) → GOk 0 (fun _ => 1 + 1) (2 + 1) (vlr b 1) E f t [] (onz 0 (fun _ => 1 + 1) (2 + 1) (vlr b 1) (cxs Δ1 Γ0 (tAll B Dm))) (cxs Δ1 Γ0 (tAll B C)) Δ) (goG : ∀ E Z, AQh 1 ngc 1 (fun x => x) E Z f t [] (onz 1 ngc 1 (fun x => x) (cxs Δ1 Γ0 (tAll B Dm))) → GOk 1 ngc 1 (fun x => x) E f t [] (onz 1 ngc 1 (fun x => x) (cxs Δ1 Γ0 (tAll B Dm))) (cxs Δ1 Γ0 (tAll B C)) Δ)
  (hTR : ∀ v ∈ VR, ∀ p, p ≤ v.1 → ∀ w ∈ frg fg1 (cch Δ1), ∃ s, TqD va (max 1 (fx1.getD (cch Γ0) 0)) ob (tch C) p v w s ∧ TwR un e wR cd (mch t) LR s)
  (hTG : ∀ v ∈ VG, ∀ p, p ≤ v.1 → ∀ w ∈ frg fgq (cch Δ1), ∃ s, TqD vg (max 1 (fxq.getD (cch Γ0) 0)) ob (tch C) p v w s ∧ TwG un e wG cd (mch t) LG s) : SmV Dm B C Γ0 Δ1 Δ f t LR LG := by sorry
end PmHy9
def vbR : LnT := [[], [], [], [], [], [], [], [], [], [], [], [], [], [], [], [], [], [], [], [], [], [], [], [], [], [], [], [], [], [], [], [], [], [], [], [], [], [(17, 0, 23, 6, 2, 18)], [(17, 0, 29, 6, 2, 19)], [(17, 0, 29, 6, 2, 20)], [(39, 0, 58, 5, 4, 21), (19, 0, 22, 6, 2, 21)], [(47, 0, 64, 4, 4, 19), (26, 0, 34, 9, 3, 22)], [(17, 0, 43, 9, 2, 23)], [(17, 0, 45, 9, 2, 24)], [(26, 0, 45, 9, 3, 25)], [(35, 0, 76, 10, 4, 26), (17, 0, 30, 12, 2, 26)], [(71, 0, 112, 4, 4, 27), (59, 0, 62, 6, 6, 27), (26, 0, 51, 12, 3, 27)], [(71, 0, 148, 4, 5, 28), (59, 0, 78, 6, 6, 28), (26, 0, 58, 12, 3, 28)]]
def vbG : LnT := [[], [], [], [], [], [], [], [], [], [], [], [], [], [], [], [], [], [], [], [], [], [], [], [], [], [], [], [], [], [], [], [], [], [], [], [], [], [(7, 0, 17, 6, 2, 18)], [(7, 0, 22, 6, 2, 19)], [(10, 0, 24, 6, 2, 20)], [(32, 0, 43, 4, 4, 21), (10, 0, 16, 6, 2, 21)], [(32, 0, 44, 4, 4, 20), (11, 0, 28, 9, 3, 22)], [(7, 0, 33, 9, 2, 23)], [(10, 0, 33, 9, 2, 24)], [(11, 0, 34, 9, 3, 25)], [(21, 0, 66, 11, 4, 26), (7, 0, 12, 12, 2, 26)], [(56, 0, 99, 3, 4, 27), (37, 0, 39, 7, 6, 27), (13, 0, 59, 12, 3, 27)], [(56, 0, 71, 4, 4, 28), (37, 0, 76, 6, 6, 28), (16, 0, 99, 12, 4, 28)]]
def vt0R : List (List Nat) := [[], [], [], [], [], [], [], [], [], [], [], [], [], [], [], [], [], [], [], [], [], [], [], [], [], [], [], [], [], [], [], [], [], [], [], [], [], [0, 0, 0, 125, 125, 125, 163, 239, 250, 250, 258, 353, 364, 375, 0, 0], [0, 0, 0, 131, 131, 131, 167, 245, 262, 262, 262, 359, 376, 0, 0, 0], [0, 0, 0, 131, 131, 131, 167, 245, 262, 262, 262, 359, 0, 0, 0, 0], [0, 0, 0, 253, 253, 256, 333, 458, 506, 506, 509, 0, 0, 0, 0, 0], [0, 0, 0, 268, 268, 298, 301, 520, 536, 592, 0, 0, 0, 0, 0, 0], [0, 0, 0, 196, 196, 196, 214, 367, 392, 0, 0, 0, 0, 0, 0, 0], [0, 0, 0, 198, 198, 198, 216, 369, 0, 0, 0, 0, 0, 0, 0, 0], [0, 0, 0, 279, 279, 279, 305, 0, 0, 0, 0, 0, 0, 0, 0, 0], [0, 0, 0, 426, 426, 449, 0, 0, 0, 0, 0, 0, 0, 0, 0, 0], [0, 0, 0, 416, 416, 0, 0, 0, 0, 0, 0, 0, 0, 0, 0, 0], [0, 0, 0, 432, 0, 0, 0, 0, 0, 0, 0, 0, 0, 0, 0, 0]]
def vt5R : List (List Nat) := [[], [], [], [], [], [], [], [], [], [], [], [], [], [], [], [], [], [], [], [], [], [], [], [], [], [], [], [], [], [], [], [], [], [], [], [], [], [0, 0, 0, 0, 0, 0, 0, 0, 0, 0, 0, 0, 0, 0, 0, 0], [0, 0, 0, 0, 0, 0, 0, 0, 0, 0, 0, 0, 0, 0, 0, 0], [0, 0, 0, 0, 0, 0, 0, 0, 0, 0, 0, 0, 0, 0, 0, 0], [0, 0, 0, 0, 0, 0, 0, 0, 0, 0, 0, 0, 0, 0, 0, 0], [0, 0, 0, 0, 0, 2, 97, 99, 305, 323, 353, 365, 585, 602, 696, 0], [0, 0, 0, 0, 0, 2, 37, 39, 224, 242, 242, 244, 414, 440, 0, 0], [0, 0, 0, 0, 0, 0, 0, 0, 0, 0, 0, 0, 0, 0, 0, 0], [0, 0, 0, 0, 0, 0, 0, 0, 0, 0, 0, 0, 0, 0, 0, 0], [0, 0, 0, 0, 0, 0, 0, 0, 0, 0, 0, 0, 0, 0, 0, 0], [0, 0, 0, 0, 0, 0, 0, 0, 0, 0, 0, 0, 0, 0, 0, 0], [0, 0, 0, 0, 0, 0, 0, 0, 0, 0, 0, 0, 0, 0, 0, 0]]
def vt0G : List (List Nat) := [[], [], [], [], [], [], [], [], [], [], [], [], [], [], [], [], [], [], [], [], [], [], [], [], [], [], [], [], [], [], [], [], [], [], [], [], [], [0, 0, 0, 59, 59, 59, 77, 107, 118, 118, 125, 155, 166, 177, 0, 0], [0, 0, 0, 64, 64, 64, 82, 112, 128, 128, 130, 160, 176, 0, 0, 0], [0, 0, 0, 84, 84, 84, 105, 150, 168, 168, 168, 216, 0, 0, 0, 0], [0, 0, 0, 171, 171, 207, 236, 303, 342, 405, 405, 0, 0, 0, 0, 0], [0, 0, 0, 172, 172, 201, 207, 304, 344, 399, 0, 0, 0, 0, 0, 0], [0, 0, 0, 96, 96, 96, 123, 168, 192, 0, 0, 0, 0, 0, 0, 0], [0, 0, 0, 123, 123, 123, 150, 222, 0, 0, 0, 0, 0, 0, 0, 0], [0, 0, 0, 133, 133, 133, 160, 0, 0, 0, 0, 0, 0, 0, 0, 0], [0, 0, 0, 297, 297, 297, 0, 0, 0, 0, 0, 0, 0, 0, 0, 0], [0, 0, 0, 298, 298, 0, 0, 0, 0, 0, 0, 0, 0, 0, 0, 0], [0, 0, 0, 298, 0, 0, 0, 0, 0, 0, 0, 0, 0, 0, 0, 0]]
def vt5G : List (List Nat) := [[], [], [], [], [], [], [], [], [], [], [], [], [], [], [], [], [], [], [], [], [], [], [], [], [], [], [], [], [], [], [], [], [], [], [], [], [], [0, 0, 0, 0, 0, 0, 0, 0, 0, 0, 0, 0, 0, 0, 0, 0], [0, 0, 0, 0, 0, 0, 0, 0, 0, 0, 0, 0, 0, 0, 0, 0], [0, 0, 0, 0, 0, 0, 0, 0, 0, 0, 0, 0, 0, 0, 0, 0], [0, 0, 0, 0, 0, 0, 0, 0, 0, 0, 0, 0, 0, 0, 0, 0], [0, 0, 0, 0, 0, 3, 66, 66, 209, 209, 240, 242, 370, 385, 465, 0], [0, 0, 0, 0, 0, 3, 16, 16, 113, 113, 113, 143, 194, 218, 0, 0], [0, 0, 0, 0, 0, 0, 0, 0, 0, 0, 0, 0, 0, 0, 0, 0], [0, 0, 0, 0, 0, 0, 0, 0, 0, 0, 0, 0, 0, 0, 0, 0], [0, 0, 0, 0, 0, 0, 0, 0, 0, 0, 0, 0, 0, 0, 0, 0], [0, 0, 0, 0, 0, 0, 0, 0, 0, 0, 0, 0, 0, 0, 0, 0], [0, 0, 0, 0, 0, 0, 0, 0, 0, 0, 0, 0, 0, 0, 0, 0]]
def jya (L : LnT) (T0 : List (List Nat)) (F W : FrT) (hv fn s2 r0 r1 r2 r3 a b : Nat) : Bool := (List.range b).all (fun c => Nat.blt c a || (lng L c).all (fun s => (List.range 16).all (fun m => Nat.blt m 3 || (Nat.blt 50 (c + m) || Nat.ble (dpD false F W 0 hv fn s2 r0 r1 r2 r3 s.2.2.1 s.2.2.2.1 s.1 s.2.2.2.2.1 s.2.2.2.2.2 s.1 (55 - c - m) m) (bhg T0 c m)))))
def jyb (L : LnT) (T5 : List (List Nat)) (F W : FrT) (hv fn s2 r0 r1 r2 r3 a b : Nat) : Bool := (List.range b).all (fun c => Nat.blt c a || (lng L c).all (fun s => (List.range 16).all (fun m => Nat.blt m 3 || (Nat.blt 55 (c + m) || Nat.ble (dpD false F W 5 hv fn s2 r0 r1 r2 r3 s.2.2.1 s.2.2.2.1 s.1 s.2.2.2.2.1 s.2.2.2.2.2 s.1 0 m) (bhg T5 c m)))))
theorem jya_get {L : LnT} {T0 : List (List Nat)} {F W : FrT} {hv fn s2 r0 r1 r2 r3 a b c m : Nat} (h : jya L T0 F W hv fn s2 r0 r1 r2 r3 a b = true) (ha : a ≤ c) (hb : c < b) (m3 : 3 ≤ m) (m16 : m < 16) (hc : c + m ≤ 50) {s : T6} (hs : s ∈ lng L c) : dpD false F W 0 hv fn s2 r0 r1 r2 r3 s.2.2.1 s.2.2.2.1 s.1 s.2.2.2.2.1 s.2.2.2.2.2 s.1 (55 - c - m) m ≤ bhg T0 c m := by sorry
theorem jyb_get {L : LnT} {T5 : List (List Nat)} {F W : FrT} {hv fn s2 r0 r1 r2 r3 a b c m : Nat} (h : jyb L T5 F W hv fn s2 r0 r1 r2 r3 a b = true) (ha : a ≤ c) (hb : c < b) (m3 : 3 ≤ m) (m16 : m < 16) (hc : c + m ≤ 55) {s : T6} (hs : s ∈ lng L c) : dpD false F W 5 hv fn s2 r0 r1 r2 r3 s.2.2.1 s.2.2.2.1 s.1 s.2.2.2.2.1 s.2.2.2.2.2 s.1 0 m ≤ bhg T5 c m := by sorry
theorem vbR_0 : jya vbR vt0R fr1 fg1 1 2 3 2 2 2 2 37 48 = true := by sorry
theorem vbG_0 : jya vbG vt0G frq fgq 0 1 1 1 3 2 1 37 48 = true := by sorry
theorem vbR_5 : jyb vbR vt5R fr1 fg1 1 2 3 2 2 2 2 41 43 = true := by sorry
theorem vbG_5 : jyb vbG vt5G frq fgq 0 1 1 1 3 2 1 41 43 = true := by sorry
theorem vtR_s : jxs vt0R vt5R 887 = true := by sorry
theorem vtG_s : jxs vt0G vt5G 597 = true := by sorry
def lyz (L : LnT) (XR W : FrT) (va wB y1 ob k q2 c : Nat) : Bool := (frg XR k).all (fun v => (List.range (v.1 + 1)).all (fun p => (frg W q2).all (fun u => (lng L c).any (fun s => Nat.ble (u.2 + u.1 * max y1 va) s.1 && (Nat.ble (v.2 + (v.1 - p) * y1) s.2.2.1 && (Nat.ble p s.2.2.2.1 && (Nat.ble ob s.2.2.2.2.1 && (Nat.ble k s.2.2.2.2.2 && (Nat.ble wB s.1 && Nat.ble s.2.2.2.2.2 50)))))))))
theorem lyz_get {L : LnT} {XR W : FrT} {va wB y1 ob k q2 c : Nat} (h : lyz L XR W va wB y1 ob k q2 c = true) : ∀ v ∈ frg XR k, ∀ p, p ≤ v.1 → ∀ u ∈ frg W q2, ∃ s : T6, s ∈ lng L c ∧ TqD va y1 ob k p v u s ∧ s.2.2.2.2.2 ≤ 50 ∧ wB ≤ s.1 := by sorry
end
section
-- from 99z67
def obz (q : Nat) : Nat := lmx fr1 (q - 4)
def B7z (be k q1 q2 : Nat) : Bool := Nat.ble 37 (8 + be + k + q1 + q2) && (lyz vbR xr1 fg1 7 (wbz fr1 1 (max 1 (fx1.getD q1 0)) be) (max 1 (fx1.getD q1 0)) (max (obz q1) (obz q2)) k q2 (8 + be + k + q1 + q2) && lyz vbG xrq fgq 3 (wbz frq 0 (max 1 (fxq.getD q1 0)) be) (max 1 (fxq.getD q1 0)) (max (obz q1) (obz q2)) k q2 (8 + be + k + q1 + q2))
section PmHz
variable {f : Nat} {t x y B C : Ty} {Γ0 Δ1 : List Ty} {Δ : List (Nat × Ty × Nat)}
theorem smb_v (w : TWf f (cxs Δ1 Γ0 (tAll B C)).length (Δ.map (fun a => a.1)) t) (he : TE (cxs Δ1 Γ0 (tAll B C)) Δ) (cf : CFt f t) (oD : ok (Γ0.length + 1) Dsm = true) (b2 : 2 ≤ tch B) (k40 : tch C ≤ 40) (q38 : cch Δ1 ≤ 38) (hz : B7z (tch B) (tch C) (cch Γ0) (cch Δ1) = true) (m3 : 3 ≤ mch t) (m16 : mch t < 16) (hb : cch (cxs Δ1 Γ0 (tAll B C)) + dch Δ + mch t ≤ 55) (h47 : cch (cxs Δ1 Γ0 (tAll B C)) ≤ 47) (hΔ : Δ = [] → 41 ≤ cch (cxs Δ1 Γ0 (tAll B C)) ∧ cch (cxs Δ1 Γ0 (tAll B C)) < 43) : SmV Dsm B C Γ0 Δ1 Δ f t (bhg (bxe Δ vt5R vt0R) (cch (cxs Δ1 Γ0 (tAll B C))) (mch t)) (bhg (bxe Δ vt5G vt0G) (cch (cxs Δ1 Γ0 (tAll B C))) (mch t)) := by sorry
theorem pair_smb (ov : OVq 1 B C Dsm Γ0) (x1 : TWf f (cxs Δ1 Γ0 (tAll B C)).length (Δ.map (fun a => a.1)) x) (x2 : TWf f (cxs Δ1 Γ0 (tAll B C)).length (Δ.map (fun a => a.1)) y) (he : TE (cxs Δ1 Γ0 (tAll B C)) Δ) (y1 : NAt f x) (y2 : NAt f y) (hv : noac (cxs Δ1 Γ0 (tAll B C))) (hd' : ∀ a ∈ Δ, noal a.2.1 = true) (c1 : CFt f x) (c2 : CFt f y) (b2 : 2 ≤ tch B) (k40 : tch C ≤ 40) (q38 : cch Δ1 ≤ 38) (hz : B7z (tch B) (tch C) (cch Γ0) (cch Δ1) = true) (m1 : 3 ≤ mch x) (m2 : 3 ≤ mch y) (n1 : mch x < 16) (n2 : mch y < 16) (hb : cch (cxs Δ1 Γ0 (tAll B C)) + dch Δ + (2 + (mch x + mch y)) ≤ 60) (h47 : cch (cxs Δ1 Γ0 (tAll B C)) ≤ 47) (hΔ : Δ = [] → 41 ≤ cch (cxs Δ1 Γ0 (tAll B C)) ∧ cch (cxs Δ1 Γ0 (tAll B C)) < 43) : PRn f x y (cxs Δ1 Γ0 (tAll B C)) Δ := by sorry
end PmHz
def PrS (f : Nat) (x y : Ty) (Γ : List Ty) (Δ : List (Nat × Ty × Nat)) : Prop := ∃ (Δ1 Γ0 : List Ty) (B C : Ty), Γ = cxs Δ1 Γ0 (tAll B C) ∧ OVq 1 B C Dsm Γ0 ∧ CFt f x ∧ CFt f y ∧ 2 ≤ tch B ∧ tch C ≤ 40 ∧ cch Δ1 ≤ 38 ∧ B7z (tch B) (tch C) (cch Γ0) (cch Δ1) = true ∧ mch x < 16 ∧ mch y < 16 ∧ (Δ = [] → 41 ≤ cch Γ ∧ cch Γ < 43)
def RESTq9 : Prop := ∀ (f : Nat) (x y : Ty) (Γ : List Ty) (Δ : List (Nat × Ty × Nat)), TWf f Γ.length (Δ.map (fun a => a.1)) x → TWf f Γ.length (Δ.map (fun a => a.1)) y → TE Γ Δ → NAt f x → NAt f y → noac Γ → (∀ a ∈ Δ, noal a.2.1 = true) → TNo f x → TNo f y → 3 ≤ mch x → 3 ≤ mch y → (mch x ≤ mch y → ¬ NOp f x) → (¬ mch x ≤ mch y → ¬ NOp f y) → 20 ≤ cch Γ → cch Γ ≤ 47 → cch Γ + dch Δ + (2 + (mch x + mch y)) ≤ 60 → NoO f x y Γ Δ → ¬ AzT f x Γ Δ → ¬ AzT f y Γ Δ → ¬ AzB f x Γ Δ → ¬ AzB f y Γ Δ → ¬ AzC f x Γ Δ → ¬ AzC f y Γ Δ → ¬ AzI f x Γ Δ → ¬ AzI f y Γ Δ → ¬ AzF f x Γ Δ → ¬ AzF f y Γ Δ → ¬ AzG f x Γ Δ → ¬ AzG f y Γ Δ → ¬ AzH f x Γ Δ → ¬ AzH f y Γ Δ → ¬ PrS f x y Γ Δ → (¬ ((mch x ≤ mch y → CHo f x []) ∧ (¬ mch x ≤ mch y → CHo f y [])) ∨ LeftJ f x y Γ Δ) → PRn f x y Γ Δ
theorem restp9_of (R : RESTq9) : RESTp9 := by sorry
theorem pairn_oq (R : RESTq9) : PAIRn := by sorry
end
section
-- from 99z68
def n0R : LnT := [[], [], [], [], [], [], [], [], [], [], [], [], [], [], [], [], [], [], [], [], [], [], [], [], [], [], [], [], [], [], [], [], [], [], [], [], [], [], [], [], [], [(69, 0, 29, 4, 0, 22)], [(79, 0, 34, 5, 1, 23)], [(79, 0, 34, 5, 1, 23)], [(101, 0, 45, 6, 1, 25)], [(104, 0, 45, 6, 2, 26)], [(119, 0, 57, 6, 4, 27)], [(139, 0, 51, 6, 4, 27), (78, 0, 73, 1, 3, 23)]]
def n0G : LnT := [[], [], [], [], [], [], [], [], [], [], [], [], [], [], [], [], [], [], [], [], [], [], [], [], [], [], [], [], [], [], [], [], [], [], [], [], [], [], [], [], [], [(41, 0, 18, 4, 0, 22)], [(41, 0, 18, 5, 1, 23)], [(49, 0, 22, 5, 1, 23)], [(53, 0, 24, 6, 1, 25)], [(68, 0, 33, 6, 2, 26)], [(68, 0, 48, 6, 4, 27)], [(78, 0, 55, 6, 4, 27)]]
theorem n0R_41 : lnf false false n0R fr1 fg1 1 2 3 2 2 2 2 887 41 48 3 6 = true := by sorry
theorem n0G_41 : lnf false false n0G frq fgq 0 1 1 1 3 2 1 597 41 48 3 6 = true := by sorry
def n1R : LnT := [[], [], [], [], [], [], [], [], [], [], [], [], [], [], [], [], [], [], [], [], [], [], [], [], [], [], [], [], [], [], [], [], [], [(37, 0, 13, 2, 0, 14)], [], [], [], [(49, 0, 19, 3, 0, 18)], [(57, 0, 23, 4, 1, 19)], [(69, 0, 29, 4, 1, 20)], [(69, 0, 29, 4, 2, 21)], [(75, 0, 29, 4, 3, 22)], [], [], [], [], [], []]
def n1G : LnT := [[], [], [], [], [], [], [], [], [], [], [], [], [], [], [], [], [], [], [], [], [], [], [], [], [], [], [], [], [], [], [], [], [], [(21, 0, 8, 2, 0, 14)], [], [], [], [(27, 0, 11, 3, 0, 18)], [(33, 0, 14, 4, 1, 19)], [(35, 0, 15, 4, 1, 20)], [(38, 0, 16, 4, 2, 21)], [(47, 0, 22, 4, 3, 22)], [], [], [], [], [], []]
theorem n1R_33 : lnf true false n1R fr1 fg1 1 2 3 2 2 2 2 887 33 48 6 13 = true := by sorry
theorem n1G_33 : lnf true false n1G frq fgq 0 1 1 1 3 2 1 597 33 48 6 13 = true := by sorry
def n2R : LnT := [[], [], [], [], [], [], [], [], [], [], [], [], [], [], [], [], [], [], [], [], [], [], [], [], [], [], [], [], [], [], [], [], [], [], [], [], [], [], [], [], [], [(69, 0, 29, 4, 0, 22)], [(79, 0, 34, 5, 1, 23)], [], [], [], [], []]
def n2G : LnT := [[], [], [], [], [], [], [], [], [], [], [], [], [], [], [], [], [], [], [], [], [], [], [], [], [], [], [], [], [], [], [], [], [], [], [], [], [], [], [], [], [], [(41, 0, 18, 4, 0, 22)], [(45, 0, 20, 5, 1, 23)], [], [], [], [], []]
theorem n2R_41 : lnf true true n2R fr1 fg1 1 2 3 2 2 2 2 887 41 43 8 9 = true := by sorry
theorem n2G_41 : lnf true true n2G frq fgq 0 1 1 1 3 2 1 597 41 43 8 9 = true := by sorry
def B8z (e : Bool) (m be k q1 q2 : Nat) : Bool := if e then (Nat.ble 8 m && (Nat.ble 41 (8 + be + k + q1 + q2) && (zfR n2R be k q1 q2 && zfG n2G be k q1 q2))) else if Nat.ble m 5 then (Nat.ble 41 (8 + be + k + q1 + q2) && (zfR n0R be k q1 q2 && zfG n0G be k q1 q2)) else Nat.ble 33 (8 + be + k + q1 + q2) && (zfR n1R be k q1 q2 && zfG n1G be k q1 q2)
section PmHa9
variable {f : Nat} {t B C : Ty} {Γ0 Δ1 : List Ty} {Δ : List (Nat × Ty × Nat)}
theorem nat_bk (oB : ok 0 B = true) (lb : LBd Γ0 Δ1 (tAll B C) tTop B C) (nB : nsch B = true) (b2 : 2 ≤ tch B) (b16 : tch B ≤ 16) (fl : sB B C = true) (w : TWf f (cxs Δ1 Γ0 (tAll B C)).length (Δ.map (fun a => a.1)) t) (he : TE (cxs Δ1 Γ0 (tAll B C)) Δ) (ch : CHo f t []) (hz : B8z Δ.isEmpty (mch t) (tch B) (tch C) (cch Γ0) (cch Δ1) = true) (m3 : 3 ≤ mch t) (h20 : 20 ≤ cch (cxs Δ1 Γ0 (tAll B C))) (h47 : cch (cxs Δ1 Γ0 (tAll B C)) ≤ 47) (q38 : cch Δ1 ≤ 38) (hb : cch (cxs Δ1 Γ0 (tAll B C)) + dch Δ + 2 * mch t ≤ 58) : NtV (cxs Δ1 Γ0 (tAll B C)) Δ f t 887 597 := by sorry
end PmHa9
def AzK (f : Nat) (t : Ty) (Γ : List Ty) (Δ : List (Nat × Ty × Nat)) : Prop := ∃ (Δ1 Γ0 : List Ty) (B C : Ty), Γ = cxs Δ1 Γ0 (tAll B C) ∧ ok 0 B = true ∧ LBd Γ0 Δ1 (tAll B C) tTop B C ∧ nsch B = true ∧ 2 ≤ tch B ∧ tch B ≤ 16 ∧ sB B C = true ∧ CHo (pee f t).1 (pee f t).2 [] ∧ B8z Δ.isEmpty (mch (pee f t).2) (tch B) (tch C) (cch Γ0) (cch Δ1) = true ∧ 3 ≤ mch (pee f t).2 ∧ cch Δ1 ≤ 38 ∧ cch Γ + dch Δ + 2 * mch (pee f t).2 ≤ 58
theorem AzK.v {f : Nat} {t : Ty} {Γ : List Ty} {Δ : List (Nat × Ty × Nat)} (w : TWf f Γ.length (Δ.map (fun a => a.1)) t) (he : TE Γ Δ) (h20 : 20 ≤ cch Γ) (h47 : cch Γ ≤ 47) (h : AzK f t Γ Δ) : NtV Γ Δ f t 887 597 := by sorry
def RESTr9 : Prop := ∀ (f : Nat) (x y : Ty) (Γ : List Ty) (Δ : List (Nat × Ty × Nat)), TWf f Γ.length (Δ.map (fun a => a.1)) x → TWf f Γ.length (Δ.map (fun a => a.1)) y → TE Γ Δ → NAt f x → NAt f y → noac Γ → (∀ a ∈ Δ, noal a.2.1 = true) → TNo f x → TNo f y → 3 ≤ mch x → 3 ≤ mch y → (mch x ≤ mch y → ¬ NOp f x) → (¬ mch x ≤ mch y → ¬ NOp f y) → 20 ≤ cch Γ → cch Γ ≤ 47 → cch Γ + dch Δ + (2 + (mch x + mch y)) ≤ 60 → NoO f x y Γ Δ → ¬ AzT f x Γ Δ → ¬ AzT f y Γ Δ → ¬ AzB f x Γ Δ → ¬ AzB f y Γ Δ → ¬ AzC f x Γ Δ → ¬ AzC f y Γ Δ → ¬ AzI f x Γ Δ → ¬ AzI f y Γ Δ → ¬ AzF f x Γ Δ → ¬ AzF f y Γ Δ → ¬ AzG f x Γ Δ → ¬ AzG f y Γ Δ → ¬ AzH f x Γ Δ → ¬ AzH f y Γ Δ → ¬ PrS f x y Γ Δ → ¬ AzK f x Γ Δ → ¬ AzK f y Γ Δ → (¬ ((mch x ≤ mch y → CHo f x []) ∧ (¬ mch x ≤ mch y → CHo f y [])) ∨ LeftJ f x y Γ Δ) → PRn f x y Γ Δ
theorem restq9_of (R : RESTr9) : RESTq9 := by sorry
theorem pairn_or (R : RESTr9) : PAIRn := by sorry
end
section
-- from 99z69
def nfx (D : Nat) (c : Int) : Int := if 16 + (D : Int) ≤ c then 15 + (D : Int) - c else c
def tqN (B : Ty) (d0 D : Nat) (a : Ty) : Bool := decide ((flat a).map (nfx D) = (flat B).map (nfx d0))
theorem nfx_hi {D : Nat} {c : Int} (h : 16 + (D : Int) ≤ c) : nfx D c = 15 + (D : Int) - c := by sorry
theorem nfx_lo {D : Nat} {c : Int} (h : ¬ 16 + (D : Int) ≤ c) : nfx D c = c := by sorry
theorem lfc_hi {k n : Nat} {c : Int} (h : 16 + (k : Int) ≤ c) : lfc k n c = c + (n : Int) := by sorry
theorem lfc_lo {k n : Nat} {c : Int} (h : ¬ 16 + (k : Int) ≤ c) : lfc k n c = c := by sorry
section PmHd9
variable {B : Ty} {d0 k n : Nat}
theorem tqN_lft (hk : d0 ≤ k + n) (a : Ty) (d : Nat) (kd : k ≤ d) (_ : ok d a = true) (h : tqN B d0 (d + n) (lft k n a) = true) : tqN B d0 d a = true := by sorry
theorem tqN_up {Γ0 Δ : List Ty} {C : Ty} : tqN B Γ0.length (cxs Δ Γ0 (tAll B C)).length (upb Γ0 Δ B) = true := by sorry
end PmHd9
def ku (m : Nat) (tq : Nat → Ty → Bool) (κ : Ty → Bool) : (Nat → Bool) → Nat → Ty → Bool
  | τ, D, .tag c (.append a b) => if c = 2 then ((!(tq D a)) || bdr κ (updr m τ D a) b) && (ku m tq κ τ D a && ku m tq κ (updr m τ D a) (D + 1) b) else ku m tq κ τ D a && ku m tq κ τ D b
  | τ, D, .append a b => ku m tq κ τ D a && ku m tq κ τ D b
  | _, _, _ => true
section PmHb9
variable {m : Nat} {tq : Nat → Ty → Bool} {κ : Ty → Bool}
theorem ku_top (τ : Nat → Bool) (D : Nat) : ku m tq κ τ D tTop = true := by sorry
theorem ku_var (τ : Nat → Bool) (D k : Nat) : ku m tq κ τ D (tVar k) = true := by sorry
theorem ku_nil (τ : Nat → Bool) (D : Nat) : ku m tq κ τ D .nil = true := by sorry
theorem ku_fun {τ : Nat → Bool} {D : Nat} {a b : Ty} : ku m tq κ τ D (tFun a b) = true ↔ ku m tq κ τ D a = true ∧ ku m tq κ τ D b = true := by sorry
theorem ku_all {τ : Nat → Bool} {D : Nat} {a b : Ty} : ku m tq κ τ D (tAll a b) = true ↔ (tq D a = true → bdr κ (updr m τ D a) b = true) ∧ ku m tq κ τ D a = true ∧ ku m tq κ (updr m τ D a) (D + 1) b = true := by sorry
theorem ku_rec {τ : Nat → Bool} {D c : Nat} {x y z : Ty} : ku m tq κ τ D (tRec c x y z) = true ↔ ku m tq κ τ D x = true ∧ ku m tq κ τ D y = true ∧ ku m tq κ τ D z = true := by sorry
theorem ku_lft {k n : Nat} (hκ : ∀ (t : Ty) (d : Nat), ok d t = true → hd t < 16 → κ (lft k n t) = κ t) : ∀ (f : Nat) (t : Ty) (D : Nat) (τ τ' : Nat → Bool), (flat t).length ≤ f → k ≤ D → ok D t = true → (∀ i, i < D → τ i = true → τ' (if k ≤ i then i + n else i) = true) → (∀ (a : Ty) (d : Nat), k ≤ d → ok d a = true → tq (d + n) (lft k n a) = true → tq d a = true) → ku m tq κ τ D t = true → ku m tq κ τ' (D + n) (lft k n t) = true := by sorry
theorem ku_more : ∀ (f : Nat) (t : Ty) (D : Nat) (τ τ' : Nat → Bool), (flat t).length ≤ f → ok D t = true → (∀ i, i < D → τ i = true → τ' i = true) → ku m tq κ τ D t = true → ku m tq κ τ' D t = true := by sorry
end PmHb9
section PmHc9
variable {e : Nat} {B C : Ty} {Γ0 : List Ty}
def HKn (B C : Ty) (Γ0 : List Ty) : Prop := (True ∧ hd B < 16) ∧ (hd C ≠ 0 ∧ hd C < 16) ∧ (∀ j, j < Γ0.length → ku (hd C) (tqN B Γ0.length) (kms C) (taur (hd C) Γ0) j (bnd Γ0 j) = true) ∧ ku (hd C) (tqN B Γ0.length) (kms C) (taur (hd C) Γ0) Γ0.length B = true ∧ ku (hd C) (tqN B Γ0.length) (kms C) (updr (hd C) (taur (hd C) Γ0) Γ0.length B) (Γ0.length + 1) C = true
def Kn9 (B C : Ty) (Γ0 : List Ty) (l : Nat) (Δ : List Ty) (t : Ty) : Prop := (Γ0.length < l ∧ l ≤ (cxs Δ Γ0 (tAll B C)).length) ∧ okc (cxs Δ Γ0 (tAll B C)) ∧ gqc 5 Γ0.length l (cxs Δ Γ0 (tAll B C)) ∧ (∀ j, j < (cxs Δ Γ0 (tAll B C)).length → (j < Γ0.length ∨ l ≤ j) → ku (hd C) (tqN B Γ0.length) (kms C) (taur (hd C) (cxs Δ Γ0 (tAll B C))) j (bnd (cxs Δ Γ0 (tAll B C)) j) = true) ∧ ok (cxs Δ Γ0 (tAll B C)).length t = true ∧ gq 5 Γ0.length l t = true ∧ ku (hd C) (tqN B Γ0.length) (kms C) (taur (hd C) (cxs Δ Γ0 (tAll B C))) (cxs Δ Γ0 (tAll B C)).length t = true
theorem Kn9.ext {l : Nat} {Δ : List Ty} {a b t : Ty} (k : Kn9 B C Γ0 l Δ t) (oa : ok (cxs Δ Γ0 (tAll B C)).length a = true) (ob : ok ((cxs Δ Γ0 (tAll B C)).length + 1) b = true) (ga : gq 5 Γ0.length l a = true) (gb : gq 5 Γ0.length l b = true) (ka : ku (hd C) (tqN B Γ0.length) (kms C) (taur (hd C) (cxs Δ Γ0 (tAll B C))) (cxs Δ Γ0 (tAll B C)).length a = true) (kb : ku (hd C) (tqN B Γ0.length) (kms C) (updr (hd C) (taur (hd C) (cxs Δ Γ0 (tAll B C))) (cxs Δ Γ0 (tAll B C)).length a) ((cxs Δ Γ0 (tAll B C)).length + 1) b = true) : Kn9 B C Γ0 l (a :: Δ) b := by sorry
theorem Kn9.part {l : Nat} {Δ : List Ty} {t b : Ty} (k : Kn9 B C Γ0 l Δ t) (ob : ok (cxs Δ Γ0 (tAll B C)).length b = true) (gb : gq 5 Γ0.length l b = true) (kb : ku (hd C) (tqN B Γ0.length) (kms C) (taur (hd C) (cxs Δ Γ0 (tAll B C))) (cxs Δ Γ0 (tAll B C)).length b = true) : Kn9 B C Γ0 l Δ b := by sorry
theorem Kn_KP (e1 : 1 ≤ e) (H : HKn B C Γ0) (l : Nat) : KPc e B C Dsm Γ0 (Kn9 B C Γ0 l) ∧ KGc B C Dsm Γ0 (Kn9 B C Γ0 l) := by sorry
theorem HKn.ov (e1 : 1 ≤ e) (H : HKn B C Γ0) : OVq e B C Dsm Γ0 := by sorry
end PmHc9
def sN (B : Ty) (d0 : Nat) : Nat → Ty → Bool
  | D, .tag c (.append a b) => if c = 2 then tqN B d0 D a || (sN B d0 D a || sN B d0 (D + 1) b) else sN B d0 D a || sN B d0 D b
  | D, .append a b => sN B d0 D a || sN B d0 D b
  | _, _ => false
section PmHe9
variable {B : Ty} {m d0 : Nat} {κ : Ty → Bool}
theorem sN_fun (D : Nat) (a b : Ty) : sN B d0 D (tFun a b) = (sN B d0 D a || sN B d0 D b) := by sorry
theorem sN_all (D : Nat) (a b : Ty) : sN B d0 D (tAll a b) = (tqN B d0 D a || (sN B d0 D a || sN B d0 (D + 1) b)) := by sorry
theorem sN_rec {c : Nat} (D : Nat) (x y z : Ty) : sN B d0 D (tRec c x y z) = (sN B d0 D x || (sN B d0 D y || sN B d0 D z)) := by sorry
theorem ku_no : ∀ (f : Nat) (t : Ty) (D : Nat) (τ : Nat → Bool), (flat t).length ≤ f → ok D t = true → sN B d0 D t = false → ku m (tqN B d0) κ τ D t = true := by sorry
theorem sN_short : ∀ (f : Nat) (t : Ty) (D : Nat), (flat t).length ≤ f → ok D t = true → (flat t).length ≤ (flat B).length → sN B d0 D t = false := by sorry
theorem HKn_no {C : Ty} {Γ0 : List Ty} (hc : okc Γ0) (oA : ok Γ0.length (tAll B C) = true) (hB : hd B < 16) (hC : hd C ≠ 0 ∧ hd C < 16) (h0 : ∀ j, j < Γ0.length → sN B Γ0.length j (bnd Γ0 j) = false) (h1 : sN B Γ0.length (Γ0.length + 1) C = false) : OVq 1 B C Dsm Γ0 := by sorry
end PmHe9

end
section
-- from 99z70
def inx (d : Nat) (c : Int) : Int := if c < 0 then 15 + (d : Int) - c else c
theorem xf_low : ∀ (f : Nat) (t : Ty) (D i n : Nat), (flat t).length ≤ f → ok D t = true → i < n → xf (D + n) i (lft 0 n t) = 0 := by sorry
theorem xt_l0 {B : Ty} (o : ok 0 B = true) (d : Nat) : xt d (lft 0 d B) = 0 := by sorry
theorem ok_l0 {B : Ty} (o : ok 0 B = true) (d : Nat) : ok d (lft 0 d B) = true := by sorry
theorem codes_nn : ∀ (f : Nat) (t : Ty) (d : Nat), (flat t).length ≤ f → ok d t = true → ∀ c ∈ flat t, 0 ≤ c := by sorry
theorem tqN_l0 {B a : Ty} {d : Nat} (oB : ok 0 B = true) (oa : ok d a = true) (h : tqN B 0 d a = true) : a = lft 0 d B := by sorry
section PmHf9
variable {B : Ty} {t0 s2 hv : Nat} {n1 : Nat → Nat}
theorem sN_top (D : Nat) : sN B 0 D tTop = false := by sorry
theorem sN_var (D k : Nat) : sN B 0 D (tVar k) = false := by sorry
theorem sN_nil (D : Nat) : sN B 0 D .nil = false := by sorry
theorem fld_isN {d m i : Nat} {p : Ty} (o : okl d m i p) : (∀ q ∈ fld m i p, ok d q = true ∧ (flat q).length ≤ (flat p).length) ∧ (fld m i p).length = (if bit m i then 1 else 0) ∧ ((fld m i p).map (xt d)).sum = xt d p ∧ ((fld m i p).map (xa t0 n1 s2 hv d)).sum = xa t0 n1 s2 hv d p ∧ ((fld m i p).map tch).sum = tch p ∧ (fld m i p).any (sN B 0 d) = sN B 0 d p := by sorry
theorem rec_listN {d m : Nat} {x y z : Ty} (o0 : okl d m 0 x) (o1 : okl d m 1 y) (o2 : okl d m 2 z) : ∃ l : List Ty, (∀ q ∈ l, ok d q = true ∧ (flat q).length < (flat (tRec m x y z)).length) ∧ l.length = nlb m ∧ (l.map (xt d)).sum = xt d (tRec m x y z) ∧ n1 (8 + m) + (l.map (xa t0 n1 s2 hv d)).sum = xa t0 n1 s2 hv d (tRec m x y z) ∧ rch m + (l.map tch).sum = tch (tRec m x y z) ∧ l.any (sN B 0 d) = sN B 0 d (tRec m x y z) := by sorry
end PmHf9
section PmHg9
variable {B : Ty} {F G Ff Gf : FrT} {be aB t0 fn s2 hv r0 r1 r2 r3 : Nat} {n1 : Nat → Nat}
theorem xn_form (hc : xrc F G t0 fn s2 hv r0 r1 r2 r3 = true) (hcf : xgc be aB F Ff Gf fn s2 hv r1 r2 r3 = true) (hmf : ∀ {k k2 : Nat}, k ≤ k2 → k2 ≤ 40 → ∀ v ∈ frg Ff k, ∃ w ∈ frg Ff k2, v.1 ≤ w.1 ∧ v.2 ≤ w.2) (hf1 : n1 1 ≤ fn) (hr : ∀ m, m < 8 → n1 (8 + m) ≤ (if nlb m = 0 then r0 else if nlb m = 1 then r1 else if nlb m = 2 then r2 else r3)) (hK : ok 0 B = true ∧ be ≤ tch B ∧ ∀ d, XFm t0 n1 s2 hv d (lft 0 d B) 0 aB) : ∀ (f : Nat) (t : Ty) (d : Nat), (flat t).length ≤ f → ok d t = true → tch t ≤ 40 → sN B 0 d t = true → ∃ p ∈ frg Ff (tch t), XFm t0 n1 s2 hv d t p.1 p.2 := by sorry
end PmHg9
theorem XF_l0 {F G : FrT} {t0 fn s2 hv r0 r1 r2 r3 aB : Nat} {n1 : Nat → Nat} {B : Ty} (hc : xrc F G t0 fn s2 hv r0 r1 r2 r3 = true) (hf1 : n1 1 ≤ fn) (hr : ∀ m, m < 8 → n1 (8 + m) ≤ (if nlb m = 0 then r0 else if nlb m = 1 then r1 else if nlb m = 2 then r2 else r3)) (o : ok 0 B = true) (hk : tch B ≤ 40) (ha : (frg F (tch B)).all (fun v => Nat.ble v.2 aB) = true) (d : Nat) : XFm t0 n1 s2 hv d (lft 0 d B) 0 aB := by sorry
end
section
-- from 99z71
theorem sn_rows {B C : Ty} {d : Nat} (oB : ok 0 B = true) (b2 : 2 ≤ tch B) (b16 : tch B ≤ 16) (oC : ok d C = true) (k40 : tch C ≤ 40) (h : sN B 0 d C = true) : ∃ v ∈ frg (sfR (tch B)) (tch C), xt d C ≤ v.1 ∧ xa 0 (fun _ => 1 + 1) 3 1 d C ≤ v.2 := by sorry
theorem sn_goals {B C : Ty} {d : Nat} (oB : ok 0 B = true) (b2 : 2 ≤ tch B) (b16 : tch B ≤ 16) (oC : ok d C = true) (k40 : tch C ≤ 40) (h : sN B 0 d C = true) : ∃ v ∈ frg (sfG (tch B)) (tch C), xt d C ≤ v.1 ∧ xa 1 ngc 1 0 d C ≤ v.2 := by sorry
end
section
-- from 99z72
section PmHh9
variable {f : Nat} {t B C : Ty} {Γ0 Δ1 : List Ty} {Δ : List (Nat × Ty × Nat)}
theorem nat_bl (g0 : Γ0 = []) (lb : LBd Γ0 Δ1 (tAll B C) tTop B C) (b2 : 2 ≤ tch B) (b16 : tch B ≤ 16) (fl : sN B 0 (Γ0.length + 1) C = true) (w : TWf f (cxs Δ1 Γ0 (tAll B C)).length (Δ.map (fun a => a.1)) t) (he : TE (cxs Δ1 Γ0 (tAll B C)) Δ) (ch : CHo f t []) (hz : B4z Δ.isEmpty (mch t) (tch B) (tch C) (cch Γ0) (cch Δ1) = true) (m3 : 3 ≤ mch t) (h20 : 20 ≤ cch (cxs Δ1 Γ0 (tAll B C))) (h47 : cch (cxs Δ1 Γ0 (tAll B C)) ≤ 47) (q38 : cch Δ1 ≤ 38) (hb : cch (cxs Δ1 Γ0 (tAll B C)) + dch Δ + 2 * mch t ≤ 58) : NtV (cxs Δ1 Γ0 (tAll B C)) Δ f t 887 597 := by sorry
end PmHh9
def AzL (f : Nat) (t : Ty) (Γ : List Ty) (Δ : List (Nat × Ty × Nat)) : Prop := ∃ (Δ1 Γ0 : List Ty) (B C : Ty), Γ = cxs Δ1 Γ0 (tAll B C) ∧ Γ0 = [] ∧ LBd Γ0 Δ1 (tAll B C) tTop B C ∧ 2 ≤ tch B ∧ tch B ≤ 16 ∧ sN B 0 (Γ0.length + 1) C = true ∧ CHo (pee f t).1 (pee f t).2 [] ∧ B4z Δ.isEmpty (mch (pee f t).2) (tch B) (tch C) (cch Γ0) (cch Δ1) = true ∧ 3 ≤ mch (pee f t).2 ∧ cch Δ1 ≤ 38 ∧ cch Γ + dch Δ + 2 * mch (pee f t).2 ≤ 58
theorem AzL.v {f : Nat} {t : Ty} {Γ : List Ty} {Δ : List (Nat × Ty × Nat)} (w : TWf f Γ.length (Δ.map (fun a => a.1)) t) (he : TE Γ Δ) (h20 : 20 ≤ cch Γ) (h47 : cch Γ ≤ 47) (h : AzL f t Γ Δ) : NtV Γ Δ f t 887 597 := by sorry
section PmHi9
variable {f : Nat} {t B C : Ty} {Γ0 Δ1 : List Ty} {Δ : List (Nat × Ty × Nat)}
theorem nat_bm (g0 : Γ0 = []) (lb : LBd Γ0 Δ1 (tAll B C) tTop B C) (b2 : 2 ≤ tch B) (b16 : tch B ≤ 16) (fl : sN B 0 (Γ0.length + 1) C = true) (w : TWf f (cxs Δ1 Γ0 (tAll B C)).length (Δ.map (fun a => a.1)) t) (he : TE (cxs Δ1 Γ0 (tAll B C)) Δ) (ch : CHo f t []) (hz : B8z Δ.isEmpty (mch t) (tch B) (tch C) (cch Γ0) (cch Δ1) = true) (m3 : 3 ≤ mch t) (h20 : 20 ≤ cch (cxs Δ1 Γ0 (tAll B C))) (h47 : cch (cxs Δ1 Γ0 (tAll B C)) ≤ 47) (q38 : cch Δ1 ≤ 38) (hb : cch (cxs Δ1 Γ0 (tAll B C)) + dch Δ + 2 * mch t ≤ 58) : NtV (cxs Δ1 Γ0 (tAll B C)) Δ f t 887 597 := by sorry
end PmHi9
def AzM (f : Nat) (t : Ty) (Γ : List Ty) (Δ : List (Nat × Ty × Nat)) : Prop := ∃ (Δ1 Γ0 : List Ty) (B C : Ty), Γ = cxs Δ1 Γ0 (tAll B C) ∧ Γ0 = [] ∧ LBd Γ0 Δ1 (tAll B C) tTop B C ∧ 2 ≤ tch B ∧ tch B ≤ 16 ∧ sN B 0 (Γ0.length + 1) C = true ∧ CHo (pee f t).1 (pee f t).2 [] ∧ B8z Δ.isEmpty (mch (pee f t).2) (tch B) (tch C) (cch Γ0) (cch Δ1) = true ∧ 3 ≤ mch (pee f t).2 ∧ cch Δ1 ≤ 38 ∧ cch Γ + dch Δ + 2 * mch (pee f t).2 ≤ 58
theorem AzM.v {f : Nat} {t : Ty} {Γ : List Ty} {Δ : List (Nat × Ty × Nat)} (w : TWf f Γ.length (Δ.map (fun a => a.1)) t) (he : TE Γ Δ) (h20 : 20 ≤ cch Γ) (h47 : cch Γ ≤ 47) (h : AzM f t Γ Δ) : NtV Γ Δ f t 887 597 := by sorry
def RESTs9 : Prop := ∀ (f : Nat) (x y : Ty) (Γ : List Ty) (Δ : List (Nat × Ty × Nat)), TWf f Γ.length (Δ.map (fun a => a.1)) x → TWf f Γ.length (Δ.map (fun a => a.1)) y → TE Γ Δ → NAt f x → NAt f y → noac Γ → (∀ a ∈ Δ, noal a.2.1 = true) → TNo f x → TNo f y → 3 ≤ mch x → 3 ≤ mch y → (mch x ≤ mch y → ¬ NOp f x) → (¬ mch x ≤ mch y → ¬ NOp f y) → 20 ≤ cch Γ → cch Γ ≤ 47 → cch Γ + dch Δ + (2 + (mch x + mch y)) ≤ 60 → NoO f x y Γ Δ → ¬ AzT f x Γ Δ → ¬ AzT f y Γ Δ → ¬ AzB f x Γ Δ → ¬ AzB f y Γ Δ → ¬ AzC f x Γ Δ → ¬ AzC f y Γ Δ → ¬ AzI f x Γ Δ → ¬ AzI f y Γ Δ → ¬ AzF f x Γ Δ → ¬ AzF f y Γ Δ → ¬ AzG f x Γ Δ → ¬ AzG f y Γ Δ → ¬ AzH f x Γ Δ → ¬ AzH f y Γ Δ → ¬ PrS f x y Γ Δ → ¬ AzK f x Γ Δ → ¬ AzK f y Γ Δ → ¬ AzL f x Γ Δ → ¬ AzL f y Γ Δ → ¬ AzM f x Γ Δ → ¬ AzM f y Γ Δ → (¬ ((mch x ≤ mch y → CHo f x []) ∧ (¬ mch x ≤ mch y → CHo f y [])) ∨ LeftJ f x y Γ Δ) → PRn f x y Γ Δ
theorem restr9_of (R : RESTs9) : RESTr9 := by sorry
theorem pairn_os (R : RESTs9) : PAIRn := by sorry
end
section
-- from 99z73
def SMg (B C : Ty) (Γ0 Δ1 : List Ty) (Δ : List (Nat × Ty × Nat)) (f : Nat) (t : Ty) : Prop := CFt f t ∨ (COk f t 0 ∧ noh (hd B) C = true ∧ NHt (hd B) f t ∧ SGc (hd B) B C tTop Γ0 Δ1 ∧ ∀ a ∈ Δ, noh (hd B) a.2.1 = true)
theorem SMg.co {B C : Ty} {Γ0 Δ1 : List Ty} {Δ : List (Nat × Ty × Nat)} {f : Nat} {t : Ty} (z : SMg B C Γ0 Δ1 Δ f t) : COk f t 0 := by sorry
section PmHj9
variable {f : Nat} {t x y B C : Ty} {Γ0 Δ1 : List Ty} {Δ : List (Nat × Ty × Nat)}
theorem smg_v (w : TWf f (cxs Δ1 Γ0 (tAll B C)).length (Δ.map (fun a => a.1)) t) (he : TE (cxs Δ1 Γ0 (tAll B C)) Δ) (z : SMg B C Γ0 Δ1 Δ f t) (na : NAt f t) (hc : noac (cxs Δ1 Γ0 (tAll B C))) (hd' : ∀ a ∈ Δ, noal a.2.1 = true) (oD : ok (Γ0.length + 1) Dsm = true) (b2 : 2 ≤ tch B) (k40 : tch C ≤ 40) (q38 : cch Δ1 ≤ 38) (hz : B7z (tch B) (tch C) (cch Γ0) (cch Δ1) = true) (m3 : 3 ≤ mch t) (m16 : mch t < 16) (hb : cch (cxs Δ1 Γ0 (tAll B C)) + dch Δ + mch t ≤ 55) (h47 : cch (cxs Δ1 Γ0 (tAll B C)) ≤ 47) (hΔ : Δ = [] → 41 ≤ cch (cxs Δ1 Γ0 (tAll B C)) ∧ cch (cxs Δ1 Γ0 (tAll B C)) < 43) : SmV Dsm B C Γ0 Δ1 Δ f t (bhg (bxe Δ vt5R vt0R) (cch (cxs Δ1 Γ0 (tAll B C))) (mch t)) (bhg (bxe Δ vt5G vt0G) (cch (cxs Δ1 Γ0 (tAll B C))) (mch t)) := by sorry
theorem pair_smg (ov : OVq 1 B C Dsm Γ0) (x1 : TWf f (cxs Δ1 Γ0 (tAll B C)).length (Δ.map (fun a => a.1)) x) (x2 : TWf f (cxs Δ1 Γ0 (tAll B C)).length (Δ.map (fun a => a.1)) y) (he : TE (cxs Δ1 Γ0 (tAll B C)) Δ) (y1 : NAt f x) (y2 : NAt f y) (hv : noac (cxs Δ1 Γ0 (tAll B C))) (hd' : ∀ a ∈ Δ, noal a.2.1 = true) (c1 : SMg B C Γ0 Δ1 Δ f x) (c2 : SMg B C Γ0 Δ1 Δ f y) (b2 : 2 ≤ tch B) (k40 : tch C ≤ 40) (q38 : cch Δ1 ≤ 38) (hz : B7z (tch B) (tch C) (cch Γ0) (cch Δ1) = true) (m1 : 3 ≤ mch x) (m2 : 3 ≤ mch y) (n1 : mch x < 16) (n2 : mch y < 16) (hb : cch (cxs Δ1 Γ0 (tAll B C)) + dch Δ + (2 + (mch x + mch y)) ≤ 60) (h47 : cch (cxs Δ1 Γ0 (tAll B C)) ≤ 47) (hΔ : Δ = [] → 41 ≤ cch (cxs Δ1 Γ0 (tAll B C)) ∧ cch (cxs Δ1 Γ0 (tAll B C)) < 43) : PRn f x y (cxs Δ1 Γ0 (tAll B C)) Δ := by sorry
end PmHj9
def PrG (f : Nat) (x y : Ty) (Γ : List Ty) (Δ : List (Nat × Ty × Nat)) : Prop := ∃ (Δ1 Γ0 : List Ty) (B C : Ty), Γ = cxs Δ1 Γ0 (tAll B C) ∧ OVq 1 B C Dsm Γ0 ∧ SMg B C Γ0 Δ1 Δ f x ∧ SMg B C Γ0 Δ1 Δ f y ∧ 2 ≤ tch B ∧ tch C ≤ 40 ∧ cch Δ1 ≤ 38 ∧ B7z (tch B) (tch C) (cch Γ0) (cch Δ1) = true ∧ mch x < 16 ∧ mch y < 16 ∧ (Δ = [] → 41 ≤ cch Γ ∧ cch Γ < 43)
def RESTt9 : Prop := ∀ (f : Nat) (x y : Ty) (Γ : List Ty) (Δ : List (Nat × Ty × Nat)), TWf f Γ.length (Δ.map (fun a => a.1)) x → TWf f Γ.length (Δ.map (fun a => a.1)) y → TE Γ Δ → NAt f x → NAt f y → noac Γ → (∀ a ∈ Δ, noal a.2.1 = true) → TNo f x → TNo f y → 3 ≤ mch x → 3 ≤ mch y → (mch x ≤ mch y → ¬ NOp f x) → (¬ mch x ≤ mch y → ¬ NOp f y) → 20 ≤ cch Γ → cch Γ ≤ 47 → cch Γ + dch Δ + (2 + (mch x + mch y)) ≤ 60 → NoO f x y Γ Δ → ¬ AzT f x Γ Δ → ¬ AzT f y Γ Δ → ¬ AzB f x Γ Δ → ¬ AzB f y Γ Δ → ¬ AzC f x Γ Δ → ¬ AzC f y Γ Δ → ¬ AzI f x Γ Δ → ¬ AzI f y Γ Δ → ¬ AzF f x Γ Δ → ¬ AzF f y Γ Δ → ¬ AzG f x Γ Δ → ¬ AzG f y Γ Δ → ¬ AzH f x Γ Δ → ¬ AzH f y Γ Δ → ¬ PrS f x y Γ Δ → ¬ AzK f x Γ Δ → ¬ AzK f y Γ Δ → ¬ AzL f x Γ Δ → ¬ AzL f y Γ Δ → ¬ AzM f x Γ Δ → ¬ AzM f y Γ Δ → ¬ PrG f x y Γ Δ → (¬ ((mch x ≤ mch y → CHo f x []) ∧ (¬ mch x ≤ mch y → CHo f y [])) ∨ LeftJ f x y Γ Δ) → PRn f x y Γ Δ
theorem rests9_of (R : RESTt9) : RESTs9 := by sorry
theorem pairn_ot (R : RESTt9) : PAIRn := by sorry
end
section
-- from 99z74
def w0R : LnT := [[], [], [], [], [], [], [], [], [], [], [], [], [], [], [], [], [], [], [], [], [], [], [], [], [], [], [], [], [], [], [], [], [], [], [], [], [], [], [], [], [], [], [], [], [], [], [(79, 0, 34, 3, 0, 18)], [(115, 0, 64, 3, 1, 19)]]
def w0G : LnT := [[], [], [], [], [], [], [], [], [], [], [], [], [], [], [], [], [], [], [], [], [], [], [], [], [], [], [], [], [], [], [], [], [], [], [], [], [], [], [], [], [], [], [], [], [], [], [(35, 0, 15, 3, 0, 18)], [(75, 0, 48, 3, 1, 19)]]
theorem w0R_46 : lnf false false w0R fr1 fg1 1 2 3 2 2 2 2 887 46 48 3 6 = true := by sorry
theorem w0G_46 : lnf false false w0G frq fgq 0 1 1 1 3 2 1 597 46 48 3 6 = true := by sorry
def B9z (be k q1 q2 : Nat) : Bool := Nat.ble 46 (8 + be + k + q1 + q2) && (zgR w0R be k q1 q2 && zgG w0G be k q1 q2)
section PmHk9
variable {f : Nat} {t B C : Ty} {Γ0 Δ1 : List Ty} {Δ : List (Nat × Ty × Nat)}
theorem nat_bn (q13 : cch Γ0 ≤ 13) (lb : LBd Γ0 Δ1 (tAll B C) tTop B C) (nB : nsch B = true) (b2 : 4 ≤ tch B) (b16 : tch B ≤ 16) (fl : sB B C = true) (w : TWf f (cxs Δ1 Γ0 (tAll B C)).length (Δ.map (fun a => a.1)) t) (he : TE (cxs Δ1 Γ0 (tAll B C)) Δ) (ch : CHo f t []) (nΔ : Δ ≠ []) (m5 : mch t ≤ 5) (hz : B9z (tch B) (tch C) (cch Γ0) (cch Δ1) = true) (m3 : 3 ≤ mch t) (h20 : 20 ≤ cch (cxs Δ1 Γ0 (tAll B C))) (h47 : cch (cxs Δ1 Γ0 (tAll B C)) ≤ 47) (q38 : cch Δ1 ≤ 38) (hb : cch (cxs Δ1 Γ0 (tAll B C)) + dch Δ + 2 * mch t ≤ 58) : NtV (cxs Δ1 Γ0 (tAll B C)) Δ f t 887 597 := by sorry
end PmHk9
def AzN (f : Nat) (t : Ty) (Γ : List Ty) (Δ : List (Nat × Ty × Nat)) : Prop := ∃ (Δ1 Γ0 : List Ty) (B C : Ty), Γ = cxs Δ1 Γ0 (tAll B C) ∧ cch Γ0 ≤ 13 ∧ LBd Γ0 Δ1 (tAll B C) tTop B C ∧ nsch B = true ∧ 4 ≤ tch B ∧ tch B ≤ 16 ∧ sB B C = true ∧ CHo (pee f t).1 (pee f t).2 [] ∧ Δ ≠ [] ∧ mch (pee f t).2 ≤ 5 ∧ B9z (tch B) (tch C) (cch Γ0) (cch Δ1) = true ∧ 3 ≤ mch (pee f t).2 ∧ cch Δ1 ≤ 38 ∧ cch Γ + dch Δ + 2 * mch (pee f t).2 ≤ 58
theorem AzN.v {f : Nat} {t : Ty} {Γ : List Ty} {Δ : List (Nat × Ty × Nat)} (w : TWf f Γ.length (Δ.map (fun a => a.1)) t) (he : TE Γ Δ) (h20 : 20 ≤ cch Γ) (h47 : cch Γ ≤ 47) (h : AzN f t Γ Δ) : NtV Γ Δ f t 887 597 := by sorry
def RESTu9 : Prop := ∀ (f : Nat) (x y : Ty) (Γ : List Ty) (Δ : List (Nat × Ty × Nat)), TWf f Γ.length (Δ.map (fun a => a.1)) x → TWf f Γ.length (Δ.map (fun a => a.1)) y → TE Γ Δ → NAt f x → NAt f y → noac Γ → (∀ a ∈ Δ, noal a.2.1 = true) → TNo f x → TNo f y → 3 ≤ mch x → 3 ≤ mch y → (mch x ≤ mch y → ¬ NOp f x) → (¬ mch x ≤ mch y → ¬ NOp f y) → 20 ≤ cch Γ → cch Γ ≤ 47 → cch Γ + dch Δ + (2 + (mch x + mch y)) ≤ 60 → NoO f x y Γ Δ → ¬ AzT f x Γ Δ → ¬ AzT f y Γ Δ → ¬ AzB f x Γ Δ → ¬ AzB f y Γ Δ → ¬ AzC f x Γ Δ → ¬ AzC f y Γ Δ → ¬ AzI f x Γ Δ → ¬ AzI f y Γ Δ → ¬ AzF f x Γ Δ → ¬ AzF f y Γ Δ → ¬ AzG f x Γ Δ → ¬ AzG f y Γ Δ → ¬ AzH f x Γ Δ → ¬ AzH f y Γ Δ → ¬ PrS f x y Γ Δ → ¬ AzK f x Γ Δ → ¬ AzK f y Γ Δ → ¬ AzL f x Γ Δ → ¬ AzL f y Γ Δ → ¬ AzM f x Γ Δ → ¬ AzM f y Γ Δ → ¬ PrG f x y Γ Δ → ¬ AzN f x Γ Δ → ¬ AzN f y Γ Δ → (¬ ((mch x ≤ mch y → CHo f x []) ∧ (¬ mch x ≤ mch y → CHo f y [])) ∨ LeftJ f x y Γ Δ) → PRn f x y Γ Δ
theorem restt9_of (R : RESTu9) : RESTt9 := by sorry
theorem pairn_ou (R : RESTu9) : PAIRn := by sorry
end
section
-- from 99z75
section PmIa
variable (e : Nat) (β β' : Ty) (Γ0 : List Ty)
def EWb (Δ : List Ty) (t : Ty) : Prop := trx (cxs Δ Γ0 β, upb Γ0 Δ β, t) ≤ pmz (qu e) true (oq (qu e) (cxs Δ Γ0 β')) (upb Γ0 Δ β') ∧ (¬ 16 ≤ hd t → gm (0, cxs Δ Γ0 β, t, upb Γ0 Δ β) + e ≤ urm false e 0 (cxs Δ Γ0 β') (upb Γ0 Δ β')) ∧ gm (0, cxs Δ Γ0 β, upb Γ0 Δ β, t) ≤ urm true e 0 (cxs Δ Γ0 β') (upb Γ0 Δ β')
def KPb (Kp : List Ty → Ty → Prop) : Prop := (ok Γ0.length β' = true ∧ hd β' ≠ 0) ∧ ∀ Δ t, Kp Δ t → (∀ a b, t = tFun a b → Kp Δ a ∧ Kp Δ b) ∧ (∀ m x y z, m < 8 → t = tRec m x y z → (bit m 0 = true → Kp Δ x) ∧ (bit m 1 = true → Kp Δ y) ∧ (bit m 2 = true → Kp Δ z)) ∧ (∀ a b, t = tAll a b → Kp (a :: Δ) b) ∧ (∀ j, t = tVar j → j < (cxs Δ Γ0 β).length → j ≠ Γ0.length ∧ Kp Δ (lft j ((cxs Δ Γ0 β).length - j) (bnd (cxs Δ Γ0 β) j))) ∧ (TB e (cxs Δ Γ0 β, t, upb Γ0 Δ β) → EWb e β β' Γ0 Δ t)
end PmIa
section PmIb
variable {e : Nat} {β β' : Ty} {Γ0 : List Ty} {Kp : List Ty → Ty → Prop}
theorem cyd_okc (oD : ok Γ0.length β' = true) : ∀ Δ : List Ty, okc (cxs Δ Γ0 β) → okc (cxs Δ Γ0 β') := by sorry
theorem cyd_exp {Δ : List Ty} {k : Nat} (ne : k ≠ Γ0.length) : lft k ((cxs Δ Γ0 β).length - k) (bnd (cxs Δ Γ0 β) k) = lft k ((cxs Δ Γ0 β').length - k) (bnd (cxs Δ Γ0 β') k) := by sorry
theorem trfB (K : KPb e β β' Γ0 Kp) : ∀ (f : Nat) (Δ : List Ty) (S T : Ty), Kp Δ S → TB e (cxs Δ Γ0 β, S, T) → trf f (cxs Δ Γ0 β, T, S) ≤ pmz (qu e) true (oq (qu e) (cxs Δ Γ0 β')) T ∧ (hd T ≠ 0 → trf f (cxs Δ Γ0 β, S, T) + e ≤ chn (cl (cxs Δ Γ0 β)) S + pmz (qu e) false (oq (qu e) (cxs Δ Γ0 β')) T) := by sorry
end PmIb
section PmIc
variable {e : Nat} {β β' : Ty} {Γ0 : List Ty} {Kp : List Ty → Ty → Prop}
def UTb (e : Nat) (β β' : Ty) (Γ0 : List Ty) (w : Nat) (Δ : List Ty) (S T : Ty) : Nat := if hd T = 0 then 0 else urm false e w (cxs Δ Γ0 β') T - e + chn (cl (cxs Δ Γ0 β)) S
theorem UTb_le (K : KPb e β β' Γ0 Kp) (e1 : 1 ≤ e) {w : Nat} {Δ : List Ty} {S T : Ty} (h : TB e (cxs Δ Γ0 β, S, T)) : UTb e β β' Γ0 w Δ S T ≤ urm false e w (cxs Δ Γ0 β') T := by sorry
theorem gmB_T (K : KPb e β β' Γ0 Kp) (e1 : 1 ≤ e) : ∀ (f w : Nat) (Δ : List Ty) (S T : Ty), w ≤ 1 → Kp Δ S → TB e (cxs Δ Γ0 β, S, T) → gmf f (w, cxs Δ Γ0 β, S, T) ≤ UTb e β β' Γ0 w Δ S T := by sorry
end PmIc
section PmId
variable {e : Nat} {β β' : Ty} {Γ0 : List Ty} {Kp : List Ty → Ty → Prop}
def UQb (e : Nat) (β β' : Ty) (Γ0 : List Ty) (w : Nat) (Δ : List Ty) (T S : Ty) : Nat := if hd T = 0 ∨ 16 ≤ hd T then urm true e w (cxs Δ Γ0 β') T else urm true e w (cxs Δ Γ0 β') T - e + chn (cl (cxs Δ Γ0 β)) S
theorem UQb_le (K : KPb e β β' Γ0 Kp) (e1 : 1 ≤ e) {w : Nat} {Δ : List Ty} {T S : Ty} (h : TB e (cxs Δ Γ0 β, T, S)) : UQb e β β' Γ0 w Δ T S ≤ urm true e w (cxs Δ Γ0 β') T := by sorry
theorem gmB_S (K : KPb e β β' Γ0 Kp) (e1 : 1 ≤ e) : ∀ (f w : Nat) (Δ : List Ty) (T S : Ty), w ≤ 1 → Kp Δ S → TB e (cxs Δ Γ0 β, T, S) → gmf f (w, cxs Δ Γ0 β, T, S) ≤ UQb e β β' Γ0 w Δ T S := by sorry
end PmId
def KGb (e : Nat) (β β' : Ty) (Γ0 : List Ty) (Kp : List Ty → Ty → Prop) : Prop := ∀ Δ t, Kp Δ t → TB e (cxs Δ Γ0 β, t, upb Γ0 Δ β) → gn (0, cxs Δ Γ0 β, t, upb Γ0 Δ β) ≤ gz (cxs Δ Γ0 β') (upb Γ0 Δ β') ∧ gn (0, cxs Δ Γ0 β, upb Γ0 Δ β, t) ≤ gz (cxs Δ Γ0 β') (upb Γ0 Δ β')
section PmIe
variable {e : Nat} {β β' : Ty} {Γ0 : List Ty} {Kp : List Ty → Ty → Prop}
theorem gnB (K : KPb e β β' Γ0 Kp) (G : KGb e β β' Γ0 Kp) : ∀ (f w : Nat) (Δ : List Ty) (S T : Ty), w ≤ 1 → Kp Δ S → TB e (cxs Δ Γ0 β, S, T) → gnf f (w, cxs Δ Γ0 β, S, T) ≤ gz (cxs Δ Γ0 β') T ∧ gnf f (w, cxs Δ Γ0 β, T, S) ≤ gz (cxs Δ Γ0 β') T := by sorry
end PmIe

end
section
-- from 99z76
def KIb (β : Ty) (Γ0 : List Ty) (Kp : List Ty → Ty → Prop) (Δ : List Ty) : Prop := ¬ 16 ≤ hd (upb Γ0 Δ β) ∧ (∀ a c, upb Γ0 Δ β = tFun a c → Kp Δ a ∧ Kp Δ c) ∧ (∀ m x y z, m < 8 → upb Γ0 Δ β = tRec m x y z → (bit m 0 = true → Kp Δ x) ∧ (bit m 1 = true → Kp Δ y) ∧ (bit m 2 = true → Kp Δ z)) ∧ (∀ a c, upb Γ0 Δ β = tAll a c → Kp (a :: Δ) c)
def OVb (e : Nat) (β β' : Ty) (Γ0 : List Ty) : Prop := (ok Γ0.length β' = true ∧ hd β' ≠ 0) ∧ ∀ Δ, okc (cxs Δ Γ0 β) → ∃ Kp, KPb e β β' Γ0 Kp ∧ KGb e β β' Γ0 Kp ∧ KIb β Γ0 Kp Δ
section PmIf
variable {e : Nat} {Γ0 : List Ty} {β β' : Ty}
theorem mz_othb {b : Bool} {Δ : List Ty} {k : Nat} (z : OVb e β β' Γ0) (hc : okc (cxs Δ Γ0 β)) (hk : k < (cxs Δ Γ0 β).length) (ne : k ≠ Γ0.length) : mz b e (cxs Δ Γ0 β') (tVar k) = vlr b e (mz b e (cxs Δ Γ0 β') (lft k ((cxs Δ Γ0 β).length - k) (bnd (cxs Δ Γ0 β) k))) := by sorry
theorem upb_ok {Δ : List Ty} (hc : okc (cxs Δ Γ0 β)) : ok (cxs Δ Γ0 β).length (upb Γ0 Δ β) = true := by sorry
theorem mz_ownb (b : Bool) {Δ : List Ty} (z : OVb e β β' Γ0) (hc : okc (cxs Δ Γ0 β)) : 1 ≤ mz b e (cxs Δ Γ0 β') (tVar Γ0.length) := by sorry
section PmIo
variable {Kp : List Ty → Ty → Prop} {Δ : List Ty} {u T : Ty}
theorem old_tL (oD : ok Γ0.length β' = true) (K : KPb e β β' Γ0 Kp) (k : Kp Δ u) (b : Bool) (tb : TB e (cxs Δ Γ0 β, u, T)) : trx (cxs Δ Γ0 β, u, T) ≤ mz b e (cxs Δ Γ0 β') T := by sorry
theorem old_tR (oD : ok Γ0.length β' = true) (K : KPb e β β' Γ0 Kp) (k : Kp Δ u) (b : Bool) (tb : TB e (cxs Δ Γ0 β, T, u)) : trx (cxs Δ Γ0 β, T, u) ≤ mz b e (cxs Δ Γ0 β') T := by sorry
theorem old_gL {w : Nat} (oD : ok Γ0.length β' = true) (K : KPb e β β' Γ0 Kp) (k : Kp Δ u) (e1 : 1 ≤ e) (w1 : w ≤ 1) (tb : TB e (cxs Δ Γ0 β, u, T)) : gm (w, cxs Δ Γ0 β, u, T) ≤ mz false e (cxs Δ Γ0 β') T := by sorry
theorem old_gR {w : Nat} (oD : ok Γ0.length β' = true) (K : KPb e β β' Γ0 Kp) (k : Kp Δ u) (e1 : 1 ≤ e) (w1 : w ≤ 1) (tb : TB e (cxs Δ Γ0 β, T, u)) : gm (w, cxs Δ Γ0 β, T, u) ≤ mz true e (cxs Δ Γ0 β') T := by sorry
end PmIo
theorem TB_rc {Γ : List Ty} {m m' : Nat} {x y z x' y' z' : Ty} (hm : m < 8) (hm' : m' < 8) (tb : TB e (Γ, tRec m x y z, tRec m' x' y' z')) : (bit m 0 = true → bit m' 0 = true → TB e (Γ, x, x')) ∧ (bit m 1 = true → bit m' 1 = true → TB e (Γ, y, y')) ∧ (bit m 2 = true → bit m' 2 = true → TB e (Γ, z, z')) := by sorry
theorem TB_fc {Γ : List Ty} {a b a' b' : Ty} (tb : TB e (Γ, tFun a b, tFun a' b')) : TB e (Γ, a, a') ∧ TB e (Γ, b, b') := by sorry
theorem stl_hb {Γ : List Ty} {m i v : Nat} {X Y : Ty} (hf : bit m i = true → trx (Γ, X, Y) ≤ v) : rxs (stl Γ m i X Y) ≤ v := by sorry
theorem stp_sub {Γ : List Ty} {m m' : Nat} {x y z x' y' z' : Ty} {l : List Tsk} (hm : m < 8) (hm' : m' < 8) (e1 : stp Γ (tRec m x y z) (tRec m' x' y' z') = some l) : ∀ g, g < 3 → bit m' g = true → bit m g = true := by sorry
theorem trx_oldL {Δ : List Ty} {T : Ty} (z : OVb e β β' Γ0) (b : Bool) (tb : TB e (cxs Δ Γ0 β, upb Γ0 Δ β, T)) : trx (cxs Δ Γ0 β, upb Γ0 Δ β, T) ≤ mz b e (cxs Δ Γ0 β') T := by sorry
theorem trx_oldR {Δ : List Ty} (z : OVb e β β' Γ0) (b : Bool) : ∀ (f : Nat) (T : Ty), twt (cxs Δ Γ0 β, T, upb Γ0 Δ β) ≤ f → TB e (cxs Δ Γ0 β, T, upb Γ0 Δ β) → (¬ 16 ≤ hd T ∨ bel (cxs Δ Γ0 β) T (tVar Γ0.length) = false) → trx (cxs Δ Γ0 β, T, upb Γ0 Δ β) ≤ mz b e (cxs Δ Γ0 β') T := by sorry
theorem gmf_oldL {w : Nat} {Δ : List Ty} (z : OVb e β β' Γ0) (e1 : 1 ≤ e) (w1 : w ≤ 1) : ∀ (f : Nat) (T : Ty), TB e (cxs Δ Γ0 β, upb Γ0 Δ β, T) → bel (cxs Δ Γ0 β) T (tVar Γ0.length) = false → gmf f (w, cxs Δ Γ0 β, upb Γ0 Δ β, T) ≤ mz false e (cxs Δ Γ0 β') T := by sorry
theorem gmf_oldR {w : Nat} {Δ : List Ty} (z : OVb e β β' Γ0) (e1 : 1 ≤ e) (w1 : w ≤ 1) (f : Nat) (S : Ty) (tb : TB e (cxs Δ Γ0 β, S, upb Γ0 Δ β)) (nS : ¬ 16 ≤ hd S) : gmf f (w, cxs Δ Γ0 β, S, upb Γ0 Δ β) ≤ mz true e (cxs Δ Γ0 β') S := by sorry
theorem trf_opb (z : OVb e β β' Γ0) : ∀ (f : Nat) (b b' : Bool) (Δ : List Ty) (S T : Ty), TB e (cxs Δ Γ0 β, S, T) → twt (cxs Δ Γ0 β, S, T) ≤ f → trf f (cxs Δ Γ0 β, S, T) ≤ mz b e (cxs Δ Γ0 β') S + mz b' e (cxs Δ Γ0 β') T := by sorry
theorem trx_opb (z : OVb e β β' Γ0) (b b' : Bool) {Δ : List Ty} {S T : Ty} (tb : TB e (cxs Δ Γ0 β, S, T)) : trx (cxs Δ Γ0 β, S, T) ≤ mz b e (cxs Δ Γ0 β') S + mz b' e (cxs Δ Γ0 β') T := by sorry
theorem tru_opb (z : OVb e β β' Γ0) (b b' : Bool) {Δ : List Ty} {S T : Ty} (tb : TB e (cxs Δ Γ0 β, S, T)) : tru (cxs Δ Γ0 β, S, T) ≤ mz b e (cxs Δ Γ0 β') S + mz b' e (cxs Δ Γ0 β') T := by sorry
end PmIf
section PmIg
variable {e : Nat} {Γ0 : List Ty} {β β' : Ty}
theorem gmf_opb (z : OVb e β β' Γ0) (e1 : 1 ≤ e) : ∀ (f w : Nat) (Δ : List Ty) (S T : Ty), w ≤ 1 → TB e (cxs Δ Γ0 β, S, T) → gmf f (w, cxs Δ Γ0 β, S, T) ≤ mz true e (cxs Δ Γ0 β') S + mz false e (cxs Δ Γ0 β') T := by sorry
theorem gm_opb (z : OVb e β β' Γ0) (e1 : 1 ≤ e) {w : Nat} (w1 : w ≤ 1) {Δ : List Ty} {S T : Ty} (tb : TB e (cxs Δ Γ0 β, S, T)) : gm (w, cxs Δ Γ0 β, S, T) ≤ mz true e (cxs Δ Γ0 β') S + mz false e (cxs Δ Γ0 β') T := by sorry
theorem gz_othb {Δ : List Ty} {k : Nat} (z : OVb e β β' Γ0) (hc : okc (cxs Δ Γ0 β)) (hk : k < (cxs Δ Γ0 β).length) (ne : k ≠ Γ0.length) : gz (cxs Δ Γ0 β') (tVar k) = gz (cxs Δ Γ0 β') (lft k ((cxs Δ Γ0 β).length - k) (bnd (cxs Δ Γ0 β) k)) := by sorry
theorem gnf_oldL {w : Nat} {Δ : List Ty} (z : OVb e β β' Γ0) (w1 : w ≤ 1) : ∀ (f : Nat) (T : Ty), TB e (cxs Δ Γ0 β, upb Γ0 Δ β, T) → bel (cxs Δ Γ0 β) T (tVar Γ0.length) = false → gnf f (w, cxs Δ Γ0 β, upb Γ0 Δ β, T) ≤ gz (cxs Δ Γ0 β') T := by sorry
theorem gnf_oldR {w : Nat} {Δ : List Ty} (z : OVb e β β' Γ0) (w1 : w ≤ 1) (f : Nat) (S : Ty) (tb : TB e (cxs Δ Γ0 β, S, upb Γ0 Δ β)) (nS : ¬ 16 ≤ hd S) : gnf f (w, cxs Δ Γ0 β, S, upb Γ0 Δ β) ≤ gz (cxs Δ Γ0 β') S := by sorry
theorem gnf_opb (z : OVb e β β' Γ0) : ∀ (f w : Nat) (Δ : List Ty) (S T : Ty), w ≤ 1 → TB e (cxs Δ Γ0 β, S, T) → gnf f (w, cxs Δ Γ0 β, S, T) ≤ gz (cxs Δ Γ0 β') S + gz (cxs Δ Γ0 β') T := by sorry
theorem gn_opb (z : OVb e β β' Γ0) {w : Nat} (w1 : w ≤ 1) {Δ : List Ty} {S T : Ty} (tk : TB e (cxs Δ Γ0 β, S, T)) : gn (w, cxs Δ Γ0 β, S, T) ≤ gz (cxs Δ Γ0 β') S + gz (cxs Δ Γ0 β') T := by sorry
theorem LJ_opb (z : OVb e β β' Γ0) (e1 : 1 ≤ e) {Δ : List Ty} {S T : Ty} (tb : TB e (cxs Δ Γ0 β, S, T)) (hx : cch (cxs Δ Γ0 β) ≤ 56) (lS : (flat S).length ≤ 16) (lT : (flat T).length ≤ 16) (q1 : mz true e (cxs Δ Γ0 β') S + mz false e (cxs Δ Γ0 β') T ≤ 887) (q2 : gz (cxs Δ Γ0 β') S + gz (cxs Δ Γ0 β') T ≤ 597) : LJ (cxs Δ Γ0 β) S T := by sorry
theorem LB_opb (z : OVb e β β' Γ0) {Δ : List Ty} {S T : Ty} (b b' : Bool) (tb : TB e (cxs Δ Γ0 β, S, T)) (hx : cch (cxs Δ Γ0 β) ≤ 56) (lS : (flat S).length ≤ 16) (lT : (flat T).length ≤ 16) (q1 : mz b e (cxs Δ Γ0 β') S + mz b' e (cxs Δ Γ0 β') T ≤ 887) : LB (cxs Δ Γ0 β) S T := by sorry
end PmIg

end
section
-- from 99z77
theorem tqN_lf {X s : Ty} {k n d : Nat} (kd : k ≤ d) (h : tqN X 0 d s = true) : tqN X 0 (d + n) (lft k n s) = true := by sorry
theorem nfx_inj {D : Nat} {c c' : Int} (h0 : 0 ≤ c) (h1 : 0 ≤ c') (h : nfx D c = nfx D c') : c = c' := by sorry
theorem map_nfx {D : Nat} : ∀ (l l' : List Int), (∀ c ∈ l, 0 ≤ c) → (∀ c ∈ l', 0 ≤ c) → l.map (nfx D) = l'.map (nfx D) → l = l' := by sorry
def kv9 (B σ : Ty) : Nat → Ty → Bool
  | D, .tag c (.append a b) => if c = 2 then ((!(tqN B 0 D a)) || tqN σ 0 D (tAll a b)) && (kv9 B σ D a && kv9 B σ (D + 1) b) else kv9 B σ D a && kv9 B σ D b
  | D, .append a b => kv9 B σ D a && kv9 B σ D b
  | _, _ => true
section PmIh
variable {B σ : Ty}
theorem kv9_top (D : Nat) : kv9 B σ D tTop = true := by sorry
theorem kv9_var (D k : Nat) : kv9 B σ D (tVar k) = true := by sorry
theorem kv9_nil (D : Nat) : kv9 B σ D .nil = true := by sorry
theorem kv9_fun {D : Nat} {a b : Ty} : kv9 B σ D (tFun a b) = true ↔ kv9 B σ D a = true ∧ kv9 B σ D b = true := by sorry
theorem kv9_all {D : Nat} {a b : Ty} : kv9 B σ D (tAll a b) = true ↔ (tqN B 0 D a = true → tqN σ 0 D (tAll a b) = true) ∧ kv9 B σ D a = true ∧ kv9 B σ (D + 1) b = true := by sorry
theorem kv9_rec {D c : Nat} {x y z : Ty} : kv9 B σ D (tRec c x y z) = true ↔ kv9 B σ D x = true ∧ kv9 B σ D y = true ∧ kv9 B σ D z = true := by sorry
theorem kv9_lft {k n : Nat} : ∀ (f : Nat) (t : Ty) (D : Nat), (flat t).length ≤ f → k ≤ D → ok D t = true → kv9 B σ D t = true → kv9 B σ (D + n) (lft k n t) = true := by sorry
theorem kv9_no : ∀ (f : Nat) (t : Ty) (D : Nat), (flat t).length ≤ f → ok D t = true → sN B 0 D t = false → kv9 B σ D t = true := by sorry
end PmIh
def Ky9 (B σ β : Ty) (l : Nat) (Δ : List Ty) (t : Ty) : Prop := (0 < l ∧ l ≤ (cxs Δ [] β).length) ∧ okc (cxs Δ [] β) ∧ gqc 5 0 l (cxs Δ [] β) ∧ (∀ j, j < (cxs Δ [] β).length → l ≤ j → kv9 B σ j (bnd (cxs Δ [] β) j) = true) ∧ ok (cxs Δ [] β).length t = true ∧ gq 5 0 l t = true ∧ kv9 B σ (cxs Δ [] β).length t = true
def KCy (β : Ty) (Γ0 : List Ty) (Kp : List Ty → Ty → Prop) : Prop := ∀ Δ t, Kp Δ t → (∀ a b, t = tFun a b → Kp Δ a ∧ Kp Δ b) ∧ (∀ m x y z, m < 8 → t = tRec m x y z → (bit m 0 = true → Kp Δ x) ∧ (bit m 1 = true → Kp Δ y) ∧ (bit m 2 = true → Kp Δ z)) ∧ (∀ a b, t = tAll a b → Kp (a :: Δ) b) ∧ (∀ j, t = tVar j → j < (cxs Δ Γ0 β).length → j ≠ Γ0.length ∧ Kp Δ (lft j ((cxs Δ Γ0 β).length - j) (bnd (cxs Δ Γ0 β) j)))
section PmIi
variable {B σ β : Ty} {l : Nat}
theorem Ky9.ext {Δ : List Ty} {a b t : Ty} (k : Ky9 B σ β l Δ t) (oa : ok (cxs Δ [] β).length a = true) (ob : ok ((cxs Δ [] β).length + 1) b = true) (ga : gq 5 0 l a = true) (gb : gq 5 0 l b = true) (ka : kv9 B σ (cxs Δ [] β).length a = true) (kb : kv9 B σ ((cxs Δ [] β).length + 1) b = true) : Ky9 B σ β l (a :: Δ) b := by sorry
theorem Ky9.part {Δ : List Ty} {t b : Ty} (k : Ky9 B σ β l Δ t) (ob : ok (cxs Δ [] β).length b = true) (gb : gq 5 0 l b = true) (kb : kv9 B σ (cxs Δ [] β).length b = true) : Ky9 B σ β l Δ b := by sorry
theorem Ky9.cl : KCy β [] (Ky9 B σ β l) := by sorry
theorem Ky9.sch {C : Ty} {Δ : List Ty} {f : Ty} (oσ : ok 0 (tAll B C) = true) (k : Ky9 B (tAll B C) β l Δ (tAll (upb [] Δ B) f)) : tAll (upb [] Δ B) f = upb [] Δ (tAll B C) := by sorry
end PmIi

end
section
-- from 99z78
def HA9 (β : Ty) (Γ0 : List Ty) (Kp : List Ty → Ty → Prop) (Δ : List Ty) (u : Ty) (p r g : Nat) : Prop := (p ≤ r ∧ 1 ≤ g) ∧ ∀ t, Kp Δ t → TB 1 (cxs Δ Γ0 β, t, u) → (trx (cxs Δ Γ0 β, u, t) ≤ p ∧ trx (cxs Δ Γ0 β, t, u) ≤ p) ∧ (gm (0, cxs Δ Γ0 β, t, u) ≤ r ∧ gm (0, cxs Δ Γ0 β, u, t) ≤ r) ∧ gn (0, cxs Δ Γ0 β, t, u) ≤ g ∧ gn (0, cxs Δ Γ0 β, u, t) ≤ g
def HN9 (β : Ty) (Γ0 : List Ty) (Kp : List Ty → Ty → Prop) (Δ : List Ty) (u : Ty) (p r g : Nat) : Prop := (p ≤ r ∧ 1 ≤ g) ∧ ∀ t, Kp Δ t → TB 1 (cxs Δ Γ0 β, t, u) → ¬ 16 ≤ hd t → (trx (cxs Δ Γ0 β, u, t) ≤ p ∧ trx (cxs Δ Γ0 β, t, u) ≤ p) ∧ (gm (0, cxs Δ Γ0 β, t, u) ≤ r ∧ gm (0, cxs Δ Γ0 β, u, t) ≤ r) ∧ gn (0, cxs Δ Γ0 β, t, u) ≤ g ∧ gn (0, cxs Δ Γ0 β, u, t) ≤ g
def HW9 (Γ : List Ty) (u : Ty) (p r g : Nat) : Prop := (p ≤ r ∧ 1 ≤ g) ∧ ∀ (w : Nat) (t : Ty), w ≤ 1 → TB 1 (Γ, t, u) → (trx (Γ, u, t) ≤ p ∧ trx (Γ, t, u) ≤ p) ∧ (gm (w, Γ, t, u) ≤ r ∧ gm (w, Γ, u, t) ≤ r) ∧ gn (w, Γ, t, u) ≤ g ∧ gn (w, Γ, u, t) ≤ g
section PmIj
variable {β : Ty} {Γ0 Δ : List Ty} {Kp : List Ty → Ty → Prop} {u a c x y z : Ty} {p r g p' r' g' p0 p1 p2 r0 r1 r2 g0 g1 g2 m : Nat}
theorem HA9.up (h : HA9 β Γ0 Kp Δ u p r g) (l1 : p ≤ p') (l2 : r ≤ r') (l3 : g ≤ g') (l4 : p' ≤ r') : HA9 β Γ0 Kp Δ u p' r' g' := by sorry
theorem HW9.ha (h : HW9 (cxs Δ Γ0 β) u p r g) : HA9 β Γ0 Kp Δ u p r g := by sorry
theorem HW9_nat {Γ : List Ty} (hc : okc Γ) (o : ok Γ.length u = true) (h0 : ∀ d, pmz (qu 1) d (oq (qu 1) Γ) u ≤ p) (h1 : ∀ b, mz b 1 Γ u ≤ r) (h2 : gz Γ u ≤ g) (h3 : 1 ≤ g) (h4 : p ≤ r) : HW9 Γ u p r g := by sorry
theorem HN9.ha (K : KCy β Γ0 Kp) (h : HN9 β Γ0 Kp Δ u p r g) (nu : ¬ 16 ≤ hd u) : HA9 β Γ0 Kp Δ u (p + 1) (r + 1) g := by sorry
end PmIj

end
section
-- from 99z79
section PmIk
variable {β : Ty} {Γ0 Δ : List Ty} {Kp : List Ty → Ty → Prop} {a c x y z : Ty} {p r g p0 p1 p2 r0 r1 r2 g0 g1 g2 m : Nat}
theorem land_bit : ∀ m, m < 8 → ∀ m', m' < 8 → ∀ i, i < 3 → bit (lset 0 m m') i = true → bit m i = true ∧ bit m' i = true := by sorry
theorem gzl_h {f : Gz → Nat} {m m' i v : Nat} {Γ : List Ty} {X Y : Ty} (hm : m < 8) (hm' : m' < 8) (hi : i < 3) (hf : bit m i = true → bit m' i = true → f (0, Γ, X, Y) ≤ v) : sgl f (gzl 0 Γ (lset 0 m m') m m' i X Y) ≤ v := by sorry
theorem TB_rec {Γ : List Ty} {m m' : Nat} {x y z x' y' z' : Ty} (hm : m < 8) (hm' : m' < 8) (tb : TB 1 (Γ, tRec m x y z, tRec m' x' y' z')) : (bit m 0 = true → bit m' 0 = true → TB 1 (Γ, x, x')) ∧ (bit m 1 = true → bit m' 1 = true → TB 1 (Γ, y, y')) ∧ (bit m 2 = true → bit m' 2 = true → TB 1 (Γ, z, z')) := by sorry
theorem HN9_rec {Kp' : List Ty → Ty → Prop} (K : ∀ t, Kp Δ t → ∀ m x y z, m < 8 → t = tRec m x y z → (bit m 0 = true → Kp' Δ x) ∧ (bit m 1 = true → Kp' Δ y) ∧ (bit m 2 = true → Kp' Δ z)) (hm : m < 8) (h0 : bit m 0 = true → HA9 β Γ0 Kp' Δ x p0 r0 g0) (h1 : bit m 1 = true → HA9 β Γ0 Kp' Δ y p1 r1 g1) (h2 : bit m 2 = true → HA9 β Γ0 Kp' Δ z p2 r2 g2) (l0 : p0 ≤ r0) (l1 : p1 ≤ r1) (l2 : p2 ≤ r2) : HN9 β Γ0 Kp Δ (tRec m x y z) (p0 + (p1 + p2)) (1 + (r0 + (r1 + r2))) (1 + (g0 + (g1 + g2))) := by sorry
theorem TB_fn {Γ : List Ty} {a b a' b' : Ty} (tb : TB 1 (Γ, tFun a b, tFun a' b')) : TB 1 (Γ, a, a') ∧ TB 1 (Γ, b, b') := by sorry
theorem HN9_fun {Kp' : List Ty → Ty → Prop} (K : ∀ t, Kp Δ t → ∀ a b, t = tFun a b → Kp' Δ b) (ha : HW9 (cxs Δ Γ0 β) a p0 r0 g0) (hq : HA9 β Γ0 Kp' Δ c p r g) : HN9 β Γ0 Kp Δ (tFun a c) (p0 + p) (1 + (r0 + r)) (1 + (g0 + g)) := by sorry
theorem HN9_all (hs : ∀ f, ¬ Kp Δ (tAll a f)) : HN9 β Γ0 Kp Δ (tAll a c) 0 1 1 := by sorry
end PmIk

end
section
-- from 99z80
def Dn9 : Nat → Ty
  | 0 => tTop
  | n + 1 => tAll tTop (Dn9 n)
theorem Dn9_ok : ∀ (n d : Nat), ok d (Dn9 n) = true := by sorry
theorem Dn9_lft (k j : Nat) : ∀ n : Nat, lft k j (Dn9 n) = Dn9 n := by sorry
theorem Dn9_pmz : ∀ (n : Nat) (Γ : List Ty), pmz (qu 1) true (oq (qu 1) Γ) (Dn9 n) = n := by sorry
theorem Dn9_urm (b : Bool) : ∀ (n : Nat) (Γ : List Ty), 3 * n ≤ urm b 1 0 Γ (Dn9 n) := by sorry
theorem Dn9_mz (b : Bool) : ∀ (n : Nat) (Γ : List Ty), mz b 1 Γ (Dn9 n) = 3 * n := by sorry
theorem Dn9_gz : ∀ (n : Nat) (Γ : List Ty), gz Γ (Dn9 n) = n + 1 := by sorry
def SPd (σ : Ty) : Nat → Ty → Prop
  | 0, b => b = σ
  | d + 1, b => (∃ a c, b = tFun a c ∧ SPd σ d c) ∨ ∃ m x y z, m < 8 ∧ b = tRec m x y z ∧ ((bit m 0 = true ∧ SPd σ d x) ∨ (bit m 1 = true ∧ SPd σ d y) ∨ (bit m 2 = true ∧ SPd σ d z))
theorem rch_ng : ∀ m, m < 8 → 2 ≤ rch m ∧ ngc (8 + m) ≤ rch m := by sorry
theorem rch_three : ∀ m, m < 8 → ∀ i, i < 3 → bit m i = true → 3 ≤ rch m := by sorry
theorem small_cl {B σ : Ty} (n : Nat) (h : Nat → Nat) (ω : List Nat) : ∀ (f : Nat) (a : Ty), (flat a).length ≤ f → ok 0 a = true → tch a ≤ 5 → (∀ d, pmz (qu 1) d ω (lft 0 n a) ≤ (tch a + 1) / 3) ∧ (nz 0 (fun _ => 1 + 1) (2 + 1) h ω (lft 0 n a) ≤ tch a ∧ nz 1 ngc 1 (fun x => x) ω (lft 0 n a) ≤ tch a) ∧ kv9 B σ 0 a = true := by sorry
section PmIl
variable {B C β : Ty} {l : Nat} {Δ : List Ty}
theorem small_hw {a : Ty} (hc : okc (cxs Δ [] β)) (o : ok 0 a = true) (h5 : tch a ≤ 5) : HW9 (cxs Δ [] β) (upb [] Δ a) ((tch a + 1) / 3) (tch a) (tch a) := by sorry
theorem SPd_ch {σ : Ty} (oσ : ok 0 σ = true) : ∀ (d : Nat) (b : Ty), ok 0 b = true → SPd σ d b → hd b < 16 ∧ tch σ + 3 * d ≤ tch b := by sorry
theorem SPd_03 {σ : Ty} (oσ : ok 0 σ = true) {d : Nat} {b : Ty} (o : ok 0 b = true) (h : SPd σ d b) : tch b = tch σ ∨ tch σ + 3 ≤ tch b := by sorry
theorem rec_5 {m i j : Nat} {u : Ty} (hm : m < 8) (hi : i < 3) (hj : j < 3) (ne : i ≠ j) (b1 : bit m i = true) (ou : okl 0 m j u) : tch u = 0 ∨ 5 ≤ rch m := by sorry
theorem Ky9.cls {a : Ty} (k : Ky9 B tTop β l Δ tTop) (o : ok 0 a = true) (kv : kv9 B tTop 0 a = true) : Ky9 B tTop β l Δ (upb [] Δ a) := by sorry
theorem Ky9.bdy (k : Ky9 B tTop β l Δ tTop) (oσ : ok 0 (tAll B C) = true) (nC : sN B 0 1 C = false) : Ky9 B tTop β l (upb [] Δ B :: Δ) (upb [] Δ C) := by sorry
def Kd9 (B C β : Ty) (l d : Nat) (Δ : List Ty) (t : Ty) : Prop := Ky9 B tTop β l Δ t ∨ (Ky9 B tTop β l Δ tTop ∧ ∃ d' b, d' < d ∧ SPd (tAll B C) d' b ∧ ok 0 b = true ∧ tch b ≤ tch (tAll B C) + 8 ∧ t = upb [] Δ b)
theorem sp_kids (oσ : ok 0 (tAll B C) = true) (nC : sN B 0 1 C = false) (k : Ky9 B tTop β l Δ tTop) {d : Nat} {b : Ty} (ob : ok 0 b = true) (sp : SPd (tAll B C) d b) (h8 : tch b ≤ tch (tAll B C) + 8) : (∀ a c, upb [] Δ b = tFun a c → Kd9 B C β l d Δ a ∧ Kd9 B C β l d Δ c) ∧ (∀ m x y z, m < 8 → upb [] Δ b = tRec m x y z → (bit m 0 = true → Kd9 B C β l d Δ x) ∧ (bit m 1 = true → Kd9 B C β l d Δ y) ∧ (bit m 2 = true → Kd9 B C β l d Δ z)) ∧ (∀ a c, upb [] Δ b = tAll a c → Ky9 B tTop β l (a :: Δ) c) := by sorry
theorem Kd9.mono {d e : Nat} {t : Ty} (h : d ≤ e) (k : Kd9 B C β l d Δ t) : Kd9 B C β l e Δ t := by sorry
theorem Kd9.less (oσ : ok 0 (tAll B C) = true) (nC : sN B 0 1 C = false) {d : Nat} {t : Ty} (k : Kd9 B C β l (d + 1) Δ t) : (∀ a c, t = tFun a c → Kd9 B C β l d Δ a ∧ Kd9 B C β l d Δ c) ∧ (∀ m x y z, m < 8 → t = tRec m x y z → (bit m 0 = true → Kd9 B C β l d Δ x) ∧ (bit m 1 = true → Kd9 B C β l d Δ y) ∧ (bit m 2 = true → Kd9 B C β l d Δ z)) := by sorry
end PmIl
section PmIp
variable {B C β : Ty} {l : Nat}
theorem Kd9.cl (oσ : ok 0 (tAll B C) = true) (nC : sN B 0 1 C = false) {d : Nat} : KCy β [] (Kd9 B C β l d) := by sorry
theorem sp_hn {Δ : List Ty} (oσ : ok 0 (tAll B C) = true) (nC : sN B 0 1 C = false) (hc : okc (cxs Δ [] β)) : ∀ (d : Nat) (b : Ty), ok 0 b = true → SPd (tAll B C) d b → tch b ≤ tch (tAll B C) + 8 → HN9 β [] (Kd9 B C β l d) Δ (upb [] Δ b) ((tch b - tch (tAll B C) + 1) / 3) (1 + (tch b - tch (tAll B C) - 1)) (1 + (tch b - tch (tAll B C) - 2)) := by sorry
end PmIp

end
section
-- from 99z81
section PmIm
variable {B C : Ty} {Δ : List Ty}
theorem trx_nv {Γ : List Ty} {u : Ty} {j : Nat} (tk : tok (Γ, u, tVar j)) (nu : ¬ 16 ≤ hd u) : trx (Γ, u, tVar j) = 0 := by sorry
def Dr9 : Ty := tRec 1 (Dn9 2) .nil .nil
theorem Dr9_ok (d : Nat) : ok d Dr9 = true := by sorry
theorem Dr9_lft (k j : Nat) : lft k j Dr9 = Dr9 := by sorry
theorem Dr9_pmz (Γ : List Ty) : pmz (qu 1) true (oq (qu 1) Γ) Dr9 = 2 := by sorry
theorem Dr9_urm (b : Bool) (Γ : List Ty) : 8 ≤ urm b 1 0 Γ Dr9 := by sorry
theorem Dr9_mz (b : Bool) (Γ : List Ty) : mz b 1 Γ Dr9 = 8 := by sorry
theorem Dr9_gz (Γ : List Ty) : gz Γ Dr9 = 6 := by sorry
theorem sp_ov {d : Nat} {b : Ty} (oσ : ok 0 (tAll B C) = true) (nC : sN B 0 1 C = false) (ob : ok 0 b = true) (sp : SPd (tAll B C) d b) (h7 : tch b ≤ tch (tAll B C) + 7) : OVb 1 b Dr9 [] := by sorry
end PmIm

end
section
-- from 99z82
section PmIq
variable {f : Nat} {x y β β' : Ty} {Γ0 Δ1 : List Ty} {Δ : List (Nat × Ty × Nat)}
theorem pair_nodesb (ov : OVb 1 β β' Γ0) (x1 : TWf f (cxs Δ1 Γ0 β).length (Δ.map (fun a => a.1)) x) (x2 : TWf f (cxs Δ1 Γ0 β).length (Δ.map (fun a => a.1)) y) (he : TE (cxs Δ1 Γ0 β) Δ) (y1 : NAt f x) (y2 : NAt f y) (hv : noac (cxs Δ1 Γ0 β)) (hd' : ∀ a ∈ Δ, noal a.2.1 = true) (hb : cch (cxs Δ1 Γ0 β) ≤ 56) (hw : ∀ b j, j < (cxs Δ1 Γ0 β').length → vw (onz 0 (fun _ => 1 + 1) (2 + 1) (vlr b 1) (cxs Δ1 Γ0 β')) j ≤ 10) (hq : ∀ j, j < (cxs Δ1 Γ0 β').length → vw (onz 1 ngc 1 (fun y => y) (cxs Δ1 Γ0 β')) j ≤ 7) : PRn f x y (cxs Δ1 Γ0 β) Δ := by sorry
theorem pair_one (ov : OVb 1 β Dr9 []) (x1 : TWf f [β].length (Δ.map (fun a => a.1)) x) (x2 : TWf f [β].length (Δ.map (fun a => a.1)) y) (he : TE [β] Δ) (y1 : NAt f x) (y2 : NAt f y) (hv : noac [β]) (hd' : ∀ a ∈ Δ, noal a.2.1 = true) (hb : cch [β] ≤ 56) : PRn f x y [β] Δ := by sorry
end PmIq

end
section
-- from 99z83
def One9 (Γ : List Ty) : Prop := ∃ b : Ty, Γ = [b] ∧ OVb 1 b Dr9 []
def RESTv9 : Prop := ∀ (f : Nat) (x y : Ty) (Γ : List Ty) (Δ : List (Nat × Ty × Nat)), TWf f Γ.length (Δ.map (fun a => a.1)) x → TWf f Γ.length (Δ.map (fun a => a.1)) y → TE Γ Δ → NAt f x → NAt f y → noac Γ → (∀ a ∈ Δ, noal a.2.1 = true) → TNo f x → TNo f y → 3 ≤ mch x → 3 ≤ mch y → (mch x ≤ mch y → ¬ NOp f x) → (¬ mch x ≤ mch y → ¬ NOp f y) → 20 ≤ cch Γ → cch Γ ≤ 47 → cch Γ + dch Δ + (2 + (mch x + mch y)) ≤ 60 → NoO f x y Γ Δ → ¬ AzT f x Γ Δ → ¬ AzT f y Γ Δ → ¬ AzB f x Γ Δ → ¬ AzB f y Γ Δ → ¬ AzC f x Γ Δ → ¬ AzC f y Γ Δ → ¬ AzI f x Γ Δ → ¬ AzI f y Γ Δ → ¬ AzF f x Γ Δ → ¬ AzF f y Γ Δ → ¬ AzG f x Γ Δ → ¬ AzG f y Γ Δ → ¬ AzH f x Γ Δ → ¬ AzH f y Γ Δ → ¬ PrS f x y Γ Δ → ¬ AzK f x Γ Δ → ¬ AzK f y Γ Δ → ¬ AzL f x Γ Δ → ¬ AzL f y Γ Δ → ¬ AzM f x Γ Δ → ¬ AzM f y Γ Δ → ¬ PrG f x y Γ Δ → ¬ AzN f x Γ Δ → ¬ AzN f y Γ Δ → ¬ One9 Γ → (¬ ((mch x ≤ mch y → CHo f x []) ∧ (¬ mch x ≤ mch y → CHo f y [])) ∨ LeftJ f x y Γ Δ) → PRn f x y Γ Δ
theorem restu9_of (R : RESTv9) : RESTu9 := by sorry
theorem pairn_ov (R : RESTv9) : PAIRn := by sorry
end
section
-- from 99z84
section PmIr
variable {f : Nat} {t b b' B C : Ty} {Γ0 Δ1 : List Ty} {Δ : List (Nat × Ty × Nat)} {un e : Bool} {LR LG : LnT} {c0 c1 m0 m1 : Nat}
theorem zone_hx {VR VG : FrT} (fR : ∃ v ∈ frg VR (tch C), xt (Γ0.length + 1) C ≤ v.1 ∧ xa 0 (fun _ => 1 + 1) 3 1 (Γ0.length + 1) C ≤ v.2) (fG : ∃ v ∈ frg VG (tch C), xt (Γ0.length + 1) C ≤ v.1 ∧ xa 1 ngc 1 0 (Γ0.length + 1) C ≤ v.2) (hr : ∀ a ∈ cxs Δ1 Γ0 b, hd a ≠ 2) (lb : LBd Γ0 Δ1 b b' B C) (w : TWf f (cxs Δ1 Γ0 b).length (Δ.map (fun a => a.1)) t) (he : TE (cxs Δ1 Γ0 b) Δ) (hΔ : (e = true ∧ Δ = []) ∨ (e = false ∧ Δ ≠ [])) (cu : un = true ∨ COk f t 0) (ch : CHo f t []) (zR : liz LR VR fr1 fg1 1 3 (kpz fr1 0 (max 1 (fx1.getD (cch Γ0) 0)) (tch b - tch (tAll B C))) (wbz fr1 1 (max 1 (fx1.getD (cch Γ0) 0)) (tch B)) (max 1 (fx1.getD (cch Γ0) 0)) (ojz (tch C) (tch b - tch (tAll B C)) (cch Γ0) (cch Δ1)) (tch C) (cch Δ1) (cch (cxs Δ1 Γ0 b)) = true) (zG : liz LG VG frq fgq 0 1 (kpz frq 1 (max 1 (fxq.getD (cch Γ0) 0)) (tch b - tch (tAll B C))) (wbz frq 0 (max 1 (fxq.getD (cch Γ0) 0)) (tch B)) (max 1 (fxq.getD (cch Γ0) 0)) (ojz (tch C) (tch b - tch (tAll B C)) (cch Γ0) (cch Δ1)) (tch C) (cch Δ1) (cch (cxs Δ1 Γ0 b)) = true) (tR : lnf8 un e LR fr1 fg1 1 2 3 2 2 2 2 887 c0 c1 m0 m1 = true) (tG : lnf8 un e LG frq fgq 0 1 1 1 3 2 1 597 c0 c1 m0 m1 = true) (h0 : c0 ≤ cch (cxs Δ1 Γ0 b)) (h1 : cch (cxs Δ1 Γ0 b) < c1) (g0 : m0 ≤ mch t) (g1 : mch t < m1) (h47 : cch (cxs Δ1 Γ0 b) ≤ 47) (q38 : cch Δ1 ≤ 38) (hb : cch (cxs Δ1 Γ0 b) + dch Δ + 2 * mch t ≤ 58) : NtV (cxs Δ1 Γ0 b) Δ f t 887 597 := by sorry
end PmIr

end
section
-- from 99z85
def o0R : LnT := [[], [], [], [], [], [], [], [], [], [], [], [], [], [], [], [], [], [], [], [], [], [], [], [], [], [], [], [], [], [], [], [], [], [], [], [], [], [], [], [(56, 0, 49, 9, 0, 27)], [(68, 0, 61, 9, 0, 28)], [(69, 0, 61, 9, 0, 29)], [(74, 0, 67, 9, 0, 30)], [(79, 0, 67, 9, 0, 30)], [], [], [], []]
def o0G : LnT := [[], [], [], [], [], [], [], [], [], [], [], [], [], [], [], [], [], [], [], [], [], [], [], [], [], [], [], [], [], [], [], [], [], [], [], [], [], [], [], [(35, 0, 30, 9, 0, 27)], [(41, 0, 36, 9, 0, 28)], [(41, 0, 36, 9, 0, 29)], [(43, 0, 38, 9, 0, 30)], [(47, 0, 38, 9, 0, 30)], [], [], [], []]
theorem o0R_39 : lnf8 false false o0R fr1 fg1 1 2 3 2 2 2 2 887 39 48 3 6 = true := by sorry
theorem o0G_39 : lnf8 false false o0G frq fgq 0 1 1 1 3 2 1 597 39 48 3 6 = true := by sorry
def o1R : LnT := [[], [], [], [], [], [], [], [], [], [], [], [], [], [], [], [], [], [], [], [], [], [], [], [], [], [], [], [], [], [], [], [], [], [], [(38, 0, 31, 5, 0, 22)], [(44, 0, 37, 6, 0, 23)], [(48, 0, 41, 6, 0, 24)], [(50, 0, 43, 6, 0, 25)], [], [(56, 0, 49, 9, 0, 27)], [(68, 0, 61, 9, 0, 28)], [(69, 0, 61, 9, 0, 29)], [], [], [], [], [], []]
def o1G : LnT := [[], [], [], [], [], [], [], [], [], [], [], [], [], [], [], [], [], [], [], [], [], [], [], [], [], [], [], [], [], [], [], [], [], [], [(23, 0, 18, 5, 0, 22)], [(24, 0, 19, 6, 0, 23)], [(29, 0, 24, 6, 0, 24)], [(32, 0, 27, 6, 0, 25)], [], [(35, 0, 30, 9, 0, 27)], [(41, 0, 36, 9, 0, 28)], [(41, 0, 36, 9, 0, 29)], [], [], [], [], [], []]
theorem o1R_34 : lnf8 true false o1R fr1 fg1 1 2 3 2 2 2 2 887 34 48 6 20 = true := by sorry
theorem o1G_34 : lnf8 true false o1G frq fgq 0 1 1 1 3 2 1 597 34 48 6 20 = true := by sorry
def vfR (be : Nat) : FrT := if Nat.ble be 1 then xfa1 else sfR be
def vfG (be : Nat) : FrT := if Nat.ble be 1 then xfaq else sfG be
def zoR (L : LnT) (be k ov q1 q2 : Nat) : Bool := liz L (vfR be) fr1 fg1 1 3 (kpz fr1 0 (max 1 (fx1.getD q1 0)) ov) (wbz fr1 1 (max 1 (fx1.getD q1 0)) be) (max 1 (fx1.getD q1 0)) (ojz k ov q1 q2) k q2 (8 + be + k + ov + q1 + q2)
def zoG (L : LnT) (be k ov q1 q2 : Nat) : Bool := liz L (vfG be) frq fgq 0 1 (kpz frq 1 (max 1 (fxq.getD q1 0)) ov) (wbz frq 0 (max 1 (fxq.getD q1 0)) be) (max 1 (fxq.getD q1 0)) (ojz k ov q1 q2) k q2 (8 + be + k + ov + q1 + q2)
def B10z (m be k ov q1 q2 : Nat) : Bool := if Nat.ble m 5 then (Nat.ble 39 (8 + be + k + ov + q1 + q2) && (zoR o0R be k ov q1 q2 && zoG o0G be k ov q1 q2)) else (Nat.ble 34 (8 + be + k + ov + q1 + q2) && (zoR o1R be k ov q1 q2 && zoG o1G be k ov q1 q2))
theorem tq_top {D : Nat} {a : Ty} (o : ok D a = true) (h : tqN tTop 0 D a = true) : hd a = 0 := by sorry
theorem sN_phf : ∀ (f : Nat) (t : Ty) (D : Nat), (flat t).length ≤ f → ok D t = true → sN tTop 0 D t = true → phf (fun _ => true) t = true := by sorry
section PmIs
variable {f : Nat} {t b b' B C : Ty} {Γ0 Δ1 : List Ty} {Δ : List (Nat × Ty × Nat)}
theorem vf_R {d : Nat} (oB : ok 0 B = true) (b1 : tch B = 1 → B = tTop) (b16 : tch B ≤ 16) (oC : ok d C = true) (k40 : tch C ≤ 40) (fl : sN B 0 d C = true) : ∃ v ∈ frg (vfR (tch B)) (tch C), xt d C ≤ v.1 ∧ xa 0 (fun _ => 1 + 1) 3 1 d C ≤ v.2 := by sorry
theorem vf_G {d : Nat} (oB : ok 0 B = true) (b1 : tch B = 1 → B = tTop) (b16 : tch B ≤ 16) (oC : ok d C = true) (k40 : tch C ≤ 40) (fl : sN B 0 d C = true) : ∃ v ∈ frg (vfG (tch B)) (tch C), xt d C ≤ v.1 ∧ xa 1 ngc 1 0 d C ≤ v.2 := by sorry
theorem nat_bo (oB : ok 0 B = true) (b16 : tch B ≤ 16) (fl : sN B 0 (Γ0.length + 1) C = true) (nΔ : Δ ≠ []) (hr : ∀ a ∈ cxs Δ1 Γ0 b, hd a ≠ 2) (lb : LBd Γ0 Δ1 b b' B C) (w : TWf f (cxs Δ1 Γ0 b).length (Δ.map (fun a => a.1)) t) (he : TE (cxs Δ1 Γ0 b) Δ) (ch : CHo f t []) (hz : B10z (mch t) (tch B) (tch C) (tch b - tch (tAll B C)) (cch Γ0) (cch Δ1) = true) (m3 : 3 ≤ mch t) (h47 : cch (cxs Δ1 Γ0 b) ≤ 47) (q38 : cch Δ1 ≤ 38) (hb : cch (cxs Δ1 Γ0 b) + dch Δ + 2 * mch t ≤ 58) : NtV (cxs Δ1 Γ0 b) Δ f t 887 597 := by sorry
end PmIs
def AzO (f : Nat) (t : Ty) (Γ : List Ty) (Δ : List (Nat × Ty × Nat)) : Prop := ∃ (Δ1 Γ0 : List Ty) (b b' B C : Ty), Γ = cxs Δ1 Γ0 b ∧ ok 0 B = true ∧ tch B ≤ 16 ∧ sN B 0 (Γ0.length + 1) C = true ∧ Δ ≠ [] ∧ (∀ a ∈ cxs Δ1 Γ0 b, hd a ≠ 2) ∧ LBd Γ0 Δ1 b b' B C ∧ CHo (pee f t).1 (pee f t).2 [] ∧ B10z (mch (pee f t).2) (tch B) (tch C) (tch b - tch (tAll B C)) (cch Γ0) (cch Δ1) = true ∧ 3 ≤ mch (pee f t).2 ∧ cch Δ1 ≤ 38 ∧ cch Γ + dch Δ + 2 * mch (pee f t).2 ≤ 58
theorem AzO.v {f : Nat} {t : Ty} {Γ : List Ty} {Δ : List (Nat × Ty × Nat)} (w : TWf f Γ.length (Δ.map (fun a => a.1)) t) (he : TE Γ Δ) (h47 : cch Γ ≤ 47) (h : AzO f t Γ Δ) : NtV Γ Δ f t 887 597 := by sorry
def RESTw9 : Prop := ∀ (f : Nat) (x y : Ty) (Γ : List Ty) (Δ : List (Nat × Ty × Nat)), TWf f Γ.length (Δ.map (fun a => a.1)) x → TWf f Γ.length (Δ.map (fun a => a.1)) y → TE Γ Δ → NAt f x → NAt f y → noac Γ → (∀ a ∈ Δ, noal a.2.1 = true) → TNo f x → TNo f y → 3 ≤ mch x → 3 ≤ mch y → (mch x ≤ mch y → ¬ NOp f x) → (¬ mch x ≤ mch y → ¬ NOp f y) → 20 ≤ cch Γ → cch Γ ≤ 47 → cch Γ + dch Δ + (2 + (mch x + mch y)) ≤ 60 → NoO f x y Γ Δ → ¬ AzT f x Γ Δ → ¬ AzT f y Γ Δ → ¬ AzB f x Γ Δ → ¬ AzB f y Γ Δ → ¬ AzC f x Γ Δ → ¬ AzC f y Γ Δ → ¬ AzI f x Γ Δ → ¬ AzI f y Γ Δ → ¬ AzF f x Γ Δ → ¬ AzF f y Γ Δ → ¬ AzG f x Γ Δ → ¬ AzG f y Γ Δ → ¬ AzH f x Γ Δ → ¬ AzH f y Γ Δ → ¬ PrS f x y Γ Δ → ¬ AzK f x Γ Δ → ¬ AzK f y Γ Δ → ¬ AzL f x Γ Δ → ¬ AzL f y Γ Δ → ¬ AzM f x Γ Δ → ¬ AzM f y Γ Δ → ¬ PrG f x y Γ Δ → ¬ AzN f x Γ Δ → ¬ AzN f y Γ Δ → ¬ One9 Γ → ¬ AzO f x Γ Δ → ¬ AzO f y Γ Δ → (¬ ((mch x ≤ mch y → CHo f x []) ∧ (¬ mch x ≤ mch y → CHo f y [])) ∨ LeftJ f x y Γ Δ) → PRn f x y Γ Δ
theorem restv9_of (R : RESTw9) : RESTv9 := by sorry
theorem pairn_ow (R : RESTw9) : PAIRn := by sorry
end
section
-- from 99z86
section PmIt
variable {f : Nat} {t : Ty} {Γ : List Ty} {Δ : List (Nat × Ty × Nat)} {un e : Bool} {cd ob : Nat}
theorem zone_0i (w : TWf f Γ.length (Δ.map (fun a => a.1)) t) (he : TE Γ Δ) (hΔ : (e = true ∧ Δ = []) ∨ (e = false ∧ Δ ≠ [])) (cu : un = true ∨ COk f t 0) (ch : CHo f t []) (m30 : mch t ≤ 30) (hdd : dch Δ ≤ cd) (hcd : cd ≤ 56) (hb0 : ∀ b ∈ Γ, IS2 (fun _ => False) b) (c56 : cch Γ ≤ 56) (TR : T0R un e ob cd (mch t) (fx1.getD (cch Γ) 0)) (TG : T0G un e ob cd (mch t) (fxq.getD (cch Γ) 0)) : NtV Γ Δ f t 887 597 := by sorry
theorem nosch_i (w : TWf f Γ.length (Δ.map (fun a => a.1)) t) (he : TE Γ Δ) (ch : CHo f t []) (m3 : 3 ≤ mch t) (hb0 : ∀ b ∈ Γ, IS2 (fun _ => False) b) (hb : cch Γ + dch Δ + 2 * mch t ≤ 58) (h20 : 20 ≤ cch Γ) (h47 : cch Γ ≤ 47) : NtV Γ Δ f t 887 597 := by sorry
end PmIt
def AzP (f : Nat) (t : Ty) (Γ : List Ty) (Δ : List (Nat × Ty × Nat)) : Prop := (∀ a ∈ Γ, IS2 (fun _ => False) a) ∧ CHo (pee f t).1 (pee f t).2 [] ∧ 3 ≤ mch (pee f t).2 ∧ cch Γ + dch Δ + 2 * mch (pee f t).2 ≤ 58
theorem AzP.v {f : Nat} {t : Ty} {Γ : List Ty} {Δ : List (Nat × Ty × Nat)} (w : TWf f Γ.length (Δ.map (fun a => a.1)) t) (he : TE Γ Δ) (h20 : 20 ≤ cch Γ) (h47 : cch Γ ≤ 47) (h : AzP f t Γ Δ) : NtV Γ Δ f t 887 597 := by sorry
def RESTx9 : Prop := ∀ (f : Nat) (x y : Ty) (Γ : List Ty) (Δ : List (Nat × Ty × Nat)), TWf f Γ.length (Δ.map (fun a => a.1)) x → TWf f Γ.length (Δ.map (fun a => a.1)) y → TE Γ Δ → NAt f x → NAt f y → noac Γ → (∀ a ∈ Δ, noal a.2.1 = true) → TNo f x → TNo f y → 3 ≤ mch x → 3 ≤ mch y → (mch x ≤ mch y → ¬ NOp f x) → (¬ mch x ≤ mch y → ¬ NOp f y) → 20 ≤ cch Γ → cch Γ ≤ 47 → cch Γ + dch Δ + (2 + (mch x + mch y)) ≤ 60 → NoO f x y Γ Δ → ¬ AzT f x Γ Δ → ¬ AzT f y Γ Δ → ¬ AzB f x Γ Δ → ¬ AzB f y Γ Δ → ¬ AzC f x Γ Δ → ¬ AzC f y Γ Δ → ¬ AzI f x Γ Δ → ¬ AzI f y Γ Δ → ¬ AzF f x Γ Δ → ¬ AzF f y Γ Δ → ¬ AzG f x Γ Δ → ¬ AzG f y Γ Δ → ¬ AzH f x Γ Δ → ¬ AzH f y Γ Δ → ¬ PrS f x y Γ Δ → ¬ AzK f x Γ Δ → ¬ AzK f y Γ Δ → ¬ AzL f x Γ Δ → ¬ AzL f y Γ Δ → ¬ AzM f x Γ Δ → ¬ AzM f y Γ Δ → ¬ PrG f x y Γ Δ → ¬ AzN f x Γ Δ → ¬ AzN f y Γ Δ → ¬ One9 Γ → ¬ AzO f x Γ Δ → ¬ AzO f y Γ Δ → ¬ AzP f x Γ Δ → ¬ AzP f y Γ Δ → (¬ ((mch x ≤ mch y → CHo f x []) ∧ (¬ mch x ≤ mch y → CHo f y [])) ∨ LeftJ f x y Γ Δ) → PRn f x y Γ Δ
theorem restw9_of (R : RESTx9) : RESTw9 := by sorry
theorem pairn_ox (R : RESTx9) : PAIRn := by sorry
theorem IS2_sp {P : Ty → Prop} {B C : Ty} : ∀ (d : Nat) (b : Ty), SPd (tAll B C) d b → IS2 P b → P (tAll B C) := by sorry
theorem sp_ex : ∀ (f : Nat) (b : Ty) (D : Nat), (flat b).length ≤ f → ok D b = true → IS2 (fun _ => False) b ∨ ∃ (d : Nat) (B C : Ty), SPd (tAll B C) d b ∧ ok D (tAll B C) = true := by sorry
theorem one_of {b b' B C : Ty} (ob : ok 0 b = true) (lb : LBd [] [] b b' B C) (nf : ¬ IS2 (fun _ => False) b) (h7 : tch b ≤ tch (tAll B C) + 7) (nC : sN B 0 1 C = false) : One9 [b] := by sorry
end
section
-- from 99z87
def HO8 (t0 : Nat) (n1 : Nat → Nat) (s2 : Nat) (h : Nat → Nat) (E : Stk → Nat) : List Ty → List Nat → Prop
  | [], [] => True
  | b :: Γ, _ :: ω => (hd b ≠ 2 ∨ ∀ ρ, ρ ≠ [] → vz t0 n1 s2 h E b ρ ω ≤ E ρ) ∧ HO8 t0 n1 s2 h E Γ ω
  | _, _ => False
section PmIu
variable {t0 s2 : Nat} {n1 h : Nat → Nat} {X7 : Nat} {eS e2S eb e2 : Nat → Nat}
theorem HEk8o (l1 : ∀ z, eS z ≤ eb z) (l2 : ∀ z, e2S z ≤ e2 z) : ∀ {Γ : List Ty} {ω : List Nat}, okc Γ → ω.length = Γ.length → HO8 t0 n1 s2 h (E2 X7 eS e2S) Γ ω → HEk t0 n1 s2 h (E2 X7 eb e2) Γ ω → HEk t0 n1 s2 h (E8 X7 eS e2S eb e2) Γ ω := by sorry
theorem HO_sfy {y : Nat} (he : ∀ z z', z ≤ z' → eb z ≤ eb z') (he2 : ∀ z z', z ≤ z' → e2 z ≤ e2 z') (hm : ∀ y y', y ≤ y' → h y ≤ h y') (hh : ∀ y δ, h (y + δ) ≤ h y + δ) (hn : NC t0 n1 s2 h) (h7 : y ≤ X7) : ∀ {Γ : List Ty}, okc Γ → (∀ j, j < Γ.length → vw (onz t0 n1 s2 h Γ) j ≤ y) → (∀ (Δ' : List Ty) (b' : Ty) (Γ' : List Ty), Γ = Δ' ++ b' :: Γ' → ok Γ'.length b' = true → (∀ j, j < Γ'.length → vw (onz t0 n1 s2 h Γ') j ≤ y) → nz t0 n1 s2 h (onz t0 n1 s2 h Γ') b' ≤ y → hd b' ≠ 2 ∨ IS2 (fun s => HS2 t0 n1 s2 h eb e2 (onz t0 n1 s2 h Γ') s ∨ ∀ z, nz t0 n1 s2 h (onz t0 n1 s2 h Γ') s + flv s * z ≤ eb z) b') → HO8 t0 n1 s2 h (E2 X7 eb e2) Γ (onz t0 n1 s2 h Γ) := by sorry
end PmIu
section PmIv
variable {t0 fn s2 hv r0 r1 r2 r3 x0 : Nat} {n1 h : Nat → Nat} {P Q : List (List Nat)} {F G W : FrT} {X : List Nat}
def dp8o (un : Bool) (F W : FrT) (a5 hv fn s2 r0 r1 r2 r3 E0 p wB ob k k2 y cd m : Nat) : Nat := DT un a5 fn s2 r0 r1 r2 r3 (Vbw F W y cd) (Zbw F W y) (fun b => H8 (X7w F W y cd m) (ebw F W hv y cd m 0 0 0 ob) (e2w F W hv y cd m k2) (ebw F W hv y cd m E0 p wB ob) (e2w F W hv y cd m k) (Zbw F W y b)) m m 0 0
theorem gen_fin8o (hn : NC t0 n1 s2 h) (hm : ∀ y y', y ≤ y' → h y ≤ h y') (T : TBs 58 t0 fn s2 hv r0 r1 r2 r3 x0 n1 h P Q F G X) (hFm : frm F = true) (hgr : fgc F W hv = true) (hWm : fgm W = true) (hW1 : fg1s W = true) (hW : (1, 0) ∈ frg W 0) (H1 : ∀ y, h y ≤ hv + max 1 y) {f : Nat} {t S : Ty} {Γ : List Ty} {ω : List Nat} {Δ : List (Nat × Ty × Nat)} {un : Bool} {a5 ob cd wB Bd y E0 p k k2 : Nat} (w : TWf f Γ.length (Δ.map (fun a => a.1)) t) (he : TE Γ Δ) (l1 : ω.length = Γ.length) (cu : un = true ∨ COk f t 0) (hm30 : mch t ≤ 30) (hdc : dch Δ ≤ cd) (hcd : cd ≤ 56) (a55 : a5 ≤ 5) (ha5 : Δ ≠ [] → a5 = 0) (y01 : x0 ≤ y) (k50 : k ≤ 50) (kk : k2 ≤ k) (hr : HO8 t0 n1 s2 h (E2 (X7w F W y cd (mch t)) (ebw F W hv y cd (mch t) 0 0 0 ob) (e2w F W hv y cd (mch t) k2)) Γ ω) (hω2 : ∀ j, j < ω.length → vw ω j ≤ y) (hkb : HEk t0 n1 s2 h (E2 (X7w F W y cd (mch t)) (ebw F W hv y cd (mch t) E0 p wB ob) (e2w F W hv y cd (mch t) k)) Γ ω) (go : ∀ E Z, AQh t0 n1 s2 h E Z f t [] ω → HEk t0 n1 s2 h E Γ ω → GOk t0 n1 s2 h E f t [] ω Γ Δ) (R1 : dp8o un F W a5 hv fn s2 r0 r1 r2 r3 E0 p wB ob k k2 y cd (mch t) ≤ Bd) (hS : tyF f t Γ Δ = .inr S) : nz t0 n1 s2 h ω S ≤ Bd := by sorry
end PmIv
section PmIw
variable {t0 fn s2 hv r0 r1 r2 r3 x0 : Nat} {n1 h : Nat → Nat} {P Q : List (List Nat)} {F G W : FrT} {X : List Nat}
theorem gen_zo (hn : NC t0 n1 s2 h) (hm : ∀ y y', y ≤ y' → h y ≤ h y') (hh : ∀ y δ, h (y + δ) ≤ h y + δ) (T : TBs 58 t0 fn s2 hv r0 r1 r2 r3 x0 n1 h P Q F G X) (hFm : frm F = true) (hgr : fgc F W hv = true) (hWm : fgm W = true) (hW1 : fg1s W = true) (hW : (1, 0) ∈ frg W 0) (H1 : ∀ y, h y ≤ hv + max 1 y) (s21 : 1 ≤ s2) {f : Nat} {t S b b' B C : Ty} {Γ0 Δ1 : List Ty} {Δ : List (Nat × Ty × Nat)} {un : Bool} {a5 ob cd Bd y1 κ wB : Nat} {v : Nat × Nat} (ds : DSp Γ0.length (tAll B C) b' b) (w : TWf f (cxs Δ1 Γ0 b).length (Δ.map (fun a => a.1)) t) (he : TE (cxs Δ1 Γ0 b) Δ) (cu : un = true ∨ COk f t 0) (hm30 : mch t ≤ 30) (hdc : dch Δ ≤ cd) (hcd : cd ≤ 56) (a55 : a5 ≤ 5) (ha5 : Δ ≠ [] → a5 = 0) (hb0 : ∀ a ∈ Γ0, OBs ob a) (hb1 : ∀ a ∈ Δ1, OBs ob a) (hbs : ∀ B' C', ok Γ0.length (tAll B' C') = true → tch C' ≤ tch C → tch (tAll B' C') + tch (tAll B C) + 5 ≤ tch b → tch C' ≤ 40 ∧ lmx xr1 (tch C') ≤ ob ∧ lmx fr1 (tch C') ≤ ob) (q38 : cch Δ1 ≤ 38) (q56 : cch Γ0 ≤ 56) (e1 : max x0 (X.getD (cch Γ0) 0) ≤ y1) (hκ : nz t0 n1 s2 h (onz t0 n1 s2 h Γ0) b' ≤ κ) (hwB : h (nz t0 n1 s2 h (onz t0 n1 s2 h Γ0) B) ≤ wB) (hv1 : xt (Γ0.length + 1) C ≤ v.1) (hv2 : xa t0 n1 s2 hv (Γ0.length + 1) C ≤ v.2) (go : ∀ E Z, AQh t0 n1 s2 h E Z f t [] (onz t0 n1 s2 h (cxs Δ1 Γ0 b)) → HEk t0 n1 s2 h E (cxs Δ1 Γ0 b) (onz t0 n1 s2 h (cxs Δ1 Γ0 b)) → GOk t0 n1 s2 h E f t [] (onz t0 n1 s2 h (cxs Δ1 Γ0 b)) (cxs Δ1 Γ0 b) Δ) (hT : ∀ p, p ≤ v.1 → ∀ u ∈ frg W (cch Δ1), ∃ s : T6, (TiD hv s2 κ wB y1 ob (tch C) p v u s ∧ (∃ w0 ∈ frg F s.2.2.2.2.2, ob + 1 ≤ w0.1) ∧ s.2.1 ≤ s.2.2.2.2.2 ∧ ∃ w0 ∈ frg F s.2.1, ob + 1 ≤ w0.1) ∧ dp8o un F W a5 hv fn s2 r0 r1 r2 r3 s.2.2.1 s.2.2.2.1 s.1 s.2.2.2.2.1 s.2.2.2.2.2 s.2.1 s.1 cd (mch t) ≤ Bd) (hr : hd b ≠ 2) (hS : tyF f t (cxs Δ1 Γ0 b) Δ = .inr S) : nz t0 n1 s2 h (onz t0 n1 s2 h (cxs Δ1 Γ0 b)) S ≤ Bd := by sorry
end PmIw
def lnf8o (un e : Bool) (L : LnT) (F W : FrT) (hv fn s2 r0 r1 r2 r3 Bd a b m0 m1 : Nat) : Bool := (List.range b).all (fun c => Nat.blt c a || (lng L c).all (fun s => (List.range m1).all (fun m => Nat.blt m m0 || (Nat.blt 58 (c + 2 * m) || (if e then Nat.ble (dp8o un F W 5 hv fn s2 r0 r1 r2 r3 s.2.2.1 s.2.2.2.1 s.1 s.2.2.2.2.1 s.2.2.2.2.2 s.2.1 s.1 0 m) Bd else (Nat.blt (58 - 2 * m - c) 5 || Nat.ble (dp8o un F W 0 hv fn s2 r0 r1 r2 r3 s.2.2.1 s.2.2.2.1 s.1 s.2.2.2.2.1 s.2.2.2.2.2 s.2.1 s.1 (58 - 2 * m - c) m) Bd))))))
theorem lnf8o_get {un e : Bool} {L : LnT} {F W : FrT} {hv fn s2 r0 r1 r2 r3 Bd a b m0 m1 c m : Nat} (h : lnf8o un e L F W hv fn s2 r0 r1 r2 r3 Bd a b m0 m1 = true) (ha : a ≤ c) (hb : c < b) (h0 : m0 ≤ m) (h1 : m < m1) (hc : c + 2 * m ≤ 58) {s : T6} (hs : s ∈ lng L c) : (e = false → 5 ≤ 58 - 2 * m - c → dp8o un F W 0 hv fn s2 r0 r1 r2 r3 s.2.2.1 s.2.2.2.1 s.1 s.2.2.2.2.1 s.2.2.2.2.2 s.2.1 s.1 (58 - 2 * m - c) m ≤ Bd) ∧ (e = true → dp8o un F W 5 hv fn s2 r0 r1 r2 r3 s.2.2.1 s.2.2.2.1 s.1 s.2.2.2.2.1 s.2.2.2.2.2 s.2.1 s.1 0 m ≤ Bd) := by sorry
def lszo (F : FrT) (hv s2 κ wB y1 ob k : Nat) (v u : Nat × Nat) (p : Nat) (s : T6) : Bool := lsz F hv s2 κ wB y1 ob k v u p s && (Nat.ble s.2.1 s.2.2.2.2.2 && (frg F s.2.1).any (fun w => Nat.ble (ob + 1) w.1))
def lizo (L : LnT) (XR F W : FrT) (hv s2 κ wB y1 ob k q2 c : Nat) : Bool := (frg XR k).all (fun v => (List.range (v.1 + 1)).all (fun p => (frg W q2).all (fun u => (lng L c).any (fun s => lszo F hv s2 κ wB y1 ob k v u p s))))
theorem lizo_get {L : LnT} {XR F W : FrT} {hv s2 κ wB y1 ob k q2 c : Nat} (h : lizo L XR F W hv s2 κ wB y1 ob k q2 c = true) : ∀ v ∈ frg XR k, ∀ p, p ≤ v.1 → ∀ u ∈ frg W q2, ∃ s : T6, s ∈ lng L c ∧ TiD hv s2 κ wB y1 ob k p v u s ∧ (∃ w0 ∈ frg F s.2.2.2.2.2, ob + 1 ≤ w0.1) ∧ s.2.1 ≤ s.2.2.2.2.2 ∧ ∃ w0 ∈ frg F s.2.1, ob + 1 ≤ w0.1 := by sorry
section PmIx
variable {f : Nat} {t b b' B C : Ty} {Γ0 Δ1 : List Ty} {Δ : List (Nat × Ty × Nat)} {un e : Bool} {LR LG : LnT} {c0 c1 m0 m1 : Nat}
theorem zone_ho (hr : hd b ≠ 2) (lb : LBd Γ0 Δ1 b b' B C) (w : TWf f (cxs Δ1 Γ0 b).length (Δ.map (fun a => a.1)) t) (he : TE (cxs Δ1 Γ0 b) Δ) (hΔ : (e = true ∧ Δ = []) ∨ (e = false ∧ Δ ≠ [])) (cu : un = true ∨ COk f t 0) (ch : CHo f t []) (zR : lizo LR xr1 fr1 fg1 1 3 (kpz fr1 0 (max 1 (fx1.getD (cch Γ0) 0)) (tch b - tch (tAll B C))) (wbz fr1 1 (max 1 (fx1.getD (cch Γ0) 0)) (tch B)) (max 1 (fx1.getD (cch Γ0) 0)) (ojz (tch C) (tch b - tch (tAll B C)) (cch Γ0) (cch Δ1)) (tch C) (cch Δ1) (cch (cxs Δ1 Γ0 b)) = true) (zG : lizo LG xrq frq fgq 0 1 (kpz frq 1 (max 1 (fxq.getD (cch Γ0) 0)) (tch b - tch (tAll B C))) (wbz frq 0 (max 1 (fxq.getD (cch Γ0) 0)) (tch B)) (max 1 (fxq.getD (cch Γ0) 0)) (ojz (tch C) (tch b - tch (tAll B C)) (cch Γ0) (cch Δ1)) (tch C) (cch Δ1) (cch (cxs Δ1 Γ0 b)) = true) (tR : lnf8o un e LR fr1 fg1 1 2 3 2 2 2 2 887 c0 c1 m0 m1 = true) (tG : lnf8o un e LG frq fgq 0 1 1 1 3 2 1 597 c0 c1 m0 m1 = true) (h0 : c0 ≤ cch (cxs Δ1 Γ0 b)) (h1 : cch (cxs Δ1 Γ0 b) < c1) (g0 : m0 ≤ mch t) (g1 : mch t < m1) (h47 : cch (cxs Δ1 Γ0 b) ≤ 47) (q38 : cch Δ1 ≤ 38) (hb : cch (cxs Δ1 Γ0 b) + dch Δ + 2 * mch t ≤ 58) : NtV (cxs Δ1 Γ0 b) Δ f t 887 597 := by sorry
end PmIx

end
section
-- from 99z88
def r0R : LnT := [[], [], [], [], [], [], [], [], [], [], [], [], [], [], [], [], [], [], [], [], [], [], [], [], [], [], [], [], [], [], [], [], [], [], [], [], [], [], [], [], [], [], [], [], [(97, 5, 34, 9, 1, 22)], [(144, 5, 76, 9, 1, 23)], [(152, 5, 94, 9, 1, 24)], [(164, 9, 94, 9, 2, 25)]]
def r0G : LnT := [[], [], [], [], [], [], [], [], [], [], [], [], [], [], [], [], [], [], [], [], [], [], [], [], [], [], [], [], [], [], [], [], [], [], [], [], [], [], [], [], [], [], [], [], [(67, 5, 28, 9, 1, 22)], [(107, 5, 48, 9, 1, 23)], [(112, 5, 72, 9, 1, 24)], [(123, 9, 72, 9, 2, 25)]]
theorem r0R_44 : lnf8o false false r0R fr1 fg1 1 2 3 2 2 2 2 887 44 48 3 6 = true := by sorry
theorem r0G_44 : lnf8o false false r0G frq fgq 0 1 1 1 3 2 1 597 44 48 3 6 = true := by sorry
def r1R : LnT := [[], [], [], [], [], [], [], [], [], [], [], [], [], [], [], [], [], [], [], [], [], [], [], [], [], [], [], [], [], [], [], [], [], [], [], [], [], [], [], [], [(96, 5, 38, 6, 1, 18)], [(104, 5, 43, 6, 1, 19)], [], [], [], [], [], []]
def r1G : LnT := [[], [], [], [], [], [], [], [], [], [], [], [], [], [], [], [], [], [], [], [], [], [], [], [], [], [], [], [], [], [], [], [], [], [], [], [], [], [], [], [], [(74, 5, 31, 6, 1, 18)], [(79, 5, 32, 6, 1, 19)], [], [], [], [], [], []]
theorem r1R_40 : lnf8o true false r1R fr1 fg1 1 2 3 2 2 2 2 887 40 42 6 10 = true := by sorry
theorem r1G_40 : lnf8o true false r1G frq fgq 0 1 1 1 3 2 1 597 40 42 6 10 = true := by sorry
def zrR (L : LnT) (be k ov q1 q2 : Nat) : Bool := lizo L xr1 fr1 fg1 1 3 (kpz fr1 0 (max 1 (fx1.getD q1 0)) ov) (wbz fr1 1 (max 1 (fx1.getD q1 0)) be) (max 1 (fx1.getD q1 0)) (ojz k ov q1 q2) k q2 (8 + be + k + ov + q1 + q2)
def zrG (L : LnT) (be k ov q1 q2 : Nat) : Bool := lizo L xrq frq fgq 0 1 (kpz frq 1 (max 1 (fxq.getD q1 0)) ov) (wbz frq 0 (max 1 (fxq.getD q1 0)) be) (max 1 (fxq.getD q1 0)) (ojz k ov q1 q2) k q2 (8 + be + k + ov + q1 + q2)
def B11z (m be k ov q1 q2 : Nat) : Bool := if Nat.ble m 5 then (Nat.ble 44 (8 + be + k + ov + q1 + q2) && (zrR r0R be k ov q1 q2 && zrG r0G be k ov q1 q2)) else (Nat.ble 40 (8 + be + k + ov + q1 + q2) && (Nat.ble (8 + be + k + ov + q1 + q2) 41 && (zrR r1R be k ov q1 q2 && zrG r1G be k ov q1 q2)))
def r0L : List (Nat × Nat × Nat × Nat × Nat) := [(1, 22, 3, 0, 10), (5, 18, 3, 11, 0), (1, 22, 3, 0, 11), (1, 22, 4, 0, 10), (2, 22, 3, 0, 10), (2, 22, 3, 10, 0), (1, 23, 3, 0, 10), (4, 18, 3, 0, 13), (5, 18, 3, 12, 0), (5, 18, 4, 11, 0), (6, 18, 3, 11, 0), (7, 18, 3, 0, 10), (5, 19, 3, 11, 0), (1, 22, 3, 0, 12), (1, 22, 4, 0, 11), (1, 22, 5, 0, 10), (2, 22, 3, 0, 11), (2, 22, 3, 11, 0), (2, 22, 4, 0, 10), (2, 22, 4, 10, 0), (3, 22, 3, 0, 10), (3, 22, 3, 10, 0), (1, 23, 3, 0, 11), (1, 23, 4, 0, 10), (2, 23, 3, 0, 10), (2, 23, 3, 10, 0), (1, 24, 3, 0, 10), (5, 17, 3, 14, 0), (1, 18, 3, 0, 17), (4, 18, 3, 0, 14), (4, 18, 4, 0, 13), (5, 18, 3, 0, 13), (5, 18, 3, 13, 0), (5, 18, 4, 12, 0), (5, 18, 5, 11, 0), (6, 18, 3, 12, 0), (6, 18, 4, 11, 0), (7, 18, 3, 0, 11), (7, 18, 3, 11, 0), (7, 18, 4, 0, 10), (8, 18, 3, 0, 10), (4, 19, 3, 0, 13), (5, 19, 3, 12, 0), (5, 19, 4, 11, 0), (6, 19, 3, 11, 0), (7, 19, 3, 0, 10), (5, 20, 3, 11, 0), (2, 21, 3, 0, 13), (1, 22, 3, 0, 13), (1, 22, 4, 0, 12), (1, 22, 5, 0, 11), (1, 22, 6, 0, 10), (2, 22, 3, 0, 12), (2, 22, 3, 12, 0), (2, 22, 4, 0, 11), (2, 22, 4, 11, 0), (2, 22, 5, 0, 10), (2, 22, 5, 10, 0), (3, 22, 3, 0, 11), (3, 22, 3, 11, 0), (3, 22, 4, 0, 10), (3, 22, 4, 10, 0), (4, 22, 3, 0, 10), (4, 22, 3, 10, 0), (1, 23, 3, 0, 12), (1, 23, 4, 0, 11), (1, 23, 5, 0, 10), (2, 23, 3, 0, 11), (2, 23, 3, 11, 0), (2, 23, 4, 0, 10), (2, 23, 4, 10, 0), (3, 23, 3, 0, 10), (3, 23, 3, 10, 0), (1, 24, 3, 0, 11), (1, 24, 4, 0, 10), (2, 24, 3, 0, 10), (2, 24, 3, 10, 0), (1, 25, 3, 0, 10)]
theorem r0L_ok : r0L.all (fun a => B11z 5 a.1 a.2.1 a.2.2.1 a.2.2.2.1 a.2.2.2.2) = true := by sorry
def r1L : List (Nat × Nat × Nat × Nat × Nat) := [(5, 13, 3, 11, 0), (1, 18, 3, 0, 10), (4, 13, 3, 0, 13), (5, 13, 3, 12, 0), (5, 13, 4, 11, 0), (6, 13, 3, 11, 0), (5, 14, 3, 11, 0), (1, 18, 3, 0, 11), (1, 18, 4, 0, 10), (2, 18, 3, 0, 10), (1, 19, 3, 0, 10)]
theorem r1L_ok : r1L.all (fun a => B11z 6 a.1 a.2.1 a.2.2.1 a.2.2.2.1 a.2.2.2.2) = true := by sorry
section PmIy
variable {f : Nat} {t b b' B C : Ty} {Γ0 Δ1 : List Ty} {Δ : List (Nat × Ty × Nat)}
theorem nat_br (nΔ : Δ ≠ []) (hr : hd b ≠ 2) (lb : LBd Γ0 Δ1 b b' B C) (w : TWf f (cxs Δ1 Γ0 b).length (Δ.map (fun a => a.1)) t) (he : TE (cxs Δ1 Γ0 b) Δ) (ch : CHo f t []) (hz : B11z (mch t) (tch B) (tch C) (tch b - tch (tAll B C)) (cch Γ0) (cch Δ1) = true) (m3 : 3 ≤ mch t) (h47 : cch (cxs Δ1 Γ0 b) ≤ 47) (q38 : cch Δ1 ≤ 38) (hb : cch (cxs Δ1 Γ0 b) + dch Δ + 2 * mch t ≤ 58) : NtV (cxs Δ1 Γ0 b) Δ f t 887 597 := by sorry
end PmIy
def AzQ (f : Nat) (t : Ty) (Γ : List Ty) (Δ : List (Nat × Ty × Nat)) : Prop := ∃ (Δ1 Γ0 : List Ty) (b b' B C : Ty), Γ = cxs Δ1 Γ0 b ∧ Δ ≠ [] ∧ hd b ≠ 2 ∧ LBd Γ0 Δ1 b b' B C ∧ CHo (pee f t).1 (pee f t).2 [] ∧ B11z (mch (pee f t).2) (tch B) (tch C) (tch b - tch (tAll B C)) (cch Γ0) (cch Δ1) = true ∧ 3 ≤ mch (pee f t).2 ∧ cch Δ1 ≤ 38 ∧ cch Γ + dch Δ + 2 * mch (pee f t).2 ≤ 58
theorem AzQ.v {f : Nat} {t : Ty} {Γ : List Ty} {Δ : List (Nat × Ty × Nat)} (w : TWf f Γ.length (Δ.map (fun a => a.1)) t) (he : TE Γ Δ) (h47 : cch Γ ≤ 47) (h : AzQ f t Γ Δ) : NtV Γ Δ f t 887 597 := by sorry
def RESTy9 : Prop := ∀ (f : Nat) (x y : Ty) (Γ : List Ty) (Δ : List (Nat × Ty × Nat)), TWf f Γ.length (Δ.map (fun a => a.1)) x → TWf f Γ.length (Δ.map (fun a => a.1)) y → TE Γ Δ → NAt f x → NAt f y → noac Γ → (∀ a ∈ Δ, noal a.2.1 = true) → TNo f x → TNo f y → 3 ≤ mch x → 3 ≤ mch y → (mch x ≤ mch y → ¬ NOp f x) → (¬ mch x ≤ mch y → ¬ NOp f y) → 20 ≤ cch Γ → cch Γ ≤ 47 → cch Γ + dch Δ + (2 + (mch x + mch y)) ≤ 60 → NoO f x y Γ Δ → ¬ AzT f x Γ Δ → ¬ AzT f y Γ Δ → ¬ AzB f x Γ Δ → ¬ AzB f y Γ Δ → ¬ AzC f x Γ Δ → ¬ AzC f y Γ Δ → ¬ AzI f x Γ Δ → ¬ AzI f y Γ Δ → ¬ AzF f x Γ Δ → ¬ AzF f y Γ Δ → ¬ AzG f x Γ Δ → ¬ AzG f y Γ Δ → ¬ AzH f x Γ Δ → ¬ AzH f y Γ Δ → ¬ PrS f x y Γ Δ → ¬ AzK f x Γ Δ → ¬ AzK f y Γ Δ → ¬ AzL f x Γ Δ → ¬ AzL f y Γ Δ → ¬ AzM f x Γ Δ → ¬ AzM f y Γ Δ → ¬ PrG f x y Γ Δ → ¬ AzN f x Γ Δ → ¬ AzN f y Γ Δ → ¬ One9 Γ → ¬ AzO f x Γ Δ → ¬ AzO f y Γ Δ → ¬ AzP f x Γ Δ → ¬ AzP f y Γ Δ → ¬ AzQ f x Γ Δ → ¬ AzQ f y Γ Δ → (¬ ((mch x ≤ mch y → CHo f x []) ∧ (¬ mch x ≤ mch y → CHo f y [])) ∨ LeftJ f x y Γ Δ) → PRn f x y Γ Δ
theorem restx9_of (R : RESTy9) : RESTx9 := by sorry
theorem pairn_oy (R : RESTy9) : PAIRn := by sorry
end
section
-- from 99z89
def ojy (k ov q1 q2 : Nat) : Nat := max (oj1 k q1) (max (oj1 k q2) (lmx fr1 (min k (ov - 10))))
section PmIz
variable {f : Nat} {t b b' B C : Ty} {Γ0 Δ1 : List Ty} {Δ : List (Nat × Ty × Nat)} {un e : Bool} {LR LG : LnT} {c0 c1 m0 m1 : Nat}
theorem zone_jy (lb : LBd Γ0 Δ1 b b' B C) (w : TWf f (cxs Δ1 Γ0 b).length (Δ.map (fun a => a.1)) t) (he : TE (cxs Δ1 Γ0 b) Δ) (hΔ : (e = true ∧ Δ = []) ∨ (e = false ∧ Δ ≠ [])) (cu : un = true ∨ COk f t 0) (ch : CHo f t []) (zR : liz LR xr1 fr1 fg1 1 3 (kpz fr1 0 (max 1 (fx1.getD (cch Γ0) 0)) (tch b - tch (tAll B C))) (wbz fr1 1 (max 1 (fx1.getD (cch Γ0) 0)) (tch B)) (max 1 (fx1.getD (cch Γ0) 0)) (ojy (tch C) (tch b - tch (tAll B C)) (cch Γ0) (cch Δ1)) (tch C) (cch Δ1) (cch (cxs Δ1 Γ0 b)) = true) (zG : liz LG xrq frq fgq 0 1 (kpz frq 1 (max 1 (fxq.getD (cch Γ0) 0)) (tch b - tch (tAll B C))) (wbz frq 0 (max 1 (fxq.getD (cch Γ0) 0)) (tch B)) (max 1 (fxq.getD (cch Γ0) 0)) (ojy (tch C) (tch b - tch (tAll B C)) (cch Γ0) (cch Δ1)) (tch C) (cch Δ1) (cch (cxs Δ1 Γ0 b)) = true) (tR : lnf un e LR fr1 fg1 1 2 3 2 2 2 2 887 c0 c1 m0 m1 = true) (tG : lnf un e LG frq fgq 0 1 1 1 3 2 1 597 c0 c1 m0 m1 = true) (h0 : c0 ≤ cch (cxs Δ1 Γ0 b)) (h1 : cch (cxs Δ1 Γ0 b) < c1) (g0 : m0 ≤ mch t) (g1 : mch t < m1) (h47 : cch (cxs Δ1 Γ0 b) ≤ 47) (q38 : cch Δ1 ≤ 38) (hb : cch (cxs Δ1 Γ0 b) + dch Δ + 2 * mch t ≤ 58) : NtV (cxs Δ1 Γ0 b) Δ f t 887 597 := by sorry
end PmIz
def zyR (L : LnT) (be k ov q1 q2 : Nat) : Bool := liz L xr1 fr1 fg1 1 3 (kpz fr1 0 (max 1 (fx1.getD q1 0)) ov) (wbz fr1 1 (max 1 (fx1.getD q1 0)) be) (max 1 (fx1.getD q1 0)) (ojy k ov q1 q2) k q2 (8 + be + k + ov + q1 + q2)
def zyG (L : LnT) (be k ov q1 q2 : Nat) : Bool := liz L xrq frq fgq 0 1 (kpz frq 1 (max 1 (fxq.getD q1 0)) ov) (wbz frq 0 (max 1 (fxq.getD q1 0)) be) (max 1 (fxq.getD q1 0)) (ojy k ov q1 q2) k q2 (8 + be + k + ov + q1 + q2)
def B12z (e : Bool) (m be k ov q1 q2 : Nat) : Bool := if e then (Nat.ble 8 m && (Nat.ble 30 (8 + be + k + ov + q1 + q2) && (zyR j2R be k ov q1 q2 && zyG j2G be k ov q1 q2))) else if Nat.ble m 5 then zyR j0R be k ov q1 q2 && zyG j0G be k ov q1 q2 else zyR j1R be k ov q1 q2 && zyG j1G be k ov q1 q2
section PmJa
variable {f : Nat} {t b b' B C : Ty} {Γ0 Δ1 : List Ty} {Δ : List (Nat × Ty × Nat)}
theorem nat_by (lb : LBd Γ0 Δ1 b b' B C) (w : TWf f (cxs Δ1 Γ0 b).length (Δ.map (fun a => a.1)) t) (he : TE (cxs Δ1 Γ0 b) Δ) (ch : CHo f t []) (hz : B12z Δ.isEmpty (mch t) (tch B) (tch C) (tch b - tch (tAll B C)) (cch Γ0) (cch Δ1) = true) (m3 : 3 ≤ mch t) (h20 : 20 ≤ cch (cxs Δ1 Γ0 b)) (h47 : cch (cxs Δ1 Γ0 b) ≤ 47) (q38 : cch Δ1 ≤ 38) (hb : cch (cxs Δ1 Γ0 b) + dch Δ + 2 * mch t ≤ 58) : NtV (cxs Δ1 Γ0 b) Δ f t 887 597 := by sorry
end PmJa
def AzR (f : Nat) (t : Ty) (Γ : List Ty) (Δ : List (Nat × Ty × Nat)) : Prop := ∃ (Δ1 Γ0 : List Ty) (b b' B C : Ty), Γ = cxs Δ1 Γ0 b ∧ LBd Γ0 Δ1 b b' B C ∧ CHo (pee f t).1 (pee f t).2 [] ∧ B12z Δ.isEmpty (mch (pee f t).2) (tch B) (tch C) (tch b - tch (tAll B C)) (cch Γ0) (cch Δ1) = true ∧ 3 ≤ mch (pee f t).2 ∧ cch Δ1 ≤ 38 ∧ cch Γ + dch Δ + 2 * mch (pee f t).2 ≤ 58
theorem AzR.v {f : Nat} {t : Ty} {Γ : List Ty} {Δ : List (Nat × Ty × Nat)} (w : TWf f Γ.length (Δ.map (fun a => a.1)) t) (he : TE Γ Δ) (h20 : 20 ≤ cch Γ) (h47 : cch Γ ≤ 47) (h : AzR f t Γ Δ) : NtV Γ Δ f t 887 597 := by sorry
def RESTz9 : Prop := ∀ (f : Nat) (x y : Ty) (Γ : List Ty) (Δ : List (Nat × Ty × Nat)), TWf f Γ.length (Δ.map (fun a => a.1)) x → TWf f Γ.length (Δ.map (fun a => a.1)) y → TE Γ Δ → NAt f x → NAt f y → noac Γ → (∀ a ∈ Δ, noal a.2.1 = true) → TNo f x → TNo f y → 3 ≤ mch x → 3 ≤ mch y → (mch x ≤ mch y → ¬ NOp f x) → (¬ mch x ≤ mch y → ¬ NOp f y) → 20 ≤ cch Γ → cch Γ ≤ 47 → cch Γ + dch Δ + (2 + (mch x + mch y)) ≤ 60 → NoO f x y Γ Δ → ¬ AzT f x Γ Δ → ¬ AzT f y Γ Δ → ¬ AzB f x Γ Δ → ¬ AzB f y Γ Δ → ¬ AzC f x Γ Δ → ¬ AzC f y Γ Δ → ¬ AzI f x Γ Δ → ¬ AzI f y Γ Δ → ¬ AzF f x Γ Δ → ¬ AzF f y Γ Δ → ¬ AzG f x Γ Δ → ¬ AzG f y Γ Δ → ¬ AzH f x Γ Δ → ¬ AzH f y Γ Δ → ¬ PrS f x y Γ Δ → ¬ AzK f x Γ Δ → ¬ AzK f y Γ Δ → ¬ AzL f x Γ Δ → ¬ AzL f y Γ Δ → ¬ AzM f x Γ Δ → ¬ AzM f y Γ Δ → ¬ PrG f x y Γ Δ → ¬ AzN f x Γ Δ → ¬ AzN f y Γ Δ → ¬ One9 Γ → ¬ AzO f x Γ Δ → ¬ AzO f y Γ Δ → ¬ AzP f x Γ Δ → ¬ AzP f y Γ Δ → ¬ AzQ f x Γ Δ → ¬ AzQ f y Γ Δ → ¬ AzR f x Γ Δ → ¬ AzR f y Γ Δ → (¬ ((mch x ≤ mch y → CHo f x []) ∧ (¬ mch x ≤ mch y → CHo f y [])) ∨ LeftJ f x y Γ Δ) → PRn f x y Γ Δ
theorem resty9_of (R : RESTz9) : RESTy9 := by sorry
theorem pairn_oz (R : RESTz9) : PAIRn := by sorry
end
section
-- from 99z90
theorem chkB_pre : ∀ (a σ : List Bool), chkB (a ++ σ) = true → chkB a = true := by sorry
theorem CHo_pre : ∀ (f : Nat) (t : Ty) (a σ : List Bool), CHo f t (a ++ σ) → CHo f t a := by sorry
theorem pee_cho : ∀ (f : Nat) (t : Ty) (σ : List Bool), CHo f t σ → CHo (pee f t).1 (pee f t).2 [] := by sorry
theorem ntv_nop {f : Nat} {t : Ty} {Γ : List Ty} {Δ : List (Nat × Ty × Nat)} (w : TWf f Γ.length (Δ.map (fun a => a.1)) t) (he : TE Γ Δ) (hn : NOp f t) (hb : cch Γ + dch Δ + 2 * mch t ≤ 58) : NtV Γ Δ f t 887 597 := by sorry
theorem pee_small {f : Nat} {t : Ty} {Γ : List Ty} {Δ : List (Nat × Ty × Nat)} (w : TWf f Γ.length (Δ.map (fun a => a.1)) t) (he : TE Γ Δ) (h3 : mch (pee f t).2 < 3) (hb : cch Γ + dch Δ + 2 * mch (pee f t).2 ≤ 58) : NtV Γ Δ f t 887 597 := by sorry
def cvo (fl : Bool) (m be k ov : Nat) : Bool := (!fl && Nat.ble ov 7) || (az false m (8 + be + k + ov) || (B1z false m (4 + be + k + ov) 0 0 || (B12z false m be k ov 0 0 || (B6z false m be k ov 0 0 || (fl && (Nat.ble be 16 && (B10z m be k ov 0 0 || (Nat.ble m 5 && (Nat.beq be 1 && (Nat.beq k 31 && Nat.beq ov 3))))))))))
def cva (fl : Bool) (m c : Nat) : Bool := (List.range (c - 8)).all (fun be => Nat.blt be 1 || (List.range (c - 8)).all (fun ov => Nat.blt ov 3 || (Nat.ble (c - 8) (be + ov) || cvo fl m be (c - 8 - be - ov) ov)))
def cvr (fl : Bool) (m a b : Nat) : Bool := (List.range b).all (fun c => Nat.blt c a || cva fl m c)
theorem cv5_t_20 : cva true 5 20 = true := by sorry
theorem cv5_t_21 : cva true 5 21 = true := by sorry
theorem cv5_t_22 : cva true 5 22 = true := by sorry
theorem cv5_t_23 : cva true 5 23 = true := by sorry
theorem cv5_t_24 : cva true 5 24 = true := by sorry
theorem cv5_t_25 : cva true 5 25 = true := by sorry
theorem cv5_t_26 : cva true 5 26 = true := by sorry
theorem cv5_t_27 : cva true 5 27 = true := by sorry
theorem cv5_t_28 : cva true 5 28 = true := by sorry
theorem cv5_t_29 : cva true 5 29 = true := by sorry
theorem cv5_t_30 : cva true 5 30 = true := by sorry
theorem cv5_t_31 : cva true 5 31 = true := by sorry
theorem cv5_t_32 : cva true 5 32 = true := by sorry
theorem cv5_t_33 : cva true 5 33 = true := by sorry
theorem cv5_t_34 : cva true 5 34 = true := by sorry
theorem cv5_t_35 : cva true 5 35 = true := by sorry
theorem cv5_t_36 : cva true 5 36 = true := by sorry
theorem cv5_t_37 : cva true 5 37 = true := by sorry
theorem cv5_t_38 : cva true 5 38 = true := by sorry
theorem cv5_t_39 : cva true 5 39 = true := by sorry
theorem cv5_t_40 : cva true 5 40 = true := by sorry
theorem cv5_t_41 : cva true 5 41 = true := by sorry
theorem cv5_t_42 : cva true 5 42 = true := by sorry
theorem cv5_t_43 : cva true 5 43 = true := by sorry
theorem cv5_t_44 : cva true 5 44 = true := by sorry
theorem cv5_t_45 : cva true 5 45 = true := by sorry
theorem cv5_t_46 : cva true 5 46 = true := by sorry
theorem cv5_t_47 : cva true 5 47 = true := by sorry
theorem cv5_f_20 : cva false 5 20 = true := by sorry
theorem cv5_f_21 : cva false 5 21 = true := by sorry
theorem cv5_f_22 : cva false 5 22 = true := by sorry
theorem cv5_f_23 : cva false 5 23 = true := by sorry
theorem cv5_f_24 : cva false 5 24 = true := by sorry
theorem cv5_f_25 : cva false 5 25 = true := by sorry
theorem cv5_f_26 : cva false 5 26 = true := by sorry
theorem cv5_f_27 : cva false 5 27 = true := by sorry
theorem cv5_f_28 : cva false 5 28 = true := by sorry
theorem cv5_f_29 : cva false 5 29 = true := by sorry
theorem cv5_f_30 : cva false 5 30 = true := by sorry
theorem cv5_f_31 : cva false 5 31 = true := by sorry
theorem cv5_f_32 : cva false 5 32 = true := by sorry
theorem cv5_f_33 : cva false 5 33 = true := by sorry
theorem cv5_f_34 : cva false 5 34 = true := by sorry
theorem cv5_f_35 : cva false 5 35 = true := by sorry
theorem cv5_f_36 : cva false 5 36 = true := by sorry
theorem cv5_f_37 : cva false 5 37 = true := by sorry
theorem cv5_f_38 : cva false 5 38 = true := by sorry
theorem cv5_f_39 : cva false 5 39 = true := by sorry
theorem cv5_f_40 : cva false 5 40 = true := by sorry
theorem cv5_f_41 : cva false 5 41 = true := by sorry
theorem cv5_f_42 : cva false 5 42 = true := by sorry
theorem cv5_f_43 : cva false 5 43 = true := by sorry
theorem cv5_f_44 : cva false 5 44 = true := by sorry
theorem cv5_f_45 : cva false 5 45 = true := by sorry
theorem cv5_f_46 : cva false 5 46 = true := by sorry
theorem cv5_f_47 : cva false 5 47 = true := by sorry
theorem cv6_t_20 : cva true 6 20 = true := by sorry
theorem cv6_t_21 : cva true 6 21 = true := by sorry
theorem cv6_t_22 : cva true 6 22 = true := by sorry
theorem cv6_t_23 : cva true 6 23 = true := by sorry
theorem cv6_t_24 : cva true 6 24 = true := by sorry
theorem cv6_t_25 : cva true 6 25 = true := by sorry
theorem cv6_t_26 : cva true 6 26 = true := by sorry
theorem cv6_t_27 : cva true 6 27 = true := by sorry
theorem cv6_t_28 : cva true 6 28 = true := by sorry
theorem cv6_t_29 : cva true 6 29 = true := by sorry
theorem cv6_t_30 : cva true 6 30 = true := by sorry
theorem cv6_t_31 : cva true 6 31 = true := by sorry
theorem cv6_t_32 : cva true 6 32 = true := by sorry
theorem cv6_t_33 : cva true 6 33 = true := by sorry
theorem cv6_t_34 : cva true 6 34 = true := by sorry
theorem cv6_t_35 : cva true 6 35 = true := by sorry
theorem cv6_t_36 : cva true 6 36 = true := by sorry
theorem cv6_t_37 : cva true 6 37 = true := by sorry
theorem cv6_t_38 : cva true 6 38 = true := by sorry
theorem cv6_t_39 : cva true 6 39 = true := by sorry
theorem cv6_t_40 : cva true 6 40 = true := by sorry
theorem cv6_t_41 : cva true 6 41 = true := by sorry
theorem cv6_f_20 : cva false 6 20 = true := by sorry
theorem cv6_f_21 : cva false 6 21 = true := by sorry
theorem cv6_f_22 : cva false 6 22 = true := by sorry
theorem cv6_f_23 : cva false 6 23 = true := by sorry
theorem cv6_f_24 : cva false 6 24 = true := by sorry
theorem cv6_f_25 : cva false 6 25 = true := by sorry
theorem cv6_f_26 : cva false 6 26 = true := by sorry
theorem cv6_f_27 : cva false 6 27 = true := by sorry
theorem cv6_f_28 : cva false 6 28 = true := by sorry
theorem cv6_f_29 : cva false 6 29 = true := by sorry
theorem cv6_f_30 : cva false 6 30 = true := by sorry
theorem cv6_f_31 : cva false 6 31 = true := by sorry
theorem cv6_f_32 : cva false 6 32 = true := by sorry
theorem cv6_f_33 : cva false 6 33 = true := by sorry
theorem cv6_f_34 : cva false 6 34 = true := by sorry
theorem cv6_f_35 : cva false 6 35 = true := by sorry
theorem cv6_f_36 : cva false 6 36 = true := by sorry
theorem cv6_f_37 : cva false 6 37 = true := by sorry
theorem cv6_f_38 : cva false 6 38 = true := by sorry
theorem cv6_f_39 : cva false 6 39 = true := by sorry
theorem cv6_f_40 : cva false 6 40 = true := by sorry
theorem cv6_f_41 : cva false 6 41 = true := by sorry
theorem cv10_t_20 : cva true 10 20 = true := by sorry
theorem cv10_t_21 : cva true 10 21 = true := by sorry
theorem cv10_t_22 : cva true 10 22 = true := by sorry
theorem cv10_t_23 : cva true 10 23 = true := by sorry
theorem cv10_t_24 : cva true 10 24 = true := by sorry
theorem cv10_t_25 : cva true 10 25 = true := by sorry
theorem cv10_t_26 : cva true 10 26 = true := by sorry
theorem cv10_t_27 : cva true 10 27 = true := by sorry
theorem cv10_t_28 : cva true 10 28 = true := by sorry
theorem cv10_t_29 : cva true 10 29 = true := by sorry
theorem cv10_t_30 : cva true 10 30 = true := by sorry
theorem cv10_t_31 : cva true 10 31 = true := by sorry
theorem cv10_t_32 : cva true 10 32 = true := by sorry
theorem cv10_t_33 : cva true 10 33 = true := by sorry
theorem cv10_f_20 : cva false 10 20 = true := by sorry
theorem cv10_f_21 : cva false 10 21 = true := by sorry
theorem cv10_f_22 : cva false 10 22 = true := by sorry
theorem cv10_f_23 : cva false 10 23 = true := by sorry
theorem cv10_f_24 : cva false 10 24 = true := by sorry
theorem cv10_f_25 : cva false 10 25 = true := by sorry
theorem cv10_f_26 : cva false 10 26 = true := by sorry
theorem cv10_f_27 : cva false 10 27 = true := by sorry
theorem cv10_f_28 : cva false 10 28 = true := by sorry
theorem cv10_f_29 : cva false 10 29 = true := by sorry
theorem cv10_f_30 : cva false 10 30 = true := by sorry
theorem cv10_f_31 : cva false 10 31 = true := by sorry
theorem cv10_f_32 : cva false 10 32 = true := by sorry
theorem cv10_f_33 : cva false 10 33 = true := by sorry
theorem cv13_t_20 : cva true 13 20 = true := by sorry
theorem cv13_t_21 : cva true 13 21 = true := by sorry
theorem cv13_t_22 : cva true 13 22 = true := by sorry
theorem cv13_t_23 : cva true 13 23 = true := by sorry
theorem cv13_t_24 : cva true 13 24 = true := by sorry
theorem cv13_t_25 : cva true 13 25 = true := by sorry
theorem cv13_t_26 : cva true 13 26 = true := by sorry
theorem cv13_t_27 : cva true 13 27 = true := by sorry
theorem cv13_f_20 : cva false 13 20 = true := by sorry
theorem cv13_f_21 : cva false 13 21 = true := by sorry
theorem cv13_f_22 : cva false 13 22 = true := by sorry
theorem cv13_f_23 : cva false 13 23 = true := by sorry
theorem cv13_f_24 : cva false 13 24 = true := by sorry
theorem cv13_f_25 : cva false 13 25 = true := by sorry
theorem cv13_f_26 : cva false 13 26 = true := by sorry
theorem cv13_f_27 : cva false 13 27 = true := by sorry
end
