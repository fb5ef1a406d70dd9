section
-- from 99w02
def E2 (X7 : Nat) (eb e2 : Nat → Nat) (π : Stk) : Nat := if hs π = true then max X7 (if cnS π ≤ 1 then eb (zm π) else max (eb (zm π)) (e2 (zm π))) else X7
def hd2 (X7 : Nat) (eb e2 : Nat → Nat) (Z : Nat → Nat) (s : Nat) : Nat := if s < 5 then max X7 (eb (Z s)) else max (max X7 (eb (Z s))) (e2 (Z (s - 2)))
section PmWb
variable {t0 s2 X7 : Nat} {n1 h eb e2 : Nat → Nat} {Z : Nat → Nat}
theorem E2_0 (ρ : Stk) : X7 ≤ E2 X7 eb e2 ρ := by sorry
theorem E2_n (ρ : Stk) (e : hs ρ = false) : E2 X7 eb e2 ρ ≤ X7 := by sorry
theorem E2_e (ρ : Stk) (e : hs ρ = true) : eb (zm ρ) ≤ E2 X7 eb e2 ρ := by sorry
theorem E2_p (ρ : Stk) (e : hs ρ = true) (c : ¬ cnS ρ ≤ 1) : e2 (zm ρ) ≤ E2 X7 eb e2 ρ := by sorry
theorem E2_m (he : ∀ z z', z ≤ z' → eb z ≤ eb z') (he2 : ∀ z z', z ≤ z' → e2 z ≤ e2 z') (q : Option Nat) (ρ : Stk) : E2 X7 eb e2 ρ ≤ E2 X7 eb e2 (q :: ρ) := by sorry
theorem E2_1 (he : ∀ z z', z ≤ z' → eb z ≤ eb z') (he2 : ∀ z z', z ≤ z' → e2 z ≤ e2 z') (hZ : ∀ s s', s ≤ s' → Z s ≤ Z s') (ρ : Stk) (s : Nat) (e : hs ρ = true) (c : 2 * cnS ρ ≤ s) (hz : zm ρ ≤ Z (s + 3 - 2 * cnS ρ)) : E2 X7 eb e2 ρ ≤ hd2 X7 eb e2 Z (s + 1) := by sorry
theorem hd2_0 (s : Nat) : X7 ≤ hd2 X7 eb e2 Z s := by sorry
theorem vz_l2 (he : ∀ z z', z ≤ z' → eb z ≤ eb z') (he2 : ∀ z z', z ≤ z' → e2 z ≤ e2 z') (hm : ∀ y y', y ≤ y' → h y ≤ h y') (hh : ∀ y δ, h (y + δ) ≤ h y + δ) {t : Ty} {ω : List Nat} (o : ok ω.length t = true) (hv : nz t0 n1 s2 h ω t ≤ X7) (hl : nsch t = true ∨ ∀ z, nz t0 n1 s2 h ω t + flv t * z ≤ eb z) (ρ : Stk) : vz t0 n1 s2 h (E2 X7 eb e2) t ρ ω ≤ E2 X7 eb e2 ρ := by sorry
def HS2 (t0 : Nat) (n1 : Nat → Nat) (s2 : Nat) (h : Nat → Nat) (eb e2 : Nat → Nat) (ω : List Nat) (b : Ty) : Prop := ∃ B C, b = tAll B C ∧ (∀ z, nz t0 n1 s2 h (hzx h z (nz t0 n1 s2 h ω B) :: ω) C ≤ eb z) ∧ ∀ z, nz t0 n1 s2 (hzx h z) (hzx h z (nz t0 n1 s2 h ω B) :: ω) C ≤ e2 z
theorem vz_s2 (he : ∀ z z', z ≤ z' → eb z ≤ eb z') (he2 : ∀ z z', z ≤ z' → e2 z ≤ e2 z') (hm : ∀ y y', y ≤ y' → h y ≤ h y') {b : Ty} {ω : List Nat} (o : ok ω.length b = true) (hb : HS2 t0 n1 s2 h eb e2 ω b) (ρ : Stk) (hρ : ρ ≠ []) : vz t0 n1 s2 h (E2 X7 eb e2) b ρ ω ≤ E2 X7 eb e2 ρ := by sorry
def BE2 (t0 : Nat) (n1 : Nat → Nat) (s2 : Nat) (h : Nat → Nat) (X7 : Nat) (eb e2 : Nat → Nat) : List Ty → List Nat → Prop
  | [], [] => True
  | b :: Γ, _ :: ω => ((nz t0 n1 s2 h ω b ≤ X7 ∧ (nsch b = true ∨ ∀ z, nz t0 n1 s2 h ω b + flv b * z ≤ eb z)) ∨ HS2 t0 n1 s2 h eb e2 ω b) ∧ BE2 t0 n1 s2 h X7 eb e2 Γ ω
  | _, _ => False
theorem BE2.he (he : ∀ z z', z ≤ z' → eb z ≤ eb z') (he2 : ∀ z z', z ≤ z' → e2 z ≤ e2 z') (hm : ∀ y y', y ≤ y' → h y ≤ h y') (hh : ∀ y δ, h (y + δ) ≤ h y + δ) : ∀ {Γ : List Ty} {ω : List Nat}, okc Γ → ω.length = Γ.length → BE2 t0 n1 s2 h X7 eb e2 Γ ω → HEk t0 n1 s2 h (E2 X7 eb e2) Γ ω := by sorry
end PmWb
section PmWc
variable {N t0 fn s2 hv r0 r1 r2 r3 x0 X7 x m : Nat} {n1 h eb e2 : Nat → Nat} {P Q : List (List Nat)} {F G : FrT} {X : List Nat}
theorem Zx_leh (T : TBs N t0 fn s2 hv r0 r1 r2 r3 x0 n1 h P Q F G X) {ω : List Nat} {A : Ty} {z : Nat} (o : ok ω.length A = true) (hk : tch A ≤ 56) (hy : x0 ≤ x) (hz : z ≤ x) (hw : ∀ j, j < ω.length → vw ω j ≤ x) : nz t0 n1 s2 (hzx h z) ω A ≤ Zx F x (tch A + 2) := by sorry
theorem arg_2 (he : ∀ z z', z ≤ z' → eb z ≤ eb z') (he2 : ∀ z z', z ≤ z' → e2 z ≤ e2 z') (hm : ∀ y y', y ≤ y' → h y ≤ h y') (T : TBs N t0 fn s2 hv r0 r1 r2 r3 x0 n1 h P Q F G X) (hx0 : x0 ≤ x) (m56 : m ≤ 56) (h7 : ∀ s, s + 3 ≤ m → Zx F x s ≤ X7) (hS : ∀ (A : Ty) (ω : List Nat), hd A = 2 → ok ω.length A = true → tch A + 2 ≤ m → (∀ j, j < ω.length → vw ω j ≤ x) → HS2 t0 n1 s2 h eb e2 ω A) : ∀ (f : Nat) (A : Ty) (ω : List Nat), (flat A).length ≤ f → ok ω.length A = true → tch A + 2 ≤ m → (∀ j, j < ω.length → vw ω j ≤ x) → ∀ ρ, ρ ≠ [] → vz t0 n1 s2 h (E2 X7 eb e2) A ρ ω ≤ E2 X7 eb e2 ρ := by sorry
theorem gen_BG2 {Z : Nat → Nat} (he' : ∀ z z', z ≤ z' → eb z ≤ eb z') (he2 : ∀ z z', z ≤ z' → e2 z ≤ e2 z') (hZ : ∀ s s', s ≤ s' → Z s ≤ Z s') (hm : ∀ y y', y ≤ y' → h y ≤ h y') (hh : ∀ y δ, h (y + δ) ≤ h y + δ) (T : TBs N t0 fn s2 hv r0 r1 r2 r3 x0 n1 h P Q F G X) (hx : PXk N P F X fn s2 r1 = true) (h21 : r2 ≤ r1) (h32 : r3 ≤ r2) {f : Nat} {t S : Ty} {Γ : List Ty} {ω : List Nat} {Δ : List (Nat × Ty × Nat)} {cv cd : Nat} (w : TWf f Γ.length (Δ.map (fun a => a.1)) t) (he : TE Γ Δ) (co : COk f t 0) (hS : tyF f t Γ Δ = .inr S) (hdc : dch Δ ≤ cd) (hcd : 2 ≤ cd) (hbb : cv + cd + 2 * mch t ≤ N) (l1 : ω.length = Γ.length) (aq : AQh t0 n1 s2 h (E2 X7 eb e2) Z f t [] ω) (go : GOk t0 n1 s2 h (E2 X7 eb e2) f t [] ω Γ Δ) (hw : ∀ j, j < ω.length → vw ω j ≤ X.getD cv 0) (hB : BE2 t0 n1 s2 h X7 eb e2 Γ ω) : BGh P (hd2 X7 eb e2 Z) (bqk f t 0) (cv + cd) (mch t) (nz t0 n1 s2 h ω S) := by sorry
end PmWc

end
section
-- from 99w03
def hasb : Nat → Ty → Bool
  | 0, _ => false
  | f + 1, t => if nKd t = 5 then false else if nKd t = 6 then hasb f (nY t) else if nKd t = 7 ∨ nKd t = 11 then hasb f (nX t) else if nKd t = 8 then true else if nKd t = 9 then hasb f (nX t) else if nKd t = 10 then (hasb f (nX t) || (hasb f (nY t) || hasb f (nZ t))) else (hasb f (nX t) || hasb f (nY t))
def g3k : Nat → Ty → Nat
  | 0, _ => 0
  | f + 1, t => if nKd t = 5 then 0 else if nKd t = 6 then g3k f (nY t) else if nKd t = 7 ∨ nKd t = 11 then g3k f (nX t) else if nKd t = 8 then (if hasq f (nY t) = true then tch (nX t) + 4 + g3k f (nY t) else 0) else if nKd t = 9 then (if hasb f (nX t) = true then (if tch (nY t) = 1 then 0 else tch (nY t) + 4) + g3k f (nX t) else 0) else if nKd t = 10 then max (g3k f (nX t)) (max (g3k f (nY t)) (g3k f (nZ t))) else max (g3k f (nX t)) (g3k f (nY t))
theorem g3k_0 : ∀ (f : Nat) (t : Ty), hasb f t = false → g3k f t = 0 := by sorry
section PmWd
variable {N t0 fn s2 hv r0 r1 r2 r3 x0 y : Nat} {n1 h : Nat → Nat} {E : Stk → Nat} {P Q : List (List Nat)} {F G W : FrT} {X : List Nat} {Z : Nat → Nat}
theorem AH_x (ht0 : t0 ≤ x0) (hn : NC t0 n1 s2 h) (hm : ∀ y y', y ≤ y' → h y ≤ h y') (T : TBs N t0 fn s2 hv r0 r1 r2 r3 x0 n1 h P Q F G X) (hgr : fgc F W hv = true) (hy : x0 ≤ y) {g yg m0 : Nat} (g38 : g ≤ 38) (hyg : ∀ r, r ≤ g → ∀ e ∈ frg W r, e.2 + e.1 * y ≤ yg) (hA : ∀ (A : Ty) (ω : List Nat), ok ω.length A = true → tch A + 2 ≤ m0 → (∀ j, j < ω.length → vw ω j ≤ yg) → (∀ ρ, ρ ≠ [] → vz t0 n1 s2 h E A ρ ω ≤ E ρ) ∧ nz t0 n1 s2 h ω A ≤ Z (tch A + 2)) : ∀ (f : Nat) (t : Ty) (π : Stk) (ω : List Nat) (Γ : List Ty) (sc : List Nat) (r : Nat) (e : Nat × Nat), TWf f Γ.length sc t → ω.length = Γ.length → e ∈ frg W r → 1 ≤ e.1 → (∀ j, j < ω.length → vw ω j ≤ e.2 + e.1 * y) → (hasb f t = true → zm π ≤ e.2 + e.1 * y) → (hasq f t = true → r + g3k f t ≤ g) → mch t ≤ m0 → AQh t0 n1 s2 h E Z f t π ω := by sorry
end PmWd

end
section
-- from 99w04
theorem mem_sum : ∀ (l : List Nat) (x : Nat), x ∈ l → x ≤ l.sum := by sorry
theorem BGh.hdc {P : List (List Nat)} {hd hd' : Nat → Nat} {b c m v : Nat} (h : ∀ s, s ≤ m → hd s = hd' s) (g : BGh P hd b c m v) : BGh P hd' b c m v := by sorry
theorem g3k_nil : ∀ f : Nat, g3k f (.nil : Ty) = 0 := by sorry
theorem onz_low {t0 s2 : Nat} {n1 h : Nat → Nat} {Γ0 : List Ty} {β : Ty} : ∀ (Δ1 : List Ty) {j : Nat}, j < Γ0.length → vw (onz t0 n1 s2 h (cxs Δ1 Γ0 β)) j = vw (onz t0 n1 s2 h Γ0) j := by sorry
theorem g3k_z : ∀ (f : Nat) (t : Ty) (D : Nat) (sc : List Nat), TWf f D sc t → g3k f t = 0 ∨ 5 ≤ g3k f t := by sorry
def ebz (F : FrT) (hv y yg m E0 p wB ob z : Nat) : Nat := max (max (E0 + p * max z wB) (y + ob * z)) (Zx F (max (max z yg) (hv + max 1 (Zx F yg (m - 5)))) (m - 5))
def e2z (F : FrT) (hv y yg m k z : Nat) : Nat := max (Zx F (max z y) (k + 2)) (Zx F (max (max z yg) (hv + max 1 (Zx F yg (m - 5)))) (m - 5))
theorem ebz_mono {F : FrT} {hv y yg m E0 p wB ob : Nat} (z z' : Nat) (h : z ≤ z') : ebz F hv y yg m E0 p wB ob z ≤ ebz F hv y yg m E0 p wB ob z' := by sorry
theorem e2z_mono {F : FrT} {hv y yg m k : Nat} (z z' : Nat) (h : z ≤ z') : e2z F hv y yg m k z ≤ e2z F hv y yg m k z' := by sorry
def smZ1 (P : List (List Nat)) (F W : FrT) (X : List Nat) (hv E0 p wB ob k y cv cd m Bd : Nat) : Bool := Nat.ble y (X.getD cv 0) && (Nat.ble wB y && (Nat.ble (cv + cd + 2 * m) 58 && (List.range (if Nat.ble m 11 then m - 2 else 1)).all (fun g => (Nat.blt 0 g && Nat.blt g 5) || natL P (hd2 (max y (Zx F (Zx W y (g + 2)) (m - 3))) (ebz F hv y (Zx W y (g + 2)) m E0 p wB ob) (e2z F hv y (Zx W y (g + 2)) m k) (Zx F (Zx W y (g + 2)))) (cv + cd) m Bd)))
section PmWe
variable {t0 s2 X7 y : Nat} {n1 h eb e2 : Nat → Nat} {B C β' : Ty} {Γ0 : List Ty}
theorem BE2_onz (hn : NC t0 n1 s2 h) (h7 : y ≤ X7) : ∀ {Γ : List Ty}, (∀ j, j < Γ.length → vw (onz t0 n1 s2 h Γ) j ≤ y) → (∀ b ∈ Γ, nsch b = true ∨ ∀ z, y + flv b * z ≤ eb z) → BE2 t0 n1 s2 h X7 eb e2 Γ (onz t0 n1 s2 h Γ) := by sorry
theorem BE2_cx (hn : NC t0 n1 s2 h) (h7 : y ≤ X7) (hA : HS2 t0 n1 s2 h eb e2 (onz t0 n1 s2 h Γ0) (tAll B C)) (hp0 : ∀ b ∈ Γ0, nsch b = true ∨ ∀ z, y + flv b * z ≤ eb z) : ∀ (Δ1 : List Ty), (∀ j, j < (cxs Δ1 Γ0 β').length → vw (onz t0 n1 s2 h (cxs Δ1 Γ0 β')) j ≤ y) → (∀ b ∈ Δ1, nsch b = true ∨ ∀ z, y + flv b * z ≤ eb z) → BE2 t0 n1 s2 h X7 eb e2 (cxs Δ1 Γ0 (tAll B C)) (onz t0 n1 s2 h (cxs Δ1 Γ0 β')) := by sorry
end PmWe
section PmWf
variable {t0 fn s2 hv r0 r1 r2 r3 x0 : Nat} {n1 h : Nat → Nat} {P Q : List (List Nat)} {F G W : FrT} {X : List Nat} {B C β' : Ty} {Γ0 : List Ty}
theorem gen_fin4 (hn : NC t0 n1 s2 h) (hm : ∀ y y', y ≤ y' → h y ≤ h y') (hh : ∀ y δ, h (y + δ) ≤ h y + δ) (T : TBs 58 t0 fn s2 hv r0 r1 r2 r3 x0 n1 h P Q F G X) (hx : PXk 58 P F X fn s2 r1 = true) (hFm : frm F = true) (hgr : fgc F W hv = true) (hW : (1, 0) ∈ frg W 0) (hWm : fgm W = true) (h21 : r2 ≤ r1) (h32 : r3 ≤ r2) (H1 : ∀ y, h y ≤ hv + max 1 y) {f : Nat} {t S : Ty} {Δ1 : List Ty} {Δ : List (Nat × Ty × Nat)} {ob cd wB Bd y E0 p cv k : Nat} (w : TWf f (cxs Δ1 Γ0 (tAll B C)).length (Δ.map (fun a => a.1)) t) (he : TE (cxs Δ1 Γ0 (tAll B C)) Δ) (co : COk f t 0) (hg : hasq f t = true → g3k f t + 3 ≤ mch t ∧ (mch t ≤ 11 ∨ g3k f t = 0)) (hm3 : 3 ≤ mch t) (hm17 : mch t ≤ 17) (hb0 : ∀ b ∈ Γ0, nsch b = true ∨ flv b ≤ ob) (hb1 : ∀ b ∈ Δ1, nsch b = true ∨ flv b ≤ ob) (hdc : dch Δ ≤ cd) (hcd : 2 ≤ cd) (y01 : x0 ≤ y) (hw : ∀ j, j < (cxs Δ1 Γ0 β').length → vw (onz t0 n1 s2 h (cxs Δ1 Γ0 β')) j ≤ y) (go : ∀ E Z, AQh t0 n1 s2 h E Z f t [] (onz t0 n1 s2 h (cxs Δ1 Γ0 β')) → GOk t0 n1 s2 h E f t [] (onz t0 n1 s2 h (cxs Δ1 Γ0 β')) (cxs Δ1 Γ0 (tAll B C)) Δ) (vZ : ∀ z, nz t0 n1 s2 h (hzx h z (nz t0 n1 s2 h (onz t0 n1 s2 h Γ0) B) :: onz t0 n1 s2 h Γ0) C ≤ E0 + p * max z wB) (hwB : h (nz t0 n1 s2 h (onz t0 n1 s2 h Γ0) B) ≤ wB) (hk : tch C ≤ k) (hk2 : k ≤ 50) (R1 : smZ1 P F W X hv E0 p wB ob k y cv cd (mch t) Bd = true) (hS : tyF f t (cxs Δ1 Γ0 (tAll B C)) Δ = .inr S) : nz t0 n1 s2 h (onz t0 n1 s2 h (cxs Δ1 Γ0 β')) S ≤ Bd := by sorry
end PmWf

end
section
-- from 99w05
abbrev LnT : Type := List (List (Nat × Nat × Nat × Nat × Nat × Nat))
def lng (L : LnT) (c : Nat) : List (Nat × Nat × Nat × Nat × Nat × Nat) := L.getD c []
def lnz (L : LnT) (XR W : FrT) (X : List Nat) (hv s2 wB k q1 q2 ob : Nat) : Bool := (frg XR k).all (fun v => (List.range (v.1 + 1)).all (fun p => (frg W q2).all (fun e => (lng L (9 + k + q1 + q2)).any (fun s => Nat.ble (e.2 + e.1 * max (max 1 (X.getD q1 0)) (hv + (s2 + (v.2 + (v.1 - p) * max 1 (X.getD q1 0) + p * wB)))) s.1 && (Nat.ble (v.2 + (v.1 - p) * max 1 (X.getD q1 0)) s.2.2.1 && (Nat.ble p s.2.2.2.1 && (Nat.ble ob s.2.2.2.2.1 && Nat.ble k s.2.2.2.2.2)))))))
def q5 (q : Nat) : Bool := Nat.beq q 0 || Nat.ble 5 q
def nxk (l : List (List (Nat × Nat))) (k q1 q2 : Nat) : Bool := !((l.getD k []).any (fun s => Nat.beq s.1 q1 && Nat.beq s.2 q2))
def nx0 : List (List (Nat × Nat)) := [[], [], [], [], [], [], [], [], [], [], [], [], [], [], [], [], [], [], [(0, 9), (0, 10), (0, 11), (0, 12), (0, 13), (0, 18), (0, 19), (0, 20)], [(0, 9), (0, 10), (0, 11), (0, 18), (0, 19)], [(0, 9), (0, 10), (0, 18)], [(0, 9), (0, 13), (0, 17)], [(0, 0), (0, 5), (0, 6), (0, 7), (0, 8), (0, 9), (0, 10), (0, 11), (0, 12), (0, 13), (0, 14), (0, 15), (0, 16), (5, 0), (5, 9), (5, 10), (5, 11), (6, 0), (6, 9), (6, 10), (7, 0), (7, 9), (8, 0), (11, 0), (12, 0)], [(0, 0), (0, 5), (0, 6), (0, 7), (0, 9), (0, 10), (0, 11), (0, 12), (0, 13), (0, 14), (0, 15), (5, 0), (5, 9), (5, 10), (6, 0), (6, 9), (7, 0), (11, 0)], [(0, 0), (0, 5), (0, 6), (0, 9), (0, 10), (0, 11), (0, 12), (0, 13), (0, 14), (5, 0), (5, 9), (6, 0)], [(0, 0), (0, 5), (0, 9), (0, 10), (0, 11), (0, 12), (0, 13), (5, 0)], [(0, 0), (0, 5), (0, 6), (0, 7), (0, 8), (0, 9), (0, 10), (0, 11), (0, 12), (6, 0), (7, 0), (8, 0)], [(0, 0), (0, 5), (0, 6), (0, 7), (0, 8), (0, 9), (0, 10), (0, 11), (5, 0), (5, 5), (5, 6), (6, 0), (6, 5), (7, 0), (8, 0), (9, 0), (10, 0), (11, 0)], [(0, 0), (0, 5), (0, 6), (0, 7), (0, 8), (0, 9), (0, 10), (5, 0), (5, 5), (6, 0), (7, 0), (8, 0), (9, 0), (10, 0)], [(0, 0), (0, 5), (0, 6), (0, 7), (0, 8), (0, 9), (5, 0), (6, 0), (7, 0), (8, 0), (9, 0)], [(0, 0), (0, 5), (0, 6), (0, 7), (0, 8), (5, 0), (6, 0), (7, 0), (8, 0)], [(0, 0), (0, 5), (0, 6), (0, 7), (5, 0), (6, 0), (7, 0)], [(0, 0), (0, 5), (0, 6), (5, 0), (6, 0)], [(0, 0), (0, 5), (5, 0)], [(0, 0)], [(0, 0)], [(0, 0)], [(0, 0)], [(0, 0)]]
def nx1 : List (List (Nat × Nat)) := [[], [], [], [], [], [], [], [], [(0, 26), (0, 30)], [], [(0, 17), (0, 18), (0, 22), (0, 26), (0, 27), (0, 28)], [(0, 17), (0, 26), (0, 27)], [(0, 22), (0, 26)], [(0, 22), (0, 23), (0, 24), (0, 25), (23, 0), (24, 0), (25, 0)], [(0, 22), (0, 23), (0, 24), (22, 0), (23, 0), (24, 0)], [(0, 22), (0, 23), (22, 0), (23, 0)], [(0, 22), (22, 0)], [(0, 21)], [(0, 9), (0, 10), (0, 11), (0, 12), (0, 13), (0, 18), (0, 19), (0, 20)], [(0, 9), (0, 10), (0, 11), (0, 18), (0, 19)], [(0, 9), (0, 10), (0, 18)], [(0, 9), (0, 13), (0, 17)], [(0, 0), (0, 5), (0, 6), (0, 7), (0, 8), (0, 9), (0, 10), (0, 11), (0, 12), (0, 13), (0, 14), (0, 15), (0, 16), (5, 0), (5, 9), (5, 10), (5, 11), (6, 0), (6, 9), (6, 10), (7, 0), (7, 9), (8, 0), (11, 0), (12, 0)], [(0, 0), (0, 5), (0, 6), (0, 7), (0, 9), (0, 10), (0, 11), (0, 12), (0, 13), (0, 14), (0, 15), (5, 0), (5, 9), (5, 10), (6, 0), (6, 9), (7, 0), (11, 0)], [(0, 0), (0, 5), (0, 6), (0, 9), (0, 10), (0, 11), (0, 12), (0, 13), (0, 14), (5, 0), (5, 9), (6, 0)], [(0, 0), (0, 5), (0, 9), (0, 10), (0, 11), (0, 12), (0, 13), (5, 0)], [(0, 0), (0, 5), (0, 6), (0, 7), (0, 8), (0, 9), (0, 10), (0, 11), (0, 12), (6, 0), (7, 0), (8, 0)], [(0, 0), (0, 5), (0, 6), (0, 7), (0, 8), (0, 9), (0, 10), (0, 11), (5, 0), (5, 5), (5, 6), (6, 0), (6, 5), (7, 0), (8, 0), (9, 0), (10, 0), (11, 0)], [(0, 0), (0, 5), (0, 6), (0, 7), (0, 8), (0, 9), (0, 10), (5, 0), (5, 5), (6, 0), (7, 0), (8, 0), (9, 0), (10, 0)], [(0, 0), (0, 5), (0, 6), (0, 7), (0, 8), (0, 9), (5, 0), (6, 0), (7, 0), (8, 0), (9, 0)], [(0, 0), (0, 5), (0, 6), (0, 7), (0, 8), (5, 0), (6, 0), (7, 0), (8, 0)], [(0, 0), (0, 5), (0, 6), (0, 7), (5, 0), (6, 0), (7, 0)], [(0, 0), (0, 5), (0, 6), (5, 0), (6, 0)], [(0, 0), (0, 5), (5, 0)], [(0, 0)], [(0, 0)], [(0, 0)], [(0, 0)], [(0, 0)]]
def znw (o : Bool) (k q1 q2 : Nat) : Bool := Nat.ble k 38 && nxk (if o then nx1 else nx0) k q1 q2
def zow (o : Bool) (k q1 q2 : Nat) : Nat := if o then max (lmx fr1 (min (q1 - 4) (k + 5))) (lmx fr1 (min (q2 - 4) (k + 5))) else 0
def lna (L : LnT) (XR W : FrT) (X : List Nat) (hv s2 wB : Nat) (o : Bool) (a b : Nat) : Bool := (List.range b).all (fun k => Nat.blt k a || (List.range 39).all (fun q1 => !(q5 q1) || (List.range 39).all (fun q2 => !(q5 q2) || (Nat.blt 47 (9 + k + q1 + q2) || (!(znw o k q1 q2) || (Nat.beq k 0 || lnz L XR W X hv s2 wB k q1 q2 (zow o k q1 q2)))))))
end
section
-- from 99w06
theorem cch_q5 : ∀ {Γ : List Ty}, okc Γ → q5 (cch Γ) = true := by sorry
theorem cxs_q5 {Γ0 : List Ty} {β : Ty} : ∀ {Δ1 : List Ty}, okc (cxs Δ1 Γ0 β) → q5 (cch Δ1) = true := by sorry
def smq (f : Nat) (t : Ty) : Prop := COk f t 0 ∧ 3 ≤ mch t ∧ mch t ≤ 15 ∧ (hasq f t = true → g3k f t + 3 ≤ mch t ∧ (mch t ≤ 11 ∨ g3k f t = 0))
def lnkb (L : LnT) : Bool := L.all (fun l => l.all (fun s => Nat.ble s.2.2.2.2.2 50))
theorem lnk {L : LnT} (h : lnkb L = true) {c : Nat} {s : Nat × Nat × Nat × Nat × Nat × Nat} (hs : s ∈ lng L c) : s.2.2.2.2.2 ≤ 50 := by sorry
section PmWg
variable {L : LnT} {XR W : FrT} {X : List Nat} {hv s2 wB k q1 q2 : Nat} {o : Bool}
theorem lna_get {a b : Nat} (h : lna L XR W X hv s2 wB o a b = true) (ka : a ≤ k) (kb : k < b) (hz : znw o k q1 q2 = true) (k1 : 1 ≤ k) (z1 : q5 q1 = true) (z2 : q5 q2 = true) (hc : 9 + k + q1 + q2 ≤ 47) : lnz L XR W X hv s2 wB k q1 q2 (zow o k q1 q2) = true := by sorry
theorem lnz_get {ob p : Nat} {v e : Nat × Nat} (h : lnz L XR W X hv s2 wB k q1 q2 ob = true) (hv' : v ∈ frg XR k) (hp : p ≤ v.1) (he : e ∈ frg W q2) : ∃ s ∈ lng L (9 + k + q1 + q2), e.2 + e.1 * max (max 1 (X.getD q1 0)) (hv + (s2 + (v.2 + (v.1 - p) * max 1 (X.getD q1 0) + p * wB))) ≤ s.1 ∧ v.2 + (v.1 - p) * max 1 (X.getD q1 0) ≤ s.2.2.1 ∧ p ≤ s.2.2.2.1 ∧ ob ≤ s.2.2.2.2.1 ∧ k ≤ s.2.2.2.2.2 := by sorry
end PmWg

end
section
-- from 99w07
theorem fnv_u1 : fnv fn1 20 788 = true := by sorry
theorem fnv_uq : fnv fnq 13 503 = true := by sorry
section PmWi
variable {hb f : Nat} {x y B C : Ty} {Γ Γ0 Δ1 : List Ty} {Δ : List (Nat × Ty × Nat)}
theorem val_u1 (b : Bool) (hc : okc Γ) (h19 : cch Γ ≤ 19) : ∀ j, j < Γ.length → vw (onz 0 (fun _ => 1 + 1) (2 + 1) (vlr b 1) Γ) j ≤ 20 := by sorry
theorem val_uq (hc : okc Γ) (h19 : cch Γ ≤ 19) : ∀ j, j < Γ.length → vw (onz 1 ngc 1 (fun y => y) Γ) j ≤ 13 := by sorry
theorem pair_u1 (x1 : TWf f Γ.length (Δ.map (fun a => a.1)) x) (x2 : TWf f Γ.length (Δ.map (fun a => a.1)) y) (he : TE Γ Δ) (y1 : NAt f x) (y2 : NAt f y) (hv : noac Γ) (hd' : ∀ a ∈ Δ, noal a.2.1 = true) (h19 : cch Γ ≤ 19) : PRn f x y Γ Δ := by sorry
theorem pair_u2 (nC : noh hb C = true) (s : SGc hb B C tTop Γ0 Δ1) (x1 : TWf f (cxs Δ1 Γ0 (tAll B C)).length (Δ.map (fun a => a.1)) x) (x2 : TWf f (cxs Δ1 Γ0 (tAll B C)).length (Δ.map (fun a => a.1)) y) (he : TE (cxs Δ1 Γ0 (tAll B C)) Δ) (y1 : NAt f x) (y2 : NAt f y) (hv : noac (cxs Δ1 Γ0 (tAll B C))) (hd' : ∀ a ∈ Δ, noh hb a.2.1 = true ∧ noal a.2.1 = true) (hb' : cch (cxs Δ1 Γ0 (tAll B C)) ≤ 56) (p1 : NHt hb f x) (p2 : NHt hb f y) (h19 : cch (cxs Δ1 Γ0 (tAll B tTop)) ≤ 19) : PRn f x y (cxs Δ1 Γ0 (tAll B C)) Δ := by sorry
end PmWi

end
section
-- from 99w08
def nxt : List (Nat × Nat × Nat) := [(26, 0, 0), (31, 0, 0), (32, 0, 0), (33, 0, 0), (34, 0, 0)]
def nxa : List (Nat × Nat × Nat) := [(23, 0, 0), (24, 0, 0), (24, 0, 9), (24, 0, 10), (25, 0, 0), (25, 0, 9), (26, 0, 0)]
end
section
-- from 99w10
def jw1 : LnT := [[], [], [], [], [], [], [], [], [], [], [], [], [], [], [], [], [], [], [], [], [], [], [], [], [], [], [], [(7, 11, 23, 6, 0, 18)], [(7, 11, 29, 6, 0, 19)], [(7, 11, 29, 6, 0, 20)], [(7, 11, 29, 6, 0, 21)], [(7, 11, 34, 9, 0, 22)], [(8, 11, 43, 9, 1, 23)], [(10, 14, 45, 7, 1, 24), (7, 11, 29, 9, 0, 24)], [(10, 14, 45, 9, 1, 25)], [(10, 14, 49, 9, 1, 26), (7, 11, 31, 12, 0, 26)], [(17, 18, 46, 7, 2, 22), (8, 11, 58, 11, 1, 27), (7, 11, 43, 12, 0, 27)], [(17, 18, 52, 7, 2, 23), (10, 14, 67, 10, 1, 28), (7, 11, 44, 12, 0, 28)], [(17, 18, 48, 8, 2, 24), (10, 14, 67, 11, 2, 29), (7, 11, 43, 12, 0, 29)], [(19, 19, 64, 7, 2, 25), (10, 14, 67, 12, 1, 30), (7, 11, 40, 16, 0, 30)], [(26, 22, 34, 8, 3, 25), (17, 18, 67, 10, 3, 26), (8, 11, 79, 17, 1, 31), (7, 11, 58, 18, 0, 31)], [(26, 22, 66, 7, 3, 23), (17, 18, 76, 10, 3, 27), (10, 14, 97, 13, 1, 32), (7, 11, 67, 18, 0, 32)], [(26, 22, 49, 8, 3, 24), (17, 18, 100, 9, 3, 28), (10, 14, 97, 16, 1, 33), (7, 11, 59, 18, 0, 33)], [(28, 24, 71, 8, 3, 29), (19, 19, 100, 10, 3, 29), (10, 14, 97, 19, 1, 34), (7, 11, 46, 20, 0, 34)], [(35, 27, 62, 9, 4, 26), (17, 18, 100, 16, 4, 30), (7, 11, 112, 27, 0, 35)], [(40, 27, 60, 8, 4, 25), (26, 22, 124, 9, 4, 27), (17, 18, 92, 17, 2, 31), (8, 11, 139, 27, 1, 36)], [(40, 27, 54, 9, 4, 28), (20, 19, 148, 13, 4, 37), (10, 14, 125, 27, 1, 37)], [(40, 27, 52, 9, 4, 29), (22, 20, 148, 12, 4, 38), (10, 14, 126, 27, 1, 38)]]
def jwq : LnT := [[], [], [], [], [], [], [], [], [], [], [], [], [], [], [], [], [], [], [], [], [], [], [], [], [], [], [], [(3, 8, 17, 6, 0, 18)], [(3, 8, 22, 6, 0, 19)], [(3, 8, 24, 6, 0, 20)], [(3, 8, 24, 6, 0, 21)], [(3, 8, 28, 9, 0, 22)], [(4, 8, 33, 9, 1, 23)], [(4, 8, 33, 9, 1, 24)], [(4, 8, 34, 9, 1, 25)], [(7, 11, 42, 9, 1, 26), (3, 8, 14, 12, 0, 26)], [(7, 11, 44, 10, 2, 27), (3, 8, 16, 12, 0, 27)], [(7, 11, 46, 10, 2, 28), (3, 8, 17, 12, 0, 28)], [(10, 14, 51, 8, 2, 29), (4, 8, 27, 12, 1, 29)], [(10, 14, 48, 8, 2, 25), (7, 11, 56, 10, 1, 30), (3, 8, 34, 16, 0, 30)], [(11, 17, 51, 11, 3, 26), (4, 8, 58, 18, 1, 31)], [(13, 17, 66, 9, 3, 27), (4, 8, 69, 18, 1, 32)], [(13, 17, 66, 9, 3, 28), (7, 11, 75, 15, 2, 33), (3, 8, 32, 18, 0, 33)], [(14, 20, 72, 10, 3, 29), (7, 11, 75, 20, 1, 34)], [(16, 20, 84, 12, 4, 30), (4, 8, 87, 27, 1, 35)], [(16, 20, 99, 11, 4, 31), (7, 11, 102, 26, 2, 36), (3, 8, 30, 27, 0, 36)], [(17, 20, 102, 11, 4, 37), (10, 14, 88, 21, 2, 37), (3, 8, 44, 27, 0, 37)], [(22, 23, 114, 8, 4, 38), (14, 20, 66, 16, 3, 33), (4, 8, 96, 27, 1, 38)]]
def uw1 : List (List Nat) := [[], [], [], [], [], [], [], [], [], [], [], [], [], [], [], [], [], [], [], [], [], [], [], [], [], [], [], [0, 0, 0, 90, 158, 158, 186, 194, 220, 250, 252, 268, 310, 338, 338, 399], [0, 0, 0, 86, 134, 148, 180, 181, 206, 228, 255, 262, 276, 282, 316, 390], [0, 0, 0, 77, 114, 139, 154, 161, 204, 228, 252, 252, 270, 270, 316, 348], [0, 0, 0, 74, 110, 133, 140, 158, 204, 220, 250, 250, 250, 267, 268, 310], [0, 0, 0, 97, 110, 149, 147, 178, 254, 282, 356, 356, 301, 372, 372, 394], [0, 0, 0, 115, 115, 165, 165, 205, 282, 318, 401, 401, 346, 435, 435, 455], [0, 0, 0, 115, 115, 177, 167, 201, 294, 314, 377, 377, 348, 429, 429, 452], [0, 0, 0, 135, 135, 187, 185, 243, 330, 358, 459, 459, 404, 513, 513, 535], [0, 0, 0, 139, 139, 189, 189, 247, 330, 366, 467, 467, 432, 525, 525, 571], [0, 0, 0, 165, 165, 233, 227, 298, 394, 422, 526, 526, 511, 628, 628, 0], [0, 0, 0, 171, 171, 233, 223, 304, 406, 426, 544, 544, 517, 646, 0, 0], [0, 0, 0, 184, 184, 236, 234, 336, 426, 450, 592, 592, 546, 0, 0, 0], [0, 0, 0, 197, 197, 249, 247, 344, 450, 485, 626, 626, 0, 0, 0, 0], [0, 0, 0, 242, 242, 310, 304, 466, 550, 582, 780, 0, 0, 0, 0, 0], [0, 0, 0, 248, 248, 310, 300, 444, 560, 580, 0, 0, 0, 0, 0, 0], [0, 0, 0, 257, 257, 309, 307, 481, 572, 0, 0, 0, 0, 0, 0, 0], [0, 0, 0, 295, 295, 379, 379, 535, 0, 0, 0, 0, 0, 0, 0, 0], [0, 0, 0, 377, 377, 451, 449, 0, 0, 0, 0, 0, 0, 0, 0, 0], [0, 0, 0, 381, 381, 448, 0, 0, 0, 0, 0, 0, 0, 0, 0, 0], [0, 0, 0, 414, 414, 0, 0, 0, 0, 0, 0, 0, 0, 0, 0, 0], [0, 0, 0, 412, 0, 0, 0, 0, 0, 0, 0, 0, 0, 0, 0, 0]]
def uwq : List (List Nat) := [[], [], [], [], [], [], [], [], [], [], [], [], [], [], [], [], [], [], [], [], [], [], [], [], [], [], [], [0, 0, 0, 57, 84, 96, 108, 112, 120, 142, 148, 172, 188, 188, 222, 242], [0, 0, 0, 50, 84, 90, 99, 111, 128, 135, 140, 182, 174, 174, 186, 223], [0, 0, 0, 48, 75, 80, 94, 99, 126, 124, 141, 180, 154, 162, 168, 202], [0, 0, 0, 45, 62, 78, 87, 92, 123, 123, 134, 180, 142, 156, 168, 188], [0, 0, 0, 55, 60, 91, 85, 103, 155, 155, 173, 254, 164, 201, 205, 219], [0, 0, 0, 69, 69, 99, 96, 114, 180, 183, 210, 291, 196, 252, 252, 262], [0, 0, 0, 69, 69, 96, 96, 114, 175, 183, 210, 291, 196, 252, 252, 262], [0, 0, 0, 70, 70, 97, 97, 115, 176, 185, 212, 293, 198, 255, 255, 265], [0, 0, 0, 105, 105, 135, 132, 177, 252, 255, 309, 390, 297, 387, 387, 402], [0, 0, 0, 114, 114, 141, 144, 194, 267, 278, 338, 428, 321, 422, 422, 0], [0, 0, 0, 116, 116, 143, 146, 196, 270, 282, 342, 432, 325, 428, 0, 0], [0, 0, 0, 131, 131, 161, 158, 219, 302, 302, 374, 446, 407, 0, 0, 0], [0, 0, 0, 128, 128, 155, 156, 216, 291, 302, 368, 452, 0, 0, 0, 0], [0, 0, 0, 172, 172, 208, 205, 304, 393, 399, 509, 0, 0, 0, 0, 0], [0, 0, 0, 183, 183, 213, 210, 309, 408, 411, 0, 0, 0, 0, 0, 0], [0, 0, 0, 183, 183, 210, 225, 309, 403, 0, 0, 0, 0, 0, 0, 0], [0, 0, 0, 215, 215, 248, 275, 375, 0, 0, 0, 0, 0, 0, 0, 0], [0, 0, 0, 276, 276, 306, 312, 0, 0, 0, 0, 0, 0, 0, 0, 0], [0, 0, 0, 284, 284, 309, 0, 0, 0, 0, 0, 0, 0, 0, 0, 0], [0, 0, 0, 298, 298, 0, 0, 0, 0, 0, 0, 0, 0, 0, 0, 0], [0, 0, 0, 290, 0, 0, 0, 0, 0, 0, 0, 0, 0, 0, 0, 0]]
def jwc (L : LnT) (T : List (List Nat)) (P : List (List Nat)) (F W : FrT) (X : List Nat) (hv wB : Nat) : Bool := (List.range 48).all (fun c => (lng L c).all (fun s => (List.range 16).all (fun m => Nat.blt m 3 || (Nat.blt 55 (c + m + 5) || smZ1 P F W X hv s.2.2.1 s.2.2.2.1 wB s.2.2.2.2.1 s.2.2.2.2.2 s.1 s.2.1 (55 - c - m) m (bhg T c m)))))
def jwm (T : List (List Nat)) (R : Nat) : Bool := T.all (fun l => l.all (fun x => Nat.ble x R))
theorem jw1_k : lnkb jw1 = true := by sorry
theorem jwq_k : lnkb jwq = true := by sorry
def jwz (L : LnT) (XR W : FrT) (X : List Nat) (va k q1 q2 ob : Nat) : Bool := (frg XR k).all (fun v => (List.range (v.1 + 1)).all (fun p => (frg W q2).all (fun e => (lng L (9 + k + q1 + q2)).any (fun s => Nat.ble (e.2 + e.1 * max (max 1 (X.getD q1 0)) va) s.1 && (Nat.ble (v.2 + (v.1 - p) * max 1 (X.getD q1 0)) s.2.2.1 && (Nat.ble p s.2.2.2.1 && (Nat.ble ob s.2.2.2.2.1 && Nat.ble k s.2.2.2.2.2)))))))
def jwa (L : LnT) (XR W : FrT) (X : List Nat) (va : Nat) : Bool := (List.range 21).all (fun k => (List.range 22).all (fun q1 => !(q5 q1) || (List.range 22).all (fun q2 => !(q5 q2) || (Nat.blt 47 (27 + k + q1 + q2) || jwz L XR W X va (18 + k) q1 q2 (zob true q1 q2)))))
end
section
-- from 99w10b
theorem jw1_ok : jwc jw1 uw1 pp1 fr1 fg1 fx1 1 2 = true := by sorry
theorem jw1_a : jwa jw1 xr1 fg1 fx1 7 = true := by sorry
end
section
-- from 99w10c
theorem jwq_ok : jwc jwq uwq ppq frq fgq fxq 0 1 = true := by sorry
theorem jwq_a : jwa jwq xrq fgq fxq 3 = true := by sorry
end
section
-- from 99w11
section PmWm
variable {t0 fn s2 hv r0 r1 r2 r3 x0 hb : Nat} {n1 h : Nat → Nat} {P Q : List (List Nat)} {F G W : FrT} {X : List Nat} {B C Dm : Ty} {Γ0 : List Ty}
theorem sm_fin4 (hn : NC t0 n1 s2 h) (hm : ∀ y y', y ≤ y' → h y ≤ h y') (hh : ∀ y δ, h (y + δ) ≤ h y + δ) (T : TBs 58 t0 fn s2 hv r0 r1 r2 r3 x0 n1 h P Q F G X) (hx : PXk 58 P F X fn s2 r1 = true) (hFm : frm F = true) (hgr : fgc F W hv = true) (hW : (1, 0) ∈ frg W 0) (hWm : fgm W = true) (h21 : r2 ≤ r1) (h32 : r3 ≤ r2) (H1 : ∀ y, h y ≤ hv + max 1 y) {f : Nat} {t S : Ty} {Δ1 : List Ty} {Δ : List (Nat × Ty × Nat)} {ob cd wB Bd y E0 p cv k : Nat} (w : TWf f (cxs Δ1 Γ0 (tAll B C)).length (Δ.map (fun a => a.1)) t) (he : TE (cxs Δ1 Γ0 (tAll B C)) Δ) (cf : CFt f t) (hg : hasq f t = true → g3k f t + 3 ≤ mch t ∧ (mch t ≤ 11 ∨ g3k f t = 0)) (hm3 : 3 ≤ mch t) (hm17 : mch t ≤ 17) (hb0 : ∀ b ∈ Γ0, nsch b = true ∨ flv b ≤ ob) (hb1 : ∀ b ∈ Δ1, nsch b = true ∨ flv b ≤ ob) (hdc : dch Δ ≤ cd) (hcd : 2 ≤ cd) (y01 : x0 ≤ y) (hw : ∀ j, j < (cxs Δ1 Γ0 (tAll B Dm)).length → vw (onz t0 n1 s2 h (cxs Δ1 Γ0 (tAll B Dm))) j ≤ y) (vZ : ∀ z, nz t0 n1 s2 h (hzx h z (nz t0 n1 s2 h (onz t0 n1 s2 h Γ0) B) :: onz t0 n1 s2 h Γ0) C ≤ E0 + p * max z wB) (hwB : h (nz t0 n1 s2 h (onz t0 n1 s2 h Γ0) B) ≤ wB) (hk : tch C ≤ k) (hk2 : k ≤ 50) (R1 : smZ1 P F W X hv E0 p wB ob k y cv cd (mch t) Bd = true) (hS : tyF f t (cxs Δ1 Γ0 (tAll B C)) Δ = .inr S) : nz t0 n1 s2 h (onz t0 n1 s2 h (cxs Δ1 Γ0 (tAll B Dm))) S ≤ Bd := by sorry
theorem gone_fin4 (hn : NC t0 n1 s2 h) (hm : ∀ y y', y ≤ y' → h y ≤ h y') (hh : ∀ y δ, h (y + δ) ≤ h y + δ) (T : TBs 58 t0 fn s2 hv r0 r1 r2 r3 x0 n1 h P Q F G X) (hx : PXk 58 P F X fn s2 r1 = true) (hFm : frm F = true) (hgr : fgc F W hv = true) (hW : (1, 0) ∈ frg W 0) (hWm : fgm W = true) (h21 : r2 ≤ r1) (h32 : r3 ≤ r2) (H1 : ∀ y, h y ≤ hv + max 1 y) {f : Nat} {t S : Ty} {Δ1 : List Ty} {Δ : List (Nat × Ty × Nat)} {ob cd wB Bd y E0 p cv k : Nat} (w : TWf f (cxs Δ1 Γ0 (tAll B C)).length (Δ.map (fun a => a.1)) t) (he : TE (cxs Δ1 Γ0 (tAll B C)) Δ) (co : COk f t 0) (nC : noh hb C = true) (nh : NHt hb f t) (na : NAt f t) (hc : noac (cxs Δ1 Γ0 (tAll B C))) (s : SGc hb B C tTop Γ0 Δ1) (s' : SGc hb B C Dm Γ0 Δ1) (hd' : ∀ a ∈ Δ, noh hb a.2.1 = true ∧ noal a.2.1 = true) (hg : hasq f t = true → g3k f t + 3 ≤ mch t ∧ (mch t ≤ 11 ∨ g3k f t = 0)) (hm3 : 3 ≤ mch t) (hm17 : mch t ≤ 17) (hb0 : ∀ b ∈ Γ0, nsch b = true ∨ flv b ≤ ob) (hb1 : ∀ b ∈ Δ1, nsch b = true ∨ flv b ≤ ob) (hdc : dch Δ ≤ cd) (hcd : 2 ≤ cd) (y01 : x0 ≤ y) (hw : ∀ j, j < (cxs Δ1 Γ0 (tAll B Dm)).length → vw (onz t0 n1 s2 h (cxs Δ1 Γ0 (tAll B Dm))) j ≤ y) (vZ : ∀ z, nz t0 n1 s2 h (hzx h z (nz t0 n1 s2 h (onz t0 n1 s2 h Γ0) B) :: onz t0 n1 s2 h Γ0) C ≤ E0 + p * max z wB) (hwB : h (nz t0 n1 s2 h (onz t0 n1 s2 h Γ0) B) ≤ wB) (hk : tch C ≤ k) (hk2 : k ≤ 50) (R1 : smZ1 P F W X hv E0 p wB ob k y cv cd (mch t) Bd = true) (hS : tyF f t (cxs Δ1 Γ0 (tAll B C)) Δ = .inr S) : nz t0 n1 s2 h (onz t0 n1 s2 h (cxs Δ1 Γ0 (tAll B Dm))) S ≤ Bd := by sorry
end PmWm
section PmWn
variable {f : Nat} {t x y C Dm : Ty} {Γ0 Δ1 : List Ty} {Δ : List (Nat × Ty × Nat)}
theorem jwz_get {L : LnT} {XR W : FrT} {X : List Nat} {va k q1 q2 ob p : Nat} {v e : Nat × Nat} (h : jwz L XR W X va k q1 q2 ob = true) (hv' : v ∈ frg XR k) (hp : p ≤ v.1) (he : e ∈ frg W q2) : ∃ s ∈ lng L (9 + k + q1 + q2), e.2 + e.1 * max (max 1 (X.getD q1 0)) va ≤ s.1 ∧ v.2 + (v.1 - p) * max 1 (X.getD q1 0) ≤ s.2.2.1 ∧ p ≤ s.2.2.2.1 ∧ ob ≤ s.2.2.2.2.1 ∧ k ≤ s.2.2.2.2.2 := by sorry
theorem jwa_get {L : LnT} {XR W : FrT} {X : List Nat} {va k q1 q2 : Nat} (h : jwa L XR W X va = true) (k1 : 18 ≤ k) (z1 : q5 q1 = true) (z2 : q5 q2 = true) (hc : 9 + k + q1 + q2 ≤ 47) : jwz L XR W X va k q1 q2 (zob true q1 q2) = true := by sorry
theorem jwc_get {L : LnT} {T : List (List Nat)} {P : List (List Nat)} {F W : FrT} {X : List Nat} {hv wB c m : Nat} {s : Nat × Nat × Nat × Nat × Nat × Nat} (h : jwc L T P F W X hv wB = true) (hc : c < 48) (hs : s ∈ lng L c) (hm3 : 3 ≤ m) (hm : m ≤ 15) (h5 : c + m + 5 ≤ 55) : smZ1 P F W X hv s.2.2.1 s.2.2.2.1 wB s.2.2.2.2.1 s.2.2.2.2.2 s.1 s.2.1 (55 - c - m) m (bhg T c m) = true := by sorry
theorem jwm_get {T : List (List Nat)} {R : Nat} (h : jwm T R = true) (c m : Nat) : bhg T c m ≤ R := by sorry
theorem longw_v (w : TWf f (cxs Δ1 Γ0 (tAll tTop C)).length (Δ.map (fun a => a.1)) t) (he : TE (cxs Δ1 Γ0 (tAll tTop C)) Δ) (cf : CFt f t) (hs : smq f t) (oD : ok (Γ0.length + 1) Dm = true) (vD : ∀ b, vlr b 1 (mz b 1 Γ0 (tAll tTop Dm)) ≤ 7) (vG : gz Γ0 (tAll tTop Dm) ≤ 3) (k18 : 18 ≤ tch C) (hb : cch (cxs Δ1 Γ0 (tAll tTop C)) + dch Δ + mch t ≤ 55) (h5 : cch (cxs Δ1 Γ0 (tAll tTop C)) + mch t + 5 ≤ 55) (h47 : cch (cxs Δ1 Γ0 (tAll tTop C)) ≤ 47) : SmV Dm tTop C Γ0 Δ1 Δ f t (bhg uw1 (cch (cxs Δ1 Γ0 (tAll tTop C))) (mch t)) (bhg uwq (cch (cxs Δ1 Γ0 (tAll tTop C))) (mch t)) := by sorry
theorem gone_lw (w : TWf f (cxs Δ1 Γ0 (tAll tTop C)).length (Δ.map (fun a => a.1)) t) (he : TE (cxs Δ1 Γ0 (tAll tTop C)) Δ) (nC : noh 0 C = true) (nh : NHt 0 f t) (na : NAt f t) (hc : noac (cxs Δ1 Γ0 (tAll tTop C))) (sg : SGc 0 tTop C tTop Γ0 Δ1) (hd' : ∀ a ∈ Δ, noh 0 a.2.1 = true ∧ noal a.2.1 = true) (hs : smq f t) (oD : ok (Γ0.length + 1) Dm = true) (vD : ∀ b, vlr b 1 (mz b 1 Γ0 (tAll tTop Dm)) ≤ 7) (vG : gz Γ0 (tAll tTop Dm) ≤ 3) (k18 : 18 ≤ tch C) (hb : cch (cxs Δ1 Γ0 (tAll tTop C)) + dch Δ + mch t ≤ 55) (h5 : cch (cxs Δ1 Γ0 (tAll tTop C)) + mch t + 5 ≤ 55) (h47 : cch (cxs Δ1 Γ0 (tAll tTop C)) ≤ 47) : SmV Dm tTop C Γ0 Δ1 Δ f t (bhg uw1 (cch (cxs Δ1 Γ0 (tAll tTop C))) (mch t)) (bhg uwq (cch (cxs Δ1 Γ0 (tAll tTop C))) (mch t)) := by sorry
def SMw (C : Ty) (Γ0 Δ1 : List Ty) (Δ : List (Nat × Ty × Nat)) (f : Nat) (t : Ty) : Prop := smq f t ∧ (CFt f t ∨ (noh 0 C = true ∧ NHt 0 f t ∧ SGc 0 tTop C tTop Γ0 Δ1 ∧ ∀ a ∈ Δ, noh 0 a.2.1 = true))
theorem SMw.v (w : TWf f (cxs Δ1 Γ0 (tAll tTop C)).length (Δ.map (fun a => a.1)) t) (he : TE (cxs Δ1 Γ0 (tAll tTop C)) Δ) (z : SMw C Γ0 Δ1 Δ f t) (na : NAt f t) (hc : noac (cxs Δ1 Γ0 (tAll tTop C))) (hd' : ∀ a ∈ Δ, noal a.2.1 = true) (oD : ok (Γ0.length + 1) Dm = true) (vD : ∀ b, vlr b 1 (mz b 1 Γ0 (tAll tTop Dm)) ≤ 7) (vG : gz Γ0 (tAll tTop Dm) ≤ 3) (k18 : 18 ≤ tch C) (hb : cch (cxs Δ1 Γ0 (tAll tTop C)) + dch Δ + mch t ≤ 55) (h5 : cch (cxs Δ1 Γ0 (tAll tTop C)) + mch t + 5 ≤ 55) (h47 : cch (cxs Δ1 Γ0 (tAll tTop C)) ≤ 47) : SmV Dm tTop C Γ0 Δ1 Δ f t (bhg uw1 (cch (cxs Δ1 Γ0 (tAll tTop C))) (mch t)) (bhg uwq (cch (cxs Δ1 Γ0 (tAll tTop C))) (mch t)) := by sorry
end PmWn

end
section
-- from 99w12
section PmWo
variable {t0 fn s2 hv r0 r1 r2 r3 x0 : Nat} {n1 h : Nat → Nat} {P Q : List (List Nat)} {F G W : FrT} {X : List Nat}
theorem nat_fin5 (hn : NC t0 n1 s2 h) (hm : ∀ y y', y ≤ y' → h y ≤ h y') (hh : ∀ y δ, h (y + δ) ≤ h y + δ) (T : TBs 58 t0 fn s2 hv r0 r1 r2 r3 x0 n1 h P Q F G X) (hx : PXk 58 P F X fn s2 r1 = true) (hFm : frm F = true) (hgr : fgc F W hv = true) (hW : (1, 0) ∈ frg W 0) (hWm : fgm W = true) (h21 : r2 ≤ r1) (h32 : r3 ≤ r2) (H1 : ∀ y, h y ≤ hv + max 1 y) {f : Nat} {t S : Ty} {Γ : List Ty} {Δ : List (Nat × Ty × Nat)} {ob cd Bd y cv : Nat} (w : TWf f Γ.length (Δ.map (fun a => a.1)) t) (he : TE Γ Δ) (co : COk f t 0) (hg : hasq f t = true → g3k f t + 3 ≤ mch t ∧ (mch t ≤ 11 ∨ g3k f t = 0)) (hm3 : 3 ≤ mch t) (hm17 : mch t ≤ 17) (hb0 : ∀ b ∈ Γ, nsch b = true ∨ flv b ≤ ob) (hdc : dch Δ ≤ cd) (hcd : 2 ≤ cd) (y01 : x0 ≤ y) (hw : ∀ j, j < Γ.length → vw (onz t0 n1 s2 h Γ) j ≤ y) (R1 : smZ1 P F W X hv 0 0 0 ob 0 y cv cd (mch t) Bd = true) (hS : tyF f t Γ Δ = .inr S) : nz t0 n1 s2 h (onz t0 n1 s2 h Γ) S ≤ Bd := by sorry
end PmWo
def obt : List Nat := [12, 12, 12, 12, 12, 12, 12, 12, 12, 12, 12, 12, 12, 12, 12, 12, 12, 9, 9, 8, 6, 6, 6, 5, 4, 4, 4, 3, 4, 4, 3, 3, 3, 2, 2, 2, 2, 1, 3, 2, 2, 2, 2, 1, 3, 2, 2, 2]
def fwc (P : List (List Nat)) (F W : FrT) (X : List Nat) (hv Bd : Nat) : Bool := (List.range 48).all (fun c => (List.range 16).all (fun m => Nat.blt m 3 || (Nat.blt 58 (c + 5 + 2 * m) || smZ1 P F W X hv 0 0 0 (obt.getD c 0) 0 (X.getD c 0) c (58 - 2 * m - c) m Bd)))
theorem fw1_ok : fwc pp1 fr1 fg1 fx1 1 887 = true := by sorry
theorem fwq_ok : fwc ppq frq fgq fxq 0 597 = true := by sorry
theorem fwc_get {P : List (List Nat)} {F W : FrT} {X : List Nat} {hv Bd c m : Nat} (h : fwc P F W X hv Bd = true) (hc : c < 48) (hm3 : 3 ≤ m) (hm : m ≤ 15) (h5 : c + 5 + 2 * m ≤ 58) : smZ1 P F W X hv 0 0 0 (obt.getD c 0) 0 (X.getD c 0) c (58 - 2 * m - c) m Bd = true := by sorry
section PmWp
variable {f : Nat} {t x y : Ty} {Γ : List Ty} {Δ : List (Nat × Ty × Nat)}
theorem few_v (w : TWf f Γ.length (Δ.map (fun a => a.1)) t) (he : TE Γ Δ) (hs : smq f t) (ho : ∀ b ∈ Γ, nsch b = true ∨ flv b ≤ obt.getD (cch Γ) 0) (hb : cch Γ + dch Δ + 2 * mch t ≤ 58) (h5 : cch Γ + 5 + 2 * mch t ≤ 58) (h47 : cch Γ ≤ 47) : NtV Γ Δ f t 887 597 := by sorry
theorem pair_few (x1 : TWf f Γ.length (Δ.map (fun a => a.1)) x) (x2 : TWf f Γ.length (Δ.map (fun a => a.1)) y) (he : TE Γ Δ) (y1 : NAt f x) (y2 : NAt f y) (hv : noac Γ) (hd' : ∀ a ∈ Δ, noal a.2.1 = true) (hs : (mch x ≤ mch y ∧ smq f x) ∨ (mch y ≤ mch x ∧ smq f y)) (ho : ∀ b ∈ Γ, nsch b = true ∨ flv b ≤ obt.getD (cch Γ) 0) (h5 : 5 ≤ dch Δ) (hb : cch Γ + dch Δ + (2 + (mch x + mch y)) ≤ 60) (h47 : cch Γ ≤ 47) : PRn f x y Γ Δ := by sorry
end PmWp

end
section
-- from 99w13
abbrev LbT : Type := List (List (Nat × Nat × Nat × Nat × Nat × Nat × Nat))
def lb1 : LbT := [[], [], [], [], [], [], [], [], [], [], [], [(7, 11, 1, 1, 0, 1, 3)], [(7, 11, 2, 1, 0, 2, 3)], [(8, 11, 2, 1, 0, 3, 4)], [(9, 14, 3, 1, 0, 4, 5)], [(12, 15, 4, 2, 0, 5, 6)], [(12, 15, 6, 2, 1, 6, 8)], [(14, 15, 6, 2, 1, 7, 8)], [(16, 18, 6, 2, 1, 8, 8)], [(18, 18, 8, 3, 1, 9, 10)], [(22, 20, 11, 3, 2, 10, 14)], [(22, 20, 11, 3, 2, 11, 14)], [(23, 21, 11, 3, 2, 12, 14)], [(26, 22, 13, 4, 2, 13, 18)], [(34, 24, 16, 4, 3, 14, 20)], [(34, 24, 19, 4, 3, 15, 22)], [(34, 24, 19, 4, 3, 16, 23)], [(42, 27, 19, 4, 3, 17, 26), (27, 24, 8, 5, 0, 17, 3)], [(50, 28, 19, 4, 4, 16, 26), (38, 27, 23, 6, 0, 18, 3)], [(50, 28, 22, 4, 4, 17, 34), (41, 27, 29, 5, 0, 19, 4), (38, 27, 16, 6, 0, 19, 3)], [(52, 30, 30, 4, 4, 20, 34), (38, 27, 17, 6, 0, 20, 5)], [(62, 31, 21, 4, 3, 17, 26), (42, 27, 30, 5, 4, 20, 34), (38, 27, 16, 6, 0, 20, 3)], [(68, 32, 30, 3, 3, 17, 42), (55, 31, 22, 4, 4, 17, 34), (28, 24, 8, 5, 1, 17, 3)], [(74, 33, 38, 3, 2, 16, 50), (71, 33, 32, 3, 3, 10, 26), (57, 31, 23, 4, 2, 18, 10), (40, 27, 22, 6, 4, 18, 34)], [(77, 34, 24, 4, 3, 17, 50), (63, 32, 46, 4, 4, 19, 50), (52, 30, 23, 6, 5, 19, 42)], [(86, 35, 46, 3, 2, 16, 52), (77, 34, 24, 4, 3, 17, 23), (68, 32, 46, 2, 4, 12, 23), (48, 28, 29, 6, 5, 20, 42)], [(90, 36, 48, 3, 2, 17, 62), (83, 35, 46, 3, 3, 13, 26), (73, 33, 29, 4, 3, 21, 14), (68, 32, 8, 5, 4, 17, 34), (51, 30, 23, 6, 4, 21, 34)], [(107, 37, 9, 3, 2, 11, 68), (83, 35, 54, 3, 3, 17, 68), (81, 35, 15, 4, 3, 17, 14), (71, 33, 29, 4, 4, 21, 34), (57, 31, 22, 6, 5, 21, 42), (45, 28, 23, 5, 5, 21, 42)], [(110, 37, 64, 3, 3, 17, 74), (97, 37, 29, 4, 3, 21, 20), (88, 36, 48, 3, 4, 11, 34), (67, 32, 23, 5, 5, 21, 42), (59, 31, 26, 6, 6, 21, 50)], [(110, 37, 70, 3, 3, 17, 77), (98, 37, 29, 4, 3, 21, 20), (91, 37, 42, 3, 4, 12, 34), (77, 34, 23, 5, 2, 21, 8), (59, 31, 26, 6, 6, 21, 50)], [(134, 40, 28, 4, 3, 21, 86), (113, 39, 24, 5, 4, 21, 34), (102, 37, 73, 2, 5, 21, 86), (91, 37, 22, 6, 2, 21, 8), (72, 33, 24, 9, 6, 23, 52), (66, 32, 45, 9, 6, 25, 52)], [(158, 41, 82, 3, 2, 17, 90), (139, 41, 6, 4, 3, 13, 20), (122, 40, 67, 4, 3, 21, 26), (116, 40, 46, 4, 4, 14, 34), (107, 37, 24, 5, 3, 21, 14), (103, 37, 16, 6, 5, 20, 42), (91, 37, 48, 6, 5, 21, 42), (74, 33, 30, 9, 6, 25, 62), (72, 33, 45, 6, 6, 25, 62)], [(158, 41, 86, 3, 2, 14, 110), (145, 41, 11, 4, 3, 16, 26), (120, 40, 67, 4, 4, 21, 34), (107, 37, 24, 6, 5, 21, 42), (76, 34, 48, 8, 6, 25, 62), (74, 33, 28, 9, 1, 25, 5)], [(161, 43, 75, 3, 2, 16, 110), (146, 41, 16, 4, 3, 17, 26), (122, 40, 102, 4, 4, 21, 77), (116, 40, 25, 5, 3, 21, 14), (109, 37, 16, 6, 5, 20, 42), (93, 37, 48, 6, 6, 21, 62), (76, 34, 45, 8, 1, 25, 5), (74, 33, 28, 9, 1, 25, 5)], [(194, 44, 54, 4, 3, 25, 114), (151, 41, 75, 5, 4, 25, 114), (137, 41, 106, 4, 5, 16, 86), (127, 40, 37, 6, 3, 25, 14), (111, 39, 36, 7, 6, 25, 62), (87, 36, 29, 9, 1, 25, 6), (81, 35, 54, 1, 9, 7, 74)], [(212, 45, 106, 3, 2, 25, 134), (203, 45, 18, 4, 3, 17, 26), (163, 43, 91, 4, 4, 25, 34), (137, 41, 38, 5, 5, 25, 20), (129, 40, 37, 6, 3, 25, 18), (115, 40, 56, 2, 6, 8, 50), (89, 36, 29, 9, 1, 25, 6), (81, 35, 42, 7, 9, 25, 74)], [(230, 46, 130, 3, 2, 25, 158), (203, 45, 18, 4, 3, 17, 34), (169, 44, 67, 4, 3, 25, 26), (163, 43, 78, 4, 4, 17, 34), (137, 41, 38, 5, 5, 25, 22), (131, 40, 37, 6, 3, 25, 18), (115, 40, 56, 2, 6, 8, 50), (89, 36, 29, 9, 1, 25, 6), (81, 35, 42, 7, 9, 25, 74)], [(239, 47, 108, 3, 2, 25, 158), (203, 45, 16, 4, 3, 17, 26), (169, 44, 154, 4, 3, 25, 110), (164, 43, 86, 4, 4, 17, 34), (155, 41, 38, 5, 4, 25, 23), (131, 40, 37, 6, 5, 25, 20), (115, 40, 56, 2, 6, 8, 50), (89, 36, 29, 9, 1, 25, 6), (81, 35, 42, 7, 9, 25, 74)]]
end
section
-- from 99w22
def ldc (L : LnT) (P : List (List Nat)) (F W : FrT) (X : List Nat) (hv wB Bd : Nat) : Bool := (List.range 48).all (fun c => (lng L c).all (fun s => (List.range 16).all (fun m => Nat.blt m 3 || (Nat.blt 58 (c + 10 + 2 * m) || smZ1 P F W X hv s.2.2.1 s.2.2.2.1 wB s.2.2.2.2.1 s.2.2.2.2.2 s.1 s.2.1 (58 - 2 * m - c) m Bd))))
end
section
-- from 99w32
def h22 : List (Nat × Nat × Nat) := [(18, 0, 13), (22, 0, 9)]
end
section
-- from 99x01
def SKb (Z : Nat → Nat → Nat) (gy : Nat → Nat) (b : Nat) : Stk → Nat → Prop
  | [], _ => True
  | none :: ρ, w => 2 ≤ w ∧ SKb Z gy b ρ (w - 2)
  | some z :: ρ, w => ∃ s, 1 ≤ s ∧ s + 1 ≤ w ∧ (z ≤ Z b s ∧ z ≤ gy (b + s + 4)) ∧ SKb Z gy b ρ (w - (s + 1))
theorem SKb.mono {Z : Nat → Nat → Nat} {gy : Nat → Nat} {b b' : Nat} (Zm : ∀ b b' s s', b ≤ b' → s ≤ s' → Z b s ≤ Z b' s') (gm : ∀ b b', b ≤ b' → gy b ≤ gy b') (hb : b ≤ b') : ∀ (π : Stk) (w w' : Nat), SKb Z gy b π w → w ≤ w' → SKb Z gy b' π w' := by sorry
theorem SKb.two {Z : Nat → Nat → Nat} {gy : Nat → Nat} {b : Nat} : ∀ {π : Stk} {w : Nat}, SKb Z gy b π w → π ≠ [] → 2 ≤ w := by sorry
def DPc (un : Bool) (a5 mt fn s2 r0 r1 r2 r3 : Nat) (V : Nat → Nat) (Z H : Nat → Nat → Nat) (D : Nat → Nat → Nat → Nat) : Prop :=
  (∀ b, b + 1 ≤ mt → a5 ≤ b → V b ≤ D 1 0 b) ∧ (∀ w b, 2 ≤ w → w + b + 1 ≤ mt → a5 ≤ b → H b w ≤ D 1 w b) ∧
  (∀ i m w b, 1 ≤ i → i + 2 ≤ m → m + w + b ≤ mt → D i (w + (m - i)) b ≤ D m w b) ∧
  (∀ i m b, 1 ≤ i → i + 5 ≤ m → m + b ≤ mt → fn + (Z b (m - 4 - i) + D i 0 (b + (m - i))) ≤ D m 0 b ∧ s2 + D i 0 (b + (m - i)) ≤ D m 0 b) ∧
  (∀ i m w b, 1 ≤ i → i + 5 ≤ m → 2 ≤ w → m + w + b ≤ mt → D i 0 (b + (m - i)) ≤ D m w b ∧ D i (w - 2) (b + (m - i)) ≤ D m w b) ∧
  (∀ i m w b s, 1 ≤ i → i + 5 ≤ m → 1 ≤ s → s + 1 ≤ w → m + w + b ≤ mt → D i 0 (b + (m - i) + s) ≤ D m w b ∧ D i (w - (s + 1)) (b + (m - i) + s) ≤ D m w b) ∧
  (∀ i m w b, 1 ≤ i → i + 4 ≤ m → 2 ≤ w → m + w + b ≤ mt → D i 0 b ≤ D m w b ∧ D i (w - 2) b ≤ D m w b) ∧
  (∀ b, 2 + b ≤ mt → r0 ≤ D 2 0 b) ∧
  (∀ i m b, 1 ≤ i → i + 4 = m → m + b ≤ mt → r1 + D i 0 b ≤ D m 0 b) ∧
  (∀ i j m b, 1 ≤ i → 1 ≤ j → i + j + 7 = m → m + b ≤ mt → r2 + (D i 0 b + D j 0 b) ≤ D m 0 b) ∧
  (∀ i j k m b, 1 ≤ i → 1 ≤ j → 1 ≤ k → i + j + k + 10 = m → m + b ≤ mt → r3 + (D i 0 b + (D j 0 b + D k 0 b)) ≤ D m 0 b) ∧
  (∀ i j m w b, 1 ≤ i → 1 ≤ j → i + j + 2 = m → m + w + b ≤ mt → (un = true ∨ w = 0) → D i w b + D j w b ≤ D m w b)
def DVn (t0 : Nat) (n1 : Nat → Nat) (s2 : Nat) (h : Nat → Nat) (E : Stk → Nat) (V0 : Nat) (ω : List Nat) (Δ : List (Nat × Ty × Nat)) : Prop := ∀ a ∈ Δ, ∃ ν ω1 : List Nat, ω = ν ++ ω1 ∧ ω1.length = a.2.2 ∧ ok ω1.length a.2.1 = true ∧ nz t0 n1 s2 h ω1 a.2.1 ≤ V0 ∧ ∀ ρ, ρ ≠ [] → vz t0 n1 s2 h E a.2.1 ρ ω1 ≤ E ρ
theorem DVn.up {t0 s2 V0 V1 : Nat} {n1 h : Nat → Nat} {E : Stk → Nat} {ω : List Nat} {Δ : List (Nat × Ty × Nat)} (d : DVn t0 n1 s2 h E V0 ω Δ) (hv : V0 ≤ V1) : DVn t0 n1 s2 h E V1 ω Δ := by sorry
theorem DVn.ext {t0 s2 V0 : Nat} {n1 h : Nat → Nat} {E : Stk → Nat} {ω : List Nat} {Δ : List (Nat × Ty × Nat)} (d : DVn t0 n1 s2 h E V0 ω Δ) (v : Nat) : DVn t0 n1 s2 h E V0 (v :: ω) Δ := by sorry
theorem DPc_rec {un : Bool} {a5 mt fn s2 r0 r1 r2 r3 bb : Nat} {V : Nat → Nat} {Z H : Nat → Nat → Nat} {D : Nat → Nat → Nat → Nat} {n1 : Nat → Nat} (dc : DPc un a5 mt fn s2 r0 r1 r2 r3 V Z H D) (hr : ∀ m, m < 8 → n1 (8 + m) ≤ (if nlb m = 0 then r0 else if nlb m = 1 then r1 else if nlb m = 2 then r2 else r3)) {k a b d va vb vd : Nat} (k8 : k < 8) (a1 : bit k 0 = true → 1 ≤ a ∧ va ≤ D a 0 bb) (b1 : bit k 1 = true → 1 ≤ b ∧ vb ≤ D b 0 bb) (d1 : bit k 2 = true → 1 ≤ d ∧ vd ≤ D d 0 bb) (z0 : bit k 0 = false → a = 0) (z1 : bit k 1 = false → b = 0) (z2 : bit k 2 = false → d = 0) (hb : (if k = 0 then 2 else 1 + 3 * nlb k) + (a + (b + d)) + bb ≤ mt) : n1 (8 + k) + ((if bit k 0 = true then va else 0) + ((if bit k 1 = true then vb else 0) + (if bit k 2 = true then vd else 0))) ≤ D ((if k = 0 then 2 else 1 + 3 * nlb k) + (a + (b + d))) 0 bb := by sorry
end
section
-- from 99x02
def DHy (un : Bool) (a5 t0 fn s2 r0 r1 r2 r3 mt : Nat) (n1 h V gy : Nat → Nat) (Z H : Nat → Nat → Nat) (E : Stk → Nat) (D : Nat → Nat → Nat → Nat) : Prop :=
  (mt ≤ 30 ∧ a5 ≤ 5) ∧ n1 1 ≤ fn ∧ (∀ m, m < 8 → n1 (8 + m) ≤ (if nlb m = 0 then r0 else if nlb m = 1 then r1 else if nlb m = 2 then r2 else r3)) ∧ DPc un a5 mt fn s2 r0 r1 r2 r3 V Z H D ∧
  (∀ b π w, π ≠ [] → SKb Z gy b π w → b + w + 1 ≤ mt → E π ≤ H b w) ∧
  (∀ (A : Ty) (ω : List Nat) (b : Nat), ok ω.length A = true → tch A + b + 2 ≤ mt → (∀ j, j < ω.length → vw ω j ≤ gy b) → (∀ ρ, ρ ≠ [] → vz t0 n1 s2 h E A ρ ω ≤ E ρ) ∧ nz t0 n1 s2 h ω A ≤ Z b (tch A)) ∧
  (∀ b j, 1 ≤ j → j + 4 ≤ b → b ≤ mt → Z b j ≤ V b) ∧ (∀ b b', b ≤ b' → V b ≤ V b') ∧
  (∀ b b', b ≤ b' → gy b ≤ gy b') ∧ (∀ b b' s s', b ≤ b' → s ≤ s' → Z b s ≤ Z b' s') ∧
  (∀ (A : Ty) (ω : List Nat) (b : Nat), ok ω.length A = true → b + tch A + 4 ≤ 38 → (∀ j, j < ω.length → vw ω j ≤ gy b) → h (nz t0 n1 s2 h ω A) ≤ gy (b + tch A + 4) ∧ nz t0 n1 s2 h ω A ≤ gy (b + tch A + 4))
section PmX2
variable {un : Bool} {a5 t0 fn s2 r0 r1 r2 r3 mt : Nat} {n1 h V gy : Nat → Nat} {Z H : Nat → Nat → Nat} {E : Stk → Nat} {D : Nat → Nat → Nat → Nat}
theorem DHy.gm (dh : DHy un a5 t0 fn s2 r0 r1 r2 r3 mt n1 h V gy Z H E D) : ∀ b b', b ≤ b' → gy b ≤ gy b' := by sorry
theorem DHy.zm (dh : DHy un a5 t0 fn s2 r0 r1 r2 r3 mt n1 h V gy Z H E D) : ∀ b b' s s', b ≤ b' → s ≤ s' → Z b s ≤ Z b' s' := by sorry
theorem DHy.gr (dh : DHy un a5 t0 fn s2 r0 r1 r2 r3 mt n1 h V gy Z H E D) : ∀ (A : Ty) (ω : List Nat) (b : Nat), ok ω.length A = true → b + tch A + 4 ≤ 38 → (∀ j, j < ω.length → vw ω j ≤ gy b) → h (nz t0 n1 s2 h ω A) ≤ gy (b + tch A + 4) ∧ nz t0 n1 s2 h ω A ≤ gy (b + tch A + 4) := by sorry
theorem DHy.tx (dh : DHy un a5 t0 fn s2 r0 r1 r2 r3 mt n1 h V gy Z H E D) : ∀ (A : Ty) (ω : List Nat) (b : Nat), ok ω.length A = true → tch A + b + 2 ≤ mt → (∀ j, j < ω.length → vw ω j ≤ gy b) → (∀ ρ, ρ ≠ [] → vz t0 n1 s2 h E A ρ ω ≤ E ρ) ∧ nz t0 n1 s2 h ω A ≤ Z b (tch A) := by sorry
theorem DHy.dc (dh : DHy un a5 t0 fn s2 r0 r1 r2 r3 mt n1 h V gy Z H E D) : DPc un a5 mt fn s2 r0 r1 r2 r3 V Z H D := by sorry
theorem DHy.vb (dh : DHy un a5 t0 fn s2 r0 r1 r2 r3 mt n1 h V gy Z H E D) : ∀ b j, 1 ≤ j → j + 4 ≤ b → b ≤ mt → Z b j ≤ V b := by sorry
theorem DHy.vm (dh : DHy un a5 t0 fn s2 r0 r1 r2 r3 mt n1 h V gy Z H E D) : ∀ b b', b ≤ b' → V b ≤ V b' := by sorry
theorem DHy.de (dh : DHy un a5 t0 fn s2 r0 r1 r2 r3 mt n1 h V gy Z H E D) : ∀ b π w, π ≠ [] → SKb Z gy b π w → b + w + 1 ≤ mt → E π ≤ H b w := by sorry
theorem vw_gyx {gy : Nat → Nat} (gm : ∀ b b', b ≤ b' → gy b ≤ gy b') {ω : List Nat} {v b b' : Nat} (hw : ∀ j, j < ω.length → vw ω j ≤ gy b) (hv : v ≤ gy b') (hb : b ≤ b') : ∀ j, j < (v :: ω).length → vw (v :: ω) j ≤ gy b' := by sorry
theorem DQa (dh : DHy un a5 t0 fn s2 r0 r1 r2 r3 mt n1 h V gy Z H E D) : ∀ (f : Nat) (t : Ty) (π : Stk) (ω : List Nat) (Γ : List Ty) (sc : List Nat) (w b : Nat), TWf f Γ.length sc t → ω.length = Γ.length → (∀ j, j < ω.length → vw ω j ≤ gy b) → mch t + w + b ≤ mt → (π ≠ [] → SKb Z gy b π w) → AQh t0 n1 s2 h E (fun s => Z mt (s - 2)) f t π ω := by sorry
end PmX2

end
section
-- from 99x03
section PmX3
variable {un : Bool} {a5 t0 fn s2 r0 r1 r2 r3 mt : Nat} {n1 h V gy : Nat → Nat} {Z H : Nat → Nat → Nat} {E : Stk → Nat} {D : Nat → Nat → Nat → Nat}
def DQs (un : Bool) (a5 t0 mt : Nat) (n1 : Nat → Nat) (s2 : Nat) (h V gy : Nat → Nat) (Z : Nat → Nat → Nat) (E : Stk → Nat) (D : Nat → Nat → Nat → Nat) (f : Nat) : Prop := ∀ (t : Ty) (π : Stk) (ω : List Nat) (Γ : List Ty) (Δ : List (Nat × Ty × Nat)) (w b : Nat), TWf f Γ.length (Δ.map (fun a => a.1)) t → ω.length = Γ.length → DVn t0 n1 s2 h E (V b) ω Δ → (∀ j, j < ω.length → vw ω j ≤ gy b) → mch t + w + b ≤ mt → (Δ ≠ [] → a5 ≤ b) → (π ≠ [] → SKb Z gy b π w) → (un = true ∨ COk f t π.length) → (π = [] → GSk t0 n1 s2 h E f t [] ω Γ Δ ≤ D (mch t) 0 b) ∧ (π ≠ [] → GSk t0 n1 s2 h E f t π ω Γ Δ ≤ D (mch t) w b)
theorem DQ_5 (dh : DHy un a5 t0 fn s2 r0 r1 r2 r3 mt n1 h V gy Z H E D) {f : Nat} {t : Ty} {π : Stk} {ω : List Nat} {Γ : List Ty} {Δ : List (Nat × Ty × Nat)} {w b : Nat} (c5 : nKd t = 5) (tw : TWf (f + 1) Γ.length (Δ.map (fun a => a.1)) t) (hl : ω.length = Γ.length) (dv : DVn t0 n1 s2 h E (V b) ω Δ) (hmw : mch t + w + b ≤ mt) (h5 : Δ ≠ [] → a5 ≤ b) (sk : π ≠ [] → SKb Z gy b π w) : (π = [] → GSk t0 n1 s2 h E (f + 1) t [] ω Γ Δ ≤ D (mch t) 0 b) ∧ (π ≠ [] → GSk t0 n1 s2 h E (f + 1) t π ω Γ Δ ≤ D (mch t) w b) := by sorry
theorem DQ_6 (dh : DHy un a5 t0 fn s2 r0 r1 r2 r3 mt n1 h V gy Z H E D) {f : Nat} (ih : DQs un a5 t0 mt n1 s2 h V gy Z E D f) {t : Ty} {π : Stk} {ω : List Nat} {Γ : List Ty} {Δ : List (Nat × Ty × Nat)} {w b : Nat} (c6 : nKd t = 6) (tw : TWf (f + 1) Γ.length (Δ.map (fun a => a.1)) t) (hl : ω.length = Γ.length) (dv : DVn t0 n1 s2 h E (V b) ω Δ) (hw : ∀ j, j < ω.length → vw ω j ≤ gy b) (hmw : mch t + w + b ≤ mt) (sk : π ≠ [] → SKb Z gy b π w) (cu : un = true ∨ COk (f + 1) t π.length) : (π = [] → GSk t0 n1 s2 h E (f + 1) t [] ω Γ Δ ≤ D (mch t) 0 b) ∧ (π ≠ [] → GSk t0 n1 s2 h E (f + 1) t π ω Γ Δ ≤ D (mch t) w b) := by sorry
theorem DQ_7 (dh : DHy un a5 t0 fn s2 r0 r1 r2 r3 mt n1 h V gy Z H E D) {f : Nat} (ih : DQs un a5 t0 mt n1 s2 h V gy Z E D f) {t : Ty} {π : Stk} {ω : List Nat} {Γ : List Ty} {Δ : List (Nat × Ty × Nat)} {w b : Nat} (c7 : nKd t = 7 ∨ nKd t = 11) (tw : TWf (f + 1) Γ.length (Δ.map (fun a => a.1)) t) (hl : ω.length = Γ.length) (dv : DVn t0 n1 s2 h E (V b) ω Δ) (hw : ∀ j, j < ω.length → vw ω j ≤ gy b) (hmw : mch t + w + b ≤ mt) (h5 : Δ ≠ [] → a5 ≤ b) (w0' : π = [] → w = 0) (sk : π ≠ [] → SKb Z gy b π w) (cu : un = true ∨ COk (f + 1) t π.length) : GSk t0 n1 s2 h E (f + 1) t π ω Γ Δ ≤ D (mch t) w b := by sorry
theorem DQ_9 (dh : DHy un a5 t0 fn s2 r0 r1 r2 r3 mt n1 h V gy Z H E D) {f : Nat} (ih : DQs un a5 t0 mt n1 s2 h V gy Z E D f) {t : Ty} {π : Stk} {ω : List Nat} {Γ : List Ty} {Δ : List (Nat × Ty × Nat)} {w b : Nat} (c9 : nKd t = 9) (tw : TWf (f + 1) Γ.length (Δ.map (fun a => a.1)) t) (hl : ω.length = Γ.length) (dv : DVn t0 n1 s2 h E (V b) ω Δ) (hw : ∀ j, j < ω.length → vw ω j ≤ gy b) (hmw : mch t + w + b ≤ mt) (h5 : Δ ≠ [] → a5 ≤ b) (w0' : π = [] → w = 0) (sk : π ≠ [] → SKb Z gy b π w) (cu : un = true ∨ COk (f + 1) t π.length) : GSk t0 n1 s2 h E (f + 1) t π ω Γ Δ ≤ D (mch t) w b := by sorry
theorem DQ_8 (dh : DHy un a5 t0 fn s2 r0 r1 r2 r3 mt n1 h V gy Z H E D) {f : Nat} (ih : DQs un a5 t0 mt n1 s2 h V gy Z E D f) {t : Ty} {π : Stk} {ω : List Nat} {Γ : List Ty} {Δ : List (Nat × Ty × Nat)} {w b : Nat} (c8 : nKd t = 8) (tw : TWf (f + 1) Γ.length (Δ.map (fun a => a.1)) t) (hl : ω.length = Γ.length) (dv : DVn t0 n1 s2 h E (V b) ω Δ) (hw : ∀ j, j < ω.length → vw ω j ≤ gy b) (hmw : mch t + w + b ≤ mt) (h5 : Δ ≠ [] → a5 ≤ b) (sk : π ≠ [] → SKb Z gy b π w) (cu : un = true ∨ COk (f + 1) t π.length) : (π = [] → GSk t0 n1 s2 h E (f + 1) t [] ω Γ Δ ≤ D (mch t) 0 b) ∧ (π ≠ [] → GSk t0 n1 s2 h E (f + 1) t π ω Γ Δ ≤ D (mch t) w b) := by sorry
theorem DQ_10 (dh : DHy un a5 t0 fn s2 r0 r1 r2 r3 mt n1 h V gy Z H E D) {f : Nat} (ih : DQs un a5 t0 mt n1 s2 h V gy Z E D f) {t : Ty} {π : Stk} {ω : List Nat} {Γ : List Ty} {Δ : List (Nat × Ty × Nat)} {w b : Nat} (c10 : nKd t = 10) (tw : TWf (f + 1) Γ.length (Δ.map (fun a => a.1)) t) (hl : ω.length = Γ.length) (dv : DVn t0 n1 s2 h E (V b) ω Δ) (hw : ∀ j, j < ω.length → vw ω j ≤ gy b) (hmw : mch t + w + b ≤ mt) (h5 : Δ ≠ [] → a5 ≤ b) (sk : π ≠ [] → SKb Z gy b π w) (cu : un = true ∨ COk (f + 1) t π.length) : (π = [] → GSk t0 n1 s2 h E (f + 1) t [] ω Γ Δ ≤ D (mch t) 0 b) ∧ (π ≠ [] → GSk t0 n1 s2 h E (f + 1) t π ω Γ Δ ≤ D (mch t) w b) := by sorry
theorem DQ_12 (dh : DHy un a5 t0 fn s2 r0 r1 r2 r3 mt n1 h V gy Z H E D) {f : Nat} (ih : DQs un a5 t0 mt n1 s2 h V gy Z E D f) {t : Ty} {π : Stk} {ω : List Nat} {Γ : List Ty} {Δ : List (Nat × Ty × Nat)} {w b : Nat} (c12 : nKd t = 12) (tw : TWf (f + 1) Γ.length (Δ.map (fun a => a.1)) t) (hl : ω.length = Γ.length) (dv : DVn t0 n1 s2 h E (V b) ω Δ) (hw : ∀ j, j < ω.length → vw ω j ≤ gy b) (hmw : mch t + w + b ≤ mt) (h5 : Δ ≠ [] → a5 ≤ b) (w0' : π = [] → w = 0) (sk : π ≠ [] → SKb Z gy b π w) (cu : un = true ∨ COk (f + 1) t π.length) : GSk t0 n1 s2 h E (f + 1) t π ω Γ Δ ≤ D (mch t) w b := by sorry
theorem DQ_all (dh : DHy un a5 t0 fn s2 r0 r1 r2 r3 mt n1 h V gy Z H E D) : ∀ f, DQs un a5 t0 mt n1 s2 h V gy Z E D f := by sorry
end PmX3

end
section
-- from 99x04
def mxr (k : Nat) (f : Nat → Nat) : Nat := (List.range k).foldr (fun i a => max (f i) a) 0
theorem mxr_le {k : Nat} {f : Nat → Nat} {i : Nat} (h : i < k) : f i ≤ mxr k f := by sorry
theorem le_mx {a b c : Nat} (h : a ≤ b ∨ a ≤ c) : a ≤ max b c := by sorry
def dcl0 (fn s2 r0 r1 r2 r3 : Nat) (Z : Nat → Nat → Nat) (n b : Nat) (D : Nat → Nat → Nat → Nat) : Nat :=
  max (if Nat.beq n 2 then r0 else 0) (max (mxr (n - 5) (fun i => max (fn + (Z b (n - 4 - (i + 1)) + D (i + 1) 0 (b + (n - (i + 1))))) (s2 + D (i + 1) 0 (b + (n - (i + 1)))))) (max (if Nat.ble 5 n then r1 + D (n - 4) 0 b else 0) (max (mxr (n - 8) (fun i => r2 + (D (i + 1) 0 b + D (n - 7 - (i + 1)) 0 b))) (mxr (n - 12) (fun i => mxr (n - 12 - i) (fun j => r3 + (D (i + 1) 0 b + (D (j + 1) 0 b + D (n - 10 - (i + 1) - (j + 1)) 0 b))))))))
def dcl1 (n w b : Nat) (D : Nat → Nat → Nat → Nat) : Nat :=
  max (mxr (n - 4) (fun i => max (D (i + 1) 0 b) (D (i + 1) (w - 2) b))) (mxr (n - 5) (fun i => max (max (D (i + 1) 0 (b + (n - (i + 1)))) (D (i + 1) (w - 2) (b + (n - (i + 1))))) (mxr (w - 1) (fun s => max (D (i + 1) 0 (b + (n - (i + 1)) + (s + 1))) (D (i + 1) (w - (s + 1 + 1)) (b + (n - (i + 1)) + (s + 1)))))))
def dcl (un : Bool) (a5 fn s2 r0 r1 r2 r3 : Nat) (V : Nat → Nat) (Z H : Nat → Nat → Nat) (n w b : Nat) (D : Nat → Nat → Nat → Nat) : Nat :=
  max (if Nat.beq n 1 && Nat.ble a5 b then (if Nat.beq w 0 then V b else H b w) else 0) (max (mxr (n - 2) (fun i => D (i + 1) (w + (n - (i + 1))) b)) (max (if un || Nat.beq w 0 then mxr (n - 3) (fun i => D (i + 1) w b + D (n - 2 - (i + 1)) w b) else 0) (if Nat.beq w 0 then dcl0 fn s2 r0 r1 r2 r3 Z n b D else dcl1 n w b D)))
def dget (T : List (List (List Nat))) (m i w b : Nat) : Nat := ((T.getD (m - i) []).getD w []).getD b 0
def dpt (un : Bool) (a5 fn s2 r0 r1 r2 r3 : Nat) (V : Nat → Nat) (Z H : Nat → Nat → Nat) (mt : Nat) : Nat → List (List (List Nat))
  | 0 => []
  | m + 1 => ((List.range (mt - m)).map (fun w => (List.range (mt - m - w)).map (fun b => dcl un a5 fn s2 r0 r1 r2 r3 V Z H (m + 1) w b (dget (dpt un a5 fn s2 r0 r1 r2 r3 V Z H mt m) m)))) :: dpt un a5 fn s2 r0 r1 r2 r3 V Z H mt m
def DT (un : Bool) (a5 fn s2 r0 r1 r2 r3 : Nat) (V : Nat → Nat) (Z H : Nat → Nat → Nat) (mt m w b : Nat) : Nat := dget (dpt un a5 fn s2 r0 r1 r2 r3 V Z H mt m) m m w b
section PmX4
variable {un : Bool} {a5 fn s2 r0 r1 r2 r3 mt : Nat} {V : Nat → Nat} {Z H : Nat → Nat → Nat}
theorem dpt_get : ∀ (m i w b : Nat), 1 ≤ i → i ≤ m → dget (dpt un a5 fn s2 r0 r1 r2 r3 V Z H mt m) m i w b = DT un a5 fn s2 r0 r1 r2 r3 V Z H mt i w b := by sorry
theorem DT_cell {m w b : Nat} (h : m + 1 + w + b ≤ mt) : DT un a5 fn s2 r0 r1 r2 r3 V Z H mt (m + 1) w b = dcl un a5 fn s2 r0 r1 r2 r3 V Z H (m + 1) w b (dget (dpt un a5 fn s2 r0 r1 r2 r3 V Z H mt m) m) := by sorry
variable {D : Nat → Nat → Nat → Nat}
theorem dcl_ops {n w b i : Nat} (i1 : 1 ≤ i) (h : i + 2 ≤ n) : D i (w + (n - i)) b ≤ dcl un a5 fn s2 r0 r1 r2 r3 V Z H n w b D := by sorry
theorem dcl_or {n w b i j : Nat} (i1 : 1 ≤ i) (j1 : 1 ≤ j) (h : i + j + 2 = n) (hu : un = true ∨ w = 0) : D i w b + D j w b ≤ dcl un a5 fn s2 r0 r1 r2 r3 V Z H n w b D := by sorry
theorem dcl_z {n b v : Nat} (h : v ≤ dcl0 fn s2 r0 r1 r2 r3 Z n b D) : v ≤ dcl un a5 fn s2 r0 r1 r2 r3 V Z H n 0 b D := by sorry
theorem dcl_s {n w b v : Nat} (h2 : 2 ≤ w) (h : v ≤ dcl1 n w b D) : v ≤ dcl un a5 fn s2 r0 r1 r2 r3 V Z H n w b D := by sorry
theorem DT_ok : DPc un a5 mt fn s2 r0 r1 r2 r3 V Z H (DT un a5 fn s2 r0 r1 r2 r3 V Z H mt) := by sorry
end PmX4

end
section
-- from 99x05
theorem Zx_bd {x b : Nat} : ∀ (l : List (Nat × Nat)), (∀ u ∈ l, u.2 + u.1 * x ≤ b) → l.foldr (fun u a => max (u.2 + u.1 * x) a) 0 ≤ b := by sorry
theorem Zx_at {x : Nat} : ∀ (l : List (Nat × Nat)), l ≠ [] → ∃ u ∈ l, l.foldr (fun u a => max (u.2 + u.1 * x) a) 0 = u.2 + u.1 * x := by sorry
def fg1s (W : FrT) : Bool := (List.range 39).all (fun r => Nat.blt 0 (frg W r).length && (frg W r).all (fun e => Nat.ble 1 e.1))
theorem fg1s_1 : fg1s fg1 = true := by sorry
theorem fg1s_q : fg1s fgq = true := by sorry
theorem fg1s_at {W : FrT} (h : fg1s W = true) {r : Nat} (hr : r ≤ 38) (y : Nat) : ∃ e ∈ frg W r, 1 ≤ e.1 ∧ Zx W y (r + 2) = e.2 + e.1 * y := by sorry
theorem Zw_mono {W : FrT} (h : fgm W = true) {r r' y : Nat} (hr : r ≤ r') (h38 : r' ≤ 38) : Zx W y (r + 2) ≤ Zx W y (r' + 2) := by sorry
theorem SKb_zm {Z : Nat → Nat → Nat} {gy : Nat → Nat} {b : Nat} (hZ : ∀ s s', s ≤ s' → Z b s ≤ Z b s') : ∀ (π : Stk) (w : Nat), SKb Z gy b π w → 2 * cnS π ≤ w ∧ (1 ≤ cnS π → zm π ≤ Z b (w + 1 - 2 * cnS π)) := by sorry
def Hdw (X7 : Nat) (eb e2 Z : Nat → Nat) (w : Nat) : Nat := max X7 (max (eb (Z (w - 1))) (if Nat.ble 4 w then e2 (Z (w - 3)) else 0))
theorem E2_w {X7 b : Nat} {eb e2 gy : Nat → Nat} {Z : Nat → Nat → Nat} (he : ∀ z z', z ≤ z' → eb z ≤ eb z') (he2 : ∀ z z', z ≤ z' → e2 z ≤ e2 z') (hZ : ∀ s s', s ≤ s' → Z b s ≤ Z b s') (π : Stk) (w : Nat) (h : SKb Z gy b π w) : E2 X7 eb e2 π ≤ Hdw X7 eb e2 (Z b) w := by sorry
theorem mxr_bd {k b : Nat} {f : Nat → Nat} (h : ∀ i, i < k → f i ≤ b) : mxr k f ≤ b := by sorry
def cpw (F : FrT) (hv yg L z : Nat) : Nat := mxr (L - 7) (fun i => Zx F (max (max z yg) (hv + max 1 (Zx F yg (i + 3)))) (L - 5 - i))
theorem cpw_mono {F : FrT} {hv yg L : Nat} (z z' : Nat) (h : z ≤ z') : cpw F hv yg L z ≤ cpw F hv yg L z' := by sorry
theorem mxr_mono {k : Nat} {f g : Nat → Nat} (h : ∀ i, f i ≤ g i) : mxr k f ≤ mxr k g := by sorry
def gyw (W : FrT) (y b : Nat) : Nat := Zx W y (min b 38 + 2)
def Zbw (F W : FrT) (y b s : Nat) : Nat := Zx F (gyw W y b) (min (s + 2) 58)
def X7w (F W : FrT) (y cd mt : Nat) : Nat := max y (max (Zx F y (cd - 5)) (mxr (mt - 2) (fun b => Zx F (gyw W y b) (mt - 3 - b))))
def cpo (F W : FrT) (hv y cd mt z : Nat) : Nat := max (cpw F hv y (cd - 2) z) (mxr (mt - 2) (fun b => cpw F hv (gyw W y b) (mt - b) z))
def ebw (F W : FrT) (hv y cd mt E0 p wB ob z : Nat) : Nat := max (max (E0 + p * max z wB) (y + ob * z)) (cpo F W hv y cd mt z)
def e2w (F W : FrT) (hv y cd mt k z : Nat) : Nat := max (Zx F (max z y) (k + 2)) (cpo F W hv y cd mt z)
def Vbw (F W : FrT) (y cd b : Nat) : Nat := max (Zx F y (cd - 2)) (if Nat.ble 5 b then Zbw F W y b (b - 4) else 0)
theorem cpo_mono {F W : FrT} {hv y cd mt : Nat} (z z' : Nat) (h : z ≤ z') : cpo F W hv y cd mt z ≤ cpo F W hv y cd mt z' := by sorry
theorem ebw_mono {F W : FrT} {hv y cd mt E0 p wB ob : Nat} (z z' : Nat) (h : z ≤ z') : ebw F W hv y cd mt E0 p wB ob z ≤ ebw F W hv y cd mt E0 p wB ob z' := by sorry
theorem e2w_mono {F W : FrT} {hv y cd mt k : Nat} (z z' : Nat) (h : z ≤ z') : e2w F W hv y cd mt k z ≤ e2w F W hv y cd mt k z' := by sorry
theorem gyw_mono {W : FrT} (h : fgm W = true) {y b b' : Nat} (hb : b ≤ b') : gyw W y b ≤ gyw W y b' := by sorry
theorem Zbw_mono {F W : FrT} (h : fgm W = true) (hF : frm F = true) {y b b' s s' : Nat} (hb : b ≤ b') (hs : s ≤ s') : Zbw F W y b s ≤ Zbw F W y b' s' := by sorry
def dpD (un : Bool) (F W : FrT) (a5 hv fn s2 r0 r1 r2 r3 E0 p wB ob k y cd m : Nat) : Nat := DT un a5 fn s2 r0 r1 r2 r3 (Vbw F W y cd) (Zbw F W y) (fun b => Hdw (X7w F W y cd m) (ebw F W hv y cd m E0 p wB ob) (e2w F W hv y cd m k) (Zbw F W y b)) m m 0 0
section PmX5
variable {t0 fn s2 hv r0 r1 r2 r3 x0 : Nat} {n1 h : Nat → Nat} {P Q : List (List Nat)} {F G W : FrT} {X : List Nat} {B C β' : Ty} {Γ0 : List Ty}
theorem txt_cp (hm : ∀ y y', y ≤ y' → h y ≤ h y') (T : TBs 58 t0 fn s2 hv r0 r1 r2 r3 x0 n1 h P Q F G X) (hFm : frm F = true) (H1 : ∀ y, h y ≤ hv + max 1 y) {X7 x M : Nat} {eb e2 : Nat → Nat} (he : ∀ z z', z ≤ z' → eb z ≤ eb z') (he2 : ∀ z z', z ≤ z' → e2 z ≤ e2 z') (hx : x0 ≤ x) (M56 : M ≤ 56) (h7 : Zx F x (M - 3) ≤ X7) (hcp : ∀ z, cpw F hv x M z ≤ eb z ∧ cpw F hv x M z ≤ e2 z) {A : Ty} {ω : List Nat} (o : ok ω.length A = true) (ht : tch A + 2 ≤ M) (hw : ∀ j, j < ω.length → vw ω j ≤ x) : ∀ ρ, ρ ≠ [] → vz t0 n1 s2 h (E2 X7 eb e2) A ρ ω ≤ E2 X7 eb e2 ρ := by sorry
end PmX5

end
section
-- from 99x06
section PmX6
variable {t0 fn s2 hv r0 r1 r2 r3 x0 : Nat} {n1 h : Nat → Nat} {P Q : List (List Nat)} {F G W : FrT} {X : List Nat} {B C β' : Ty} {Γ0 : List Ty}
theorem dh_ok (hn : NC t0 n1 s2 h) (hm : ∀ y y', y ≤ y' → h y ≤ h y') (T : TBs 58 t0 fn s2 hv r0 r1 r2 r3 x0 n1 h P Q F G X) (hFm : frm F = true) (hgr : fgc F W hv = true) (hWm : fgm W = true) (hW1 : fg1s W = true) (hW : (1, 0) ∈ frg W 0) (H1 : ∀ y, h y ≤ hv + max 1 y) {un : Bool} {a5 ob cd wB y E0 p k mt : Nat} (m30 : mt ≤ 30) (a55 : a5 ≤ 5) (y01 : x0 ≤ y) : DHy un a5 t0 fn s2 r0 r1 r2 r3 mt n1 h (Vbw F W y cd) (gyw W y) (Zbw F W y) (fun b => Hdw (X7w F W y cd mt) (ebw F W hv y cd mt E0 p wB ob) (e2w F W hv y cd mt k) (Zbw F W y b)) (E2 (X7w F W y cd mt) (ebw F W hv y cd mt E0 p wB ob) (e2w F W hv y cd mt k)) (DT un a5 fn s2 r0 r1 r2 r3 (Vbw F W y cd) (Zbw F W y) (fun b => Hdw (X7w F W y cd mt) (ebw F W hv y cd mt E0 p wB ob) (e2w F W hv y cd mt k) (Zbw F W y b)) mt) := by sorry
theorem gen_fin5 (hn : NC t0 n1 s2 h) (hm : ∀ y y', y ≤ y' → h y ≤ h y') (hh : ∀ y δ, h (y + δ) ≤ h y + δ) (T : TBs 58 t0 fn s2 hv r0 r1 r2 r3 x0 n1 h P Q F G X) (hFm : frm F = true) (hgr : fgc F W hv = true) (hWm : fgm W = true) (hW1 : fg1s W = true) (hW : (1, 0) ∈ frg W 0) (H1 : ∀ y, h y ≤ hv + max 1 y) {f : Nat} {t S : Ty} {Δ1 : List Ty} {Δ : List (Nat × Ty × Nat)} {un : Bool} {a5 ob cd wB Bd y E0 p k : Nat} (w : TWf f (cxs Δ1 Γ0 (tAll B C)).length (Δ.map (fun a => a.1)) t) (he : TE (cxs Δ1 Γ0 (tAll B C)) Δ) (cu : un = true ∨ COk f t 0) (hm30 : mch t ≤ 30) (hb0 : ∀ b ∈ Γ0, nsch b = true ∨ flv b ≤ ob) (hb1 : ∀ b ∈ Δ1, nsch b = true ∨ flv b ≤ ob) (hdc : dch Δ ≤ cd) (hcd : cd ≤ 56) (a55 : a5 ≤ 5) (ha5 : Δ ≠ [] → a5 = 0) (y01 : x0 ≤ y) (hw : ∀ j, j < (cxs Δ1 Γ0 β').length → vw (onz t0 n1 s2 h (cxs Δ1 Γ0 β')) j ≤ y) (go : ∀ E Z, AQh t0 n1 s2 h E Z f t [] (onz t0 n1 s2 h (cxs Δ1 Γ0 β')) → HEk t0 n1 s2 h E (cxs Δ1 Γ0 (tAll B C)) (onz t0 n1 s2 h (cxs Δ1 Γ0 β')) → GOk t0 n1 s2 h E f t [] (onz t0 n1 s2 h (cxs Δ1 Γ0 β')) (cxs Δ1 Γ0 (tAll B C)) Δ) (vZ : ∀ z, nz t0 n1 s2 h (hzx h z (nz t0 n1 s2 h (onz t0 n1 s2 h Γ0) B) :: onz t0 n1 s2 h Γ0) C ≤ E0 + p * max z wB) (hwB : h (nz t0 n1 s2 h (onz t0 n1 s2 h Γ0) B) ≤ wB) (wBy : wB ≤ y) (hk : tch C ≤ k) (hk2 : k ≤ 50) (R1 : dpD un F W a5 hv fn s2 r0 r1 r2 r3 E0 p wB ob k y cd (mch t) ≤ Bd) (hS : tyF f t (cxs Δ1 Γ0 (tAll B C)) Δ = .inr S) : nz t0 n1 s2 h (onz t0 n1 s2 h (cxs Δ1 Γ0 β')) S ≤ Bd := by sorry
end PmX6

end
section
-- from 99x07
def lnd (un : Bool) (L : LnT) (F W : FrT) (hv fn s2 r0 r1 r2 r3 wB Bd a b m0 m1 : Nat) : Bool := (List.range b).all (fun c => Nat.blt c a || (lng L c).all (fun s => (List.range m1).all (fun m => Nat.blt m m0 || (Nat.blt 58 (c + 2 * m) || ((Nat.blt (58 - 2 * m - c) 5 || Nat.ble (dpD un F W 0 hv fn s2 r0 r1 r2 r3 s.2.2.1 s.2.2.2.1 wB s.2.2.2.2.1 s.2.2.2.2.2 s.1 (58 - 2 * m - c) m) Bd) && Nat.ble (dpD un F W 5 hv fn s2 r0 r1 r2 r3 s.2.2.1 s.2.2.2.1 wB s.2.2.2.2.1 s.2.2.2.2.2 s.1 0 m) Bd)))))
end
section
-- from 99x08
theorem lnd_get {un : Bool} {L : LnT} {F W : FrT} {hv fn s2 r0 r1 r2 r3 wB Bd a b m0 m1 c m : Nat} (h : lnd un L F W hv fn s2 r0 r1 r2 r3 wB Bd a b m0 m1 = true) (ha : a ≤ c) (hb : c < b) (h0 : m0 ≤ m) (h1 : m < m1) (hc : c + 2 * m ≤ 58) {s : Nat × Nat × Nat × Nat × Nat × Nat} (hs : s ∈ lng L c) : (5 ≤ 58 - 2 * m - c → dpD un F W 0 hv fn s2 r0 r1 r2 r3 s.2.2.1 s.2.2.2.1 wB s.2.2.2.2.1 s.2.2.2.2.2 s.1 (58 - 2 * m - c) m ≤ Bd) ∧ dpD un F W 5 hv fn s2 r0 r1 r2 r3 s.2.2.1 s.2.2.2.1 wB s.2.2.2.2.1 s.2.2.2.2.2 s.1 0 m ≤ Bd := by sorry
theorem lnz_e1 {W : FrT} (h : fg1s W = true) {r : Nat} (hr : r ≤ 38) {e : Nat × Nat} (he : e ∈ frg W r) : 1 ≤ e.1 := by sorry
section PmX8
variable {f : Nat} {t C : Ty} {Γ0 Δ1 : List Ty} {Δ : List (Nat × Ty × Nat)} {o : Bool}
theorem dch_five : ∀ {Δ : List (Nat × Ty × Nat)} {Γ : List Ty}, TE Γ Δ → Δ ≠ [] → 5 ≤ dch Δ := by sorry
end PmX8

end
section
-- from 99x09
def ux1 : List (List Nat) := [[], [], [], [], [], [], [], [], [], [], [], [], [], [], [], [], [], [], [], [], [], [], [], [], [], [], [], [0, 85, 2, 65, 116, 65, 123, 129, 130, 143, 158, 173, 184, 195, 198, 227], [0, 85, 2, 71, 116, 71, 114, 125, 142, 149, 159, 179, 196, 213, 213, 233], [0, 64, 2, 71, 116, 71, 110, 125, 142, 142, 152, 179, 196, 213, 213, 233], [0, 58, 2, 71, 86, 71, 110, 125, 142, 142, 150, 179, 196, 213, 213, 233], [0, 58, 2, 97, 97, 97, 136, 178, 194, 194, 203, 259, 275, 291, 291, 340], [0, 64, 2, 115, 115, 115, 153, 205, 230, 230, 233, 295, 320, 345, 345, 385], [0, 58, 2, 115, 115, 115, 151, 199, 230, 230, 230, 283, 314, 345, 345, 367], [0, 51, 2, 135, 135, 135, 169, 243, 270, 270, 270, 351, 378, 405, 405, 459], [0, 51, 2, 139, 139, 149, 173, 247, 278, 293, 293, 355, 386, 437, 437, 463], [0, 79, 2, 165, 165, 175, 220, 298, 330, 346, 346, 431, 463, 517, 517, 0], [0, 74, 2, 171, 171, 175, 209, 304, 342, 346, 346, 437, 475, 517, 0, 0], [0, 57, 2, 184, 184, 184, 220, 336, 368, 368, 368, 488, 520, 0, 0, 0], [0, 61, 2, 197, 197, 199, 237, 344, 394, 394, 396, 491, 0, 0, 0, 0], [0, 82, 2, 242, 242, 262, 296, 466, 484, 514, 514, 0, 0, 0, 0, 0], [0, 82, 2, 248, 248, 256, 276, 444, 496, 508, 0, 0, 0, 0, 0, 0], [0, 56, 2, 257, 257, 257, 289, 481, 514, 0, 0, 0, 0, 0, 0, 0], [0, 58, 2, 295, 295, 379, 379, 535, 0, 0, 0, 0, 0, 0, 0, 0], [0, 72, 2, 377, 377, 449, 449, 0, 0, 0, 0, 0, 0, 0, 0, 0], [0, 82, 2, 381, 381, 388, 0, 0, 0, 0, 0, 0, 0, 0, 0, 0], [0, 42, 2, 414, 414, 0, 0, 0, 0, 0, 0, 0, 0, 0, 0, 0], [0, 40, 2, 412, 0, 0, 0, 0, 0, 0, 0, 0, 0, 0, 0, 0]]
def uxq : List (List Nat) := [[], [], [], [], [], [], [], [], [], [], [], [], [], [], [], [], [], [], [], [], [], [], [], [], [], [], [], [0, 42, 1, 35, 66, 35, 59, 72, 70, 71, 77, 88, 94, 105, 106, 114], [0, 36, 1, 40, 56, 40, 64, 66, 80, 80, 82, 98, 104, 120, 120, 122], [0, 33, 1, 42, 48, 42, 64, 66, 84, 84, 84, 102, 108, 126, 126, 126], [0, 33, 1, 42, 48, 42, 60, 66, 84, 84, 84, 102, 108, 126, 126, 126], [0, 28, 1, 55, 55, 55, 82, 91, 110, 110, 118, 137, 146, 165, 165, 173], [0, 30, 1, 69, 69, 69, 96, 114, 138, 138, 141, 165, 183, 207, 207, 210], [0, 27, 1, 69, 69, 69, 96, 114, 138, 138, 141, 165, 183, 207, 207, 210], [0, 24, 1, 70, 70, 70, 97, 115, 140, 140, 142, 167, 185, 210, 210, 212], [0, 32, 1, 105, 105, 105, 132, 177, 210, 210, 210, 249, 282, 315, 315, 321], [0, 32, 1, 114, 114, 114, 144, 194, 228, 228, 228, 274, 308, 342, 342, 0], [0, 31, 1, 116, 116, 116, 146, 196, 232, 232, 232, 276, 312, 348, 0, 0], [0, 35, 1, 131, 131, 144, 155, 219, 262, 276, 276, 307, 350, 0, 0, 0], [0, 33, 1, 128, 128, 128, 156, 216, 256, 256, 256, 304, 0, 0, 0, 0], [0, 35, 1, 172, 172, 172, 205, 304, 344, 344, 344, 0, 0, 0, 0, 0], [0, 41, 1, 183, 183, 183, 210, 309, 366, 366, 0, 0, 0, 0, 0, 0], [0, 30, 1, 183, 183, 183, 225, 309, 366, 0, 0, 0, 0, 0, 0, 0], [0, 30, 1, 215, 215, 215, 275, 375, 0, 0, 0, 0, 0, 0, 0, 0], [0, 33, 1, 276, 276, 276, 312, 0, 0, 0, 0, 0, 0, 0, 0, 0], [0, 33, 1, 284, 284, 309, 0, 0, 0, 0, 0, 0, 0, 0, 0, 0], [0, 20, 1, 298, 298, 0, 0, 0, 0, 0, 0, 0, 0, 0, 0, 0], [0, 22, 1, 290, 0, 0, 0, 0, 0, 0, 0, 0, 0, 0, 0, 0]]
def uy1 : List (List Nat) := [[], [], [], [], [], [], [], [], [], [], [], [], [], [], [], [], [], [], [], [], [], [], [], [], [], [], [], [0, 0, 2, 0, 0, 2, 17, 19, 80, 92, 92, 94, 143, 164, 175, 179], [0, 0, 2, 0, 0, 2, 17, 19, 86, 98, 98, 100, 149, 170, 187, 187], [0, 0, 2, 0, 0, 2, 17, 19, 86, 98, 98, 100, 149, 170, 187, 187], [0, 0, 2, 0, 0, 2, 17, 19, 86, 98, 98, 100, 149, 170, 187, 187], [0, 0, 2, 0, 0, 2, 17, 19, 115, 133, 133, 135, 205, 241, 257, 257], [0, 0, 2, 0, 0, 2, 19, 21, 134, 152, 152, 154, 234, 269, 294, 294], [0, 0, 2, 0, 0, 2, 23, 25, 134, 148, 148, 151, 230, 256, 284, 286], [0, 0, 2, 0, 0, 2, 23, 25, 156, 174, 174, 176, 276, 309, 336, 336], [0, 0, 2, 0, 0, 2, 23, 25, 160, 178, 178, 197, 280, 313, 344, 377], [0, 0, 2, 0, 0, 2, 37, 39, 191, 205, 205, 221, 343, 363, 393, 419], [0, 0, 2, 0, 0, 2, 37, 39, 197, 211, 211, 221, 349, 375, 406, 425], [0, 0, 2, 0, 0, 2, 37, 39, 211, 227, 227, 229, 382, 403, 435, 458], [0, 0, 2, 0, 0, 2, 41, 43, 225, 239, 239, 257, 393, 429, 458, 497], [0, 0, 2, 0, 0, 2, 55, 57, 278, 294, 299, 317, 530, 542, 579, 642], [0, 0, 2, 0, 0, 2, 55, 57, 283, 297, 297, 311, 507, 538, 573, 0], [0, 0, 2, 0, 0, 2, 55, 57, 293, 317, 317, 320, 545, 558, 0, 0], [0, 0, 2, 0, 0, 2, 59, 61, 333, 356, 421, 445, 603, 0, 0, 0], [0, 0, 2, 0, 0, 2, 73, 75, 423, 441, 498, 522, 0, 0, 0, 0], [0, 0, 2, 0, 0, 2, 83, 85, 430, 451, 451, 0, 0, 0, 0, 0], [0, 0, 2, 0, 0, 2, 83, 85, 465, 488, 0, 0, 0, 0, 0, 0], [0, 0, 2, 0, 0, 2, 83, 85, 463, 0, 0, 0, 0, 0, 0, 0]]
def uyq : List (List Nat) := [[], [], [], [], [], [], [], [], [], [], [], [], [], [], [], [], [], [], [], [], [], [], [], [], [], [], [], [0, 0, 1, 0, 0, 3, 8, 8, 45, 45, 45, 66, 75, 86, 87, 114], [0, 0, 1, 0, 0, 3, 8, 8, 50, 50, 50, 71, 80, 96, 96, 119], [0, 0, 1, 0, 0, 3, 8, 8, 52, 52, 52, 73, 82, 100, 100, 121], [0, 0, 1, 0, 0, 3, 8, 8, 52, 52, 52, 73, 82, 100, 100, 121], [0, 0, 1, 0, 0, 3, 8, 8, 68, 68, 68, 98, 113, 132, 132, 170], [0, 0, 1, 0, 0, 3, 10, 10, 83, 83, 83, 113, 137, 161, 161, 194], [0, 0, 1, 0, 0, 3, 10, 10, 83, 83, 83, 113, 137, 161, 161, 194], [0, 0, 1, 0, 0, 3, 10, 10, 84, 84, 84, 114, 138, 163, 163, 195], [0, 0, 1, 0, 0, 3, 16, 16, 122, 122, 122, 152, 203, 236, 236, 260], [0, 0, 1, 0, 0, 3, 16, 16, 132, 132, 132, 165, 222, 256, 256, 285], [0, 0, 1, 0, 0, 3, 16, 16, 134, 134, 134, 167, 224, 260, 260, 287], [0, 0, 1, 0, 0, 3, 22, 22, 150, 150, 167, 177, 246, 289, 311, 311], [0, 0, 1, 0, 0, 3, 22, 22, 147, 147, 152, 177, 243, 283, 296, 297], [0, 0, 1, 0, 0, 3, 24, 24, 195, 195, 195, 231, 338, 378, 378, 407], [0, 0, 1, 0, 0, 3, 28, 28, 206, 206, 206, 236, 341, 398, 398, 0], [0, 0, 1, 0, 0, 3, 28, 28, 206, 206, 206, 251, 341, 398, 0, 0], [0, 0, 1, 0, 0, 3, 30, 30, 243, 243, 243, 306, 423, 0, 0, 0], [0, 0, 1, 0, 0, 3, 34, 34, 305, 305, 305, 344, 0, 0, 0, 0], [0, 0, 1, 0, 0, 3, 34, 34, 318, 318, 344, 0, 0, 0, 0, 0], [0, 0, 1, 0, 0, 3, 36, 36, 330, 330, 0, 0, 0, 0, 0, 0], [0, 0, 1, 0, 0, 3, 46, 46, 321, 0, 0, 0, 0, 0, 0, 0]]
def jxd (L : LnT) (T0 T5 : List (List Nat)) (F W : FrT) (hv fn s2 r0 r1 r2 r3 wB c m1 : Nat) : Bool := (lng L c).all (fun s => (List.range m1).all (fun m => Nat.blt 55 (c + m) || ((Nat.blt (55 - c - m) 5 || Nat.ble (dpD false F W 0 hv fn s2 r0 r1 r2 r3 s.2.2.1 s.2.2.2.1 wB s.2.2.2.2.1 s.2.2.2.2.2 s.1 (55 - c - m) m) (bhg T0 c m)) && Nat.ble (dpD false F W 5 hv fn s2 r0 r1 r2 r3 s.2.2.1 s.2.2.2.1 wB s.2.2.2.2.1 s.2.2.2.2.2 s.1 0 m) (bhg T5 c m))))
def jxs (T0 T5 : List (List Nat)) (R : Nat) : Bool := (List.range 48).all (fun c => (List.range 16).all (fun m => (List.range 16).all (fun n => (Nat.blt 58 (c + 5 + m + n) || Nat.ble (bhg T0 c m + bhg T0 c n) R) && (Nat.blt 58 (c + m + n) || Nat.ble (bhg T5 c m + bhg T5 c n) R))))
theorem jx1_s : jxs ux1 uy1 887 = true := by sorry
theorem jxq_s : jxs uxq uyq 597 = true := by sorry
end
section
-- from 99x09q0
theorem jwq_x27 : jxd jwq uxq uyq frq fgq 0 1 1 1 3 2 1 1 27 16 = true := by sorry
theorem jwq_x28 : jxd jwq uxq uyq frq fgq 0 1 1 1 3 2 1 1 28 16 = true := by sorry
theorem jwq_x29 : jxd jwq uxq uyq frq fgq 0 1 1 1 3 2 1 1 29 16 = true := by sorry
theorem jwq_x30 : jxd jwq uxq uyq frq fgq 0 1 1 1 3 2 1 1 30 16 = true := by sorry
end
section
-- from 99x09q1
theorem jwq_x31 : jxd jwq uxq uyq frq fgq 0 1 1 1 3 2 1 1 31 16 = true := by sorry
theorem jwq_x32 : jxd jwq uxq uyq frq fgq 0 1 1 1 3 2 1 1 32 16 = true := by sorry
theorem jwq_x33 : jxd jwq uxq uyq frq fgq 0 1 1 1 3 2 1 1 33 16 = true := by sorry
theorem jwq_x34 : jxd jwq uxq uyq frq fgq 0 1 1 1 3 2 1 1 34 16 = true := by sorry
end
section
-- from 99x09q2
theorem jwq_x35 : jxd jwq uxq uyq frq fgq 0 1 1 1 3 2 1 1 35 16 = true := by sorry
theorem jwq_x36 : jxd jwq uxq uyq frq fgq 0 1 1 1 3 2 1 1 36 16 = true := by sorry
theorem jwq_x37 : jxd jwq uxq uyq frq fgq 0 1 1 1 3 2 1 1 37 16 = true := by sorry
theorem jwq_x38 : jxd jwq uxq uyq frq fgq 0 1 1 1 3 2 1 1 38 16 = true := by sorry
end
section
-- from 99x09q3
theorem jwq_x39 : jxd jwq uxq uyq frq fgq 0 1 1 1 3 2 1 1 39 16 = true := by sorry
theorem jwq_x40 : jxd jwq uxq uyq frq fgq 0 1 1 1 3 2 1 1 40 16 = true := by sorry
theorem jwq_x41 : jxd jwq uxq uyq frq fgq 0 1 1 1 3 2 1 1 41 16 = true := by sorry
theorem jwq_x42 : jxd jwq uxq uyq frq fgq 0 1 1 1 3 2 1 1 42 16 = true := by sorry
theorem jwq_x43 : jxd jwq uxq uyq frq fgq 0 1 1 1 3 2 1 1 43 16 = true := by sorry
theorem jwq_x44 : jxd jwq uxq uyq frq fgq 0 1 1 1 3 2 1 1 44 16 = true := by sorry
theorem jwq_x45 : jxd jwq uxq uyq frq fgq 0 1 1 1 3 2 1 1 45 16 = true := by sorry
theorem jwq_x46 : jxd jwq uxq uyq frq fgq 0 1 1 1 3 2 1 1 46 16 = true := by sorry
theorem jwq_x47 : jxd jwq uxq uyq frq fgq 0 1 1 1 3 2 1 1 47 16 = true := by sorry
end
section
-- from 99x09r0
theorem jw1_x27 : jxd jw1 ux1 uy1 fr1 fg1 1 2 3 2 2 2 2 2 27 16 = true := by sorry
theorem jw1_x28 : jxd jw1 ux1 uy1 fr1 fg1 1 2 3 2 2 2 2 2 28 16 = true := by sorry
theorem jw1_x29 : jxd jw1 ux1 uy1 fr1 fg1 1 2 3 2 2 2 2 2 29 16 = true := by sorry
theorem jw1_x30 : jxd jw1 ux1 uy1 fr1 fg1 1 2 3 2 2 2 2 2 30 16 = true := by sorry
end
section
-- from 99x09r1
theorem jw1_x31 : jxd jw1 ux1 uy1 fr1 fg1 1 2 3 2 2 2 2 2 31 16 = true := by sorry
theorem jw1_x32 : jxd jw1 ux1 uy1 fr1 fg1 1 2 3 2 2 2 2 2 32 16 = true := by sorry
theorem jw1_x33 : jxd jw1 ux1 uy1 fr1 fg1 1 2 3 2 2 2 2 2 33 16 = true := by sorry
theorem jw1_x34 : jxd jw1 ux1 uy1 fr1 fg1 1 2 3 2 2 2 2 2 34 16 = true := by sorry
end
section
-- from 99x09r2
theorem jw1_x35 : jxd jw1 ux1 uy1 fr1 fg1 1 2 3 2 2 2 2 2 35 16 = true := by sorry
theorem jw1_x36 : jxd jw1 ux1 uy1 fr1 fg1 1 2 3 2 2 2 2 2 36 16 = true := by sorry
theorem jw1_x37 : jxd jw1 ux1 uy1 fr1 fg1 1 2 3 2 2 2 2 2 37 16 = true := by sorry
theorem jw1_x38 : jxd jw1 ux1 uy1 fr1 fg1 1 2 3 2 2 2 2 2 38 16 = true := by sorry
end
section
-- from 99x09r3
theorem jw1_x39 : jxd jw1 ux1 uy1 fr1 fg1 1 2 3 2 2 2 2 2 39 16 = true := by sorry
theorem jw1_x40 : jxd jw1 ux1 uy1 fr1 fg1 1 2 3 2 2 2 2 2 40 16 = true := by sorry
theorem jw1_x41 : jxd jw1 ux1 uy1 fr1 fg1 1 2 3 2 2 2 2 2 41 16 = true := by sorry
theorem jw1_x42 : jxd jw1 ux1 uy1 fr1 fg1 1 2 3 2 2 2 2 2 42 16 = true := by sorry
theorem jw1_x43 : jxd jw1 ux1 uy1 fr1 fg1 1 2 3 2 2 2 2 2 43 16 = true := by sorry
theorem jw1_x44 : jxd jw1 ux1 uy1 fr1 fg1 1 2 3 2 2 2 2 2 44 16 = true := by sorry
theorem jw1_x45 : jxd jw1 ux1 uy1 fr1 fg1 1 2 3 2 2 2 2 2 45 16 = true := by sorry
theorem jw1_x46 : jxd jw1 ux1 uy1 fr1 fg1 1 2 3 2 2 2 2 2 46 16 = true := by sorry
theorem jw1_x47 : jxd jw1 ux1 uy1 fr1 fg1 1 2 3 2 2 2 2 2 47 16 = true := by sorry
end
section
-- from 99x10
theorem jxd_get {L : LnT} {T0 T5 : List (List Nat)} {F W : FrT} {hv fn s2 r0 r1 r2 r3 wB c m1 m : Nat} (h : jxd L T0 T5 F W hv fn s2 r0 r1 r2 r3 wB c m1 = true) (hm : m < m1) (hc : c + m ≤ 55) {s : Nat × Nat × Nat × Nat × Nat × Nat} (hs : s ∈ lng L c) : (5 ≤ 55 - c - m → dpD false F W 0 hv fn s2 r0 r1 r2 r3 s.2.2.1 s.2.2.2.1 wB s.2.2.2.2.1 s.2.2.2.2.2 s.1 (55 - c - m) m ≤ bhg T0 c m) ∧ dpD false F W 5 hv fn s2 r0 r1 r2 r3 s.2.2.1 s.2.2.2.1 wB s.2.2.2.2.1 s.2.2.2.2.2 s.1 0 m ≤ bhg T5 c m := by sorry
theorem jxs_get {T0 T5 : List (List Nat)} {R c m n : Nat} (h : jxs T0 T5 R = true) (hc : c < 48) (hm : m < 16) (hn : n < 16) : (c + 5 + m + n ≤ 58 → bhg T0 c m + bhg T0 c n ≤ R) ∧ (c + m + n ≤ 58 → bhg T5 c m + bhg T5 c n ≤ R) := by sorry
theorem jx1_all {c m : Nat} (h27 : 27 ≤ c) (h47 : c ≤ 47) (m15 : m < 16) (hc : c + m ≤ 55) {s : Nat × Nat × Nat × Nat × Nat × Nat} (hs : s ∈ lng jw1 c) : (5 ≤ 55 - c - m → dpD false fr1 fg1 0 1 2 3 2 2 2 2 s.2.2.1 s.2.2.2.1 2 s.2.2.2.2.1 s.2.2.2.2.2 s.1 (55 - c - m) m ≤ bhg ux1 c m) ∧ dpD false fr1 fg1 5 1 2 3 2 2 2 2 s.2.2.1 s.2.2.2.1 2 s.2.2.2.2.1 s.2.2.2.2.2 s.1 0 m ≤ bhg uy1 c m := by sorry
theorem jxq_all {c m : Nat} (h27 : 27 ≤ c) (h47 : c ≤ 47) (m15 : m < 16) (hc : c + m ≤ 55) {s : Nat × Nat × Nat × Nat × Nat × Nat} (hs : s ∈ lng jwq c) : (5 ≤ 55 - c - m → dpD false frq fgq 0 0 1 1 1 3 2 1 s.2.2.1 s.2.2.2.1 1 s.2.2.2.2.1 s.2.2.2.2.2 s.1 (55 - c - m) m ≤ bhg uxq c m) ∧ dpD false frq fgq 5 0 1 1 1 3 2 1 s.2.2.1 s.2.2.2.1 1 s.2.2.2.2.1 s.2.2.2.2.2 s.1 0 m ≤ bhg uyq c m := by sorry
def bxe (Δ : List (Nat × Ty × Nat)) (A B : List (List Nat)) : List (List Nat) := if Δ.isEmpty = true then A else B
section PmXa
variable {f : Nat} {x y t C Dm : Ty} {Γ0 Δ1 : List Ty} {Δ : List (Nat × Ty × Nat)}
theorem smx_v (w : TWf f (cxs Δ1 Γ0 (tAll tTop C)).length (Δ.map (fun a => a.1)) t) (he : TE (cxs Δ1 Γ0 (tAll tTop C)) Δ) (co : COk f t 0) (gR : ∀ (b : Bool) (E : Stk → Nat) (Z : Nat → Nat), AQh 0 (fun _ => 1 + 1) (2 + 1) (vlr b 1) E Z f t [] (onz 0 (fun _ => 1 + 1) (2 + 1) (vlr b 1) (cxs Δ1 Γ0 (tAll tTop Dm))) → GOk 0 (fun _ => 1 + 1) (2 + 1) (vlr b 1) E f t [] (onz 0 (fun _ => 1 + 1) (2 + 1) (vlr b 1) (cxs Δ1 Γ0 (tAll tTop Dm))) (cxs Δ1 Γ0 (tAll tTop C)) Δ) (gG : ∀ (E : Stk → Nat) (Z : Nat → Nat), AQh 1 ngc 1 (fun x => x) E Z f t [] (onz 1 ngc 1 (fun x => x) (cxs Δ1 Γ0 (tAll tTop Dm))) → GOk 1 ngc 1 (fun x => x) E f t [] (onz 1 ngc 1 (fun x => x) (cxs Δ1 Γ0 (tAll tTop Dm))) (cxs Δ1 Γ0 (tAll tTop C)) Δ) (oD : ok (Γ0.length + 1) Dm = true) (vD : ∀ b, vlr b 1 (mz b 1 Γ0 (tAll tTop Dm)) ≤ 7) (vG : gz Γ0 (tAll tTop Dm) ≤ 3) (k18 : 18 ≤ tch C) (m15 : mch t < 16) (hb : cch (cxs Δ1 Γ0 (tAll tTop C)) + dch Δ + mch t ≤ 55) (h47 : cch (cxs Δ1 Γ0 (tAll tTop C)) ≤ 47) : SmV Dm tTop C Γ0 Δ1 Δ f t (bhg (bxe Δ uy1 ux1) (cch (cxs Δ1 Γ0 (tAll tTop C))) (mch t)) (bhg (bxe Δ uyq uxq) (cch (cxs Δ1 Γ0 (tAll tTop C))) (mch t)) := by sorry
def SMd (C : Ty) (Γ0 Δ1 : List Ty) (Δ : List (Nat × Ty × Nat)) (f : Nat) (t : Ty) : Prop := CFt f t ∨ (COk f t 0 ∧ noh 0 C = true ∧ NHt 0 f t ∧ SGc 0 tTop C tTop Γ0 Δ1 ∧ ∀ a ∈ Δ, noh 0 a.2.1 = true)
theorem SMd.v (w : TWf f (cxs Δ1 Γ0 (tAll tTop C)).length (Δ.map (fun a => a.1)) t) (he : TE (cxs Δ1 Γ0 (tAll tTop C)) Δ) (z : SMd C Γ0 Δ1 Δ f t) (na : NAt f t) (hc : noac (cxs Δ1 Γ0 (tAll tTop C))) (hd' : ∀ a ∈ Δ, noal a.2.1 = true) (oD : ok (Γ0.length + 1) Dm = true) (vD : ∀ b, vlr b 1 (mz b 1 Γ0 (tAll tTop Dm)) ≤ 7) (vG : gz Γ0 (tAll tTop Dm) ≤ 3) (k18 : 18 ≤ tch C) (m15 : mch t < 16) (hb : cch (cxs Δ1 Γ0 (tAll tTop C)) + dch Δ + mch t ≤ 55) (h47 : cch (cxs Δ1 Γ0 (tAll tTop C)) ≤ 47) : SmV Dm tTop C Γ0 Δ1 Δ f t (bhg (bxe Δ uy1 ux1) (cch (cxs Δ1 Γ0 (tAll tTop C))) (mch t)) (bhg (bxe Δ uyq uxq) (cch (cxs Δ1 Γ0 (tAll tTop C))) (mch t)) := by sorry
theorem pair_mixx (H : HKd 0 tTop C Γ0) (x1 : TWf f (cxs Δ1 Γ0 (tAll tTop C)).length (Δ.map (fun a => a.1)) x) (x2 : TWf f (cxs Δ1 Γ0 (tAll tTop C)).length (Δ.map (fun a => a.1)) y) (he : TE (cxs Δ1 Γ0 (tAll tTop C)) Δ) (y1 : NAt f x) (y2 : NAt f y) (hv : noac (cxs Δ1 Γ0 (tAll tTop C))) (hd' : ∀ a ∈ Δ, noal a.2.1 = true) (s1 : SMd C Γ0 Δ1 Δ f x) (s2 : SMd C Γ0 Δ1 Δ f y) (k18 : 18 ≤ tch C) (m1 : 3 ≤ mch x) (m2 : 3 ≤ mch y) (n1 : mch x < 16) (n2 : mch y < 16) (hb : cch (cxs Δ1 Γ0 (tAll tTop C)) + dch Δ + (2 + (mch x + mch y)) ≤ 60) (h47 : cch (cxs Δ1 Γ0 (tAll tTop C)) ≤ 47) : PRn f x y (cxs Δ1 Γ0 (tAll tTop C)) Δ := by sorry
end PmXa

end
section
-- from 99x11
def chkB : List Bool → Bool
  | [] => true
  | false :: ρ => chkB ρ
  | true :: ρ => ρ.isEmpty
theorem chkB_chk : ∀ (π : Stk), chkB (π.map Option.isSome) = true → chk π = true := by sorry
def CHo : Nat → Ty → List Bool → Prop
  | 0, _, _ => True
  | f + 1, t, σ => (nKd t = 6 ∨ nKd t = 8 → CHo f (nY t) σ.tail) ∧ (nKd t = 7 ∨ nKd t = 11 → CHo f (nX t) (false :: σ)) ∧ (nKd t = 9 → CHo f (nX t) (true :: σ)) ∧ (nKd t = 10 → ∀ g, g < 3 → bit (nMk t) g = true → CHo f (nP t g) σ.tail) ∧ (nKd t = 12 → chkB σ = true ∧ CHo f (nX t) σ ∧ CHo f (nY t) σ)
section PmXb
variable {t0 s2 : Nat} {n1 h : Nat → Nat} {E : Stk → Nat} {Z : Nat → Nat}
theorem GH_natc (hn : NC t0 n1 s2 h) (hm : ∀ y y', y ≤ y' → h y ≤ h y') : ∀ (f : Nat) (t : Ty) (π : Stk) (ω : List Nat) (Γ : List Ty) (Δ : List (Nat × Ty × Nat)), TWf f Γ.length (Δ.map (fun a => a.1)) t → TE Γ Δ → CHo f t (π.map Option.isSome) → AQh t0 n1 s2 h E Z f t π ω → CV t0 n1 s2 h ω Γ → HEk t0 n1 s2 h E Γ ω → GOk t0 n1 s2 h E f t π ω Γ Δ := by sorry
theorem CHo_of_COk : ∀ (f : Nat) (t : Ty) (σ : List Bool), COk f t σ.length → CHo f t σ := by sorry
end PmXb

end
section
-- from 99x12
def jxm (T : List (List Nat)) (R : Nat) : Bool := T.all (fun l => l.all (fun x => Nat.ble x R))
theorem jx_m1 : jxm ux1 887 = true ∧ jxm uy1 887 = true := by sorry
theorem jx_mq : jxm uxq 597 = true ∧ jxm uyq 597 = true := by sorry
theorem jxm_get {T : List (List Nat)} {R : Nat} (h : jxm T R = true) (c m : Nat) : bhg T c m ≤ R := by sorry
theorem bxe_le {A B : List (List Nat)} {R : Nat} (hA : jxm A R = true) (hB : jxm B R = true) (Δ : List (Nat × Ty × Nat)) (c m : Nat) : bhg (bxe Δ A B) c m ≤ R := by sorry
section PmXc
variable {f : Nat} {x y C : Ty} {Γ0 Δ1 : List Ty} {Δ : List (Nat × Ty × Nat)}
theorem pair_lgonex (x1 : TWf f (cxs Δ1 Γ0 (tAll tTop C)).length (Δ.map (fun a => a.1)) x) (x2 : TWf f (cxs Δ1 Γ0 (tAll tTop C)).length (Δ.map (fun a => a.1)) y) (he : TE (cxs Δ1 Γ0 (tAll tTop C)) Δ) (y1 : NAt f x) (y2 : NAt f y) (hv : noac (cxs Δ1 Γ0 (tAll tTop C))) (nC : noh 0 C = true) (sg : SGc 0 tTop C tTop Γ0 Δ1) (hd' : ∀ a ∈ Δ, noh 0 a.2.1 = true ∧ noal a.2.1 = true) (p1 : NHt 0 f x) (p2 : NHt 0 f y) (hs : (COk f x 0 ∧ mch x < 16) ∨ (COk f y 0 ∧ mch y < 16)) (m1 : 3 ≤ mch x) (m2 : 3 ≤ mch y) (k18 : 18 ≤ tch C) (hb : cch (cxs Δ1 Γ0 (tAll tTop C)) + dch Δ + (2 + (mch x + mch y)) ≤ 60) (h47 : cch (cxs Δ1 Γ0 (tAll tTop C)) ≤ 47) : PRn f x y (cxs Δ1 Γ0 (tAll tTop C)) Δ := by sorry
end PmXc

end
section
-- from 99y00
def fh1 : FrT := [[], [], [], [], [], [], [], [], [], [], [(1, 6)], [(1, 6)], [(1, 6)], [(1, 8)], [(2, 6), (1, 10)], [(2, 6), (1, 11)], [(2, 6), (1, 11)], [(2, 8), (1, 12)], [(3, 8), (2, 10), (1, 14)], [(3, 8), (2, 15), (1, 18)], [(3, 8), (2, 15), (1, 18)], [(3, 10), (2, 15), (1, 18)], [(4, 10), (3, 12), (2, 19), (1, 22)], [(4, 18), (3, 23), (1, 26)], [(4, 18), (3, 23), (2, 25), (1, 28)], [(4, 18), (3, 23), (2, 25), (1, 28)], [(5, 12), (4, 22), (3, 29), (1, 32)], [(6, 26), (4, 31), (3, 35), (1, 38)], [(6, 26), (4, 36), (3, 38), (2, 39), (1, 42)], [(6, 26), (4, 36), (3, 38), (2, 39), (1, 42)], [(6, 32), (4, 39), (3, 41), (1, 44)], [(9, 32), (8, 34), (6, 38), (5, 39), (4, 47), (1, 50)], [(9, 32), (8, 42), (6, 53), (3, 59), (1, 62)], [(9, 32), (8, 42), (6, 53), (4, 56), (3, 59), (1, 62)], [(9, 38), (8, 42), (6, 53), (4, 56), (3, 59), (1, 62)], [(12, 42), (9, 44), (8, 50), (6, 65), (3, 71), (1, 74)], [(12, 62), (9, 77), (4, 79), (3, 83), (1, 86)], [(12, 62), (9, 77), (8, 78), (6, 83), (4, 84), (3, 89), (1, 92)], [(12, 62), (9, 77), (8, 78), (6, 83), (4, 84), (3, 89), (1, 92)]]
def fhq : FrT := [[], [], [], [], [], [], [], [], [], [], [(1, 2)], [(1, 2)], [(1, 2)], [(1, 5)], [(2, 2), (1, 5)], [(2, 2), (1, 5)], [(2, 3), (1, 8)], [(2, 5), (1, 8)], [(3, 3), (2, 5), (1, 8)], [(3, 3), (2, 6), (1, 11)], [(3, 4), (2, 8), (1, 11)], [(3, 6), (2, 8), (1, 11)], [(4, 4), (3, 6), (2, 11), (1, 14)], [(4, 6), (3, 8), (2, 11), (1, 14)], [(4, 6), (3, 9), (2, 12), (1, 14)], [(4, 8), (3, 9), (2, 17), (1, 18)], [(5, 5), (4, 12), (3, 17), (1, 18)], [(6, 9), (4, 12), (3, 17), (2, 18), (1, 19)], [(6, 9), (4, 14), (3, 18), (2, 23), (1, 24)], [(6, 12), (4, 18), (3, 26), (1, 27)], [(6, 18), (4, 23), (3, 26), (1, 27)], [(9, 12), (6, 18), (4, 24), (3, 27), (2, 29), (1, 30)], [(9, 12), (8, 14), (6, 21), (4, 24), (3, 35), (1, 36)], [(9, 15), (8, 16), (6, 27), (4, 35), (1, 36)], [(9, 21), (8, 24), (6, 27), (5, 29), (4, 36), (2, 37), (1, 38)], [(12, 16), (9, 21), (8, 26), (6, 36), (3, 44), (1, 45)], [(12, 21), (9, 27), (8, 28), (6, 36), (4, 47), (1, 48)], [(12, 21), (9, 30), (8, 36), (6, 39), (5, 44), (4, 48), (2, 49), (1, 50)], [(12, 28), (10, 30), (8, 38), (6, 54), (3, 56), (1, 57)]]
def fhc (XF W V : FrT) (hv : Nat) : Bool := (List.range 39).all (fun r => (List.range (34 - r)).all (fun i => (frg W r).all (fun e => (frg XF (i + 1)).all (fun u => dom (max e.1 (u.1 * e.1)) (max e.2 (hv + (max 1 u.2 + u.1 * e.2))) (frg V (r + (i + 1) + 4))))))
theorem fh1_ok : fgc fr1 fh1 1 = true := by sorry
theorem fhq_ok : fgc frq fhq 0 = true := by sorry
theorem fh1_st : fhc xfa1 fg1 fh1 1 = true := by sorry
theorem fhq_st : fhc xfaq fgq fhq 0 = true := by sorry
theorem fhc_s {F W V : FrT} {hv : Nat} (h : fhc F W V hv = true) {r k : Nat} (k1 : 1 ≤ k) (hk : r + k + 4 ≤ 38) {e u : Nat × Nat} (he : e ∈ frg W r) (hu : u ∈ frg F k) : ∃ q ∈ frg V (r + k + 4), max e.1 (u.1 * e.1) ≤ q.1 ∧ max e.2 (hv + (max 1 u.2 + u.1 * e.2)) ≤ q.2 := by sorry
theorem nph : ∀ (t : Ty), noh 0 t = false → phf (fun _ => true) t = true := by sorry
section PmWt
variable {N t0 fn s2 hv r0 r1 r2 r3 x0 : Nat} {n1 h : Nat → Nat} {P Q : List (List Nat)} {F G W V XF : FrT} {X : List Nat} {Γ0 : List Ty} {β : Ty} {y : Nat}
theorem gr_st {a : Ty} {Δ : List Ty} {e u w : Nat × Nat} (e1 : 1 ≤ e.1) (ih : ∀ j, j < (cxs Δ Γ0 β).length → vw (onz t0 n1 s2 h (cxs Δ Γ0 β)) j ≤ e.2 + e.1 * y) (q2 : h (nz t0 n1 s2 h (onz t0 n1 s2 h (cxs Δ Γ0 β)) a) ≤ hv + (u.2 + u.1 * (e.2 + e.1 * y))) (hw : w ∈ frg V (cch Δ + tch a + 4)) (w1 : max e.1 (u.1 * e.1) ≤ w.1) (w2 : max e.2 (hv + (u.2 + u.1 * e.2)) ≤ w.2) : ∃ e ∈ frg V (cch (a :: Δ)), 1 ≤ e.1 ∧ ∀ j, j < (cxs (a :: Δ) Γ0 β).length → vw (onz t0 n1 s2 h (cxs (a :: Δ) Γ0 β)) j ≤ e.2 + e.1 * y := by sorry
theorem onz_grf (T : TBs N t0 fn s2 hv r0 r1 r2 r3 x0 n1 h P Q F G X) (hgW : fgc F W hv = true) (hW : (1, 0) ∈ frg W 0) (hg : fgc F V hv = true) (hst : fhc XF W V hv = true) (H1 : ∀ y, h y ≤ hv + max 1 y) (XFf : ∀ (d : Nat) (b : Ty), ok d b = true → tch b ≤ 40 → phf (fun _ => true) b = true → ∃ p ∈ frg XF (tch b), XFm t0 n1 s2 hv d b p.1 p.2) (hy : x0 ≤ y) (h0 : ∀ j, j < (β :: Γ0).length → vw (onz t0 n1 s2 h (β :: Γ0)) j ≤ y) : ∀ (Δ : List Ty), okc (cxs Δ Γ0 β) → cch Δ ≤ 38 → (∃ b ∈ Δ, phf (fun _ => true) b = true) → ∃ e ∈ frg V (cch Δ), 1 ≤ e.1 ∧ ∀ j, j < (cxs Δ Γ0 β).length → vw (onz t0 n1 s2 h (cxs Δ Γ0 β)) j ≤ e.2 + e.1 * y := by sorry
end PmWt
section PmWu
variable {t0 fn s2 hv r0 r1 r2 r3 x0 : Nat} {n1 h : Nat → Nat} {P Q : List (List Nat)} {F G W : FrT} {X : List Nat} {B C : Ty} {Γ0 : List Ty}
theorem nat_ctxg (T : TBs 58 t0 fn s2 hv r0 r1 r2 r3 x0 n1 h P Q F G X) (H1 : ∀ y, h y ≤ hv + max 1 y) (s21 : 1 ≤ s2) {Δ1 : List Ty} {wB q1 q2 : Nat} {v : Nat × Nat} (hc : okc (cxs Δ1 Γ0 (tAll B C))) (hv1 : xt (Γ0.length + 1) C ≤ v.1) (hv2 : xa t0 n1 s2 hv (Γ0.length + 1) C ≤ v.2) (hwB : h (nz t0 n1 s2 h (onz t0 n1 s2 h Γ0) B) ≤ wB) (hr : cch Γ0 ≤ q1) (hr' : q1 ≤ 56) (hr2 : ∀ y, x0 ≤ y → (∀ j, j < (tAll B C :: Γ0).length → vw (onz t0 n1 s2 h (tAll B C :: Γ0)) j ≤ y) → ∃ e ∈ frg W q2, 1 ≤ e.1 ∧ ∀ j, j < (cxs Δ1 Γ0 (tAll B C)).length → vw (onz t0 n1 s2 h (cxs Δ1 Γ0 (tAll B C))) j ≤ e.2 + e.1 * y) : ∃ p, p ≤ v.1 ∧ ∃ e ∈ frg W q2, x0 ≤ e.2 + e.1 * max (max x0 (X.getD q1 0)) (hv + (s2 + (v.2 + (v.1 - p) * max x0 (X.getD q1 0) + p * wB))) ∧ (∀ j, j < (cxs Δ1 Γ0 (tAll B C)).length → vw (onz t0 n1 s2 h (cxs Δ1 Γ0 (tAll B C))) j ≤ e.2 + e.1 * max (max x0 (X.getD q1 0)) (hv + (s2 + (v.2 + (v.1 - p) * max x0 (X.getD q1 0) + p * wB)))) ∧ ∀ z, nz t0 n1 s2 h (hzx h z (nz t0 n1 s2 h (onz t0 n1 s2 h Γ0) B) :: onz t0 n1 s2 h Γ0) C ≤ v.2 + (v.1 - p) * max x0 (X.getD q1 0) + p * max z wB := by sorry
end PmWu

end
section
-- from 99y01
theorem fnv_n1 : fnv fn1 10 428 = true := by sorry
theorem fnv_nq : fnv fnq 7 287 = true := by sorry
def ndk (q1 q2 : Nat) : Bool := (frg fg1 q2).all (fun e => Nat.ble (e.2 + e.1 * max (max 1 (fx1.getD q1 0)) 7) 10) && (frg fgq q2).all (fun e => Nat.ble (e.2 + e.1 * max (max 1 (fxq.getD q1 0)) 3) 7)
theorem fnv_g1 : fnv fn1 22 860 = true := by sorry
theorem fnv_gq : fnv fnq 15 575 = true := by sorry
def gdk (q1 q2 : Nat) : Bool := (frg fg1 q2).all (fun e => Nat.ble (e.2 + e.1 * max (max 1 (fx1.getD q1 0)) 4) 22) && (frg fgq q2).all (fun e => Nat.ble (e.2 + e.1 * max (max 1 (fxq.getD q1 0)) 2) 15)
section PmY1
variable {f h : Nat} {x y B C Dm : Ty} {Γ0 Δ1 : List Ty} {Δ : List (Nat × Ty × Nat)}
theorem pair_nodesv (ov : OVq 1 B C Dm Γ0) (x1 : TWf f (cxs Δ1 Γ0 (tAll B C)).length (Δ.map (fun a => a.1)) x) (x2 : TWf f (cxs Δ1 Γ0 (tAll B C)).length (Δ.map (fun a => a.1)) y) (he : TE (cxs Δ1 Γ0 (tAll B C)) Δ) (y1 : NAt f x) (y2 : NAt f y) (hv : noac (cxs Δ1 Γ0 (tAll B C))) (hd' : ∀ a ∈ Δ, noal a.2.1 = true) (hb : cch (cxs Δ1 Γ0 (tAll B C)) ≤ 56) (hw : ∀ b j, j < (cxs Δ1 Γ0 (tAll B Dm)).length → vw (onz 0 (fun _ => 1 + 1) (2 + 1) (vlr b 1) (cxs Δ1 Γ0 (tAll B Dm))) j ≤ 10) (hq : ∀ j, j < (cxs Δ1 Γ0 (tAll B Dm)).length → vw (onz 1 ngc 1 (fun y => y) (cxs Δ1 Γ0 (tAll B Dm))) j ≤ 7) : PRn f x y (cxs Δ1 Γ0 (tAll B C)) Δ := by sorry
theorem pair_nodes (H : HKd h B C Γ0) (x1 : TWf f (cxs Δ1 Γ0 (tAll B C)).length (Δ.map (fun a => a.1)) x) (x2 : TWf f (cxs Δ1 Γ0 (tAll B C)).length (Δ.map (fun a => a.1)) y) (he : TE (cxs Δ1 Γ0 (tAll B C)) Δ) (y1 : NAt f x) (y2 : NAt f y) (hv : noac (cxs Δ1 Γ0 (tAll B C))) (hd' : ∀ a ∈ Δ, noal a.2.1 = true) (hk : ndk (cch Γ0) (cch Δ1) = true) (h47 : cch (cxs Δ1 Γ0 (tAll B C)) ≤ 47) : PRn f x y (cxs Δ1 Γ0 (tAll B C)) Δ := by sorry
theorem pair_gnodes {hb : Nat} (nC : noh hb C = true) (s : SGc hb B C tTop Γ0 Δ1) (x1 : TWf f (cxs Δ1 Γ0 (tAll B C)).length (Δ.map (fun a => a.1)) x) (x2 : TWf f (cxs Δ1 Γ0 (tAll B C)).length (Δ.map (fun a => a.1)) y) (he : TE (cxs Δ1 Γ0 (tAll B C)) Δ) (y1 : NAt f x) (y2 : NAt f y) (hv : noac (cxs Δ1 Γ0 (tAll B C))) (hd' : ∀ a ∈ Δ, noh hb a.2.1 = true ∧ noal a.2.1 = true) (p1 : NHt hb f x) (p2 : NHt hb f y) (hk : gdk (cch Γ0) (cch Δ1) = true) (h47 : cch (cxs Δ1 Γ0 (tAll B C)) ≤ 47) : PRn f x y (cxs Δ1 Γ0 (tAll B C)) Δ := by sorry
end PmY1

end
section
-- from 99y02
abbrev T6 : Type := Nat × Nat × Nat × Nat × Nat × Nat
def TpR (un e : Bool) (wB cd m : Nat) (s : T6) : Prop := (s.2.2.2.2.2 ≤ 50 ∧ wB ≤ s.1) ∧ (e = false → 5 ≤ cd → dpD un fr1 fg1 0 1 2 3 2 2 2 2 s.2.2.1 s.2.2.2.1 wB s.2.2.2.2.1 s.2.2.2.2.2 s.1 cd m ≤ 887) ∧ (e = true → dpD un fr1 fg1 5 1 2 3 2 2 2 2 s.2.2.1 s.2.2.2.1 wB s.2.2.2.2.1 s.2.2.2.2.2 s.1 0 m ≤ 887)
def TpG (un e : Bool) (wB cd m : Nat) (s : T6) : Prop := (s.2.2.2.2.2 ≤ 50 ∧ wB ≤ s.1) ∧ (e = false → 5 ≤ cd → dpD un frq fgq 0 0 1 1 1 3 2 1 s.2.2.1 s.2.2.2.1 wB s.2.2.2.2.1 s.2.2.2.2.2 s.1 cd m ≤ 597) ∧ (e = true → dpD un frq fgq 5 0 1 1 1 3 2 1 s.2.2.1 s.2.2.2.1 wB s.2.2.2.2.1 s.2.2.2.2.2 s.1 0 m ≤ 597)
def TpD (hv s2 wB y1 ob k p : Nat) (v e : Nat × Nat) (s : T6) : Prop := e.2 + e.1 * max y1 (hv + (s2 + (v.2 + (v.1 - p) * y1 + p * wB))) ≤ s.1 ∧ v.2 + (v.1 - p) * y1 ≤ s.2.2.1 ∧ p ≤ s.2.2.2.1 ∧ ob ≤ s.2.2.2.2.1 ∧ k ≤ s.2.2.2.2.2
section PmY2
variable {f : Nat} {t B C : Ty} {Γ0 Δ1 : List Ty} {Δ : List (Nat × Ty × Nat)} {un e : Bool} {cd ob wR wG yR yG : Nat} {VR VG WR WG : List (Nat × Nat)}
theorem zone_g (w : TWf f (cxs Δ1 Γ0 (tAll B C)).length (Δ.map (fun a => a.1)) t) (he : TE (cxs Δ1 Γ0 (tAll B C)) Δ) (hΔ : (e = true ∧ Δ = []) ∨ (e = false ∧ Δ ≠ [])) (cu : un = true ∨ COk f t 0) (ch : CHo f t []) (m30 : mch t ≤ 30) (hdd : dch Δ ≤ cd) (hcd : cd ≤ 56) (hb0 : ∀ b ∈ Γ0, nsch b = true ∨ flv b ≤ ob) (hb1 : ∀ b ∈ Δ1, nsch b = true ∨ flv b ≤ ob) (wbR : ∀ b, vlr b 1 (nz 0 (fun _ => 1 + 1) (2 + 1) (vlr b 1) (onz 0 (fun _ => 1 + 1) (2 + 1) (vlr b 1) Γ0) B) ≤ wR) (wbG : nz 1 ngc 1 (fun x => x) (onz 1 ngc 1 (fun x => x) Γ0) B ≤ wG)
  (hVR : ∃ v ∈ VR, xt (Γ0.length + 1) C ≤ v.1 ∧ xa 0 (fun _ => 1 + 1) 3 1 (Γ0.length + 1) C ≤ v.2) (hVG : ∃ v ∈ VG, xt (Γ0.length + 1) C ≤ v.1 ∧ xa 1 ngc 1 0 (Γ0.length + 1) C ≤ v.2)
  (cR : ∀ (b : Bool) (v : Nat × Nat), xt (Γ0.length + 1) C ≤ v.1 → xa 0 (fun _ => 1 + 1) 3 1 (Γ0.length + 1) C ≤ v.2 → ∃ p, p ≤ v.1 ∧ ∃ w ∈ WR, 1 ≤ w.2 + w.1 * max yR (1 + (3 + (v.2 + (v.1 - p) * yR + p * wR))) ∧ (∀ j, j < (cxs Δ1 Γ0 (tAll B C)).length → vw (onz 0 (fun _ => 1 + 1) (2 + 1) (vlr b 1) (cxs Δ1 Γ0 (tAll B C))) j ≤ w.2 + w.1 * max yR (1 + (3 + (v.2 + (v.1 - p) * yR + p * wR)))) ∧ ∀ z, nz 0 (fun _ => 1 + 1) (2 + 1) (vlr b 1) (hzx (vlr b 1) z (nz 0 (fun _ => 1 + 1) (2 + 1) (vlr b 1) (onz 0 (fun _ => 1 + 1) (2 + 1) (vlr b 1) Γ0) B) :: onz 0 (fun _ => 1 + 1) (2 + 1) (vlr b 1) Γ0) C ≤ v.2 + (v.1 - p) * yR + p * max z wR)
  (cG : ∀ (v : Nat × Nat), xt (Γ0.length + 1) C ≤ v.1 → xa 1 ngc 1 0 (Γ0.length + 1) C ≤ v.2 → ∃ p, p ≤ v.1 ∧ ∃ w ∈ WG, 1 ≤ w.2 + w.1 * max yG (0 + (1 + (v.2 + (v.1 - p) * yG + p * wG))) ∧ (∀ j, j < (cxs Δ1 Γ0 (tAll B C)).length → vw (onz 1 ngc 1 (fun x => x) (cxs Δ1 Γ0 (tAll B C))) j ≤ w.2 + w.1 * max yG (0 + (1 + (v.2 + (v.1 - p) * yG + p * wG)))) ∧ ∀ z, nz 1 ngc 1 (fun x => x) (hzx (fun x => x) z (nz 1 ngc 1 (fun x => x) (onz 1 ngc 1 (fun x => x) Γ0) B) :: onz 1 ngc 1 (fun x => x) Γ0) C ≤ v.2 + (v.1 - p) * yG + p * max z wG)
  (hTR : ∀ v ∈ VR, ∀ p, p ≤ v.1 → ∀ w ∈ WR, ∃ s, TpD 1 3 wR yR ob (tch C) p v w s ∧ TpR un e wR cd (mch t) s)
  (hTG : ∀ v ∈ VG, ∀ p, p ≤ v.1 → ∀ w ∈ WG, ∃ s, TpD 0 1 wG yG ob (tch C) p v w s ∧ TpG un e wG cd (mch t) s) : NtV (cxs Δ1 Γ0 (tAll B C)) Δ f t 887 597 := by sorry
end PmY2
def lne (un e : Bool) (L : LnT) (F W : FrT) (hv fn s2 r0 r1 r2 r3 wB Bd a b m0 m1 : Nat) : Bool := (List.range b).all (fun c => Nat.blt c a || (lng L c).all (fun s => (List.range m1).all (fun m => Nat.blt m m0 || (Nat.blt 58 (c + 2 * m) || (if e then Nat.ble (dpD un F W 5 hv fn s2 r0 r1 r2 r3 s.2.2.1 s.2.2.2.1 wB s.2.2.2.2.1 s.2.2.2.2.2 s.1 0 m) Bd else (Nat.blt (58 - 2 * m - c) 5 || Nat.ble (dpD un F W 0 hv fn s2 r0 r1 r2 r3 s.2.2.1 s.2.2.2.1 wB s.2.2.2.2.1 s.2.2.2.2.2 s.1 (58 - 2 * m - c) m) Bd))))))
theorem lne_get {un e : Bool} {L : LnT} {F W : FrT} {hv fn s2 r0 r1 r2 r3 wB Bd a b m0 m1 c m : Nat} (h : lne un e L F W hv fn s2 r0 r1 r2 r3 wB Bd a b m0 m1 = true) (ha : a ≤ c) (hb : c < b) (h0 : m0 ≤ m) (h1 : m < m1) (hc : c + 2 * m ≤ 58) {s : T6} (hs : s ∈ lng L c) : (e = false → 5 ≤ 58 - 2 * m - c → dpD un F W 0 hv fn s2 r0 r1 r2 r3 s.2.2.1 s.2.2.2.1 wB s.2.2.2.2.1 s.2.2.2.2.2 s.1 (58 - 2 * m - c) m ≤ Bd) ∧ (e = true → dpD un F W 5 hv fn s2 r0 r1 r2 r3 s.2.2.1 s.2.2.2.1 wB s.2.2.2.2.1 s.2.2.2.2.2 s.1 0 m ≤ Bd) := by sorry
def znv (X0 X1 : List (List (Nat × Nat))) (o : Bool) (k q1 q2 : Nat) : Bool := Nat.ble k 38 && nxk (if o then X1 else X0) k q1 q2
def lnv (L : LnT) (X0 X1 : List (List (Nat × Nat))) (XR W : FrT) (X : List Nat) (hv s2 wB : Nat) (o : Bool) (a b : Nat) : Bool := (List.range b).all (fun k => Nat.blt k a || (List.range 39).all (fun q1 => !(q5 q1) || (List.range 39).all (fun q2 => !(q5 q2) || (Nat.blt 47 (9 + k + q1 + q2) || (Nat.blt (9 + k + q1 + q2) 20 || (!(znv X0 X1 o k q1 q2) || (Nat.beq k 0 || lnz L XR W X hv s2 wB k q1 q2 (zow o k q1 q2))))))))
theorem lnv_get {L : LnT} {X0 X1 : List (List (Nat × Nat))} {XR W : FrT} {X : List Nat} {hv s2 wB k q1 q2 a b : Nat} {o : Bool} (h : lnv L X0 X1 XR W X hv s2 wB o a b = true) (ka : a ≤ k) (kb : k < b) (hz : znv X0 X1 o k q1 q2 = true) (k1 : 1 ≤ k) (z1 : q5 q1 = true) (z2 : q5 q2 = true) (hc : 9 + k + q1 + q2 ≤ 47) (h20 : 20 ≤ 9 + k + q1 + q2) : lnz L XR W X hv s2 wB k q1 q2 (zow o k q1 q2) = true := by sorry
def lnw (L : LnT) (wB : Nat) : Bool := L.all (fun l => l.all (fun s => Nat.ble wB s.1))
theorem lnw_get {L : LnT} {wB c : Nat} (h : lnw L wB = true) {s : T6} (hs : s ∈ lng L c) : wB ≤ s.1 := by sorry
section PmY3
variable {f : Nat} {t C : Ty} {Γ0 Δ1 : List Ty} {Δ : List (Nat × Ty × Nat)} {un o ee : Bool} {L1 Lq : LnT} {XR XQ WR WQ : FrT}
theorem zow_ob (he : okc (cxs Δ1 Γ0 (tAll tTop C))) (ho : (∀ b ∈ Γ0, nsch b = true ∨ (o = true ∧ tch b ≤ tch C + 5)) ∧ ∀ b ∈ Δ1, nsch b = true ∨ (o = true ∧ tch b ≤ tch C + 5)) (h49 : cch (cxs Δ1 Γ0 (tAll tTop C)) ≤ 47) : (∀ b ∈ Γ0, nsch b = true ∨ flv b ≤ zow o (tch C) (cch Γ0) (cch Δ1)) ∧ ∀ b ∈ Δ1, nsch b = true ∨ flv b ≤ zow o (tch C) (cch Γ0) (cch Δ1) := by sorry
theorem zone_l (w : TWf f (cxs Δ1 Γ0 (tAll tTop C)).length (Δ.map (fun a => a.1)) t) (he : TE (cxs Δ1 Γ0 (tAll tTop C)) Δ) (hΔ : (ee = true ∧ Δ = []) ∨ (ee = false ∧ Δ ≠ [])) (cu : un = true ∨ COk f t 0) (ch : CHo f t []) (ho : (∀ b ∈ Γ0, nsch b = true ∨ (o = true ∧ tch b ≤ tch C + 5)) ∧ ∀ b ∈ Δ1, nsch b = true ∨ (o = true ∧ tch b ≤ tch C + 5)) (hb : cch (cxs Δ1 Γ0 (tAll tTop C)) + dch Δ + 2 * mch t ≤ 58) (h20 : 20 ≤ cch (cxs Δ1 Γ0 (tAll tTop C))) (h49 : cch (cxs Δ1 Γ0 (tAll tTop C)) ≤ 47)
  (hVR : ∃ v ∈ frg XR (tch C), xt (Γ0.length + 1) C ≤ v.1 ∧ xa 0 (fun _ => 1 + 1) 3 1 (Γ0.length + 1) C ≤ v.2) (hVG : ∃ v ∈ frg XQ (tch C), xt (Γ0.length + 1) C ≤ v.1 ∧ xa 1 ngc 1 0 (Γ0.length + 1) C ≤ v.2)
  (kR : lnkb L1 = true) (kG : lnkb Lq = true) (vR : lnw L1 2 = true) (vG : lnw Lq 1 = true) (hgR : ∀ (b : Bool) (y : Nat), 1 ≤ y → (∀ j, j < (tAll tTop C :: Γ0).length → vw (onz 0 (fun _ => 1 + 1) (2 + 1) (vlr b 1) (tAll tTop C :: Γ0)) j ≤ y) → ∃ e ∈ frg WR (cch Δ1), 1 ≤ e.1 ∧ ∀ j, j < (cxs Δ1 Γ0 (tAll tTop C)).length → vw (onz 0 (fun _ => 1 + 1) (2 + 1) (vlr b 1) (cxs Δ1 Γ0 (tAll tTop C))) j ≤ e.2 + e.1 * y) (hgG : ∀ (y : Nat), 1 ≤ y → (∀ j, j < (tAll tTop C :: Γ0).length → vw (onz 1 ngc 1 (fun x => x) (tAll tTop C :: Γ0)) j ≤ y) → ∃ e ∈ frg WQ (cch Δ1), 1 ≤ e.1 ∧ ∀ j, j < (cxs Δ1 Γ0 (tAll tTop C)).length → vw (onz 1 ngc 1 (fun x => x) (cxs Δ1 Γ0 (tAll tTop C))) j ≤ e.2 + e.1 * y)
  (zR : lnz L1 XR WR fx1 1 3 2 (tch C) (cch Γ0) (cch Δ1) (zow o (tch C) (cch Γ0) (cch Δ1)) = true) (zG : lnz Lq XQ WQ fxq 0 1 1 (tch C) (cch Γ0) (cch Δ1) (zow o (tch C) (cch Γ0) (cch Δ1)) = true)
  (dR : ∀ c, 20 ≤ c → c ≤ 47 → c + 2 * mch t ≤ 58 → ∀ s ∈ lng L1 c, (ee = false → 5 ≤ 58 - 2 * mch t - c → dpD un fr1 fg1 0 1 2 3 2 2 2 2 s.2.2.1 s.2.2.2.1 2 s.2.2.2.2.1 s.2.2.2.2.2 s.1 (58 - 2 * mch t - c) (mch t) ≤ 887) ∧ (ee = true → dpD un fr1 fg1 5 1 2 3 2 2 2 2 s.2.2.1 s.2.2.2.1 2 s.2.2.2.2.1 s.2.2.2.2.2 s.1 0 (mch t) ≤ 887))
  (dG : ∀ c, 20 ≤ c → c ≤ 47 → c + 2 * mch t ≤ 58 → ∀ s ∈ lng Lq c, (ee = false → 5 ≤ 58 - 2 * mch t - c → dpD un frq fgq 0 0 1 1 1 3 2 1 s.2.2.1 s.2.2.2.1 1 s.2.2.2.2.1 s.2.2.2.2.2 s.1 (58 - 2 * mch t - c) (mch t) ≤ 597) ∧ (ee = true → dpD un frq fgq 5 0 1 1 1 3 2 1 s.2.2.1 s.2.2.2.1 1 s.2.2.2.2.1 s.2.2.2.2.2 s.1 0 (mch t) ≤ 597)) : NtV (cxs Δ1 Γ0 (tAll tTop C)) Δ f t 887 597 := by sorry
theorem gr_R {β : Ty} (hc : okc (cxs Δ1 Γ0 β)) (q38 : cch Δ1 ≤ 38) (b : Bool) (y : Nat) (hy : 1 ≤ y) (h0 : ∀ j, j < (β :: Γ0).length → vw (onz 0 (fun _ => 1 + 1) (2 + 1) (vlr b 1) (β :: Γ0)) j ≤ y) : ∃ e ∈ frg fg1 (cch Δ1), 1 ≤ e.1 ∧ ∀ j, j < (cxs Δ1 Γ0 β).length → vw (onz 0 (fun _ => 1 + 1) (2 + 1) (vlr b 1) (cxs Δ1 Γ0 β)) j ≤ e.2 + e.1 * y := by sorry
theorem gr_G {β : Ty} (hc : okc (cxs Δ1 Γ0 β)) (q38 : cch Δ1 ≤ 38) (y : Nat) (hy : 1 ≤ y) (h0 : ∀ j, j < (β :: Γ0).length → vw (onz 1 ngc 1 (fun x => x) (β :: Γ0)) j ≤ y) : ∃ e ∈ frg fgq (cch Δ1), 1 ≤ e.1 ∧ ∀ j, j < (cxs Δ1 Γ0 β).length → vw (onz 1 ngc 1 (fun x => x) (cxs Δ1 Γ0 β)) j ≤ e.2 + e.1 * y := by sorry
theorem form_R {d : Nat} (oC : ok (d + 1) C = true) (hk : tch C ≤ 40) : ∃ v ∈ frg xr1 (tch C), xt (d + 1) C ≤ v.1 ∧ xa 0 (fun _ => 1 + 1) 3 1 (d + 1) C ≤ v.2 := by sorry
theorem form_G {d : Nat} (oC : ok (d + 1) C = true) (hk : tch C ≤ 40) : ∃ v ∈ frg xrq (tch C), xt (d + 1) C ≤ v.1 ∧ xa 1 ngc 1 0 (d + 1) C ≤ v.2 := by sorry
end PmY3

end
section
-- from 99y03
def na1 : LnT := [[], [], [], [], [], [], [], [], [], [], [], [], [], [], [], [], [], [], [], [], [(17, 0, 11, 3, 2, 11)], [(17, 0, 11, 3, 2, 12)], [(19, 0, 13, 4, 2, 13)], [(23, 0, 16, 4, 2, 14)], [(25, 0, 19, 4, 2, 15)], [(25, 0, 19, 4, 2, 16)], [(29, 0, 19, 5, 3, 17)], [(35, 0, 23, 6, 3, 18)], [(38, 0, 29, 6, 3, 19)], [(38, 0, 30, 6, 3, 20)], [(41, 0, 30, 6, 3, 21)], [(47, 0, 34, 9, 3, 22)], [(56, 0, 43, 9, 3, 23)], [(56, 0, 46, 9, 3, 24)], [(56, 0, 46, 9, 4, 25)], [(65, 0, 49, 12, 4, 26)], [(77, 0, 58, 9, 4, 22)], [(83, 0, 64, 9, 4, 23)], [(83, 0, 70, 9, 4, 24)], [(95, 0, 73, 8, 4, 25), (51, 0, 28, 9, 1, 25)], [(113, 0, 82, 6, 4, 18), (91, 0, 67, 9, 2, 23), (60, 0, 55, 12, 1, 26)], [(122, 0, 86, 6, 4, 19), (91, 0, 64, 9, 2, 23), (80, 0, 76, 1, 2, 23), (69, 0, 65, 11, 1, 26), (60, 0, 29, 12, 1, 26)], [(122, 0, 106, 6, 5, 20), (91, 0, 65, 9, 2, 24), (81, 0, 77, 1, 2, 24), (69, 0, 65, 11, 1, 26), (60, 0, 29, 12, 1, 26)], [(131, 0, 100, 6, 5, 21), (110, 0, 106, 0, 4, 10), (93, 0, 48, 9, 2, 25), (81, 0, 77, 4, 2, 25), (62, 0, 49, 12, 1, 26)], [(150, 0, 100, 5, 4, 26), (135, 0, 59, 6, 5, 26), (114, 0, 110, 4, 6, 14), (103, 0, 54, 8, 3, 26), (93, 0, 44, 9, 3, 26), (63, 0, 39, 12, 2, 26)], [(176, 0, 130, 4, 4, 26), (140, 0, 46, 6, 5, 24), (119, 0, 115, 6, 6, 26), (103, 0, 59, 8, 3, 26), (93, 0, 47, 9, 3, 26), (65, 0, 41, 12, 2, 26)], [(176, 0, 154, 4, 4, 26), (140, 0, 46, 6, 5, 24), (119, 0, 115, 6, 6, 26), (101, 0, 69, 8, 3, 26), (91, 0, 53, 9, 3, 26), (69, 0, 45, 12, 2, 26)], [(176, 0, 154, 4, 4, 26), (144, 0, 22, 6, 5, 21), (127, 0, 123, 6, 5, 26), (119, 0, 115, 4, 6, 16), (103, 0, 61, 8, 3, 26), (91, 0, 53, 9, 3, 26), (87, 0, 69, 7, 2, 26), (69, 0, 45, 12, 2, 26)]]
def naq : LnT := [[], [], [], [], [], [], [], [], [], [], [], [], [], [], [], [], [], [], [], [], [(11, 0, 10, 3, 2, 11)], [(11, 0, 10, 3, 2, 12)], [(14, 0, 13, 4, 2, 13)], [(14, 0, 13, 4, 2, 14)], [(14, 0, 13, 4, 2, 15)], [(17, 0, 16, 4, 2, 16)], [(17, 0, 16, 5, 3, 17)], [(18, 0, 17, 6, 3, 18)], [(23, 0, 22, 6, 3, 19)], [(26, 0, 24, 6, 3, 20)], [(26, 0, 24, 6, 3, 21)], [(29, 0, 28, 9, 3, 22)], [(35, 0, 33, 9, 3, 23)], [(35, 0, 33, 9, 3, 24)], [(38, 0, 37, 9, 4, 25)], [(44, 0, 42, 12, 4, 26)], [(47, 0, 43, 9, 4, 22)], [(50, 0, 49, 9, 4, 23)], [(57, 0, 56, 9, 4, 24)], [(59, 0, 56, 9, 4, 25)], [(62, 0, 61, 8, 4, 23), (44, 0, 42, 12, 2, 26)], [(75, 0, 74, 6, 4, 21), (59, 0, 48, 9, 2, 24), (44, 0, 42, 12, 1, 26)], [(84, 0, 83, 6, 5, 21), (60, 0, 54, 9, 2, 25), (44, 0, 42, 12, 1, 26)], [(84, 0, 83, 6, 5, 21), (62, 0, 54, 8, 2, 25), (47, 0, 42, 11, 2, 26), (29, 0, 12, 12, 1, 26)], [(93, 0, 92, 5, 5, 26), (80, 0, 79, 6, 6, 26), (46, 0, 32, 12, 3, 26)], [(111, 0, 110, 4, 4, 26), (87, 0, 86, 5, 5, 26), (81, 0, 80, 6, 6, 26), (48, 0, 32, 11, 3, 26), (26, 0, 12, 12, 2, 26)], [(112, 0, 111, 4, 4, 26), (89, 0, 86, 5, 5, 26), (81, 0, 80, 6, 6, 26), (55, 0, 47, 10, 3, 26), (31, 0, 19, 12, 2, 26)], [(117, 0, 116, 4, 4, 26), (96, 0, 95, 5, 5, 26), (83, 0, 82, 6, 6, 26), (55, 0, 47, 10, 3, 26), (31, 0, 19, 12, 2, 26)]]
def xa0 : List (List (Nat × Nat)) := [[], [], [], [], [], [], [], [], [], [], [], [], [], [], [], [], [], [], [], [], [], [(0, 17)], [(0, 13), (0, 15), (12, 0), (11, 0), (0, 14), (0, 16)], [(0, 14), (0, 9), (0, 11), (0, 13), (0, 15), (11, 0), (0, 10)], [(0, 13), (0, 10), (0, 14), (0, 9)], [(0, 9), (0, 11), (0, 13), (0, 10), (0, 12)], [(8, 0), (0, 9), (0, 11), (0, 10), (0, 12)], [(0, 7), (5, 6), (0, 0), (11, 0), (7, 0), (0, 9), (5, 5), (0, 11), (6, 5), (5, 0), (9, 0), (0, 6), (6, 0), (0, 8), (0, 10), (0, 5), (10, 0), (8, 0)], [(0, 7), (0, 0), (0, 9), (5, 0), (7, 0), (9, 0), (0, 6), (0, 8), (10, 0), (0, 10), (5, 5), (6, 0), (8, 0), (0, 5)], [(0, 0), (0, 9), (7, 0), (9, 0), (5, 0), (0, 6), (0, 8), (8, 0), (0, 5), (6, 0), (0, 7)], [(0, 8), (8, 0), (0, 5), (5, 0), (0, 7), (7, 0), (0, 0), (0, 6), (6, 0)], [(6, 0), (0, 5), (0, 7), (0, 0), (7, 0), (0, 6), (5, 0)], [(0, 5), (0, 0), (6, 0), (5, 0), (0, 6)], [(0, 5), (0, 0), (5, 0)], [(0, 0)], [(0, 0)], [(0, 0)], [(0, 0)], [(0, 0)]]
def xa1 : List (List (Nat × Nat)) := [[], [], [], [], [], [], [], [], [], [], [], [], [(0, 26)], [(0, 22), (0, 24), (23, 0), (0, 23), (25, 0), (0, 25), (24, 0)], [(0, 22), (0, 24), (0, 23), (23, 0), (24, 0)], [(0, 22), (0, 23), (23, 0)], [(0, 22)], [], [], [], [], [(0, 17)], [(0, 13), (0, 15), (12, 0), (11, 0), (0, 14), (0, 16)], [(0, 14), (0, 9), (0, 11), (0, 13), (0, 15), (11, 0), (0, 10)], [(0, 13), (0, 10), (0, 14), (0, 9)], [(0, 9), (0, 11), (0, 13), (0, 10), (0, 12)], [(8, 0), (0, 9), (0, 11), (0, 10), (0, 12)], [(0, 7), (5, 6), (0, 0), (11, 0), (7, 0), (0, 9), (5, 5), (0, 11), (6, 5), (5, 0), (9, 0), (0, 6), (6, 0), (0, 8), (0, 10), (0, 5), (10, 0), (8, 0)], [(0, 7), (0, 0), (0, 9), (5, 0), (7, 0), (9, 0), (0, 6), (0, 8), (10, 0), (0, 10), (5, 5), (6, 0), (8, 0), (0, 5)], [(0, 0), (0, 9), (7, 0), (9, 0), (5, 0), (0, 6), (0, 8), (8, 0), (0, 5), (6, 0), (0, 7)], [(0, 8), (8, 0), (0, 5), (5, 0), (0, 7), (7, 0), (0, 0), (0, 6), (6, 0)], [(6, 0), (0, 5), (0, 7), (0, 0), (7, 0), (0, 6), (5, 0)], [(0, 5), (0, 0), (6, 0), (5, 0), (0, 6)], [(0, 5), (0, 0), (5, 0)], [(0, 0)], [(0, 0)], [(0, 0)], [(0, 0)], [(0, 0)]]
theorem na1_k : lnkb na1 = true := by sorry
theorem na1_w : lnw na1 2 = true := by sorry
theorem naq_k : lnkb naq = true := by sorry
theorem naq_w : lnw naq 1 = true := by sorry
end
section
-- from 99y03q
theorem naq_a0 : lnv naq xa0 xa1 xrq fgq fxq 0 1 1 false 0 10 = true := by sorry
theorem naq_a10 : lnv naq xa0 xa1 xrq fgq fxq 0 1 1 false 10 16 = true := by sorry
theorem naq_a16 : lnv naq xa0 xa1 xrq fgq fxq 0 1 1 false 16 39 = true := by sorry
theorem naq_b0 : lnv naq xa0 xa1 xrq fgq fxq 0 1 1 true 0 10 = true := by sorry
theorem naq_b10 : lnv naq xa0 xa1 xrq fgq fxq 0 1 1 true 10 16 = true := by sorry
theorem naq_b16 : lnv naq xa0 xa1 xrq fgq fxq 0 1 1 true 16 39 = true := by sorry
theorem naq_z {o : Bool} (k q1 q2 : Nat) (hz : znv xa0 xa1 o k q1 q2 = true) (k1 : 1 ≤ k) (k39 : k < 39) (z1 : q5 q1 = true) (z2 : q5 q2 = true) (hc : 9 + k + q1 + q2 ≤ 47) (h20 : 20 ≤ 9 + k + q1 + q2) : lnz naq xrq fgq fxq 0 1 1 k q1 q2 (zow o k q1 q2) = true := by sorry
end
section
-- from 99y03r
theorem na1_a0 : lnv na1 xa0 xa1 xr1 fg1 fx1 1 3 2 false 0 10 = true := by sorry
theorem na1_a10 : lnv na1 xa0 xa1 xr1 fg1 fx1 1 3 2 false 10 16 = true := by sorry
theorem na1_a16 : lnv na1 xa0 xa1 xr1 fg1 fx1 1 3 2 false 16 39 = true := by sorry
theorem na1_b0 : lnv na1 xa0 xa1 xr1 fg1 fx1 1 3 2 true 0 10 = true := by sorry
theorem na1_b10 : lnv na1 xa0 xa1 xr1 fg1 fx1 1 3 2 true 10 16 = true := by sorry
theorem na1_b16 : lnv na1 xa0 xa1 xr1 fg1 fx1 1 3 2 true 16 39 = true := by sorry
theorem na1_z {o : Bool} (k q1 q2 : Nat) (hz : znv xa0 xa1 o k q1 q2 = true) (k1 : 1 ≤ k) (k39 : k < 39) (z1 : q5 q1 = true) (z2 : q5 q2 = true) (hc : 9 + k + q1 + q2 ≤ 47) (h20 : 20 ≤ 9 + k + q1 + q2) : lnz na1 xr1 fg1 fx1 1 3 2 k q1 q2 (zow o k q1 q2) = true := by sorry
end
section
-- from 99y03s
theorem na1_d20_3 : lne false false na1 fr1 fg1 1 2 3 2 2 2 2 2 887 20 28 3 6 = true := by sorry
theorem na1_d28_3 : lne false false na1 fr1 fg1 1 2 3 2 2 2 2 2 887 28 34 3 6 = true := by sorry
theorem na1_d34_3 : lne false false na1 fr1 fg1 1 2 3 2 2 2 2 2 887 34 40 3 6 = true := by sorry
theorem na1_d40_3 : lne false false na1 fr1 fg1 1 2 3 2 2 2 2 2 887 40 48 3 6 = true := by sorry
theorem na1_all {c m : Nat} (m3 : 3 ≤ m) (m5 : m < 6) (h20 : 20 ≤ c) (h47 : c ≤ 47) (hc : c + 2 * m ≤ 58) {s : T6} (hs : s ∈ lng na1 c) : (false = false → 5 ≤ 58 - 2 * m - c → dpD false fr1 fg1 0 1 2 3 2 2 2 2 s.2.2.1 s.2.2.2.1 2 s.2.2.2.2.1 s.2.2.2.2.2 s.1 (58 - 2 * m - c) m ≤ 887) ∧ (false = true → dpD false fr1 fg1 5 1 2 3 2 2 2 2 s.2.2.1 s.2.2.2.1 2 s.2.2.2.2.1 s.2.2.2.2.2 s.1 0 m ≤ 887) := by sorry
end
section
-- from 99y03t
theorem naq_d20_3 : lne false false naq frq fgq 0 1 1 1 3 2 1 1 597 20 28 3 6 = true := by sorry
theorem naq_d28_3 : lne false false naq frq fgq 0 1 1 1 3 2 1 1 597 28 34 3 6 = true := by sorry
theorem naq_d34_3 : lne false false naq frq fgq 0 1 1 1 3 2 1 1 597 34 40 3 6 = true := by sorry
theorem naq_d40_3 : lne false false naq frq fgq 0 1 1 1 3 2 1 1 597 40 48 3 6 = true := by sorry
theorem naq_all {c m : Nat} (m3 : 3 ≤ m) (m5 : m < 6) (h20 : 20 ≤ c) (h47 : c ≤ 47) (hc : c + 2 * m ≤ 58) {s : T6} (hs : s ∈ lng naq c) : (false = false → 5 ≤ 58 - 2 * m - c → dpD false frq fgq 0 0 1 1 1 3 2 1 s.2.2.1 s.2.2.2.1 1 s.2.2.2.2.1 s.2.2.2.2.2 s.1 (58 - 2 * m - c) m ≤ 597) ∧ (false = true → dpD false frq fgq 5 0 1 1 1 3 2 1 s.2.2.1 s.2.2.2.1 1 s.2.2.2.2.1 s.2.2.2.2.2 s.1 0 m ≤ 597) := by sorry
end
section
-- from 99y04
def nc1 : LnT := [[], [], [], [], [], [], [], [], [], [], [], [], [], [], [], [], [], [], [], [], [(17, 0, 11, 3, 2, 11)], [(17, 0, 11, 3, 2, 12)], [(19, 0, 13, 4, 2, 13)], [(23, 0, 16, 4, 2, 14)], [(25, 0, 19, 4, 2, 15)], [(25, 0, 19, 4, 2, 16)], [(29, 0, 19, 4, 3, 17), (22, 0, 8, 5, 0, 17)], [(35, 0, 19, 3, 3, 13), (19, 0, 6, 4, 1, 13)], [(38, 0, 22, 4, 3, 14)], [(38, 0, 30, 4, 3, 15)], [(41, 0, 30, 4, 3, 16)], [(47, 0, 30, 4, 3, 17), (23, 0, 8, 5, 1, 17)], [(56, 0, 38, 3, 3, 18), (49, 0, 20, 4, 2, 18), (33, 0, 18, 6, 1, 18)], [(56, 0, 46, 3, 3, 19), (49, 0, 25, 4, 2, 19), (33, 0, 19, 6, 1, 19)], [(56, 0, 46, 4, 4, 20), (35, 0, 19, 6, 1, 20)], [(65, 0, 35, 4, 3, 21), (52, 0, 48, 2, 4, 20), (47, 0, 24, 5, 2, 21), (39, 0, 22, 6, 1, 21)], [(77, 0, 58, 4, 4, 14), (67, 0, 41, 6, 2, 19), (50, 0, 46, 0, 2, 18), (45, 0, 38, 9, 1, 22), (44, 0, 40, 0, 1, 22)], [(83, 0, 64, 4, 4, 15), (67, 0, 41, 6, 2, 21), (56, 0, 52, 1, 2, 19)], [(83, 0, 70, 4, 4, 24), (67, 0, 40, 6, 2, 24), (50, 0, 32, 8, 1, 24), (45, 0, 22, 9, 1, 24)], [(95, 0, 58, 4, 3, 24), (83, 0, 73, 4, 4, 19), (71, 0, 17, 6, 3, 20), (54, 0, 40, 7, 2, 24), (49, 0, 29, 8, 1, 24), (44, 0, 22, 9, 1, 24)], [(113, 0, 82, 3, 2, 20), (99, 0, 40, 4, 3, 20), (82, 0, 78, 4, 4, 24), (71, 0, 17, 6, 3, 20), (56, 0, 42, 7, 3, 24), (49, 0, 29, 8, 2, 24), (44, 0, 22, 9, 2, 24)], [(122, 0, 27, 3, 2, 20), (104, 0, 25, 4, 3, 20), (90, 0, 86, 3, 3, 24), (87, 0, 83, 4, 4, 24), (71, 0, 17, 6, 3, 20), (67, 0, 46, 5, 3, 24), (56, 0, 40, 7, 2, 24), (49, 0, 29, 8, 2, 24), (45, 0, 22, 9, 2, 24)], [(122, 0, 106, 18, 5, 33)], [(131, 0, 106, 20, 5, 34)], [(150, 0, 112, 27, 6, 35)], [(176, 0, 139, 27, 6, 36)], [(176, 0, 154, 27, 6, 37)], [(176, 0, 154, 27, 6, 38)]]
def ncq : LnT := [[], [], [], [], [], [], [], [], [], [], [], [], [], [], [], [], [], [], [], [], [(11, 0, 10, 3, 2, 11)], [(11, 0, 10, 3, 2, 12)], [(14, 0, 13, 4, 2, 13)], [(14, 0, 13, 4, 2, 14)], [(14, 0, 13, 4, 2, 15)], [(17, 0, 16, 4, 2, 16)], [(17, 0, 16, 5, 3, 17)], [(18, 0, 16, 4, 3, 13)], [(23, 0, 21, 4, 3, 14)], [(26, 0, 23, 4, 3, 15)], [(26, 0, 23, 4, 3, 16)], [(29, 0, 27, 4, 3, 17), (11, 0, 4, 5, 1, 17)], [(35, 0, 32, 3, 3, 18), (19, 0, 10, 6, 2, 18)], [(35, 0, 32, 3, 3, 19), (19, 0, 12, 6, 2, 19)], [(38, 0, 37, 4, 4, 20), (17, 0, 10, 6, 1, 20)], [(44, 0, 41, 3, 3, 21), (31, 0, 30, 5, 4, 21), (23, 0, 15, 6, 1, 21)], [(47, 0, 43, 5, 4, 19), (30, 0, 28, 9, 2, 22)], [(50, 0, 49, 4, 4, 17), (37, 0, 33, 6, 2, 21)], [(57, 0, 56, 4, 4, 24), (33, 0, 25, 8, 2, 24), (23, 0, 12, 9, 1, 24)], [(59, 0, 56, 4, 4, 24), (33, 0, 25, 8, 3, 24), (22, 0, 12, 9, 1, 24)], [(62, 0, 61, 3, 3, 24), (58, 0, 57, 4, 4, 24), (34, 0, 25, 8, 3, 24), (22, 0, 12, 9, 2, 24)], [(75, 0, 74, 2, 2, 21), (74, 0, 73, 3, 3, 21), (59, 0, 58, 4, 4, 24), (36, 0, 28, 7, 3, 24), (25, 0, 16, 9, 2, 24)], [(84, 0, 83, 18, 5, 33)], [(84, 0, 83, 20, 5, 34)], [(93, 0, 92, 27, 6, 35)], [(111, 0, 110, 27, 6, 36)], [(112, 0, 111, 27, 6, 37)], [(117, 0, 116, 27, 6, 38)]]
def xc0 : List (List (Nat × Nat)) := [[], [], [], [], [], [], [], [], [], [], [], [], [], [], [], [], [], [], [(0, 13), (0, 0), (0, 6), (0, 14)], [(0, 0), (0, 9), (0, 13)], [(0, 0)], [(0, 11), (0, 10), (0, 0), (0, 9)], [(0, 6), (0, 9), (6, 0), (0, 8), (0, 7), (0, 10), (0, 0)], [(0, 5), (0, 8), (0, 7), (5, 0), (0, 0), (0, 6), (0, 9)], [(0, 8), (0, 7), (0, 0), (0, 6)], [(0, 7), (5, 0), (7, 0), (0, 0), (0, 6), (6, 0), (0, 5)], [(6, 0), (0, 5), (5, 0), (0, 0), (0, 6)], [(5, 0), (0, 0), (0, 5)], [(0, 0)], [(0, 0)], [(0, 0)], [(0, 0)], [(0, 0)], [], [], [], [], [], []]
def xc1 : List (List (Nat × Nat)) := [[], [], [], [], [], [(0, 27), (0, 26)], [(0, 26)], [], [(0, 23), (0, 22), (0, 18), (0, 24)], [(17, 0), (0, 17), (0, 23), (23, 0), (0, 22), (22, 0)], [(0, 21), (0, 22), (22, 0)], [(0, 21)], [(20, 0)], [(0, 19), (0, 18), (19, 0)], [(0, 17), (0, 18)], [(0, 17)], [], [], [(0, 13), (0, 0), (0, 6), (0, 14)], [(0, 0), (0, 9), (0, 13)], [(0, 0)], [(0, 11), (0, 10), (0, 0), (0, 9)], [(0, 6), (0, 9), (6, 0), (0, 8), (0, 7), (0, 10), (0, 0)], [(0, 5), (0, 8), (0, 7), (5, 0), (0, 0), (0, 6), (0, 9)], [(0, 8), (0, 7), (0, 0), (0, 6)], [(0, 7), (5, 0), (7, 0), (0, 0), (0, 6), (0, 5), (6, 0)], [(6, 0), (0, 5), (5, 0), (0, 0), (0, 6)], [(5, 0), (0, 0), (0, 5)], [(0, 0)], [(0, 0)], [(0, 0)], [(0, 0)], [(0, 0)], [], [], [], [], [], []]
theorem nc1_k : lnkb nc1 = true := by sorry
theorem nc1_w : lnw nc1 2 = true := by sorry
theorem ncq_k : lnkb ncq = true := by sorry
theorem ncq_w : lnw ncq 1 = true := by sorry
end
section
-- from 99y04q
theorem ncq_a0 : lnv ncq xc0 xc1 xrq fgq fxq 0 1 1 false 0 10 = true := by sorry
theorem ncq_a10 : lnv ncq xc0 xc1 xrq fgq fxq 0 1 1 false 10 16 = true := by sorry
theorem ncq_a16 : lnv ncq xc0 xc1 xrq fgq fxq 0 1 1 false 16 39 = true := by sorry
theorem ncq_b0 : lnv ncq xc0 xc1 xrq fgq fxq 0 1 1 true 0 10 = true := by sorry
theorem ncq_b10 : lnv ncq xc0 xc1 xrq fgq fxq 0 1 1 true 10 16 = true := by sorry
theorem ncq_b16 : lnv ncq xc0 xc1 xrq fgq fxq 0 1 1 true 16 39 = true := by sorry
theorem ncq_z {o : Bool} (k q1 q2 : Nat) (hz : znv xc0 xc1 o k q1 q2 = true) (k1 : 1 ≤ k) (k39 : k < 39) (z1 : q5 q1 = true) (z2 : q5 q2 = true) (hc : 9 + k + q1 + q2 ≤ 47) (h20 : 20 ≤ 9 + k + q1 + q2) : lnz ncq xrq fgq fxq 0 1 1 k q1 q2 (zow o k q1 q2) = true := by sorry
end
section
-- from 99y04r
theorem nc1_a0 : lnv nc1 xc0 xc1 xr1 fg1 fx1 1 3 2 false 0 10 = true := by sorry
theorem nc1_a10 : lnv nc1 xc0 xc1 xr1 fg1 fx1 1 3 2 false 10 16 = true := by sorry
theorem nc1_a16 : lnv nc1 xc0 xc1 xr1 fg1 fx1 1 3 2 false 16 39 = true := by sorry
theorem nc1_b0 : lnv nc1 xc0 xc1 xr1 fg1 fx1 1 3 2 true 0 10 = true := by sorry
theorem nc1_b10 : lnv nc1 xc0 xc1 xr1 fg1 fx1 1 3 2 true 10 16 = true := by sorry
theorem nc1_b16 : lnv nc1 xc0 xc1 xr1 fg1 fx1 1 3 2 true 16 39 = true := by sorry
theorem nc1_z {o : Bool} (k q1 q2 : Nat) (hz : znv xc0 xc1 o k q1 q2 = true) (k1 : 1 ≤ k) (k39 : k < 39) (z1 : q5 q1 = true) (z2 : q5 q2 = true) (hc : 9 + k + q1 + q2 ≤ 47) (h20 : 20 ≤ 9 + k + q1 + q2) : lnz nc1 xr1 fg1 fx1 1 3 2 k q1 q2 (zow o k q1 q2) = true := by sorry
end
section
-- from 99y04s0
theorem nc1_d20_6 : lne true false nc1 fr1 fg1 1 2 3 2 2 2 2 2 887 20 21 6 16 = true := by sorry
theorem nc1_d21_6 : lne true false nc1 fr1 fg1 1 2 3 2 2 2 2 2 887 21 22 6 16 = true := by sorry
theorem nc1_d22_6 : lne true false nc1 fr1 fg1 1 2 3 2 2 2 2 2 887 22 23 6 16 = true := by sorry
theorem nc1_d23_6 : lne true false nc1 fr1 fg1 1 2 3 2 2 2 2 2 887 23 24 6 16 = true := by sorry
theorem nc1_d24_6 : lne true false nc1 fr1 fg1 1 2 3 2 2 2 2 2 887 24 25 6 16 = true := by sorry
end
section
-- from 99y04s1
theorem nc1_d25_6 : lne true false nc1 fr1 fg1 1 2 3 2 2 2 2 2 887 25 26 6 16 = true := by sorry
theorem nc1_d26_6 : lne true false nc1 fr1 fg1 1 2 3 2 2 2 2 2 887 26 27 6 16 = true := by sorry
theorem nc1_d27_6 : lne true false nc1 fr1 fg1 1 2 3 2 2 2 2 2 887 27 28 6 16 = true := by sorry
theorem nc1_d28_6 : lne true false nc1 fr1 fg1 1 2 3 2 2 2 2 2 887 28 29 6 16 = true := by sorry
theorem nc1_d29_6 : lne true false nc1 fr1 fg1 1 2 3 2 2 2 2 2 887 29 30 6 16 = true := by sorry
end
section
-- from 99y04s2
theorem nc1_d30_6 : lne true false nc1 fr1 fg1 1 2 3 2 2 2 2 2 887 30 36 6 16 = true := by sorry
theorem nc1_d36_6 : lne true false nc1 fr1 fg1 1 2 3 2 2 2 2 2 887 36 48 6 16 = true := by sorry
end
section
-- from 99y04s3
theorem nc1_d20_16 : lne true false nc1 fr1 fg1 1 2 3 2 2 2 2 2 887 20 21 16 17 = true := by sorry
theorem nc1_d20_17 : lne true false nc1 fr1 fg1 1 2 3 2 2 2 2 2 887 20 21 17 18 = true := by sorry
theorem nc1_d20_18 : lne true false nc1 fr1 fg1 1 2 3 2 2 2 2 2 887 20 21 18 19 = true := by sorry
theorem nc1_d20_19 : lne true false nc1 fr1 fg1 1 2 3 2 2 2 2 2 887 20 21 19 20 = true := by sorry
theorem nc1_d21_16 : lne true false nc1 fr1 fg1 1 2 3 2 2 2 2 2 887 21 22 16 17 = true := by sorry
theorem nc1_d21_17 : lne true false nc1 fr1 fg1 1 2 3 2 2 2 2 2 887 21 22 17 18 = true := by sorry
theorem nc1_d21_18 : lne true false nc1 fr1 fg1 1 2 3 2 2 2 2 2 887 21 22 18 19 = true := by sorry
theorem nc1_d22_16 : lne true false nc1 fr1 fg1 1 2 3 2 2 2 2 2 887 22 23 16 17 = true := by sorry
theorem nc1_d22_17 : lne true false nc1 fr1 fg1 1 2 3 2 2 2 2 2 887 22 23 17 18 = true := by sorry
theorem nc1_d22_18 : lne true false nc1 fr1 fg1 1 2 3 2 2 2 2 2 887 22 23 18 19 = true := by sorry
theorem nc1_d23_16 : lne true false nc1 fr1 fg1 1 2 3 2 2 2 2 2 887 23 24 16 17 = true := by sorry
theorem nc1_d23_17 : lne true false nc1 fr1 fg1 1 2 3 2 2 2 2 2 887 23 24 17 18 = true := by sorry
theorem nc1_d24_16 : lne true false nc1 fr1 fg1 1 2 3 2 2 2 2 2 887 24 25 16 17 = true := by sorry
theorem nc1_d24_17 : lne true false nc1 fr1 fg1 1 2 3 2 2 2 2 2 887 24 25 17 18 = true := by sorry
theorem nc1_d25_16 : lne true false nc1 fr1 fg1 1 2 3 2 2 2 2 2 887 25 26 16 17 = true := by sorry
theorem nc1_d26_16 : lne true false nc1 fr1 fg1 1 2 3 2 2 2 2 2 887 26 27 16 17 = true := by sorry
theorem nc1_all {c m : Nat} (m6 : 6 ≤ m) (h20 : 20 ≤ c) (h47 : c ≤ 47) (hc : c + 2 * m ≤ 58) {s : T6} (hs : s ∈ lng nc1 c) : (false = false → 5 ≤ 58 - 2 * m - c → dpD true fr1 fg1 0 1 2 3 2 2 2 2 s.2.2.1 s.2.2.2.1 2 s.2.2.2.2.1 s.2.2.2.2.2 s.1 (58 - 2 * m - c) m ≤ 887) ∧ (false = true → dpD true fr1 fg1 5 1 2 3 2 2 2 2 s.2.2.1 s.2.2.2.1 2 s.2.2.2.2.1 s.2.2.2.2.2 s.1 0 m ≤ 887) := by sorry
end
section
-- from 99y04t0
theorem ncq_d20_6 : lne true false ncq frq fgq 0 1 1 1 3 2 1 1 597 20 21 6 16 = true := by sorry
theorem ncq_d21_6 : lne true false ncq frq fgq 0 1 1 1 3 2 1 1 597 21 22 6 16 = true := by sorry
theorem ncq_d22_6 : lne true false ncq frq fgq 0 1 1 1 3 2 1 1 597 22 23 6 16 = true := by sorry
theorem ncq_d23_6 : lne true false ncq frq fgq 0 1 1 1 3 2 1 1 597 23 24 6 16 = true := by sorry
theorem ncq_d24_6 : lne true false ncq frq fgq 0 1 1 1 3 2 1 1 597 24 25 6 16 = true := by sorry
end
section
-- from 99y04t1
theorem ncq_d25_6 : lne true false ncq frq fgq 0 1 1 1 3 2 1 1 597 25 26 6 16 = true := by sorry
theorem ncq_d26_6 : lne true false ncq frq fgq 0 1 1 1 3 2 1 1 597 26 27 6 16 = true := by sorry
theorem ncq_d27_6 : lne true false ncq frq fgq 0 1 1 1 3 2 1 1 597 27 28 6 16 = true := by sorry
theorem ncq_d28_6 : lne true false ncq frq fgq 0 1 1 1 3 2 1 1 597 28 29 6 16 = true := by sorry
theorem ncq_d29_6 : lne true false ncq frq fgq 0 1 1 1 3 2 1 1 597 29 30 6 16 = true := by sorry
end
section
-- from 99y04t2
theorem ncq_d30_6 : lne true false ncq frq fgq 0 1 1 1 3 2 1 1 597 30 36 6 16 = true := by sorry
theorem ncq_d36_6 : lne true false ncq frq fgq 0 1 1 1 3 2 1 1 597 36 48 6 16 = true := by sorry
end
section
-- from 99y04t3
theorem ncq_d20_16 : lne true false ncq frq fgq 0 1 1 1 3 2 1 1 597 20 21 16 17 = true := by sorry
theorem ncq_d20_17 : lne true false ncq frq fgq 0 1 1 1 3 2 1 1 597 20 21 17 18 = true := by sorry
theorem ncq_d20_18 : lne true false ncq frq fgq 0 1 1 1 3 2 1 1 597 20 21 18 19 = true := by sorry
theorem ncq_d20_19 : lne true false ncq frq fgq 0 1 1 1 3 2 1 1 597 20 21 19 20 = true := by sorry
theorem ncq_d21_16 : lne true false ncq frq fgq 0 1 1 1 3 2 1 1 597 21 22 16 17 = true := by sorry
theorem ncq_d21_17 : lne true false ncq frq fgq 0 1 1 1 3 2 1 1 597 21 22 17 18 = true := by sorry
theorem ncq_d21_18 : lne true false ncq frq fgq 0 1 1 1 3 2 1 1 597 21 22 18 19 = true := by sorry
theorem ncq_d22_16 : lne true false ncq frq fgq 0 1 1 1 3 2 1 1 597 22 23 16 17 = true := by sorry
theorem ncq_d22_17 : lne true false ncq frq fgq 0 1 1 1 3 2 1 1 597 22 23 17 18 = true := by sorry
theorem ncq_d22_18 : lne true false ncq frq fgq 0 1 1 1 3 2 1 1 597 22 23 18 19 = true := by sorry
theorem ncq_d23_16 : lne true false ncq frq fgq 0 1 1 1 3 2 1 1 597 23 24 16 17 = true := by sorry
theorem ncq_d23_17 : lne true false ncq frq fgq 0 1 1 1 3 2 1 1 597 23 24 17 18 = true := by sorry
theorem ncq_d24_16 : lne true false ncq frq fgq 0 1 1 1 3 2 1 1 597 24 25 16 17 = true := by sorry
theorem ncq_d24_17 : lne true false ncq frq fgq 0 1 1 1 3 2 1 1 597 24 25 17 18 = true := by sorry
theorem ncq_d25_16 : lne true false ncq frq fgq 0 1 1 1 3 2 1 1 597 25 26 16 17 = true := by sorry
theorem ncq_d26_16 : lne true false ncq frq fgq 0 1 1 1 3 2 1 1 597 26 27 16 17 = true := by sorry
theorem ncq_all {c m : Nat} (m6 : 6 ≤ m) (h20 : 20 ≤ c) (h47 : c ≤ 47) (hc : c + 2 * m ≤ 58) {s : T6} (hs : s ∈ lng ncq c) : (false = false → 5 ≤ 58 - 2 * m - c → dpD true frq fgq 0 0 1 1 1 3 2 1 s.2.2.1 s.2.2.2.1 1 s.2.2.2.2.1 s.2.2.2.2.2 s.1 (58 - 2 * m - c) m ≤ 597) ∧ (false = true → dpD true frq fgq 5 0 1 1 1 3 2 1 s.2.2.1 s.2.2.2.1 1 s.2.2.2.2.1 s.2.2.2.2.2 s.1 0 m ≤ 597) := by sorry
end
section
-- from 99y05
def ne1 : LnT := [[], [], [], [], [], [], [], [], [], [], [], [], [], [], [], [], [], [], [], [], [(17, 0, 11, 3, 2, 11)], [(17, 0, 11, 3, 2, 12)], [(19, 0, 13, 4, 2, 13)], [(23, 0, 16, 4, 2, 14)], [(25, 0, 19, 4, 2, 15)], [(25, 0, 19, 4, 2, 16)], [(29, 0, 19, 5, 3, 17)], [(35, 0, 19, 4, 3, 13)], [(38, 0, 22, 4, 3, 14)], [(38, 0, 30, 6, 3, 20)], [(41, 0, 29, 6, 3, 21), (34, 0, 30, 0, 3, 6)], [(47, 0, 30, 5, 3, 17)], [(56, 0, 38, 6, 3, 18)], [(56, 0, 46, 6, 3, 19)], [(56, 0, 46, 6, 4, 20)], [(65, 0, 48, 5, 4, 21), (39, 0, 22, 6, 1, 21)], [(77, 0, 58, 4, 4, 21), (47, 0, 25, 6, 2, 21)], [(83, 0, 64, 8, 4, 23), (47, 0, 22, 9, 1, 23)], [(83, 0, 70, 8, 4, 24), (47, 0, 22, 9, 1, 24)], [(95, 0, 73, 7, 4, 25), (52, 0, 30, 9, 1, 25)], [(113, 0, 67, 6, 4, 26), (86, 0, 82, 8, 4, 26), (58, 0, 35, 12, 2, 26)], [(122, 0, 86, 5, 4, 26), (101, 0, 47, 7, 3, 26), (61, 0, 41, 12, 2, 26)], [(122, 0, 106, 5, 5, 26), (101, 0, 47, 7, 3, 26), (61, 0, 41, 12, 2, 26)], [(131, 0, 106, 20, 5, 34)], [(150, 0, 112, 27, 6, 35)], [(176, 0, 139, 27, 6, 36)], [(176, 0, 154, 27, 6, 37)], [(176, 0, 154, 27, 6, 38)]]
def neq : LnT := [[], [], [], [], [], [], [], [], [], [], [], [], [], [], [], [], [], [], [], [], [(11, 0, 10, 3, 2, 11)], [(11, 0, 10, 3, 2, 12)], [(14, 0, 13, 4, 2, 13)], [(14, 0, 13, 4, 2, 14)], [(14, 0, 13, 4, 2, 15)], [(17, 0, 16, 4, 2, 16)], [(17, 0, 16, 5, 3, 17)], [(18, 0, 16, 4, 3, 13)], [(23, 0, 21, 4, 3, 14)], [(26, 0, 24, 6, 3, 20)], [(26, 0, 24, 6, 3, 21)], [(29, 0, 27, 5, 3, 17)], [(35, 0, 32, 6, 3, 18)], [(35, 0, 32, 6, 3, 19)], [(38, 0, 37, 6, 4, 20)], [(44, 0, 41, 5, 4, 21), (23, 0, 15, 6, 1, 21)], [(47, 0, 43, 4, 4, 21), (23, 0, 16, 6, 2, 21)], [(50, 0, 49, 9, 4, 23)], [(57, 0, 56, 8, 4, 24), (23, 0, 12, 9, 1, 24)], [(59, 0, 56, 8, 4, 25), (29, 0, 18, 9, 1, 25)], [(62, 0, 61, 7, 4, 26), (32, 0, 22, 12, 2, 26)], [(75, 0, 74, 5, 4, 26), (46, 0, 27, 11, 3, 26), (26, 0, 12, 12, 1, 26)], [(84, 0, 83, 5, 5, 26), (50, 0, 30, 10, 3, 26), (26, 0, 13, 12, 1, 26)], [(84, 0, 83, 20, 5, 34)], [(93, 0, 92, 27, 6, 35)], [(111, 0, 110, 27, 6, 36)], [(112, 0, 111, 27, 6, 37)], [(117, 0, 116, 27, 6, 38)]]
def xe0 : List (List (Nat × Nat)) := [[], [], [], [], [], [], [], [], [], [], [], [], [], [], [], [], [], [], [(0, 0), (0, 9)], [(0, 0)], [], [], [(0, 9), (0, 5), (0, 11), (5, 0), (0, 10), (0, 0)], [(0, 10), (0, 0), (0, 9)], [(0, 0), (0, 9)], [(0, 0)], [(0, 0)], [(5, 0), (0, 0), (0, 6), (6, 0), (0, 5)], [(5, 0), (0, 0), (0, 5)], [(0, 0)], [(0, 0)], [(0, 0)], [(0, 0)], [(0, 0)], [], [], [], [], []]
def xe1 : List (List (Nat × Nat)) := [[], [], [], [], [], [], [], [], [], [], [], [], [], [], [], [], [], [], [(0, 0), (0, 9)], [(0, 0)], [], [], [(0, 9), (0, 5), (0, 11), (5, 0), (0, 10), (0, 0)], [(0, 10), (0, 0), (0, 9)], [(0, 0), (0, 9)], [(0, 0)], [(0, 0)], [(5, 0), (0, 0), (0, 6), (6, 0), (0, 5)], [(5, 0), (0, 0), (0, 5)], [(0, 0)], [(0, 0)], [(0, 0)], [(0, 0)], [(0, 0)], [], [], [], [], []]
theorem ne1_k : lnkb ne1 = true := by sorry
theorem ne1_w : lnw ne1 2 = true := by sorry
theorem neq_k : lnkb neq = true := by sorry
theorem neq_w : lnw neq 1 = true := by sorry
end
