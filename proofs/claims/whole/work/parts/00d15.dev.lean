section
-- from 99z99zx
def uV9 : List ((Nat × Nat × Nat × Nat × Nat) × List T6 × List T6) := [((2, 29, 0, 0, 7), [(45, 0, 33, 6, 0, 29)], [(21, 0, 19, 6, 0, 29)])]
def okV9s (e : Bool) (a : (Nat × Nat × Nat × Nat × Nat) × List T6 × List T6) : Bool :=
  liz [a.2.1] vv19 fr1 fg1 1 3 (kpz fr1 0 (max 1 (fx1.getD a.1.2.2.1 0)) 0) (wbz fr1 1 (max 1 (fx1.getD a.1.2.2.1 0)) a.1.1) (max 1 (fx1.getD a.1.2.2.1 0)) (ojy a.1.2.1 0 a.1.2.2.1 a.1.2.2.2.1) a.1.2.1 a.1.2.2.2.1 0 &&
  (liz [a.2.2] vvq9 frq fgq 0 1 (kpz frq 1 (max 1 (fxq.getD a.1.2.2.1 0)) 0) (wbz frq 0 (max 1 (fxq.getD a.1.2.2.1 0)) a.1.1) (max 1 (fxq.getD a.1.2.2.1 0)) (ojy a.1.2.1 0 a.1.2.2.1 a.1.2.2.2.1) a.1.2.1 a.1.2.2.2.1 0 &&
  (lno e [a.2.1] fr1 fg1 1 2 3 2 2 2 2 887 (58 - 2 * a.1.2.2.2.2 - (8 + a.1.1 + a.1.2.1 + a.1.2.2.1 + a.1.2.2.2.1)) a.1.2.2.2.2 && lno e [a.2.2] frq fgq 0 1 1 1 3 2 1 597 (58 - 2 * a.1.2.2.2.2 - (8 + a.1.1 + a.1.2.1 + a.1.2.2.1 + a.1.2.2.2.1)) a.1.2.2.2.2))
theorem uV9_ok : uV9.all (okV9s false) = true := by sorry
theorem hasV_get {L : List ((Nat × Nat × Nat × Nat × Nat) × List T6 × List T6)} {be k q1 q2 m : Nat} {e : Bool} (ok : L.all (okV9s e) = true) (h : has9 L be k q1 q2 m = true) : ∃ l1 l2, okV9s e ((be, k, q1, q2, m), l1, l2) = true := by sorry
theorem v9_pair {f : Nat} {x y t : Ty} {Γ : List Ty} {Δ : List (Nat × Ty × Nat)} {Δ1 : List Ty} {C : Ty} (H : H9 f x y Γ Δ) (sh : Sh9 x y t) (ch : CHo f t []) (eΓ : Γ = cxs Δ1 [] (tAll tR0 C)) (lb : LBd [] Δ1 (tAll tR0 C) tTop tR0 C) (h2 : hd C = 2) (nov : ¬ OVq 1 tR0 C Dsm []) (nD : Δ ≠ []) (h : has9 uV9 2 (tch C) 0 (cch Δ1) (mch (pee f t).2) = true) (d9 : dch Δ ≤ 9) (q38 : cch Δ1 ≤ 38) : PRn f x y Γ Δ := by sorry
def W9z9 (m : Nat) (e : Bool) (Γ : List Ty) : Prop := e = false ∧ (ExA Γ ∨ (∃ (Δ1 Γ0 : List Ty) (b b' B C : Ty), Γ = cxs Δ1 Γ0 b ∧ LBd Γ0 Δ1 b b' B C ∧ ¬ IS2 (fun _ => False) b ∧ hd b ≠ 2 ∧ 1 ≤ cch Γ0 + cch Δ1 ∧ exK m (tch B) (tch C) (tch b - tch (tAll B C)) (cch Γ0) (cch Δ1) = true))
def RESTAA9 : Prop := ∀ (f : Nat) (x y : Ty) (Γ : List Ty) (Δ : List (Nat × Ty × Nat)) (t : Ty), H9 f x y Γ Δ → Sh9 x y t → (¬ CHo f t [] ∨ (CHo f t [] ∧ (W9z9 (mch (pee f t).2) Δ.isEmpty Γ ∨ V9c f x y t (mch (pee f t).2) Δ.isEmpty Γ))) → PRn f x y Γ Δ
theorem restZ9_of (R : RESTAA9) : RESTZ9 := by sorry
theorem pairn_qa (R : RESTAA9) : PAIRn := by sorry
end
section
-- from 99z99zy
section PmZyA
variable {d : Nat} {P : Ty → Prop} {σ b x : Ty}
theorem is_top (o : ok d x = true) (h : IS2 P x) (ni : ¬ IS2 (fun _ => False) x) (hp : ∀ s, ok d s = true → P s → tch x ≤ tch s) : ∃ a c, x = tAll a c ∧ P x := by sorry
theorem rch_one : ∀ m, m < 8 → rch m ≤ 4 → m = 0 ∨ m = 1 ∨ m = 2 ∨ m = 4 := by sorry
theorem rec_one (o : ok d b = true) (h : IS2 (DSo d σ b) b) (ni : ¬ IS2 (fun _ => False) b) (h2 : hd b ≠ 2) (e3 : tch b = tch σ + 3) : ∃ m, b = tRec m σ .nil .nil ∧ m = 1 ∨ b = tRec m .nil σ .nil ∧ m = 2 ∨ b = tRec m .nil .nil σ ∧ m = 4 := by sorry
end PmZyA
theorem lb_rec3 {Γ0 Δ1 : List Ty} {b b' B C : Ty} (lb : LBd Γ0 Δ1 b b' B C) (o : ok Γ0.length b = true) (ni : ¬ IS2 (fun _ => False) b) (h2 : hd b ≠ 2) (e3 : tch b - tch (tAll B C) = 3) : ∃ b2, LBd Γ0 Δ1 b b2 B C ∧ ∀ h ω, nz 0 (fun _ => 1 + 1) (2 + 1) h ω b2 ≤ 2 := by sorry
section PmZy9
variable {f : Nat} {t b b' B C : Ty} {Γ0 Δ1 : List Ty} {Δ : List (Nat × Ty × Nat)} {e : Bool} {LR LG : LnT} {cd : Nat}
theorem zone_jk {VR VG : FrT} (fR : ∃ v ∈ frg VR (tch C), xt (Γ0.length + 1) C ≤ v.1 ∧ xa 0 (fun _ => 1 + 1) 3 1 (Γ0.length + 1) C ≤ v.2) (fG : ∃ v ∈ frg VG (tch C), xt (Γ0.length + 1) C ≤ v.1 ∧ xa 1 ngc 1 0 (Γ0.length + 1) C ≤ v.2) (lb : LBd Γ0 Δ1 b b' B C) {κr : Nat} (hkr : ∀ d, nz 0 (fun _ => 1 + 1) (2 + 1) (vlr d 1) (onz 0 (fun _ => 1 + 1) (2 + 1) (vlr d 1) Γ0) b' ≤ κr) (w : TWf f (cxs Δ1 Γ0 b).length (Δ.map (fun a => a.1)) t) (he : TE (cxs Δ1 Γ0 b) Δ) (hΔ : (e = true ∧ Δ = []) ∨ (e = false ∧ Δ ≠ [])) (cu : TNo f t) (hΔ1 : Δ.length ≤ 1) (ch : CHo f t []) (zR : liz LR VR fr1 fg1 1 3 κr (wbz fr1 1 (max 1 (fx1.getD (cch Γ0) 0)) (tch B)) (max 1 (fx1.getD (cch Γ0) 0)) (ojy (tch C) (tch b - tch (tAll B C)) (cch Γ0) (cch Δ1)) (tch C) (cch Δ1) 0 = true) (zG : liz LG VG frq fgq 0 1 (kpz frq 1 (max 1 (fxq.getD (cch Γ0) 0)) (tch b - tch (tAll B C))) (wbz frq 0 (max 1 (fxq.getD (cch Γ0) 0)) (tch B)) (max 1 (fxq.getD (cch Γ0) 0)) (ojy (tch C) (tch b - tch (tAll B C)) (cch Γ0) (cch Δ1)) (tch C) (cch Δ1) 0 = true) (tR : lno e LR fr1 fg1 1 2 3 2 2 2 2 887 cd (mch t) = true) (tG : lno e LG frq fgq 0 1 1 1 3 2 1 597 cd (mch t) = true) (m30 : mch t ≤ 30) (cd56 : cd ≤ 56) (h47 : cch (cxs Δ1 Γ0 b) ≤ 47) (q38 : cch Δ1 ≤ 38) (hb : dch Δ ≤ cd) : NtV (cxs Δ1 Γ0 b) Δ f t 887 597 := by sorry
end PmZy9
def kR9 : List T6 := [(83, 0, 34, 0, 2, 22), (85, 0, 33, 1, 2, 22), (87, 0, 26, 5, 2, 22), (87, 0, 32, 2, 2, 22), (89, 0, 25, 6, 2, 22), (89, 0, 29, 4, 2, 22), (89, 0, 31, 3, 2, 22), (91, 0, 24, 7, 2, 22), (93, 0, 23, 8, 2, 22), (95, 0, 22, 9, 2, 22)]
def kG9 : List T6 := [(47, 0, 9, 9, 2, 22), (47, 0, 10, 8, 2, 22), (47, 0, 11, 7, 2, 22), (53, 0, 15, 6, 2, 22), (53, 0, 16, 5, 2, 22), (55, 0, 18, 4, 2, 22), (61, 0, 22, 3, 2, 22), (67, 0, 26, 2, 2, 22), (67, 0, 27, 1, 2, 22), (67, 0, 28, 0, 2, 22)]
def okJ9 (m : Nat) : Bool :=
  liz [kR9] xr1 fr1 fg1 1 3 2 (wbz fr1 1 1 1) 1 (ojy 22 3 0 9) 22 9 0 &&
  (liz [kG9] xrq frq fgq 0 1 (kpz frq 1 1 3) (wbz frq 0 1 1) 1 (ojy 22 3 0 9) 22 9 0 &&
  (lno false [kR9] fr1 fg1 1 2 3 2 2 2 2 887 (58 - 2 * m - 43) m && lno false [kG9] frq fgq 0 1 1 1 3 2 1 597 (58 - 2 * m - 43) m))
theorem okJ9_ok : okJ9 3 = true ∧ okJ9 4 = true := by sorry
theorem nat_k9 {f : Nat} {t b b' B C : Ty} {Δ1 : List Ty} {Δ : List (Nat × Ty × Nat)} (lb : LBd [] Δ1 b b' B C) (hk : ∀ h ω, nz 0 (fun _ => 1 + 1) (2 + 1) h ω b' ≤ 2) (w : TWf f (cxs Δ1 [] b).length (Δ.map (fun a => a.1)) t) (he : TE (cxs Δ1 [] b) Δ) (nD : Δ ≠ []) (tn : TNo f t) (ch : CHo f t []) (m34 : mch t = 3 ∨ mch t = 4) (eB : tch B = 1) (eC : tch C = 22) (eo : tch b - tch (tAll B C) = 3) (e2 : cch Δ1 = 9) (hb : cch (cxs Δ1 [] b) + dch Δ + 2 * mch t ≤ 58) : NtV (cxs Δ1 [] b) Δ f t 887 597 := by sorry
def W9aa (m : Nat) (e : Bool) (Γ : List Ty) : Prop := e = false ∧ (ExA Γ ∨ (∃ (Δ1 : List Ty) (b b' B C : Ty), Γ = cxs Δ1 [] b ∧ LBd [] Δ1 b b' B C ∧ (∀ h ω, nz 0 (fun _ => 1 + 1) (2 + 1) h ω b' ≤ 2) ∧ ¬ IS2 (fun _ => False) b ∧ hd b ≠ 2 ∧ m = 5 ∧ tch B = 1 ∧ tch C = 22 ∧ tch b - tch (tAll B C) = 3 ∧ cch Δ1 = 9))
def RESTAB9 : Prop := ∀ (f : Nat) (x y : Ty) (Γ : List Ty) (Δ : List (Nat × Ty × Nat)) (t : Ty), H9 f x y Γ Δ → Sh9 x y t → (¬ CHo f t [] ∨ (CHo f t [] ∧ (W9aa (mch (pee f t).2) Δ.isEmpty Γ ∨ V9c f x y t (mch (pee f t).2) Δ.isEmpty Γ))) → PRn f x y Γ Δ
theorem restAA9_of (R : RESTAB9) : RESTAA9 := by sorry
theorem pairn_qb (R : RESTAB9) : PAIRn := by sorry
end
section
-- from 99z99zz
def lno8 (L : LnT) (F W : FrT) (hv fn s2 r0 r1 r2 r3 Bd cd m : Nat) : Bool := (lng L 0).all (fun s => Nat.ble (dp8 true F W 0 hv fn s2 r0 r1 r2 r3 s.2.2.1 s.2.2.2.1 s.1 s.2.2.2.2.1 s.2.2.2.2.2 s.1 cd m) Bd)
theorem lno8_get {L : LnT} {F W : FrT} {hv fn s2 r0 r1 r2 r3 Bd cd m : Nat} (h : lno8 L F W hv fn s2 r0 r1 r2 r3 Bd cd m = true) {s : T6} (hs : s ∈ lng L 0) : dp8 true F W 0 hv fn s2 r0 r1 r2 r3 s.2.2.1 s.2.2.2.1 s.1 s.2.2.2.2.1 s.2.2.2.2.2 s.1 cd m ≤ Bd := by sorry
section PmZz9
variable {f : Nat} {t b b' B C : Ty} {Γ0 Δ1 : List Ty} {Δ : List (Nat × Ty × Nat)} {LR LG : LnT}
theorem zone_hk (hr : ∀ a ∈ cxs Δ1 Γ0 b, hd a ≠ 2) (lb : LBd Γ0 Δ1 b b' B C) {κr : Nat} (hkr : ∀ d, nz 0 (fun _ => 1 + 1) (2 + 1) (vlr d 1) (onz 0 (fun _ => 1 + 1) (2 + 1) (vlr d 1) Γ0) b' ≤ κr) (w : TWf f (cxs Δ1 Γ0 b).length (Δ.map (fun a => a.1)) t) (he : TE (cxs Δ1 Γ0 b) Δ) (cΔ : Δ ≠ []) (ch : CHo f t []) (zR : liz LR xr1 fr1 fg1 1 3 κr (wbz fr1 1 (max 1 (fx1.getD (cch Γ0) 0)) (tch B)) (max 1 (fx1.getD (cch Γ0) 0)) (ojz (tch C) (tch b - tch (tAll B C)) (cch Γ0) (cch Δ1)) (tch C) (cch Δ1) 0 = true) (zG : liz LG xrq frq fgq 0 1 (kpz frq 1 (max 1 (fxq.getD (cch Γ0) 0)) (tch b - tch (tAll B C))) (wbz frq 0 (max 1 (fxq.getD (cch Γ0) 0)) (tch B)) (max 1 (fxq.getD (cch Γ0) 0)) (ojz (tch C) (tch b - tch (tAll B C)) (cch Γ0) (cch Δ1)) (tch C) (cch Δ1) 0 = true) (tR : lno8 LR fr1 fg1 1 2 3 2 2 2 2 887 (58 - 2 * mch t - cch (cxs Δ1 Γ0 b)) (mch t) = true) (tG : lno8 LG frq fgq 0 1 1 1 3 2 1 597 (58 - 2 * mch t - cch (cxs Δ1 Γ0 b)) (mch t) = true) (h47 : cch (cxs Δ1 Γ0 b) ≤ 47) (q38 : cch Δ1 ≤ 38) (hb : cch (cxs Δ1 Γ0 b) + dch Δ + 2 * mch t ≤ 58) : NtV (cxs Δ1 Γ0 b) Δ f t 887 597 := by sorry
end PmZz9
def okJ8 : Bool :=
  liz [kR9] xr1 fr1 fg1 1 3 2 (wbz fr1 1 1 1) 1 (ojz 22 3 0 9) 22 9 0 &&
  (liz [kG9] xrq frq fgq 0 1 (kpz frq 1 1 3) (wbz frq 0 1 1) 1 (ojz 22 3 0 9) 22 9 0 &&
  (lno8 [kR9] fr1 fg1 1 2 3 2 2 2 2 887 5 5 && lno8 [kG9] frq fgq 0 1 1 1 3 2 1 597 5 5))
theorem okJ8_ok : okJ8 = true := by sorry
theorem nat_kk9 {f : Nat} {t b b' B C : Ty} {Δ1 : List Ty} {Δ : List (Nat × Ty × Nat)} (lb : LBd [] Δ1 b b' B C) (hk : ∀ h ω, nz 0 (fun _ => 1 + 1) (2 + 1) h ω b' ≤ 2) (h2 : hd b ≠ 2) (w : TWf f (cxs Δ1 [] b).length (Δ.map (fun a => a.1)) t) (he : TE (cxs Δ1 [] b) Δ) (nD : Δ ≠ []) (ch : CHo f t []) (m5 : mch t = 5) (eB : tch B = 1) (eC : tch C = 22) (eo : tch b - tch (tAll B C) = 3) (e2 : cch Δ1 = 9) (hb : cch (cxs Δ1 [] b) + dch Δ + 2 * mch t ≤ 58) : NtV (cxs Δ1 [] b) Δ f t 887 597 := by sorry
def RESTAC9 : Prop := ∀ (f : Nat) (x y : Ty) (Γ : List Ty) (Δ : List (Nat × Ty × Nat)) (t : Ty), H9 f x y Γ Δ → Sh9 x y t → (¬ CHo f t [] ∨ (CHo f t [] ∧ ((Δ ≠ [] ∧ ExA Γ) ∨ V9c f x y t (mch (pee f t).2) Δ.isEmpty Γ))) → PRn f x y Γ Δ
theorem restAB9_of (R : RESTAC9) : RESTAB9 := by sorry
theorem pairn_qc (R : RESTAC9) : PAIRn := by sorry
end
section
-- from 99z99zza
def xv7 : FrT := [[], [(1, 0)], [(1, 0), (0, 1)], [(1, 0), (0, 1)], [(1, 1)], [(2, 1), (0, 2)], [(2, 1), (1, 4)], [(2, 1), (1, 4)], [(2, 2), (1, 4)], [(3, 2), (1, 5)], [(3, 2), (2, 7)], [(3, 2), (2, 7), (1, 8)], [(3, 3), (2, 7), (1, 8)], [(4, 3), (2, 8)], [(4, 7), (3, 10)], [(4, 7), (3, 10), (2, 13)], [(4, 7), (3, 10), (2, 13)], [(5, 4), (4, 9), (3, 11), (2, 13)], [(6, 10), (4, 13), (2, 15)], [(6, 10), (4, 19)], [(6, 10), (4, 19), (2, 21)], [(6, 13), (4, 19), (2, 21)], [(9, 13), (5, 16), (4, 21), (3, 22)], [(9, 13), (8, 19), (6, 28)], [(9, 13), (8, 19), (6, 28), (4, 31)], [(9, 16), (8, 19), (6, 28), (4, 31)], [(12, 17), (8, 23), (6, 31)], [(12, 28), (9, 37)], [(12, 28), (9, 37), (8, 43), (6, 46)], [(12, 28), (9, 37), (8, 43), (6, 46), (4, 47)], [(16, 21), (12, 34), (9, 40), (8, 43), (6, 46), (4, 47)], [(18, 37), (12, 49), (6, 52)], [(18, 37), (16, 43), (12, 64)], [(18, 37), (16, 43), (12, 64), (8, 67), (6, 70)], [(20, 26), (18, 46), (12, 64), (8, 67), (6, 70)], [(27, 46), (24, 49), (16, 61), (12, 70), (9, 73)], [(27, 46), (24, 64), (18, 91)], [(27, 46), (24, 64), (18, 91), (12, 100)], [(27, 55), (24, 64), (18, 91), (12, 100)], [(36, 61), (24, 76), (18, 100)], [(36, 91), (27, 118), (24, 121)]]
def xv8 : FrT := [[], [], [(2, 0)], [(2, 0), (1, 1)], [(2, 0), (1, 1), (0, 2)], [(2, 1), (0, 2)], [(3, 1), (1, 2)], [(3, 1), (2, 4)], [(3, 1), (2, 4), (1, 5)], [(3, 2), (2, 4), (1, 5)], [(4, 2), (2, 5)], [(4, 2), (3, 7)], [(4, 2), (3, 7), (2, 8)], [(4, 3), (3, 7), (2, 8), (1, 9)], [(5, 3), (3, 8), (1, 9)], [(5, 7), (4, 10)], [(5, 7), (4, 10), (3, 13)], [(5, 7), (4, 10), (3, 13), (2, 14)], [(6, 4), (5, 9), (4, 11), (3, 13), (2, 14)], [(7, 10), (5, 13), (3, 15)], [(7, 10), (6, 11), (5, 19)], [(7, 10), (6, 11), (5, 19), (4, 20), (3, 21)], [(7, 13), (5, 19), (4, 20), (3, 21), (2, 22)], [(10, 13), (6, 16), (5, 21), (4, 22)], [(10, 13), (9, 19), (7, 28)], [(10, 13), (9, 19), (8, 20), (7, 28), (6, 29), (5, 31)], [(10, 16), (9, 19), (8, 20), (7, 28), (6, 29), (5, 31), (4, 32)], [(13, 17), (9, 23), (7, 31), (4, 32)], [(13, 28), (10, 37)], [(13, 28), (12, 29), (10, 37), (9, 43), (7, 46)], [(13, 28), (12, 29), (10, 37), (9, 43), (8, 44), (7, 46), (6, 47)], [(17, 21), (13, 34), (10, 40), (9, 43), (8, 44), (7, 46), (6, 47), (4, 48)], [(19, 37), (13, 49), (7, 52)], [(19, 37), (18, 38), (17, 43), (13, 64)], [(19, 37), (18, 38), (17, 43), (16, 44), (13, 64), (12, 65), (9, 67), (7, 70)], [(21, 26), (19, 46), (13, 64), (12, 65), (9, 67), (8, 68), (7, 70), (6, 71)], [(28, 46), (25, 49), (17, 61), (13, 70), (10, 73)], [(28, 46), (27, 47), (25, 64), (19, 91)], [(28, 46), (27, 47), (25, 64), (24, 65), (19, 91), (18, 92), (13, 100)], [(28, 55), (25, 64), (24, 65), (19, 91), (18, 92), (13, 100), (12, 101)], [(37, 61), (25, 76), (19, 100), (12, 101)]]
theorem xv7_ok : xrc xv7 xv8 0 1 2 1 1 1 1 1 = true := by sorry
theorem exa_num : (frg xv7 31).all (fun v => (List.range 28).all (fun k => (frg xv7 k).all (fun u => Nat.ble (u.2 + u.1 * (4 + (v.2 + v.1))) 887))) = true := by sorry
section PmZa1
variable {f : Nat} {σ b B C s : Ty} {Δ : List (Nat × Ty × Nat)} {m : Nat}
def Rc1 (b σ : Ty) : Prop := ∃ m, b = tRec m σ .nil .nil ∧ m = 1 ∨ b = tRec m .nil σ .nil ∧ m = 2 ∨ b = tRec m .nil .nil σ ∧ m = 4
theorem rc1_lft (h : Rc1 b σ) : hd (lft 0 1 b) < 16 ∧ 8 ≤ hd (lft 0 1 b) ∧ ∀ g, g < 3 → bit (hd (lft 0 1 b) - 8) g = true → pt (lft 0 1 b) g = lft 0 1 σ := by sorry
theorem nm_exa (he : TE [b] Δ) (rc : Rc1 b σ) (d7 : dch Δ ≤ 7) {e T : Ty} (w : TWf (f + 1) 1 (Δ.map (fun a => a.1)) e) (c5 : nKd e = 5) (e0 : tyF (f + 1) e [b] Δ = .inr T) : expo [b] 1 T = tTop ∨ expo [b] 1 T = tR0 ∨ expo [b] 1 T = lft 0 1 b := by sorry
theorem sh_exa (he : TE [b] Δ) (rc : Rc1 b (tAll tTop C)) (d7 : dch Δ ≤ 7) {S : Ty} (w : TWf (f + 1) 1 (Δ.map (fun a => a.1)) s) (c9 : nKd s = 9) (m5 : mch s ≤ 5) (e0 : tyF (f + 1) s [b] Δ = .inr S) : mch s = 5 ∧ tch (nY s) = 1 ∧ tyF f (nX s) [b] Δ = .inr (tAll tTop (lft 0 1 C)) ∧ S = sbt 1 (nY s) 0 (lft 0 1 C) := by sorry
theorem ntv_exa (he : TE [b] Δ) (rc : Rc1 b (tAll tTop C)) (d7 : dch Δ ≤ 7) (w : TWf f 1 (Δ.map (fun a => a.1)) s) (m5 : mch s ≤ 5) (hb : cch [b] + dch Δ + 2 * mch s ≤ 58) : NtV [b] Δ f s 887 597 ∨ (nKd s = 9 ∧ mch s = 5) := by sorry
theorem ntv_three (he : TE [b] Δ) (rc : Rc1 b σ) (d9 : dch Δ ≤ 9) (w : TWf f 1 (Δ.map (fun a => a.1)) s) (k7 : nKd s ≠ 7) (k11 : nKd s ≠ 11) (m3 : mch s = 3) (hb : cch [b] + dch Δ + 2 * mch s ≤ 58) : NtV [b] Δ f s 887 597 := by sorry
theorem one_txt {d : Nat} {Q : Ty} (o : ok d Q = true) (hq : tch Q = 1) : Q = tTop ∨ ∃ j, j < d ∧ Q = tVar j := by sorry
theorem pair_exa {x y : Ty} (he : TE [b] Δ) (hv : noac [b]) (hd' : ∀ a ∈ Δ, noal a.2.1 = true) (ob : ok 0 b = true) (oC : ok 1 C = true) (rc : Rc1 b (tAll tTop C)) (eC : tch C = 31) (h47 : cch [b] ≤ 47) (d7 : dch Δ ≤ 7) (w1 : TWf f 1 (Δ.map (fun a => a.1)) x) (w2 : TWf f 1 (Δ.map (fun a => a.1)) y) (n1 : NAt f x) (n2 : NAt f y) (k1' : nKd x = 9) (k2' : nKd y = 9) (m1 : mch x = 5) (m2 : mch y = 5) : PRn f x y [b] Δ := by sorry
end PmZa1
def RESTAD9 : Prop := ∀ (f : Nat) (x y : Ty) (Γ : List Ty) (Δ : List (Nat × Ty × Nat)) (t : Ty), H9 f x y Γ Δ → Sh9 x y t → (¬ CHo f t [] ∨ (CHo f t [] ∧ V9c f x y t (mch (pee f t).2) Δ.isEmpty Γ)) → PRn f x y Γ Δ
theorem restAC9_of (R : RESTAD9) : RESTAC9 := by sorry
theorem pairn_qd (R : RESTAD9) : PAIRn := by sorry
end
section
-- from 99z99zzb
theorem nop_five {f D : Nat} {sc : List Nat} {t : Ty} (w : TWf f D sc t) (m5 : mch t ≤ 5) (k7 : nKd t ≠ 7) (k9 : nKd t ≠ 9) (k11 : nKd t ≠ 11) : NOp f t := by sorry
section PmZb1
variable {f : Nat} {s : Ty} {Γ : List Ty} {Δ : List (Nat × Ty × Nat)}
theorem exi_num : Zx fr1 (fx1.getD 47 0) 11 ≤ 887 ∧ Zx frq (fxq.getD 47 0) 11 ≤ 597 := by sorry
theorem fx_mono47 : (List.range 48).all (fun c => Nat.ble (fx1.getD c 0) (fx1.getD 47 0) && Nat.ble (fxq.getD c 0) (fxq.getD 47 0)) = true := by sorry
theorem nat_three (he : TE Γ Δ) (hv : noac Γ) (d9 : dch Δ ≤ 9) (h47 : cch Γ ≤ 47) (hk : ∀ j, j < Γ.length → ∀ a b, bnd Γ j = tAll a b → tch b ≤ 9) (w : TWf f Γ.length (Δ.map (fun a => a.1)) s) (k9 : nKd s = 9) (m3 : mch s = 3) : NtV Γ Δ f s 887 597 := by sorry
end PmZb1
def wF9 : List ((Nat × Nat × Nat × Nat × Nat) × List T6 × List T6) := [((2, 18, 0, 9, 8), [(49, 0, 19, 3, 0, 18)], [(27, 0, 11, 3, 0, 18)]),
  ((2, 22, 0, 9, 6), [(69, 0, 29, 4, 0, 22)], [(41, 0, 18, 4, 0, 22)]),
  ((2, 18, 0, 9, 7), [(49, 0, 19, 3, 0, 18)], [(27, 0, 11, 3, 0, 18)]),
  ((2, 18, 0, 10, 7), [(49, 0, 19, 3, 1, 18)], [(27, 0, 11, 3, 1, 18)]),
  ((2, 19, 0, 9, 7), [(57, 0, 23, 4, 0, 19)], [(33, 0, 14, 4, 0, 19)]),
  ((2, 22, 0, 12, 3), [(71, 0, 29, 4, 1, 22)], [(44, 0, 18, 4, 1, 22)]),
  ((5, 18, 0, 13, 3), [(92, 0, 25, 3, 1, 18)], [(53, 0, 15, 3, 1, 18)])]
def okFl9 (a : (Nat × Nat × Nat × Nat × Nat) × List T6 × List T6) : Bool :=
  liz [a.2.1] (sfR a.1.1) fr1 fg1 1 3 (kpz fr1 0 (max 1 (fx1.getD a.1.2.2.1 0)) 0) (wbz fr1 1 (max 1 (fx1.getD a.1.2.2.1 0)) a.1.1) (max 1 (fx1.getD a.1.2.2.1 0)) (ojy a.1.2.1 0 a.1.2.2.1 a.1.2.2.2.1) a.1.2.1 a.1.2.2.2.1 0 &&
  (liz [a.2.2] (sfG a.1.1) frq fgq 0 1 (kpz frq 1 (max 1 (fxq.getD a.1.2.2.1 0)) 0) (wbz frq 0 (max 1 (fxq.getD a.1.2.2.1 0)) a.1.1) (max 1 (fxq.getD a.1.2.2.1 0)) (ojy a.1.2.1 0 a.1.2.2.1 a.1.2.2.2.1) a.1.2.1 a.1.2.2.2.1 0 &&
  (lno false [a.2.1] fr1 fg1 1 2 3 2 2 2 2 887 (58 - 2 * a.1.2.2.2.2 - (8 + a.1.1 + a.1.2.1 + a.1.2.2.1 + a.1.2.2.2.1)) a.1.2.2.2.2 && lno false [a.2.2] frq fgq 0 1 1 1 3 2 1 597 (58 - 2 * a.1.2.2.2.2 - (8 + a.1.1 + a.1.2.1 + a.1.2.2.1 + a.1.2.2.2.1)) a.1.2.2.2.2))
theorem wF9_ok : wF9.all okFl9 = true := by sorry
theorem hasF_get {L : List ((Nat × Nat × Nat × Nat × Nat) × List T6 × List T6)} {be k q1 q2 m : Nat} (ok : L.all okFl9 = true) (h : has9 L be k q1 q2 m = true) : ∃ l1 l2, okFl9 ((be, k, q1, q2, m), l1, l2) = true := by sorry
theorem nat_F9 {f : Nat} {t B C : Ty} {Δ1 : List Ty} {Δ : List (Nat × Ty × Nat)} (lb : LBd [] Δ1 (tAll B C) tTop B C) (h : sN B 0 1 C = true) (b2 : 2 ≤ tch B) (b16 : tch B ≤ 16) (w : TWf f (cxs Δ1 [] (tAll B C)).length (Δ.map (fun a => a.1)) t) (he : TE (cxs Δ1 [] (tAll B C)) Δ) (nD : Δ ≠ []) (tn : TNo f t) (ch : CHo f t []) (hz : has9 wF9 (tch B) (tch C) 0 (cch Δ1) (mch t) = true) (m30 : mch t ≤ 30) (h47 : cch (cxs Δ1 [] (tAll B C)) ≤ 47) (q38 : cch Δ1 ≤ 38) (hb : cch (cxs Δ1 [] (tAll B C)) + dch Δ + 2 * mch t ≤ 58) (d9 : dch Δ ≤ 9) : NtV (cxs Δ1 [] (tAll B C)) Δ f t 887 597 := by sorry
def V9d (f : Nat) (x y t : Ty) (m : Nat) (Γ : List Ty) (Δ : List (Nat × Ty × Nat)) : Prop := ∃ (Δ1 : List Ty) (B C : Ty), Γ = cxs Δ1 [] (tAll B C) ∧ LBd [] Δ1 (tAll B C) tTop B C ∧ Δ ≠ [] ∧ sN B 0 1 C = false ∧ OVq 1 B C Dsm [] ∧ ((¬ CFt f t ∧ exG (tch B) (tch C) 0 (cch Δ1) m = true) ∨ (CFt f t ∧ ¬ (CFt f x ∧ CFt f y) ∧ exH (tch B) (tch C) 0 (cch Δ1) (mch t) (mch x + mch y - mch t) = true))
def RESTAE9 : Prop := ∀ (f : Nat) (x y : Ty) (Γ : List Ty) (Δ : List (Nat × Ty × Nat)) (t : Ty), H9 f x y Γ Δ → Sh9 x y t → (¬ CHo f t [] ∨ (CHo f t [] ∧ V9d f x y t (mch (pee f t).2) Γ Δ)) → PRn f x y Γ Δ
theorem exGb9 {be k q1 q2 m : Nat} (h : exG be k q1 q2 m = true) : q1 = 0 ∧ be = 2 ∧ q2 = 9 ∧ has9 wF9 be k 0 q2 m = true := by sorry
theorem exHb9 {be k q1 q2 mt mo : Nat} (h : exH be k q1 q2 mt mo = true) : q1 = 0 ∧ 2 ≤ be ∧ be ≤ 5 ∧ q2 ≤ 13 ∧ (mt = 8 → mo = 8) ∧ (has9 wF9 be k 0 q2 mt = true) := by sorry
theorem exIb9 {be k q1 q2 mt mo : Nat} (h : exI be k q1 q2 mt mo = true) : be = 4 ∧ k = 9 ∧ q1 = 0 ∧ q2 = 26 ∧ mt = 3 ∧ mo = 3 := by sorry
theorem restAD9_of (R : RESTAE9) : RESTAD9 := by sorry
theorem pairn_qe (R : RESTAE9) : PAIRn := by sorry
end
section
-- from 99z99zzc
def UPx (F G : Ty) : Prop := (∀ a q, G = tAll a q → ∃ b, F = tAll a b) ∧ (∀ m x y z, m < 8 → G = tRec m x y z → m ≠ 0 → hd F ≠ 8)
theorem UPx_refl (F : Ty) : UPx F F := by sorry
theorem UPx_top (F : Ty) : UPx F tTop := by sorry
theorem UPx_fun (F a b : Ty) : UPx F (tFun a b) := by sorry
section PmZc1
variable {Γ : List Ty}
theorem ex_v (hc : okc Γ) (hv : noac Γ) {j : Nat} (hj : j < Γ.length) : expo Γ Γ.length (tVar j) = lft j (Γ.length - j) (bnd Γ j) ∧ hd (lft j (Γ.length - j) (bnd Γ j)) < 16 := by sorry
theorem ex_n {S : Ty} (h : ¬ 16 ≤ hd S) : expo Γ Γ.length S = S := by sorry
theorem bel_upx (hv : noac Γ) {S T : Ty} (tk : tok (Γ, S, T)) (h : bel Γ S T = true) : UPx (expo Γ Γ.length S) (expo Γ Γ.length T) := by sorry
theorem lset0_l : ∀ m, m < 8 → lset 0 0 m = 0 ∧ lset 0 m 0 = 0 := by sorry
theorem ju_upx (hv : noac Γ) : ∀ (f : Nat) (S T R : Ty), tok (Γ, S, T) → cu f 0 Γ S T = some R → UPx (expo Γ Γ.length S) (expo Γ Γ.length R) ∧ UPx (expo Γ Γ.length T) (expo Γ Γ.length R) := by sorry
end PmZc1
theorem noh8_seven : ∀ (f : Nat) (t : Ty) (d : Nat), (flat t).length ≤ f → ok d t = true → noh 8 t = false → 7 ≤ tch t := by sorry
theorem noh8_small {d : Nat} {t : Ty} (o : ok d t = true) (h : tch t ≤ 6) : noh 8 t = true := by sorry
theorem hd8_r0 {d : Nat} {a : Ty} (o : ok d a = true) (h : hd a = 8) : a = tR0 := by sorry
theorem noh8_sN : ∀ (f : Nat) (t : Ty) (d : Nat), (flat t).length ≤ f → ok d t = true → sN tR0 0 d t = false → noh 8 t = true := by sorry
end
section
-- from 99z99zzd
theorem chr_min8 : ∀ (f D : Nat) (sc : List Nat) (t : Ty), TWf f D sc t → ∃ a b c, 1 + a + b + c ≤ mch t ∧ (NHt 8 f t ∨ 6 ≤ a) ∧ (CFt f t ∨ 3 ≤ b) ∧ (NOp f t ∨ 2 ≤ c) := by sorry
section PmZd1
variable {f D p : Nat} {u v w s : Ty}
theorem nm_mk (w : TWf f D [p] v) (k5 : nKd v = 5) : nMk v = p := by sorry
theorem sh_ncf (w : TWf (f + 1) D [p] u) (tn : TNo (f + 1) u) (nc : ¬ CFt (f + 1) u) (m7 : mch u ≤ 7) : (nKd u = 12 ∧ (TWf f D [p] (nX u) ∧ TNo f (nX u)) ∧ (TWf f D [p] (nY u) ∧ TNo f (nY u)) ∧ mch (nX u) + mch (nY u) + 2 = mch u ∧ ¬ (nKd (nX u) = 5 ∧ nKd (nY u) = 5)) ∨ ((nKd u = 9 ∨ nKd u = 11) ∧ TWf f D [p] (nX u) ∧ TNo f (nX u) ∧ ¬ CFt f (nX u) ∧ mch (nX u) ≤ 5) := by sorry
theorem two_nil (w : TWf f D [p] v) (m2 : mch v = 2) : nKd v = 10 ∧ nMk v = 0 := by sorry
theorem one_nm (w : TWf f D [p] v) (m1 : mch v = 1) : nKd v = 5 := by sorry
variable {Γ : List Ty} {Δ : List (Nat × Ty × Nat)} {a0 : Nat × Ty × Nat} {T R S : Ty}
theorem ty_nil (k : nKd v = 10) (m0 : nMk v = 0) (h : tyF f v Γ Δ = .inr T) : T = tR0 := by sorry
theorem ty_nm (w : TWf f Γ.length [a0.1] v) (k5 : nKd v = 5) (h : tyF f v Γ [a0] = .inr T) : T = lft a0.2.2 (Γ.length - a0.2.2) a0.2.1 := by sorry
theorem ty_or (k : nKd v = 12) (h : tyF (f + 1) v Γ Δ = .inr T) : ∃ S1 S2, tyF f (nX v) Γ Δ = .inr S1 ∧ tyF f (nY v) Γ Δ = .inr S2 ∧ cmu 0 Γ S1 S2 = some T := by sorry
theorem ex_r0 : expo Γ Γ.length tR0 = tR0 := by sorry
theorem ty_five (he : TE Γ [a0]) (hv : noac Γ) (w : TWf f Γ.length [a0.1] v) (tn : TNo f v) (nc : ¬ CFt f v) (m5 : mch v ≤ 5) (h : tyF f v Γ [a0] = .inr R) : hd (expo Γ Γ.length R) ≠ 2 ∧ ∀ m x y z, m < 8 → expo Γ Γ.length R = tRec m x y z → m = 0 := by sorry
theorem sbt_one {n : Nat} {Q b : Ty} (oQ : ok n Q = true) (ob : ok (n + 1) b = true) (hb : tch b = 1) : tch (sbt n Q 0 b) = 1 ∨ sbt n Q 0 b = Q := by sorry
theorem vac_g {Δ1 : List Ty} {C : Ty} (eΓ : Γ = cxs Δ1 [] (tAll tR0 C)) (he : TE Γ [a0]) (hv : noac Γ) (c2 : 2 ≤ tch C) (fl : sN tR0 0 1 C = false) (a3 : tch a0.2.1 ≤ 2) (hX : ∀ j, 1 ≤ j → j < Γ.length → ∀ a b, bnd Γ j = tAll a b → a = tTop ∧ tch b = 1) (hX' : ∀ i j, 1 ≤ i → 1 ≤ j → i < Γ.length → j < Γ.length → hd (bnd Γ i) = 2 → hd (bnd Γ j) = 2 → i = j) (w : TWf (f + 1) Γ.length [a0.1] s) (tn : TNo (f + 1) s) (k9 : nKd s = 9) (nc : ¬ CFt (f + 1) s) (m9 : mch s ≤ 9) (hS : tyF (f + 1) s Γ [a0] = .inr S) : (mch s = 9 ∧ ∃ e, C = tAll (tVar 0) e) ∨ tch S ≤ 2 := by sorry
end PmZd1

end
section
-- from 99z99zze
section PmZe1
variable {f D p : Nat} {sc : List Nat} {t : Ty}
theorem cok_four (w : TWf f D sc t) (m4 : mch t ≤ 4) : COk f t 0 := by sorry
theorem cok_nine (w : TWf f D [p] t) (tn : TNo f t) (m9 : mch t ≤ 9) (k7 : nKd t ≠ 7) (k9 : nKd t ≠ 9) (k11 : nKd t ≠ 11) : COk f t 0 := by sorry
theorem pee_ncf : ∀ (f : Nat) (t : Ty), ¬ CFt f t → ¬ CFt (pee f t).1 (pee f t).2 := by sorry
theorem cho_seven (w : TWf f D [p] t) (tn : TNo f t) (m7 : mch t ≤ 7) (k7 : nKd t ≠ 7) (k11 : nKd t ≠ 11) : CHo f t [] := by sorry
end PmZe1
def wP9 : List ((Nat × Nat × Nat × Nat × Nat) × List T6 × List T6) := [((2, 18, 0, 9, 5), [(79, 0, 23, 6, 0, 18)], [(39, 0, 17, 6, 0, 18)]),
  ((2, 18, 0, 9, 6), [(79, 0, 23, 6, 0, 18)], [(39, 0, 17, 6, 0, 18)]),
  ((2, 18, 0, 9, 7), [(79, 0, 23, 6, 0, 18)], [(39, 0, 17, 6, 0, 18)]),
  ((2, 18, 0, 10, 5), [(79, 0, 23, 6, 1, 18)], [(39, 0, 17, 6, 1, 18)]),
  ((2, 18, 0, 10, 6), [(79, 0, 23, 6, 1, 18)], [(39, 0, 17, 6, 1, 18)]),
  ((2, 18, 0, 10, 7), [(79, 0, 23, 6, 1, 18)], [(39, 0, 17, 6, 1, 18)]),
  ((2, 19, 0, 9, 5), [(85, 0, 29, 6, 0, 19)], [(49, 0, 22, 6, 0, 19)]),
  ((2, 19, 0, 9, 6), [(85, 0, 29, 6, 0, 19)], [(49, 0, 22, 6, 0, 19)]),
  ((2, 19, 0, 9, 7), [(85, 0, 29, 6, 0, 19)], [(49, 0, 22, 6, 0, 19)])]
def okP9x (a : (Nat × Nat × Nat × Nat × Nat) × List T6 × List T6) : Bool :=
  liz [a.2.1] xr1 fr1 fg1 1 3 (kpz fr1 0 (max 1 (fx1.getD a.1.2.2.1 0)) 0) (wbz fr1 1 (max 1 (fx1.getD a.1.2.2.1 0)) a.1.1) (max 1 (fx1.getD a.1.2.2.1 0)) (ojy a.1.2.1 0 a.1.2.2.1 a.1.2.2.2.1) a.1.2.1 a.1.2.2.2.1 0 &&
  (liz [a.2.2] xrq frq fgq 0 1 (kpz frq 1 (max 1 (fxq.getD a.1.2.2.1 0)) 0) (wbz frq 0 (max 1 (fxq.getD a.1.2.2.1 0)) a.1.1) (max 1 (fxq.getD a.1.2.2.1 0)) (ojy a.1.2.1 0 a.1.2.2.1 a.1.2.2.2.1) a.1.2.1 a.1.2.2.2.1 0 &&
  (lnu false [a.2.1] fr1 fg1 1 2 3 2 2 2 2 887 6 a.1.2.2.2.2 && lnu false [a.2.2] frq fgq 0 1 1 1 3 2 1 597 6 a.1.2.2.2.2))
theorem wP9_ok : wP9.all okP9x = true := by sorry
theorem hasP9x {L : List ((Nat × Nat × Nat × Nat × Nat) × List T6 × List T6)} {be k q1 q2 m : Nat} (ok : L.all okP9x = true) (h : has9 L be k q1 q2 m = true) : ∃ l1 l2, okP9x ((be, k, q1, q2, m), l1, l2) = true := by sorry
def vS9R : FrT := [[], [], [], [], [], [], [], [], [], [], [], [], [], [], [], [], [], [], [(4, 17), (2, 18)]]
def vS9G : FrT := [[], [], [], [], [], [], [], [], [], [], [], [], [], [], [], [], [], [], [(4, 8), (3, 9), (2, 11), (1, 14), (0, 14)]]
def sR9 : List T6 := [(69, 0, 21, 4, 0, 18)]
def sG9 : List T6 := [(35, 0, 15, 4, 0, 18)]
theorem vS9_ok : (frg xr1 13).all (fun v => dom v.1 (3 + v.2 + v.1 * (1 + 1)) (frg vS9R 18)) = true ∧ (frg xrq 13).all (fun v => dom v.1 (1 + v.2 + v.1 * (0 + 1)) (frg vS9G 18)) = true := by sorry
def okS9x : Bool :=
  liz [sR9] vS9R fr1 fg1 1 3 (kpz fr1 0 1 0) (wbz fr1 1 1 2) 1 (ojy 18 0 0 9) 18 9 0 &&
  (liz [sG9] vS9G frq fgq 0 1 (kpz frq 1 1 0) (wbz frq 0 1 2) 1 (ojy 18 0 0 9) 18 9 0 &&
  (lno false [sR9] fr1 fg1 1 2 3 2 2 2 2 887 6 7 && lno false [sG9] frq fgq 0 1 1 1 3 2 1 597 6 7))
theorem okS9x_ok : okS9x = true := by sorry
section PmZe2
variable {f : Nat} {t s C : Ty} {Δ1 : List Ty} {Δ : List (Nat × Ty × Nat)}
theorem nat_P9 (lb : LBd [] Δ1 (tAll tR0 C) tTop tR0 C) (w : TWf f (cxs Δ1 [] (tAll tR0 C)).length (Δ.map (fun a => a.1)) t) (he : TE (cxs Δ1 [] (tAll tR0 C)) Δ) (nD : Δ ≠ []) (one : Δ.length ≤ 1) (tn : TNo f t) (nc : ¬ CFt f t) (ch : CHo f t []) (hz : has9 wP9 2 (tch C) 0 (cch Δ1) (mch t) = true) (m11 : mch t ≤ 11) (h47 : cch (cxs Δ1 [] (tAll tR0 C)) ≤ 47) (q38 : cch Δ1 ≤ 38) (d6 : dch Δ ≤ 6) : NtV (cxs Δ1 [] (tAll tR0 C)) Δ f t 887 597 := by sorry
theorem nat_S9x {e : Ty} (lb : LBd [] Δ1 (tAll tR0 C) tTop tR0 C) (eC : C = tAll (tVar 0) e) (t18 : tch C = 18) (e2 : cch Δ1 = 9) (w : TWf f (cxs Δ1 [] (tAll tR0 C)).length (Δ.map (fun a => a.1)) t) (he : TE (cxs Δ1 [] (tAll tR0 C)) Δ) (nD : Δ ≠ []) (one : Δ.length ≤ 1) (tn : TNo f t) (ch : CHo f t []) (m7 : mch t = 7) (h47 : cch (cxs Δ1 [] (tAll tR0 C)) ≤ 47) (d6 : dch Δ ≤ 6) : NtV (cxs Δ1 [] (tAll tR0 C)) Δ f t 887 597 := by sorry
theorem bnd_d1 {β : Ty} : ∀ (Δ1 : List Ty) (j : Nat), 1 ≤ j → j < (cxs Δ1 [] β).length → bnd (cxs Δ1 [] β) j ∈ Δ1 := by sorry
theorem ntv_two {Γ : List Ty} (he : TE Γ Δ) (h47 : cch Γ ≤ 47) {S : Ty} (o : ok Γ.length S = true) (t2 : tch S ≤ 2) : (∀ d, nz 0 (fun _ => 1 + 1) (2 + 1) (vlr d 1) (onz 0 (fun _ => 1 + 1) (2 + 1) (vlr d 1) Γ) S ≤ 887) ∧ nz 1 ngc 1 (fun x => x) (onz 1 ngc 1 (fun x => x) Γ) S ≤ 597 := by sorry
theorem cls_e (lb : LBd [] Δ1 (tAll tR0 C) tTop tR0 C) (fl : sN tR0 0 1 C = false) (c2 : 2 ≤ tch C) (hv : noac (cxs Δ1 [] (tAll tR0 C))) (he : TE (cxs Δ1 [] (tAll tR0 C)) Δ) (nD : Δ ≠ []) (d6 : dch Δ ≤ 6) (nh1 : ∀ a ∈ Δ1, noh 8 a = true) (hX : 7 ≤ mch s → ∀ a ∈ Δ1, ∀ p r, a = tAll p r → p = tTop ∧ tch r = 1) (hX' : 7 ≤ mch s → ∀ i j, 1 ≤ i → 1 ≤ j → i < (cxs Δ1 [] (tAll tR0 C)).length → j < (cxs Δ1 [] (tAll tR0 C)).length → hd (bnd (cxs Δ1 [] (tAll tR0 C)) i) = 2 → hd (bnd (cxs Δ1 [] (tAll tR0 C)) j) = 2 → i = j) (h47 : cch (cxs Δ1 [] (tAll tR0 C)) ≤ 47) (q38 : cch Δ1 ≤ 38) (w : TWf f (cxs Δ1 [] (tAll tR0 C)).length (Δ.map (fun a => a.1)) s) (tn : TNo f s) (m9 : mch s ≤ 9) (hz : 7 ≤ mch s → ∀ m, 5 ≤ m → m ≤ 7 → has9 wP9 2 (tch C) 0 (cch Δ1) m = true) : NtV (cxs Δ1 [] (tAll tR0 C)) Δ f s 887 597 ∨ SMg tR0 C [] Δ1 Δ f s ∨ (mch s = 9 ∧ ∃ e, C = tAll (tVar 0) e) := by sorry
end PmZe2

end
section
-- from 99z99zzf
section PmZf1
variable {f : Nat} {t s C : Ty} {Δ1 : List Ty} {Γ : List Ty} {Δ : List (Nat × Ty × Nat)} {a0 : Nat × Ty × Nat}
theorem is9_bel {S : Ty} (w : TWf (f + 1) Γ.length (Δ.map (fun a => a.1)) s) (c9 : nKd s = 9) (e0 : tyF (f + 1) s Γ Δ = .inr S) : ∃ S0, tyF f (nX s) Γ Δ = .inr S0 ∧ hd (expo Γ Γ.length S0) = 2 ∧ bel Γ (nY s) (k1 (expo Γ Γ.length S0)) = true := by sorry
theorem vac_three (he : TE Γ Δ) (hv : noac Γ) (d6 : dch Δ ≤ 6) (hall : ∀ j, j < Γ.length → ∃ b, bnd Γ j = tAll tR0 b) (w : TWf f Γ.length (Δ.map (fun a => a.1)) s) (k9 : nKd s = 9) (m3 : mch s = 3) : NtV Γ Δ f s 887 597 := by sorry
end PmZf1
theorem mem_bnd9 : ∀ (Γ : List Ty) (a : Ty), a ∈ Γ → ∃ j, j < Γ.length ∧ bnd Γ j = a := by sorry
theorem b7_five : B7z 2 18 0 9 = true ∧ B7z 2 18 0 10 = true ∧ B7z 2 19 0 9 = true ∧ B7z 2 22 0 9 = true ∧ B7z 2 22 0 12 = true := by sorry
theorem wP9_has : ∀ m, 5 ≤ m → m ≤ 7 → has9 wP9 2 18 0 9 m = true ∧ has9 wP9 2 18 0 10 m = true ∧ has9 wP9 2 19 0 9 m = true := by sorry
theorem exGH_n {k q2 mp mt mx my c d : Nat} (h : exG 2 k 0 q2 mp = true ∨ exH 2 k 0 q2 mt (mx + my - mt) = true) (ec : c = 10 + k + q2) (hb : c + d + (2 + (mx + my)) ≤ 60) (d5 : 5 ≤ d) (pm : mp ≤ mt) (sh : (mt = mx ∧ mx ≤ my) ∨ (mt = my ∧ ¬ mx ≤ my)) (m3 : 3 ≤ mx ∧ 3 ≤ my) : d ≤ 6 ∧ mx ≤ 9 ∧ my ≤ 9 ∧ ((k = 18 ∧ q2 = 9 ∧ (mx = 9 ∨ my = 9 → mt = 7)) ∨ (k = 18 ∧ q2 = 10 ∧ mx ≤ 8 ∧ my ≤ 8) ∨ (k = 19 ∧ q2 = 9 ∧ mx ≤ 8 ∧ my ≤ 8) ∨ (k = 22 ∧ q2 = 9 ∧ mx ≤ 6 ∧ my ≤ 6) ∨ (k = 22 ∧ q2 = 12 ∧ mt = 3 ∧ mx ≤ 6 ∧ my ≤ 6)) := by sorry
def V9e (f : Nat) (x y t : Ty) (Γ : List Ty) (Δ : List (Nat × Ty × Nat)) : Prop := ∃ (Δ1 : List Ty) (B C : Ty), Γ = cxs Δ1 [] (tAll B C) ∧ LBd [] Δ1 (tAll B C) tTop B C ∧ Δ ≠ [] ∧ sN B 0 1 C = false ∧ tch B = 5 ∧ tch C = 18 ∧ cch Δ1 = 13 ∧ mch t = 3 ∧ mch x + mch y = 9
def RESTAF9 : Prop := ∀ (f : Nat) (x y : Ty) (Γ : List Ty) (Δ : List (Nat × Ty × Nat)) (t : Ty), H9 f x y Γ Δ → Sh9 x y t → (¬ CHo f t [] ∨ (CHo f t [] ∧ V9e f x y t Γ Δ)) → PRn f x y Γ Δ
theorem restAE9_of (R : RESTAF9) : RESTAE9 := by sorry
theorem pairn_qf (R : RESTAF9) : PAIRn := by sorry
end
section
-- from 99z99zzg
theorem num_g9 : (Nat.ble (Zx fr1 50 8) 102 && (Nat.ble (Zx fr1 50 5) 50 && (Nat.ble (Zx fr1 38 11) 118 && (Nat.ble (Zx frq 31 11) 95 && (Nat.ble (Zx fr1 114 6) 116 && Nat.ble (Zx frq 93 6) 96))))) = true ∧ (List.range 40).all (fun c => Nat.ble (fx1.getD c 0) 114 && Nat.ble (fxq.getD c 0) 93) = true ∧ (frg xr1 18).all (fun v => Nat.ble (4 + v.2 + v.1 * 3) 38 && (Nat.ble (4 + v.2 + v.1 * 5) 50 && Nat.ble (v.2 + v.1 * 145) 887)) = true ∧ (frg xrq 18).all (fun v => Nat.ble (1 + v.2 + v.1 * 4) 31 && Nat.ble (v.2 + v.1 * 98) 597) = true := by sorry
theorem five_txt9 {B : Ty} (o : ok 0 B = true) (h5 : tch B = 5) : (hd B = 1 ∧ (∀ h ω, nz 0 (fun _ => 1 + 1) (2 + 1) h ω B ≤ 2) ∧ ∀ ω, nz 1 ngc 1 (fun x => x) ω B ≤ 3) ∨ ((8 ≤ hd B ∧ hd B < 16) ∧ (∀ h ω, nz 0 (fun _ => 1 + 1) (2 + 1) h ω B ≤ 4) ∧ ∀ ω, nz 1 ngc 1 (fun x => x) ω B ≤ 4) := by sorry
theorem rec_nine9 {h : Nat → Nat} {d : Bool} (eh : h = vlr d 1) {ω : List Nat} {X : Ty} (o : ok ω.length X = true) (hr : 8 ≤ hd X ∧ hd X < 16) (t9 : tch X ≤ 9) (hw : ∀ j, j < ω.length → vw ω j ≤ 50) : nz 0 (fun _ => 1 + 1) (2 + 1) h ω X ≤ 104 := by sorry
section PmZg9
variable {f : Nat} {s B C : Ty} {Δ1 : List Ty} {Δ : List (Nat × Ty × Nat)}
theorem nat_e5 (oB : ok 0 B = true) (oC : ok 1 C = true) (b5 : tch B = 5) (c18 : tch C = 18) (q13 : cch Δ1 = 13) (hv : noac (cxs Δ1 [] (tAll B C))) (he : TE (cxs Δ1 [] (tAll B C)) Δ) (d5 : dch Δ ≤ 5) (w : TWf f (cxs Δ1 [] (tAll B C)).length (Δ.map (fun a => a.1)) s) (k9 : nKd s = 9) (m3 : mch s = 3) : NtV (cxs Δ1 [] (tAll B C)) Δ f s 887 597 := by sorry
end PmZg9
def RESTAG9 : Prop := ∀ (f : Nat) (x y : Ty) (Γ : List Ty) (Δ : List (Nat × Ty × Nat)) (t : Ty), H9 f x y Γ Δ → Sh9 x y t → ¬ CHo f t [] → PRn f x y Γ Δ
theorem restAF9_of (R : RESTAG9) : RESTAF9 := by sorry
theorem pairn_qg (R : RESTAG9) : PAIRn := by sorry
end
section
-- from 99z99zzh
def UB (t0 : Nat) (n1 : Nat → Nat) (s2 : Nat) (h : Nat → Nat) (E : Stk → Nat) (Y : Nat) : Ty → List Nat → Prop
  | .tag c (.append s t), ω => if c = 2 then (∀ ρ : Stk, ρ ≠ [] → vz t0 n1 s2 h E s ρ ω ≤ E ρ) ∧ UB t0 n1 s2 h E Y s ω ∧ ∀ z, z ≤ Y → UB t0 n1 s2 h E Y t (hzx h z (nz t0 n1 s2 h ω s) :: ω) else if c = 1 then UB t0 n1 s2 h E Y t ω else UB t0 n1 s2 h E Y s ω ∧ UB t0 n1 s2 h E Y t ω
  | .append s t, ω => UB t0 n1 s2 h E Y s ω ∧ UB t0 n1 s2 h E Y t ω
  | _, _ => True
section PmZh1
variable {t0 s2 Y : Nat} {n1 h : Nat → Nat} {E : Stk → Nat}
theorem UB_top (ω : List Nat) : UB t0 n1 s2 h E Y tTop ω := by sorry
theorem UB_var (k : Nat) (ω : List Nat) : UB t0 n1 s2 h E Y (tVar k) ω := by sorry
theorem UB_nil (ω : List Nat) : UB t0 n1 s2 h E Y .nil ω := by sorry
theorem UB_fun {a b : Ty} {ω : List Nat} : UB t0 n1 s2 h E Y (tFun a b) ω ↔ UB t0 n1 s2 h E Y b ω := by sorry
theorem UB_all {a b : Ty} {ω : List Nat} : UB t0 n1 s2 h E Y (tAll a b) ω ↔ (∀ ρ : Stk, ρ ≠ [] → vz t0 n1 s2 h E a ρ ω ≤ E ρ) ∧ UB t0 n1 s2 h E Y a ω ∧ ∀ z, z ≤ Y → UB t0 n1 s2 h E Y b (hzx h z (nz t0 n1 s2 h ω a) :: ω) := by sorry
theorem UB_rec {m : Nat} {x y z : Ty} {ω : List Nat} : UB t0 n1 s2 h E Y (tRec m x y z) ω ↔ UB t0 n1 s2 h E Y x ω ∧ UB t0 n1 s2 h E Y y ω ∧ UB t0 n1 s2 h E Y z ω := by sorry
theorem UB_mono (hh : ∀ y y', y ≤ y' → h y ≤ h y') : ∀ (f : Nat) (t : Ty) (ω ω' : List Nat), (flat t).length ≤ f → ω'.length = ω.length → ok ω.length t = true → (∀ j, j < ω.length → vw ω j ≤ vw ω' j) → UB t0 n1 s2 h E Y t ω' → UB t0 n1 s2 h E Y t ω := by sorry
theorem UB_lft (ν ω : List Nat) : ∀ (f : Nat) (t : Ty) (μ : List Nat), (flat t).length ≤ f → ok (ω.length + μ.length) t = true → UB t0 n1 s2 h E Y t (μ ++ ω) → UB t0 n1 s2 h E Y (lft ω.length ν.length t) (μ ++ (ν ++ ω)) := by sorry
theorem UB_sbt (hh : ∀ y y', y ≤ y' → h y ≤ h y') (A : Ty) (ω : List Nat) (hA : ok ω.length A = true) (hE : ∀ ρ, ρ ≠ [] → vz t0 n1 s2 h E A ρ ω ≤ E ρ) (uA : UB t0 n1 s2 h E Y A ω) : ∀ (f : Nat) (t : Ty) (μ : List Nat), (flat t).length ≤ f → ok (ω.length + 1 + μ.length) t = true → UB t0 n1 s2 h E Y t (μ ++ (nz t0 n1 s2 h ω A :: ω)) → UB t0 n1 s2 h E Y (sbt ω.length A μ.length t) (μ ++ ω) := by sorry
def HUB (t0 : Nat) (n1 : Nat → Nat) (s2 : Nat) (h : Nat → Nat) (E : Stk → Nat) (Y : Nat) : List Ty → List Nat → Prop
  | [], [] => True
  | b :: Γ, _ :: ω => UB t0 n1 s2 h E Y b ω ∧ HUB t0 n1 s2 h E Y Γ ω
  | _, _ => False
theorem HUB.len : ∀ {Γ : List Ty} {ω : List Nat}, HUB t0 n1 s2 h E Y Γ ω → ω.length = Γ.length := by sorry
theorem HUB.ext {Γ : List Ty} {ω : List Nat} (he : HUB t0 n1 s2 h E Y Γ ω) {B : Ty} (hB : UB t0 n1 s2 h E Y B ω) (v : Nat) : HUB t0 n1 s2 h E Y (B :: Γ) (v :: ω) := by sorry
theorem HUB.bd : ∀ {Γ : List Ty} {ω : List Nat} {k : Nat}, okc Γ → HUB t0 n1 s2 h E Y Γ ω → k < Γ.length → ∃ ν ω1 : List Nat, ω = ν ++ ω1 ∧ ω1.length = k ∧ ok k (bnd Γ k) = true ∧ UB t0 n1 s2 h E Y (bnd Γ k) ω1 := by sorry
theorem HUB.exp {Γ : List Ty} {ω : List Nat} {k : Nat} (hc : okc Γ) (hv : HUB t0 n1 s2 h E Y Γ ω) (hk : k < Γ.length) : UB t0 n1 s2 h E Y (lft k (Γ.length - k) (bnd Γ k)) ω := by sorry
theorem expo_UB {Γ : List Ty} {ω : List Nat} (hc : okc Γ) (he : HUB t0 n1 s2 h E Y Γ ω) : ∀ (f : Nat) (S : Ty), ok Γ.length S = true → UB t0 n1 s2 h E Y S ω → UB t0 n1 s2 h E Y (expo Γ f S) ω := by sorry
theorem upart_UB {ω : List Nat} {r : Ty → Ty → Ru} {m m' i : Nat} {x y a : Ty} (hr : bit (lset 0 m m') i = true → bit m i = true → bit m' i = true → r x y = some a → UB t0 n1 s2 h E Y a ω) (ux : UB t0 n1 s2 h E Y x ω) (uy : UB t0 n1 s2 h E Y y ω) (e : upart r (lset 0 m m') m m' i x y = some a) : UB t0 n1 s2 h E Y a ω := by sorry
theorem cu_UB : ∀ (f : Nat) (Γ : List Ty) (S T R : Ty) (ω : List Nat), HUB t0 n1 s2 h E Y Γ ω → tok (Γ, S, T) → UB t0 n1 s2 h E Y S ω → UB t0 n1 s2 h E Y T ω → cu f 0 Γ S T = some R → UB t0 n1 s2 h E Y R ω := by sorry
def SkY (Y : Nat) : Stk → Prop
  | [] => True
  | none :: ρ => SkY Y ρ
  | some z :: ρ => z ≤ Y ∧ SkY Y ρ
theorem cu_vzY (hn : NC t0 n1 s2 h) : ∀ (f : Nat) (Γ : List Ty) (S T R : Ty) (π : Stk) (ω : List Nat), CV t0 n1 s2 h ω Γ → HEk t0 n1 s2 h E Γ ω → HUB t0 n1 s2 h E Y Γ ω → SkY Y π → tok (Γ, S, T) → ok Γ.length R = true → UB t0 n1 s2 h E Y S ω → UB t0 n1 s2 h E Y T ω → cu f 0 Γ S T = some R → vz t0 n1 s2 h E R π ω ≤ vz t0 n1 s2 h E S π ω + vz t0 n1 s2 h E T π ω := by sorry
end PmZh1

end
section
-- from 99z99zzi
def UQt (t0 : Nat) (n1 : Nat → Nat) (s2 : Nat) (h : Nat → Nat) (E : Stk → Nat) (Y : Nat) : Nat → Ty → List Nat → Prop
  | 0, _, _ => True
  | f + 1, t, ω => (nKd t = 6 → UB t0 n1 s2 h E Y (nX t) ω ∧ UQt t0 n1 s2 h E Y f (nY t) ω) ∧ (nKd t = 7 ∨ nKd t = 11 → UQt t0 n1 s2 h E Y f (nX t) ω) ∧ (nKd t = 8 → ((∀ ρ : Stk, ρ ≠ [] → vz t0 n1 s2 h E (nX t) ρ ω ≤ E ρ) ∧ UB t0 n1 s2 h E Y (nX t) ω) ∧ ∀ z, z ≤ Y → UQt t0 n1 s2 h E Y f (nY t) (hzx h z (nz t0 n1 s2 h ω (nX t)) :: ω)) ∧ (nKd t = 9 → ((∀ ρ : Stk, ρ ≠ [] → vz t0 n1 s2 h E (nY t) ρ ω ≤ E ρ) ∧ UB t0 n1 s2 h E Y (nY t) ω ∧ nz t0 n1 s2 h ω (nY t) ≤ Y) ∧ UQt t0 n1 s2 h E Y f (nX t) ω) ∧ (nKd t = 10 → ∀ g, g < 3 → bit (nMk t) g = true → UQt t0 n1 s2 h E Y f (nP t g) ω) ∧ (nKd t = 12 → UQt t0 n1 s2 h E Y f (nX t) ω ∧ UQt t0 n1 s2 h E Y f (nY t) ω)
def DU (t0 : Nat) (n1 : Nat → Nat) (s2 : Nat) (h : Nat → Nat) (E : Stk → Nat) (Y : Nat) (ω : List Nat) (Δ : List (Nat × Ty × Nat)) : Prop := ∀ a ∈ Δ, ∃ ν ω1 : List Nat, ω = ν ++ ω1 ∧ ω1.length = a.2.2 ∧ UB t0 n1 s2 h E Y a.2.1 ω1
section PmZi1
variable {t0 s2 Y : Nat} {n1 h : Nat → Nat} {E : Stk → Nat} {Z : Nat → Nat}
theorem DU.ext {ω : List Nat} {Δ : List (Nat × Ty × Nat)} (d : DU t0 n1 s2 h E Y ω Δ) (v : Nat) : DU t0 n1 s2 h E Y (v :: ω) Δ := by sorry
theorem DU.lam {ω : List Nat} {Δ : List (Nat × Ty × Nat)} (d : DU t0 n1 s2 h E Y ω Δ) {p k : Nat} {A : Ty} (hl : ω.length = k) (u : UB t0 n1 s2 h E Y A ω) : DU t0 n1 s2 h E Y ω ((p, A, k) :: Δ) := by sorry
theorem tyF_UB (hm : ∀ y y', y ≤ y' → h y ≤ h y') : ∀ (f : Nat) (t : Ty) (Γ : List Ty) (Δ : List (Nat × Ty × Nat)) (A : Ty) (ω : List Nat), TWf f Γ.length (Δ.map (fun a => a.1)) t → TE Γ Δ → HUB t0 n1 s2 h E Y Γ ω → DU t0 n1 s2 h E Y ω Δ → UQt t0 n1 s2 h E Y f t ω → tyF f t Γ Δ = .inr A → UB t0 n1 s2 h E Y A ω := by sorry
theorem GH_all (hn : NC t0 n1 s2 h) (hm : ∀ y y', y ≤ y' → h y ≤ h y') : ∀ (f : Nat) (t : Ty) (π : Stk) (ω : List Nat) (Γ : List Ty) (Δ : List (Nat × Ty × Nat)), TWf f Γ.length (Δ.map (fun a => a.1)) t → TE Γ Δ → SkY Y π → AQh t0 n1 s2 h E Z f t π ω → UQt t0 n1 s2 h E Y f t ω → DU t0 n1 s2 h E Y ω Δ → CV t0 n1 s2 h ω Γ → HEk t0 n1 s2 h E Γ ω → HUB t0 n1 s2 h E Y Γ ω → GOk t0 n1 s2 h E f t π ω Γ Δ := by sorry
end PmZi1

end
section
-- from 99z99zzj
def NQ (t0 : Nat) (n1 : Nat → Nat) (s2 : Nat) (h : Nat → Nat) (E : Stk → Nat) (Y : Nat) : Nat → Ty → List Nat → List Bool → Prop
  | 0, _, _, _ => True
  | f + 1, t, ω, σ => CHo (f + 1) t σ ∨ ((nKd t = 6 → UB t0 n1 s2 h E Y (nX t) ω ∧ NQ t0 n1 s2 h E Y f (nY t) ω σ.tail) ∧ (nKd t = 7 ∨ nKd t = 11 → NQ t0 n1 s2 h E Y f (nX t) ω (false :: σ)) ∧ (nKd t = 8 → UB t0 n1 s2 h E Y (nX t) ω ∧ ∀ z, z ≤ Y → NQ t0 n1 s2 h E Y f (nY t) (hzx h z (nz t0 n1 s2 h ω (nX t)) :: ω) σ.tail) ∧ (nKd t = 9 → nz t0 n1 s2 h ω (nY t) ≤ Y ∧ NQ t0 n1 s2 h E Y f (nX t) ω (true :: σ)) ∧ (nKd t = 10 → ∀ g, g < 3 → bit (nMk t) g = true → NQ t0 n1 s2 h E Y f (nP t g) ω σ.tail) ∧ (nKd t = 12 → (NQ t0 n1 s2 h E Y f (nX t) ω σ ∧ NQ t0 n1 s2 h E Y f (nY t) ω σ) ∧ (chkB σ = true ∨ (UQt t0 n1 s2 h E Y f (nX t) ω ∧ UQt t0 n1 s2 h E Y f (nY t) ω))))
section PmZj1
variable {t0 s2 Y : Nat} {n1 h : Nat → Nat} {E : Stk → Nat} {Z : Nat → Nat}
theorem GH_nq (hn : NC t0 n1 s2 h) (hm : ∀ y y', y ≤ y' → h y ≤ h y') : ∀ (f : Nat) (t : Ty) (π : Stk) (ω : List Nat) (Γ : List Ty) (Δ : List (Nat × Ty × Nat)), TWf f Γ.length (Δ.map (fun a => a.1)) t → TE Γ Δ → SkY Y π → AQh t0 n1 s2 h E Z f t π ω → NQ t0 n1 s2 h E Y f t ω (π.map Option.isSome) → DU t0 n1 s2 h E Y ω Δ → CV t0 n1 s2 h ω Γ → HEk t0 n1 s2 h E Γ ω → HUB t0 n1 s2 h E Y Γ ω → GOk t0 n1 s2 h E f t π ω Γ Δ := by sorry
theorem txt_UB {K : Nat} {g : Nat → Nat} (hg : ∀ b b', b ≤ b' → g b ≤ g b') (hY : Y ≤ g 0) (hgr : ∀ (A : Ty) (ω : List Nat) (b : Nat), ok ω.length A = true → tch A + b ≤ K → (∀ j, j < ω.length → vw ω j ≤ g b) → h (nz t0 n1 s2 h ω A) ≤ g (b + tch A + 4)) (hG : ∀ (A : Ty) (ω : List Nat) (b : Nat), ok ω.length A = true → tch A + b ≤ K → (∀ j, j < ω.length → vw ω j ≤ g b) → ∀ ρ : Stk, ρ ≠ [] → vz t0 n1 s2 h E A ρ ω ≤ E ρ) : ∀ (f : Nat) (t : Ty) (ω : List Nat) (b : Nat), (flat t).length ≤ f → ok ω.length t = true → tch t + b ≤ K + 5 → (∀ j, j < ω.length → vw ω j ≤ g b) → UB t0 n1 s2 h E Y t ω := by sorry
end PmZj1
theorem cho_min : ∀ (f D : Nat) (sc : List Nat) (t : Ty) (σ : List Bool), TWf f D sc t → ¬ CHo f t σ → 8 ≤ mch t + 2 * σ.length := by sorry
end
section
-- from 99z99zzk
theorem cho_min9 : ∀ (f D p : Nat) (t : Ty) (σ : List Bool), TWf f D [p] t → TNo f t → ¬ CHo f t σ → 9 ≤ mch t + 2 * σ.length := by sorry
theorem chk_two {σ : List Bool} (n : ¬ chkB σ = true) : 2 ≤ σ.length := by sorry
section PmZk1
variable {t0 s2 Y : Nat} {n1 h : Nat → Nat} {E : Stk → Nat}
def TxP (t0 : Nat) (n1 : Nat → Nat) (s2 : Nat) (h : Nat → Nat) (E : Stk → Nat) (Y La V : Nat) : Prop := ∀ (A : Ty) (ω : List Nat), ok ω.length A = true → tch A ≤ La → (∀ j, j < ω.length → vw ω j ≤ V) → (∀ ρ : Stk, ρ ≠ [] → vz t0 n1 s2 h E A ρ ω ≤ E ρ) ∧ UB t0 n1 s2 h E Y A ω ∧ nz t0 n1 s2 h ω A ≤ Y
theorem UQ_one (P : TxP t0 n1 s2 h E Y 3 Y) : ∀ (f D : Nat) (sc : List Nat) (u : Ty) (ω : List Nat), TWf f D sc u → ω.length = D → mch u ≤ 5 → (∀ j, j < ω.length → vw ω j ≤ Y) → UQt t0 n1 s2 h E Y f u ω := by sorry
theorem vw_hz {ω : List Nat} {v V : Nat} (hw : ∀ j, j < ω.length → vw ω j ≤ V) (hv : v ≤ V) : ∀ j, j < (v :: ω).length → vw (v :: ω) j ≤ V := by sorry
theorem UQ_zero {La V M0 : Nat} (vy : V ≤ Y) (P0 : TxP t0 n1 s2 h E Y La V) (P1 : TxP t0 n1 s2 h E Y 3 Y) (h8 : 13 ≤ M0 → ∀ (B : Ty) (ω : List Nat), ok ω.length B = true → tch B ≤ 4 → (∀ j, j < ω.length → vw ω j ≤ V) → h (nz t0 n1 s2 h ω B) ≤ Y) : ∀ (f D : Nat) (sc : List Nat) (u : Ty) (ω : List Nat), TWf f D sc u → ω.length = D → mch u ≤ La + 2 → mch u + 7 ≤ M0 → M0 ≤ 16 → (∀ j, j < ω.length → vw ω j ≤ V) → UQt t0 n1 s2 h E Y f u ω := by sorry
theorem NQ_cho {f : Nat} {t : Ty} {ω : List Nat} {σ : List Bool} (c : CHo f t σ) : NQ t0 n1 s2 h E Y f t ω σ := by sorry
theorem cho_lam {f : Nat} {t : Ty} {σ : List Bool} (k : nKd t = 6 ∨ nKd t = 8) (c : CHo f (nY t) σ.tail) : CHo (f + 1) t σ := by sorry
theorem cho_ins {f : Nat} {t : Ty} {σ : List Bool} (k : nKd t = 9) (c : CHo f (nX t) (true :: σ)) : CHo (f + 1) t σ := by sorry
theorem NQ_one8 (P1 : TxP t0 n1 s2 h E Y 3 Y) : ∀ (f D : Nat) (sc : List Nat) (t : Ty) (ω : List Nat) (σ : List Bool) (M : Nat), TWf f D sc t → ω.length = D → mch t + 2 * σ.length ≤ M → M ≤ 10 → (∀ j, j < ω.length → vw ω j ≤ Y) → NQ t0 n1 s2 h E Y f t ω σ := by sorry
theorem NQ_one9 (P1 : TxP t0 n1 s2 h E Y 3 Y) : ∀ (f D : Nat) (p : Nat) (t : Ty) (ω : List Nat) (σ : List Bool) (M : Nat), TWf f D [p] t → TNo f t → ω.length = D → mch t + 2 * σ.length ≤ M → M ≤ 11 → (∀ j, j < ω.length → vw ω j ≤ Y) → NQ t0 n1 s2 h E Y f t ω σ := by sorry
theorem NQ_zero8 {La V M0 : Nat} (vy : V ≤ Y) (P0 : TxP t0 n1 s2 h E Y La V) (P1 : TxP t0 n1 s2 h E Y 3 Y) (h8 : 13 ≤ M0 → ∀ (B : Ty) (ω : List Nat), ok ω.length B = true → tch B ≤ 4 → (∀ j, j < ω.length → vw ω j ≤ V) → h (nz t0 n1 s2 h ω B) ≤ Y) : ∀ (f D : Nat) (sc : List Nat) (t : Ty) (ω : List Nat) (σ : List Bool) (M : Nat), TWf f D sc t → ω.length = D → mch t + 2 * σ.length ≤ M → M ≤ La + 7 → M ≤ 15 → M ≤ M0 → M0 ≤ 16 → (∀ j, j < ω.length → vw ω j ≤ V) → NQ t0 n1 s2 h E Y f t ω σ := by sorry
theorem NQ_zero9 {La V M0 : Nat} (vy : V ≤ Y) (P0 : TxP t0 n1 s2 h E Y La V) (P1 : TxP t0 n1 s2 h E Y 3 Y) (h8 : 13 ≤ M0 → ∀ (B : Ty) (ω : List Nat), ok ω.length B = true → tch B ≤ 4 → (∀ j, j < ω.length → vw ω j ≤ V) → h (nz t0 n1 s2 h ω B) ≤ Y) : ∀ (f D : Nat) (p : Nat) (t : Ty) (ω : List Nat) (σ : List Bool) (M : Nat), TWf f D [p] t → TNo f t → ω.length = D → mch t + 2 * σ.length ≤ M → M ≤ La + 8 → M ≤ 16 → M ≤ M0 → M0 ≤ 16 → (∀ j, j < ω.length → vw ω j ≤ V) → NQ t0 n1 s2 h E Y f t ω σ := by sorry
end PmZk1

end
section
-- from 99z99zzl
def X7q (F W : FrT) (hv y cd mt E0 p wB ob : Nat) : Nat := max (X7w F W y cd mt) (ebw F W hv y cd mt E0 p wB ob 0)
theorem Hdw_q {X7 : Nat} {eb e2 Z : Nat → Nat} (he : ∀ z z', z ≤ z' → eb z ≤ eb z') (w : Nat) : Hdw (max X7 (eb 0)) eb e2 Z w ≤ Hdw X7 eb e2 Z w := by sorry
section PmZl1
variable {t0 fn s2 hv r0 r1 r2 r3 x0 : Nat} {n1 h : Nat → Nat} {P Q : List (List Nat)} {F G W : FrT} {X : List Nat} {B C β' : Ty} {Γ0 : List Ty}
theorem dh_okqo (hn : NC t0 n1 s2 h) (hm : ∀ y y', y ≤ y' → h y ≤ h y') (T : TBs 58 t0 fn s2 hv r0 r1 r2 r3 x0 n1 h P Q F G X) (hFm : frm F = true) (hgr : fgc F W hv = true) (hWm : fgm W = true) (hW1 : fg1s W = true) (hW : (1, 0) ∈ frg W 0) (H1 : ∀ y, h y ≤ hv + max 1 y) {a5 ob cd wB y E0 p k mt : Nat} (m30 : mt ≤ 30) (a55 : a5 ≤ 5) (y01 : x0 ≤ y) : DHy false a5 t0 fn s2 r0 r1 r2 r3 mt n1 h (Vbw F W y cd) (gyw W y) (Zbw F W y) (fun b => Hdw (X7w F W y cd mt) (ebw F W hv y cd mt E0 p wB ob) (e2w F W hv y cd mt k) (Zbw F W y b)) (E2 (X7q F W hv y cd mt E0 p wB ob) (ebw F W hv y cd mt E0 p wB ob) (e2w F W hv y cd mt k)) (DTo a5 fn s2 r0 r1 r2 r3 (Vbw F W y cd) (Zbw F W y) (fun b => Hdw (X7w F W y cd mt) (ebw F W hv y cd mt E0 p wB ob) (e2w F W hv y cd mt k) (Zbw F W y b)) mt) := by sorry
end PmZl1

section PmZl2
variable {t0 fn s2 hv r0 r1 r2 r3 x0 : Nat} {n1 h : Nat → Nat} {P Q : List (List Nat)} {F G W : FrT} {X : List Nat}
theorem gen_fin6qo (hn : NC t0 n1 s2 h) (hm : ∀ y y', y ≤ y' → h y ≤ h y') (T : TBs 58 t0 fn s2 hv r0 r1 r2 r3 x0 n1 h P Q F G X) (hFm : frm F = true) (hgr : fgc F W hv = true) (hWm : fgm W = true) (hW1 : fg1s W = true) (hW : (1, 0) ∈ frg W 0) (H1 : ∀ y, h y ≤ hv + max 1 y) {f : Nat} {t S : Ty} {Γ : List Ty} {ω : List Nat} {Δ : List (Nat × Ty × Nat)} {a5 ob cd wB Bd y E0 p k : Nat} (w : TWf f Γ.length (Δ.map (fun a => a.1)) t) (he : TE Γ Δ) (l1 : ω.length = Γ.length) (cu : TNo f t) (hΔ1 : Δ.length ≤ 1) (hm30 : mch t ≤ 30) (hdc : dch Δ ≤ cd) (hcd : cd ≤ 56) (a55 : a5 ≤ 5) (ha5 : Δ ≠ [] → a5 = 0) (y01 : x0 ≤ y) (hω2 : ∀ j, j < ω.length → vw ω j ≤ y) (hk1 : HEk t0 n1 s2 h (E2 (X7q F W hv y cd (mch t) E0 p wB ob) (ebw F W hv y cd (mch t) E0 p wB ob) (e2w F W hv y cd (mch t) k)) Γ ω) (go : ∀ Z, AQh t0 n1 s2 h (E2 (X7q F W hv y cd (mch t) E0 p wB ob) (ebw F W hv y cd (mch t) E0 p wB ob) (e2w F W hv y cd (mch t) k)) Z f t [] ω → HEk t0 n1 s2 h (E2 (X7q F W hv y cd (mch t) E0 p wB ob) (ebw F W hv y cd (mch t) E0 p wB ob) (e2w F W hv y cd (mch t) k)) Γ ω → GOk t0 n1 s2 h (E2 (X7q F W hv y cd (mch t) E0 p wB ob) (ebw F W hv y cd (mch t) E0 p wB ob) (e2w F W hv y cd (mch t) k)) f t [] ω Γ Δ) (R1 : dpDo F W a5 hv fn s2 r0 r1 r2 r3 E0 p wB ob k y cd (mch t) ≤ Bd) (hS : tyF f t Γ Δ = .inr S) : nz t0 n1 s2 h ω S ≤ Bd := by sorry
end PmZl2
section PmZl3
variable {t0 fn s2 hv r0 r1 r2 r3 x0 : Nat} {n1 h : Nat → Nat} {P Q : List (List Nat)} {F G W : FrT} {X : List Nat} {B C β' : Ty} {Γ0 : List Ty}
theorem dh_okq (hn : NC t0 n1 s2 h) (hm : ∀ y y', y ≤ y' → h y ≤ h y') (T : TBs 58 t0 fn s2 hv r0 r1 r2 r3 x0 n1 h P Q F G X) (hFm : frm F = true) (hgr : fgc F W hv = true) (hWm : fgm W = true) (hW1 : fg1s W = true) (hW : (1, 0) ∈ frg W 0) (H1 : ∀ y, h y ≤ hv + max 1 y) {un : Bool} {a5 ob cd wB y E0 p k mt : Nat} (m30 : mt ≤ 30) (a55 : a5 ≤ 5) (y01 : x0 ≤ y) : DHy un a5 t0 fn s2 r0 r1 r2 r3 mt n1 h (Vbw F W y cd) (gyw W y) (Zbw F W y) (fun b => Hdw (X7w F W y cd mt) (ebw F W hv y cd mt E0 p wB ob) (e2w F W hv y cd mt k) (Zbw F W y b)) (E2 (X7q F W hv y cd mt E0 p wB ob) (ebw F W hv y cd mt E0 p wB ob) (e2w F W hv y cd mt k)) (DT un a5 fn s2 r0 r1 r2 r3 (Vbw F W y cd) (Zbw F W y) (fun b => Hdw (X7w F W y cd mt) (ebw F W hv y cd mt E0 p wB ob) (e2w F W hv y cd mt k) (Zbw F W y b)) mt) := by sorry
end PmZl3
section PmZl4
variable {t0 fn s2 hv r0 r1 r2 r3 x0 : Nat} {n1 h : Nat → Nat} {P Q : List (List Nat)} {F G W : FrT} {X : List Nat}
theorem gen_fin6q (hn : NC t0 n1 s2 h) (hm : ∀ y y', y ≤ y' → h y ≤ h y') (T : TBs 58 t0 fn s2 hv r0 r1 r2 r3 x0 n1 h P Q F G X) (hFm : frm F = true) (hgr : fgc F W hv = true) (hWm : fgm W = true) (hW1 : fg1s W = true) (hW : (1, 0) ∈ frg W 0) (H1 : ∀ y, h y ≤ hv + max 1 y) {f : Nat} {t S : Ty} {Γ : List Ty} {ω : List Nat} {Δ : List (Nat × Ty × Nat)} {un : Bool} {a5 ob cd wB Bd y E0 p k : Nat} (w : TWf f Γ.length (Δ.map (fun a => a.1)) t) (he : TE Γ Δ) (l1 : ω.length = Γ.length) (cu : un = true ∨ COk f t 0) (hm30 : mch t ≤ 30) (hdc : dch Δ ≤ cd) (hcd : cd ≤ 56) (a55 : a5 ≤ 5) (ha5 : Δ ≠ [] → a5 = 0) (y01 : x0 ≤ y) (hω2 : ∀ j, j < ω.length → vw ω j ≤ y) (hk1 : HEk t0 n1 s2 h (E2 (X7q F W hv y cd (mch t) E0 p wB ob) (ebw F W hv y cd (mch t) E0 p wB ob) (e2w F W hv y cd (mch t) k)) Γ ω) (go : ∀ Z, AQh t0 n1 s2 h (E2 (X7q F W hv y cd (mch t) E0 p wB ob) (ebw F W hv y cd (mch t) E0 p wB ob) (e2w F W hv y cd (mch t) k)) Z f t [] ω → HEk t0 n1 s2 h (E2 (X7q F W hv y cd (mch t) E0 p wB ob) (ebw F W hv y cd (mch t) E0 p wB ob) (e2w F W hv y cd (mch t) k)) Γ ω → GOk t0 n1 s2 h (E2 (X7q F W hv y cd (mch t) E0 p wB ob) (ebw F W hv y cd (mch t) E0 p wB ob) (e2w F W hv y cd (mch t) k)) f t [] ω Γ Δ) (R1 : dpD un F W a5 hv fn s2 r0 r1 r2 r3 E0 p wB ob k y cd (mch t) ≤ Bd) (hS : tyF f t Γ Δ = .inr S) : nz t0 n1 s2 h ω S ≤ Bd := by sorry
end PmZl4

end
section
-- from 99z99zzm
def gkc (F W : FrT) (K Y y E0 p : Nat) : Bool := (List.range (K + 1)).all (fun n => Nat.ble (Zx F (gyw W Y n) (K - n + 2)) (E0 + p * y) && (frg F n).all (fun u => Nat.ble u.1 p && Nat.ble u.2 E0))
def gqx (F W : FrT) (hv K La : Nat) (s : T6) : Bool := gkc F W K (Zx F s.1 (max La 3 + 2)) s.1 s.2.2.1 s.2.2.2.1 && (Nat.ble s.1 (Zx F s.1 (max La 3 + 2)) && (Nat.ble (Zx F (Zx F s.1 (max La 3 + 2)) 5) (Zx F s.1 (max La 3 + 2)) && (Nat.ble La 4 || Nat.ble (hv + max 1 (Zx F s.1 6)) (Zx F s.1 (max La 3 + 2)))))
theorem Zx_fold9 {x M : Nat} : ∀ (l : List (Nat × Nat)), (∀ u ∈ l, u.2 + u.1 * x ≤ M) → l.foldr (fun u a => max (u.2 + u.1 * x) a) 0 ≤ M := by sorry
section PmZm1
variable {t0 fn s2 hv r0 r1 r2 r3 x0 : Nat} {n1 h : Nat → Nat} {P Q : List (List Nat)} {F G W : FrT} {X : List Nat} {K Y y E0 p X7 La : Nat} {eb e2 : Nat → Nat}
theorem gq_E (T : TBs 58 t0 fn s2 hv r0 r1 r2 r3 x0 n1 h P Q F G X) (hm : ∀ y y', y ≤ y' → h y ≤ h y') (hFm : frm F = true) (hW0 : ∀ b, Y ≤ gyw W Y b) (he : ∀ z z', z ≤ z' → eb z ≤ eb z') (he2 : ∀ z z', z ≤ z' → e2 z ≤ e2 z') (hb : ∀ z, E0 + p * max z y ≤ eb z) (hK : gkc F W K Y y E0 p = true) (K30 : K ≤ 30) (y01 : x0 ≤ Y) (A : Ty) (ω : List Nat) (b : Nat) (o : ok ω.length A = true) (hk : tch A + b ≤ K) (hw : ∀ j, j < ω.length → vw ω j ≤ gyw W Y b) : ∀ ρ : Stk, ρ ≠ [] → vz t0 n1 s2 h (E2 (max X7 (eb 0)) eb e2) A ρ ω ≤ E2 (max X7 (eb 0)) eb e2 ρ := by sorry
theorem HUB_of {E : Stk → Nat} : ∀ {Γ : List Ty}, okc Γ → (∀ (Δ' : List Ty) (b' : Ty) (Γ' : List Ty), Γ = Δ' ++ b' :: Γ' → ok Γ'.length b' = true → UB t0 n1 s2 h E Y b' (onz t0 n1 s2 h Γ')) → HUB t0 n1 s2 h E Y Γ (onz t0 n1 s2 h Γ) := by sorry
theorem UB_is2 {E : Stk → Nat} : ∀ (f : Nat) (t : Ty) (ω : List Nat), (flat t).length ≤ f → ok ω.length t = true → IS2 (fun s => UB t0 n1 s2 h E Y s ω) t → UB t0 n1 s2 h E Y t ω := by sorry
end PmZm1
section PmZm2
variable {t0 fn s2 hv r0 r1 r2 r3 x0 : Nat} {n1 h : Nat → Nat} {P Q : List (List Nat)} {F G W : FrT} {X : List Nat}
theorem gen_zjqo (hn : NC t0 n1 s2 h) (hm : ∀ y y', y ≤ y' → h y ≤ h y') (hh : ∀ y δ, h (y + δ) ≤ h y + δ) (T : TBs 58 t0 fn s2 hv r0 r1 r2 r3 x0 n1 h P Q F G X) (hFm : frm F = true) (hgr : fgc F W hv = true) (hWm : fgm W = true) (hW1 : fg1s W = true) (hW : (1, 0) ∈ frg W 0) (H1 : ∀ y, h y ≤ hv + max 1 y) (s21 : 1 ≤ s2) {f : Nat} {t S b b' B C : Ty} {Γ0 Δ1 : List Ty} {Δ : List (Nat × Ty × Nat)} {a5 ob cd Bd y1 κ wB : Nat} {v : Nat × Nat} (ds : DSp Γ0.length (tAll B C) b' b) (w : TWf f (cxs Δ1 Γ0 b).length (Δ.map (fun a => a.1)) t) (he : TE (cxs Δ1 Γ0 b) Δ) (cu : TNo f t) (hΔ1 : Δ.length ≤ 1) (nD : Δ ≠ []) (hm30 : mch t ≤ 30) (hdc : dch Δ ≤ cd) (hcd : cd ≤ 56) (a55 : a5 ≤ 5) (ha5 : Δ ≠ [] → a5 = 0) (hb0 : ∀ a ∈ Γ0, OBs ob a) (hb1 : ∀ a ∈ Δ1, OBs ob a) (hbs : ∀ B' C', ok Γ0.length (tAll B' C') = true → tch C' ≤ tch C → tch (tAll B' C') + tch (tAll B C) + 5 ≤ tch b → tch C' ≤ 40 ∧ lmx xr1 (tch C') ≤ ob ∧ lmx fr1 (tch C') ≤ ob) (q38 : cch Δ1 ≤ 38) (q56 : cch Γ0 ≤ 56) (e1 : max x0 (X.getD (cch Γ0) 0) ≤ y1) (hκ : nz t0 n1 s2 h (onz t0 n1 s2 h Γ0) b' ≤ κ) (hwB : h (nz t0 n1 s2 h (onz t0 n1 s2 h Γ0) B) ≤ wB) (hv1 : xt (Γ0.length + 1) C ≤ v.1) (hv2 : xa t0 n1 s2 hv (Γ0.length + 1) C ≤ v.2) {K La : Nat} (hLK : La ≤ K) (K30 : K ≤ 30) (kB : tch B ≤ K) (kC : tch C ≤ K + 5) (kq1 : cch Γ0 ≤ K + 9) (kq2 : cch Δ1 ≤ K + 9) (kov : tch b ≤ tch (tAll B C) + K + 10) (kcd : dch Δ ≤ K + 9) (hM : mch t ≤ La + 8) (hM16 : mch t ≤ 16) (hLa : 13 ≤ mch t → 5 ≤ La) (hT : ∀ p, p ≤ v.1 → ∀ u ∈ frg W (cch Δ1), ∃ s : T6, (TiD hv s2 κ wB y1 ob (tch C) p v u s ∧ ∃ w0 ∈ frg F s.2.2.2.2.2, ob + 1 ≤ w0.1) ∧ gqx F W hv K La s = true ∧ dpDo F W a5 hv fn s2 r0 r1 r2 r3 s.2.2.1 s.2.2.2.1 s.1 s.2.2.2.2.1 s.2.2.2.2.2 s.1 cd (mch t) ≤ Bd) (hS : tyF f t (cxs Δ1 Γ0 b) Δ = .inr S) : nz t0 n1 s2 h (onz t0 n1 s2 h (cxs Δ1 Γ0 b)) S ≤ Bd := by sorry
end PmZm2
section PmZm3
variable {t0 fn s2 hv r0 r1 r2 r3 x0 : Nat} {n1 h : Nat → Nat} {P Q : List (List Nat)} {F G W : FrT} {X : List Nat}
theorem gen_zjq (hn : NC t0 n1 s2 h) (hm : ∀ y y', y ≤ y' → h y ≤ h y') (hh : ∀ y δ, h (y + δ) ≤ h y + δ) (T : TBs 58 t0 fn s2 hv r0 r1 r2 r3 x0 n1 h P Q F G X) (hFm : frm F = true) (hgr : fgc F W hv = true) (hWm : fgm W = true) (hW1 : fg1s W = true) (hW : (1, 0) ∈ frg W 0) (H1 : ∀ y, h y ≤ hv + max 1 y) (s21 : 1 ≤ s2) {f : Nat} {t S b b' B C : Ty} {Γ0 Δ1 : List Ty} {Δ : List (Nat × Ty × Nat)} {a5 ob cd Bd y1 κ wB : Nat} {v : Nat × Nat} (ds : DSp Γ0.length (tAll B C) b' b) (w : TWf f (cxs Δ1 Γ0 b).length (Δ.map (fun a => a.1)) t) (he : TE (cxs Δ1 Γ0 b) Δ) (hm30 : mch t ≤ 30) (hdc : dch Δ ≤ cd) (hcd : cd ≤ 56) (a55 : a5 ≤ 5) (ha5 : Δ ≠ [] → a5 = 0) (hb0 : ∀ a ∈ Γ0, OBs ob a) (hb1 : ∀ a ∈ Δ1, OBs ob a) (hbs : ∀ B' C', ok Γ0.length (tAll B' C') = true → tch C' ≤ tch C → tch (tAll B' C') + tch (tAll B C) + 5 ≤ tch b → tch C' ≤ 40 ∧ lmx xr1 (tch C') ≤ ob ∧ lmx fr1 (tch C') ≤ ob) (q38 : cch Δ1 ≤ 38) (q56 : cch Γ0 ≤ 56) (e1 : max x0 (X.getD (cch Γ0) 0) ≤ y1) (hκ : nz t0 n1 s2 h (onz t0 n1 s2 h Γ0) b' ≤ κ) (hwB : h (nz t0 n1 s2 h (onz t0 n1 s2 h Γ0) B) ≤ wB) (hv1 : xt (Γ0.length + 1) C ≤ v.1) (hv2 : xa t0 n1 s2 hv (Γ0.length + 1) C ≤ v.2) {K La : Nat} (hLK : La ≤ K) (K30 : K ≤ 30) (kB : tch B ≤ K) (kC : tch C ≤ K + 5) (kq1 : cch Γ0 ≤ K + 9) (kq2 : cch Δ1 ≤ K + 9) (kov : tch b ≤ tch (tAll B C) + K + 10) (kcd : dch Δ ≤ K + 9) (hM : mch t ≤ La + 7) (hM16 : mch t ≤ 15) (hLa : 13 ≤ mch t → 5 ≤ La) (hT : ∀ p, p ≤ v.1 → ∀ u ∈ frg W (cch Δ1), ∃ s : T6, (TiD hv s2 κ wB y1 ob (tch C) p v u s ∧ ∃ w0 ∈ frg F s.2.2.2.2.2, ob + 1 ≤ w0.1) ∧ gqx F W hv K La s = true ∧ dpD true F W a5 hv fn s2 r0 r1 r2 r3 s.2.2.1 s.2.2.2.1 s.1 s.2.2.2.2.1 s.2.2.2.2.2 s.1 cd (mch t) ≤ Bd) (hS : tyF f t (cxs Δ1 Γ0 b) Δ = .inr S) : nz t0 n1 s2 h (onz t0 n1 s2 h (cxs Δ1 Γ0 b)) S ≤ Bd := by sorry
end PmZm3

end
section
-- from 99z99zzn
def lnqo (L : LnT) (F W : FrT) (hv fn s2 r0 r1 r2 r3 Bd cd m K La : Nat) : Bool := (lng L 0).all (fun s => gqx F W hv K La s && Nat.ble (dpDo F W 0 hv fn s2 r0 r1 r2 r3 s.2.2.1 s.2.2.2.1 s.1 s.2.2.2.2.1 s.2.2.2.2.2 s.1 cd m) Bd)
theorem lnqo_get {L : LnT} {F W : FrT} {hv fn s2 r0 r1 r2 r3 Bd cd m K La : Nat} (h : lnqo L F W hv fn s2 r0 r1 r2 r3 Bd cd m K La = true) {s : T6} (hs : s ∈ lng L 0) : gqx F W hv K La s = true ∧ dpDo F W 0 hv fn s2 r0 r1 r2 r3 s.2.2.1 s.2.2.2.1 s.1 s.2.2.2.2.1 s.2.2.2.2.2 s.1 cd m ≤ Bd := by sorry
section PmZn1
variable {f : Nat} {t b b' B C : Ty} {Γ0 Δ1 : List Ty} {Δ : List (Nat × Ty × Nat)} {e : Bool} {LR LG : LnT} {cd : Nat}
theorem zone_jqo {VR VG : FrT} (fR : ∃ v ∈ frg VR (tch C), xt (Γ0.length + 1) C ≤ v.1 ∧ xa 0 (fun _ => 1 + 1) 3 1 (Γ0.length + 1) C ≤ v.2) (fG : ∃ v ∈ frg VG (tch C), xt (Γ0.length + 1) C ≤ v.1 ∧ xa 1 ngc 1 0 (Γ0.length + 1) C ≤ v.2) (lb : LBd Γ0 Δ1 b b' B C) (w : TWf f (cxs Δ1 Γ0 b).length (Δ.map (fun a => a.1)) t) (he : TE (cxs Δ1 Γ0 b) Δ) (nD : Δ ≠ []) (cu : TNo f t) (hΔ1 : Δ.length ≤ 1) {K La : Nat} (hLK : La ≤ K) (K30 : K ≤ 30) (kB : tch B ≤ K) (kC : tch C ≤ K + 5) (kq1 : cch Γ0 ≤ K + 9) (kq2 : cch Δ1 ≤ K + 9) (kov : tch b ≤ tch (tAll B C) + K + 10) (kcd : dch Δ ≤ K + 9) (hM : mch t ≤ La + 8) (hM16 : mch t ≤ 16) (hLa : 13 ≤ mch t → 5 ≤ La) (zR : liz LR VR fr1 fg1 1 3 (kpz fr1 0 (max 1 (fx1.getD (cch Γ0) 0)) (tch b - tch (tAll B C))) (wbz fr1 1 (max 1 (fx1.getD (cch Γ0) 0)) (tch B)) (max 1 (fx1.getD (cch Γ0) 0)) (ojy (tch C) (tch b - tch (tAll B C)) (cch Γ0) (cch Δ1)) (tch C) (cch Δ1) 0 = true) (zG : liz LG VG frq fgq 0 1 (kpz frq 1 (max 1 (fxq.getD (cch Γ0) 0)) (tch b - tch (tAll B C))) (wbz frq 0 (max 1 (fxq.getD (cch Γ0) 0)) (tch B)) (max 1 (fxq.getD (cch Γ0) 0)) (ojy (tch C) (tch b - tch (tAll B C)) (cch Γ0) (cch Δ1)) (tch C) (cch Δ1) 0 = true) (tR : lnqo LR fr1 fg1 1 2 3 2 2 2 2 887 cd (mch t) K La = true) (tG : lnqo LG frq fgq 0 1 1 1 3 2 1 597 cd (mch t) K La = true) (m30 : mch t ≤ 30) (cd56 : cd ≤ 56) (h47 : cch (cxs Δ1 Γ0 b) ≤ 47) (q38 : cch Δ1 ≤ 38) (hb : dch Δ ≤ cd) : NtV (cxs Δ1 Γ0 b) Δ f t 887 597 := by sorry
end PmZn1
def lnqm (L : LnT) (F W : FrT) (hv fn s2 r0 r1 r2 r3 Bd cd m K La : Nat) : Bool := (lng L 0).all (fun s => gqx F W hv K La s && Nat.ble (dpD true F W 0 hv fn s2 r0 r1 r2 r3 s.2.2.1 s.2.2.2.1 s.1 s.2.2.2.2.1 s.2.2.2.2.2 s.1 cd m) Bd)
theorem lnqm_get {L : LnT} {F W : FrT} {hv fn s2 r0 r1 r2 r3 Bd cd m K La : Nat} (h : lnqm L F W hv fn s2 r0 r1 r2 r3 Bd cd m K La = true) {s : T6} (hs : s ∈ lng L 0) : gqx F W hv K La s = true ∧ dpD true F W 0 hv fn s2 r0 r1 r2 r3 s.2.2.1 s.2.2.2.1 s.1 s.2.2.2.2.1 s.2.2.2.2.2 s.1 cd m ≤ Bd := by sorry
section PmZn2
variable {f : Nat} {t b b' B C : Ty} {Γ0 Δ1 : List Ty} {Δ : List (Nat × Ty × Nat)} {e : Bool} {LR LG : LnT} {cd : Nat}
theorem zone_jq {VR VG : FrT} (fR : ∃ v ∈ frg VR (tch C), xt (Γ0.length + 1) C ≤ v.1 ∧ xa 0 (fun _ => 1 + 1) 3 1 (Γ0.length + 1) C ≤ v.2) (fG : ∃ v ∈ frg VG (tch C), xt (Γ0.length + 1) C ≤ v.1 ∧ xa 1 ngc 1 0 (Γ0.length + 1) C ≤ v.2) (lb : LBd Γ0 Δ1 b b' B C) (w : TWf f (cxs Δ1 Γ0 b).length (Δ.map (fun a => a.1)) t) (he : TE (cxs Δ1 Γ0 b) Δ) (nD : Δ ≠ []) {K La : Nat} (hLK : La ≤ K) (K30 : K ≤ 30) (kB : tch B ≤ K) (kC : tch C ≤ K + 5) (kq1 : cch Γ0 ≤ K + 9) (kq2 : cch Δ1 ≤ K + 9) (kov : tch b ≤ tch (tAll B C) + K + 10) (kcd : dch Δ ≤ K + 9) (hM : mch t ≤ La + 7) (hM16 : mch t ≤ 15) (hLa : 13 ≤ mch t → 5 ≤ La) (zR : liz LR VR fr1 fg1 1 3 (kpz fr1 0 (max 1 (fx1.getD (cch Γ0) 0)) (tch b - tch (tAll B C))) (wbz fr1 1 (max 1 (fx1.getD (cch Γ0) 0)) (tch B)) (max 1 (fx1.getD (cch Γ0) 0)) (ojy (tch C) (tch b - tch (tAll B C)) (cch Γ0) (cch Δ1)) (tch C) (cch Δ1) 0 = true) (zG : liz LG VG frq fgq 0 1 (kpz frq 1 (max 1 (fxq.getD (cch Γ0) 0)) (tch b - tch (tAll B C))) (wbz frq 0 (max 1 (fxq.getD (cch Γ0) 0)) (tch B)) (max 1 (fxq.getD (cch Γ0) 0)) (ojy (tch C) (tch b - tch (tAll B C)) (cch Γ0) (cch Δ1)) (tch C) (cch Δ1) 0 = true) (tR : lnqm LR fr1 fg1 1 2 3 2 2 2 2 887 cd (mch t) K La = true) (tG : lnqm LG frq fgq 0 1 1 1 3 2 1 597 cd (mch t) K La = true) (m30 : mch t ≤ 30) (cd56 : cd ≤ 56) (h47 : cch (cxs Δ1 Γ0 b) ≤ 47) (q38 : cch Δ1 ≤ 38) (hb : dch Δ ≤ cd) : NtV (cxs Δ1 Γ0 b) Δ f t 887 597 := by sorry
end PmZn2

end
section
-- from 99z99zzo
def qts (F W XR : FrT) (hv s2 κ wB y1 ob k q2 : Nat) (s : T6) : Bool := Nat.ble (Zx W (max y1 (hv + (κ + (s2 + Zx XR (max y1 wB) (k + 2))))) (q2 + 2)) s.1 && (Nat.ble (Zx XR y1 (k + 2)) s.2.2.1 && ((frg XR k).all (fun v => Nat.ble v.1 s.2.2.2.1) && (Nat.ble ob s.2.2.2.2.1 && (Nat.ble k s.2.2.2.2.2 && (Nat.ble wB s.1 && (Nat.ble s.2.2.2.2.2 50 && (frg F s.2.2.2.2.2).any (fun w => Nat.ble (ob + 1) w.1)))))))
theorem qts_liz {F W XR : FrT} {hw s2 κ wB y1 ob k q2 : Nat} {s : T6} (h : qts F W XR hw s2 κ wB y1 ob k q2 s = true) : liz [[s]] XR F W hw s2 κ wB y1 ob k q2 0 = true := by sorry
def eQm : List (List (List (Nat × T6 × T6))) := [[[(13, (22, 13, 12, 4, 1, 11), (17, 13, 13, 4, 1, 11))], [(11, (22, 11, 11, 3, 1, 11), (17, 11, 10, 3, 1, 11))], [(11, (22, 11, 11, 3, 1, 11), (17, 11, 10, 3, 1, 11))], [(11, (22, 11, 11, 3, 1, 11), (17, 11, 12, 3, 1, 11))], [(11, (22, 11, 76, 3, 1, 11), (17, 11, 57, 3, 1, 11))], [(11, (22, 11, 76, 3, 1, 11), (17, 11, 57, 3, 1, 11))], [(11, (22, 11, 76, 3, 1, 11), (17, 11, 60, 3, 1, 11))], [], []],
  [[(12, (22, 12, 11, 3, 1, 12), (17, 12, 10, 3, 1, 12))], [(12, (22, 12, 11, 3, 1, 12), (17, 12, 10, 3, 1, 12))], [(12, (22, 12, 11, 3, 1, 12), (17, 12, 10, 3, 1, 12))], [(12, (22, 12, 12, 3, 1, 12), (17, 12, 14, 3, 1, 12))], [(12, (22, 12, 78, 3, 1, 12), (17, 12, 59, 3, 1, 12))], [(12, (22, 12, 78, 3, 1, 12), (17, 12, 59, 3, 1, 12))], [], [], []],
  [[(13, (23, 13, 13, 4, 1, 13), (18, 13, 13, 4, 1, 13))], [(13, (23, 13, 13, 4, 1, 13), (18, 13, 13, 4, 1, 13))], [(13, (23, 13, 13, 4, 1, 13), (18, 13, 13, 4, 1, 13))], [(13, (23, 13, 14, 4, 1, 13), (18, 13, 15, 4, 1, 13))], [(12, (23, 12, 79, 4, 1, 13), (18, 12, 59, 4, 1, 13)), (13, (18, 13, 86, 4, 0, 1), (15, 13, 67, 4, 0, 1))], [(9, (23, 9, 79, 3, 1, 10), (18, 9, 59, 3, 1, 10)), (13, (19, 13, 90, 4, 0, 13), (15, 13, 67, 4, 0, 13))], [], [], []],
  [[(14, (26, 14, 16, 4, 1, 14), (23, 14, 13, 4, 1, 14))], [(14, (26, 14, 16, 4, 1, 14), (23, 14, 13, 4, 1, 14))], [(14, (26, 14, 16, 4, 1, 14), (23, 14, 13, 4, 1, 14))], [(14, (26, 14, 19, 4, 1, 14), (23, 14, 16, 4, 1, 14))], [(10, (26, 10, 88, 3, 1, 11), (23, 10, 74, 3, 1, 11)), (14, (23, 14, 111, 4, 0, 14), (15, 14, 68, 4, 0, 14))], [], [], [], []],
  [[(15, (34, 15, 19, 4, 1, 15), (25, 15, 13, 4, 1, 15))], [(15, (34, 15, 19, 4, 1, 15), (25, 15, 13, 4, 1, 15))], [(15, (34, 15, 19, 4, 1, 15), (25, 15, 13, 4, 1, 15))], [(15, (34, 15, 19, 4, 1, 15), (25, 15, 16, 4, 1, 15))], [(12, (34, 12, 114, 3, 1, 12), (23, 12, 77, 3, 1, 12)), (7, (32, 7, 38, 3, 0, 9), (25, 7, 29, 3, 0, 9)), (10, (27, 10, 64, 4, 0, 15), (15, 10, 35, 4, 0, 15)), (15, (24, 15, 115, 4, 0, 3), (15, 15, 68, 4, 0, 3))], [], [], [], []],
  [[(16, (34, 16, 19, 4, 1, 16), (25, 16, 16, 4, 1, 16))], [(16, (34, 16, 19, 4, 1, 16), (25, 16, 16, 4, 1, 16))], [(16, (34, 16, 19, 4, 1, 16), (25, 16, 16, 4, 1, 16))], [(16, (34, 16, 19, 4, 1, 16), (25, 16, 18, 4, 1, 16))], [], [], [], [], []],
  [[(17, (34, 17, 20, 5, 1, 17), (29, 17, 16, 5, 1, 17))], [(17, (34, 17, 20, 5, 1, 17), (29, 17, 16, 5, 1, 17))], [(13, (34, 13, 18, 4, 1, 14), (29, 13, 15, 4, 1, 14)), (17, (27, 17, 20, 5, 0, 17), (20, 17, 16, 5, 0, 17))], [(13, (34, 13, 18, 4, 1, 14), (29, 13, 15, 4, 1, 14)), (17, (27, 17, 20, 5, 0, 17), (20, 17, 19, 5, 0, 17))], [], [], [], [], []],
  [[(18, (42, 18, 23, 6, 1, 18), (34, 18, 17, 6, 1, 18))], [(14, (42, 14, 19, 4, 1, 15), (34, 14, 16, 4, 1, 15)), (18, (32, 18, 23, 6, 0, 18), (21, 18, 17, 6, 0, 18))], [(14, (42, 14, 19, 4, 1, 15), (34, 14, 16, 4, 1, 15)), (18, (32, 18, 23, 6, 0, 18), (21, 18, 17, 6, 0, 18))], [], [], [], [], [], []],
  [[(19, (50, 19, 29, 6, 2, 19), (34, 19, 22, 6, 2, 19))], [(15, (50, 15, 22, 4, 2, 14), (34, 15, 21, 4, 2, 14)), (19, (38, 19, 29, 6, 0, 19), (26, 19, 22, 6, 0, 19))], [(16, (50, 16, 22, 4, 2, 16), (34, 16, 21, 4, 2, 16)), (18, (31, 18, 22, 6, 0, 17), (21, 18, 17, 6, 0, 17))], [], [], [], [], [], []],
  [[(20, (50, 20, 30, 6, 2, 20), (39, 20, 24, 6, 2, 20))], [(16, (50, 16, 30, 4, 2, 14), (39, 16, 23, 4, 2, 14)), (20, (41, 20, 29, 6, 0, 20), (29, 20, 24, 6, 0, 20))], [], [], [], [], [], [], []],
  [[(21, (52, 21, 30, 6, 2, 21), (43, 21, 24, 6, 2, 21))], [(16, (50, 16, 30, 4, 2, 15), (43, 16, 23, 4, 2, 15)), (21, (41, 21, 29, 6, 0, 21), (29, 21, 24, 6, 0, 21))], [], [], [], [], [], [], []],
  [[(21, (62, 21, 30, 6, 2, 19), (45, 21, 27, 6, 2, 19)), (17, (44, 17, 34, 9, 0, 22), (30, 17, 28, 9, 0, 22))], [], [], [], [], [], [], [], []],
  [[(18, (68, 18, 31, 6, 2, 19), (46, 18, 22, 6, 2, 19)), (10, (55, 10, 38, 3, 2, 12), (47, 10, 32, 3, 2, 12)), (21, (45, 21, 29, 6, 0, 21), (35, 21, 24, 6, 0, 21))], [], [], [], [], [], [], [], []],
  [[], [], [], [], [], [], [], [], []]]
def eQo : List (List (List (Nat × T6 × T6))) := [[[], [], [(11, (22, 11, 11, 3, 1, 11), (17, 11, 10, 3, 1, 11))], [(11, (22, 11, 11, 3, 1, 11), (17, 11, 10, 3, 1, 11))], [(11, (22, 11, 11, 3, 1, 11), (17, 11, 12, 3, 1, 11))], [(11, (22, 11, 76, 3, 1, 11), (17, 11, 57, 3, 1, 11))], [(11, (22, 11, 76, 3, 1, 11), (17, 11, 57, 3, 1, 11))], [(11, (22, 11, 76, 3, 1, 11), (17, 11, 60, 3, 1, 11))], [(11, (22, 11, 82, 3, 1, 11), (17, 11, 66, 3, 1, 11))]],
  [[], [], [(12, (22, 12, 11, 3, 1, 12), (17, 12, 10, 3, 1, 12))], [(12, (22, 12, 11, 3, 1, 12), (17, 12, 10, 3, 1, 12))], [(12, (22, 12, 12, 3, 1, 12), (17, 12, 14, 3, 1, 12))], [(12, (22, 12, 78, 3, 1, 12), (17, 12, 59, 3, 1, 12))], [(12, (22, 12, 78, 3, 1, 12), (17, 12, 59, 3, 1, 12))], [(12, (22, 12, 78, 3, 1, 12), (17, 12, 62, 3, 1, 12))], [(12, (22, 12, 84, 3, 1, 12), (17, 12, 68, 3, 1, 12))]],
  [[], [], [(13, (23, 13, 13, 4, 1, 13), (18, 13, 13, 4, 1, 13))], [(13, (23, 13, 13, 4, 1, 13), (18, 13, 13, 4, 1, 13))], [(13, (23, 13, 14, 4, 1, 13), (18, 13, 15, 4, 1, 13))], [(13, (23, 13, 106, 4, 1, 13), (18, 13, 79, 4, 1, 13))], [(12, (23, 12, 79, 4, 1, 13), (18, 12, 59, 4, 1, 13)), (13, (18, 13, 86, 4, 0, 1), (15, 13, 67, 4, 0, 1))], [(9, (23, 9, 79, 3, 1, 10), (18, 9, 62, 3, 1, 10)), (13, (19, 13, 90, 4, 0, 13), (15, 13, 71, 4, 0, 13))], []],
  [[], [], [(14, (26, 14, 16, 4, 1, 14), (23, 14, 13, 4, 1, 14))], [(14, (26, 14, 16, 4, 1, 14), (23, 14, 13, 4, 1, 14))], [(14, (26, 14, 19, 4, 1, 14), (23, 14, 16, 4, 1, 14))], [(12, (26, 12, 88, 4, 1, 14), (23, 12, 74, 4, 1, 14)), (14, (22, 14, 107, 4, 0, 2), (15, 14, 68, 4, 0, 2))], [(10, (26, 10, 88, 3, 1, 11), (23, 10, 74, 3, 1, 11)), (14, (23, 14, 111, 4, 0, 14), (15, 14, 68, 4, 0, 14))], [(12, (26, 12, 90, 3, 1, 11), (20, 12, 71, 3, 1, 11)), (9, (23, 9, 56, 4, 0, 14), (15, 9, 38, 4, 0, 14)), (14, (22, 14, 107, 4, 0, 2), (15, 14, 72, 4, 0, 2))], []],
  [[], [], [(15, (34, 15, 19, 4, 1, 15), (25, 15, 13, 4, 1, 15))], [(15, (34, 15, 19, 4, 1, 15), (25, 15, 13, 4, 1, 15))], [(15, (34, 15, 19, 4, 1, 15), (25, 15, 16, 4, 1, 15))], [(11, (34, 11, 112, 3, 1, 12), (25, 11, 81, 3, 1, 12)), (15, (27, 15, 127, 4, 0, 15), (15, 15, 68, 4, 0, 15))], [(12, (34, 12, 114, 3, 1, 12), (23, 12, 77, 3, 1, 12)), (7, (32, 7, 38, 3, 0, 9), (25, 7, 29, 3, 0, 9)), (10, (27, 10, 64, 4, 0, 15), (15, 10, 35, 4, 0, 15)), (15, (24, 15, 115, 4, 0, 3), (15, 15, 68, 4, 0, 3))], [], []],
  [[], [], [(16, (34, 16, 19, 4, 1, 16), (25, 16, 16, 4, 1, 16))], [(16, (34, 16, 19, 4, 1, 16), (25, 16, 16, 4, 1, 16))], [(16, (34, 16, 19, 4, 1, 16), (25, 16, 18, 4, 1, 16))], [(12, (34, 12, 114, 3, 1, 10), (25, 12, 83, 3, 1, 10)), (16, (27, 16, 127, 4, 0, 16), (20, 16, 90, 4, 0, 16)), (8, (26, 8, 13, 4, 0, 13), (21, 8, 13, 4, 0, 13))], [(12, (34, 12, 114, 3, 1, 8), (23, 12, 77, 3, 1, 8)), (8, (32, 8, 40, 4, 0, 13), (25, 8, 31, 4, 0, 13)), (11, (27, 11, 64, 4, 0, 16), (18, 11, 42, 4, 0, 16)), (10, (26, 10, 88, 3, 0, 7), (24, 10, 77, 3, 0, 7)), (15, (24, 15, 115, 4, 0, 3), (15, 15, 68, 4, 0, 3))], [], []],
  [[], [], [(17, (34, 17, 20, 5, 1, 17), (29, 17, 16, 5, 1, 17))], [(17, (34, 17, 20, 5, 1, 17), (29, 17, 16, 5, 1, 17))], [(13, (34, 13, 18, 4, 1, 14), (29, 13, 15, 4, 1, 14)), (17, (27, 17, 20, 5, 0, 17), (20, 17, 19, 5, 0, 17))], [(12, (34, 12, 114, 3, 1, 11), (26, 12, 86, 3, 1, 11)), (12, (31, 12, 72, 5, 0, 17), (22, 12, 49, 5, 0, 17)), (16, (26, 16, 123, 4, 0, 4), (20, 16, 90, 4, 0, 4))], [], [], []],
  [[], [], [(14, (42, 14, 19, 4, 1, 15), (34, 14, 16, 4, 1, 15)), (18, (32, 18, 23, 6, 0, 18), (21, 18, 17, 6, 0, 18))], [(14, (42, 14, 19, 4, 1, 15), (34, 14, 16, 4, 1, 15)), (18, (32, 18, 23, 6, 0, 18), (21, 18, 17, 6, 0, 18))], [(14, (42, 14, 19, 4, 1, 15), (34, 14, 16, 4, 1, 15)), (18, (32, 18, 28, 6, 0, 18), (21, 18, 24, 6, 0, 18))], [(12, (37, 12, 123, 3, 1, 11), (26, 12, 86, 3, 1, 11)), (10, (35, 10, 80, 4, 0, 15), (22, 10, 49, 4, 0, 15)), (7, (35, 7, 41, 3, 0, 12), (28, 7, 32, 3, 0, 12)), (12, (31, 12, 43, 5, 0, 17), (18, 12, 26, 5, 0, 17)), (16, (27, 16, 127, 4, 0, 4), (20, 16, 90, 4, 0, 4))], [], [], []],
  [[], [], [(15, (50, 15, 22, 4, 2, 14), (34, 15, 21, 4, 2, 14)), (19, (38, 19, 29, 6, 0, 19), (26, 19, 22, 6, 0, 19))], [(15, (50, 15, 22, 4, 2, 14), (34, 15, 21, 4, 2, 14)), (19, (38, 19, 29, 6, 0, 19), (26, 19, 22, 6, 0, 19))], [(16, (50, 16, 22, 4, 2, 16), (34, 16, 18, 4, 2, 16)), (18, (31, 18, 28, 6, 0, 17), (21, 18, 24, 6, 0, 17)), (5, (26, 5, 22, 2, 2, 9), (23, 5, 21, 2, 2, 9))], [], [], [], []],
  [[], [], [(16, (50, 16, 30, 4, 2, 14), (39, 16, 23, 4, 2, 14)), (20, (41, 20, 29, 6, 0, 20), (29, 20, 24, 6, 0, 20))], [(16, (50, 16, 30, 4, 2, 14), (39, 16, 23, 4, 2, 14)), (20, (41, 20, 29, 6, 0, 20), (29, 20, 24, 6, 0, 20))], [(15, (50, 15, 19, 4, 2, 16), (34, 15, 16, 4, 2, 16)), (10, (47, 10, 30, 3, 2, 11), (35, 10, 23, 3, 2, 11)), (18, (30, 18, 28, 6, 0, 17), (21, 18, 24, 6, 0, 17)), (17, (30, 17, 20, 5, 0, 4), (23, 17, 19, 5, 0, 4))], [], [], [], []],
  [[], [], [(16, (50, 16, 30, 4, 2, 15), (43, 16, 23, 4, 2, 15)), (21, (41, 21, 29, 6, 0, 21), (29, 21, 24, 6, 0, 21))], [(16, (50, 16, 30, 4, 2, 15), (43, 16, 23, 4, 2, 15)), (21, (41, 21, 29, 6, 0, 21), (29, 21, 24, 6, 0, 21))], [], [], [], [], []],
  [[], [], [(16, (62, 16, 30, 4, 2, 16), (45, 16, 23, 4, 2, 16)), (21, (44, 21, 30, 6, 2, 21), (29, 21, 27, 6, 2, 21))], [(16, (62, 16, 19, 4, 2, 16), (45, 16, 16, 4, 2, 16)), (21, (44, 21, 30, 6, 2, 21), (29, 21, 24, 6, 2, 21)), (8, (38, 8, 30, 2, 2, 9), (35, 8, 27, 2, 2, 9))], [], [], [], [], []],
  [[], [], [(15, (68, 15, 22, 4, 2, 14), (47, 15, 14, 4, 2, 14)), (16, (54, 16, 30, 4, 2, 16), (45, 16, 23, 4, 2, 16)), (21, (44, 21, 38, 6, 2, 21), (29, 21, 27, 6, 2, 21)), (12, (38, 12, 34, 5, 2, 17), (34, 12, 32, 5, 2, 17))], [], [], [], [], [], []],
  [[], [], [(11, (71, 11, 46, 3, 2, 12), (53, 11, 32, 3, 2, 12)), (16, (68, 16, 26, 4, 1, 16), (46, 16, 19, 4, 1, 16)), (19, (45, 19, 29, 6, 1, 21), (29, 19, 24, 6, 1, 21)), (12, (42, 12, 38, 5, 1, 17), (33, 12, 31, 5, 1, 17)), (14, (38, 14, 34, 6, 0, 19), (24, 14, 22, 6, 0, 19))], [], [], [], [], [], []]]
def bQm : List (List (List (Nat × Nat × Nat))) := [[[], [], [], [], [], [], [], [], []], [[], [], [], [], [], [], [], [], []], [[], [], [], [], [], [], [], [], []], [[], [], [], [], [], [], [], [], []], [[], [], [], [], [], [], [], [], []], [[], [], [], [], [], [], [], [], []], [[], [], [], [], [], [], [], [], []], [[], [], [], [], [], [], [], [], []], [[], [], [(2, 18, 0), (1, 19, 0), (19, 1, 0)], [], [], [], [], [], []], [[], [], [], [], [], [], [], [], []], [[], [(17, 5, 0), (4, 18, 0)], [], [], [], [], [], [], []], [[(22, 1, 0)], [], [], [], [], [], [], [], []], [[(19, 5, 0), (1, 23, 0), (2, 22, 0), (23, 1, 0), (22, 2, 0)], [], [], [], [], [], [], [], []], [[], [], [], [], [], [], [], [], []]]
def bQo : List (List (List (Nat × Nat × Nat))) := [[[], [], [], [], [], [], [], [], []], [[], [], [], [], [], [], [], [], []], [[], [], [], [], [], [], [], [], []], [[], [], [], [], [], [], [], [(10, 5, 0)], []], [[], [], [], [], [], [], [], [], []], [[], [], [], [], [], [], [(16, 1, 0), (13, 1, 3), (13, 4, 0)], [], []], [[], [], [], [], [], [(13, 5, 0), (17, 1, 0)], [], [], []], [[], [], [], [], [], [(14, 5, 0), (10, 9, 0), (13, 6, 0), (1, 18, 0), (18, 1, 0), (17, 2, 0)], [], [], []], [[], [], [], [], [(2, 18, 0), (1, 19, 0), (19, 1, 0)], [], [], [], []], [[], [], [], [], [(16, 5, 0), (2, 19, 0), (20, 1, 0), (3, 18, 0), (1, 20, 0), (4, 17, 0), (19, 2, 0)], [], [], [], []], [[], [], [(17, 5, 0), (4, 18, 0)], [(17, 5, 0), (4, 18, 0)], [], [], [], [], []], [[], [], [(18, 5, 0), (17, 6, 0), (5, 18, 0), (4, 19, 0), (1, 22, 0), (22, 1, 0)], [(18, 5, 0), (17, 6, 0), (5, 18, 0), (4, 19, 0), (1, 22, 0), (22, 1, 0)], [], [], [], [], []], [[], [], [(19, 5, 0), (18, 6, 0), (6, 18, 0), (1, 23, 0), (2, 22, 0), (17, 7, 0), (7, 17, 0), (5, 19, 0), (23, 1, 0), (4, 20, 0), (20, 1, 3), (20, 4, 0), (22, 2, 0)], [], [], [], [], [], []], [[], [], [(20, 5, 0), (16, 9, 0), (11, 14, 0), (7, 18, 0), (2, 23, 0), (19, 6, 0), (18, 7, 0), (6, 19, 0), (17, 5, 3), (24, 1, 0), (17, 8, 0), (1, 24, 0), (3, 22, 0), (8, 17, 0), (4, 21, 0), (5, 20, 0), (4, 18, 3), (23, 2, 0), (20, 1, 4), (21, 1, 3), (20, 2, 3), (21, 4, 0), (22, 3, 0)], [], [], [], [], [], []]]
def gQ (E : List (List (List (Nat × T6 × T6)))) (c m : Nat) : List (Nat × T6 × T6) := (E.getD (c - 20) []).getD (m - 8) []
def gB (E : List (List (List (Nat × Nat × Nat)))) (c m : Nat) : List (Nat × Nat × Nat) := (E.getD (c - 20) []).getD (m - 8) []
def okQm (c m : Nat) : Bool := (gQ eQm c m).all (fun e => Nat.ble (max 3 (m - 7)) e.1 && (Nat.ble e.1 30 && (lnqm [[e.2.1]] fr1 fg1 1 2 3 2 2 2 2 887 (58 - c - 2 * m) m e.1 (max 3 (m - 7)) && lnqm [[e.2.2]] frq fgq 0 1 1 1 3 2 1 597 (58 - c - 2 * m) m e.1 (max 3 (m - 7)))))
def okQo (c m : Nat) : Bool := (gQ eQo c m).all (fun e => Nat.ble (max 3 (m - 8)) e.1 && (Nat.ble e.1 30 && (lnqo [[e.2.1]] fr1 fg1 1 2 3 2 2 2 2 887 (58 - c - 2 * m) m e.1 (max 3 (m - 8)) && lnqo [[e.2.2]] frq fgq 0 1 1 1 3 2 1 597 (58 - c - 2 * m) m e.1 (max 3 (m - 8)))))
theorem qm_20_8 : okQm 20 8 = true := by sorry
theorem qm_20_9 : okQm 20 9 = true := by sorry
theorem qm_20_10 : okQm 20 10 = true := by sorry
theorem qm_20_11 : okQm 20 11 = true := by sorry
theorem qm_20_12 : okQm 20 12 = true := by sorry
theorem qm_20_13 : okQm 20 13 = true := by sorry
theorem qm_20_14 : okQm 20 14 = true := by sorry
theorem qm_21_8 : okQm 21 8 = true := by sorry
theorem qm_21_9 : okQm 21 9 = true := by sorry
theorem qm_21_10 : okQm 21 10 = true := by sorry
theorem qm_21_11 : okQm 21 11 = true := by sorry
theorem qm_21_12 : okQm 21 12 = true := by sorry
theorem qm_21_13 : okQm 21 13 = true := by sorry
theorem qm_22_8 : okQm 22 8 = true := by sorry
theorem qm_22_9 : okQm 22 9 = true := by sorry
theorem qm_22_10 : okQm 22 10 = true := by sorry
theorem qm_22_11 : okQm 22 11 = true := by sorry
theorem qm_22_12 : okQm 22 12 = true := by sorry
theorem qm_22_13 : okQm 22 13 = true := by sorry
theorem qm_23_8 : okQm 23 8 = true := by sorry
theorem qm_23_9 : okQm 23 9 = true := by sorry
theorem qm_23_10 : okQm 23 10 = true := by sorry
theorem qm_23_11 : okQm 23 11 = true := by sorry
theorem qm_23_12 : okQm 23 12 = true := by sorry
theorem qm_24_8 : okQm 24 8 = true := by sorry
theorem qm_24_9 : okQm 24 9 = true := by sorry
theorem qm_24_10 : okQm 24 10 = true := by sorry
theorem qm_24_11 : okQm 24 11 = true := by sorry
theorem qm_24_12 : okQm 24 12 = true := by sorry
theorem qm_25_8 : okQm 25 8 = true := by sorry
theorem qm_25_9 : okQm 25 9 = true := by sorry
theorem qm_25_10 : okQm 25 10 = true := by sorry
theorem qm_25_11 : okQm 25 11 = true := by sorry
theorem qm_26_8 : okQm 26 8 = true := by sorry
theorem qm_26_9 : okQm 26 9 = true := by sorry
theorem qm_26_10 : okQm 26 10 = true := by sorry
theorem qm_26_11 : okQm 26 11 = true := by sorry
theorem qm_27_8 : okQm 27 8 = true := by sorry
theorem qm_27_9 : okQm 27 9 = true := by sorry
theorem qm_27_10 : okQm 27 10 = true := by sorry
theorem qm_28_8 : okQm 28 8 = true := by sorry
theorem qm_28_9 : okQm 28 9 = true := by sorry
theorem qm_28_10 : okQm 28 10 = true := by sorry
theorem qm_29_8 : okQm 29 8 = true := by sorry
theorem qm_29_9 : okQm 29 9 = true := by sorry
theorem qm_30_8 : okQm 30 8 = true := by sorry
theorem qm_30_9 : okQm 30 9 = true := by sorry
theorem qm_31_8 : okQm 31 8 = true := by sorry
theorem qm_32_8 : okQm 32 8 = true := by sorry
theorem qm_get {c m : Nat} (c0 : 20 ≤ c) (c1 : c ≤ 32) (m0 : 8 ≤ m) (m1 : m ≤ 14) : okQm c m = true := by sorry
end
section
-- from 99z99zzp
theorem qo_20_10 : okQo 20 10 = true := by sorry
theorem qo_20_11 : okQo 20 11 = true := by sorry
theorem qo_20_12 : okQo 20 12 = true := by sorry
theorem qo_20_13 : okQo 20 13 = true := by sorry
theorem qo_20_14 : okQo 20 14 = true := by sorry
theorem qo_20_15 : okQo 20 15 = true := by sorry
theorem qo_20_16 : okQo 20 16 = true := by sorry
theorem qo_21_10 : okQo 21 10 = true := by sorry
theorem qo_21_11 : okQo 21 11 = true := by sorry
theorem qo_21_12 : okQo 21 12 = true := by sorry
theorem qo_21_13 : okQo 21 13 = true := by sorry
theorem qo_21_14 : okQo 21 14 = true := by sorry
theorem qo_21_15 : okQo 21 15 = true := by sorry
theorem qo_21_16 : okQo 21 16 = true := by sorry
theorem qo_22_10 : okQo 22 10 = true := by sorry
theorem qo_22_11 : okQo 22 11 = true := by sorry
theorem qo_22_12 : okQo 22 12 = true := by sorry
theorem qo_22_13 : okQo 22 13 = true := by sorry
theorem qo_22_14 : okQo 22 14 = true := by sorry
theorem qo_22_15 : okQo 22 15 = true := by sorry
theorem qo_23_10 : okQo 23 10 = true := by sorry
theorem qo_23_11 : okQo 23 11 = true := by sorry
theorem qo_23_12 : okQo 23 12 = true := by sorry
theorem qo_23_13 : okQo 23 13 = true := by sorry
theorem qo_23_14 : okQo 23 14 = true := by sorry
theorem qo_23_15 : okQo 23 15 = true := by sorry
theorem qo_24_10 : okQo 24 10 = true := by sorry
theorem qo_24_11 : okQo 24 11 = true := by sorry
theorem qo_24_12 : okQo 24 12 = true := by sorry
theorem qo_24_13 : okQo 24 13 = true := by sorry
theorem qo_24_14 : okQo 24 14 = true := by sorry
theorem qo_25_10 : okQo 25 10 = true := by sorry
theorem qo_25_11 : okQo 25 11 = true := by sorry
theorem qo_25_12 : okQo 25 12 = true := by sorry
theorem qo_25_13 : okQo 25 13 = true := by sorry
theorem qo_25_14 : okQo 25 14 = true := by sorry
theorem qo_26_10 : okQo 26 10 = true := by sorry
theorem qo_26_11 : okQo 26 11 = true := by sorry
theorem qo_26_12 : okQo 26 12 = true := by sorry
theorem qo_26_13 : okQo 26 13 = true := by sorry
theorem qo_27_10 : okQo 27 10 = true := by sorry
theorem qo_27_11 : okQo 27 11 = true := by sorry
theorem qo_27_12 : okQo 27 12 = true := by sorry
theorem qo_27_13 : okQo 27 13 = true := by sorry
theorem qo_28_10 : okQo 28 10 = true := by sorry
theorem qo_28_11 : okQo 28 11 = true := by sorry
theorem qo_28_12 : okQo 28 12 = true := by sorry
theorem qo_29_10 : okQo 29 10 = true := by sorry
theorem qo_29_11 : okQo 29 11 = true := by sorry
theorem qo_29_12 : okQo 29 12 = true := by sorry
theorem qo_30_10 : okQo 30 10 = true := by sorry
theorem qo_30_11 : okQo 30 11 = true := by sorry
theorem qo_31_10 : okQo 31 10 = true := by sorry
theorem qo_31_11 : okQo 31 11 = true := by sorry
theorem qo_32_10 : okQo 32 10 = true := by sorry
theorem qo_33_10 : okQo 33 10 = true := by sorry
theorem qo_get {c m : Nat} (c0 : 20 ≤ c) (c1 : c ≤ 33) (m0 : 10 ≤ m) (m1 : m ≤ 16) : okQo c m = true := by sorry
end
section
-- from 99z99zzq
def eqx (be k ov q1 q2 cd : Nat) (e : Nat × T6 × T6) : Bool := (Nat.ble be e.1 && (Nat.ble k (e.1 + 5) && (Nat.ble q1 (e.1 + 9) && (Nat.ble q2 (e.1 + 9) && (Nat.ble ov (e.1 + 10) && Nat.ble cd (e.1 + 9)))))) &&
  (qts fr1 fg1 xr1 1 3 (kpz fr1 0 (max 1 (fx1.getD q1 0)) ov) (wbz fr1 1 (max 1 (fx1.getD q1 0)) be) (max 1 (fx1.getD q1 0)) (ojy k ov q1 q2) k q2 e.2.1 &&
  qts frq fgq xrq 0 1 (kpz frq 1 (max 1 (fxq.getD q1 0)) ov) (wbz frq 0 (max 1 (fxq.getD q1 0)) be) (max 1 (fxq.getD q1 0)) (ojy k ov q1 q2) k q2 e.2.2)
def inB (L : List (Nat × Nat × Nat)) (be k ov q1 q2 : Nat) : Bool := Nat.beq q1 0 && (Nat.beq q2 0 && L.any (fun b => Nat.beq be b.1 && (Nat.beq k b.2.1 && Nat.beq ov b.2.2)))
def cvx9 (E : List (List (List (Nat × T6 × T6)))) (L : List (List (List (Nat × Nat × Nat)))) (c m0 m1 : Nat) : Bool := (List.range (c - 8)).all (fun be => Nat.beq be 0 || (List.range (c - 7 - be)).all (fun k => Nat.beq k 0 || (List.range (c - 7 - be - k)).all (fun ov => (Nat.beq ov 1 || Nat.beq ov 2) || (List.range (c - 7 - be - k - ov)).all (fun q1 => (Nat.blt 0 q1 && Nat.blt q1 5) || ((Nat.blt 0 (c - 8 - be - k - ov - q1) && Nat.blt (c - 8 - be - k - ov - q1) 5) || (List.range (m1 + 1)).all (fun m => Nat.blt m m0 || ((gQ E c m).any (eqx be k ov q1 (c - 8 - be - k - ov - q1) (58 - c - 2 * m)) || inB (gB L c m) be k ov q1 (c - 8 - be - k - ov - q1))))))))
theorem cvm_20 : cvx9 eQm bQm 20 8 14 = true := by sorry
theorem cvm_21 : cvx9 eQm bQm 21 8 13 = true := by sorry
theorem cvm_22 : cvx9 eQm bQm 22 8 13 = true := by sorry
theorem cvm_23 : cvx9 eQm bQm 23 8 12 = true := by sorry
theorem cvm_24 : cvx9 eQm bQm 24 8 12 = true := by sorry
theorem cvm_25 : cvx9 eQm bQm 25 8 11 = true := by sorry
theorem cvm_26 : cvx9 eQm bQm 26 8 11 = true := by sorry
theorem cvm_27 : cvx9 eQm bQm 27 8 10 = true := by sorry
theorem cvm_28 : cvx9 eQm bQm 28 8 10 = true := by sorry
theorem cvm_29 : cvx9 eQm bQm 29 8 9 = true := by sorry
theorem cvm_30 : cvx9 eQm bQm 30 8 9 = true := by sorry
theorem cvm_31 : cvx9 eQm bQm 31 8 8 = true := by sorry
theorem cvm_32 : cvx9 eQm bQm 32 8 8 = true := by sorry
theorem cvo_20 : cvx9 eQo bQo 20 10 16 = true := by sorry
theorem cvo_21 : cvx9 eQo bQo 21 10 16 = true := by sorry
theorem cvo_22 : cvx9 eQo bQo 22 10 15 = true := by sorry
theorem cvo_23 : cvx9 eQo bQo 23 10 15 = true := by sorry
theorem cvo_24 : cvx9 eQo bQo 24 10 14 = true := by sorry
theorem cvo_25 : cvx9 eQo bQo 25 10 14 = true := by sorry
theorem cvo_26 : cvx9 eQo bQo 26 10 13 = true := by sorry
theorem cvo_27 : cvx9 eQo bQo 27 10 13 = true := by sorry
theorem cvo_28 : cvx9 eQo bQo 28 10 12 = true := by sorry
theorem cvo_29 : cvx9 eQo bQo 29 10 12 = true := by sorry
theorem cvo_30 : cvx9 eQo bQo 30 10 11 = true := by sorry
theorem cvo_31 : cvx9 eQo bQo 31 10 11 = true := by sorry
theorem cvo_32 : cvx9 eQo bQo 32 10 10 = true := by sorry
theorem cvo_33 : cvx9 eQo bQo 33 10 10 = true := by sorry
end
section
-- from 99z99zzr
section PmZr1
variable {f D p : Nat} {t v : Ty} {Γ : List Ty} {a0 : Nat × Ty × Nat} {S : Ty}
theorem cft_cho (f : Nat) (t : Ty) (σ : List Bool) (c : CFt f t) : CHo f t σ := by sorry
theorem vac_nine (he : TE Γ [a0]) (hv : noac Γ) (w : TWf f Γ.length [a0.1] t) (tn : TNo f t) (nc : ¬ CHo f t []) (m9 : mch t ≤ 9) : tyF f t Γ [a0] ≠ .inr S := by sorry
end PmZr1
theorem cvx_get {E : List (List (List (Nat × T6 × T6)))} {L : List (List (List (Nat × Nat × Nat)))} {c m0 m1 : Nat} (h : cvx9 E L c m0 m1 = true) {be k ov q1 q2 m : Nat} (b1 : 1 ≤ be) (k1 : 1 ≤ k) (ho : ov = 0 ∨ 3 ≤ ov) (h1 : q1 = 0 ∨ 5 ≤ q1) (h2 : q2 = 0 ∨ 5 ≤ q2) (ec : 8 + be + k + ov + q1 + q2 = c) (hm0 : m0 ≤ m) (hm1 : m ≤ m1) : (gQ E c m).any (eqx be k ov q1 q2 (58 - c - 2 * m)) = true ∨ inB (gB L c m) be k ov q1 q2 = true := by sorry
theorem cvxm_all {c : Nat} (c0 : 20 ≤ c) (c1 : c ≤ 32) : ∃ m1, cvx9 eQm bQm c 8 m1 = true ∧ 47 ≤ c + 2 * m1 := by sorry
theorem cvxo_all {c : Nat} (c0 : 20 ≤ c) (c1 : c ≤ 33) : ∃ m1, cvx9 eQo bQo c 10 m1 = true ∧ 52 ≤ c + 2 * m1 := by sorry
section PmZr2
variable {f : Nat} {t b b' B C : Ty} {Γ0 Δ1 : List Ty} {Δ : List (Nat × Ty × Nat)}
theorem nat_Qo (lb : LBd Γ0 Δ1 b b' B C) (ho : tch b - tch (tAll B C) = 0 ∨ 3 ≤ tch b - tch (tAll B C)) (w : TWf f (cxs Δ1 Γ0 b).length (Δ.map (fun a => a.1)) t) (he : TE (cxs Δ1 Γ0 b) Δ) (nD : Δ ≠ []) (tn : TNo f t) (one : Δ.length ≤ 1) (m0 : 10 ≤ mch t) (h20 : 20 ≤ cch (cxs Δ1 Γ0 b)) (hb : cch (cxs Δ1 Γ0 b) + dch Δ + 2 * mch t ≤ 58) : NtV (cxs Δ1 Γ0 b) Δ f t 887 597 ∨ inB (gB bQo (cch (cxs Δ1 Γ0 b)) (mch t)) (tch B) (tch C) (tch b - tch (tAll B C)) (cch Γ0) (cch Δ1) = true := by sorry
end PmZr2
section PmZr3
variable {f : Nat} {t b b' B C : Ty} {Γ0 Δ1 : List Ty} {Δ : List (Nat × Ty × Nat)}
theorem nat_Qm (lb : LBd Γ0 Δ1 b b' B C) (ho : tch b - tch (tAll B C) = 0 ∨ 3 ≤ tch b - tch (tAll B C)) (w : TWf f (cxs Δ1 Γ0 b).length (Δ.map (fun a => a.1)) t) (he : TE (cxs Δ1 Γ0 b) Δ) (nD : Δ ≠ []) (d10 : 10 ≤ dch Δ) (m0 : 8 ≤ mch t) (h20 : 20 ≤ cch (cxs Δ1 Γ0 b)) (hb : cch (cxs Δ1 Γ0 b) + dch Δ + 2 * mch t ≤ 58) : NtV (cxs Δ1 Γ0 b) Δ f t 887 597 ∨ inB (gB bQm (cch (cxs Δ1 Γ0 b)) (mch t)) (tch B) (tch C) (tch b - tch (tAll B C)) (cch Γ0) (cch Δ1) = true := by sorry
end PmZr3
def RESTAH9 : Prop := ∀ (f : Nat) (x y : Ty) (Γ : List Ty) (Δ : List (Nat × Ty × Nat)) (t : Ty), H9 f x y Γ Δ → Sh9 x y t → ¬ CHo f t [] → (Δ = [] ∨ (∀ a ∈ Γ, IS2 (fun _ => False) a) ∨ ∃ (b b' B C : Ty), Γ = [b] ∧ LBd [] [] b b' B C ∧ ¬ IS2 (fun _ => False) b ∧ ((Δ.length = 1 ∧ inB (gB bQo (cch Γ) (mch t)) (tch B) (tch C) (tch b - tch (tAll B C)) 0 0 = true) ∨ (2 ≤ Δ.length ∧ inB (gB bQm (cch Γ) (mch t)) (tch B) (tch C) (tch b - tch (tAll B C)) 0 0 = true))) → PRn f x y Γ Δ
theorem restAG9_of (R : RESTAH9) : RESTAG9 := by sorry
theorem pairn_qh (R : RESTAH9) : PAIRn := by sorry
end
section
-- from 99z99zzs
section PmZs1
variable {t0 fn s2 hv r0 r1 r2 r3 x0 : Nat} {n1 h : Nat → Nat} {P Q : List (List Nat)} {F G W : FrT} {X : List Nat}
theorem gen_z0qo (hn : NC t0 n1 s2 h) (hm : ∀ y y', y ≤ y' → h y ≤ h y') (hh : ∀ y δ, h (y + δ) ≤ h y + δ) (T : TBs 58 t0 fn s2 hv r0 r1 r2 r3 x0 n1 h P Q F G X) (hFm : frm F = true) (hgr : fgc F W hv = true) (hWm : fgm W = true) (hW1 : fg1s W = true) (hW : (1, 0) ∈ frg W 0) (H1 : ∀ y, h y ≤ hv + max 1 y) {f : Nat} {t S : Ty} {Γ : List Ty} {Δ : List (Nat × Ty × Nat)} {a5 cd Bd : Nat} (w : TWf f Γ.length (Δ.map (fun a => a.1)) t) (he : TE Γ Δ) (cu : TNo f t) (hΔ1 : Δ.length ≤ 1) (nD : Δ ≠ []) (hm30 : mch t ≤ 30) (hdc : dch Δ ≤ cd) (hcd : cd ≤ 56) (a55 : a5 ≤ 5) (ha5 : Δ ≠ [] → a5 = 0) (hb0 : ∀ b ∈ Γ, IS2 (fun _ => False) b) {K La : Nat} (hLK : La ≤ K) (K30 : K ≤ 30) (kcd : dch Δ ≤ K + 9) (hM : mch t ≤ La + 8) (hM16 : mch t ≤ 16) (hLa : 13 ≤ mch t → 5 ≤ La) {s : T6} (y01 : x0 ≤ s.1) (hw' : ∀ j, j < Γ.length → vw (onz t0 n1 s2 h Γ) j ≤ s.1) (gq : gqx F W hv K La s = true) (R : dpDo F W a5 hv fn s2 r0 r1 r2 r3 s.2.2.1 s.2.2.2.1 s.1 s.2.2.2.2.1 s.2.2.2.2.2 s.1 cd (mch t) ≤ Bd) (hS : tyF f t Γ Δ = .inr S) : nz t0 n1 s2 h (onz t0 n1 s2 h Γ) S ≤ Bd := by sorry
end PmZs1
section PmZs2
variable {t0 fn s2 hv r0 r1 r2 r3 x0 : Nat} {n1 h : Nat → Nat} {P Q : List (List Nat)} {F G W : FrT} {X : List Nat}
theorem gen_z0q (hn : NC t0 n1 s2 h) (hm : ∀ y y', y ≤ y' → h y ≤ h y') (hh : ∀ y δ, h (y + δ) ≤ h y + δ) (T : TBs 58 t0 fn s2 hv r0 r1 r2 r3 x0 n1 h P Q F G X) (hFm : frm F = true) (hgr : fgc F W hv = true) (hWm : fgm W = true) (hW1 : fg1s W = true) (hW : (1, 0) ∈ frg W 0) (H1 : ∀ y, h y ≤ hv + max 1 y) {f : Nat} {t S : Ty} {Γ : List Ty} {Δ : List (Nat × Ty × Nat)} {a5 cd Bd : Nat} (w : TWf f Γ.length (Δ.map (fun a => a.1)) t) (he : TE Γ Δ) (hm30 : mch t ≤ 30) (hdc : dch Δ ≤ cd) (hcd : cd ≤ 56) (a55 : a5 ≤ 5) (ha5 : Δ ≠ [] → a5 = 0) (hb0 : ∀ b ∈ Γ, IS2 (fun _ => False) b) {K La : Nat} (hLK : La ≤ K) (K30 : K ≤ 30) (kcd : dch Δ ≤ K + 9) (hM : mch t ≤ La + 7) (hM16 : mch t ≤ 15) (hLa : 13 ≤ mch t → 5 ≤ La) {s : T6} (y01 : x0 ≤ s.1) (hw' : ∀ j, j < Γ.length → vw (onz t0 n1 s2 h Γ) j ≤ s.1) (gq : gqx F W hv K La s = true) (R : dpD true F W a5 hv fn s2 r0 r1 r2 r3 s.2.2.1 s.2.2.2.1 s.1 s.2.2.2.2.1 s.2.2.2.2.2 s.1 cd (mch t) ≤ Bd) (hS : tyF f t Γ Δ = .inr S) : nz t0 n1 s2 h (onz t0 n1 s2 h Γ) S ≤ Bd := by sorry
end PmZs2
section PmZs3
variable {f : Nat} {t : Ty} {Γ : List Ty} {Δ : List (Nat × Ty × Nat)} {cd : Nat}
theorem zone_0qo (w : TWf f Γ.length (Δ.map (fun a => a.1)) t) (he : TE Γ Δ) (cu : TNo f t) (hΔ1 : Δ.length ≤ 1) (nD : Δ ≠ []) (hb0 : ∀ b ∈ Γ, IS2 (fun _ => False) b) {K La : Nat} (hLK : La ≤ K) (K30 : K ≤ 30) (kcd : dch Δ ≤ K + 9) (hM : mch t ≤ La + 8) (hM16 : mch t ≤ 16) (hLa : 13 ≤ mch t → 5 ≤ La) {sR sG : T6} (yR : max 1 (fx1.getD (cch Γ) 0) ≤ sR.1) (yG : max 1 (fxq.getD (cch Γ) 0) ≤ sG.1) (tR : lnqo [[sR]] fr1 fg1 1 2 3 2 2 2 2 887 cd (mch t) K La = true) (tG : lnqo [[sG]] frq fgq 0 1 1 1 3 2 1 597 cd (mch t) K La = true) (m30 : mch t ≤ 30) (cd56 : cd ≤ 56) (c56 : cch Γ ≤ 56) (hb : dch Δ ≤ cd) : NtV Γ Δ f t 887 597 := by sorry
theorem zone_0q (w : TWf f Γ.length (Δ.map (fun a => a.1)) t) (he : TE Γ Δ) (hb0 : ∀ b ∈ Γ, IS2 (fun _ => False) b) {K La : Nat} (hLK : La ≤ K) (K30 : K ≤ 30) (kcd : dch Δ ≤ K + 9) (hM : mch t ≤ La + 7) (hM16 : mch t ≤ 15) (hLa : 13 ≤ mch t → 5 ≤ La) {sR sG : T6} (yR : max 1 (fx1.getD (cch Γ) 0) ≤ sR.1) (yG : max 1 (fxq.getD (cch Γ) 0) ≤ sG.1) (tR : lnqm [[sR]] fr1 fg1 1 2 3 2 2 2 2 887 cd (mch t) K La = true) (tG : lnqm [[sG]] frq fgq 0 1 1 1 3 2 1 597 cd (mch t) K La = true) (m30 : mch t ≤ 30) (cd56 : cd ≤ 56) (c56 : cch Γ ≤ 56) (hb : dch Δ ≤ cd) : NtV Γ Δ f t 887 597 := by sorry
end PmZs3
theorem z0m_8_20 : (lnqm [[(62, 13, 12, 4, 0, 0)]] fr1 fg1 1 2 3 2 2 2 2 887 22 8 13 3 && lnqm [[(48, 13, 13, 4, 0, 0)]] frq fgq 0 1 1 1 3 2 1 597 22 8 13 3) = true ∧ ∀ c, c < 32 → max 1 (fx1.getD c 0) ≤ 62 ∧ max 1 (fxq.getD c 0) ≤ 48 := by sorry
theorem z0m_8_32 : (lnqm [[(68, 3, 2, 1, 0, 0)]] fr1 fg1 1 2 3 2 2 2 2 887 10 8 3 3 && lnqm [[(50, 3, 1, 1, 0, 0)]] frq fgq 0 1 1 1 3 2 1 597 10 8 3 3) = true ∧ ∀ c, c < 33 → max 1 (fx1.getD c 0) ≤ 68 ∧ max 1 (fxq.getD c 0) ≤ 50 := by sorry
theorem z0m_9_20 : (lnqm [[(52, 11, 11, 3, 0, 0)]] fr1 fg1 1 2 3 2 2 2 2 887 20 9 11 3 && lnqm [[(45, 11, 10, 3, 0, 0)]] frq fgq 0 1 1 1 3 2 1 597 20 9 11 3) = true ∧ ∀ c, c < 31 → max 1 (fx1.getD c 0) ≤ 52 ∧ max 1 (fxq.getD c 0) ≤ 45 := by sorry
theorem z0m_10_20 : (lnqm [[(50, 9, 6, 3, 0, 0)]] fr1 fg1 1 2 3 2 2 2 2 887 18 10 9 3 && lnqm [[(36, 9, 7, 3, 0, 0)]] frq fgq 0 1 1 1 3 2 1 597 18 10 9 3) = true ∧ ∀ c, c < 29 → max 1 (fx1.getD c 0) ≤ 50 ∧ max 1 (fxq.getD c 0) ≤ 36 := by sorry
theorem z0m_11_20 : (lnqm [[(34, 7, 6, 2, 0, 0)]] fr1 fg1 1 2 3 2 2 2 2 887 16 11 7 4 && lnqm [[(30, 7, 8, 2, 0, 0)]] frq fgq 0 1 1 1 3 2 1 597 16 11 7 4) = true ∧ ∀ c, c < 27 → max 1 (fx1.getD c 0) ≤ 34 ∧ max 1 (fxq.getD c 0) ≤ 30 := by sorry
theorem z0m_12_20 : (lnqm [[(34, 5, 74, 2, 0, 0)]] fr1 fg1 1 2 3 2 2 2 2 887 14 12 5 5 && lnqm [[(27, 5, 57, 2, 0, 0)]] frq fgq 0 1 1 1 3 2 1 597 14 12 5 5) = true ∧ ∀ c, c < 25 → max 1 (fx1.getD c 0) ≤ 34 ∧ max 1 (fxq.getD c 0) ≤ 27 := by sorry
theorem z0m_13_20 : (lnqm [[(26, 6, 58, 2, 0, 0)]] fr1 fg1 1 2 3 2 2 2 2 887 12 13 6 6 && lnqm [[(19, 6, 41, 2, 0, 0)]] frq fgq 0 1 1 1 3 2 1 597 12 13 6 6) = true ∧ ∀ c, c < 23 → max 1 (fx1.getD c 0) ≤ 26 ∧ max 1 (fxq.getD c 0) ≤ 19 := by sorry
theorem z0m_14_20 : (lnqm [[(22, 7, 50, 2, 0, 0)]] fr1 fg1 1 2 3 2 2 2 2 887 10 14 7 7 && lnqm [[(18, 7, 42, 2, 0, 0)]] frq fgq 0 1 1 1 3 2 1 597 10 14 7 7) = true ∧ ∀ c, c < 21 → max 1 (fx1.getD c 0) ≤ 22 ∧ max 1 (fxq.getD c 0) ≤ 18 := by sorry
theorem z0o_10_20 : (lnqo [[(50, 9, 6, 3, 0, 0)]] fr1 fg1 1 2 3 2 2 2 2 887 18 10 9 3 && lnqo [[(36, 9, 7, 3, 0, 0)]] frq fgq 0 1 1 1 3 2 1 597 18 10 9 3) = true ∧ ∀ c, c < 29 → max 1 (fx1.getD c 0) ≤ 50 ∧ max 1 (fxq.getD c 0) ≤ 36 := by sorry
theorem z0o_10_29 : (lnqo [[(74, 3, 2, 1, 0, 0)]] fr1 fg1 1 2 3 2 2 2 2 887 9 10 3 3 && lnqo [[(57, 3, 1, 1, 0, 0)]] frq fgq 0 1 1 1 3 2 1 597 9 10 3 3) = true ∧ ∀ c, c < 34 → max 1 (fx1.getD c 0) ≤ 74 ∧ max 1 (fxq.getD c 0) ≤ 57 := by sorry
theorem z0o_11_20 : (lnqo [[(62, 7, 6, 2, 0, 0)]] fr1 fg1 1 2 3 2 2 2 2 887 16 11 7 3 && lnqo [[(48, 7, 7, 2, 0, 0)]] frq fgq 0 1 1 1 3 2 1 597 16 11 7 3) = true ∧ ∀ c, c < 32 → max 1 (fx1.getD c 0) ≤ 62 ∧ max 1 (fxq.getD c 0) ≤ 48 := by sorry
theorem z0o_12_20 : (lnqo [[(50, 5, 6, 2, 0, 0)]] fr1 fg1 1 2 3 2 2 2 2 887 14 12 5 4 && lnqo [[(38, 5, 7, 2, 0, 0)]] frq fgq 0 1 1 1 3 2 1 597 14 12 5 4) = true ∧ ∀ c, c < 30 → max 1 (fx1.getD c 0) ≤ 50 ∧ max 1 (fxq.getD c 0) ≤ 38 := by sorry
theorem z0o_13_20 : (lnqo [[(42, 5, 90, 2, 0, 0)]] fr1 fg1 1 2 3 2 2 2 2 887 12 13 5 5 && lnqo [[(36, 5, 75, 2, 0, 0)]] frq fgq 0 1 1 1 3 2 1 597 12 13 5 5) = true ∧ ∀ c, c < 28 → max 1 (fx1.getD c 0) ≤ 42 ∧ max 1 (fxq.getD c 0) ≤ 36 := by sorry
theorem z0o_14_20 : (lnqo [[(34, 6, 74, 2, 0, 0)]] fr1 fg1 1 2 3 2 2 2 2 887 10 14 6 6 && lnqo [[(27, 6, 57, 2, 0, 0)]] frq fgq 0 1 1 1 3 2 1 597 10 14 6 6) = true ∧ ∀ c, c < 26 → max 1 (fx1.getD c 0) ≤ 34 ∧ max 1 (fxq.getD c 0) ≤ 27 := by sorry
theorem z0o_15_20 : (lnqo [[(26, 7, 58, 2, 0, 0)]] fr1 fg1 1 2 3 2 2 2 2 887 8 15 7 7 && lnqo [[(24, 7, 54, 2, 0, 0)]] frq fgq 0 1 1 1 3 2 1 597 8 15 7 7) = true ∧ ∀ c, c < 24 → max 1 (fx1.getD c 0) ≤ 26 ∧ max 1 (fxq.getD c 0) ≤ 24 := by sorry
theorem z0o_16_20 : (lnqo [[(23, 8, 58, 2, 0, 0)]] fr1 fg1 1 2 3 2 2 2 2 887 6 16 8 8 && lnqo [[(18, 8, 48, 2, 0, 0)]] frq fgq 0 1 1 1 3 2 1 597 6 16 8 8) = true ∧ ∀ c, c < 22 → max 1 (fx1.getD c 0) ≤ 23 ∧ max 1 (fxq.getD c 0) ≤ 18 := by sorry
section PmZs4
variable {f : Nat} {t : Ty} {Γ : List Ty} {Δ : List (Nat × Ty × Nat)}
theorem nat_0qo (w : TWf f Γ.length (Δ.map (fun a => a.1)) t) (he : TE Γ Δ) (cu : TNo f t) (hΔ1 : Δ.length ≤ 1) (nD : Δ ≠ []) (hb0 : ∀ b ∈ Γ, IS2 (fun _ => False) b) (m0 : 10 ≤ mch t) (h20 : 20 ≤ cch Γ) (hb : cch Γ + dch Δ + 2 * mch t ≤ 58) : NtV Γ Δ f t 887 597 := by sorry
theorem nat_0qm (w : TWf f Γ.length (Δ.map (fun a => a.1)) t) (he : TE Γ Δ) (d10 : 10 ≤ dch Δ) (hb0 : ∀ b ∈ Γ, IS2 (fun _ => False) b) (m0 : 8 ≤ mch t) (h20 : 20 ≤ cch Γ) (hb : cch Γ + dch Δ + 2 * mch t ≤ 58) : NtV Γ Δ f t 887 597 := by sorry
end PmZs4
def RESTAI9 : Prop := ∀ (f : Nat) (x y : Ty) (Γ : List Ty) (Δ : List (Nat × Ty × Nat)) (t : Ty), H9 f x y Γ Δ → Sh9 x y t → ¬ CHo f t [] → (Δ = [] ∨ ∃ (b b' B C : Ty), Γ = [b] ∧ LBd [] [] b b' B C ∧ ¬ IS2 (fun _ => False) b ∧ ((Δ.length = 1 ∧ inB (gB bQo (cch Γ) (mch t)) (tch B) (tch C) (tch b - tch (tAll B C)) 0 0 = true) ∨ (2 ≤ Δ.length ∧ inB (gB bQm (cch Γ) (mch t)) (tch B) (tch C) (tch b - tch (tAll B C)) 0 0 = true))) → PRn f x y Γ Δ
theorem restAH9_of (R : RESTAI9) : RESTAH9 := by sorry
theorem pairn_qi (R : RESTAI9) : PAIRn := by sorry
end
section
-- from 99z99zzt
section PmZt1
variable {f : Nat} {t : Ty} {Γ : List Ty} {Δ : List (Nat × Ty × Nat)} {a0 : Nat × Ty × Nat} {S : Ty}
theorem ins_cho (he : TE Γ [a0]) (hv : noac Γ) (hQ : ∀ p q Q : Ty, expo Γ Γ.length (lft a0.2.2 (Γ.length - a0.2.2) a0.2.1) = tAll p q → ok Γ.length Q = true → bel Γ Q p = true → 4 ≤ tch Q) {g : Nat} {u R : Ty} (w : TWf (g + 1) Γ.length [a0.1] u) (tn : TNo (g + 1) u) (k9 : nKd u = 9) (k12 : nKd (nX u) = 12) (m9 : mch u ≤ 9) (h : tyF (g + 1) u Γ [a0] = .inr R) : False := by sorry
theorem vac_eleven (he : TE Γ [a0]) (hv : noac Γ) (hQ : ∀ p q Q : Ty, expo Γ Γ.length (lft a0.2.2 (Γ.length - a0.2.2) a0.2.1) = tAll p q → ok Γ.length Q = true → bel Γ Q p = true → 4 ≤ tch Q) (w : TWf f Γ.length [a0.1] t) (tn : TNo f t) (nc : ¬ CHo f t []) (m11 : mch t ≤ 11) : tyF f t Γ [a0] ≠ .inr S := by sorry
end PmZt1
section PmZt2
variable {b : Ty}
theorem arg_four (hc : okc [b]) (hv : noac [b]) (hB : ∀ B C, b = tAll B C → 4 ≤ tch B) {T : Ty} (oT : ok 1 T = true) (t5 : tch T ≤ 5) (p q Q : Ty) (e : expo [b] [b].length T = tAll p q) (oQ : ok [b].length Q = true) (hb : bel [b] Q p = true) : 4 ≤ tch Q := by sorry
end PmZt2
theorem getD_mem9 {α : Type} {L : List (List α)} {i : Nat} {e : α} (h : e ∈ L.getD i []) : ∃ l ∈ L, e ∈ l := by sorry
def RESTAJ9 : Prop := ∀ (f : Nat) (x y : Ty) (Γ : List Ty) (Δ : List (Nat × Ty × Nat)) (t : Ty), H9 f x y Γ Δ → Sh9 x y t → ¬ CHo f t [] → (Δ = [] ∨ ∃ (b b' B C : Ty), Γ = [b] ∧ LBd [] [] b b' B C ∧ ¬ IS2 (fun _ => False) b ∧ sN B 0 1 C = true ∧ ((Δ.length = 1 ∧ (tch B ≤ 2 ∨ 12 ≤ mch t) ∧ inB (gB bQo (cch Γ) (mch t)) (tch B) (tch C) (tch b - tch (tAll B C)) 0 0 = true) ∨ (2 ≤ Δ.length ∧ inB (gB bQm (cch Γ) (mch t)) (tch B) (tch C) (tch b - tch (tAll B C)) 0 0 = true))) → PRn f x y Γ Δ
theorem restAI9_of (R : RESTAJ9) : RESTAI9 := by sorry
theorem pairn_qj (R : RESTAJ9) : PAIRn := by sorry
end
section
-- from 99z99zzu
section PmZu1
variable {f : Nat} {t : Ty} {Γ : List Ty} {Δ : List (Nat × Ty × Nat)} {a0 : Nat × Ty × Nat} {S : Ty}
theorem ins_cho2 (he : TE Γ [a0]) (hv : noac Γ) (hQ : ∀ p q Q : Ty, expo Γ Γ.length (lft a0.2.2 (Γ.length - a0.2.2) a0.2.1) = tAll p q → ok Γ.length Q = true → bel Γ Q p = true → 2 ≤ tch Q) {g : Nat} {u R : Ty} (w : TWf (g + 1) Γ.length [a0.1] u) (tn : TNo (g + 1) u) (k9 : nKd u = 9) (k12 : nKd (nX u) = 12) (m9 : mch u ≤ 8) (h : tyF (g + 1) u Γ [a0] = .inr R) : False := by sorry
theorem vac_ten (he : TE Γ [a0]) (hv : noac Γ) (hQ : ∀ p q Q : Ty, expo Γ Γ.length (lft a0.2.2 (Γ.length - a0.2.2) a0.2.1) = tAll p q → ok Γ.length Q = true → bel Γ Q p = true → 2 ≤ tch Q) (w : TWf f Γ.length [a0.1] t) (tn : TNo f t) (nc : ¬ CHo f t []) (m11 : mch t ≤ 10) : tyF f t Γ [a0] ≠ .inr S := by sorry
end PmZu1
section PmZu2
variable {f D : Nat} {t : Ty} {Γ : List Ty} {Δ : List (Nat × Ty × Nat)} {S : Ty}
theorem cf_four {sc : List Nat} (w : TWf f D sc t) {σ : List Bool} (n : ¬ CHo f t σ) : 4 ≤ mch t := by sorry
theorem ty_nmD (w : TWf (f + 1) Γ.length (Δ.map (fun a => a.1)) t) (k5 : nKd t = 5) (h : tyF (f + 1) t Γ Δ = .inr S) : ∃ a ∈ Δ, S = lft a.2.2 (Γ.length - a.2.2) a.2.1 := by sorry
theorem vac_names {N : Nat} (he : TE Γ Δ) (hv : noac Γ) (hQ : ∀ a ∈ Δ, ∀ p q Q : Ty, expo Γ Γ.length (lft a.2.2 (Γ.length - a.2.2) a.2.1) = tAll p q → ok Γ.length Q = true → bel Γ Q p = true → N ≤ tch Q) (w : TWf f Γ.length (Δ.map (fun a => a.1)) t) (nc : ¬ CHo f t []) (m9 : mch t ≤ 9) (mN : mch t ≤ 6 + N) : tyF f t Γ Δ ≠ .inr S := by sorry
end PmZu2
section PmZu3
variable {b : Ty}
theorem arg_two (hc : okc [b]) (hv : noac [b]) (hB : ∀ B C, b = tAll B C → 2 ≤ tch B) {T : Ty} (oT : ok 1 T = true) (t5 : tch T ≤ 5) (p q Q : Ty) (e : expo [b] [b].length T = tAll p q) (oQ : ok [b].length Q = true) (hb : bel [b] Q p = true) : 2 ≤ tch Q := by sorry
end PmZu3
def RESTAK9 : Prop := ∀ (f : Nat) (x y : Ty) (Γ : List Ty) (Δ : List (Nat × Ty × Nat)) (t : Ty), H9 f x y Γ Δ → Sh9 x y t → ¬ CHo f t [] → (Δ = [] ∨ ∃ (b b' B C : Ty), Γ = [b] ∧ LBd [] [] b b' B C ∧ ¬ IS2 (fun _ => False) b ∧ sN B 0 1 C = true ∧ ((Δ.length = 1 ∧ (tch B = 1 ∨ 12 ≤ mch t ∨ (tch B = 2 ∧ mch t = 11)) ∧ inB (gB bQo (cch Γ) (mch t)) (tch B) (tch C) (tch b - tch (tAll B C)) 0 0 = true) ∨ (2 ≤ Δ.length ∧ (tch B = 1 ∨ (tch B = 2 ∧ 9 ≤ mch t) ∨ 10 ≤ mch t) ∧ inB (gB bQm (cch Γ) (mch t)) (tch B) (tch C) (tch b - tch (tAll B C)) 0 0 = true))) → PRn f x y Γ Δ
theorem restAJ9_of (R : RESTAK9) : RESTAJ9 := by sorry
theorem pairn_qk (R : RESTAK9) : PAIRn := by sorry
end
section
-- from 99z99zzv
theorem cl_two {f D : Nat} {v : Ty} (w : TWf f D [] v) : 2 ≤ mch v := by sorry
theorem cho_min0 : ∀ (f D : Nat) (t : Ty) (σ : List Bool), TWf f D [] t → TNo f t → ¬ CHo f t σ → 10 ≤ mch t + 2 * σ.length := by sorry
section PmZv1
variable {t0 s2 Y : Nat} {n1 h : Nat → Nat} {E : Stk → Nat}
theorem NQ_one0 (P1 : TxP t0 n1 s2 h E Y 3 Y) : ∀ (f D : Nat) (t : Ty) (ω : List Nat) (σ : List Bool) (M : Nat), TWf f D [] t → TNo f t → ω.length = D → mch t + 2 * σ.length ≤ M → M ≤ 12 → (∀ j, j < ω.length → vw ω j ≤ Y) → NQ t0 n1 s2 h E Y f t ω σ := by sorry
theorem NQ_zero0 {La V : Nat} (vy : V ≤ Y) (P0 : TxP t0 n1 s2 h E Y La V) (P1 : TxP t0 n1 s2 h E Y 3 Y) (h8 : ∀ (B : Ty) (ω : List Nat), ok ω.length B = true → tch B ≤ 4 → (∀ j, j < ω.length → vw ω j ≤ V) → h (nz t0 n1 s2 h ω B) ≤ Y) : ∀ (f D : Nat) (t : Ty) (ω : List Nat) (σ : List Bool) (M : Nat), TWf f D [] t → TNo f t → ω.length = D → mch t + 2 * σ.length ≤ M → M ≤ La + 9 → M ≤ 17 → (∀ j, j < ω.length → vw ω j ≤ V) → NQ t0 n1 s2 h E Y f t ω σ := by sorry
end PmZv1
section PmZv2
variable {t0 fn s2 hv r0 r1 r2 r3 x0 : Nat} {n1 h : Nat → Nat} {P Q : List (List Nat)} {F G W : FrT} {X : List Nat}
theorem gen_zjqn (hn : NC t0 n1 s2 h) (hm : ∀ y y', y ≤ y' → h y ≤ h y') (hh : ∀ y δ, h (y + δ) ≤ h y + δ) (T : TBs 58 t0 fn s2 hv r0 r1 r2 r3 x0 n1 h P Q F G X) (hFm : frm F = true) (hgr : fgc F W hv = true) (hWm : fgm W = true) (hW1 : fg1s W = true) (hW : (1, 0) ∈ frg W 0) (H1 : ∀ y, h y ≤ hv + max 1 y) (s21 : 1 ≤ s2) {f : Nat} {t S b b' B C : Ty} {Γ0 Δ1 : List Ty} {Δ : List (Nat × Ty × Nat)} {a5 ob cd Bd y1 κ wB : Nat} {v : Nat × Nat} (ds : DSp Γ0.length (tAll B C) b' b) (w : TWf f (cxs Δ1 Γ0 b).length (Δ.map (fun a => a.1)) t) (he : TE (cxs Δ1 Γ0 b) Δ) (cu : TNo f t) (eD : Δ = []) (hm30 : mch t ≤ 30) (hdc : dch Δ ≤ cd) (hcd : cd ≤ 56) (a55 : a5 ≤ 5) (ha5 : Δ ≠ [] → a5 = 0) (hb0 : ∀ a ∈ Γ0, OBs ob a) (hb1 : ∀ a ∈ Δ1, OBs ob a) (hbs : ∀ B' C', ok Γ0.length (tAll B' C') = true → tch C' ≤ tch C → tch (tAll B' C') + tch (tAll B C) + 5 ≤ tch b → tch C' ≤ 40 ∧ lmx xr1 (tch C') ≤ ob ∧ lmx fr1 (tch C') ≤ ob) (q38 : cch Δ1 ≤ 38) (q56 : cch Γ0 ≤ 56) (e1 : max x0 (X.getD (cch Γ0) 0) ≤ y1) (hκ : nz t0 n1 s2 h (onz t0 n1 s2 h Γ0) b' ≤ κ) (hwB : h (nz t0 n1 s2 h (onz t0 n1 s2 h Γ0) B) ≤ wB) (hv1 : xt (Γ0.length + 1) C ≤ v.1) (hv2 : xa t0 n1 s2 hv (Γ0.length + 1) C ≤ v.2) {K La : Nat} (hLK : La ≤ K) (K30 : K ≤ 30) (kB : tch B ≤ K) (kC : tch C ≤ K + 5) (kq1 : cch Γ0 ≤ K + 9) (kq2 : cch Δ1 ≤ K + 9) (kov : tch b ≤ tch (tAll B C) + K + 10) (kcd : dch Δ ≤ K + 9) (hM : mch t ≤ La + 9) (hM16 : mch t ≤ 17) (hLa : 5 ≤ La) (hT : ∀ p, p ≤ v.1 → ∀ u ∈ frg W (cch Δ1), ∃ s : T6, (TiD hv s2 κ wB y1 ob (tch C) p v u s ∧ ∃ w0 ∈ frg F s.2.2.2.2.2, ob + 1 ≤ w0.1) ∧ gqx F W hv K La s = true ∧ dpD true F W a5 hv fn s2 r0 r1 r2 r3 s.2.2.1 s.2.2.2.1 s.1 s.2.2.2.2.1 s.2.2.2.2.2 s.1 cd (mch t) ≤ Bd) (hS : tyF f t (cxs Δ1 Γ0 b) Δ = .inr S) : nz t0 n1 s2 h (onz t0 n1 s2 h (cxs Δ1 Γ0 b)) S ≤ Bd := by sorry
end PmZv2
section PmZv3
variable {t0 fn s2 hv r0 r1 r2 r3 x0 : Nat} {n1 h : Nat → Nat} {P Q : List (List Nat)} {F G W : FrT} {X : List Nat}
theorem gen_z0qn (hn : NC t0 n1 s2 h) (hm : ∀ y y', y ≤ y' → h y ≤ h y') (hh : ∀ y δ, h (y + δ) ≤ h y + δ) (T : TBs 58 t0 fn s2 hv r0 r1 r2 r3 x0 n1 h P Q F G X) (hFm : frm F = true) (hgr : fgc F W hv = true) (hWm : fgm W = true) (hW1 : fg1s W = true) (hW : (1, 0) ∈ frg W 0) (H1 : ∀ y, h y ≤ hv + max 1 y) {f : Nat} {t S : Ty} {Γ : List Ty} {Δ : List (Nat × Ty × Nat)} {a5 cd Bd : Nat} (w : TWf f Γ.length (Δ.map (fun a => a.1)) t) (he : TE Γ Δ) (cu : TNo f t) (eD : Δ = []) (hm30 : mch t ≤ 30) (hdc : dch Δ ≤ cd) (hcd : cd ≤ 56) (a55 : a5 ≤ 5) (ha5 : Δ ≠ [] → a5 = 0) (hb0 : ∀ b ∈ Γ, IS2 (fun _ => False) b) {K La : Nat} (hLK : La ≤ K) (K30 : K ≤ 30) (kcd : dch Δ ≤ K + 9) (hM : mch t ≤ La + 9) (hM16 : mch t ≤ 17) (hLa : 5 ≤ La) {s : T6} (y01 : x0 ≤ s.1) (hw' : ∀ j, j < Γ.length → vw (onz t0 n1 s2 h Γ) j ≤ s.1) (gq : gqx F W hv K La s = true) (R : dpD true F W a5 hv fn s2 r0 r1 r2 r3 s.2.2.1 s.2.2.2.1 s.1 s.2.2.2.2.1 s.2.2.2.2.2 s.1 cd (mch t) ≤ Bd) (hS : tyF f t Γ Δ = .inr S) : nz t0 n1 s2 h (onz t0 n1 s2 h Γ) S ≤ Bd := by sorry
end PmZv3
def lnqn (L : LnT) (F W : FrT) (hv fn s2 r0 r1 r2 r3 Bd m K La : Nat) : Bool := (lng L 0).all (fun s => gqx F W hv K La s && Nat.ble (dpD true F W 5 hv fn s2 r0 r1 r2 r3 s.2.2.1 s.2.2.2.1 s.1 s.2.2.2.2.1 s.2.2.2.2.2 s.1 0 m) Bd)
theorem lnqn_get {L : LnT} {F W : FrT} {hv fn s2 r0 r1 r2 r3 Bd m K La : Nat} (h : lnqn L F W hv fn s2 r0 r1 r2 r3 Bd m K La = true) {s : T6} (hs : s ∈ lng L 0) : gqx F W hv K La s = true ∧ dpD true F W 5 hv fn s2 r0 r1 r2 r3 s.2.2.1 s.2.2.2.1 s.1 s.2.2.2.2.1 s.2.2.2.2.2 s.1 0 m ≤ Bd := by sorry
section PmZv4
variable {f : Nat} {t b b' B C : Ty} {Γ0 Δ1 : List Ty} {Δ : List (Nat × Ty × Nat)} {e : Bool} {LR LG : LnT}
theorem zone_jqn {VR VG : FrT} (fR : ∃ v ∈ frg VR (tch C), xt (Γ0.length + 1) C ≤ v.1 ∧ xa 0 (fun _ => 1 + 1) 3 1 (Γ0.length + 1) C ≤ v.2) (fG : ∃ v ∈ frg VG (tch C), xt (Γ0.length + 1) C ≤ v.1 ∧ xa 1 ngc 1 0 (Γ0.length + 1) C ≤ v.2) (lb : LBd Γ0 Δ1 b b' B C) (w : TWf f (cxs Δ1 Γ0 b).length (Δ.map (fun a => a.1)) t) (he : TE (cxs Δ1 Γ0 b) Δ) (cu : TNo f t) (eD : Δ = []) {K La : Nat} (hLK : La ≤ K) (K30 : K ≤ 30) (kB : tch B ≤ K) (kC : tch C ≤ K + 5) (kq1 : cch Γ0 ≤ K + 9) (kq2 : cch Δ1 ≤ K + 9) (kov : tch b ≤ tch (tAll B C) + K + 10) (hM : mch t ≤ La + 9) (hM16 : mch t ≤ 17) (hLa : 5 ≤ La) (zR : liz LR VR fr1 fg1 1 3 (kpz fr1 0 (max 1 (fx1.getD (cch Γ0) 0)) (tch b - tch (tAll B C))) (wbz fr1 1 (max 1 (fx1.getD (cch Γ0) 0)) (tch B)) (max 1 (fx1.getD (cch Γ0) 0)) (ojy (tch C) (tch b - tch (tAll B C)) (cch Γ0) (cch Δ1)) (tch C) (cch Δ1) 0 = true) (zG : liz LG VG frq fgq 0 1 (kpz frq 1 (max 1 (fxq.getD (cch Γ0) 0)) (tch b - tch (tAll B C))) (wbz frq 0 (max 1 (fxq.getD (cch Γ0) 0)) (tch B)) (max 1 (fxq.getD (cch Γ0) 0)) (ojy (tch C) (tch b - tch (tAll B C)) (cch Γ0) (cch Δ1)) (tch C) (cch Δ1) 0 = true) (tR : lnqn LR fr1 fg1 1 2 3 2 2 2 2 887 (mch t) K La = true) (tG : lnqn LG frq fgq 0 1 1 1 3 2 1 597 (mch t) K La = true) (m30 : mch t ≤ 30) (h47 : cch (cxs Δ1 Γ0 b) ≤ 47) (q38 : cch Δ1 ≤ 38) : NtV (cxs Δ1 Γ0 b) Δ f t 887 597 := by sorry
end PmZv4
section PmZv5
variable {f : Nat} {t : Ty} {Γ : List Ty} {Δ : List (Nat × Ty × Nat)}
theorem zone_0qn (w : TWf f Γ.length (Δ.map (fun a => a.1)) t) (he : TE Γ Δ) (cu : TNo f t) (eD : Δ = []) (hb0 : ∀ b ∈ Γ, IS2 (fun _ => False) b) {K La : Nat} (hLK : La ≤ K) (K30 : K ≤ 30) (hM : mch t ≤ La + 9) (hM16 : mch t ≤ 17) (hLa : 5 ≤ La) {sR sG : T6} (yR : max 1 (fx1.getD (cch Γ) 0) ≤ sR.1) (yG : max 1 (fxq.getD (cch Γ) 0) ≤ sG.1) (tR : lnqn [[sR]] fr1 fg1 1 2 3 2 2 2 2 887 (mch t) K La = true) (tG : lnqn [[sG]] frq fgq 0 1 1 1 3 2 1 597 (mch t) K La = true) (m30 : mch t ≤ 30) (c56 : cch Γ ≤ 56) : NtV Γ Δ f t 887 597 := by sorry
end PmZv5

end
section
-- from 99z99zzw
def eQn : List (List (List (Nat × T6 × T6))) := [[[], [], [], [], [], [], [], [(11, (22, 11, 76, 3, 1, 11), (17, 11, 57, 3, 1, 11))], [(11, (22, 11, 76, 3, 1, 11), (17, 11, 60, 3, 1, 11))], [(11, (22, 11, 82, 3, 1, 11), (17, 11, 66, 3, 1, 11))]],
  [[], [], [], [], [], [], [], [(12, (22, 12, 78, 3, 1, 12), (17, 12, 59, 3, 1, 12))], [(12, (22, 12, 78, 3, 1, 12), (17, 12, 62, 3, 1, 12))], [(12, (22, 12, 84, 3, 1, 12), (17, 12, 68, 3, 1, 12))]],
  [[], [], [], [], [], [], [], [(13, (23, 13, 106, 4, 1, 13), (18, 13, 79, 4, 1, 13))], [(13, (23, 13, 106, 4, 1, 13), (18, 13, 83, 4, 1, 13))], [(12, (23, 12, 85, 4, 1, 13), (18, 12, 68, 4, 1, 13)), (13, (18, 13, 94, 4, 0, 1), (15, 13, 79, 4, 0, 1))]],
  [[], [], [], [], [], [], [], [(12, (26, 12, 88, 4, 1, 14), (23, 12, 74, 4, 1, 14)), (14, (22, 14, 107, 4, 0, 2), (15, 14, 68, 4, 0, 2))], [(12, (26, 12, 88, 4, 1, 14), (23, 12, 77, 4, 1, 14)), (14, (22, 14, 107, 4, 0, 2), (15, 14, 72, 4, 0, 2))], [(12, (26, 12, 70, 4, 1, 14), (20, 12, 57, 4, 1, 14)), (14, (22, 14, 115, 4, 0, 2), (15, 14, 80, 4, 0, 2))]],
  [[], [], [], [], [], [], [], [(11, (34, 11, 112, 3, 1, 12), (25, 11, 81, 3, 1, 12)), (15, (27, 15, 127, 4, 0, 15), (15, 15, 68, 4, 0, 15))], [(11, (34, 11, 112, 3, 1, 12), (25, 11, 84, 3, 1, 12)), (15, (27, 15, 127, 4, 0, 15), (15, 15, 72, 4, 0, 15))], [(8, (32, 8, 44, 3, 1, 12), (25, 8, 37, 3, 1, 12)), (12, (27, 12, 72, 4, 0, 15), (18, 12, 53, 4, 0, 15)), (14, (22, 14, 115, 4, 0, 3), (15, 14, 80, 4, 0, 3))]],
  [[], [], [], [], [], [], [], [(12, (34, 12, 114, 3, 1, 10), (25, 12, 83, 3, 1, 10)), (16, (27, 16, 127, 4, 0, 16), (21, 16, 94, 4, 0, 16))], [(12, (34, 12, 114, 3, 1, 10), (25, 12, 86, 3, 1, 10)), (16, (27, 16, 127, 4, 0, 16), (21, 16, 98, 4, 0, 16))], []],
  [[], [], [], [], [], [], [], [(12, (34, 12, 114, 3, 1, 11), (26, 12, 86, 3, 1, 11)), (12, (31, 12, 72, 5, 0, 17), (22, 12, 49, 5, 0, 17)), (16, (26, 16, 123, 4, 0, 4), (20, 16, 90, 4, 0, 4))], [(12, (34, 12, 114, 3, 1, 11), (26, 12, 89, 3, 1, 11)), (9, (31, 9, 72, 4, 0, 14), (22, 9, 52, 4, 0, 14)), (15, (27, 15, 100, 5, 0, 17), (18, 15, 66, 5, 0, 17)), (16, (26, 16, 123, 4, 0, 2), (20, 16, 94, 4, 0, 2))], []],
  [[], [], [], [], [], [], [], [(12, (37, 12, 123, 3, 1, 12), (28, 12, 92, 3, 1, 12)), (10, (35, 10, 80, 4, 0, 15), (22, 10, 49, 4, 0, 15)), (12, (31, 12, 43, 5, 0, 17), (18, 12, 26, 5, 0, 17)), (16, (27, 16, 127, 4, 0, 4), (20, 16, 90, 4, 0, 4))], [], []],
  [[], [], [], [], [], [], [], [(12, (41, 12, 135, 3, 2, 12), (28, 12, 92, 3, 2, 12)), (6, (36, 6, 78, 2, 1, 5), (32, 6, 67, 2, 1, 5)), (11, (35, 11, 80, 4, 0, 16), (24, 11, 54, 4, 0, 16)), (12, (31, 12, 43, 5, 0, 17), (18, 12, 26, 5, 0, 17)), (15, (28, 15, 131, 4, 0, 4), (21, 15, 92, 4, 0, 4))], [], []]]
def bQn : List (List (List (Nat × Nat × Nat))) := [[[], [], [], [], [], [], [], [], [], []], [[], [], [], [], [], [], [], [], [], []], [[], [], [], [], [], [], [], [], [], []], [[], [], [], [], [], [], [], [], [], [(10, 5, 0)]], [[], [], [], [], [], [], [], [], [], [(11, 5, 0), (10, 6, 0), (15, 1, 0)]], [[], [], [], [], [], [], [], [], [], []], [[], [], [], [], [], [], [], [(13, 5, 0), (17, 1, 0)], [(13, 5, 0), (17, 1, 0)], []], [[], [], [], [], [], [], [], [(14, 5, 0), (10, 9, 0), (13, 6, 0), (1, 18, 0), (18, 1, 0), (17, 2, 0)], [], []], [[], [], [], [], [], [], [], [(11, 9, 0), (15, 5, 0), (14, 6, 0), (7, 13, 0), (6, 14, 0), (2, 18, 0), (10, 10, 0), (1, 19, 0), (13, 7, 0), (19, 1, 0), (18, 2, 0), (16, 1, 3), (16, 4, 0), (17, 3, 0)], [], []]]
def okQn (c m : Nat) : Bool := (gQ eQn c m).all (fun e => Nat.ble (max 5 (m - 9)) e.1 && (Nat.ble e.1 30 && (lnqn [[e.2.1]] fr1 fg1 1 2 3 2 2 2 2 887 m e.1 (max 5 (m - 9)) && lnqn [[e.2.2]] frq fgq 0 1 1 1 3 2 1 597 m e.1 (max 5 (m - 9)))))
theorem qn_20_15 : okQn 20 15 = true := by sorry
theorem qn_20_16 : okQn 20 16 = true := by sorry
theorem qn_20_17 : okQn 20 17 = true := by sorry
theorem qn_21_15 : okQn 21 15 = true := by sorry
theorem qn_21_16 : okQn 21 16 = true := by sorry
theorem qn_21_17 : okQn 21 17 = true := by sorry
theorem qn_22_15 : okQn 22 15 = true := by sorry
theorem qn_22_16 : okQn 22 16 = true := by sorry
theorem qn_22_17 : okQn 22 17 = true := by sorry
theorem qn_23_15 : okQn 23 15 = true := by sorry
theorem qn_23_16 : okQn 23 16 = true := by sorry
theorem qn_23_17 : okQn 23 17 = true := by sorry
theorem qn_24_15 : okQn 24 15 = true := by sorry
theorem qn_24_16 : okQn 24 16 = true := by sorry
theorem qn_24_17 : okQn 24 17 = true := by sorry
theorem qn_25_15 : okQn 25 15 = true := by sorry
theorem qn_25_16 : okQn 25 16 = true := by sorry
theorem qn_25_17 : okQn 25 17 = true := by sorry
theorem qn_26_15 : okQn 26 15 = true := by sorry
theorem qn_26_16 : okQn 26 16 = true := by sorry
theorem qn_26_17 : okQn 26 17 = true := by sorry
theorem qn_27_15 : okQn 27 15 = true := by sorry
theorem qn_27_16 : okQn 27 16 = true := by sorry
theorem qn_27_17 : okQn 27 17 = true := by sorry
theorem qn_28_15 : okQn 28 15 = true := by sorry
theorem qn_28_16 : okQn 28 16 = true := by sorry
theorem qn_28_17 : okQn 28 17 = true := by sorry
theorem cvn9_20 : cvx9 eQn bQn 20 15 17 = true := by sorry
theorem cvn9_21 : cvx9 eQn bQn 21 15 17 = true := by sorry
theorem cvn9_22 : cvx9 eQn bQn 22 15 17 = true := by sorry
theorem cvn9_23 : cvx9 eQn bQn 23 15 17 = true := by sorry
theorem cvn9_24 : cvx9 eQn bQn 24 15 17 = true := by sorry
theorem cvn9_25 : cvx9 eQn bQn 25 15 16 = true := by sorry
theorem cvn9_26 : cvx9 eQn bQn 26 15 16 = true := by sorry
theorem cvn9_27 : cvx9 eQn bQn 27 15 15 = true := by sorry
theorem cvn9_28 : cvx9 eQn bQn 28 15 15 = true := by sorry
theorem qn_get {c m : Nat} (c0 : 20 ≤ c) (c1 : c ≤ 28) (m0 : 15 ≤ m) (m1 : m ≤ 17) : okQn c m = true := by sorry
theorem cvxn_all {c : Nat} (c0 : 20 ≤ c) (c1 : c ≤ 28) : ∃ m1, cvx9 eQn bQn c 15 m1 = true ∧ (17 ≤ m1 ∨ 57 ≤ c + 2 * m1) := by sorry
section PmZw1
variable {f : Nat} {t b b' B C : Ty} {Γ0 Δ1 : List Ty} {Δ : List (Nat × Ty × Nat)}
theorem nat_Qn (lb : LBd Γ0 Δ1 b b' B C) (ho : tch b - tch (tAll B C) = 0 ∨ 3 ≤ tch b - tch (tAll B C)) (w : TWf f (cxs Δ1 Γ0 b).length (Δ.map (fun a => a.1)) t) (he : TE (cxs Δ1 Γ0 b) Δ) (tn : TNo f t) (eD : Δ = []) (m0 : 15 ≤ mch t) (m17 : mch t ≤ 17) (h20 : 20 ≤ cch (cxs Δ1 Γ0 b)) (hb : cch (cxs Δ1 Γ0 b) + dch Δ + 2 * mch t ≤ 58) : NtV (cxs Δ1 Γ0 b) Δ f t 887 597 ∨ inB (gB bQn (cch (cxs Δ1 Γ0 b)) (mch t)) (tch B) (tch C) (tch b - tch (tAll B C)) (cch Γ0) (cch Δ1) = true := by sorry
end PmZw1
theorem z0n_15 : (lnqn [[(50, 6, 106, 2, 0, 0)]] fr1 fg1 1 2 3 2 2 2 2 887 15 6 6 && lnqn [[(36, 6, 75, 2, 0, 0)]] frq fgq 0 1 1 1 3 2 1 597 15 6 6) = true ∧ ∀ c, c < 29 → max 1 (fx1.getD c 0) ≤ 50 ∧ max 1 (fxq.getD c 0) ≤ 36 := by sorry
theorem z0n_16 : (lnqn [[(34, 7, 74, 2, 0, 0)]] fr1 fg1 1 2 3 2 2 2 2 887 16 7 7 && lnqn [[(30, 7, 66, 2, 0, 0)]] frq fgq 0 1 1 1 3 2 1 597 16 7 7) = true ∧ ∀ c, c < 27 → max 1 (fx1.getD c 0) ≤ 34 ∧ max 1 (fxq.getD c 0) ≤ 30 := by sorry
theorem z0n_17 : (lnqn [[(34, 8, 80, 2, 0, 0)]] fr1 fg1 1 2 3 2 2 2 2 887 17 8 8 && lnqn [[(27, 8, 66, 2, 0, 0)]] frq fgq 0 1 1 1 3 2 1 597 17 8 8) = true ∧ ∀ c, c < 25 → max 1 (fx1.getD c 0) ≤ 34 ∧ max 1 (fxq.getD c 0) ≤ 27 := by sorry
section PmZw2
variable {f : Nat} {t : Ty} {Γ : List Ty} {Δ : List (Nat × Ty × Nat)}
theorem nat_0qn (w : TWf f Γ.length (Δ.map (fun a => a.1)) t) (he : TE Γ Δ) (cu : TNo f t) (eD : Δ = []) (hb0 : ∀ b ∈ Γ, IS2 (fun _ => False) b) (m0 : 15 ≤ mch t) (m17 : mch t ≤ 17) (hb : cch Γ + 2 * mch t ≤ 58) : NtV Γ Δ f t 887 597 := by sorry
end PmZw2
def RESTAL9 : Prop := ∀ (f : Nat) (x y : Ty) (Γ : List Ty) (Δ : List (Nat × Ty × Nat)) (t : Ty), H9 f x y Γ Δ → Sh9 x y t → ¬ CHo f t [] → ((Δ = [] ∧ (mch t ≤ 14 ∨ 18 ≤ mch t ∨ ∃ (b b' B C : Ty), Γ = [b] ∧ LBd [] [] b b' B C ∧ ¬ IS2 (fun _ => False) b ∧ sN B 0 1 C = true ∧ inB (gB bQn (cch Γ) (mch t)) (tch B) (tch C) (tch b - tch (tAll B C)) 0 0 = true)) ∨ ∃ (b b' B C : Ty), Γ = [b] ∧ LBd [] [] b b' B C ∧ ¬ IS2 (fun _ => False) b ∧ sN B 0 1 C = true ∧ ((Δ.length = 1 ∧ (tch B = 1 ∨ 12 ≤ mch t ∨ (tch B = 2 ∧ mch t = 11)) ∧ inB (gB bQo (cch Γ) (mch t)) (tch B) (tch C) (tch b - tch (tAll B C)) 0 0 = true) ∨ (2 ≤ Δ.length ∧ (tch B = 1 ∨ (tch B = 2 ∧ 9 ≤ mch t) ∨ 10 ≤ mch t) ∧ inB (gB bQm (cch Γ) (mch t)) (tch B) (tch C) (tch b - tch (tAll B C)) 0 0 = true))) → PRn f x y Γ Δ
theorem restAK9_of (R : RESTAL9) : RESTAK9 := by sorry
theorem pairn_ql (R : RESTAL9) : PAIRn := by sorry
end
section
-- from 99z99zzx
section PmZx1
variable {f : Nat} {t : Ty} {Γ : List Ty} {S : Ty}
theorem op_nine (hc : okc Γ) {g : Nat} {u R : Ty} (w : TWf (g + 1) Γ.length [] u) (tn : TNo (g + 1) u) (k : nKd u = 7 ∨ nKd u = 9 ∨ nKd u = 11) (nc : ¬ CFt g (nX u)) (m9 : mch (nX u) ≤ 9) (hR : tyF (g + 1) u Γ [] = .inr R) : False := by sorry
theorem cl_thirteen (hc : okc Γ) (w : TWf f Γ.length [] t) (tn : TNo f t) (hS : tyF f t Γ [] = .inr S) (m13 : mch t ≤ 13) : CHo f t [] := by sorry
end PmZx1
def RESTAM9 : Prop := ∀ (f : Nat) (x y : Ty) (Γ : List Ty) (Δ : List (Nat × Ty × Nat)) (t : Ty), H9 f x y Γ Δ → Sh9 x y t → ¬ CHo f t [] → ((Δ = [] ∧ (mch t = 14 ∨ 18 ≤ mch t ∨ ∃ (b b' B C : Ty), Γ = [b] ∧ LBd [] [] b b' B C ∧ ¬ IS2 (fun _ => False) b ∧ sN B 0 1 C = true ∧ inB (gB bQn (cch Γ) (mch t)) (tch B) (tch C) (tch b - tch (tAll B C)) 0 0 = true)) ∨ ∃ (b b' B C : Ty), Γ = [b] ∧ LBd [] [] b b' B C ∧ ¬ IS2 (fun _ => False) b ∧ sN B 0 1 C = true ∧ ((Δ.length = 1 ∧ (tch B = 1 ∨ 12 ≤ mch t ∨ (tch B = 2 ∧ mch t = 11)) ∧ inB (gB bQo (cch Γ) (mch t)) (tch B) (tch C) (tch b - tch (tAll B C)) 0 0 = true) ∨ (2 ≤ Δ.length ∧ (tch B = 1 ∨ (tch B = 2 ∧ 9 ≤ mch t) ∨ 10 ≤ mch t) ∧ inB (gB bQm (cch Γ) (mch t)) (tch B) (tch C) (tch b - tch (tAll B C)) 0 0 = true))) → PRn f x y Γ Δ
theorem restAL9_of (R : RESTAM9) : RESTAL9 := by sorry
theorem pairn_qm (R : RESTAM9) : PAIRn := by sorry
end
section
-- from 99z99zzy
section PmZy1
variable {f : Nat} {t : Ty} {Γ : List Ty} {S : Ty}
theorem op_ten (he : TE Γ []) (hv : noac Γ) {g : Nat} {u R : Ty} (w : TWf (g + 2) Γ.length [] u) (tn : TNo (g + 2) u) (k : nKd u = 9 ∨ nKd u = 11) (k12 : nKd (nX u) = 12) (m10 : mch (nX u) ≤ 10) (hR : tyF (g + 2) u Γ [] = .inr R) : False := by sorry
theorem cl_fourteen (he : TE Γ []) (hv : noac Γ) (w : TWf f Γ.length [] t) (tn : TNo f t) (hS : tyF f t Γ [] = .inr S) (m14 : mch t ≤ 14) : CHo f t [] := by sorry
end PmZy1
def RESTAN9 : Prop := ∀ (f : Nat) (x y : Ty) (Γ : List Ty) (Δ : List (Nat × Ty × Nat)) (t : Ty), H9 f x y Γ Δ → Sh9 x y t → ¬ CHo f t [] → ((Δ = [] ∧ (18 ≤ mch t ∨ ∃ (b b' B C : Ty), Γ = [b] ∧ LBd [] [] b b' B C ∧ ¬ IS2 (fun _ => False) b ∧ sN B 0 1 C = true ∧ inB (gB bQn (cch Γ) (mch t)) (tch B) (tch C) (tch b - tch (tAll B C)) 0 0 = true)) ∨ ∃ (b b' B C : Ty), Γ = [b] ∧ LBd [] [] b b' B C ∧ ¬ IS2 (fun _ => False) b ∧ sN B 0 1 C = true ∧ ((Δ.length = 1 ∧ (tch B = 1 ∨ 12 ≤ mch t ∨ (tch B = 2 ∧ mch t = 11)) ∧ inB (gB bQo (cch Γ) (mch t)) (tch B) (tch C) (tch b - tch (tAll B C)) 0 0 = true) ∨ (2 ≤ Δ.length ∧ (tch B = 1 ∨ (tch B = 2 ∧ 9 ≤ mch t) ∨ 10 ≤ mch t) ∧ inB (gB bQm (cch Γ) (mch t)) (tch B) (tch C) (tch b - tch (tAll B C)) 0 0 = true))) → PRn f x y Γ Δ
theorem restAM9_of (R : RESTAN9) : RESTAM9 := by sorry
theorem pairn_qn (R : RESTAN9) : PAIRn := by sorry
end
section
-- from 99z99zzz
section PmZz1
variable {f : Nat} {t : Ty} {Γ : List Ty} {S : Ty}
theorem op_thirteen (he : TE Γ []) (hv : noac Γ) {g : Nat} {u R : Ty} (w : TWf (g + 2) Γ.length [] u) (tn : TNo (g + 2) u) (k : nKd u = 9 ∨ nKd u = 11) (k12 : nKd (nX u) = 12) (m10 : mch (nX u) ≤ 13) (hR : tyF (g + 2) u Γ [] = .inr R) : False := by sorry
theorem cl_fifteen (he : TE Γ []) (hv : noac Γ) (hL : ∀ (g : Nat) (a0 : Nat × Ty × Nat) (u R : Ty), TE Γ [a0] → TWf g Γ.length [a0.1] u → TNo g u → ¬ CHo g u [] → tch a0.2.1 + mch u ≤ 11 → tyF g u Γ [a0] ≠ .inr R) (w : TWf f Γ.length [] t) (tn : TNo f t) (hS : tyF f t Γ [] = .inr S) (m14 : mch t ≤ 15) : CHo f t [] := by sorry
end PmZz1
def RESTAO9 : Prop := ∀ (f : Nat) (x y : Ty) (Γ : List Ty) (Δ : List (Nat × Ty × Nat)) (t : Ty), H9 f x y Γ Δ → Sh9 x y t → ¬ CHo f t [] → ((Δ = [] ∧ (18 ≤ mch t ∨ ∃ (b b' B C : Ty), Γ = [b] ∧ LBd [] [] b b' B C ∧ ¬ IS2 (fun _ => False) b ∧ sN B 0 1 C = true ∧ (tch B = 1 ∨ 16 ≤ mch t) ∧ inB (gB bQn (cch Γ) (mch t)) (tch B) (tch C) (tch b - tch (tAll B C)) 0 0 = true)) ∨ ∃ (b b' B C : Ty), Γ = [b] ∧ LBd [] [] b b' B C ∧ ¬ IS2 (fun _ => False) b ∧ sN B 0 1 C = true ∧ ((Δ.length = 1 ∧ (tch B = 1 ∨ 12 ≤ mch t ∨ (tch B = 2 ∧ mch t = 11)) ∧ inB (gB bQo (cch Γ) (mch t)) (tch B) (tch C) (tch b - tch (tAll B C)) 0 0 = true) ∨ (2 ≤ Δ.length ∧ (tch B = 1 ∨ (tch B = 2 ∧ 9 ≤ mch t) ∨ 10 ≤ mch t) ∧ inB (gB bQm (cch Γ) (mch t)) (tch B) (tch C) (tch b - tch (tAll B C)) 0 0 = true))) → PRn f x y Γ Δ
theorem restAN9_of (R : RESTAO9) : RESTAN9 := by sorry
theorem pairn_qo (R : RESTAO9) : PAIRn := by sorry
end
section
-- from 99z99zzza
def UFx (F G : Ty) : Prop := hd G = 1 → hd F = 1
theorem UFx_refl {F : Ty} : UFx F F := by sorry
theorem UFx_top {F : Ty} : UFx F tTop := by sorry
section PmZza1
variable {Γ : List Ty}
theorem bel_ufx (hv : noac Γ) {S T : Ty} (tk : tok (Γ, S, T)) (h : bel Γ S T = true) : UFx (expo Γ Γ.length S) (expo Γ Γ.length T) := by sorry
theorem ju_ufx (hv : noac Γ) : ∀ (f : Nat) (S T R : Ty), tok (Γ, S, T) → cu f 0 Γ S T = some R → UFx (expo Γ Γ.length S) (expo Γ Γ.length R) ∧ UFx (expo Γ Γ.length T) (expo Γ Γ.length R) := by sorry
end PmZza1
section PmZza2
variable {f : Nat} {v R : Ty} {Γ : List Ty} {a0 : Nat × Ty × Nat}
theorem ty_five1 (he : TE Γ [a0]) (hv : noac Γ) (w : TWf f Γ.length [a0.1] v) (tn : TNo f v) (nc : ¬ CFt f v) (m5 : mch v ≤ 5) (h : tyF f v Γ [a0] = .inr R) : hd (expo Γ Γ.length R) ≠ 1 := by sorry
end PmZza2

end
section
-- from 99z99zzzb
section PmZzb1
variable {f : Nat} {t v u R T : Ty} {Γ : List Ty} {Δ : List (Nat × Ty × Nat)} {a0 : Nat × Ty × Nat} {S : Ty}
theorem no_three (he : TE Γ [a0]) (hT : hd (expo Γ Γ.length (lft a0.2.2 (Γ.length - a0.2.2) a0.2.1)) < 8) (hQ : ∀ p q Q : Ty, expo Γ Γ.length (lft a0.2.2 (Γ.length - a0.2.2) a0.2.1) = tAll p q → ok Γ.length Q = true → bel Γ Q p = true → 4 ≤ tch Q) (w : TWf f Γ.length [a0.1] v) (m3 : mch v = 3) (h : tyF f v Γ [a0] = .inr T) : False := by sorry
theorem ty_six (he : TE Γ [a0]) (hv : noac Γ) (hT : hd (expo Γ Γ.length (lft a0.2.2 (Γ.length - a0.2.2) a0.2.1)) < 8) (hQ : ∀ p q Q : Ty, expo Γ Γ.length (lft a0.2.2 (Γ.length - a0.2.2) a0.2.1) = tAll p q → ok Γ.length Q = true → bel Γ Q p = true → 4 ≤ tch Q) (w : TWf f Γ.length [a0.1] v) (tn : TNo f v) (nc : ¬ CFt f v) (m5 : mch v ≤ 6) (h : tyF f v Γ [a0] = .inr R) : hd (expo Γ Γ.length R) ≠ 2 ∧ ∀ m x y z, m < 8 → expo Γ Γ.length R = tRec m x y z → m = 0 := by sorry
theorem ins_ten (he : TE Γ [a0]) (hv : noac Γ) (hT : hd (expo Γ Γ.length (lft a0.2.2 (Γ.length - a0.2.2) a0.2.1)) < 8) (hQ : ∀ p q Q : Ty, expo Γ Γ.length (lft a0.2.2 (Γ.length - a0.2.2) a0.2.1) = tAll p q → ok Γ.length Q = true → bel Γ Q p = true → 4 ≤ tch Q) {g : Nat} (w : TWf (g + 1) Γ.length [a0.1] u) (tn : TNo (g + 1) u) (k9 : nKd u = 9) (k12 : nKd (nX u) = 12) (m10 : mch u ≤ 10) (h : tyF (g + 1) u Γ [a0] = .inr R) : False := by sorry
theorem vac_twelve (he : TE Γ [a0]) (hv : noac Γ) (hT : hd (expo Γ Γ.length (lft a0.2.2 (Γ.length - a0.2.2) a0.2.1)) < 8) (hQ : ∀ p q Q : Ty, expo Γ Γ.length (lft a0.2.2 (Γ.length - a0.2.2) a0.2.1) = tAll p q → ok Γ.length Q = true → bel Γ Q p = true → 4 ≤ tch Q) (w : TWf f Γ.length [a0.1] t) (tn : TNo f t) (nc : ¬ CHo f t []) (m12 : mch t ≤ 12) : tyF f t Γ [a0] ≠ .inr S := by sorry
end PmZzb1

end
section
-- from 99z99zzzc
def RESTAP9 : Prop := ∀ (f : Nat) (x y : Ty) (Γ : List Ty) (Δ : List (Nat × Ty × Nat)) (t : Ty), H9 f x y Γ Δ → Sh9 x y t → ¬ CHo f t [] → ((Δ = [] ∧ (18 ≤ mch t ∨ ∃ (b b' B C : Ty), Γ = [b] ∧ LBd [] [] b b' B C ∧ ¬ IS2 (fun _ => False) b ∧ sN B 0 1 C = true ∧ (tch B = 1 ∨ 16 ≤ mch t) ∧ inB (gB bQn (cch Γ) (mch t)) (tch B) (tch C) (tch b - tch (tAll B C)) 0 0 = true)) ∨ ∃ (b b' B C : Ty), Γ = [b] ∧ LBd [] [] b b' B C ∧ ¬ IS2 (fun _ => False) b ∧ sN B 0 1 C = true ∧ ((Δ.length = 1 ∧ (tch B = 1 ∨ 13 ≤ mch t ∨ (tch B = 2 ∧ 11 ≤ mch t)) ∧ inB (gB bQo (cch Γ) (mch t)) (tch B) (tch C) (tch b - tch (tAll B C)) 0 0 = true) ∨ (2 ≤ Δ.length ∧ (tch B = 1 ∨ (tch B = 2 ∧ 9 ≤ mch t) ∨ 10 ≤ mch t) ∧ inB (gB bQm (cch Γ) (mch t)) (tch B) (tch C) (tch b - tch (tAll B C)) 0 0 = true))) → PRn f x y Γ Δ
theorem restAO9_of (R : RESTAP9) : RESTAO9 := by sorry
theorem pairn_qp (R : RESTAP9) : PAIRn := by sorry
end
section
-- from 99z99zzzd
def RESTAQ9 : Prop := ∀ (f : Nat) (x y : Ty) (Γ : List Ty) (Δ : List (Nat × Ty × Nat)) (t : Ty), H9 f x y Γ Δ → Sh9 x y t → ¬ CHo f t [] → ((Δ = [] ∧ (18 ≤ mch t ∨ ∃ (b b' B C : Ty), Γ = [b] ∧ LBd [] [] b b' B C ∧ ¬ IS2 (fun _ => False) b ∧ sN B 0 1 C = true ∧ tch B = 1 ∧ inB (gB bQn (cch Γ) (mch t)) (tch B) (tch C) (tch b - tch (tAll B C)) 0 0 = true)) ∨ ∃ (b b' B C : Ty), Γ = [b] ∧ LBd [] [] b b' B C ∧ ¬ IS2 (fun _ => False) b ∧ sN B 0 1 C = true ∧ ((Δ.length = 1 ∧ (tch B = 1 ∨ (tch B = 2 ∧ mch t = 12)) ∧ inB (gB bQo (cch Γ) (mch t)) (tch B) (tch C) (tch b - tch (tAll B C)) 0 0 = true) ∨ (2 ≤ Δ.length ∧ (tch B = 1 ∨ (tch B = 2 ∧ mch t = 10)) ∧ inB (gB bQm (cch Γ) (mch t)) (tch B) (tch C) (tch b - tch (tAll B C)) 0 0 = true))) → PRn f x y Γ Δ
theorem inB_fl {L : List (List (List (Nat × Nat × Nat)))} {P : Nat → Nat → Bool} (hL : ∀ c, c < 48 → ∀ m, m < 26 → (gB L c m).all (fun e => Nat.blt e.2.1 (e.1 + 5) || P e.1 m) = true) {c m be k ov : Nat} (c48 : c < 48) (m26 : m < 26) (hk : be + 5 ≤ k) (h : inB (gB L c m) be k ov 0 0 = true) : P be m = true := by sorry
theorem restAP9_of (R : RESTAQ9) : RESTAP9 := by sorry
theorem pairn_qq (R : RESTAQ9) : PAIRn := by sorry
end
