section
-- from 99z99zx
def uV9 : List ((Nat × Nat × Nat × Nat × Nat) × List T6 × List T6) := [((2, 29, 0, 0, 7), [(45, 0, 33, 6, 0, 29)], [(21, 0, 19, 6, 0, 29)])]
def okV9s (e : Bool) (a : (Nat × Nat × Nat × Nat × Nat) × List T6 × List T6) : Bool :=
  liz [a.2.1] vv19 fr1 fg1 1 3 (kpz fr1 0 (max 1 (fx1.getD a.1.2.2.1 0)) 0) (wbz fr1 1 (max 1 (fx1.getD a.1.2.2.1 0)) a.1.1) (max 1 (fx1.getD a.1.2.2.1 0)) (ojy a.1.2.1 0 a.1.2.2.1 a.1.2.2.2.1) a.1.2.1 a.1.2.2.2.1 0 &&
  (liz [a.2.2] vvq9 frq fgq 0 1 (kpz frq 1 (max 1 (fxq.getD a.1.2.2.1 0)) 0) (wbz frq 0 (max 1 (fxq.getD a.1.2.2.1 0)) a.1.1) (max 1 (fxq.getD a.1.2.2.1 0)) (ojy a.1.2.1 0 a.1.2.2.1 a.1.2.2.2.1) a.1.2.1 a.1.2.2.2.1 0 &&
  (lno e [a.2.1] fr1 fg1 1 2 3 2 2 2 2 887 (58 - 2 * a.1.2.2.2.2 - (8 + a.1.1 + a.1.2.1 + a.1.2.2.1 + a.1.2.2.2.1)) a.1.2.2.2.2 && lno e [a.2.2] frq fgq 0 1 1 1 3 2 1 597 (58 - 2 * a.1.2.2.2.2 - (8 + a.1.1 + a.1.2.1 + a.1.2.2.1 + a.1.2.2.2.1)) a.1.2.2.2.2))
theorem uV9_ok : uV9.all (okV9s false) = true := by sorry
theorem hasV_get {L : List ((Nat × Nat × Nat × Nat × Nat) × List T6 × List T6)} {be k q1 q2 m : Nat} {e : Bool} (ok : L.all (okV9s e) = true) (h : has9 L be k q1 q2 m = true) : ∃ l1 l2, okV9s e ((be, k, q1, q2, m), l1, l2) = true := by sorry
theorem v9_pair {f : Nat} {x y t : Ty} {Γ : List Ty} {Δ : List (Nat × Ty × Nat)} {Δ1 : List Ty} {C : Ty} (H : H9 f x y Γ Δ) (sh : Sh9 x y t) (ch : CHo f t []) (eΓ : Γ = cxs Δ1 [] (tAll tR0 C)) (lb : LBd [] Δ1 (tAll tR0 C) tTop tR0 C) (h2 : hd C = 2) (nov : ¬ OVq 1 tR0 C Dsm []) (nD : Δ ≠ []) (h : has9 uV9 2 (tch C) 0 (cch Δ1) (mch (pee f t).2) = true) (d9 : dch Δ ≤ 9) (q38 : cch Δ1 ≤ 38) : PRn f x y Γ Δ := by sorry
def W9z9 (m : Nat) (e : Bool) (Γ : List Ty) : Prop := e = false ∧ (ExA Γ ∨ (∃ (Δ1 Γ0 : List Ty) (b b' B C : Ty), Γ = cxs Δ1 Γ0 b ∧ LBd Γ0 Δ1 b b' B C ∧ ¬ IS2 (fun _ => False) b ∧ hd b ≠ 2 ∧ 1 ≤ cch Γ0 + cch Δ1 ∧ exK m (tch B) (tch C) (tch b - tch (tAll B C)) (cch Γ0) (cch Δ1) = true))
def RESTAA9 : Prop := ∀ (f : Nat) (x y : Ty) (Γ : List Ty) (Δ : List (Nat × Ty × Nat)) (t : Ty), H9 f x y Γ Δ → Sh9 x y t → (¬ CHo f t [] ∨ (CHo f t [] ∧ (W9z9 (mch (pee f t).2) Δ.isEmpty Γ ∨ V9c f x y t (mch (pee f t).2) Δ.isEmpty Γ))) → PRn f x y Γ Δ
theorem restZ9_of (R : RESTAA9) : RESTZ9 := by sorry
theorem pairn_qa (R : RESTAA9) : PAIRn := by sorry
end
section
-- from 99z99zy
section PmZyA
variable {d : Nat} {P : Ty → Prop} {σ b x : Ty}
theorem is_top (o : ok d x = true) (h : IS2 P x) (ni : ¬ IS2 (fun _ => False) x) (hp : ∀ s, ok d s = true → P s → tch x ≤ tch s) : ∃ a c, x = tAll a c ∧ P x := by sorry
theorem rch_one : ∀ m, m < 8 → rch m ≤ 4 → m = 0 ∨ m = 1 ∨ m = 2 ∨ m = 4 := by sorry
theorem rec_one (o : ok d b = true) (h : IS2 (DSo d σ b) b) (ni : ¬ IS2 (fun _ => False) b) (h2 : hd b ≠ 2) (e3 : tch b = tch σ + 3) : ∃ m, b = tRec m σ .nil .nil ∧ m = 1 ∨ b = tRec m .nil σ .nil ∧ m = 2 ∨ b = tRec m .nil .nil σ ∧ m = 4 := by sorry
end PmZyA
theorem lb_rec3 {Γ0 Δ1 : List Ty} {b b' B C : Ty} (lb : LBd Γ0 Δ1 b b' B C) (o : ok Γ0.length b = true) (ni : ¬ IS2 (fun _ => False) b) (h2 : hd b ≠ 2) (e3 : tch b - tch (tAll B C) = 3) : ∃ b2, LBd Γ0 Δ1 b b2 B C ∧ ∀ h ω, nz 0 (fun _ => 1 + 1) (2 + 1) h ω b2 ≤ 2 := by sorry
section PmZy9
variable {f : Nat} {t b b' B C : Ty} {Γ0 Δ1 : List Ty} {Δ : List (Nat × Ty × Nat)} {e : Bool} {LR LG : LnT} {cd : Nat}
theorem zone_jk {VR VG : FrT} (fR : ∃ v ∈ frg VR (tch C), xt (Γ0.length + 1) C ≤ v.1 ∧ xa 0 (fun _ => 1 + 1) 3 1 (Γ0.length + 1) C ≤ v.2) (fG : ∃ v ∈ frg VG (tch C), xt (Γ0.length + 1) C ≤ v.1 ∧ xa 1 ngc 1 0 (Γ0.length + 1) C ≤ v.2) (lb : LBd Γ0 Δ1 b b' B C) {κr : Nat} (hkr : ∀ d, nz 0 (fun _ => 1 + 1) (2 + 1) (vlr d 1) (onz 0 (fun _ => 1 + 1) (2 + 1) (vlr d 1) Γ0) b' ≤ κr) (w : TWf f (cxs Δ1 Γ0 b).length (Δ.map (fun a => a.1)) t) (he : TE (cxs Δ1 Γ0 b) Δ) (hΔ : (e = true ∧ Δ = []) ∨ (e = false ∧ Δ ≠ [])) (cu : TNo f t) (hΔ1 : Δ.length ≤ 1) (ch : CHo f t []) (zR : liz LR VR fr1 fg1 1 3 κr (wbz fr1 1 (max 1 (fx1.getD (cch Γ0) 0)) (tch B)) (max 1 (fx1.getD (cch Γ0) 0)) (ojy (tch C) (tch b - tch (tAll B C)) (cch Γ0) (cch Δ1)) (tch C) (cch Δ1) 0 = true) (zG : liz LG VG frq fgq 0 1 (kpz frq 1 (max 1 (fxq.getD (cch Γ0) 0)) (tch b - tch (tAll B C))) (wbz frq 0 (max 1 (fxq.getD (cch Γ0) 0)) (tch B)) (max 1 (fxq.getD (cch Γ0) 0)) (ojy (tch C) (tch b - tch (tAll B C)) (cch Γ0) (cch Δ1)) (tch C) (cch Δ1) 0 = true) (tR : lno e LR fr1 fg1 1 2 3 2 2 2 2 887 cd (mch t) = true) (tG : lno e LG frq fgq 0 1 1 1 3 2 1 597 cd (mch t) = true) (m30 : mch t ≤ 30) (cd56 : cd ≤ 56) (h47 : cch (cxs Δ1 Γ0 b) ≤ 47) (q38 : cch Δ1 ≤ 38) (hb : dch Δ ≤ cd) : NtV (cxs Δ1 Γ0 b) Δ f t 887 597 := by sorry
end PmZy9
def kR9 : List T6 := [(83, 0, 34, 0, 2, 22), (85, 0, 33, 1, 2, 22), (87, 0, 26, 5, 2, 22), (87, 0, 32, 2, 2, 22), (89, 0, 25, 6, 2, 22), (89, 0, 29, 4, 2, 22), (89, 0, 31, 3, 2, 22), (91, 0, 24, 7, 2, 22), (93, 0, 23, 8, 2, 22), (95, 0, 22, 9, 2, 22)]
def kG9 : List T6 := [(47, 0, 9, 9, 2, 22), (47, 0, 10, 8, 2, 22), (47, 0, 11, 7, 2, 22), (53, 0, 15, 6, 2, 22), (53, 0, 16, 5, 2, 22), (55, 0, 18, 4, 2, 22), (61, 0, 22, 3, 2, 22), (67, 0, 26, 2, 2, 22), (67, 0, 27, 1, 2, 22), (67, 0, 28, 0, 2, 22)]
def okJ9 (m : Nat) : Bool :=
  liz [kR9] xr1 fr1 fg1 1 3 2 (wbz fr1 1 1 1) 1 (ojy 22 3 0 9) 22 9 0 &&
  (liz [kG9] xrq frq fgq 0 1 (kpz frq 1 1 3) (wbz frq 0 1 1) 1 (ojy 22 3 0 9) 22 9 0 &&
  (lno false [kR9] fr1 fg1 1 2 3 2 2 2 2 887 (58 - 2 * m - 43) m && lno false [kG9] frq fgq 0 1 1 1 3 2 1 597 (58 - 2 * m - 43) m))
theorem okJ9_ok : okJ9 3 = true ∧ okJ9 4 = true := by sorry
theorem nat_k9 {f : Nat} {t b b' B C : Ty} {Δ1 : List Ty} {Δ : List (Nat × Ty × Nat)} (lb : LBd [] Δ1 b b' B C) (hk : ∀ h ω, nz 0 (fun _ => 1 + 1) (2 + 1) h ω b' ≤ 2) (w : TWf f (cxs Δ1 [] b).length (Δ.map (fun a => a.1)) t) (he : TE (cxs Δ1 [] b) Δ) (nD : Δ ≠ []) (tn : TNo f t) (ch : CHo f t []) (m34 : mch t = 3 ∨ mch t = 4) (eB : tch B = 1) (eC : tch C = 22) (eo : tch b - tch (tAll B C) = 3) (e2 : cch Δ1 = 9) (hb : cch (cxs Δ1 [] b) + dch Δ + 2 * mch t ≤ 58) : NtV (cxs Δ1 [] b) Δ f t 887 597 := by sorry
def W9aa (m : Nat) (e : Bool) (Γ : List Ty) : Prop := e = false ∧ (ExA Γ ∨ (∃ (Δ1 : List Ty) (b b' B C : Ty), Γ = cxs Δ1 [] b ∧ LBd [] Δ1 b b' B C ∧ (∀ h ω, nz 0 (fun _ => 1 + 1) (2 + 1) h ω b' ≤ 2) ∧ ¬ IS2 (fun _ => False) b ∧ hd b ≠ 2 ∧ m = 5 ∧ tch B = 1 ∧ tch C = 22 ∧ tch b - tch (tAll B C) = 3 ∧ cch Δ1 = 9))
def RESTAB9 : Prop := ∀ (f : Nat) (x y : Ty) (Γ : List Ty) (Δ : List (Nat × Ty × Nat)) (t : Ty), H9 f x y Γ Δ → Sh9 x y t → (¬ CHo f t [] ∨ (CHo f t [] ∧ (W9aa (mch (pee f t).2) Δ.isEmpty Γ ∨ V9c f x y t (mch (pee f t).2) Δ.isEmpty Γ))) → PRn f x y Γ Δ
theorem restAA9_of (R : RESTAB9) : RESTAA9 := by sorry
theorem pairn_qb (R : RESTAB9) : PAIRn := by sorry
end
section
-- from 99z99zz
def lno8 (L : LnT) (F W : FrT) (hv fn s2 r0 r1 r2 r3 Bd cd m : Nat) : Bool := (lng L 0).all (fun s => Nat.ble (dp8 true F W 0 hv fn s2 r0 r1 r2 r3 s.2.2.1 s.2.2.2.1 s.1 s.2.2.2.2.1 s.2.2.2.2.2 s.1 cd m) Bd)
theorem lno8_get {L : LnT} {F W : FrT} {hv fn s2 r0 r1 r2 r3 Bd cd m : Nat} (h : lno8 L F W hv fn s2 r0 r1 r2 r3 Bd cd m = true) {s : T6} (hs : s ∈ lng L 0) : dp8 true F W 0 hv fn s2 r0 r1 r2 r3 s.2.2.1 s.2.2.2.1 s.1 s.2.2.2.2.1 s.2.2.2.2.2 s.1 cd m ≤ Bd := by sorry
section PmZz9
variable {f : Nat} {t b b' B C : Ty} {Γ0 Δ1 : List Ty} {Δ : List (Nat × Ty × Nat)} {LR LG : LnT}
theorem zone_hk (hr : ∀ a ∈ cxs Δ1 Γ0 b, hd a ≠ 2) (lb : LBd Γ0 Δ1 b b' B C) {κr : Nat} (hkr : ∀ d, nz 0 (fun _ => 1 + 1) (2 + 1) (vlr d 1) (onz 0 (fun _ => 1 + 1) (2 + 1) (vlr d 1) Γ0) b' ≤ κr) (w : TWf f (cxs Δ1 Γ0 b).length (Δ.map (fun a => a.1)) t) (he : TE (cxs Δ1 Γ0 b) Δ) (cΔ : Δ ≠ []) (ch : CHo f t []) (zR : liz LR xr1 fr1 fg1 1 3 κr (wbz fr1 1 (max 1 (fx1.getD (cch Γ0) 0)) (tch B)) (max 1 (fx1.getD (cch Γ0) 0)) (ojz (tch C) (tch b - tch (tAll B C)) (cch Γ0) (cch Δ1)) (tch C) (cch Δ1) 0 = true) (zG : liz LG xrq frq fgq 0 1 (kpz frq 1 (max 1 (fxq.getD (cch Γ0) 0)) (tch b - tch (tAll B C))) (wbz frq 0 (max 1 (fxq.getD (cch Γ0) 0)) (tch B)) (max 1 (fxq.getD (cch Γ0) 0)) (ojz (tch C) (tch b - tch (tAll B C)) (cch Γ0) (cch Δ1)) (tch C) (cch Δ1) 0 = true) (tR : lno8 LR fr1 fg1 1 2 3 2 2 2 2 887 (58 - 2 * mch t - cch (cxs Δ1 Γ0 b)) (mch t) = true) (tG : lno8 LG frq fgq 0 1 1 1 3 2 1 597 (58 - 2 * mch t - cch (cxs Δ1 Γ0 b)) (mch t) = true) (h47 : cch (cxs Δ1 Γ0 b) ≤ 47) (q38 : cch Δ1 ≤ 38) (hb : cch (cxs Δ1 Γ0 b) + dch Δ + 2 * mch t ≤ 58) : NtV (cxs Δ1 Γ0 b) Δ f t 887 597 := by sorry
end PmZz9
def okJ8 : Bool :=
  liz [kR9] xr1 fr1 fg1 1 3 2 (wbz fr1 1 1 1) 1 (ojz 22 3 0 9) 22 9 0 &&
  (liz [kG9] xrq frq fgq 0 1 (kpz frq 1 1 3) (wbz frq 0 1 1) 1 (ojz 22 3 0 9) 22 9 0 &&
  (lno8 [kR9] fr1 fg1 1 2 3 2 2 2 2 887 5 5 && lno8 [kG9] frq fgq 0 1 1 1 3 2 1 597 5 5))
theorem okJ8_ok : okJ8 = true := by sorry
theorem nat_kk9 {f : Nat} {t b b' B C : Ty} {Δ1 : List Ty} {Δ : List (Nat × Ty × Nat)} (lb : LBd [] Δ1 b b' B C) (hk : ∀ h ω, nz 0 (fun _ => 1 + 1) (2 + 1) h ω b' ≤ 2) (h2 : hd b ≠ 2) (w : TWf f (cxs Δ1 [] b).length (Δ.map (fun a => a.1)) t) (he : TE (cxs Δ1 [] b) Δ) (nD : Δ ≠ []) (ch : CHo f t []) (m5 : mch t = 5) (eB : tch B = 1) (eC : tch C = 22) (eo : tch b - tch (tAll B C) = 3) (e2 : cch Δ1 = 9) (hb : cch (cxs Δ1 [] b) + dch Δ + 2 * mch t ≤ 58) : NtV (cxs Δ1 [] b) Δ f t 887 597 := by sorry
def RESTAC9 : Prop := ∀ (f : Nat) (x y : Ty) (Γ : List Ty) (Δ : List (Nat × Ty × Nat)) (t : Ty), H9 f x y Γ Δ → Sh9 x y t → (¬ CHo f t [] ∨ (CHo f t [] ∧ ((Δ ≠ [] ∧ ExA Γ) ∨ V9c f x y t (mch (pee f t).2) Δ.isEmpty Γ))) → PRn f x y Γ Δ
theorem restAB9_of (R : RESTAC9) : RESTAB9 := by sorry
theorem pairn_qc (R : RESTAC9) : PAIRn := by sorry
end
