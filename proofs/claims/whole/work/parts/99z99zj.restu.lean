/-! RESTU9: contexts without ndk, terms that are not CFt. -/
def hasU9 (be k q1 q2 s cd : Nat) : Bool := oU9.any (fun a => Nat.beq be a.1.1 && (Nat.beq k a.1.2.1 && (Nat.beq q1 a.1.2.2.1 && (Nat.beq q2 a.1.2.2.2.1 && (Nat.beq s a.1.2.2.2.2.1 && Nat.ble cd a.1.2.2.2.2.2)))))
theorem hasU9_get {be k q1 q2 s cd : Nat} (h : hasU9 be k q1 q2 s cd = true) : ∃ cd' l1 l2, cd ≤ cd' ∧ okU9 ((be, k, q1, q2, s, cd'), l1, l2) = true ∧ cd' ≤ 20 := by
  obtain ⟨a, ha, q⟩ := List.any_eq_true.mp h
  have z := List.all_eq_true.mp oU9_ok a ha
  have b : oU9.all (fun a => Nat.ble a.1.2.2.2.2.2 20) = true := by decide +kernel
  have b := Nat.le_of_ble_eq_true (List.all_eq_true.mp b a ha)
  rw [Bool.and_eq_true, Bool.and_eq_true, Bool.and_eq_true, Bool.and_eq_true, Bool.and_eq_true] at q
  obtain ⟨q1, q2, q3, q4, q5, q6⟩ := q
  have e1 := Nat.eq_of_beq_eq_true q1
  have e2 := Nat.eq_of_beq_eq_true q2
  have e3 := Nat.eq_of_beq_eq_true q3
  have e4 := Nat.eq_of_beq_eq_true q4
  have e5 := Nat.eq_of_beq_eq_true q5
  have e6 := Nat.le_of_ble_eq_true q6
  subst e1; subst e2; subst e3; subst e4; subst e5
  exact ⟨_, a.2.1, a.2.2, e6, z, b⟩
section PmZj9
variable {f : Nat} {t B C : Ty} {Γ0 Δ1 : List Ty} {Δ : List (Nat × Ty × Nat)}
theorem nat_u9 {cd : Nat} (lb : LBd Γ0 Δ1 (tAll B C) tTop B C) (w : TWf f (cxs Δ1 Γ0 (tAll B C)).length (Δ.map (fun a => a.1)) t) (he : TE (cxs Δ1 Γ0 (tAll B C)) Δ) (nD : Δ ≠ []) (hΔ1 : Δ.length ≤ 1) (tn : TNo f t) (nc : ¬ CFt f t) (m11 : mch t ≤ 11) (ch : CHo f t []) (hz : hasU9 (tch B) (tch C) (cch Γ0) (cch Δ1) (mch t) cd = true) (h47 : cch (cxs Δ1 Γ0 (tAll B C)) ≤ 47) (q38 : cch Δ1 ≤ 38) (hd : dch Δ ≤ cd) : NtV (cxs Δ1 Γ0 (tAll B C)) Δ f t 887 597 := by
  have ez : tch (tAll B C) - tch (tAll B C) = 0 := Nat.sub_self _
  have oC : ok (Γ0.length + 1) C = true := (ok_all.mp lb.1.2.1).2
  have fR : ∃ v ∈ frg xr1 (tch C), xt (Γ0.length + 1) C ≤ v.1 ∧ xa 0 (fun _ => 1 + 1) 3 1 (Γ0.length + 1) C ≤ v.2 := xr_form (n1 := fun _ => 1 + 1) (hv := 1) xr1_ok (tbs1 true).2.2.2.1 (tbs1 true).2.2.2.2.1 _ C (Γ0.length + 1) (Nat.le_refl _) oC lb.2.2.2.1
  have fG : ∃ v ∈ frg xrq (tch C), xt (Γ0.length + 1) C ≤ v.1 ∧ xa 1 ngc 1 0 (Γ0.length + 1) C ≤ v.2 := xr_form (n1 := ngc) (hv := 0) xrq_ok tbsq.2.2.2.1 tbsq.2.2.2.2.1 _ C (Γ0.length + 1) (Nat.le_refl _) oC lb.2.2.2.1
  obtain ⟨cd', l1, l2, hcd, hz, h20⟩ := hasU9_get hz
  unfold okU9 at hz
  rw [Bool.and_eq_true, Bool.and_eq_true, Bool.and_eq_true] at hz
  obtain ⟨zR, zG, tR, tG⟩ := hz
  exact zone_ju (cd := cd') fR fG lb w he (Or.inr ⟨rfl, nD⟩) tn nc m11 hΔ1 ch (by rw [ez]; exact zR) (by rw [ez]; exact zG) tR tG (by omega) (by omega) h47 q38 (by omega)
/-- two names, c = 33 -/
theorem nat_z9 (hx : (tch B = 7 ∧ tch C = 9 ∧ cch Γ0 = 0 ∧ cch Δ1 = 9) ∨ (tch B = 2 ∧ tch C = 14 ∧ cch Γ0 = 0 ∧ cch Δ1 = 9)) (lb : LBd Γ0 Δ1 (tAll B C) tTop B C) (w : TWf f (cxs Δ1 Γ0 (tAll B C)).length (Δ.map (fun a => a.1)) t) (he : TE (cxs Δ1 Γ0 (tAll B C)) Δ) (nD : Δ ≠ []) (ch : CHo f t []) (hm : mch t = 6 ∨ mch t = 7) (hb : cch (cxs Δ1 Γ0 (tAll B C)) + dch Δ + 2 * mch t ≤ 58) : NtV (cxs Δ1 Γ0 (tAll B C)) Δ f t 887 597 := by
  have ec := cch_cx (Γ0 := Γ0) (β := tAll B C) Δ1
  have eσ := tch_all B C
  have ez : tch (tAll B C) - tch (tAll B C) = 0 := Nat.sub_self _
  have e33 : cch (cxs Δ1 Γ0 (tAll B C)) = 33 := by omega
  have hΔ : (false = true ∧ Δ = []) ∨ (false = false ∧ Δ ≠ []) := Or.inr ⟨rfl, nD⟩
  have z6 := oZ6_z
  have z7 := oZ7_z
  rw [Bool.and_eq_true, Bool.and_eq_true, Bool.and_eq_true] at z6 z7
  have key : ∀ {LR LG : LnT} {m : Nat}, zyR LR (tch B) (tch C) 0 (cch Γ0) (cch Δ1) = true → zyG LG (tch B) (tch C) 0 (cch Γ0) (cch Δ1) = true → lnf true false LR fr1 fg1 1 2 3 2 2 2 2 887 33 34 m (m + 1) = true → lnf true false LG frq fgq 0 1 1 1 3 2 1 597 33 34 m (m + 1) = true → mch t = m → NtV (cxs Δ1 Γ0 (tAll B C)) Δ f t 887 597 := by
    intro LR LG m zR zG tR tG em
    unfold zyR at zR
    unfold zyG at zG
    rw [show 8 + tch B + tch C + 0 + cch Γ0 + cch Δ1 = cch (cxs Δ1 Γ0 (tAll B C)) by omega] at zR zG
    exact zone_jy (un := true) (e := false) lb w he hΔ (Or.inl rfl) ch (by rw [ez]; exact zR) (by rw [ez]; exact zG) tR tG (by omega) (by omega) (by omega) (by omega) (by omega) (by omega) hb
  rcases hx with ⟨h1, h2, h3, h4⟩ | ⟨h1, h2, h3, h4⟩
  · rcases hm with hm | hm
    · exact key (m := 6) (by rw [h1, h2, h3, h4]; exact z6.1.1) (by rw [h1, h2, h3, h4]; exact z6.1.2) oZ6_ok.1 oZ6_ok.2 hm
    · exact key (m := 7) (by rw [h1, h2, h3, h4]; exact z7.1.1) (by rw [h1, h2, h3, h4]; exact z7.1.2) oZ7_ok.1 oZ7_ok.2 hm
  · rcases hm with hm | hm
    · exact key (m := 6) (by rw [h1, h2, h3, h4]; exact z6.2.1) (by rw [h1, h2, h3, h4]; exact z6.2.2) oZ6_ok.1 oZ6_ok.2 hm
    · exact key (m := 7) (by rw [h1, h2, h3, h4]; exact z7.2.1) (by rw [h1, h2, h3, h4]; exact z7.2.2) oZ7_ok.1 oZ7_ok.2 hm
end PmZj9
/-- what is left of terms that are not CFt: by the short one; by the long one (mt: the short one, mo: the long one) -/
def exG (be k q1 q2 m : Nat) : Bool := Nat.beq be 2 && (Nat.beq q1 0 && (Nat.beq q2 9 && ((Nat.beq k 18 && Nat.beq m 8) || (Nat.beq k 22 && Nat.beq m 6))))
def exH (be k q1 q2 mt mo : Nat) : Bool := Nat.beq q1 0 && ((Nat.beq be 2 && ((Nat.beq k 18 && Nat.beq q2 9 && ((Nat.beq mt 7 && Nat.beq mo 8) || ((Nat.beq mt 7 && Nat.beq mo 9) || (Nat.beq mt 8 && Nat.beq mo 8)))) || ((Nat.beq mt 7 && (Nat.beq mo 8 && ((Nat.beq k 18 && Nat.beq q2 10) || (Nat.beq k 19 && Nat.beq q2 9)))) || (Nat.beq k 22 && (Nat.beq q2 12 && (Nat.beq mt 3 && Nat.beq mo 6)))))) || (Nat.beq be 5 && (Nat.beq k 18 && (Nat.beq q2 13 && (Nat.beq mt 3 && Nat.beq mo 6)))))
def exI (be k q1 q2 mt mo : Nat) : Bool := Nat.beq be 4 && (Nat.beq k 9 && (Nat.beq q1 0 && (Nat.beq q2 26 && (Nat.beq mt 3 && Nat.beq mo 3))))
def ubx (be k q1 q2 mt mo : Nat) : Bool := Nat.ble mo 7 && (Nat.ble (58 - (8 + be + k + q1 + q2) - mt - mo) 9 && (List.range (mo + 1)).all (fun n => Nat.blt n 5 || hasU9 be k q1 q2 n (58 - (8 + be + k + q1 + q2) - mt - mo)))
def no3 (be k q1 q2 : Nat) : Bool := Nat.beq be 3 || (Nat.beq k 3 || (Nat.beq q1 7 || Nat.beq q2 7))
/-- case A -/
def caA (a : Nat × Nat × Nat × Nat) : Bool := Nat.blt (8 + a.1 + a.2.1 + a.2.2.1 + a.2.2.2) 37 || (Nat.blt a.1 2 || (no3 a.1 a.2.1 a.2.2.1 a.2.2.2 || (ndk a.2.2.1 a.2.2.2 || (List.range 16).all (fun m => Nat.blt m 6 || (Nat.blt 53 (8 + a.1 + a.2.1 + a.2.2.1 + a.2.2.2 + 2 * m) || ((Nat.ble m 11 && hasU9 a.1 a.2.1 a.2.2.1 a.2.2.2 m (58 - (8 + a.1 + a.2.1 + a.2.2.1 + a.2.2.2) - 2 * m)) || exG a.1 a.2.1 a.2.2.1 a.2.2.2 m))))))
/-- cases B and C -/
def caB (q : Bool) (a : Nat × Nat × Nat × Nat) : Bool := Nat.blt (8 + a.1 + a.2.1 + a.2.2.1 + a.2.2.2) 37 || (Nat.blt a.1 2 || (no3 a.1 a.2.1 a.2.2.1 a.2.2.2 || ((q && Nat.beq a.2.2.2 0) || (ndk a.2.2.1 a.2.2.2 || (List.range 30).all (fun mt => Nat.blt mt (if q then 3 else 6) || (Nat.blt 53 (8 + a.1 + a.2.1 + a.2.2.1 + a.2.2.2 + 2 * mt) || (List.range 60).all (fun mo => Nat.blt mo mt || (Nat.blt 53 (8 + a.1 + a.2.1 + a.2.2.1 + a.2.2.2 + mt + mo) || (((ubx a.1 a.2.1 a.2.2.1 a.2.2.2 mt mo || exH a.1 a.2.1 a.2.2.1 a.2.2.2 mt mo) && ((B7z a.1 a.2.1 a.2.2.1 a.2.2.2 && (Nat.ble mt 15 && Nat.ble mo 15)) || ((!q && (Nat.beq mt 6 && (has9 oP9 a.1 a.2.1 a.2.2.1 a.2.2.2 6 || has9 oQ9 a.1 a.2.1 a.2.2.1 a.2.2.2 6))) || exI a.1 a.2.1 a.2.2.1 a.2.2.2 mt mo))) || rx9 a.1 a.2.1 a.2.2.1 a.2.2.2 mt mo)))))))))
def caBr (q : Bool) (a b : Nat) : Bool := (List.range b).all (fun c => Nat.blt c a || ((if q then eL0 else eL1).getD c []).all (caB q))
theorem caA_1 : eL1.all (fun l => l.all caA) = true := by decide +kernel
theorem caB_t43 : caBr true 0 43 = true := by decide +kernel
theorem caB_t45 : caBr true 43 45 = true := by decide +kernel
theorem caB_t46 : caBr true 45 46 = true := by decide +kernel
theorem caB_t47 : caBr true 46 47 = true := by decide +kernel
theorem caB_t48 : caBr true 47 48 = true := by decide +kernel
theorem caB_f38 : caBr false 0 38 = true := by decide +kernel
theorem caB_f39 : caBr false 38 39 = true := by decide +kernel
theorem caB_f40 : caBr false 39 40 = true := by decide +kernel
theorem caB_f48 : caBr false 40 48 = true := by decide +kernel
theorem sm_1 : eL1.all (fun l => l.all (fun a => Nat.blt a.1 2 || (ndk a.2.2.1 a.2.2.2 || (Nat.ble 37 (8 + a.1 + a.2.1 + a.2.2.1 + a.2.2.2) || (Nat.beq (8 + a.1 + a.2.1 + a.2.2.1 + a.2.2.2) 33 && ((Nat.beq a.1 7 && (Nat.beq a.2.1 9 && (Nat.beq a.2.2.1 0 && Nat.beq a.2.2.2 9))) || (Nat.beq a.1 2 && (Nat.beq a.2.1 14 && (Nat.beq a.2.2.1 0 && Nat.beq a.2.2.2 9))))))))) = true := by decide +kernel
theorem sm_0 : eL0.all (fun l => l.all (fun a => Nat.blt a.1 2 || (ndk a.2.2.1 a.2.2.2 || Nat.ble 37 (8 + a.1 + a.2.1 + a.2.2.1 + a.2.2.2)))) = true := by decide +kernel
theorem sm_r : (List.range 11).all (fun m => Nat.blt m 6 || (has9 oR9 7 9 0 9 m && has9 oR9 2 14 0 9 m)) = true := by decide +kernel
