section
-- from 99q03
def chk : Stk → Bool
  | [] => true
  | none :: ρ => chk ρ
  | some _ :: ρ => ρ.isEmpty
section PmQ3
variable {t0 s2 : Nat} {n1 h : Nat → Nat} {E : Stk → Nat}
theorem CV.extz (hn : NC t0 n1 s2 h) {ω : List Nat} {Γ : List Ty} {a : Ty} (hc : okc Γ) (oa : ok Γ.length a = true) (hv : CV t0 n1 s2 h ω Γ) (z : Nat) : CV t0 n1 s2 h (hzx h z (nz t0 n1 s2 h ω a) :: ω) (a :: Γ) := by sorry
theorem upart_vz {ω : List Nat} {ρ : Stk} {r : Ty → Ty → Ru} {m m' i : Nat} {x y a : Ty} (hm : m < 8) (hm' : m' < 8) (hi : i < 3) (hr : bit (lset 0 m m') i = true → bit m i = true → bit m' i = true → r x y = some a → vz t0 n1 s2 h E a ρ ω ≤ vz t0 n1 s2 h E x ρ ω + vz t0 n1 s2 h E y ρ ω) (e : upart r (lset 0 m m') m m' i x y = some a) : vz t0 n1 s2 h E a ρ ω ≤ vz t0 n1 s2 h E x ρ ω + vz t0 n1 s2 h E y ρ ω := by sorry
theorem cu_vz (hn : NC t0 n1 s2 h) : ∀ (f : Nat) (Γ : List Ty) (S T R : Ty) (π : Stk) (ω : List Nat), CV t0 n1 s2 h ω Γ → HEk t0 n1 s2 h E Γ ω → chk π = true → tok (Γ, S, T) → ok Γ.length R = true → cu f 0 Γ S T = some R → vz t0 n1 s2 h E R π ω ≤ vz t0 n1 s2 h E S π ω + vz t0 n1 s2 h E T π ω := by sorry
end PmQ3

end
section
-- from 99q04
def zm : Stk → Nat
  | [] => 0
  | none :: ρ => zm ρ
  | some z :: ρ => max z (zm ρ)
def hs : Stk → Bool
  | [] => false
  | none :: ρ => hs ρ
  | some _ :: _ => true
def Ek (E0 p : Nat) (π : Stk) : Nat := if hs π = true then E0 + p * zm π else E0
section PmQ4
variable {t0 s2 E0 p : Nat} {n1 h : Nat → Nat}
theorem zm_hs : ∀ π : Stk, hs π = false → zm π = 0 := by sorry
theorem Ek_is (π : Stk) : Ek E0 p π = E0 + p * zm π := by sorry
theorem Ek_tail (q : Option Nat) (ρ : Stk) : Ek E0 p ρ ≤ Ek E0 p (q :: ρ) := by sorry
theorem zm_tail (q : Option Nat) (ρ : Stk) : zm ρ ≤ zm (q :: ρ) := by sorry
theorem hzx_le (hm : ∀ y y', y ≤ y' → h y ≤ h y') {z z' : Nat} (hz : z ≤ z') : ∀ y y', y ≤ y' → hzx h z y ≤ hzx h z' y' := by sorry
theorem h_hzx (hm : ∀ y y', y ≤ y' → h y ≤ h y') (z : Nat) : ∀ y y', y ≤ y' → h y ≤ hzx h z y' := by sorry
theorem vz_up (hm : ∀ y y', y ≤ y' → h y ≤ h y') : ∀ (f : Nat) (t : Ty) (π : Stk) (ω : List Nat), (flat t).length ≤ f → ok ω.length t = true → vz t0 n1 s2 h (Ek E0 p) t π ω ≤ max (Ek E0 p π) (nz t0 n1 s2 (hzx h (zm π)) ω t) := by sorry
theorem nz_flv (hm : ∀ y y', y ≤ y' → h y ≤ h y') (hh : ∀ y δ, h (y + δ) ≤ h y + δ) {z : Nat} : ∀ (f : Nat) (t : Ty) (ω ω' : List Nat) (δ : Nat), (flat t).length ≤ f → ω'.length = ω.length → ok ω.length t = true → z ≤ δ → (∀ j, j < ω.length → vw ω' j ≤ vw ω j + δ) → nz t0 n1 s2 (hzx h z) ω' t ≤ nz t0 n1 s2 h ω t + flv t * δ := by sorry
theorem vz_bd (hm : ∀ y y', y ≤ y' → h y ≤ h y') (hh : ∀ y δ, h (y + δ) ≤ h y + δ) {t : Ty} {ω : List Nat} (o : ok ω.length t = true) (hv : nz t0 n1 s2 h ω t ≤ E0) (hp : flv t ≤ p) (ρ : Stk) : vz t0 n1 s2 h (Ek E0 p) t ρ ω ≤ Ek E0 p ρ := by sorry
theorem nsch_fun (a b : Ty) : nsch (tFun a b) = (nsch a && nsch b) := by sorry
theorem nsch_all (a b : Ty) : nsch (tAll a b) = false := by sorry
theorem nsch_rec {m : Nat} (x y z : Ty) : nsch (tRec m x y z) = (nsch x && (nsch y && nsch z)) := by sorry
theorem nz_nsch {z : Nat} : ∀ (f : Nat) (t : Ty) (ω : List Nat), (flat t).length ≤ f → ok ω.length t = true → nsch t = true → nz t0 n1 s2 (hzx h z) ω t = nz t0 n1 s2 h ω t := by sorry
theorem vz_bn (hm : ∀ y y', y ≤ y' → h y ≤ h y') {t : Ty} {ω : List Nat} (o : ok ω.length t = true) (hv : nz t0 n1 s2 h ω t ≤ E0) (hp : nsch t = true) (ρ : Stk) : vz t0 n1 s2 h (Ek E0 p) t ρ ω ≤ Ek E0 p ρ := by sorry
def BEk (t0 : Nat) (n1 : Nat → Nat) (s2 : Nat) (h : Nat → Nat) (E0 p : Nat) : List Ty → List Nat → Prop
  | [], [] => True
  | b :: Γ, _ :: ω => (nz t0 n1 s2 h ω b ≤ E0 ∧ (nsch b = true ∨ flv b ≤ p)) ∧ BEk t0 n1 s2 h E0 p Γ ω
  | _, _ => False
theorem BEk.he (hm : ∀ y y', y ≤ y' → h y ≤ h y') (hh : ∀ y δ, h (y + δ) ≤ h y + δ) : ∀ {Γ : List Ty} {ω : List Nat}, okc Γ → ω.length = Γ.length → BEk t0 n1 s2 h E0 p Γ ω → HEk t0 n1 s2 h (Ek E0 p) Γ ω := by sorry
end PmQ4

end
section
-- from 99q05
def COk : Nat → Ty → Nat → Prop
  | 0, _, _ => True
  | f + 1, t, n => (nKd t = 6 ∨ nKd t = 8 → COk f (nY t) (n - 1)) ∧ (nKd t = 7 ∨ nKd t = 9 ∨ nKd t = 11 → COk f (nX t) (n + 1)) ∧ (nKd t = 10 → ∀ g, g < 3 → bit (nMk t) g = true → COk f (nP t g) (n - 1)) ∧ (nKd t = 12 → n = 0 ∧ COk f (nX t) 0 ∧ COk f (nY t) 0)
def AQk (t0 : Nat) (n1 : Nat → Nat) (s2 : Nat) (h : Nat → Nat) (E0 p : Nat) (Z : Nat → Nat) : Nat → Ty → Stk → List Nat → Prop
  | 0, _, _, _ => True
  | f + 1, t, π, ω =>
    (nKd t = 6 → (π = [] → AQk t0 n1 s2 h E0 p Z f (nY t) [] ω) ∧ ∀ ρ, π = none :: ρ → AQk t0 n1 s2 h E0 p Z f (nY t) ρ ω) ∧
    (nKd t = 7 ∨ nKd t = 11 → AQk t0 n1 s2 h E0 p Z f (nX t) (none :: π) ω) ∧
    (nKd t = 8 → (nz t0 n1 s2 h ω (nX t) ≤ E0 ∧ flv (nX t) ≤ p) ∧ (π = [] → AQk t0 n1 s2 h E0 p Z f (nY t) [] (h (nz t0 n1 s2 h ω (nX t)) :: ω)) ∧ ∀ z ρ, π = some z :: ρ → AQk t0 n1 s2 h E0 p Z f (nY t) ρ (hzx h z (nz t0 n1 s2 h ω (nX t)) :: ω)) ∧
    (nKd t = 9 → (nz t0 n1 s2 h ω (nY t) ≤ E0 ∧ flv (nY t) ≤ p ∧ nz t0 n1 s2 h ω (nY t) ≤ Z (tch (nY t) + 2)) ∧ AQk t0 n1 s2 h E0 p Z f (nX t) (some (nz t0 n1 s2 h ω (nY t)) :: π) ω) ∧
    (nKd t = 10 → ∀ g, g < 3 → bit (nMk t) g = true → (π = [] → AQk t0 n1 s2 h E0 p Z f (nP t g) [] ω) ∧ ∀ ρ, π = none :: ρ → AQk t0 n1 s2 h E0 p Z f (nP t g) ρ ω) ∧
    (nKd t = 12 → AQk t0 n1 s2 h E0 p Z f (nX t) π ω ∧ AQk t0 n1 s2 h E0 p Z f (nY t) π ω)
section PmQ5
variable {N t0 fn s2 hv r0 r1 r2 r3 x0 E0 p : Nat} {n1 h : Nat → Nat} {P Q : List (List Nat)} {F G : FrT} {X : List Nat} {Z : Nat → Nat}
theorem GO_nat (hn : NC t0 n1 s2 h) (hm : ∀ y y', y ≤ y' → h y ≤ h y') (hh : ∀ y δ, h (y + δ) ≤ h y + δ) : ∀ (f : Nat) (t : Ty) (π : Stk) (ω : List Nat) (Γ : List Ty) (Δ : List (Nat × Ty × Nat)), TWf f Γ.length (Δ.map (fun a => a.1)) t → TE Γ Δ → COk f t π.length → AQk t0 n1 s2 h E0 p Z f t π ω → CV t0 n1 s2 h ω Γ → GOk t0 n1 s2 h (Ek E0 p) f t π ω Γ Δ := by sorry
theorem BF.arg (h : psc N P Q F X fn s2 r0 r1 r2 r3 = true) {c m q v : Nat} (hq : 2 ≤ q) (b : BF P E0 p Z (c + q + 4) m v) (hb : c + 2 * (m + q + 1) ≤ N) : BF P E0 p Z c (m + q + 1) v := by sorry
def LRk (P : List (List Nat)) (E0 p : Nat) (Z : Nat → Nat) (c s0 m v : Nat) : Prop := (∃ z s, z ≤ Z s ∧ s ≤ s0 + m ∧ v ≤ E0 + p * z) ∨ BF P E0 p Z c m v
theorem LRk.mx {c s0 m v v' : Nat} (a : LRk P E0 p Z c s0 m v) (b : LRk P E0 p Z c s0 m v') : LRk P E0 p Z c s0 m (max v v') := by sorry
theorem LRk.up (h : psc N P Q F X fn s2 r0 r1 r2 r3 = true) (hz : ZOk Z) {c s0 m k v : Nat} (a : LRk P E0 p Z c s0 m v) (hk : m ≤ k) (hb : c + 2 * k ≤ N) : LRk P E0 p Z c s0 k v := by sorry
theorem LRk.zero (hz : ZOk Z) {c s0 m : Nat} (hm : 1 ≤ m) : LRk P E0 p Z c s0 m 0 := by sorry
theorem LRk.bf (hz : ZOk Z) {c m v : Nat} (a : LRk P E0 p Z c 0 m v) (h3 : 3 ≤ m) : BF P E0 p Z c m v := by sorry
def SGk (N t0 : Nat) (n1 : Nat → Nat) (s2 : Nat) (h : Nat → Nat) (P : List (List Nat)) (X : List Nat) (E0 p : Nat) (Z : Nat → Nat) (f : Nat) : Prop := ∀ (t : Ty) (π : Stk) (ω : List Nat) (Γ : List Ty) (Δ : List (Nat × Ty × Nat)) (cv cd s0 : Nat), TWf f Γ.length (Δ.map (fun a => a.1)) t → TE Γ Δ → COk f t π.length → AQk t0 n1 s2 h E0 p Z f t π ω → ω.length = Γ.length → (∀ j, j < ω.length → vw ω j ≤ X.getD cv 0) → zm π ≤ X.getD cv 0 → (hs π = true → zm π ≤ Z (s0 + 1)) → dch Δ ≤ cd → 2 ≤ cd → cv + cd + 2 * mch t ≤ N → (π = [] → BF P E0 p Z (cv + cd) (mch t) (GSk t0 n1 s2 h (Ek E0 p) f t [] ω Γ Δ)) ∧ (π ≠ [] → LRk P E0 p Z (cv + cd) s0 (mch t) (GSk t0 n1 s2 h (Ek E0 p) f t π ω Γ Δ))
section
variable {t : Ty} {π : Stk} {ω : List Nat} {Γ : List Ty} {Δ : List (Nat × Ty × Nat)} {cv cd s0 f : Nat}
theorem SG_5 (hm : ∀ y y', y ≤ y' → h y ≤ h y') (T : TBs N t0 fn s2 hv r0 r1 r2 r3 x0 n1 h P Q F G X) (hx : PXk N P F X fn s2 r1 = true) (h21 : r2 ≤ r1) (h32 : r3 ≤ r2) (hz : ZOk Z) (ih : SGk N t0 n1 s2 h P X E0 p Z f) (w : TWf (f + 1) Γ.length (Δ.map (fun a => a.1)) t) (he : TE Γ Δ) (co : COk (f + 1) t π.length) (aq : AQk t0 n1 s2 h E0 p Z (f + 1) t π ω) (hl : ω.length = Γ.length) (hw : ∀ j, j < ω.length → vw ω j ≤ X.getD cv 0) (hzm : zm π ≤ X.getD cv 0) (hzs : hs π = true → zm π ≤ Z (s0 + 1)) (hd : dch Δ ≤ cd) (hcd : 2 ≤ cd) (hb : cv + cd + 2 * mch t ≤ N) (c5 : nKd t = 5) : (π = [] → BF P E0 p Z (cv + cd) (mch t) (GSk t0 n1 s2 h (Ek E0 p) (f + 1) t [] ω Γ Δ)) ∧ (π ≠ [] → LRk P E0 p Z (cv + cd) s0 (mch t) (GSk t0 n1 s2 h (Ek E0 p) (f + 1) t π ω Γ Δ)) := by sorry
theorem SG_6 (hm : ∀ y y', y ≤ y' → h y ≤ h y') (T : TBs N t0 fn s2 hv r0 r1 r2 r3 x0 n1 h P Q F G X) (hx : PXk N P F X fn s2 r1 = true) (h21 : r2 ≤ r1) (h32 : r3 ≤ r2) (hz : ZOk Z) (ih : SGk N t0 n1 s2 h P X E0 p Z f) (w : TWf (f + 1) Γ.length (Δ.map (fun a => a.1)) t) (he : TE Γ Δ) (co : COk (f + 1) t π.length) (aq : AQk t0 n1 s2 h E0 p Z (f + 1) t π ω) (hl : ω.length = Γ.length) (hw : ∀ j, j < ω.length → vw ω j ≤ X.getD cv 0) (hzm : zm π ≤ X.getD cv 0) (hzs : hs π = true → zm π ≤ Z (s0 + 1)) (hd : dch Δ ≤ cd) (hcd : 2 ≤ cd) (hb : cv + cd + 2 * mch t ≤ N) (c6 : nKd t = 6) : (π = [] → BF P E0 p Z (cv + cd) (mch t) (GSk t0 n1 s2 h (Ek E0 p) (f + 1) t [] ω Γ Δ)) ∧ (π ≠ [] → LRk P E0 p Z (cv + cd) s0 (mch t) (GSk t0 n1 s2 h (Ek E0 p) (f + 1) t π ω Γ Δ)) := by sorry
theorem SG_7 (hm : ∀ y y', y ≤ y' → h y ≤ h y') (T : TBs N t0 fn s2 hv r0 r1 r2 r3 x0 n1 h P Q F G X) (hx : PXk N P F X fn s2 r1 = true) (h21 : r2 ≤ r1) (h32 : r3 ≤ r2) (hz : ZOk Z) (ih : SGk N t0 n1 s2 h P X E0 p Z f) (w : TWf (f + 1) Γ.length (Δ.map (fun a => a.1)) t) (he : TE Γ Δ) (co : COk (f + 1) t π.length) (aq : AQk t0 n1 s2 h E0 p Z (f + 1) t π ω) (hl : ω.length = Γ.length) (hw : ∀ j, j < ω.length → vw ω j ≤ X.getD cv 0) (hzm : zm π ≤ X.getD cv 0) (hzs : hs π = true → zm π ≤ Z (s0 + 1)) (hd : dch Δ ≤ cd) (hcd : 2 ≤ cd) (hb : cv + cd + 2 * mch t ≤ N) (c7 : nKd t = 7 ∨ nKd t = 11) : (π = [] → BF P E0 p Z (cv + cd) (mch t) (GSk t0 n1 s2 h (Ek E0 p) (f + 1) t [] ω Γ Δ)) ∧ (π ≠ [] → LRk P E0 p Z (cv + cd) s0 (mch t) (GSk t0 n1 s2 h (Ek E0 p) (f + 1) t π ω Γ Δ)) := by sorry
theorem SG_8 (hm : ∀ y y', y ≤ y' → h y ≤ h y') (T : TBs N t0 fn s2 hv r0 r1 r2 r3 x0 n1 h P Q F G X) (hx : PXk N P F X fn s2 r1 = true) (h21 : r2 ≤ r1) (h32 : r3 ≤ r2) (hz : ZOk Z) (ih : SGk N t0 n1 s2 h P X E0 p Z f) (w : TWf (f + 1) Γ.length (Δ.map (fun a => a.1)) t) (he : TE Γ Δ) (co : COk (f + 1) t π.length) (aq : AQk t0 n1 s2 h E0 p Z (f + 1) t π ω) (hl : ω.length = Γ.length) (hw : ∀ j, j < ω.length → vw ω j ≤ X.getD cv 0) (hzm : zm π ≤ X.getD cv 0) (hzs : hs π = true → zm π ≤ Z (s0 + 1)) (hd : dch Δ ≤ cd) (hcd : 2 ≤ cd) (hb : cv + cd + 2 * mch t ≤ N) (c8 : nKd t = 8) : (π = [] → BF P E0 p Z (cv + cd) (mch t) (GSk t0 n1 s2 h (Ek E0 p) (f + 1) t [] ω Γ Δ)) ∧ (π ≠ [] → LRk P E0 p Z (cv + cd) s0 (mch t) (GSk t0 n1 s2 h (Ek E0 p) (f + 1) t π ω Γ Δ)) := by sorry
theorem SG_9 (hm : ∀ y y', y ≤ y' → h y ≤ h y') (T : TBs N t0 fn s2 hv r0 r1 r2 r3 x0 n1 h P Q F G X) (hx : PXk N P F X fn s2 r1 = true) (h21 : r2 ≤ r1) (h32 : r3 ≤ r2) (hz : ZOk Z) (ih : SGk N t0 n1 s2 h P X E0 p Z f) (w : TWf (f + 1) Γ.length (Δ.map (fun a => a.1)) t) (he : TE Γ Δ) (co : COk (f + 1) t π.length) (aq : AQk t0 n1 s2 h E0 p Z (f + 1) t π ω) (hl : ω.length = Γ.length) (hw : ∀ j, j < ω.length → vw ω j ≤ X.getD cv 0) (hzm : zm π ≤ X.getD cv 0) (hzs : hs π = true → zm π ≤ Z (s0 + 1)) (hd : dch Δ ≤ cd) (hcd : 2 ≤ cd) (hb : cv + cd + 2 * mch t ≤ N) (c9 : nKd t = 9) : (π = [] → BF P E0 p Z (cv + cd) (mch t) (GSk t0 n1 s2 h (Ek E0 p) (f + 1) t [] ω Γ Δ)) ∧ (π ≠ [] → LRk P E0 p Z (cv + cd) s0 (mch t) (GSk t0 n1 s2 h (Ek E0 p) (f + 1) t π ω Γ Δ)) := by sorry
theorem SG_10 (hm : ∀ y y', y ≤ y' → h y ≤ h y') (T : TBs N t0 fn s2 hv r0 r1 r2 r3 x0 n1 h P Q F G X) (hx : PXk N P F X fn s2 r1 = true) (h21 : r2 ≤ r1) (h32 : r3 ≤ r2) (hz : ZOk Z) (ih : SGk N t0 n1 s2 h P X E0 p Z f) (w : TWf (f + 1) Γ.length (Δ.map (fun a => a.1)) t) (he : TE Γ Δ) (co : COk (f + 1) t π.length) (aq : AQk t0 n1 s2 h E0 p Z (f + 1) t π ω) (hl : ω.length = Γ.length) (hw : ∀ j, j < ω.length → vw ω j ≤ X.getD cv 0) (hzm : zm π ≤ X.getD cv 0) (hzs : hs π = true → zm π ≤ Z (s0 + 1)) (hd : dch Δ ≤ cd) (hcd : 2 ≤ cd) (hb : cv + cd + 2 * mch t ≤ N) (c10 : nKd t = 10) : (π = [] → BF P E0 p Z (cv + cd) (mch t) (GSk t0 n1 s2 h (Ek E0 p) (f + 1) t [] ω Γ Δ)) ∧ (π ≠ [] → LRk P E0 p Z (cv + cd) s0 (mch t) (GSk t0 n1 s2 h (Ek E0 p) (f + 1) t π ω Γ Δ)) := by sorry
theorem SG_12 (hm : ∀ y y', y ≤ y' → h y ≤ h y') (T : TBs N t0 fn s2 hv r0 r1 r2 r3 x0 n1 h P Q F G X) (hx : PXk N P F X fn s2 r1 = true) (h21 : r2 ≤ r1) (h32 : r3 ≤ r2) (hz : ZOk Z) (ih : SGk N t0 n1 s2 h P X E0 p Z f) (w : TWf (f + 1) Γ.length (Δ.map (fun a => a.1)) t) (he : TE Γ Δ) (co : COk (f + 1) t π.length) (aq : AQk t0 n1 s2 h E0 p Z (f + 1) t π ω) (hl : ω.length = Γ.length) (hw : ∀ j, j < ω.length → vw ω j ≤ X.getD cv 0) (hzm : zm π ≤ X.getD cv 0) (hzs : hs π = true → zm π ≤ Z (s0 + 1)) (hd : dch Δ ≤ cd) (hcd : 2 ≤ cd) (hb : cv + cd + 2 * mch t ≤ N) (c12 : nKd t = 12) : (π = [] → BF P E0 p Z (cv + cd) (mch t) (GSk t0 n1 s2 h (Ek E0 p) (f + 1) t [] ω Γ Δ)) ∧ (π ≠ [] → LRk P E0 p Z (cv + cd) s0 (mch t) (GSk t0 n1 s2 h (Ek E0 p) (f + 1) t π ω Γ Δ)) := by sorry
end
theorem SG_le (hm : ∀ y y', y ≤ y' → h y ≤ h y') (T : TBs N t0 fn s2 hv r0 r1 r2 r3 x0 n1 h P Q F G X) (hx : PXk N P F X fn s2 r1 = true) (h21 : r2 ≤ r1) (h32 : r3 ≤ r2) (hz : ZOk Z) : ∀ f, SGk N t0 n1 s2 h P X E0 p Z f := by sorry
end PmQ5

end
section
-- from 99q06
def hasq : Nat → Ty → Bool
  | 0, _ => false
  | f + 1, t => if nKd t = 5 then false else if nKd t = 6 then hasq f (nY t) else if nKd t = 7 ∨ nKd t = 11 then hasq f (nX t) else if nKd t = 8 ∨ nKd t = 9 then true else if nKd t = 10 then (hasq f (nX t) || (hasq f (nY t) || hasq f (nZ t))) else (hasq f (nX t) || hasq f (nY t))
def gqk : Nat → Ty → Nat
  | 0, _ => 0
  | f + 1, t => if nKd t = 5 then 0 else if nKd t = 6 then gqk f (nY t) else if nKd t = 7 ∨ nKd t = 11 then gqk f (nX t) else if nKd t = 8 then (if hasq f (nY t) = true then tch (nX t) + 4 + gqk f (nY t) else 0) else if nKd t = 9 then (if hasq f (nX t) = true then (if tch (nY t) = 1 then 0 else tch (nY t) + 4) + gqk f (nX t) else 0) else if nKd t = 10 then max (gqk f (nX t)) (max (gqk f (nY t)) (gqk f (nZ t))) else max (gqk f (nX t)) (gqk f (nY t))
section PmQ6
variable {N t0 fn s2 hv r0 r1 r2 r3 x0 E0 p : Nat} {n1 h : Nat → Nat} {P Q : List (List Nat)} {F G : FrT} {X : List Nat} {Z : Nat → Nat}
theorem AQ_triv : ∀ (f : Nat) (t : Ty) (π : Stk) (ω : List Nat), 5 ≤ nKd t ∧ nKd t ≤ 12 → (∀ D sc, TWf f D sc t → hasq f t = false → AQk t0 n1 s2 h E0 p Z f t π ω) := by sorry
theorem AQ_of (hm : ∀ y y', y ≤ y' → h y ≤ h y') (T : TBs N t0 fn s2 hv r0 r1 r2 r3 x0 n1 h P Q F G X) (hz : ZOk Z) {L m0 : Nat} (hL : L ≤ 56) (hZ : ∀ q, 1 ≤ q → q ≤ m0 → ∀ w ∈ frg F q, w.2 + w.1 * X.getD L 0 ≤ Z (q + 2)) (hE : Z m0 ≤ E0) (hm0 : m0 ≤ 56) (hP : ∀ (A : Ty) (d : Nat), ok d A = true → tch A ≤ m0 → flv A ≤ p) : ∀ (f : Nat) (t : Ty) (π : Stk) (ω : List Nat) (Γ : List Ty) (sc : List Nat) (cv : Nat), TWf f Γ.length sc t → ω.length = Γ.length → (∀ j, j < ω.length → vw ω j ≤ X.getD cv 0) → zm π ≤ X.getD cv 0 → (hasq f t = true → cv + gqk f t ≤ L) → mch t ≤ m0 → AQk t0 n1 s2 h E0 p Z f t π ω := by sorry
end PmQ6

end
section
-- from 99q07
section PmQ7
variable {N t0 fn s2 hv r0 r1 r2 r3 x0 E0 p : Nat} {n1 h : Nat → Nat} {P Q : List (List Nat)} {F G : FrT} {X : List Nat} {Z : Nat → Nat}
theorem BEk_onz (hn : NC t0 n1 s2 h) : ∀ {Γ : List Ty}, (∀ j, j < Γ.length → vw (onz t0 n1 s2 h Γ) j ≤ E0) → (∀ b ∈ Γ, nsch b = true ∨ flv b ≤ p) → BEk t0 n1 s2 h E0 p Γ (onz t0 n1 s2 h Γ) := by sorry
theorem nat_BF (hn : NC t0 n1 s2 h) (hm : ∀ y y', y ≤ y' → h y ≤ h y') (hh : ∀ y δ, h (y + δ) ≤ h y + δ) (T : TBs N t0 fn s2 hv r0 r1 r2 r3 x0 n1 h P Q F G X) (hx : PXk N P F X fn s2 r1 = true) (h21 : r2 ≤ r1) (h32 : r3 ≤ r2) (hz : ZOk Z) {f : Nat} {t S : Ty} {Γ : List Ty} {Δ : List (Nat × Ty × Nat)} {cd L : Nat} (w : TWf f Γ.length (Δ.map (fun a => a.1)) t) (he : TE Γ Δ) (co : COk f t 0) (hS : tyF f t Γ Δ = .inr S) (hd : dch Δ ≤ cd) (hcd : 2 ≤ cd) (hb : cch Γ + cd + 2 * mch t ≤ N) (hL : L ≤ 56) (hg : hasq f t = true → cch Γ + gqk f t ≤ L) (hZ : ∀ q, 1 ≤ q → q ≤ mch t → ∀ w ∈ frg F q, w.2 + w.1 * X.getD L 0 ≤ Z (q + 2)) (hE : Z (mch t) ≤ E0) (hX : X.getD (cch Γ) 0 ≤ E0) (hP : ∀ (A : Ty) (d : Nat), ok d A = true → tch A ≤ mch t → flv A ≤ p) (hB : ∀ b ∈ Γ, nsch b = true ∨ flv b ≤ p) : BF P E0 p Z (cch Γ + cd) (mch t) (nz t0 n1 s2 h (onz t0 n1 s2 h Γ) S) := by sorry
end PmQ7

end
section
-- from 99q08
def Zr0 (s : Nat) : Nat := 2 * (s / 4) + (2 * (s / 7) + (3 * (s / 13) + (s / 17 + (5 * (s / 18) + 5 * (s / 22)))))
def Zg0 (s : Nat) : Nat := s / 3 + (2 * (s / 6) + (2 * (s / 9) + (2 * (s / 15) + (3 * (s / 21) + 2 * (s / 22)))))
def Zr (x s : Nat) : Nat := Zr0 s + s / 3 * x
def Zg (x s : Nat) : Nat := Zg0 s + s / 3 * x
theorem dsa (d s t : Nat) (hd : 0 < d) : s / d + t / d ≤ (s + t) / d := by sorry
theorem lin6 {a1 a2 a3 a4 a5 a6 b1 b2 b3 b4 b5 b6 c1 c2 c3 c4 c5 c6 k1 k2 k3 k4 k5 k6 : Nat} (h1 : a1 + b1 ≤ c1) (h2 : a2 + b2 ≤ c2) (h3 : a3 + b3 ≤ c3) (h4 : a4 + b4 ≤ c4) (h5 : a5 + b5 ≤ c5) (h6 : a6 + b6 ≤ c6) : (k1 * a1 + (k2 * a2 + (k3 * a3 + (k4 * a4 + (k5 * a5 + k6 * a6))))) + (k1 * b1 + (k2 * b2 + (k3 * b3 + (k4 * b4 + (k5 * b5 + k6 * b6))))) ≤ k1 * c1 + (k2 * c2 + (k3 * c3 + (k4 * c4 + (k5 * c5 + k6 * c6)))) := by sorry
theorem Zr0_sa (s t : Nat) : Zr0 s + Zr0 t ≤ Zr0 (s + t) := by sorry
theorem Zg0_sa (s t : Nat) : Zg0 s + Zg0 t ≤ Zg0 (s + t) := by sorry
theorem ZOk_of {f : Nat → Nat} (f0 : f 0 = 0) (fs : ∀ s t, f s + f t ≤ f (s + t)) (x : Nat) : ZOk (fun s => f s + s / 3 * x) := by sorry
theorem Zr_ok (x : Nat) : ZOk (Zr x) := by sorry
theorem Zg_ok (x : Nat) : ZOk (Zg x) := by sorry
def zrck (F : FrT) (Zf : Nat → Nat) : Bool := (List.range 21).all (fun i => (frg F (i + 1)).all (fun w => Nat.ble w.2 (Zf (i + 3)) && Nat.ble w.1 ((i + 3) / 3)))
theorem zr_ck : zrck fr1 Zr0 = true := by sorry
theorem zg_ck : zrck frq Zg0 = true := by sorry
theorem zr_le {q x : Nat} (h1 : 1 ≤ q) (h2 : q ≤ 21) : ∀ w ∈ frg fr1 q, w.2 + w.1 * x ≤ Zr x (q + 2) := by sorry
theorem zg_le {q x : Nat} (h1 : 1 ≤ q) (h2 : q ≤ 21) : ∀ w ∈ frg frq q, w.2 + w.1 * x ≤ Zg x (q + 2) := by sorry
def natB (P : List (List Nat)) (Z : Nat → Nat) (C m E0 p B : Nat) : Bool := (List.range (m / 5 + 2)).all (fun n => (List.range (m + 1)).all (fun s => Nat.ble (s + 1) (3 * n) || (Nat.ble (m + 3) (5 * n) || Nat.ble (n * E0 + p * Z s + pg0 P C (m - s)) B)))
theorem natB_le {P : List (List Nat)} {Z : Nat → Nat} {C m E0 p B v : Nat} (h : natB P Z C m E0 p B = true) (b : BF P E0 p Z C m v) : v ≤ B := by sorry
def lmx (F : FrT) (k : Nat) : Nat := (List.range (k + 1)).foldl (fun m i => (frg F i).foldl (fun m w => max m w.1) m) 0
theorem foldl_max_ge : ∀ (l : List (Nat × Nat)) (m : Nat), m ≤ l.foldl (fun m w => max m w.1) m ∧ ∀ w ∈ l, w.1 ≤ l.foldl (fun m w => max m w.1) m := by sorry
theorem lmx_step (F : FrT) (k : Nat) : lmx F (k + 1) = (frg F (k + 1)).foldl (fun m w => max m w.1) (lmx F k) := by sorry
theorem lmx_mono (F : FrT) : ∀ {j k : Nat}, j ≤ k → lmx F j ≤ lmx F k := by sorry
theorem lmx_ge (F : FrT) {k : Nat} (hk : 1 ≤ k) : ∀ w ∈ frg F k, w.1 ≤ lmx F k := by sorry
theorem flv_lmx {t : Ty} {d k : Nat} (o : ok d t = true) (ht : tch t ≤ k) (hk : k ≤ 56) : flv t ≤ lmx fr1 k := by sorry
end
section
-- from 99q09
def NatT (f : Nat) (t : Ty) (Γ : List Ty) (Δ : List (Nat × Ty × Nat)) : Prop := COk f t 0 ∧ ∃ cd L p, dch Δ ≤ cd ∧ 2 ≤ cd ∧ cch Γ + cd + 2 * mch t ≤ 58 ∧ L ≤ 56 ∧ (hasq f t = true → cch Γ + gqk f t ≤ L) ∧ mch t ≤ 21 ∧ lmx fr1 (mch t) ≤ p ∧ (∀ b ∈ Γ, nsch b = true ∨ flv b ≤ p) ∧ natB pp1 (Zr (fx1.getD L 0)) (cch Γ + cd) (mch t) (max (fx1.getD (cch Γ) 0) (Zr (fx1.getD L 0) (mch t))) p 887 = true ∧ natB ppq (Zg (fxq.getD L 0)) (cch Γ + cd) (mch t) (max (fxq.getD (cch Γ) 0) (Zg (fxq.getD L 0) (mch t))) p 597 = true
section PmQ8
variable {f : Nat} {t : Ty} {Γ : List Ty} {Δ : List (Nat × Ty × Nat)} {S : Ty}
theorem nat_rows (b : Bool) (w : TWf f Γ.length (Δ.map (fun a => a.1)) t) (he : TE Γ Δ) (hx : NatT f t Γ Δ) (hS : tyF f t Γ Δ = .inr S) : nz 0 (fun _ => 1 + 1) (2 + 1) (vlr b 1) (onz 0 (fun _ => 1 + 1) (2 + 1) (vlr b 1) Γ) S ≤ 887 := by sorry
theorem nat_goals (w : TWf f Γ.length (Δ.map (fun a => a.1)) t) (he : TE Γ Δ) (hx : NatT f t Γ Δ) (hS : tyF f t Γ Δ = .inr S) : nz 1 ngc 1 (fun x => x) (onz 1 ngc 1 (fun x => x) Γ) S ≤ 597 := by sorry
end PmQ8

end
section
-- from 99r01
def cnS : Stk → Nat
  | [] => 0
  | none :: ρ => cnS ρ
  | some _ :: ρ => cnS ρ + 1
def NQk : Nat → Ty → Nat → Prop
  | 0, _, _ => True
  | f + 1, t, n => (nKd t = 6 → NQk f (nY t) n) ∧ (nKd t = 7 ∨ nKd t = 11 → NQk f (nX t) n) ∧ (nKd t = 8 → NQk f (nY t) (n - 1)) ∧ (nKd t = 9 → n = 0 ∧ NQk f (nX t) 1) ∧ (nKd t = 10 → ∀ g, g < 3 → bit (nMk t) g = true → NQk f (nP t g) n) ∧ (nKd t = 12 → NQk f (nX t) n ∧ NQk f (nY t) n)
section PmR1
variable {N t0 fn s2 hv r0 r1 r2 r3 x0 E0 p : Nat} {n1 h : Nat → Nat} {E : Stk → Nat} {P Q : List (List Nat)} {F G : FrT} {X : List Nat} {Z : Nat → Nat}
theorem vz_upE (hEm : ∀ q ρ, E ρ ≤ E (q :: ρ)) (hm : ∀ y y', y ≤ y' → h y ≤ h y') : ∀ (f : Nat) (t : Ty) (π : Stk) (ω : List Nat), (flat t).length ≤ f → ok ω.length t = true → vz t0 n1 s2 h E t π ω ≤ max (E π) (nz t0 n1 s2 (hzx h (zm π)) ω t) := by sorry
section
variable {t : Ty} {π : Stk} {ω : List Nat} {Γ : List Ty} {Δ : List (Nat × Ty × Nat)} {cv cd s0 f : Nat}
end
end PmR1

end
section
-- from 99r02
section PmR2
variable {t0 s2 E0 p : Nat} {n1 h : Nat → Nat} {E : Stk → Nat} {Z : Nat → Nat}
theorem vz_bdE (hEm : ∀ q ρ, E ρ ≤ E (q :: ρ)) (hEl : ∀ ρ, E0 + p * zm ρ ≤ E ρ) (hm : ∀ y y', y ≤ y' → h y ≤ h y') (hh : ∀ y δ, h (y + δ) ≤ h y + δ) {t : Ty} {ω : List Nat} (o : ok ω.length t = true) (hv : nz t0 n1 s2 h ω t ≤ E0) (hp : flv t ≤ p) (ρ : Stk) : vz t0 n1 s2 h E t ρ ω ≤ E ρ := by sorry
theorem vz_bnE (hEm : ∀ q ρ, E ρ ≤ E (q :: ρ)) (hEl : ∀ ρ, E0 + p * zm ρ ≤ E ρ) (hm : ∀ y y', y ≤ y' → h y ≤ h y') {t : Ty} {ω : List Nat} (o : ok ω.length t = true) (hv : nz t0 n1 s2 h ω t ≤ E0) (hp : nsch t = true) (ρ : Stk) : vz t0 n1 s2 h E t ρ ω ≤ E ρ := by sorry
variable {hb : Nat} {B C : Ty} {Γ0 : List Ty}
end PmR2
def Ec (E0 p pb : Nat) (π : Stk) : Nat := E0 + (if cnS π ≤ 1 then p else pb) * zm π
section PmR3
variable {t0 s2 E0 p pb : Nat} {n1 h : Nat → Nat}
theorem cnS_tail (q : Option Nat) (ρ : Stk) : cnS ρ ≤ cnS (q :: ρ) := by sorry
theorem Ec_m (hp : p ≤ pb) (q : Option Nat) (ρ : Stk) : Ec E0 p pb ρ ≤ Ec E0 p pb (q :: ρ) := by sorry
theorem Ec_l (hp : p ≤ pb) (ρ : Stk) : E0 + p * zm ρ ≤ Ec E0 p pb ρ := by sorry
theorem cnS_zm : ∀ ρ : Stk, cnS ρ = 0 → zm ρ = 0 := by sorry
theorem vz_sch (hp : p ≤ pb) (hm : ∀ y y', y ≤ y' → h y ≤ h y') (hh : ∀ y δ, h (y + δ) ≤ h y + δ) {B C : Ty} {ω : List Nat} (o : ok ω.length (tAll B C) = true) (hv : nz t0 n1 s2 h ω (tAll B C) ≤ E0) (hpb : flv (tAll B C) ≤ pb) (hz : ∀ z, nz t0 n1 s2 h (hzx h z (nz t0 n1 s2 h ω B) :: ω) C ≤ E0 + p * z) (ρ : Stk) (hρ : ρ ≠ []) : vz t0 n1 s2 h (Ec E0 p pb) (tAll B C) ρ ω ≤ Ec E0 p pb ρ := by sorry
def BEc (t0 : Nat) (n1 : Nat → Nat) (s2 : Nat) (h : Nat → Nat) (E0 p pb : Nat) : List Ty → List Nat → Prop
  | [], [] => True
  | b :: Γ, _ :: ω => ((nz t0 n1 s2 h ω b ≤ E0 ∧ (nsch b = true ∨ flv b ≤ p)) ∨ ∃ B C, b = tAll B C ∧ nz t0 n1 s2 h ω b ≤ E0 ∧ flv b ≤ pb ∧ ∀ z, nz t0 n1 s2 h (hzx h z (nz t0 n1 s2 h ω B) :: ω) C ≤ E0 + p * z) ∧ BEc t0 n1 s2 h E0 p pb Γ ω
  | _, _ => False
theorem BEc.he (hp : p ≤ pb) (hm : ∀ y y', y ≤ y' → h y ≤ h y') (hh : ∀ y δ, h (y + δ) ≤ h y + δ) : ∀ {Γ : List Ty} {ω : List Nat}, okc Γ → ω.length = Γ.length → BEc t0 n1 s2 h E0 p pb Γ ω → HEk t0 n1 s2 h (Ec E0 p pb) Γ ω := by sorry
end PmR3

end
section
-- from 99r03
def lstX (X : List Nat) (y : Nat) : Nat := ((List.range 57).find? (fun c => Nat.ble y (X.getD c 0))).getD 57
theorem lstX_ok {X : List Nat} {y : Nat} (h : lstX X y ≤ 56) : y ≤ X.getD (lstX X y) 0 := by sorry
end
section
-- from 99r04
theorem okc_low {Γ0 : List Ty} {β : Ty} : ∀ (Δ : List Ty), okc (cxs Δ Γ0 β) → okc Γ0 ∧ ok Γ0.length β = true := by sorry
end
section
-- from 99s01
def HDs (hd : Nat → Nat) (n s V : Nat) : Prop := ∃ l : List Nat, l.length = n ∧ l.sum = s ∧ (∀ x ∈ l, 3 ≤ x) ∧ V = (l.map hd).sum
theorem HDs.nil (hd : Nat → Nat) : HDs hd 0 0 0 := by sorry
theorem HDs.one (hd : Nat → Nat) {s : Nat} (h : 3 ≤ s) : HDs hd 1 s (hd s) := by sorry
theorem HDs.add {hd : Nat → Nat} {n s V n' s' V' : Nat} (a : HDs hd n s V) (b : HDs hd n' s' V') : HDs hd (n + n') (s + s') (V + V') := by sorry
def BGh (P : List (List Nat)) (hd : Nat → Nat) (b c m v : Nat) : Prop := ∃ n s V, HDs hd n s V ∧ s + b ≤ m ∧ 3 * n ≤ s ∧ 5 * n ≤ m + 2 ∧ (n = 0 → s = 0) ∧ (1 ≤ n → m - s ≠ 1) ∧ v ≤ V + pg0 P c (m - s)
section PmS1
variable {N fn s2 r0 r1 r2 r3 b b1 b2 b3 c m v m1 m2 m3 v1 v2 v3 : Nat} {P Q : List (List Nat)} {F : FrT} {X : List Nat} {hd : Nat → Nat}
theorem BGh.mono (h : BGh P hd b c m v) (hv : v1 ≤ v) : BGh P hd b c m v1 := by sorry
theorem BGh.base (hm : 1 ≤ m) (hbm : b ≤ m) (hv : v ≤ pg P c m) : BGh P hd b c m v := by sorry
theorem BGh.less (h : BGh P hd b c m v) (hb : b1 ≤ b) : BGh P hd b1 c m v := by sorry
theorem BGh.inst {s : Nat} (h3 : 3 ≤ s) (hs : s + b ≤ m) (hr : m - s ≠ 1) (hv : v ≤ hd s) : BGh P hd b c m v := by sorry
theorem BGh.up (h : psc N P Q F X fn s2 r0 r1 r2 r3 = true) (b' : BGh P hd b c m v) {k : Nat} (hk : k = m ∨ m + 2 ≤ k) (hb : c + 2 * k ≤ N) : BGh P hd b c k v := by sorry
theorem BGh.two (h : psc N P Q F X fn s2 r0 r1 r2 r3 = true) (g1' : BGh P hd b1 c m1 v1) (g2' : BGh P hd b2 c m2 v2) (h3 : 3 ≤ m1 + m2) (g1 : 1 ≤ m1) (g2 : 1 ≤ m2) (hb : c + 2 * (m1 + m2 + 2) ≤ N) : BGh P hd (b1 + b2) c (m1 + m2 + 2) (v1 + v2) := by sorry
theorem BGh.rec1 (h : psc N P Q F X fn s2 r0 r1 r2 r3 = true) (hx : PXk N P F X fn s2 r1 = true) (g' : BGh P hd b c m v) (hb : c + 2 * (m + 4) ≤ N) {r : Nat} (hr : r ≤ r1) (c2 : 2 ≤ c) : BGh P hd b c (m + 4) (r + v) := by sorry
theorem BGh.lam (h : psc N P Q F X fn s2 r0 r1 r2 r3 = true) (hx : PXk N P F X fn s2 r1 = true) {A : Nat} (hA : 1 ≤ A) (g' : BGh P hd b (c + A + 4) m v) (hb : c + 2 * (m + A + 4) ≤ N) {q : Nat × Nat} (hq : q ∈ frg F A) : BGh P hd b c (m + A + 4) (fn + (q.2 + q.1 * X.getD c 0) + v) := by sorry
theorem BGh.all (h : psc N P Q F X fn s2 r0 r1 r2 r3 = true) (hx : PXk N P F X fn s2 r1 = true) {A : Nat} (hA : 1 ≤ A) (g' : BGh P hd b (c + A + 4) m v) (hb : c + 2 * (m + A + 4) ≤ N) : BGh P hd (b + (A + 4)) c (m + A + 4) (s2 + v) := by sorry
theorem BGh.rec2 (h : psc N P Q F X fn s2 r0 r1 r2 r3 = true) (hx : PXk N P F X fn s2 r1 = true) (h21 : r2 ≤ r1) (g1' : BGh P hd b1 c m1 v1) (g2' : BGh P hd b2 c m2 v2) (hb : c + 2 * (m1 + m2 + 7) ≤ N) {r : Nat} (hr : r ≤ r2) (c2 : 2 ≤ c) : BGh P hd (b1 + b2) c (m1 + m2 + 7) (r + (v1 + v2)) := by sorry
theorem BGh.rec3 (h : psc N P Q F X fn s2 r0 r1 r2 r3 = true) (hx : PXk N P F X fn s2 r1 = true) (h21 : r2 ≤ r1) (h32 : r3 ≤ r2) (g1' : BGh P hd b1 c m1 v1) (g2' : BGh P hd b2 c m2 v2) (g3' : BGh P hd b3 c m3 v3) (hb : c + 2 * (m1 + m2 + m3 + 10) ≤ N) {r : Nat} (hr : r ≤ r3) (c2 : 2 ≤ c) : BGh P hd (b1 + b2 + b3) c (m1 + m2 + m3 + 10) (r + (v1 + (v2 + v3))) := by sorry
theorem BGh.arg (h : psc N P Q F X fn s2 r0 r1 r2 r3 = true) {q : Nat} (hq : 2 ≤ q) (g' : BGh P hd b (c + q + 4) m v) (hb : c + 2 * (m + q + 1) ≤ N) : BGh P hd b c (m + q + 1) v := by sorry
end PmS1

end
section
-- from 99s02
def bqk : Nat → Ty → Nat → Nat
  | 0, _, _ => 0
  | f + 1, t, n => if nKd t = 5 then 0 else if nKd t = 6 then bqk f (nY t) (n - 1) else if nKd t = 7 ∨ nKd t = 11 then bqk f (nX t) (n + 1) else if nKd t = 8 then bqk f (nY t) (n - 1) + (tch (nX t) + 4) else if nKd t = 9 then bqk f (nX t) (n + 1) else if nKd t = 10 then (if n = 0 then (if bit (nMk t) 0 = true then bqk f (nX t) 0 else 0) + (if bit (nMk t) 1 = true then bqk f (nY t) 0 else 0) + (if bit (nMk t) 2 = true then bqk f (nZ t) 0 else 0) else 0) else bqk f (nX t) 0 + bqk f (nY t) 0
def AQh (t0 : Nat) (n1 : Nat → Nat) (s2 : Nat) (h : Nat → Nat) (E : Stk → Nat) (Z : Nat → Nat) : Nat → Ty → Stk → List Nat → Prop
  | 0, _, _, _ => True
  | f + 1, t, π, ω =>
    (nKd t = 6 → (π = [] → AQh t0 n1 s2 h E Z f (nY t) [] ω) ∧ ∀ ρ, π = none :: ρ → AQh t0 n1 s2 h E Z f (nY t) ρ ω) ∧
    (nKd t = 7 ∨ nKd t = 11 → AQh t0 n1 s2 h E Z f (nX t) (none :: π) ω) ∧
    (nKd t = 8 → (∀ ρ, ρ ≠ [] → vz t0 n1 s2 h E (nX t) ρ ω ≤ E ρ) ∧ (π = [] → AQh t0 n1 s2 h E Z f (nY t) [] (h (nz t0 n1 s2 h ω (nX t)) :: ω)) ∧ ∀ z ρ, π = some z :: ρ → AQh t0 n1 s2 h E Z f (nY t) ρ (hzx h z (nz t0 n1 s2 h ω (nX t)) :: ω)) ∧
    (nKd t = 9 → ((∀ ρ, ρ ≠ [] → vz t0 n1 s2 h E (nY t) ρ ω ≤ E ρ) ∧ nz t0 n1 s2 h ω (nY t) ≤ Z (tch (nY t) + 2)) ∧ AQh t0 n1 s2 h E Z f (nX t) (some (nz t0 n1 s2 h ω (nY t)) :: π) ω) ∧
    (nKd t = 10 → ∀ g, g < 3 → bit (nMk t) g = true → (π = [] → AQh t0 n1 s2 h E Z f (nP t g) [] ω) ∧ ∀ ρ, π = none :: ρ → AQh t0 n1 s2 h E Z f (nP t g) ρ ω) ∧
    (nKd t = 12 → AQh t0 n1 s2 h E Z f (nX t) π ω ∧ AQh t0 n1 s2 h E Z f (nY t) π ω)
section PmS2
variable {N t0 fn s2 hv r0 r1 r2 r3 x0 X7 : Nat} {n1 h : Nat → Nat} {E : Stk → Nat} {P Q : List (List Nat)} {F G : FrT} {X : List Nat} {Z hd : Nat → Nat}
theorem BGh_rec (T : TBs N t0 fn s2 hv r0 r1 r2 r3 x0 n1 h P Q F G X) (hx : PXk N P F X fn s2 r1 = true) (h21 : r2 ≤ r1) (h32 : r3 ≤ r2) {k c a b d va vb vd ba bb bd : Nat} (k8 : k < 8) (c2 : 2 ≤ c) (k0 : bit k 0 = true → BGh P hd ba c a va) (k1 : bit k 1 = true → BGh P hd bb c b vb) (k2 : bit k 2 = true → BGh P hd bd c d vd) (z0 : bit k 0 = false → a = 0) (z1 : bit k 1 = false → b = 0) (z2 : bit k 2 = false → d = 0) (hb : c + 2 * ((if k = 0 then 2 else 1 + 3 * nlb k) + (a + (b + d))) ≤ N) : BGh P hd ((if bit k 0 = true then ba else 0) + (if bit k 1 = true then bb else 0) + (if bit k 2 = true then bd else 0)) c ((if k = 0 then 2 else 1 + 3 * nlb k) + (a + (b + d))) (n1 (8 + k) + ((if bit k 0 = true then va else 0) + ((if bit k 1 = true then vb else 0) + (if bit k 2 = true then vd else 0)))) := by sorry
end PmS2

end
section
-- from 99s03
section PmS3
variable {N t0 fn s2 hv r0 r1 r2 r3 x0 X7 : Nat} {n1 h : Nat → Nat} {E : Stk → Nat} {P Q : List (List Nat)} {F G : FrT} {X : List Nat} {Z hd : Nat → Nat}
theorem bqk_le : ∀ (f : Nat) (t : Ty) (n D : Nat) (sc : List Nat), TWf f D sc t → bqk f t n + 1 ≤ mch t := by sorry
theorem bqk_z : ∀ (f : Nat) (t : Ty) (n D : Nat) (sc : List Nat), TWf f D sc t → bqk f t n = 0 ∨ 5 ≤ bqk f t n := by sorry
def LRh (P : List (List Nat)) (hd : Nat → Nat) (X7 b c s0 m v : Nat) : Prop := v ≤ X7 ∨ ((∃ s, 3 ≤ s ∧ s + b ≤ s0 + m ∧ s0 + m - s ≠ 1 ∧ v ≤ hd s) ∨ BGh P hd b c m v)
theorem LRh.l {b c s0 m v : Nat} (a : ∃ s, 3 ≤ s ∧ s + b ≤ s0 + m ∧ s0 + m - s ≠ 1 ∧ v ≤ hd s) : LRh P hd X7 b c s0 m v := by sorry
theorem LRh.r {b c s0 m v : Nat} (a : BGh P hd b c m v) : LRh P hd X7 b c s0 m v := by sorry
theorem LRh.mx {b c s0 m v v' : Nat} (a : LRh P hd X7 b c s0 m v) (b' : LRh P hd X7 b c s0 m v') : LRh P hd X7 b c s0 m (max v v') := by sorry
theorem LRh.up (h : psc N P Q F X fn s2 r0 r1 r2 r3 = true) {b c s0 m k v : Nat} (a : LRh P hd X7 b c s0 m v) (hk : k = m ∨ m + 2 ≤ k) (hb : c + 2 * k ≤ N) : LRh P hd X7 b c s0 k v := by sorry
theorem LRh.less {b b1 c s0 m v : Nat} (a : LRh P hd X7 b c s0 m v) (hb : b1 ≤ b) : LRh P hd X7 b1 c s0 m v := by sorry
theorem LRh.zero {b c s0 m : Nat} (hm : 1 ≤ m) (hb : b ≤ m) : LRh P hd X7 b c s0 m 0 := by sorry
theorem LRh.bf (hX : ∀ s, X7 ≤ hd s) {b c m v : Nat} (h3 : b + 3 ≤ m) (h5 : b = 0 ∨ 5 ≤ b) (a : LRh P hd X7 b c 0 m v) : BGh P hd b c m v := by sorry
def SGh (N t0 : Nat) (n1 : Nat → Nat) (s2 : Nat) (h : Nat → Nat) (E : Stk → Nat) (P : List (List Nat)) (X : List Nat) (X7 : Nat) (Z hd : Nat → Nat) (f : Nat) : Prop := ∀ (t : Ty) (π : Stk) (ω : List Nat) (Γ : List Ty) (Δ : List (Nat × Ty × Nat)) (cv cd s0 : Nat), TWf f Γ.length (Δ.map (fun a => a.1)) t → TE Γ Δ → COk f t π.length → NQk f t (cnS π) → cnS π ≤ 1 → AQh t0 n1 s2 h E Z f t π ω → ω.length = Γ.length → (∀ j, j < ω.length → vw ω j ≤ X.getD cv 0) → zm π ≤ X.getD cv 0 → (hs π = true → zm π ≤ Z (s0 + 1) ∧ 2 ≤ s0) → (hs π = false → s0 = 0) → dch Δ ≤ cd → 2 ≤ cd → cv + cd + 2 * mch t ≤ N → (π = [] → BGh P hd (bqk f t 0) (cv + cd) (mch t) (GSk t0 n1 s2 h E f t [] ω Γ Δ)) ∧ (π ≠ [] → LRh P hd X7 (bqk f t π.length) (cv + cd) s0 (mch t) (GSk t0 n1 s2 h E f t π ω Γ Δ))
theorem SH_5 (hEm : ∀ q ρ, E ρ ≤ E (q :: ρ)) (hE0 : ∀ ρ, hs ρ = false → E ρ ≤ X7) (hE1 : ∀ ρ s, cnS ρ ≤ 1 → hs ρ = true → zm ρ ≤ Z s → E ρ ≤ hd s) (hm : ∀ y y', y ≤ y' → h y ≤ h y') (T : TBs N t0 fn s2 hv r0 r1 r2 r3 x0 n1 h P Q F G X) (hx : PXk N P F X fn s2 r1 = true) (h21 : r2 ≤ r1) (h32 : r3 ≤ r2) {t : Ty} {π : Stk} {ω : List Nat} {Γ : List Ty} {Δ : List (Nat × Ty × Nat)} {cv cd s0 f : Nat} (ih : SGh N t0 n1 s2 h E P X X7 Z hd f) (w : TWf (f + 1) Γ.length (Δ.map (fun a => a.1)) t) (he : TE Γ Δ) (co : COk (f + 1) t π.length) (nq : NQk (f + 1) t (cnS π)) (hc1 : cnS π ≤ 1) (aq : AQh t0 n1 s2 h E Z (f + 1) t π ω) (hl : ω.length = Γ.length) (hw : ∀ j, j < ω.length → vw ω j ≤ X.getD cv 0) (hzm : zm π ≤ X.getD cv 0) (hzs : hs π = true → zm π ≤ Z (s0 + 1) ∧ 2 ≤ s0) (hz0 : hs π = false → s0 = 0) (hX : ∀ s, X7 ≤ hd s) (hdc : dch Δ ≤ cd) (hcd : 2 ≤ cd) (hb : cv + cd + 2 * mch t ≤ N) (c5 : nKd t = 5) : (π = [] → BGh P hd (bqk (f + 1) t 0) (cv + cd) (mch t) (GSk t0 n1 s2 h E (f + 1) t [] ω Γ Δ)) ∧ (π ≠ [] → LRh P hd X7 (bqk (f + 1) t π.length) (cv + cd) s0 (mch t) (GSk t0 n1 s2 h E (f + 1) t π ω Γ Δ)) := by sorry
theorem SH_6 (hEm : ∀ q ρ, E ρ ≤ E (q :: ρ)) (hE0 : ∀ ρ, hs ρ = false → E ρ ≤ X7) (hE1 : ∀ ρ s, cnS ρ ≤ 1 → hs ρ = true → zm ρ ≤ Z s → E ρ ≤ hd s) (hm : ∀ y y', y ≤ y' → h y ≤ h y') (T : TBs N t0 fn s2 hv r0 r1 r2 r3 x0 n1 h P Q F G X) (hx : PXk N P F X fn s2 r1 = true) (h21 : r2 ≤ r1) (h32 : r3 ≤ r2) {t : Ty} {π : Stk} {ω : List Nat} {Γ : List Ty} {Δ : List (Nat × Ty × Nat)} {cv cd s0 f : Nat} (ih : SGh N t0 n1 s2 h E P X X7 Z hd f) (w : TWf (f + 1) Γ.length (Δ.map (fun a => a.1)) t) (he : TE Γ Δ) (co : COk (f + 1) t π.length) (nq : NQk (f + 1) t (cnS π)) (hc1 : cnS π ≤ 1) (aq : AQh t0 n1 s2 h E Z (f + 1) t π ω) (hl : ω.length = Γ.length) (hw : ∀ j, j < ω.length → vw ω j ≤ X.getD cv 0) (hzm : zm π ≤ X.getD cv 0) (hzs : hs π = true → zm π ≤ Z (s0 + 1) ∧ 2 ≤ s0) (hz0 : hs π = false → s0 = 0) (hX : ∀ s, X7 ≤ hd s) (hdc : dch Δ ≤ cd) (hcd : 2 ≤ cd) (hb : cv + cd + 2 * mch t ≤ N) (c6 : nKd t = 6) : (π = [] → BGh P hd (bqk (f + 1) t 0) (cv + cd) (mch t) (GSk t0 n1 s2 h E (f + 1) t [] ω Γ Δ)) ∧ (π ≠ [] → LRh P hd X7 (bqk (f + 1) t π.length) (cv + cd) s0 (mch t) (GSk t0 n1 s2 h E (f + 1) t π ω Γ Δ)) := by sorry
end PmS3

end
section
-- from 99s04
section PmS4
variable {N t0 fn s2 hv r0 r1 r2 r3 x0 X7 : Nat} {n1 h : Nat → Nat} {E : Stk → Nat} {P Q : List (List Nat)} {F G : FrT} {X : List Nat} {Z hd : Nat → Nat}
theorem hs_cn : ∀ ρ : Stk, cnS ρ = 0 → hs ρ = false := by sorry
theorem bqk_5 : ∀ (f : Nat) (t : Ty) (n : Nat), nKd t = 5 → bqk f t n = 0 := by sorry
section
variable {t : Ty} {π : Stk} {ω : List Nat} {Γ : List Ty} {Δ : List (Nat × Ty × Nat)} {cv cd s0 f : Nat}
theorem SH_7 (hEm : ∀ q ρ, E ρ ≤ E (q :: ρ)) (hE0 : ∀ ρ, hs ρ = false → E ρ ≤ X7) (hE1 : ∀ ρ s, cnS ρ ≤ 1 → hs ρ = true → zm ρ ≤ Z s → E ρ ≤ hd s) (hm : ∀ y y', y ≤ y' → h y ≤ h y') (T : TBs N t0 fn s2 hv r0 r1 r2 r3 x0 n1 h P Q F G X) (hx : PXk N P F X fn s2 r1 = true) (h21 : r2 ≤ r1) (h32 : r3 ≤ r2) (ih : SGh N t0 n1 s2 h E P X X7 Z hd f) (w : TWf (f + 1) Γ.length (Δ.map (fun a => a.1)) t) (he : TE Γ Δ) (co : COk (f + 1) t π.length) (nq : NQk (f + 1) t (cnS π)) (hc1 : cnS π ≤ 1) (aq : AQh t0 n1 s2 h E Z (f + 1) t π ω) (hl : ω.length = Γ.length) (hw : ∀ j, j < ω.length → vw ω j ≤ X.getD cv 0) (hzm : zm π ≤ X.getD cv 0) (hzs : hs π = true → zm π ≤ Z (s0 + 1) ∧ 2 ≤ s0) (hz0 : hs π = false → s0 = 0) (hX : ∀ s, X7 ≤ hd s) (hdc : dch Δ ≤ cd) (hcd : 2 ≤ cd) (hb : cv + cd + 2 * mch t ≤ N) (c7 : nKd t = 7 ∨ nKd t = 11) : (π = [] → BGh P hd (bqk (f + 1) t 0) (cv + cd) (mch t) (GSk t0 n1 s2 h E (f + 1) t [] ω Γ Δ)) ∧ (π ≠ [] → LRh P hd X7 (bqk (f + 1) t π.length) (cv + cd) s0 (mch t) (GSk t0 n1 s2 h E (f + 1) t π ω Γ Δ)) := by sorry
theorem SH_8 (hEm : ∀ q ρ, E ρ ≤ E (q :: ρ)) (hE0 : ∀ ρ, hs ρ = false → E ρ ≤ X7) (hE1 : ∀ ρ s, cnS ρ ≤ 1 → hs ρ = true → zm ρ ≤ Z s → E ρ ≤ hd s) (hm : ∀ y y', y ≤ y' → h y ≤ h y') (T : TBs N t0 fn s2 hv r0 r1 r2 r3 x0 n1 h P Q F G X) (hx : PXk N P F X fn s2 r1 = true) (h21 : r2 ≤ r1) (h32 : r3 ≤ r2) (ih : SGh N t0 n1 s2 h E P X X7 Z hd f) (w : TWf (f + 1) Γ.length (Δ.map (fun a => a.1)) t) (he : TE Γ Δ) (co : COk (f + 1) t π.length) (nq : NQk (f + 1) t (cnS π)) (hc1 : cnS π ≤ 1) (aq : AQh t0 n1 s2 h E Z (f + 1) t π ω) (hl : ω.length = Γ.length) (hw : ∀ j, j < ω.length → vw ω j ≤ X.getD cv 0) (hzm : zm π ≤ X.getD cv 0) (hzs : hs π = true → zm π ≤ Z (s0 + 1) ∧ 2 ≤ s0) (hz0 : hs π = false → s0 = 0) (hX : ∀ s, X7 ≤ hd s) (hdc : dch Δ ≤ cd) (hcd : 2 ≤ cd) (hb : cv + cd + 2 * mch t ≤ N) (c8 : nKd t = 8) : (π = [] → BGh P hd (bqk (f + 1) t 0) (cv + cd) (mch t) (GSk t0 n1 s2 h E (f + 1) t [] ω Γ Δ)) ∧ (π ≠ [] → LRh P hd X7 (bqk (f + 1) t π.length) (cv + cd) s0 (mch t) (GSk t0 n1 s2 h E (f + 1) t π ω Γ Δ)) := by sorry
theorem SH_9 (hEm : ∀ q ρ, E ρ ≤ E (q :: ρ)) (hE0 : ∀ ρ, hs ρ = false → E ρ ≤ X7) (hE1 : ∀ ρ s, cnS ρ ≤ 1 → hs ρ = true → zm ρ ≤ Z s → E ρ ≤ hd s) (hm : ∀ y y', y ≤ y' → h y ≤ h y') (T : TBs N t0 fn s2 hv r0 r1 r2 r3 x0 n1 h P Q F G X) (hx : PXk N P F X fn s2 r1 = true) (h21 : r2 ≤ r1) (h32 : r3 ≤ r2) (ih : SGh N t0 n1 s2 h E P X X7 Z hd f) (w : TWf (f + 1) Γ.length (Δ.map (fun a => a.1)) t) (he : TE Γ Δ) (co : COk (f + 1) t π.length) (nq : NQk (f + 1) t (cnS π)) (hc1 : cnS π ≤ 1) (aq : AQh t0 n1 s2 h E Z (f + 1) t π ω) (hl : ω.length = Γ.length) (hw : ∀ j, j < ω.length → vw ω j ≤ X.getD cv 0) (hzm : zm π ≤ X.getD cv 0) (hzs : hs π = true → zm π ≤ Z (s0 + 1) ∧ 2 ≤ s0) (hz0 : hs π = false → s0 = 0) (hX : ∀ s, X7 ≤ hd s) (hdc : dch Δ ≤ cd) (hcd : 2 ≤ cd) (hb : cv + cd + 2 * mch t ≤ N) (c9 : nKd t = 9) : (π = [] → BGh P hd (bqk (f + 1) t 0) (cv + cd) (mch t) (GSk t0 n1 s2 h E (f + 1) t [] ω Γ Δ)) ∧ (π ≠ [] → LRh P hd X7 (bqk (f + 1) t π.length) (cv + cd) s0 (mch t) (GSk t0 n1 s2 h E (f + 1) t π ω Γ Δ)) := by sorry
theorem SH_10 (hEm : ∀ q ρ, E ρ ≤ E (q :: ρ)) (hE0 : ∀ ρ, hs ρ = false → E ρ ≤ X7) (hE1 : ∀ ρ s, cnS ρ ≤ 1 → hs ρ = true → zm ρ ≤ Z s → E ρ ≤ hd s) (hm : ∀ y y', y ≤ y' → h y ≤ h y') (T : TBs N t0 fn s2 hv r0 r1 r2 r3 x0 n1 h P Q F G X) (hx : PXk N P F X fn s2 r1 = true) (h21 : r2 ≤ r1) (h32 : r3 ≤ r2) (ih : SGh N t0 n1 s2 h E P X X7 Z hd f) (w : TWf (f + 1) Γ.length (Δ.map (fun a => a.1)) t) (he : TE Γ Δ) (co : COk (f + 1) t π.length) (nq : NQk (f + 1) t (cnS π)) (hc1 : cnS π ≤ 1) (aq : AQh t0 n1 s2 h E Z (f + 1) t π ω) (hl : ω.length = Γ.length) (hw : ∀ j, j < ω.length → vw ω j ≤ X.getD cv 0) (hzm : zm π ≤ X.getD cv 0) (hzs : hs π = true → zm π ≤ Z (s0 + 1) ∧ 2 ≤ s0) (hz0 : hs π = false → s0 = 0) (hX : ∀ s, X7 ≤ hd s) (hdc : dch Δ ≤ cd) (hcd : 2 ≤ cd) (hb : cv + cd + 2 * mch t ≤ N) (c10 : nKd t = 10) : (π = [] → BGh P hd (bqk (f + 1) t 0) (cv + cd) (mch t) (GSk t0 n1 s2 h E (f + 1) t [] ω Γ Δ)) ∧ (π ≠ [] → LRh P hd X7 (bqk (f + 1) t π.length) (cv + cd) s0 (mch t) (GSk t0 n1 s2 h E (f + 1) t π ω Γ Δ)) := by sorry
theorem SH_12 (hEm : ∀ q ρ, E ρ ≤ E (q :: ρ)) (hE0 : ∀ ρ, hs ρ = false → E ρ ≤ X7) (hE1 : ∀ ρ s, cnS ρ ≤ 1 → hs ρ = true → zm ρ ≤ Z s → E ρ ≤ hd s) (hm : ∀ y y', y ≤ y' → h y ≤ h y') (T : TBs N t0 fn s2 hv r0 r1 r2 r3 x0 n1 h P Q F G X) (hx : PXk N P F X fn s2 r1 = true) (h21 : r2 ≤ r1) (h32 : r3 ≤ r2) (ih : SGh N t0 n1 s2 h E P X X7 Z hd f) (w : TWf (f + 1) Γ.length (Δ.map (fun a => a.1)) t) (he : TE Γ Δ) (co : COk (f + 1) t π.length) (nq : NQk (f + 1) t (cnS π)) (hc1 : cnS π ≤ 1) (aq : AQh t0 n1 s2 h E Z (f + 1) t π ω) (hl : ω.length = Γ.length) (hw : ∀ j, j < ω.length → vw ω j ≤ X.getD cv 0) (hzm : zm π ≤ X.getD cv 0) (hzs : hs π = true → zm π ≤ Z (s0 + 1) ∧ 2 ≤ s0) (hz0 : hs π = false → s0 = 0) (hX : ∀ s, X7 ≤ hd s) (hdc : dch Δ ≤ cd) (hcd : 2 ≤ cd) (hb : cv + cd + 2 * mch t ≤ N) (c12 : nKd t = 12) : (π = [] → BGh P hd (bqk (f + 1) t 0) (cv + cd) (mch t) (GSk t0 n1 s2 h E (f + 1) t [] ω Γ Δ)) ∧ (π ≠ [] → LRh P hd X7 (bqk (f + 1) t π.length) (cv + cd) s0 (mch t) (GSk t0 n1 s2 h E (f + 1) t π ω Γ Δ)) := by sorry
end
theorem SH_le (hEm : ∀ q ρ, E ρ ≤ E (q :: ρ)) (hE0 : ∀ ρ, hs ρ = false → E ρ ≤ X7) (hE1 : ∀ ρ s, cnS ρ ≤ 1 → hs ρ = true → zm ρ ≤ Z s → E ρ ≤ hd s) (hm : ∀ y y', y ≤ y' → h y ≤ h y') (T : TBs N t0 fn s2 hv r0 r1 r2 r3 x0 n1 h P Q F G X) (hx : PXk N P F X fn s2 r1 = true) (h21 : r2 ≤ r1) (h32 : r3 ≤ r2) (hX : ∀ s, X7 ≤ hd s) : ∀ f, SGh N t0 n1 s2 h E P X X7 Z hd f := by sorry
end PmS4

end
section
-- from 99s05
section PmS5
variable {N t0 fn s2 hv r0 r1 r2 r3 x0 : Nat} {n1 h : Nat → Nat} {E : Stk → Nat} {P Q : List (List Nat)} {F G : FrT} {X : List Nat} {Z : Nat → Nat} {hb : Nat} {B C : Ty} {Γ0 : List Ty}
theorem GH_nat (hn : NC t0 n1 s2 h) (hm : ∀ y y', y ≤ y' → h y ≤ h y') : ∀ (f : Nat) (t : Ty) (π : Stk) (ω : List Nat) (Γ : List Ty) (Δ : List (Nat × Ty × Nat)), TWf f Γ.length (Δ.map (fun a => a.1)) t → TE Γ Δ → COk f t π.length → AQh t0 n1 s2 h E Z f t π ω → CV t0 n1 s2 h ω Γ → GOk t0 n1 s2 h E f t π ω Γ Δ := by sorry
theorem AH_triv : ∀ (f : Nat) (t : Ty) (π : Stk) (ω : List Nat), 5 ≤ nKd t ∧ nKd t ≤ 12 → (∀ D sc, TWf f D sc t → hasq f t = false → AQh t0 n1 s2 h E Z f t π ω) := by sorry
theorem AH_of (hm : ∀ y y', y ≤ y' → h y ≤ h y') (T : TBs N t0 fn s2 hv r0 r1 r2 r3 x0 n1 h P Q F G X) {L m0 : Nat} (hL : L ≤ 56) (hm0 : m0 ≤ 56) (hA : ∀ (A : Ty) (ω : List Nat), ok ω.length A = true → tch A + 2 ≤ m0 → (∀ j, j < ω.length → vw ω j ≤ X.getD L 0) → (∀ ρ, ρ ≠ [] → vz t0 n1 s2 h E A ρ ω ≤ E ρ) ∧ nz t0 n1 s2 h ω A ≤ Z (tch A + 2)) : ∀ (f : Nat) (t : Ty) (π : Stk) (ω : List Nat) (Γ : List Ty) (sc : List Nat) (cv : Nat), TWf f Γ.length sc t → ω.length = Γ.length → (∀ j, j < ω.length → vw ω j ≤ X.getD cv 0) → zm π ≤ X.getD cv 0 → (hasq f t = true → cv + gqk f t ≤ L) → mch t ≤ m0 → AQh t0 n1 s2 h E Z f t π ω := by sorry
end PmS5

end
section
-- from 99s06
def Eh (X7 EA p pb EB p2 : Nat) (π : Stk) : Nat := if hs π = true then max X7 (max (EA + (if cnS π ≤ 1 then p else pb) * zm π) (EB + p2 * zm π)) else X7
def hdh (X7 EA p EB p2 : Nat) (Z : Nat → Nat) (s : Nat) : Nat := max X7 (max (EA + p * Z s) (EB + p2 * Z s))
section PmS6
variable {t0 s2 X7 EA p pb EB p2 : Nat} {n1 h : Nat → Nat} {Z : Nat → Nat}
theorem hs_tail (q : Option Nat) (ρ : Stk) (e : hs ρ = true) : hs (q :: ρ) = true := by sorry
theorem Eh_0 (ρ : Stk) : X7 ≤ Eh X7 EA p pb EB p2 ρ := by sorry
theorem Eh_n (ρ : Stk) (e : hs ρ = false) : Eh X7 EA p pb EB p2 ρ ≤ X7 := by sorry
theorem Eh_B (ρ : Stk) (e : hs ρ = true) : EB + p2 * zm ρ ≤ Eh X7 EA p pb EB p2 ρ := by sorry
theorem Eh_A (hp : p ≤ pb) (ρ : Stk) (e : hs ρ = true) : EA + p * zm ρ ≤ Eh X7 EA p pb EB p2 ρ := by sorry
theorem Eh_1 (ρ : Stk) (s : Nat) (c : cnS ρ ≤ 1) (e : hs ρ = true) (hz : zm ρ ≤ Z s) : Eh X7 EA p pb EB p2 ρ ≤ hdh X7 EA p EB p2 Z s := by sorry
theorem Eh_m (hp : p ≤ pb) (q : Option Nat) (ρ : Stk) : Eh X7 EA p pb EB p2 ρ ≤ Eh X7 EA p pb EB p2 (q :: ρ) := by sorry
theorem vz_lh (hp : p ≤ pb) (hm : ∀ y y', y ≤ y' → h y ≤ h y') (hh : ∀ y δ, h (y + δ) ≤ h y + δ) {t : Ty} {ω : List Nat} (o : ok ω.length t = true) (hv : nz t0 n1 s2 h ω t ≤ X7) (hl : nsch t = true ∨ (nz t0 n1 s2 h ω t ≤ EB ∧ flv t ≤ p2)) (ρ : Stk) : vz t0 n1 s2 h (Eh X7 EA p pb EB p2) t ρ ω ≤ Eh X7 EA p pb EB p2 ρ := by sorry
theorem vz_sh (hp : p ≤ pb) (hm : ∀ y y', y ≤ y' → h y ≤ h y') (hh : ∀ y δ, h (y + δ) ≤ h y + δ) {B C : Ty} {ω : List Nat} (o : ok ω.length (tAll B C) = true) (hv : nz t0 n1 s2 h ω (tAll B C) ≤ EA) (hpb : flv (tAll B C) ≤ pb) (hz : ∀ z, nz t0 n1 s2 h (hzx h z (nz t0 n1 s2 h ω B) :: ω) C ≤ EA + p * z) (ρ : Stk) (hρ : ρ ≠ []) : vz t0 n1 s2 h (Eh X7 EA p pb EB p2) (tAll B C) ρ ω ≤ Eh X7 EA p pb EB p2 ρ := by sorry
def BEh (t0 : Nat) (n1 : Nat → Nat) (s2 : Nat) (h : Nat → Nat) (X7 EA p pb EB p2 : Nat) : List Ty → List Nat → Prop
  | [], [] => True
  | b :: Γ, _ :: ω => ((nz t0 n1 s2 h ω b ≤ X7 ∧ (nsch b = true ∨ (nz t0 n1 s2 h ω b ≤ EB ∧ flv b ≤ p2))) ∨ ∃ B C, b = tAll B C ∧ nz t0 n1 s2 h ω b ≤ EA ∧ flv b ≤ pb ∧ ∀ z, nz t0 n1 s2 h (hzx h z (nz t0 n1 s2 h ω B) :: ω) C ≤ EA + p * z) ∧ BEh t0 n1 s2 h X7 EA p pb EB p2 Γ ω
  | _, _ => False
theorem BEh.he (hp : p ≤ pb) (hm : ∀ y y', y ≤ y' → h y ≤ h y') (hh : ∀ y δ, h (y + δ) ≤ h y + δ) : ∀ {Γ : List Ty} {ω : List Nat}, okc Γ → ω.length = Γ.length → BEh t0 n1 s2 h X7 EA p pb EB p2 Γ ω → HEk t0 n1 s2 h (Eh X7 EA p pb EB p2) Γ ω := by sorry
end PmS6

end
section
-- from 99s07
def fg1 : FrT := [[(1, 0)], [(1, 0)], [(1, 0)], [(1, 0)], [(1, 0)], [(1, 1)], [(1, 3)], [(1, 3)], [(1, 3)], [(1, 5), (2, 3)], [(1, 5), (2, 3)], [(1, 7), (2, 3)], [(1, 7), (2, 5)], [(1, 7), (3, 5)], [(1, 9), (2, 8), (3, 5)], [(2, 12), (3, 5)], [(2, 12), (3, 7)], [(1, 13), (2, 12), (4, 7)], [(2, 16), (4, 12)], [(3, 17), (4, 12)], [(2, 20), (3, 17), (4, 12)], [(2, 21), (3, 17), (4, 16), (5, 9)], [(3, 23), (6, 17)], [(2, 24), (3, 23), (4, 22), (6, 17)], [(4, 30), (6, 17)], [(4, 30), (6, 23)], [(2, 32), (4, 30), (9, 23)], [(4, 38), (6, 32), (8, 30), (9, 23)], [(6, 44), (8, 30), (9, 23)], [(4, 46), (6, 44), (8, 30), (9, 29)], [(4, 48), (6, 44), (8, 38), (12, 30)], [(6, 56), (12, 44)], [(9, 59), (12, 44)], [(6, 68), (8, 66), (9, 59), (12, 44)], [(6, 71), (8, 66), (9, 59), (12, 56), (16, 38)], [(9, 77), (18, 59)], [(8, 82), (12, 78), (16, 66), (18, 59)], [(12, 98), (16, 66), (18, 59)], [(12, 98), (18, 77), (20, 47)]]
def fgq : FrT := [[(1, 0)], [(1, 0)], [(1, 0)], [(1, 0)], [(1, 0)], [(1, 1)], [(1, 1)], [(1, 1)], [(1, 4)], [(1, 4), (2, 1)], [(1, 4), (2, 1)], [(1, 7), (2, 2)], [(1, 7), (2, 4)], [(1, 7), (2, 4), (3, 2)], [(1, 10), (2, 5), (3, 2)], [(1, 10), (2, 7), (3, 3)], [(1, 10), (2, 7), (3, 5)], [(1, 13), (2, 10), (3, 5), (4, 3)], [(1, 13), (2, 10), (3, 6), (4, 4)], [(1, 13), (2, 11), (3, 8), (4, 4)], [(2, 16), (3, 8), (4, 6)], [(2, 16), (3, 15), (4, 10), (5, 4)], [(2, 17), (3, 15), (4, 10), (6, 6)], [(2, 22), (3, 16), (4, 12), (6, 6)], [(3, 24), (4, 16), (6, 9)], [(3, 24), (4, 20), (6, 15)], [(2, 28), (3, 25), (4, 22), (6, 15), (9, 9)], [(3, 33), (4, 22), (6, 18), (8, 10), (9, 9)], [(3, 33), (4, 32), (6, 24), (9, 12)], [(4, 34), (5, 25), (6, 24), (8, 20), (9, 18)], [(3, 42), (4, 34), (6, 33), (8, 22), (9, 18), (12, 12)], [(4, 44), (6, 33), (8, 24), (9, 21), (12, 15)], [(4, 46), (5, 40), (6, 36), (8, 32), (9, 27), (12, 16)], [(6, 51), (8, 34), (9, 27), (10, 25), (12, 24)], [(4, 56), (6, 51), (9, 48), (12, 33), (16, 16)], [(4, 58), (5, 55), (6, 54), (9, 48), (12, 33), (18, 21)], [(6, 69), (9, 51), (10, 40), (12, 39), (16, 22), (18, 21)], [(9, 75), (12, 51), (18, 30)], [(9, 75), (12, 64), (18, 48), (20, 20)]]
def fgc (F W : FrT) (hv : Nat) : Bool := (List.range 39).all (fun r => (List.range (34 - r)).all (fun i => (frg W r).all (fun e => (frg F (i + 1)).all (fun u => dom (max e.1 (u.1 * e.1)) (max e.2 (hv + (u.2 + u.1 * e.2))) (frg W (r + (i + 1) + 4))))))
theorem fg1_ok : fgc fr1 fg1 1 = true := by sorry
theorem fgq_ok : fgc frq fgq 0 = true := by sorry
theorem fgc_s {F W : FrT} {hv : Nat} (h : fgc F W hv = true) {r k : Nat} (k1 : 1 ≤ k) (hk : r + k + 4 ≤ 38) {e u : Nat × Nat} (he : e ∈ frg W r) (hu : u ∈ frg F k) : ∃ q ∈ frg W (r + k + 4), max e.1 (u.1 * e.1) ≤ q.1 ∧ max e.2 (hv + (u.2 + u.1 * e.2)) ≤ q.2 := by sorry
section PmS8
variable {N t0 fn s2 hv r0 r1 r2 r3 x0 : Nat} {n1 h : Nat → Nat} {P Q : List (List Nat)} {F G W : FrT} {X : List Nat} {Γ0 : List Ty} {β : Ty} {y : Nat}
theorem val_any (T : TBs N t0 fn s2 hv r0 r1 r2 r3 x0 n1 h P Q F G X) {ω : List Nat} {A : Ty} (o : ok ω.length A = true) (hk : tch A ≤ 56) (hy : x0 ≤ y) (hw : ∀ j, j < ω.length → vw ω j ≤ y) : ∃ p ∈ frg F (tch A), nz t0 n1 s2 h ω A ≤ p.2 + p.1 * y := by sorry
theorem onz_gr (T : TBs N t0 fn s2 hv r0 r1 r2 r3 x0 n1 h P Q F G X) (hg : fgc F W hv = true) (hW : (1, 0) ∈ frg W 0) (hy : x0 ≤ y) (h0 : ∀ j, j < (β :: Γ0).length → vw (onz t0 n1 s2 h (β :: Γ0)) j ≤ y) : ∀ (Δ : List Ty), okc (cxs Δ Γ0 β) → cch Δ ≤ 38 → ∃ e ∈ frg W (cch Δ), 1 ≤ e.1 ∧ ∀ j, j < (cxs Δ Γ0 β).length → vw (onz t0 n1 s2 h (cxs Δ Γ0 β)) j ≤ e.2 + e.1 * y := by sorry
end PmS8

end
section
-- from 99s08
def hck (hd : Nat → Nat) (R : Nat) : Nat → Nat → Nat → Bool
  | 0, _, V => Nat.ble V R
  | n + 1, s, V => (List.range (s + 1)).all (fun x => Nat.blt x 3 || hck hd R n (s - x) (V + hd x))
theorem hck_le {hd : Nat → Nat} {R : Nat} : ∀ (l : List Nat) (V : Nat), (∀ x ∈ l, 3 ≤ x) → hck hd R l.length l.sum V = true → V + (l.map hd).sum ≤ R := by sorry
def natH (P : List (List Nat)) (hd : Nat → Nat) (b c m R : Nat) : Bool := Nat.ble (pg0 P c m) R && (List.range 4).all (fun n => Nat.beq n 0 || (List.range (m + 1)).all (fun s => Nat.blt m (s + b) || (Nat.blt s (3 * n) || (Nat.blt (m + 2) (5 * n) || (Nat.beq (m - s) 1 || hck hd R n s (pg0 P c (m - s)))))))
theorem natH_le {P : List (List Nat)} {hd : Nat → Nat} {b c m R v : Nat} (h : natH P hd b c m R = true) (hm : m ≤ 17) (g : BGh P hd b c m v) : v ≤ R := by sorry
end
section
-- from 99s09
section PmS9
variable {t0 s2 X7 EA p pb EB p2 y : Nat} {n1 h : Nat → Nat} {B C : Ty} {Γ0 : List Ty}
theorem BEh_onz (hn : NC t0 n1 s2 h) (h7 : y ≤ X7) : ∀ {Γ : List Ty}, (∀ j, j < Γ.length → vw (onz t0 n1 s2 h Γ) j ≤ y) → (∀ b ∈ Γ, nsch b = true ∨ (y ≤ EB ∧ flv b ≤ p2)) → BEh t0 n1 s2 h X7 EA p pb EB p2 Γ (onz t0 n1 s2 h Γ) := by sorry
theorem BEh_cut (hn : NC t0 n1 s2 h) (h7 : y ≤ X7) {β' : Ty} (hA : nz t0 n1 s2 h (onz t0 n1 s2 h Γ0) (tAll B C) ≤ EA ∧ flv (tAll B C) ≤ pb ∧ ∀ z, nz t0 n1 s2 h (hzx h z (nz t0 n1 s2 h (onz t0 n1 s2 h Γ0) B) :: onz t0 n1 s2 h Γ0) C ≤ EA + p * z) (hp0 : ∀ b ∈ Γ0, nsch b = true ∨ (y ≤ EB ∧ flv b ≤ p2)) : ∀ (Δ1 : List Ty), (∀ j, j < (cxs Δ1 Γ0 β').length → vw (onz t0 n1 s2 h (cxs Δ1 Γ0 β')) j ≤ y) → (∀ b ∈ Δ1, nsch b = true ∨ (y ≤ EB ∧ flv b ≤ p2)) → BEh t0 n1 s2 h X7 EA p pb EB p2 (cxs Δ1 Γ0 (tAll B C)) (onz t0 n1 s2 h (cxs Δ1 Γ0 β')) := by sorry
end PmS9

end
section
-- from 99s10
def Zx (F : FrT) (x s : Nat) : Nat := (frg F (s - 2)).foldr (fun u a => max (u.2 + u.1 * x) a) 0
theorem Zx_mem {x : Nat} : ∀ (l : List (Nat × Nat)) (u : Nat × Nat), u ∈ l → u.2 + u.1 * x ≤ l.foldr (fun u a => max (u.2 + u.1 * x) a) 0 := by sorry
section PmS10
variable {N t0 fn s2 hv r0 r1 r2 r3 x0 X7 x : Nat} {n1 h : Nat → Nat} {E : Stk → Nat} {P Q : List (List Nat)} {F G : FrT} {X : List Nat}
theorem Zx_le (T : TBs N t0 fn s2 hv r0 r1 r2 r3 x0 n1 h P Q F G X) {ω : List Nat} {A : Ty} (o : ok ω.length A = true) (hk : tch A ≤ 56) (hy : x0 ≤ x) (hw : ∀ j, j < ω.length → vw ω j ≤ x) : nz t0 n1 s2 h ω A ≤ Zx F x (tch A + 2) := by sorry
end PmS10

end
section
-- from 99t01
section PmT1
variable {hb : Nat} {B C : Ty} {Γ0 : List Ty} {t0 s2 : Nat} {n1 h : Nat → Nat}
theorem noh_upart {r : Ty → Ty → Ru} {set m m' i : Nat} {x y a : Ty} (hr : bit m i = true → bit m' i = true → ∀ R, r x y = some R → noh hb R = true) (hx : noh hb x = true) (hy : noh hb y = true) (e : upart r set m m' i x y = some a) : noh hb a = true := by sorry
def GuG (hb : Nat) (B C : Ty) (Γ0 : List Ty) (t0 : Nat) (n1 : Nat → Nat) (s2 : Nat) (h : Nat → Nat) (f : Nat) : Prop := ∀ (w : Nat) (Δ : List Ty) (S T R : Ty) (ω : List Nat), w ≤ 1 → SGc hb B C tTop Γ0 Δ → CV t0 n1 s2 h ω (cxs Δ Γ0 (tAll B tTop)) → tok (cxs Δ Γ0 (tAll B C), S, T) → noh hb S = true → noh hb T = true → cu f w (cxs Δ Γ0 (tAll B C)) S T = some R → noh hb R = true ∧ nz t0 n1 s2 h ω R ≤ nz t0 n1 s2 h ω S + nz t0 n1 s2 h ω T
def GuL (hb : Nat) (B C : Ty) (Γ0 : List Ty) (t0 : Nat) (n1 : Nat → Nat) (s2 : Nat) (h : Nat → Nat) (f : Nat) : Prop := ∀ (Δ : List Ty) (T R : Ty) (ω : List Nat), SGc hb B C tTop Γ0 Δ → CV t0 n1 s2 h ω (cxs Δ Γ0 (tAll B tTop)) → ok (cxs Δ Γ0 (tAll B C)).length T = true → noh hb T = true → bel (cxs Δ Γ0 (tAll B C)) T (tVar Γ0.length) = false → (cu f 0 (cxs Δ Γ0 (tAll B C)) (upb Γ0 Δ (tAll B C)) T = some R ∨ (¬ 16 ≤ hd T ∧ cu f 0 (cxs Δ Γ0 (tAll B C)) T (upb Γ0 Δ (tAll B C)) = some R)) → noh hb R = true ∧ nz t0 n1 s2 h ω R ≤ nz t0 n1 s2 h ω T
theorem SGc.vexp {Δ : List Ty} {ω : List Nat} (s : SGc hb B C tTop Γ0 Δ) (hv : CV t0 n1 s2 h ω (cxs Δ Γ0 (tAll B tTop))) {j : Nat} (hj : j < (cxs Δ Γ0 (tAll B C)).length) (ne : j ≠ Γ0.length) : nz t0 n1 s2 h ω (lft j ((cxs Δ Γ0 (tAll B C)).length - j) (bnd (cxs Δ Γ0 (tAll B C)) j)) ≤ vw ω j := by sorry
theorem guL_step (hn : NC t0 n1 s2 h) {f : Nat} (ihL : GuL hb B C Γ0 t0 n1 s2 h f) : GuL hb B C Γ0 t0 n1 s2 h (f + 1) := by sorry
theorem guG_step (hn : NC t0 n1 s2 h) {f : Nat} (ihG : GuG hb B C Γ0 t0 n1 s2 h f) (ihL : GuL hb B C Γ0 t0 n1 s2 h f) : GuG hb B C Γ0 t0 n1 s2 h (f + 1) := by sorry
theorem cu_gone (hn : NC t0 n1 s2 h) : ∀ f, GuG hb B C Γ0 t0 n1 s2 h f ∧ GuL hb B C Γ0 t0 n1 s2 h f := by sorry
theorem cmu_gone (hn : NC t0 n1 s2 h) {w : Nat} {Δ : List Ty} {S T R : Ty} {ω : List Nat} (w3 : w ≤ 1) (s : SGc hb B C tTop Γ0 Δ) (hv : CV t0 n1 s2 h ω (cxs Δ Γ0 (tAll B tTop))) (tk : tok (cxs Δ Γ0 (tAll B C), S, T)) (nS : noh hb S = true) (nT : noh hb T = true) (e : cmu w (cxs Δ Γ0 (tAll B C)) S T = some R) : noh hb R = true ∧ nz t0 n1 s2 h ω R ≤ nz t0 n1 s2 h ω S + nz t0 n1 s2 h ω T := by sorry
end PmT1

end
section
-- from 99t02
section PmT2
variable {hb : Nat}
theorem noh_sbt (h16 : hb < 16) {n : Nat} {A : Ty} (oA : ok n A = true) (nA : noh hb A = true) : ∀ (f : Nat) (t : Ty) (μ : Nat), (flat t).length ≤ f → ok (n + 1 + μ) t = true → noal t = true → noh hb t = true → noh hb (sbt n A μ t) = true ∧ (hd t < 16 → hd (sbt n A μ t) = hd t) := by sorry
end PmT2
def NHt (hb : Nat) : Nat → Ty → Prop
  | 0, _ => True
  | f + 1, t => (nKd t = 6 → noh hb (nX t) = true ∧ NHt hb f (nY t)) ∧ (nKd t = 7 ∨ nKd t = 12 → NHt hb f (nX t) ∧ NHt hb f (nY t)) ∧ (nKd t = 8 → (noh hb (nX t) = true ∧ hd (nX t) ≠ hb) ∧ NHt hb f (nY t)) ∧ (nKd t = 9 → NHt hb f (nX t) ∧ noh hb (nY t) = true) ∧ (nKd t = 10 → ∀ g, g < 3 → bit (nMk t) g = true → NHt hb f (nP t g)) ∧ (nKd t = 11 → NHt hb f (nX t))
section PmT3
variable {hb : Nat} {B C : Ty} {Γ0 : List Ty}
theorem noh_expo {Δ1 : List Ty} (s : SGc hb B C tTop Γ0 Δ1) : ∀ (f : Nat) (S : Ty), ok (cxs Δ1 Γ0 (tAll B C)).length S = true → noh hb S = true → noh hb (expo (cxs Δ1 Γ0 (tAll B C)) f S) = true ∨ expo (cxs Δ1 Γ0 (tAll B C)) f S = upb Γ0 Δ1 (tAll B C) := by sorry
theorem noh_upC {Δ1 : List Ty} (s : SGc hb B C tTop Γ0 Δ1) (nC : noh hb C = true) : noh hb (upb Γ0 Δ1 C) = true := by sorry
theorem tyF_noh (nC : noh hb C = true) : ∀ (f : Nat) (t : Ty) (Δ1 : List Ty) (Δ : List (Nat × Ty × Nat)) (A : Ty), TWf f (cxs Δ1 Γ0 (tAll B C)).length (Δ.map (fun a => a.1)) t → TE (cxs Δ1 Γ0 (tAll B C)) Δ → NHt hb f t → NAt f t → noac (cxs Δ1 Γ0 (tAll B C)) → SGc hb B C tTop Γ0 Δ1 → (∀ a ∈ Δ, noh hb a.2.1 = true ∧ noal a.2.1 = true) → tyF f t (cxs Δ1 Γ0 (tAll B C)) Δ = .inr A → noh hb A = true := by sorry
end PmT3

end
section
-- from 99t03
section PmT4
variable {N t0 fn s2 hv r0 r1 r2 r3 x0 E0 p hb : Nat} {n1 h : Nat → Nat} {P Q : List (List Nat)} {F G : FrT} {X : List Nat} {Z : Nat → Nat} {B C : Ty} {Γ0 : List Ty}
theorem GO_gone (hn : NC t0 n1 s2 h) (hm : ∀ y y', y ≤ y' → h y ≤ h y') (hh : ∀ y δ, h (y + δ) ≤ h y + δ) (nC : noh hb C = true) : ∀ (f : Nat) (t : Ty) (π : Stk) (ω : List Nat) (Δ1 : List Ty) (Δ : List (Nat × Ty × Nat)), TWf f (cxs Δ1 Γ0 (tAll B C)).length (Δ.map (fun a => a.1)) t → TE (cxs Δ1 Γ0 (tAll B C)) Δ → COk f t π.length → AQk t0 n1 s2 h E0 p Z f t π ω → CV t0 n1 s2 h ω (cxs Δ1 Γ0 (tAll B tTop)) → NHt hb f t → NAt f t → noac (cxs Δ1 Γ0 (tAll B C)) → SGc hb B C tTop Γ0 Δ1 → (∀ a ∈ Δ, noh hb a.2.1 = true ∧ noal a.2.1 = true) → GOk t0 n1 s2 h (Ek E0 p) f t π ω (cxs Δ1 Γ0 (tAll B C)) Δ := by sorry
theorem BEk_gone (hn : NC t0 n1 s2 h) {β' : Ty} (hA : nz t0 n1 s2 h (onz t0 n1 s2 h Γ0) (tAll B C) ≤ E0 ∧ flv (tAll B C) ≤ p) (hp0 : ∀ b ∈ Γ0, nsch b = true ∨ flv b ≤ p) : ∀ (Δ1 : List Ty), (∀ j, j < (cxs Δ1 Γ0 β').length → vw (onz t0 n1 s2 h (cxs Δ1 Γ0 β')) j ≤ E0) → (∀ b ∈ Δ1, nsch b = true ∨ flv b ≤ p) → BEk t0 n1 s2 h E0 p (cxs Δ1 Γ0 (tAll B C)) (onz t0 n1 s2 h (cxs Δ1 Γ0 β')) := by sorry
theorem gone_BF (hn : NC t0 n1 s2 h) (hm : ∀ y y', y ≤ y' → h y ≤ h y') (hh : ∀ y δ, h (y + δ) ≤ h y + δ) (T : TBs N t0 fn s2 hv r0 r1 r2 r3 x0 n1 h P Q F G X) (hx : PXk N P F X fn s2 r1 = true) (h21 : r2 ≤ r1) (h32 : r3 ≤ r2) (hz : ZOk Z) (nC : noh hb C = true) {f : Nat} {t S : Ty} {Δ1 : List Ty} {Δ : List (Nat × Ty × Nat)} {cv cd L : Nat} (w : TWf f (cxs Δ1 Γ0 (tAll B C)).length (Δ.map (fun a => a.1)) t) (he : TE (cxs Δ1 Γ0 (tAll B C)) Δ) (co : COk f t 0) (nh : NHt hb f t) (na : NAt f t) (hc : noac (cxs Δ1 Γ0 (tAll B C))) (s : SGc hb B C tTop Γ0 Δ1) (hd' : ∀ a ∈ Δ, noh hb a.2.1 = true ∧ noal a.2.1 = true) (hS : tyF f t (cxs Δ1 Γ0 (tAll B C)) Δ = .inr S) (hdc : dch Δ ≤ cd) (hcd : 2 ≤ cd) (hbb : cv + cd + 2 * mch t ≤ N) (hL : L ≤ 56) (hg : hasq f t = true → cv + gqk f t ≤ L) (hZ : ∀ q, 1 ≤ q → q ≤ mch t → ∀ w ∈ frg F q, w.2 + w.1 * X.getD L 0 ≤ Z (q + 2)) (hE : Z (mch t) ≤ E0) (hw : ∀ j, j < (cxs Δ1 Γ0 (tAll B tTop)).length → vw (onz t0 n1 s2 h (cxs Δ1 Γ0 (tAll B tTop))) j ≤ X.getD cv 0) (hP : ∀ (A : Ty) (d : Nat), ok d A = true → tch A ≤ mch t → flv A ≤ p) (hB : BEk t0 n1 s2 h E0 p (cxs Δ1 Γ0 (tAll B C)) (onz t0 n1 s2 h (cxs Δ1 Γ0 (tAll B tTop)))) : BF P E0 p Z (cv + cd) (mch t) (nz t0 n1 s2 h (onz t0 n1 s2 h (cxs Δ1 Γ0 (tAll B tTop))) S) := by sorry
end PmT4

end
section
-- from 99t04
def goneR (k r1 r2 g ob cd m : Nat) : Bool := (frg fr1 k).all (fun v =>
  Nat.ble (lstX fx1 (max (max 2 (fx1.getD r1 0)) 4) + r2 + g) 56 && (Nat.ble (lstX fx1 (max (max 2 (fx1.getD r1 0)) 4) + r2 + cd + 2 * m) 58 &&
  natB pp1 (Zr (fx1.getD (lstX fx1 (max (max 2 (fx1.getD r1 0)) 4) + r2 + g) 0)) (lstX fx1 (max (max 2 (fx1.getD r1 0)) 4) + r2 + cd) m
    (max (fx1.getD (lstX fx1 (max (max 2 (fx1.getD r1 0)) 4) + r2) 0) (max (Zr (fx1.getD (lstX fx1 (max (max 2 (fx1.getD r1 0)) 4) + r2 + g) 0) m) (v.2 + v.1 * max 2 (fx1.getD r1 0))))
    (max (lmx fr1 k) (max (lmx fr1 m) ob)) 887))
def goneG (k r1 r2 g ob cd m : Nat) : Bool := (frg frq k).all (fun v =>
  Nat.ble (lstX fxq (max (max 1 (fxq.getD r1 0)) 2) + r2 + g) 56 && (Nat.ble (lstX fxq (max (max 1 (fxq.getD r1 0)) 2) + r2 + cd + 2 * m) 58 &&
  natB ppq (Zg (fxq.getD (lstX fxq (max (max 1 (fxq.getD r1 0)) 2) + r2 + g) 0)) (lstX fxq (max (max 1 (fxq.getD r1 0)) 2) + r2 + cd) m
    (max (fxq.getD (lstX fxq (max (max 1 (fxq.getD r1 0)) 2) + r2) 0) (max (Zg (fxq.getD (lstX fxq (max (max 1 (fxq.getD r1 0)) 2) + r2 + g) 0) m) (v.2 + v.1 * max 1 (fxq.getD r1 0))))
    (max (lmx fr1 k) (max (lmx fr1 m) ob)) 597))
def GoneT (B C : Ty) (Γ0 Δ1 : List Ty) (Δ : List (Nat × Ty × Nat)) (f : Nat) (t : Ty) : Prop := COk f t 0 ∧ tch (tAll B C) ≤ 56 ∧ mch t ≤ 21 ∧ ∃ g ob cd, (hasq f t = true → gqk f t ≤ g) ∧ (∀ b ∈ Γ0, nsch b = true ∨ flv b ≤ ob) ∧ (∀ b ∈ Δ1, nsch b = true ∨ flv b ≤ ob) ∧ cch Γ0 ≤ 56 ∧ dch Δ ≤ cd ∧ 2 ≤ cd ∧ goneR (tch (tAll B C)) (cch Γ0) (cch Δ1) g ob cd (mch t) = true ∧ goneG (tch (tAll B C)) (cch Γ0) (cch Δ1) g ob cd (mch t) = true
section PmT5
variable {hb f : Nat} {t S B C : Ty} {Γ0 Δ1 : List Ty} {Δ : List (Nat × Ty × Nat)}
theorem gone_rows (b : Bool) (nC : noh hb C = true) (w : TWf f (cxs Δ1 Γ0 (tAll B C)).length (Δ.map (fun a => a.1)) t) (he : TE (cxs Δ1 Γ0 (tAll B C)) Δ) (cu : GoneT B C Γ0 Δ1 Δ f t) (nh : NHt hb f t) (na : NAt f t) (hc : noac (cxs Δ1 Γ0 (tAll B C))) (s : SGc hb B C tTop Γ0 Δ1) (hd' : ∀ a ∈ Δ, noh hb a.2.1 = true ∧ noal a.2.1 = true) (hS : tyF f t (cxs Δ1 Γ0 (tAll B C)) Δ = .inr S) : nz 0 (fun _ => 1 + 1) (2 + 1) (vlr b 1) (onz 0 (fun _ => 1 + 1) (2 + 1) (vlr b 1) (cxs Δ1 Γ0 (tAll B tTop))) S ≤ 887 := by sorry
theorem gone_goals (nC : noh hb C = true) (w : TWf f (cxs Δ1 Γ0 (tAll B C)).length (Δ.map (fun a => a.1)) t) (he : TE (cxs Δ1 Γ0 (tAll B C)) Δ) (cu : GoneT B C Γ0 Δ1 Δ f t) (nh : NHt hb f t) (na : NAt f t) (hc : noac (cxs Δ1 Γ0 (tAll B C))) (s : SGc hb B C tTop Γ0 Δ1) (hd' : ∀ a ∈ Δ, noh hb a.2.1 = true ∧ noal a.2.1 = true) (hS : tyF f t (cxs Δ1 Γ0 (tAll B C)) Δ = .inr S) : nz 1 ngc 1 (fun x => x) (onz 1 ngc 1 (fun x => x) (cxs Δ1 Γ0 (tAll B tTop))) S ≤ 597 := by sorry
end PmT5
section PmT6
variable {hb e : Nat} {S T B C : Ty} {Γ0 Δ1 : List Ty}
theorem LJ_goneS (s : SGc hb B C tTop Γ0 Δ1) (e1 : 1 ≤ e) (tb : TB e (cxs Δ1 Γ0 (tAll B C), S, T)) (nS : noh hb S = true) (nT : noh hb T = true) (hx : cch (cxs Δ1 Γ0 (tAll B C)) ≤ 56) (lS : (flat S).length ≤ 16) (lT : (flat T).length ≤ 16) (q1 : nz 0 (fun _ => 1 + e) (2 + e) (vlr true e) (onz 0 (fun _ => 1 + e) (2 + e) (vlr true e) (cxs Δ1 Γ0 (tAll B tTop))) S ≤ 887) (q2 : nz 1 ngc 1 (fun x => x) (onz 1 ngc 1 (fun x => x) (cxs Δ1 Γ0 (tAll B tTop))) S ≤ 597) : LJ (cxs Δ1 Γ0 (tAll B C)) S T := by sorry
theorem LJ_goneT (s : SGc hb B C tTop Γ0 Δ1) (e1 : 1 ≤ e) (tb : TB e (cxs Δ1 Γ0 (tAll B C), S, T)) (nS : noh hb S = true) (nT : noh hb T = true) (hx : cch (cxs Δ1 Γ0 (tAll B C)) ≤ 56) (lS : (flat S).length ≤ 16) (lT : (flat T).length ≤ 16) (q1 : nz 0 (fun _ => 1 + e) (2 + e) (vlr false e) (onz 0 (fun _ => 1 + e) (2 + e) (vlr false e) (cxs Δ1 Γ0 (tAll B tTop))) T ≤ 887) (q2 : nz 1 ngc 1 (fun x => x) (onz 1 ngc 1 (fun x => x) (cxs Δ1 Γ0 (tAll B tTop))) T ≤ 597) : LJ (cxs Δ1 Γ0 (tAll B C)) S T := by sorry
theorem LB_gone (s : SGc hb B C tTop Γ0 Δ1) (tb : TB e (cxs Δ1 Γ0 (tAll B C), S, T)) (nS : noh hb S = true) (nT : noh hb T = true) (hx : cch (cxs Δ1 Γ0 (tAll B C)) ≤ 56) (lS : (flat S).length ≤ 16) (lT : (flat T).length ≤ 16) (q : (∃ b, nz 0 (fun _ => 1 + e) (2 + e) (vlr b e) (onz 0 (fun _ => 1 + e) (2 + e) (vlr b e) (cxs Δ1 Γ0 (tAll B tTop))) S ≤ 887) ∨ (∃ b, nz 0 (fun _ => 1 + e) (2 + e) (vlr b e) (onz 0 (fun _ => 1 + e) (2 + e) (vlr b e) (cxs Δ1 Γ0 (tAll B tTop))) T ≤ 887)) : LB (cxs Δ1 Γ0 (tAll B C)) S T := by sorry
variable {t0 s2 : Nat} {n1 h : Nat → Nat}
theorem expo_gonez {ω : List Nat} (s : SGc hb B C tTop Γ0 Δ1) (hv : CV t0 n1 s2 h ω (cxs Δ1 Γ0 (tAll B tTop))) : ∀ (f : Nat) (S : Ty), ok (cxs Δ1 Γ0 (tAll B C)).length S = true → hd (expo (cxs Δ1 Γ0 (tAll B C)) f S) = 1 → nz t0 n1 s2 h ω (expo (cxs Δ1 Γ0 (tAll B C)) f S) ≤ nz t0 n1 s2 h ω S := by sorry
end PmT6

end
section
-- from 99u01
theorem trf_up : ∀ (f : Nat) (z : Tsk), trf f z ≤ trf (f + 1) z := by sorry
theorem trf_trx {z : Tsk} (t : tok z) (f : Nat) : trf f z ≤ trx z := by sorry
section PmU1
variable (e : Nat) (B C D : Ty) (Γ0 : List Ty)
def EVb (Δ : List Ty) (f : Ty) : Prop := trx (upb Γ0 Δ B :: cxs Δ Γ0 (tAll B C), f, upb Γ0 Δ C) ≤ pmz (qu e) true (oq (qu e) (upb Γ0 Δ B :: cxs Δ Γ0 (tAll B D))) (upb Γ0 Δ D) ∧ trx (upb Γ0 Δ B :: cxs Δ Γ0 (tAll B C), upb Γ0 Δ C, f) ≤ pmz (qu e) true (oq (qu e) (upb Γ0 Δ B :: cxs Δ Γ0 (tAll B D))) (upb Γ0 Δ D) ∧ gm (0, upb Γ0 Δ B :: cxs Δ Γ0 (tAll B C), f, upb Γ0 Δ C) ≤ urm false e 0 (upb Γ0 Δ B :: cxs Δ Γ0 (tAll B D)) (upb Γ0 Δ D) ∧ gm (0, upb Γ0 Δ B :: cxs Δ Γ0 (tAll B C), upb Γ0 Δ C, f) ≤ urm true e 0 (upb Γ0 Δ B :: cxs Δ Γ0 (tAll B D)) (upb Γ0 Δ D)
def KPc (Kp : List Ty → Ty → Prop) : Prop := (ok (Γ0.length + 1) D = true ∧ hd D ≠ 0) ∧ ∀ Δ t, Kp Δ t → (∀ a b, t = tFun a b → Kp Δ a ∧ Kp Δ b) ∧ (∀ m x y z, m < 8 → t = tRec m x y z → (bit m 0 = true → Kp Δ x) ∧ (bit m 1 = true → Kp Δ y) ∧ (bit m 2 = true → Kp Δ z)) ∧ (∀ a b, t = tAll a b → Kp (a :: Δ) b) ∧ (∀ j, t = tVar j → j < (cxs Δ Γ0 (tAll B C)).length → j ≠ Γ0.length ∧ Kp Δ (lft j ((cxs Δ Γ0 (tAll B C)).length - j) (bnd (cxs Δ Γ0 (tAll B C)) j))) ∧ (∀ f, t = tAll (upb Γ0 Δ B) f → TB e (upb Γ0 Δ B :: cxs Δ Γ0 (tAll B C), f, upb Γ0 Δ C) → EVb e B C D Γ0 Δ f)
end PmU1
section PmU2
variable {e : Nat} {B C D : Ty} {Γ0 : List Ty} {Kp : List Ty → Ty → Prop}
theorem cxd_okc (oD : ok (Γ0.length + 1) D = true) : ∀ Δ : List Ty, okc (cxs Δ Γ0 (tAll B C)) → okc (cxs Δ Γ0 (tAll B D)) := by sorry
theorem cxd_exp {Δ : List Ty} {k : Nat} (ne : k ≠ Γ0.length) : lft k ((cxs Δ Γ0 (tAll B C)).length - k) (bnd (cxs Δ Γ0 (tAll B C)) k) = lft k ((cxs Δ Γ0 (tAll B D)).length - k) (bnd (cxs Δ Γ0 (tAll B D)) k) := by sorry
theorem TB_sw {Γ : List Ty} {S T : Ty} (tb : TB e (Γ, S, T)) : TB e (Γ, T, S) := by sorry
theorem trfV_up (K : KPc e B C D Γ0 Kp) (f : Nat) {Δ : List Ty} {S : Ty} (kS : Kp Δ S) (tb : TB e (cxs Δ Γ0 (tAll B C), upb Γ0 Δ (tAll B C), S)) : trf f (cxs Δ Γ0 (tAll B C), upb Γ0 Δ (tAll B C), S) ≤ pmz (qu e) true (oq (qu e) (cxs Δ Γ0 (tAll B D))) (upb Γ0 Δ (tAll B D)) := by sorry
theorem trfV (K : KPc e B C D Γ0 Kp) : ∀ (f : Nat) (Δ : List Ty) (S T : Ty), Kp Δ S → TB e (cxs Δ Γ0 (tAll B C), S, T) → trf f (cxs Δ Γ0 (tAll B C), T, S) ≤ pmz (qu e) true (oq (qu e) (cxs Δ Γ0 (tAll B D))) T ∧ (hd T ≠ 0 → trf f (cxs Δ Γ0 (tAll B C), S, T) + e ≤ chn (cl (cxs Δ Γ0 (tAll B C))) S + pmz (qu e) false (oq (qu e) (cxs Δ Γ0 (tAll B D))) T) := by sorry
end PmU2

end
section
-- from 99u02
section PmU3
variable {e : Nat} {B C D : Ty} {Γ0 : List Ty} {Kp : List Ty → Ty → Prop}
theorem trfV_upR (K : KPc e B C D Γ0 Kp) : ∀ (f : Nat) (Δ : List Ty) (S : Ty), Kp Δ S → TB e (cxs Δ Γ0 (tAll B C), S, upb Γ0 Δ (tAll B C)) → trf f (cxs Δ Γ0 (tAll B C), S, upb Γ0 Δ (tAll B C)) ≤ chn (cl (cxs Δ Γ0 (tAll B C))) S + (1 + pmz (qu e) true (oq (qu e) (upb Γ0 Δ B :: cxs Δ Γ0 (tAll B D))) (upb Γ0 Δ D)) := by sorry
theorem urm_D {b : Bool} {w : Nat} {Δ : List Ty} : urm b e w (cxs Δ Γ0 (tAll B D)) (upb Γ0 Δ (tAll B D)) = (2 + e) + urm b e w (upb Γ0 Δ B :: cxs Δ Γ0 (tAll B D)) (upb Γ0 Δ D) := by sorry
theorem okD (K : KPc e B C D Γ0 Kp) {Δ : List Ty} (hc : okc (cxs Δ Γ0 (tAll B C))) : okc (upb Γ0 Δ B :: cxs Δ Γ0 (tAll B D)) ∧ ok (upb Γ0 Δ B :: cxs Δ Γ0 (tAll B D)).length (upb Γ0 Δ D) = true := by sorry
theorem D_big (K : KPc e B C D Γ0 Kp) (e1 : 1 ≤ e) {b : Bool} {Δ : List Ty} (hc : okc (cxs Δ Γ0 (tAll B C))) : pmz (qu e) true (oq (qu e) (upb Γ0 Δ B :: cxs Δ Γ0 (tAll B D))) (upb Γ0 Δ D) ≤ urm b e 0 (upb Γ0 Δ B :: cxs Δ Γ0 (tAll B D)) (upb Γ0 Δ D) := by sorry
theorem gmV_upR (K : KPc e B C D Γ0 Kp) (e1 : 1 ≤ e) (f : Nat) {Δ : List Ty} {S : Ty} (kS : Kp Δ S) (nv : ¬ 16 ≤ hd S) (tb : TB e (cxs Δ Γ0 (tAll B C), S, upb Γ0 Δ (tAll B C))) : gmf f (0, cxs Δ Γ0 (tAll B C), S, upb Γ0 Δ (tAll B C)) ≤ 2 + urm false e 0 (upb Γ0 Δ B :: cxs Δ Γ0 (tAll B D)) (upb Γ0 Δ D) := by sorry
theorem gmV_upL (K : KPc e B C D Γ0 Kp) (e1 : 1 ≤ e) : ∀ (f : Nat) (Δ : List Ty) (S : Ty), Kp Δ S → TB e (cxs Δ Γ0 (tAll B C), upb Γ0 Δ (tAll B C), S) → gmf f (0, cxs Δ Γ0 (tAll B C), upb Γ0 Δ (tAll B C), S) ≤ chn (cl (cxs Δ Γ0 (tAll B C))) S + (2 + urm true e 0 (upb Γ0 Δ B :: cxs Δ Γ0 (tAll B D)) (upb Γ0 Δ D)) := by sorry
end PmU3
section PmU4
variable {e : Nat} {B C D : Ty} {Γ0 : List Ty} {Kp : List Ty → Ty → Prop}
def UT (e : Nat) (B C D : Ty) (Γ0 : List Ty) (w : Nat) (Δ : List Ty) (S T : Ty) : Nat := if hd T = 0 then 0 else urm false e w (cxs Δ Γ0 (tAll B D)) T - e + chn (cl (cxs Δ Γ0 (tAll B C))) S
theorem UT_le (K : KPc e B C D Γ0 Kp) (e1 : 1 ≤ e) {w : Nat} {Δ : List Ty} {S T : Ty} (h : TB e (cxs Δ Γ0 (tAll B C), S, T)) : UT e B C D Γ0 w Δ S T ≤ urm false e w (cxs Δ Γ0 (tAll B D)) T := by sorry
theorem gmV_T (K : KPc e B C D Γ0 Kp) (e1 : 1 ≤ e) : ∀ (f w : Nat) (Δ : List Ty) (S T : Ty), w ≤ 1 → Kp Δ S → TB e (cxs Δ Γ0 (tAll B C), S, T) → gmf f (w, cxs Δ Γ0 (tAll B C), S, T) ≤ UT e B C D Γ0 w Δ S T := by sorry
end PmU4

end
section
-- from 99u03
section PmU5
variable {e : Nat} {B C D : Ty} {Γ0 : List Ty} {Kp : List Ty → Ty → Prop}
def UQ (e : Nat) (B C D : Ty) (Γ0 : List Ty) (w : Nat) (Δ : List Ty) (T S : Ty) : Nat := if hd T = 0 ∨ 16 ≤ hd T then urm true e w (cxs Δ Γ0 (tAll B D)) T else urm true e w (cxs Δ Γ0 (tAll B D)) T - e + chn (cl (cxs Δ Γ0 (tAll B C))) S
theorem UQ_le (K : KPc e B C D Γ0 Kp) (e1 : 1 ≤ e) {w : Nat} {Δ : List Ty} {T S : Ty} (h : TB e (cxs Δ Γ0 (tAll B C), T, S)) : UQ e B C D Γ0 w Δ T S ≤ urm true e w (cxs Δ Γ0 (tAll B D)) T := by sorry
theorem gmV_S (K : KPc e B C D Γ0 Kp) (e1 : 1 ≤ e) : ∀ (f w : Nat) (Δ : List Ty) (T S : Ty), w ≤ 1 → Kp Δ S → TB e (cxs Δ Γ0 (tAll B C), T, S) → gmf f (w, cxs Δ Γ0 (tAll B C), T, S) ≤ UQ e B C D Γ0 w Δ T S := by sorry
end PmU5

end
section
-- from 99u04
def OVh (e : Nat) (B C Dm : Ty) (Γ0 : List Ty) : Prop := (ok (Γ0.length + 1) Dm = true ∧ hd Dm ≠ 0) ∧ ∀ Δ, okc (cxs Δ Γ0 (tAll B C)) → ∃ Kp, KPc e B C Dm Γ0 Kp ∧ Kp (upb Γ0 Δ B :: Δ) (upb Γ0 Δ C)
section PmU6
variable {e : Nat} {Γ0 : List Ty} {B C Dm : Ty}
theorem pmz_mz {b : Bool} {Γ : List Ty} {t : Ty} (hc : okc Γ) (o : ok Γ.length t = true) (d : Bool) : pmz (qu e) d (oq (qu e) Γ) t ≤ mz b e Γ t := by sorry
theorem mz_othD {b : Bool} {Δ : List Ty} {k : Nat} (z : OVh e B C Dm Γ0) (hc : okc (cxs Δ Γ0 (tAll B C))) (hk : k < (cxs Δ Γ0 (tAll B C)).length) (ne : k ≠ Γ0.length) : mz b e (cxs Δ Γ0 (tAll B Dm)) (tVar k) = vlr b e (mz b e (cxs Δ Γ0 (tAll B Dm)) (lft k ((cxs Δ Γ0 (tAll B C)).length - k) (bnd (cxs Δ Γ0 (tAll B C)) k))) := by sorry
theorem mz_ownD (b : Bool) {Δ : List Ty} (z : OVh e B C Dm Γ0) (hc : okc (cxs Δ Γ0 (tAll B C))) : 3 + e ≤ mz b e (cxs Δ Γ0 (tAll B Dm)) (tVar Γ0.length) := by sorry
theorem trx_inLD {Δ : List Ty} {D : Ty} (z : OVh e B C Dm Γ0) (b : Bool) (tb : TB e (upb Γ0 Δ B :: cxs Δ Γ0 (tAll B C), upb Γ0 Δ C, D)) : trx (upb Γ0 Δ B :: cxs Δ Γ0 (tAll B C), upb Γ0 Δ C, D) ≤ mz b e (upb Γ0 Δ B :: cxs Δ Γ0 (tAll B Dm)) D := by sorry
theorem trx_inRD {Δ : List Ty} {D : Ty} (z : OVh e B C Dm Γ0) (b : Bool) (tb : TB e (upb Γ0 Δ B :: cxs Δ Γ0 (tAll B C), D, upb Γ0 Δ C)) : trx (upb Γ0 Δ B :: cxs Δ Γ0 (tAll B C), D, upb Γ0 Δ C) ≤ mz b e (upb Γ0 Δ B :: cxs Δ Γ0 (tAll B Dm)) D := by sorry
theorem gm_inLD {w : Nat} {Δ : List Ty} {D : Ty} (z : OVh e B C Dm Γ0) (e1 : 1 ≤ e) (w1 : w ≤ 1) (tb : TB e (upb Γ0 Δ B :: cxs Δ Γ0 (tAll B C), upb Γ0 Δ C, D)) : gm (w, upb Γ0 Δ B :: cxs Δ Γ0 (tAll B C), upb Γ0 Δ C, D) ≤ mz false e (upb Γ0 Δ B :: cxs Δ Γ0 (tAll B Dm)) D := by sorry
theorem gm_inRD {w : Nat} {Δ : List Ty} {D : Ty} (z : OVh e B C Dm Γ0) (e1 : 1 ≤ e) (w1 : w ≤ 1) (tb : TB e (upb Γ0 Δ B :: cxs Δ Γ0 (tAll B C), D, upb Γ0 Δ C)) : gm (w, upb Γ0 Δ B :: cxs Δ Γ0 (tAll B C), D, upb Γ0 Δ C) ≤ mz true e (upb Γ0 Δ B :: cxs Δ Γ0 (tAll B Dm)) D := by sorry
end PmU6
section PmU7
variable {e : Nat} {Γ0 : List Ty} {B C Dm : Ty}
theorem trf_upLD {Δ : List Ty} {T : Ty} (z : OVh e B C Dm Γ0) (b : Bool) (f : Nat) (tb : TB e (cxs Δ Γ0 (tAll B C), upb Γ0 Δ (tAll B C), T)) (hf : twt (cxs Δ Γ0 (tAll B C), upb Γ0 Δ (tAll B C), T) ≤ f) : trf f (cxs Δ Γ0 (tAll B C), upb Γ0 Δ (tAll B C), T) ≤ mz b e (cxs Δ Γ0 (tAll B Dm)) T := by sorry
theorem trf_upRD {Δ : List Ty} (z : OVh e B C Dm Γ0) (b : Bool) : ∀ (f : Nat) (T : Ty), TB e (cxs Δ Γ0 (tAll B C), T, upb Γ0 Δ (tAll B C)) → twt (cxs Δ Γ0 (tAll B C), T, upb Γ0 Δ (tAll B C)) ≤ f → bel (cxs Δ Γ0 (tAll B C)) T (tVar Γ0.length) = false → trf f (cxs Δ Γ0 (tAll B C), T, upb Γ0 Δ (tAll B C)) ≤ mz b e (cxs Δ Γ0 (tAll B Dm)) T := by sorry
end PmU7
section PmU8
variable {e : Nat} {Γ0 : List Ty} {B C Dm : Ty}
theorem trf_opD (z : OVh e B C Dm Γ0) : ∀ (f : Nat) (b b' : Bool) (Δ : List Ty) (S T : Ty), TB e (cxs Δ Γ0 (tAll B C), S, T) → twt (cxs Δ Γ0 (tAll B C), S, T) ≤ f → trf f (cxs Δ Γ0 (tAll B C), S, T) ≤ mz b e (cxs Δ Γ0 (tAll B Dm)) S + mz b' e (cxs Δ Γ0 (tAll B Dm)) T := by sorry
theorem trx_opD (z : OVh e B C Dm Γ0) (b b' : Bool) {Δ : List Ty} {S T : Ty} (tb : TB e (cxs Δ Γ0 (tAll B C), S, T)) : trx (cxs Δ Γ0 (tAll B C), S, T) ≤ mz b e (cxs Δ Γ0 (tAll B Dm)) S + mz b' e (cxs Δ Γ0 (tAll B Dm)) T := by sorry
theorem tru_opD (z : OVh e B C Dm Γ0) (b b' : Bool) {Δ : List Ty} {S T : Ty} (tb : TB e (cxs Δ Γ0 (tAll B C), S, T)) : tru (cxs Δ Γ0 (tAll B C), S, T) ≤ mz b e (cxs Δ Γ0 (tAll B Dm)) S + mz b' e (cxs Δ Γ0 (tAll B Dm)) T := by sorry
end PmU8
section PmU9
variable {e w : Nat} {Γ0 Δ : List Ty} {B C Dm : Ty}
theorem gmf_upLD (z : OVh e B C Dm Γ0) (e1 : 1 ≤ e) (w1 : w ≤ 1) : ∀ (f : Nat) (T : Ty), TB e (cxs Δ Γ0 (tAll B C), upb Γ0 Δ (tAll B C), T) → bel (cxs Δ Γ0 (tAll B C)) T (tVar Γ0.length) = false → gmf f (w, cxs Δ Γ0 (tAll B C), upb Γ0 Δ (tAll B C), T) ≤ mz false e (cxs Δ Γ0 (tAll B Dm)) T := by sorry
theorem gmf_upRD (z : OVh e B C Dm Γ0) (e1 : 1 ≤ e) (w1 : w ≤ 1) (f : Nat) (S : Ty) (tb : TB e (cxs Δ Γ0 (tAll B C), S, upb Γ0 Δ (tAll B C))) (nv : ¬ 16 ≤ hd S) (nb : bel (cxs Δ Γ0 (tAll B C)) S (tVar Γ0.length) = false) : gmf f (w, cxs Δ Γ0 (tAll B C), S, upb Γ0 Δ (tAll B C)) ≤ mz true e (cxs Δ Γ0 (tAll B Dm)) S := by sorry
end PmU9
section PmUa
variable {e : Nat} {Γ0 : List Ty} {B C Dm : Ty}
theorem gmf_opD (z : OVh e B C Dm Γ0) (e1 : 1 ≤ e) : ∀ (f w : Nat) (Δ : List Ty) (S T : Ty), w ≤ 1 → TB e (cxs Δ Γ0 (tAll B C), S, T) → gmf f (w, cxs Δ Γ0 (tAll B C), S, T) ≤ mz true e (cxs Δ Γ0 (tAll B Dm)) S + mz false e (cxs Δ Γ0 (tAll B Dm)) T := by sorry
theorem gm_opD (z : OVh e B C Dm Γ0) (e1 : 1 ≤ e) {w : Nat} (w1 : w ≤ 1) {Δ : List Ty} {S T : Ty} (tb : TB e (cxs Δ Γ0 (tAll B C), S, T)) : gm (w, cxs Δ Γ0 (tAll B C), S, T) ≤ mz true e (cxs Δ Γ0 (tAll B Dm)) S + mz false e (cxs Δ Γ0 (tAll B Dm)) T := by sorry
end PmUa

end
section
-- from 99u05
def KGc (B C D : Ty) (Γ0 : List Ty) (Kp : List Ty → Ty → Prop) : Prop := ∀ Δ t, Kp Δ t → ∀ f, t = tAll (upb Γ0 Δ B) f → tok (upb Γ0 Δ B :: cxs Δ Γ0 (tAll B C), f, upb Γ0 Δ C) → gn (0, upb Γ0 Δ B :: cxs Δ Γ0 (tAll B C), f, upb Γ0 Δ C) ≤ gz (upb Γ0 Δ B :: cxs Δ Γ0 (tAll B D)) (upb Γ0 Δ D) ∧ gn (0, upb Γ0 Δ B :: cxs Δ Γ0 (tAll B C), upb Γ0 Δ C, f) ≤ gz (upb Γ0 Δ B :: cxs Δ Γ0 (tAll B D)) (upb Γ0 Δ D)
theorem gzl_oR {w f m m' i : Nat} {Γ : List Ty} {X Y : Ty} {v : Nat} (hm : m < 8) (hm' : m' < 8) (hi : i < 3) (gY : bit m' i = true → 1 ≤ v) (hf : bit m i = true → bit m' i = true → gnf f (w, Γ, X, Y) ≤ v) : sgl (gnf f) (gzl w Γ (lset w m m') m m' i X Y) ≤ v + (if bit m' i = true then 0 else 1) := by sorry
theorem gzl_oL {w f m m' i : Nat} {Γ : List Ty} {X Y : Ty} {v : Nat} (hm : m < 8) (hm' : m' < 8) (hi : i < 3) (gX : bit m i = true → 1 ≤ v) (hf : bit m i = true → bit m' i = true → gnf f (w, Γ, X, Y) ≤ v) : sgl (gnf f) (gzl w Γ (lset w m m') m m' i X Y) ≤ v + (if bit m i = true then 0 else 1) := by sorry
section PmUb
variable {e : Nat} {B C D : Ty} {Γ0 : List Ty} {Kp : List Ty → Ty → Prop}
theorem gz_D {Δ : List Ty} : gz (cxs Δ Γ0 (tAll B D)) (upb Γ0 Δ (tAll B D)) = 1 + gz (upb Γ0 Δ B :: cxs Δ Γ0 (tAll B D)) (upb Γ0 Δ D) := by sorry
theorem gnV_upR (K : KPc e B C D Γ0 Kp) (G : KGc B C D Γ0 Kp) (f : Nat) {Δ : List Ty} {S : Ty} (kS : Kp Δ S) (nv : ¬ 16 ≤ hd S) (tk : tok (cxs Δ Γ0 (tAll B C), S, upb Γ0 Δ (tAll B C))) : gnf f (0, cxs Δ Γ0 (tAll B C), S, upb Γ0 Δ (tAll B C)) ≤ 1 + gz (upb Γ0 Δ B :: cxs Δ Γ0 (tAll B D)) (upb Γ0 Δ D) := by sorry
theorem gnV_upL (K : KPc e B C D Γ0 Kp) (G : KGc B C D Γ0 Kp) : ∀ (f : Nat) (Δ : List Ty) (S : Ty), Kp Δ S → tok (cxs Δ Γ0 (tAll B C), upb Γ0 Δ (tAll B C), S) → gnf f (0, cxs Δ Γ0 (tAll B C), upb Γ0 Δ (tAll B C), S) ≤ 1 + gz (upb Γ0 Δ B :: cxs Δ Γ0 (tAll B D)) (upb Γ0 Δ D) := by sorry
theorem gnV (K : KPc e B C D Γ0 Kp) (G : KGc B C D Γ0 Kp) : ∀ (f w : Nat) (Δ : List Ty) (S T : Ty), w ≤ 1 → Kp Δ S → tok (cxs Δ Γ0 (tAll B C), S, T) → gnf f (w, cxs Δ Γ0 (tAll B C), S, T) ≤ gz (cxs Δ Γ0 (tAll B D)) T ∧ gnf f (w, cxs Δ Γ0 (tAll B C), T, S) ≤ gz (cxs Δ Γ0 (tAll B D)) T := by sorry
end PmUb

end
section
-- from 99u06
def OVq (e : Nat) (B C Dm : Ty) (Γ0 : List Ty) : Prop := (ok (Γ0.length + 1) Dm = true ∧ hd Dm ≠ 0) ∧ ∀ Δ, okc (cxs Δ Γ0 (tAll B C)) → ∃ Kp, KPc e B C Dm Γ0 Kp ∧ KGc B C Dm Γ0 Kp ∧ Kp (upb Γ0 Δ B :: Δ) (upb Γ0 Δ C)
theorem OVq.h {e : Nat} {B C Dm : Ty} {Γ0 : List Ty} (z : OVq e B C Dm Γ0) : OVh e B C Dm Γ0 := by sorry
section PmUc
variable {e w : Nat} {Γ0 Δ : List Ty} {B C Dm : Ty}
theorem gz_othD {k : Nat} (z : OVq e B C Dm Γ0) (hc : okc (cxs Δ Γ0 (tAll B C))) (hk : k < (cxs Δ Γ0 (tAll B C)).length) (ne : k ≠ Γ0.length) : gz (cxs Δ Γ0 (tAll B Dm)) (tVar k) = gz (cxs Δ Γ0 (tAll B Dm)) (lft k ((cxs Δ Γ0 (tAll B C)).length - k) (bnd (cxs Δ Γ0 (tAll B C)) k)) := by sorry
theorem gn_inLD {D : Ty} (z : OVq e B C Dm Γ0) (w1 : w ≤ 1) (tk : tok (upb Γ0 Δ B :: cxs Δ Γ0 (tAll B C), upb Γ0 Δ C, D)) : gn (w, upb Γ0 Δ B :: cxs Δ Γ0 (tAll B C), upb Γ0 Δ C, D) ≤ gz (upb Γ0 Δ B :: cxs Δ Γ0 (tAll B Dm)) D := by sorry
theorem gn_inRD {D : Ty} (z : OVq e B C Dm Γ0) (w1 : w ≤ 1) (tk : tok (upb Γ0 Δ B :: cxs Δ Γ0 (tAll B C), D, upb Γ0 Δ C)) : gn (w, upb Γ0 Δ B :: cxs Δ Γ0 (tAll B C), D, upb Γ0 Δ C) ≤ gz (upb Γ0 Δ B :: cxs Δ Γ0 (tAll B Dm)) D := by sorry
theorem up_ok (hc : okc (cxs Δ Γ0 (tAll B C))) : ok (cxs Δ Γ0 (tAll B C)).length (upb Γ0 Δ (tAll B C)) = true := by sorry
end PmUc
section PmUd
variable {e w : Nat} {Γ Γ0 Δ : List Ty} {B C Dm S T : Ty}
theorem gnf_upLD (z : OVq e B C Dm Γ0) (w1 : w ≤ 1) : ∀ (f : Nat) (T : Ty), tok (cxs Δ Γ0 (tAll B C), upb Γ0 Δ (tAll B C), T) → bel (cxs Δ Γ0 (tAll B C)) T (tVar Γ0.length) = false → gnf f (w, cxs Δ Γ0 (tAll B C), upb Γ0 Δ (tAll B C), T) ≤ gz (cxs Δ Γ0 (tAll B Dm)) T := by sorry
theorem gnf_upRD (z : OVq e B C Dm Γ0) (w1 : w ≤ 1) (f : Nat) (S : Ty) (tk : tok (cxs Δ Γ0 (tAll B C), S, upb Γ0 Δ (tAll B C))) (nv : ¬ 16 ≤ hd S) : gnf f (w, cxs Δ Γ0 (tAll B C), S, upb Γ0 Δ (tAll B C)) ≤ gz (cxs Δ Γ0 (tAll B Dm)) S := by sorry
end PmUd
section PmUe
variable {e : Nat} {Γ0 : List Ty} {B C Dm : Ty}
theorem gnf_opD (z : OVq e B C Dm Γ0) : ∀ (f w : Nat) (Δ : List Ty) (S T : Ty), w ≤ 1 → tok (cxs Δ Γ0 (tAll B C), S, T) → gnf f (w, cxs Δ Γ0 (tAll B C), S, T) ≤ gz (cxs Δ Γ0 (tAll B Dm)) S + gz (cxs Δ Γ0 (tAll B Dm)) T := by sorry
theorem gn_opD (z : OVq e B C Dm Γ0) {w : Nat} (w1 : w ≤ 1) {Δ : List Ty} {S T : Ty} (tk : tok (cxs Δ Γ0 (tAll B C), S, T)) : gn (w, cxs Δ Γ0 (tAll B C), S, T) ≤ gz (cxs Δ Γ0 (tAll B Dm)) S + gz (cxs Δ Γ0 (tAll B Dm)) T := by sorry
theorem LJ_opD (z : OVq e B C Dm Γ0) (e1 : 1 ≤ e) {Δ : List Ty} {S T : Ty} (tb : TB e (cxs Δ Γ0 (tAll B C), S, T)) (hx : cch (cxs Δ Γ0 (tAll B C)) ≤ 56) (lS : (flat S).length ≤ 16) (lT : (flat T).length ≤ 16) (q1 : mz true e (cxs Δ Γ0 (tAll B Dm)) S + mz false e (cxs Δ Γ0 (tAll B Dm)) T ≤ 887) (q2 : gz (cxs Δ Γ0 (tAll B Dm)) S + gz (cxs Δ Γ0 (tAll B Dm)) T ≤ 597) : LJ (cxs Δ Γ0 (tAll B C)) S T := by sorry
theorem LB_opD (z : OVq e B C Dm Γ0) {Δ : List Ty} {S T : Ty} (b b' : Bool) (tb : TB e (cxs Δ Γ0 (tAll B C), S, T)) (hx : cch (cxs Δ Γ0 (tAll B C)) ≤ 56) (lS : (flat S).length ≤ 16) (lT : (flat T).length ≤ 16) (q1 : mz b e (cxs Δ Γ0 (tAll B Dm)) S + mz b' e (cxs Δ Γ0 (tAll B Dm)) T ≤ 887) : LB (cxs Δ Γ0 (tAll B C)) S T := by sorry
end PmUe

end
section
-- from 99u07
def updt (τ : Nat → Bool) (D : Nat) (a : Ty) : Nat → Bool := fun i => if i = D then decide (hd a = 0) else τ i
def bdk (κ : Ty → Bool) (τ : Nat → Bool) (b : Ty) : Bool := decide (hd b = 0) || (if 16 ≤ hd b then τ (hd b - 16) else κ b)
def kq (h : Nat) (κ : Ty → Bool) : (Nat → Bool) → Nat → Ty → Bool
  | τ, D, .tag c (.append a b) => if c = 2 then ((!(hd a == h)) || bdk κ (updt τ D a) b) && (kq h κ τ D a && kq h κ (updt τ D a) (D + 1) b) else kq h κ τ D a && kq h κ τ D b
  | τ, D, .append a b => kq h κ τ D a && kq h κ τ D b
  | _, _, _ => true
section PmUf
variable {h : Nat} {κ : Ty → Bool}
theorem kq_top (τ : Nat → Bool) (D : Nat) : kq h κ τ D tTop = true := by sorry
theorem kq_var (τ : Nat → Bool) (D k : Nat) : kq h κ τ D (tVar k) = true := by sorry
theorem kq_nil (τ : Nat → Bool) (D : Nat) : kq h κ τ D .nil = true := by sorry
theorem kq_fun {τ : Nat → Bool} {D : Nat} {a b : Ty} : kq h κ τ D (tFun a b) = true ↔ kq h κ τ D a = true ∧ kq h κ τ D b = true := by sorry
theorem kq_all {τ : Nat → Bool} {D : Nat} {a b : Ty} : kq h κ τ D (tAll a b) = true ↔ (hd a = h → bdk κ (updt τ D a) b = true) ∧ kq h κ τ D a = true ∧ kq h κ (updt τ D a) (D + 1) b = true := by sorry
theorem kq_rec {τ : Nat → Bool} {D c : Nat} {x y z : Ty} : kq h κ τ D (tRec c x y z) = true ↔ kq h κ τ D x = true ∧ kq h κ τ D y = true ∧ kq h κ τ D z = true := by sorry
theorem hd_lft0 {k n d : Nat} {a : Ty} (o : ok d a = true) : (hd (lft k n a) = 0 ↔ hd a = 0) ∧ (hd a < 16 → hd (lft k n a) = hd a) := by sorry
theorem kq_lft {k n : Nat} (hκ : ∀ (t : Ty) (d : Nat), ok d t = true → hd t < 16 → κ (lft k n t) = κ t) : ∀ (f : Nat) (t : Ty) (D : Nat) (τ τ' : Nat → Bool), (flat t).length ≤ f → k ≤ D → ok D t = true → (∀ i, i < D → τ i = true → τ' (if k ≤ i then i + n else i) = true) → h < 16 → kq h κ τ D t = true → kq h κ τ' (D + n) (lft k n t) = true := by sorry
theorem kq_more : ∀ (f : Nat) (t : Ty) (D : Nat) (τ τ' : Nat → Bool), (flat t).length ≤ f → ok D t = true → (∀ i, i < D → τ i = true → τ' i = true) → kq h κ τ D t = true → kq h κ τ' D t = true := by sorry
end PmUf

end
section
-- from 99u08
section PmUg
variable {e w : Nat} {Γ : List Ty} {S T : Ty}
theorem trx_mis2 (nS : ¬ 16 ≤ hd S) (e1 : hd S = 2) (e2 : hd T = 2) (ne : flat (k1 S) ≠ flat (k1 T)) : trx (Γ, S, T) = 0 := by sorry
theorem gm_mis2 (tk : tok (Γ, S, T)) (w1 : w ≤ 1) (e1 : hd S = 2) (e2 : hd T = 2) (ne : flat (k1 S) ≠ flat (k1 T)) : gm (w, Γ, S, T) ≤ 1 ∧ gn (w, Γ, S, T) ≤ 1 := by sorry
theorem trx_mis (nS : ¬ 16 ≤ hd S) (ne : hd S ≠ hd T) (nr : ¬ (8 ≤ hd S ∧ 8 ≤ hd T ∧ hd T < 16)) : trx (Γ, S, T) = 0 := by sorry
theorem gm_mis (tk : tok (Γ, S, T)) (w1 : w ≤ 1) (nS : ¬ 16 ≤ hd S) (nT : ¬ 16 ≤ hd T) (ne : hd S ≠ hd T) (nr : ¬ (8 ≤ hd S ∧ 8 ≤ hd T)) : gm (w, Γ, S, T) ≤ 1 ∧ gn (w, Γ, S, T) ≤ 1 := by sorry
theorem var_mis {j : Nat} (tk : tok (Γ, tVar j, T)) (h0 : hd (bnd Γ j) = 0) (nT : ¬ 16 ≤ hd T) (nz' : hd T ≠ 0) : trx (Γ, tVar j, T) ≤ 1 ∧ trx (Γ, T, tVar j) = 0 ∧ gm (0, Γ, tVar j, T) ≤ 2 ∧ gm (0, Γ, T, tVar j) ≤ 2 ∧ gn (0, Γ, tVar j, T) ≤ 1 ∧ gn (0, Γ, T, tVar j) ≤ 1 := by sorry
end PmUg
def kmm (d c : Nat) : Bool := decide ((c = 1 ∧ d ≠ 1) ∨ (c = 2 ∧ d ≠ 2) ∨ (8 ≤ c ∧ d < 8))
def shp (t : Ty) : List Int := (flat t).map (fun c => if 16 ≤ c then 16 else c)
theorem shp_lft (k n : Nat) (t : Ty) : shp (lft k n t) = shp t := by sorry
def kms (C b : Ty) : Bool := kmm (hd C) (hd b) || decide (hd b = 2 ∧ hd C = 2 ∧ shp (k1 b) ≠ shp (k1 C))
theorem kms_lft {C : Ty} (k n : Nat) (t : Ty) (d : Nat) (o : ok d t = true) (v : hd t < 16) : kms C (lft k n t) = kms C t := by sorry
def tauc (Γ : List Ty) : Nat → Bool := fun i => decide (hd (bnd Γ i) = 0)
def Dsm : Ty := tAll tTop tTop
section PmUh
variable {e : Nat} {B C : Ty} {Γ0 : List Ty} {h : Nat}
theorem up_Dsm (Δ : List Ty) : upb Γ0 Δ Dsm = Dsm := by sorry
theorem Dsm_num (Γ : List Ty) (b : Bool) (e1 : 1 ≤ e) : pmz (qu e) true (oq (qu e) Γ) Dsm = 1 ∧ 3 ≤ urm b e 0 Γ Dsm ∧ gz Γ Dsm = 2 := by sorry
theorem ev_small (e1 : 1 ≤ e) (hC : hd C ≠ 0 ∧ hd C < 16) {Δ : List Ty} {f : Ty} (tk : tok (upb Γ0 Δ B :: cxs Δ Γ0 (tAll B C), f, upb Γ0 Δ C)) (oC : ok (Γ0.length + 1) C = true) (q : bdk (kms C) (updt (tauc (cxs Δ Γ0 (tAll B C))) (cxs Δ Γ0 (tAll B C)).length (upb Γ0 Δ B)) f = true) : EVb e B C Dsm Γ0 Δ f ∧ gn (0, upb Γ0 Δ B :: cxs Δ Γ0 (tAll B C), f, upb Γ0 Δ C) ≤ 2 ∧ gn (0, upb Γ0 Δ B :: cxs Δ Γ0 (tAll B C), upb Γ0 Δ C, f) ≤ 2 := by sorry
end PmUh

end
section
-- from 99u09
section PmUi
variable {e h : Nat} {B C : Ty} {Γ0 : List Ty}
def HKd (h : Nat) (B C : Ty) (Γ0 : List Ty) : Prop := (h < 16 ∧ hd B = h) ∧ (hd C ≠ 0 ∧ hd C < 16) ∧ (∀ j, j < Γ0.length → kq h (kms C) (tauc Γ0) j (bnd Γ0 j) = true) ∧ kq h (kms C) (tauc Γ0) Γ0.length B = true ∧ kq h (kms C) (updt (tauc Γ0) Γ0.length B) (Γ0.length + 1) C = true
def Ko (h : Nat) (B C : Ty) (Γ0 : List Ty) (l : Nat) (Δ : List Ty) (t : Ty) : Prop := (Γ0.length < l ∧ l ≤ (cxs Δ Γ0 (tAll B C)).length) ∧ okc (cxs Δ Γ0 (tAll B C)) ∧ gqc 5 Γ0.length l (cxs Δ Γ0 (tAll B C)) ∧ (∀ j, j < (cxs Δ Γ0 (tAll B C)).length → (j < Γ0.length ∨ l ≤ j) → kq h (kms C) (tauc (cxs Δ Γ0 (tAll B C))) j (bnd (cxs Δ Γ0 (tAll B C)) j) = true) ∧ ok (cxs Δ Γ0 (tAll B C)).length t = true ∧ gq 5 Γ0.length l t = true ∧ kq h (kms C) (tauc (cxs Δ Γ0 (tAll B C))) (cxs Δ Γ0 (tAll B C)).length t = true
theorem tauc_cons {Γ : List Ty} {a : Ty} (i : Nat) : tauc (a :: Γ) i = updt (tauc Γ) Γ.length a i := by sorry
theorem Ko.ext {l : Nat} {Δ : List Ty} {a b t : Ty} (k : Ko h B C Γ0 l Δ t) (oa : ok (cxs Δ Γ0 (tAll B C)).length a = true) (ob : ok ((cxs Δ Γ0 (tAll B C)).length + 1) b = true) (ga : gq 5 Γ0.length l a = true) (gb : gq 5 Γ0.length l b = true) (ka : kq h (kms C) (tauc (cxs Δ Γ0 (tAll B C))) (cxs Δ Γ0 (tAll B C)).length a = true) (kb : kq h (kms C) (updt (tauc (cxs Δ Γ0 (tAll B C))) (cxs Δ Γ0 (tAll B C)).length a) ((cxs Δ Γ0 (tAll B C)).length + 1) b = true) : Ko h B C Γ0 l (a :: Δ) b := by sorry
theorem Ko.part {l : Nat} {Δ : List Ty} {t b : Ty} (k : Ko h B C Γ0 l Δ t) (ob : ok (cxs Δ Γ0 (tAll B C)).length b = true) (gb : gq 5 Γ0.length l b = true) (kb : kq h (kms C) (tauc (cxs Δ Γ0 (tAll B C))) (cxs Δ Γ0 (tAll B C)).length b = true) : Ko h B C Γ0 l Δ b := by sorry
theorem Ko_KP (e1 : 1 ≤ e) (H : HKd h B C Γ0) (l : Nat) : KPc e B C Dsm Γ0 (Ko h B C Γ0 l) ∧ KGc B C Dsm Γ0 (Ko h B C Γ0 l) := by sorry
theorem gq5 {k0 m : Nat} : ∀ (f : Nat) (t : Ty) (D : Nat), (flat t).length ≤ f → ok D t = true → m ≤ D → (∀ i, i < D → i < k0 ∨ m ≤ i) → gq 5 k0 m t = true := by sorry
theorem cxs_lowb {a : Ty} : ∀ (Δ : List Ty) (j : Nat), j < Γ0.length → bnd (cxs Δ Γ0 a) j = bnd Γ0 j := by sorry
theorem HKd.ov (e1 : 1 ≤ e) (H : HKd h B C Γ0) : OVq e B C Dsm Γ0 := by sorry
end PmUi

end
section
-- from 99u12
def CFt : Nat → Ty → Prop
  | 0, _ => True
  | f + 1, t => (nKd t = 6 ∨ nKd t = 8 → CFt f (nY t)) ∧ (nKd t = 7 ∨ nKd t = 9 ∨ nKd t = 11 → CFt f (nX t)) ∧ (nKd t = 10 → ∀ g, g < 3 → bit (nMk t) g = true → CFt f (nP t g)) ∧ nKd t ≠ 12
theorem CF_CO : ∀ (f : Nat) (t : Ty) (n : Nat), CFt f t → COk f t n := by sorry
section PmUl
variable {N t0 fn s2 hv r0 r1 r2 r3 x0 E0 p : Nat} {n1 h : Nat → Nat} {P Q : List (List Nat)} {F G : FrT} {X : List Nat} {Z : Nat → Nat} {B C β' : Ty} {Γ0 : List Ty}
theorem GO_free (hm : ∀ y y', y ≤ y' → h y ≤ h y') (hh : ∀ y δ, h (y + δ) ≤ h y + δ) : ∀ (f : Nat) (t : Ty) (π : Stk) (ω : List Nat) (Γ : List Ty) (Δ : List (Nat × Ty × Nat)), TWf f Γ.length (Δ.map (fun a => a.1)) t → TE Γ Δ → CFt f t → AQk t0 n1 s2 h E0 p Z f t π ω → ω.length = Γ.length → GOk t0 n1 s2 h (Ek E0 p) f t π ω Γ Δ := by sorry
theorem free_BF (hm : ∀ y y', y ≤ y' → h y ≤ h y') (hh : ∀ y δ, h (y + δ) ≤ h y + δ) (T : TBs N t0 fn s2 hv r0 r1 r2 r3 x0 n1 h P Q F G X) (hx : PXk N P F X fn s2 r1 = true) (h21 : r2 ≤ r1) (h32 : r3 ≤ r2) (hz : ZOk Z) {f : Nat} {t S : Ty} {Δ1 : List Ty} {Δ : List (Nat × Ty × Nat)} {cv cd L : Nat} (w : TWf f (cxs Δ1 Γ0 (tAll B C)).length (Δ.map (fun a => a.1)) t) (he : TE (cxs Δ1 Γ0 (tAll B C)) Δ) (co : CFt f t) (hS : tyF f t (cxs Δ1 Γ0 (tAll B C)) Δ = .inr S) (hdc : dch Δ ≤ cd) (hcd : 2 ≤ cd) (hbb : cv + cd + 2 * mch t ≤ N) (hL : L ≤ 56) (hg : hasq f t = true → cv + gqk f t ≤ L) (hZ : ∀ q, 1 ≤ q → q ≤ mch t → ∀ w ∈ frg F q, w.2 + w.1 * X.getD L 0 ≤ Z (q + 2)) (hE : Z (mch t) ≤ E0) (hw : ∀ j, j < (cxs Δ1 Γ0 β').length → vw (onz t0 n1 s2 h (cxs Δ1 Γ0 β')) j ≤ X.getD cv 0) (hP : ∀ (A : Ty) (d : Nat), ok d A = true → tch A ≤ mch t → flv A ≤ p) (hB : BEk t0 n1 s2 h E0 p (cxs Δ1 Γ0 (tAll B C)) (onz t0 n1 s2 h (cxs Δ1 Γ0 β'))) : BF P E0 p Z (cv + cd) (mch t) (nz t0 n1 s2 h (onz t0 n1 s2 h (cxs Δ1 Γ0 β')) S) := by sorry
theorem expo_small {D : Ty} {Δ1 : List Ty} {ω : List Nat} (oD : ok (Γ0.length + 1) D = true) (hc : okc (cxs Δ1 Γ0 (tAll B C))) (hv : CV t0 n1 s2 h ω (cxs Δ1 Γ0 (tAll B D))) : ∀ (f : Nat) (S : Ty), ok (cxs Δ1 Γ0 (tAll B C)).length S = true → hd (expo (cxs Δ1 Γ0 (tAll B C)) f S) = 1 → nz t0 n1 s2 h ω (expo (cxs Δ1 Γ0 (tAll B C)) f S) ≤ nz t0 n1 s2 h ω S := by sorry
end PmUl

end
section
-- from 99u13
def smR (va k r1 r2 g ob cd m Bd : Nat) : Bool := (frg fr1 k).all (fun v =>
  Nat.ble (lstX fx1 (max (max 2 (fx1.getD r1 0)) va) + r2 + g) 56 && (Nat.ble (lstX fx1 (max (max 2 (fx1.getD r1 0)) va) + r2 + cd + 2 * m) 58 &&
  natB pp1 (Zr (fx1.getD (lstX fx1 (max (max 2 (fx1.getD r1 0)) va) + r2 + g) 0)) (lstX fx1 (max (max 2 (fx1.getD r1 0)) va) + r2 + cd) m
    (max (fx1.getD (lstX fx1 (max (max 2 (fx1.getD r1 0)) va) + r2) 0) (max (Zr (fx1.getD (lstX fx1 (max (max 2 (fx1.getD r1 0)) va) + r2 + g) 0) m) (v.2 + v.1 * max 2 (fx1.getD r1 0))))
    (max (lmx fr1 k) (max (lmx fr1 m) ob)) Bd))
def smG (vg k r1 r2 g ob cd m Bd : Nat) : Bool := (frg frq k).all (fun v =>
  Nat.ble (lstX fxq (max (max 1 (fxq.getD r1 0)) vg) + r2 + g) 56 && (Nat.ble (lstX fxq (max (max 1 (fxq.getD r1 0)) vg) + r2 + cd + 2 * m) 58 &&
  natB ppq (Zg (fxq.getD (lstX fxq (max (max 1 (fxq.getD r1 0)) vg) + r2 + g) 0)) (lstX fxq (max (max 1 (fxq.getD r1 0)) vg) + r2 + cd) m
    (max (fxq.getD (lstX fxq (max (max 1 (fxq.getD r1 0)) vg) + r2) 0) (max (Zg (fxq.getD (lstX fxq (max (max 1 (fxq.getD r1 0)) vg) + r2 + g) 0) m) (v.2 + v.1 * max 1 (fxq.getD r1 0))))
    (max (lmx fr1 k) (max (lmx fr1 m) ob)) Bd))
def SmT (va vg : Nat) (B C : Ty) (Γ0 Δ1 : List Ty) (Δ : List (Nat × Ty × Nat)) (f : Nat) (t : Ty) (b c : Nat) : Prop := CFt f t ∧ tch (tAll B C) ≤ 56 ∧ mch t ≤ 21 ∧ ∃ g ob cd, (hasq f t = true → gqk f t ≤ g) ∧ (∀ b ∈ Γ0, nsch b = true ∨ flv b ≤ ob) ∧ (∀ b ∈ Δ1, nsch b = true ∨ flv b ≤ ob) ∧ cch Γ0 ≤ 56 ∧ dch Δ ≤ cd ∧ 2 ≤ cd ∧ smR va (tch (tAll B C)) (cch Γ0) (cch Δ1) g ob cd (mch t) b = true ∧ smG vg (tch (tAll B C)) (cch Γ0) (cch Δ1) g ob cd (mch t) c = true
section PmUm
variable {va vg f m1 m2 : Nat} {t S B C Dm : Ty} {Γ0 Δ1 : List Ty} {Δ : List (Nat × Ty × Nat)}
theorem sm_rows (b : Bool) (w : TWf f (cxs Δ1 Γ0 (tAll B C)).length (Δ.map (fun a => a.1)) t) (he : TE (cxs Δ1 Γ0 (tAll B C)) Δ) (oD : ok (Γ0.length + 1) Dm = true) (vD : vlr b 1 (mz b 1 Γ0 (tAll B Dm)) ≤ va) (cu : SmT va vg B C Γ0 Δ1 Δ f t m1 m2) (hS : tyF f t (cxs Δ1 Γ0 (tAll B C)) Δ = .inr S) : mz b 1 (cxs Δ1 Γ0 (tAll B Dm)) S ≤ m1 := by sorry
theorem sm_goals (w : TWf f (cxs Δ1 Γ0 (tAll B C)).length (Δ.map (fun a => a.1)) t) (he : TE (cxs Δ1 Γ0 (tAll B C)) Δ) (oD : ok (Γ0.length + 1) Dm = true) (vD : gz Γ0 (tAll B Dm) ≤ vg) (cu : SmT va vg B C Γ0 Δ1 Δ f t m1 m2) (hS : tyF f t (cxs Δ1 Γ0 (tAll B C)) Δ = .inr S) : gz (cxs Δ1 Γ0 (tAll B Dm)) S ≤ m2 := by sorry
end PmUm

end
section
-- from 99u14
section PmUo
variable {N t0 fn s2 hv r0 r1 r2 r3 x0 X7 EA p pb EB p2 x m : Nat} {n1 h : Nat → Nat} {P Q : List (List Nat)} {F G : FrT} {X : List Nat} {B C β' : Ty} {Γ0 : List Ty}
theorem arg_h (hp : p ≤ pb) (hm : ∀ y y', y ≤ y' → h y ≤ h y') (hh : ∀ y δ, h (y + δ) ≤ h y + δ) (T : TBs N t0 fn s2 hv r0 r1 r2 r3 x0 n1 h P Q F G X) (hx0 : x0 ≤ x) (m56 : m ≤ 56) (h7 : ∀ s, s + 3 ≤ m → Zx F x s ≤ X7) (hB : ∀ s, s ≤ m → Zx F x s ≤ EB) (hP : ∀ (A : Ty) (d : Nat), ok d A = true → tch A + 2 ≤ m → flv A ≤ p2) : ∀ (f : Nat) (A : Ty) (ω : List Nat), (flat A).length ≤ f → ok ω.length A = true → tch A + 2 ≤ m → (∀ j, j < ω.length → vw ω j ≤ x) → ∀ ρ, ρ ≠ [] → vz t0 n1 s2 h (Eh X7 EA p pb EB p2) A ρ ω ≤ Eh X7 EA p pb EB p2 ρ := by sorry
theorem GH_free {E : Stk → Nat} {Z : Nat → Nat} : ∀ (f : Nat) (t : Ty) (π : Stk) (ω : List Nat) (Γ : List Ty) (Δ : List (Nat × Ty × Nat)), TWf f Γ.length (Δ.map (fun a => a.1)) t → TE Γ Δ → CFt f t → AQh t0 n1 s2 h E Z f t π ω → ω.length = Γ.length → GOk t0 n1 s2 h E f t π ω Γ Δ := by sorry
theorem free_BGh (hm : ∀ y y', y ≤ y' → h y ≤ h y') (hh : ∀ y δ, h (y + δ) ≤ h y + δ) (T : TBs N t0 fn s2 hv r0 r1 r2 r3 x0 n1 h P Q F G X) (hx : PXk N P F X fn s2 r1 = true) (h21 : r2 ≤ r1) (h32 : r3 ≤ r2) (hpb : p ≤ pb) {f : Nat} {t S : Ty} {Δ1 : List Ty} {Δ : List (Nat × Ty × Nat)} {cv cd L : Nat} (w : TWf f (cxs Δ1 Γ0 (tAll B C)).length (Δ.map (fun a => a.1)) t) (he : TE (cxs Δ1 Γ0 (tAll B C)) Δ) (co : CFt f t) (nq : NQk f t 0) (hS : tyF f t (cxs Δ1 Γ0 (tAll B C)) Δ = .inr S) (hdc : dch Δ ≤ cd) (hcd : 2 ≤ cd) (hbb : cv + cd + 2 * mch t ≤ N) (hL : L ≤ 56) (hg : hasq f t = true → cv + gqk f t ≤ L) (hx0 : x0 ≤ X.getD L 0) (h7 : ∀ s, s + 3 ≤ mch t → Zx F (X.getD L 0) s ≤ X7) (hEB : ∀ s, s ≤ mch t → Zx F (X.getD L 0) s ≤ EB) (hP : ∀ (A : Ty) (d : Nat), ok d A = true → tch A + 2 ≤ mch t → flv A ≤ p2) (hw : ∀ j, j < (cxs Δ1 Γ0 β').length → vw (onz t0 n1 s2 h (cxs Δ1 Γ0 β')) j ≤ X.getD cv 0) (hB : BEh t0 n1 s2 h X7 EA p pb EB p2 (cxs Δ1 Γ0 (tAll B C)) (onz t0 n1 s2 h (cxs Δ1 Γ0 β'))) : BGh P (hdh X7 EA p EB p2 (Zx F (X.getD L 0))) (bqk f t 0) (cv + cd) (mch t) (nz t0 n1 s2 h (onz t0 n1 s2 h (cxs Δ1 Γ0 β')) S) := by sorry
theorem all_z (hm : ∀ y y', y ≤ y' → h y ≤ h y') (hh : ∀ y δ, h (y + δ) ≤ h y + δ) {ω : List Nat} (o : ok ω.length (tAll B C) = true) (z : Nat) : nz t0 n1 s2 h (hzx h z (nz t0 n1 s2 h ω B) :: ω) C ≤ nz t0 n1 s2 h ω (tAll B C) + flv (tAll B C) * z := by sorry
end PmUo

end
section
-- from 99u15
def mxl (f : Nat → Nat) : Nat → Nat
  | 0 => 0
  | n + 1 => max (f n) (mxl f n)
theorem mxl_ge {f : Nat → Nat} : ∀ {n s : Nat}, s < n → f s ≤ mxl f n := by sorry
def smH2 (P : List (List Nat)) (F : FrT) (x EA p EB p2 X7 b c m Bd : Nat) : Bool := natH P (hdh X7 EA p EB p2 (Zx F x)) b c m Bd
def smH1 (P : List (List Nat)) (F : FrT) (X : List Nat) (x0 y cv EA k g ob b cd m Bd : Nat) : Bool := Nat.ble (cv + g) 56 && (Nat.ble (cv + cd + 2 * m) 58 && (Nat.ble x0 (X.getD (cv + g) 0) && smH2 P F (X.getD (cv + g) 0) EA (lmx fr1 k) (max y (mxl (Zx F (X.getD (cv + g) 0)) (m + 1))) (max (lmx fr1 (m - 2)) ob) (max y (mxl (Zx F (X.getD (cv + g) 0)) (m - 2))) b (cv + cd) m Bd))
def smH (P : List (List Nat)) (F W : FrT) (X : List Nat) (x0 va k r1 r2 g ob b cd m Bd : Nat) : Bool := (frg W r2).all (fun e => (frg F k).all (fun v => smH1 P F X x0 (e.2 + e.1 * max (max x0 (X.getD r1 0)) va) (lstX X (e.2 + e.1 * max (max x0 (X.getD r1 0)) va)) (v.2 + v.1 * max x0 (X.getD r1 0)) k g ob b cd m Bd))
section PmUp
variable {N t0 fn s2 hv r0 r1 r2 r3 x0 va : Nat} {n1 h : Nat → Nat} {P Q : List (List Nat)} {F G W : FrT} {X : List Nat} {B C Dm : Ty} {Γ0 : List Ty}
theorem sm_gen (hn : NC t0 n1 s2 h) (hm : ∀ y y', y ≤ y' → h y ≤ h y') (hh : ∀ y δ, h (y + δ) ≤ h y + δ) (T : TBs 58 t0 fn s2 hv r0 r1 r2 r3 x0 n1 h P Q F G X) (hx : PXk 58 P F X fn s2 r1 = true) (h21 : r2 ≤ r1) (h32 : r3 ≤ r2) (hgr : fgc F W hv = true) (hW : (1, 0) ∈ frg W 0) {f : Nat} {t S : Ty} {Δ1 : List Ty} {Δ : List (Nat × Ty × Nat)} {g ob cd Bd : Nat} (w : TWf f (cxs Δ1 Γ0 (tAll B C)).length (Δ.map (fun a => a.1)) t) (he : TE (cxs Δ1 Γ0 (tAll B C)) Δ) (oD : ok (Γ0.length + 1) Dm = true) (vD : h (nz t0 n1 s2 h (onz t0 n1 s2 h Γ0) (tAll B Dm)) ≤ va) (co : CFt f t) (nq : NQk f t 0) (hk : tch (tAll B C) ≤ 56) (hm17 : mch t ≤ 17) (hg : hasq f t = true → gqk f t ≤ g) (hb0 : ∀ b ∈ Γ0, nsch b = true ∨ flv b ≤ ob) (hb1 : ∀ b ∈ Δ1, nsch b = true ∨ flv b ≤ ob) (hr : cch Γ0 ≤ 56) (hr2 : cch Δ1 ≤ 38) (hdc : dch Δ ≤ cd) (hcd : 2 ≤ cd) (hR : smH P F W X x0 va (tch (tAll B C)) (cch Γ0) (cch Δ1) g ob (bqk f t 0) cd (mch t) Bd = true) (hS : tyF f t (cxs Δ1 Γ0 (tAll B C)) Δ = .inr S) : nz t0 n1 s2 h (onz t0 n1 s2 h (cxs Δ1 Γ0 (tAll B Dm))) S ≤ Bd := by sorry
end PmUp

end
section
-- from 99u16
def SmH (va vg : Nat) (B C : Ty) (Γ0 Δ1 : List Ty) (Δ : List (Nat × Ty × Nat)) (f : Nat) (t : Ty) (b c : Nat) : Prop := CFt f t ∧ NQk f t 0 ∧ tch (tAll B C) ≤ 56 ∧ mch t ≤ 17 ∧ ∃ g ob cd, (hasq f t = true → gqk f t ≤ g) ∧ (∀ b ∈ Γ0, nsch b = true ∨ flv b ≤ ob) ∧ (∀ b ∈ Δ1, nsch b = true ∨ flv b ≤ ob) ∧ cch Γ0 ≤ 56 ∧ cch Δ1 ≤ 38 ∧ dch Δ ≤ cd ∧ 2 ≤ cd ∧ smH pp1 fr1 fg1 fx1 1 va (tch (tAll B C)) (cch Γ0) (cch Δ1) g ob (bqk f t 0) cd (mch t) b = true ∧ smH ppq frq fgq fxq 1 vg (tch (tAll B C)) (cch Γ0) (cch Δ1) g ob (bqk f t 0) cd (mch t) c = true
def SmV (Dm : Ty) (B C : Ty) (Γ0 Δ1 : List Ty) (Δ : List (Nat × Ty × Nat)) (f : Nat) (t : Ty) (b c : Nat) : Prop := ∀ S, tyF f t (cxs Δ1 Γ0 (tAll B C)) Δ = .inr S → (∀ d, mz d 1 (cxs Δ1 Γ0 (tAll B Dm)) S ≤ b) ∧ gz (cxs Δ1 Γ0 (tAll B Dm)) S ≤ c
section PmUq
variable {va vg f a1 a2 c1 c2 : Nat} {x y t B C Dm : Ty} {Γ0 Δ1 : List Ty} {Δ : List (Nat × Ty × Nat)}
theorem SmT.v (w : TWf f (cxs Δ1 Γ0 (tAll B C)).length (Δ.map (fun a => a.1)) t) (he : TE (cxs Δ1 Γ0 (tAll B C)) Δ) (oD : ok (Γ0.length + 1) Dm = true) (vD : ∀ b, vlr b 1 (mz b 1 Γ0 (tAll B Dm)) ≤ va) (vG : gz Γ0 (tAll B Dm) ≤ vg) (z : SmT va vg B C Γ0 Δ1 Δ f t a1 c1) : SmV Dm B C Γ0 Δ1 Δ f t a1 c1 := by sorry
theorem SmH.v (w : TWf f (cxs Δ1 Γ0 (tAll B C)).length (Δ.map (fun a => a.1)) t) (he : TE (cxs Δ1 Γ0 (tAll B C)) Δ) (oD : ok (Γ0.length + 1) Dm = true) (vD : ∀ b, vlr b 1 (mz b 1 Γ0 (tAll B Dm)) ≤ va) (vG : gz Γ0 (tAll B Dm) ≤ vg) (z : SmH va vg B C Γ0 Δ1 Δ f t a1 c1) : SmV Dm B C Γ0 Δ1 Δ f t a1 c1 := by sorry
theorem pair_sumv (ov : OVq 1 B C Dm Γ0) (x1 : TWf f (cxs Δ1 Γ0 (tAll B C)).length (Δ.map (fun a => a.1)) x) (x2 : TWf f (cxs Δ1 Γ0 (tAll B C)).length (Δ.map (fun a => a.1)) y) (he : TE (cxs Δ1 Γ0 (tAll B C)) Δ) (y1 : NAt f x) (y2 : NAt f y) (hv : noac (cxs Δ1 Γ0 (tAll B C))) (hd' : ∀ a ∈ Δ, noal a.2.1 = true) (hb : cch (cxs Δ1 Γ0 (tAll B C)) ≤ 56) (z1 : SmV Dm B C Γ0 Δ1 Δ f x a1 c1) (z2 : SmV Dm B C Γ0 Δ1 Δ f y a2 c2) (ha : a1 + a2 ≤ 887) (hg : c1 + c2 ≤ 597) : PRn f x y (cxs Δ1 Γ0 (tAll B C)) Δ := by sorry
theorem Dsm_va (b : Bool) : vlr b 1 (mz b 1 Γ0 (tAll B Dsm)) ≤ 7 := by sorry
theorem Dsm_vg : gz Γ0 (tAll B Dsm) ≤ 3 := by sorry
end PmUq

end
section
-- from 99u17
section PmUr
variable {N t0 fn s2 hv r0 r1 r2 r3 x0 X7 EA p pb EB p2 va hb : Nat} {n1 h : Nat → Nat} {P Q : List (List Nat)} {F G W : FrT} {X : List Nat} {B C : Ty} {Γ0 : List Ty}
theorem GH_gone {E : Stk → Nat} {Z : Nat → Nat} (hn : NC t0 n1 s2 h) (nC : noh hb C = true) : ∀ (f : Nat) (t : Ty) (π : Stk) (ω : List Nat) (Δ1 : List Ty) (Δ : List (Nat × Ty × Nat)), TWf f (cxs Δ1 Γ0 (tAll B C)).length (Δ.map (fun a => a.1)) t → TE (cxs Δ1 Γ0 (tAll B C)) Δ → COk f t π.length → AQh t0 n1 s2 h E Z f t π ω → CV t0 n1 s2 h ω (cxs Δ1 Γ0 (tAll B tTop)) → NHt hb f t → NAt f t → noac (cxs Δ1 Γ0 (tAll B C)) → SGc hb B C tTop Γ0 Δ1 → (∀ a ∈ Δ, noh hb a.2.1 = true ∧ noal a.2.1 = true) → GOk t0 n1 s2 h E f t π ω (cxs Δ1 Γ0 (tAll B C)) Δ := by sorry
theorem gone_BGh (hn : NC t0 n1 s2 h) (nC : noh hb C = true) (hm : ∀ y y', y ≤ y' → h y ≤ h y') (hh : ∀ y δ, h (y + δ) ≤ h y + δ) (T : TBs N t0 fn s2 hv r0 r1 r2 r3 x0 n1 h P Q F G X) (hx : PXk N P F X fn s2 r1 = true) (h21 : r2 ≤ r1) (h32 : r3 ≤ r2) (hpb : p ≤ pb) {f : Nat} {t S : Ty} {Δ1 : List Ty} {Δ : List (Nat × Ty × Nat)} {cv cd L : Nat} (w : TWf f (cxs Δ1 Γ0 (tAll B C)).length (Δ.map (fun a => a.1)) t) (he : TE (cxs Δ1 Γ0 (tAll B C)) Δ) (co : COk f t 0) (nh : NHt hb f t) (na : NAt f t) (hc : noac (cxs Δ1 Γ0 (tAll B C))) (s : SGc hb B C tTop Γ0 Δ1) (hd' : ∀ a ∈ Δ, noh hb a.2.1 = true ∧ noal a.2.1 = true) (nq : NQk f t 0) (hS : tyF f t (cxs Δ1 Γ0 (tAll B C)) Δ = .inr S) (hdc : dch Δ ≤ cd) (hcd : 2 ≤ cd) (hbb : cv + cd + 2 * mch t ≤ N) (hL : L ≤ 56) (hg : hasq f t = true → cv + gqk f t ≤ L) (hx0 : x0 ≤ X.getD L 0) (h7 : ∀ s, s + 3 ≤ mch t → Zx F (X.getD L 0) s ≤ X7) (hEB : ∀ s, s ≤ mch t → Zx F (X.getD L 0) s ≤ EB) (hP : ∀ (A : Ty) (d : Nat), ok d A = true → tch A + 2 ≤ mch t → flv A ≤ p2) (hw : ∀ j, j < (cxs Δ1 Γ0 (tAll B tTop)).length → vw (onz t0 n1 s2 h (cxs Δ1 Γ0 (tAll B tTop))) j ≤ X.getD cv 0) (hB : BEh t0 n1 s2 h X7 EA p pb EB p2 (cxs Δ1 Γ0 (tAll B C)) (onz t0 n1 s2 h (cxs Δ1 Γ0 (tAll B tTop)))) : BGh P (hdh X7 EA p EB p2 (Zx F (X.getD L 0))) (bqk f t 0) (cv + cd) (mch t) (nz t0 n1 s2 h (onz t0 n1 s2 h (cxs Δ1 Γ0 (tAll B tTop))) S) := by sorry
theorem gone_gen (nC : noh hb C = true) (hn : NC t0 n1 s2 h) (hm : ∀ y y', y ≤ y' → h y ≤ h y') (hh : ∀ y δ, h (y + δ) ≤ h y + δ) (T : TBs 58 t0 fn s2 hv r0 r1 r2 r3 x0 n1 h P Q F G X) (hx : PXk 58 P F X fn s2 r1 = true) (h21 : r2 ≤ r1) (h32 : r3 ≤ r2) (hgr : fgc F W hv = true) (hW : (1, 0) ∈ frg W 0) {f : Nat} {t S : Ty} {Δ1 : List Ty} {Δ : List (Nat × Ty × Nat)} {g ob cd Bd : Nat} (w : TWf f (cxs Δ1 Γ0 (tAll B C)).length (Δ.map (fun a => a.1)) t) (he : TE (cxs Δ1 Γ0 (tAll B C)) Δ) (vD : h (nz t0 n1 s2 h (onz t0 n1 s2 h Γ0) (tAll B tTop)) ≤ va) (co : COk f t 0) (nh : NHt hb f t) (na : NAt f t) (hc : noac (cxs Δ1 Γ0 (tAll B C))) (s : SGc hb B C tTop Γ0 Δ1) (hd' : ∀ a ∈ Δ, noh hb a.2.1 = true ∧ noal a.2.1 = true) (nq : NQk f t 0) (hk : tch (tAll B C) ≤ 56) (hm17 : mch t ≤ 17) (hg : hasq f t = true → gqk f t ≤ g) (hb0 : ∀ b ∈ Γ0, nsch b = true ∨ flv b ≤ ob) (hb1 : ∀ b ∈ Δ1, nsch b = true ∨ flv b ≤ ob) (hr : cch Γ0 ≤ 56) (hr2 : cch Δ1 ≤ 38) (hdc : dch Δ ≤ cd) (hcd : 2 ≤ cd) (hR : smH P F W X x0 va (tch (tAll B C)) (cch Γ0) (cch Δ1) g ob (bqk f t 0) cd (mch t) Bd = true) (hS : tyF f t (cxs Δ1 Γ0 (tAll B C)) Δ = .inr S) : nz t0 n1 s2 h (onz t0 n1 s2 h (cxs Δ1 Γ0 (tAll B tTop))) S ≤ Bd := by sorry
end PmUr

end
section
-- from 99u18
def GoneH (B C : Ty) (Γ0 Δ1 : List Ty) (Δ : List (Nat × Ty × Nat)) (f : Nat) (t : Ty) (b c : Nat) : Prop := COk f t 0 ∧ NQk f t 0 ∧ tch (tAll B C) ≤ 56 ∧ mch t ≤ 17 ∧ ∃ g ob cd, (hasq f t = true → gqk f t ≤ g) ∧ (∀ b ∈ Γ0, nsch b = true ∨ flv b ≤ ob) ∧ (∀ b ∈ Δ1, nsch b = true ∨ flv b ≤ ob) ∧ cch Γ0 ≤ 56 ∧ cch Δ1 ≤ 38 ∧ dch Δ ≤ cd ∧ 2 ≤ cd ∧ smH pp1 fr1 fg1 fx1 1 4 (tch (tAll B C)) (cch Γ0) (cch Δ1) g ob (bqk f t 0) cd (mch t) b = true ∧ smH ppq frq fgq fxq 1 2 (tch (tAll B C)) (cch Γ0) (cch Δ1) g ob (bqk f t 0) cd (mch t) c = true
section PmUs
variable {hb f a1 c1 : Nat} {x y t B C : Ty} {Γ0 Δ1 : List Ty} {Δ : List (Nat × Ty × Nat)}
theorem gone_va (b : Bool) : vlr b 1 (mz b 1 Γ0 (tAll B tTop)) ≤ 4 := by sorry
theorem gone_vg : gz Γ0 (tAll B tTop) ≤ 2 := by sorry
theorem GoneH.v (nC : noh hb C = true) (w : TWf f (cxs Δ1 Γ0 (tAll B C)).length (Δ.map (fun a => a.1)) t) (he : TE (cxs Δ1 Γ0 (tAll B C)) Δ) (nh : NHt hb f t) (na : NAt f t) (hc : noac (cxs Δ1 Γ0 (tAll B C))) (s : SGc hb B C tTop Γ0 Δ1) (hd' : ∀ a ∈ Δ, noh hb a.2.1 = true ∧ noal a.2.1 = true) (z : GoneH B C Γ0 Δ1 Δ f t a1 c1) : SmV tTop B C Γ0 Δ1 Δ f t a1 c1 := by sorry
theorem GoneT.v (nC : noh hb C = true) (w : TWf f (cxs Δ1 Γ0 (tAll B C)).length (Δ.map (fun a => a.1)) t) (he : TE (cxs Δ1 Γ0 (tAll B C)) Δ) (nh : NHt hb f t) (na : NAt f t) (hc : noac (cxs Δ1 Γ0 (tAll B C))) (s : SGc hb B C tTop Γ0 Δ1) (hd' : ∀ a ∈ Δ, noh hb a.2.1 = true ∧ noal a.2.1 = true) (z : GoneT B C Γ0 Δ1 Δ f t) : SmV tTop B C Γ0 Δ1 Δ f t 887 597 := by sorry
theorem pair_gonev (nC : noh hb C = true) (s : SGc hb B C tTop Γ0 Δ1) (x1 : TWf f (cxs Δ1 Γ0 (tAll B C)).length (Δ.map (fun a => a.1)) x) (x2 : TWf f (cxs Δ1 Γ0 (tAll B C)).length (Δ.map (fun a => a.1)) y) (he : TE (cxs Δ1 Γ0 (tAll B C)) Δ) (y1 : NAt f x) (y2 : NAt f y) (hv : noac (cxs Δ1 Γ0 (tAll B C))) (hd' : ∀ a ∈ Δ, noh hb a.2.1 = true ∧ noal a.2.1 = true) (hb' : cch (cxs Δ1 Γ0 (tAll B C)) ≤ 56) (p1 : NHt hb f x) (p2 : NHt hb f y) (z : SmV tTop B C Γ0 Δ1 Δ f x 887 597 ∨ SmV tTop B C Γ0 Δ1 Δ f y 887 597) : PRn f x y (cxs Δ1 Γ0 (tAll B C)) Δ := by sorry
end PmUs

end
section
-- from 99u19
def kw (h V t0 : Nat) (n1 : Nat → Nat) (s2 : Nat) (hf : Nat → Nat) (κ : Ty → Bool) : List Nat → Ty → Bool
  | ω, .tag c (.append a b) => if c = 2 then ((!(hd a == h)) || (κ b || decide (nz t0 n1 s2 hf (hf (nz t0 n1 s2 hf ω a) :: ω) b ≤ V))) && (kw h V t0 n1 s2 hf κ ω a && kw h V t0 n1 s2 hf κ (hf (nz t0 n1 s2 hf ω a) :: ω) b) else kw h V t0 n1 s2 hf κ ω a && kw h V t0 n1 s2 hf κ ω b
  | ω, .append a b => kw h V t0 n1 s2 hf κ ω a && kw h V t0 n1 s2 hf κ ω b
  | _, _ => true
section PmUt
variable {h V t0 s2 : Nat} {n1 hf : Nat → Nat} {κ : Ty → Bool}
theorem kw_top (ω : List Nat) : kw h V t0 n1 s2 hf κ ω tTop = true := by sorry
theorem kw_var (ω : List Nat) (k : Nat) : kw h V t0 n1 s2 hf κ ω (tVar k) = true := by sorry
theorem kw_nil (ω : List Nat) : kw h V t0 n1 s2 hf κ ω .nil = true := by sorry
theorem kw_fun {ω : List Nat} {a b : Ty} : kw h V t0 n1 s2 hf κ ω (tFun a b) = true ↔ kw h V t0 n1 s2 hf κ ω a = true ∧ kw h V t0 n1 s2 hf κ ω b = true := by sorry
theorem kw_all {ω : List Nat} {a b : Ty} : kw h V t0 n1 s2 hf κ ω (tAll a b) = true ↔ (hd a = h → κ b = true ∨ nz t0 n1 s2 hf (hf (nz t0 n1 s2 hf ω a) :: ω) b ≤ V) ∧ kw h V t0 n1 s2 hf κ ω a = true ∧ kw h V t0 n1 s2 hf κ (hf (nz t0 n1 s2 hf ω a) :: ω) b = true := by sorry
theorem kw_rec {ω : List Nat} {c : Nat} {x y z : Ty} : kw h V t0 n1 s2 hf κ ω (tRec c x y z) = true ↔ kw h V t0 n1 s2 hf κ ω x = true ∧ kw h V t0 n1 s2 hf κ ω y = true ∧ kw h V t0 n1 s2 hf κ ω z = true := by sorry
theorem vw_ext {k n x x' : Nat} {ω ω' : List Nat} (hk : k ≤ ω.length) (hl : ω'.length = ω.length + n) (hw : ∀ i, i < ω.length → vw ω' (if k ≤ i then i + n else i) ≤ vw ω i) (hx : x' ≤ x) : ∀ i, i < (x :: ω).length → vw (x' :: ω') (if k ≤ i then i + n else i) ≤ vw (x :: ω) i := by sorry
theorem nz_lfm (hm : ∀ y y', y ≤ y' → hf y ≤ hf y') {k n : Nat} : ∀ (f : Nat) (t : Ty) (ω ω' : List Nat), (flat t).length ≤ f → k ≤ ω.length → ω'.length = ω.length + n → ok ω.length t = true → (∀ i, i < ω.length → vw ω' (if k ≤ i then i + n else i) ≤ vw ω i) → nz t0 n1 s2 hf ω' (lft k n t) ≤ nz t0 n1 s2 hf ω t := by sorry
theorem kw_lft (hm : ∀ y y', y ≤ y' → hf y ≤ hf y') {k n : Nat} (hκ : ∀ (t : Ty) (d : Nat), ok d t = true → κ t = true → κ (lft k n t) = true) (h16 : h < 16) : ∀ (f : Nat) (t : Ty) (ω ω' : List Nat), (flat t).length ≤ f → k ≤ ω.length → ω'.length = ω.length + n → ok ω.length t = true → (∀ i, i < ω.length → vw ω' (if k ≤ i then i + n else i) ≤ vw ω i) → kw h V t0 n1 s2 hf κ ω t = true → kw h V t0 n1 s2 hf κ ω' (lft k n t) = true := by sorry
def sfx (Γ : List Ty) (j : Nat) : List Ty := Γ.drop (Γ.length - j)
theorem sfx_cons {Γ : List Ty} {a : Ty} {j : Nat} (hj : j ≤ Γ.length) : sfx (a :: Γ) j = sfx Γ j := by sorry
theorem sfx_all (Γ : List Ty) : sfx Γ Γ.length = Γ := by sorry
theorem sfx_len {Γ : List Ty} {j : Nat} (hj : j ≤ Γ.length) : (sfx Γ j).length = j := by sorry
theorem onz_sub : ∀ (Γ : List Ty) (j i : Nat), j ≤ Γ.length → i < j → vw (onz t0 n1 s2 hf Γ) i = vw (onz t0 n1 s2 hf (sfx Γ j)) i := by sorry
theorem sfx_cxs {Γ0 : List Ty} {β : Ty} {j : Nat} (hj : j ≤ Γ0.length) : ∀ Δ : List Ty, sfx (cxs Δ Γ0 β) j = sfx Γ0 j := by sorry
end PmUt

end
section
-- from 99u20
section PmUu
variable {h V t0 s2 : Nat} {n1 hf : Nat → Nat} {κ : Ty → Bool} {B C : Ty} {Γ0 : List Ty}
def Kv (h V t0 : Nat) (n1 : Nat → Nat) (s2 : Nat) (hf : Nat → Nat) (κ : Ty → Bool) (B C : Ty) (Γ0 : List Ty) (l : Nat) (Δ : List Ty) (t : Ty) : Prop := (Γ0.length < l ∧ l ≤ (cxs Δ Γ0 (tAll B C)).length) ∧ okc (cxs Δ Γ0 (tAll B C)) ∧ gqc 5 Γ0.length l (cxs Δ Γ0 (tAll B C)) ∧ (∀ j, j < (cxs Δ Γ0 (tAll B C)).length → (j < Γ0.length ∨ l ≤ j) → kw h V t0 n1 s2 hf κ (onz t0 n1 s2 hf (sfx (cxs Δ Γ0 (tAll B C)) j)) (bnd (cxs Δ Γ0 (tAll B C)) j) = true) ∧ ok (cxs Δ Γ0 (tAll B C)).length t = true ∧ gq 5 Γ0.length l t = true ∧ kw h V t0 n1 s2 hf κ (onz t0 n1 s2 hf (cxs Δ Γ0 (tAll B C))) t = true
theorem Kv.ext {l : Nat} {Δ : List Ty} {a b t : Ty} (k : Kv h V t0 n1 s2 hf κ B C Γ0 l Δ t) (oa : ok (cxs Δ Γ0 (tAll B C)).length a = true) (ob : ok ((cxs Δ Γ0 (tAll B C)).length + 1) b = true) (ga : gq 5 Γ0.length l a = true) (gb : gq 5 Γ0.length l b = true) (ka : kw h V t0 n1 s2 hf κ (onz t0 n1 s2 hf (cxs Δ Γ0 (tAll B C))) a = true) (kb : kw h V t0 n1 s2 hf κ (onz t0 n1 s2 hf (a :: cxs Δ Γ0 (tAll B C))) b = true) : Kv h V t0 n1 s2 hf κ B C Γ0 l (a :: Δ) b := by sorry
theorem Kv.part {l : Nat} {Δ : List Ty} {t b : Ty} (k : Kv h V t0 n1 s2 hf κ B C Γ0 l Δ t) (ob : ok (cxs Δ Γ0 (tAll B C)).length b = true) (gb : gq 5 Γ0.length l b = true) (kb : kw h V t0 n1 s2 hf κ (onz t0 n1 s2 hf (cxs Δ Γ0 (tAll B C))) b = true) : Kv h V t0 n1 s2 hf κ B C Γ0 l Δ b := by sorry
theorem Kv.cl (hm : ∀ y y', y ≤ y' → hf y ≤ hf y') (hκ : ∀ (k n : Nat) (t : Ty) (d : Nat), ok d t = true → κ t = true → κ (lft k n t) = true) (h16 : h < 16) (hB : hd B = h) {l : Nat} {Δ : List Ty} {t : Ty} (k : Kv h V t0 n1 s2 hf κ B C Γ0 l Δ t) : (∀ a b, t = tFun a b → Kv h V t0 n1 s2 hf κ B C Γ0 l Δ a ∧ Kv h V t0 n1 s2 hf κ B C Γ0 l Δ b) ∧ (∀ m x y z, m < 8 → t = tRec m x y z → (bit m 0 = true → Kv h V t0 n1 s2 hf κ B C Γ0 l Δ x) ∧ (bit m 1 = true → Kv h V t0 n1 s2 hf κ B C Γ0 l Δ y) ∧ (bit m 2 = true → Kv h V t0 n1 s2 hf κ B C Γ0 l Δ z)) ∧ (∀ a b, t = tAll a b → Kv h V t0 n1 s2 hf κ B C Γ0 l (a :: Δ) b) ∧ (∀ j, t = tVar j → j < (cxs Δ Γ0 (tAll B C)).length → j ≠ Γ0.length ∧ Kv h V t0 n1 s2 hf κ B C Γ0 l Δ (lft j ((cxs Δ Γ0 (tAll B C)).length - j) (bnd (cxs Δ Γ0 (tAll B C)) j))) ∧ ∀ f, t = tAll (upb Γ0 Δ B) f → κ f = true ∨ nz t0 n1 s2 hf (onz t0 n1 s2 hf (upb Γ0 Δ B :: cxs Δ Γ0 (tAll B C))) f ≤ V := by sorry
theorem Kv.base (hm : ∀ y y', y ≤ y' → hf y ≤ hf y') (hκ : ∀ (k n : Nat) (t : Ty) (d : Nat), ok d t = true → κ t = true → κ (lft k n t) = true) (h16 : h < 16) {Δ : List Ty} (hc : okc (cxs Δ Γ0 (tAll B C))) (h0 : ∀ j, j < Γ0.length → kw h V t0 n1 s2 hf κ (onz t0 n1 s2 hf (sfx Γ0 j)) (bnd Γ0 j) = true) (hkB : kw h V t0 n1 s2 hf κ (onz t0 n1 s2 hf Γ0) B = true) (hkC : kw h V t0 n1 s2 hf κ (onz t0 n1 s2 hf (B :: Γ0)) C = true) : Kv h V t0 n1 s2 hf κ B C Γ0 (cxs Δ Γ0 (tAll B C)).length (upb Γ0 Δ B :: Δ) (upb Γ0 Δ C) := by sorry
end PmUu

end
section
-- from 99u21
def kmc (C b : Ty) : Bool := decide (hd b < 16) && kms C b
theorem kmc_lft {C : Ty} (k n : Nat) (t : Ty) (d : Nat) (o : ok d t = true) (q : kmc C t = true) : kmc C (lft k n t) = true := by sorry
section PmUv
variable {h V Vg : Nat} {B C Dm : Ty} {Γ0 : List Ty}
theorem mis_raw {Δ : List Ty} {f : Ty} (hC : hd C ≠ 0 ∧ hd C < 16) (tk : tok (upb Γ0 Δ B :: cxs Δ Γ0 (tAll B C), f, upb Γ0 Δ C)) (oC : ok (Γ0.length + 1) C = true) (q : kmc C f = true) : trx (upb Γ0 Δ B :: cxs Δ Γ0 (tAll B C), f, upb Γ0 Δ C) = 0 ∧ trx (upb Γ0 Δ B :: cxs Δ Γ0 (tAll B C), upb Γ0 Δ C, f) = 0 ∧ (gm (0, upb Γ0 Δ B :: cxs Δ Γ0 (tAll B C), f, upb Γ0 Δ C) ≤ 1 ∧ gn (0, upb Γ0 Δ B :: cxs Δ Γ0 (tAll B C), f, upb Γ0 Δ C) ≤ 1) ∧ gm (0, upb Γ0 Δ B :: cxs Δ Γ0 (tAll B C), upb Γ0 Δ C, f) ≤ 1 ∧ gn (0, upb Γ0 Δ B :: cxs Δ Γ0 (tAll B C), upb Γ0 Δ C, f) ≤ 1 := by sorry
def KV3 (h V t0 : Nat) (n1 : Nat → Nat) (s2 : Nat) (hf : Nat → Nat) (κ : Ty → Bool) (B C : Ty) (Γ0 : List Ty) : Prop := (∀ j, j < Γ0.length → kw h V t0 n1 s2 hf κ (onz t0 n1 s2 hf (sfx Γ0 j)) (bnd Γ0 j) = true) ∧ kw h V t0 n1 s2 hf κ (onz t0 n1 s2 hf Γ0) B = true ∧ kw h V t0 n1 s2 hf κ (onz t0 n1 s2 hf (B :: Γ0)) C = true
def HKv (h V Vg : Nat) (B C : Ty) (Γ0 : List Ty) : Prop := (h < 16 ∧ hd B = h) ∧ (hd C ≠ 0 ∧ hd C < 16) ∧ (∀ b, KV3 h V 0 (fun _ => 1 + 1) (2 + 1) (vlr b 1) (kmc C) B C Γ0) ∧ KV3 h Vg 1 ngc 1 (fun x => x) (kmc C) B C Γ0
def DNm (V Vg : Nat) (Dm : Ty) (Γ0 : List Ty) : Prop := (ok (Γ0.length + 1) Dm = true ∧ hd Dm ≠ 0) ∧ (∀ Δ, upb Γ0 Δ Dm = Dm) ∧ (∀ Γ, V ≤ pmz (qu 1) true (oq (qu 1) Γ) Dm) ∧ (∀ b Γ, V ≤ urm b 1 0 Γ Dm) ∧ (∀ Γ, Vg ≤ gz Γ Dm) ∧ 1 ≤ V ∧ 1 ≤ Vg
theorem HKv.ov (H : HKv h V Vg B C Γ0) (D : DNm V Vg Dm Γ0) : OVq 1 B C Dm Γ0 := by sorry
end PmUv

end
section
-- from 99u22
section PmUw
variable {N t0 fn s2 hv r0 r1 r2 r3 x0 V : Nat} {n1 hf : Nat → Nat} {P Q : List (List Nat)} {F G : FrT} {X : List Nat} {κ : Ty → Bool}
theorem frg_up (T : TBs N t0 fn s2 hv r0 r1 r2 r3 x0 n1 hf P Q F G X) {i k : Nat} (i1 : 1 ≤ i) (hk : i + 3 ≤ k) (k56 : k ≤ 56) {p : Nat × Nat} (hp : p ∈ frg F i) : ∃ q ∈ frg F k, p.1 ≤ q.1 ∧ p.2 ≤ q.2 := by sorry
theorem kw_num (T : TBs N t0 fn s2 hv r0 r1 r2 r3 x0 n1 hf P Q F G X) : ∀ (f : Nat) (t : Ty) (ω : List Nat) (y : Nat), (flat t).length ≤ f → ok ω.length t = true → tch t ≤ 56 → x0 ≤ y → hf t0 ≤ y → (∀ j, j < ω.length → vw ω j ≤ y) → (6 ≤ tch t → ∀ p ∈ frg F (tch t - 5), p.2 + p.1 * y ≤ V) → kw 0 V t0 n1 s2 hf κ ω t = true := by sorry
end PmUw

end
section
-- from 99u23
def alls : Nat → Ty
  | 0 => tTop
  | n + 1 => tAll tTop (alls n)
def Dch (n : Nat) : Ty := tFun (alls n) tTop
section PmUx
variable {Γ0 : List Ty} {B C : Ty} {V Vg n y yg : Nat}
theorem alls_ok : ∀ (n d : Nat), ok d (alls n) = true := by sorry
theorem alls_lft (k m : Nat) : ∀ n : Nat, lft k m (alls n) = alls n := by sorry
theorem alls_pm : ∀ (n : Nat) (ω : List Nat), pmz (qu 1) false ω (alls n) = 2 * n := by sorry
theorem alls_mr (b : Bool) : ∀ (n : Nat) (d : Bool) (ω υ : List Nat), 3 * n ≤ mrz b 1 d ω υ (alls n) := by sorry
theorem alls_gz : ∀ (n : Nat) (Γ : List Ty), gz Γ (alls n) = n + 1 := by sorry
theorem alls_mz (b : Bool) : ∀ (n : Nat) (Γ : List Ty), mz b 1 Γ (alls n) = 3 * n := by sorry
theorem Dch_num (hV : V ≤ 2 * n) (hG : Vg ≤ n + 3) (v1 : 1 ≤ V) (v2 : 1 ≤ Vg) : DNm V Vg (Dch n) Γ0 := by sorry
theorem Dch_va (b : Bool) : vlr b 1 (mz b 1 Γ0 (tAll B (Dch n))) ≤ 3 * n + 6 := by sorry
theorem Dch_vg : gz Γ0 (tAll B (Dch n)) ≤ n + 4 := by sorry
theorem hkv_num (hC : hd C ≠ 0 ∧ hd C < 16) (hc : okc (tAll tTop C :: Γ0)) (y2 : 2 ≤ y) (g1 : 1 ≤ yg) (h56 : tch C ≤ 56) (h0 : ∀ j, j < Γ0.length → tch (bnd Γ0 j) ≤ 56) (hw : ∀ b j, j < Γ0.length → vw (onz 0 (fun _ => 1 + 1) (2 + 1) (vlr b 1) Γ0) j ≤ y) (hg : ∀ j, j < Γ0.length → vw (onz 1 ngc 1 (fun x => x) Γ0) j ≤ yg) (hV : ∀ k, (k = tch C ∨ ∃ j, j < Γ0.length ∧ k = tch (bnd Γ0 j)) → 6 ≤ k → (∀ p ∈ frg fr1 (k - 5), p.2 + p.1 * y ≤ V) ∧ ∀ p ∈ frg frq (k - 5), p.2 + p.1 * yg ≤ Vg) : HKv 0 V Vg tTop C Γ0 := by sorry
end PmUx

end
section
-- from 99u24
section PmUy
variable {G e : Nat} {Γ : List Ty} {PR : Ty → Ty → Prop}
theorem fun_inj {a b a' b' : Ty} (e : tFun a b = tFun a' b') : a = a' ∧ b = b' := by sorry
theorem all_inj {a b a' b' : Ty} (e : tAll a b = tAll a' b') : a = a' ∧ b = b' := by sorry
theorem trx_same {Γ : List Ty} {k : Nat} (tk : tok (Γ, tVar k, tVar k)) : trx (Γ, tVar k, tVar k) = 0 := by sorry
theorem ali_trx (G1 : 1 ≤ G) (sy : ∀ c d, PR c d → PR d c) (HL : ∀ c d, PR c d → ∀ Δ, TB e (Δ ++ Γ, lft Γ.length Δ.length c, lft Γ.length Δ.length d) → trx (Δ ++ Γ, lft Γ.length Δ.length c, lft Γ.length Δ.length d) ≤ G) : ∀ (f : Nat) (t : Ty) (c d : Ty) (Δ : List Ty), (flat t).length ≤ f → PR c d → ok (Γ.length + 1 + Δ.length) t = true → TB e (Δ ++ Γ, sbt Γ.length c Δ.length t, sbt Γ.length d Δ.length t) → trx (Δ ++ Γ, sbt Γ.length c Δ.length t, sbt Γ.length d Δ.length t) ≤ G * (flat t).length := by sorry
theorem ali_gm (G3 : 3 ≤ G) (sy : ∀ c d, PR c d → PR d c) (HL : ∀ c d, PR c d → ∀ Δ, TB e (Δ ++ Γ, lft Γ.length Δ.length c, lft Γ.length Δ.length d) → trx (Δ ++ Γ, lft Γ.length Δ.length c, lft Γ.length Δ.length d) ≤ G) (HG : ∀ c d, PR c d → ∀ Δ, TB e (Δ ++ Γ, lft Γ.length Δ.length c, lft Γ.length Δ.length d) → ∀ w, w ≤ 1 → gm (w, Δ ++ Γ, lft Γ.length Δ.length c, lft Γ.length Δ.length d) ≤ G ∧ gn (w, Δ ++ Γ, lft Γ.length Δ.length c, lft Γ.length Δ.length d) ≤ G) : ∀ (f : Nat) (t : Ty) (c d : Ty) (Δ : List Ty) (w : Nat), w ≤ 1 → (flat t).length ≤ f → PR c d → ok (Γ.length + 1 + Δ.length) t = true → TB e (Δ ++ Γ, sbt Γ.length c Δ.length t, sbt Γ.length d Δ.length t) → gm (w, Δ ++ Γ, sbt Γ.length c Δ.length t, sbt Γ.length d Δ.length t) ≤ G * (flat t).length ∧ gn (w, Δ ++ Γ, sbt Γ.length c Δ.length t, sbt Γ.length d Δ.length t) ≤ G * (flat t).length := by sorry
end PmUy

end
section
-- from 99u24b
section PmVb
variable {w : Nat} {Γ : List Ty} {S T : Ty}
theorem var_kind {j : Nat} (w1 : w ≤ 1) (tk : tok (Γ, tVar j, T)) (h0 : hd (bnd Γ j) < 16) (nT : ¬ 16 ≤ hd T) (nz' : hd T ≠ 0) (ne : hd (bnd Γ j) ≠ hd T) (nr : ¬ (8 ≤ hd (bnd Γ j) ∧ 8 ≤ hd T)) : trx (Γ, tVar j, T) ≤ 1 ∧ trx (Γ, T, tVar j) = 0 ∧ gm (w, Γ, tVar j, T) ≤ 2 ∧ gm (w, Γ, T, tVar j) ≤ 2 ∧ gn (w, Γ, tVar j, T) ≤ 1 ∧ gn (w, Γ, T, tVar j) ≤ 1 := by sorry
theorem bnd_app {j : Nat} (hj : j < Γ.length) : ∀ Δ : List Ty, bnd (Δ ++ Γ) j = bnd Γ j := by sorry
def VK (Γ : List Ty) (c d : Ty) : Prop := ∃ j, j < Γ.length ∧ c = tVar j ∧ hd (bnd Γ j) < 16 ∧ hd d < 16 ∧ hd d ≠ 0 ∧ hd (bnd Γ j) ≠ hd d ∧ ¬ (8 ≤ hd (bnd Γ j) ∧ 8 ≤ hd d)
theorem VK.all {c d : Ty} (od : ok Γ.length d = true) (v : VK Γ c d) (Δ : List Ty) (tk : tok (Δ ++ Γ, lft Γ.length Δ.length c, lft Γ.length Δ.length d)) (w1 : w ≤ 1) : (trx (Δ ++ Γ, lft Γ.length Δ.length c, lft Γ.length Δ.length d) ≤ 2 ∧ trx (Δ ++ Γ, lft Γ.length Δ.length d, lft Γ.length Δ.length c) ≤ 2) ∧ (gm (w, Δ ++ Γ, lft Γ.length Δ.length c, lft Γ.length Δ.length d) ≤ 2 ∧ gn (w, Δ ++ Γ, lft Γ.length Δ.length c, lft Γ.length Δ.length d) ≤ 2) ∧ gm (w, Δ ++ Γ, lft Γ.length Δ.length d, lft Γ.length Δ.length c) ≤ 2 ∧ gn (w, Δ ++ Γ, lft Γ.length Δ.length d, lft Γ.length Δ.length c) ≤ 2 := by sorry
end PmVb

end
section
-- from 99u25
def Sml (G : Nat) (Γ : List Ty) (c : Ty) : Prop := (∀ b, mz b 1 Γ c ≤ G) ∧ gz Γ c ≤ G
def PRl (G : Nat) (Γ : List Ty) (c d : Ty) : Prop := (ok Γ.length c = true ∧ ok Γ.length d = true ∧ (flat c).length ≤ 16) ∧ (flat d).length ≤ 16 ∧ (Sml G Γ c ∨ Sml G Γ d ∨ c = d ∨ VK Γ c d ∨ VK Γ d c)
section PmUz
variable {G : Nat} {Γ : List Ty}
theorem PRl.sy (c d : Ty) (h : PRl G Γ c d) : PRl G Γ d c := by sorry
theorem sfx_app (Δ : List Ty) : sfx (Δ ++ Γ) Γ.length = Γ := by sorry
theorem nz_ext {t0 s2 : Nat} {n1 hf : Nat → Nat} (hm : ∀ y y', y ≤ y' → hf y ≤ hf y') {c : Ty} (o : ok Γ.length c = true) (Δ : List Ty) : nz t0 n1 s2 hf (onz t0 n1 s2 hf (Δ ++ Γ)) (lft Γ.length Δ.length c) ≤ nz t0 n1 s2 hf (onz t0 n1 s2 hf Γ) c := by sorry
theorem Sml.ext {c : Ty} (o : ok Γ.length c = true) (h : Sml G Γ c) (Δ : List Ty) : Sml G (Δ ++ Γ) (lft Γ.length Δ.length c) := by sorry
theorem sml_trx {c d : Ty} (tb : TB 1 (Γ, c, d)) (h : Sml G Γ c ∨ Sml G Γ d) : trx (Γ, c, d) ≤ G := by sorry
theorem sml_gm {c d : Ty} {w : Nat} (w1 : w ≤ 1) (tb : TB 1 (Γ, c, d)) (h : Sml G Γ c ∨ Sml G Γ d) : gm (w, Γ, c, d) ≤ G ∧ gn (w, Γ, c, d) ≤ G := by sorry
theorem PRl.hl (G16 : 16 ≤ G) (c d : Ty) (h : PRl G Γ c d) (Δ : List Ty) (tb : TB 1 (Δ ++ Γ, lft Γ.length Δ.length c, lft Γ.length Δ.length d)) : trx (Δ ++ Γ, lft Γ.length Δ.length c, lft Γ.length Δ.length d) ≤ G := by sorry
theorem PRl.hg (G16 : 16 ≤ G) (c d : Ty) (h : PRl G Γ c d) (Δ : List Ty) (tb : TB 1 (Δ ++ Γ, lft Γ.length Δ.length c, lft Γ.length Δ.length d)) (w : Nat) (w1 : w ≤ 1) : gm (w, Δ ++ Γ, lft Γ.length Δ.length c, lft Γ.length Δ.length d) ≤ G ∧ gn (w, Δ ++ Γ, lft Γ.length Δ.length c, lft Γ.length Δ.length d) ≤ G := by sorry
theorem LJ_inst (G16 : 16 ≤ G) (G37 : G ≤ 37) {t c d : Ty} (h : PRl G Γ c d) (o : ok (Γ.length + 1) t = true) (lt : (flat t).length ≤ 16) (tb : TB 1 (Γ, sbt Γ.length c 0 t, sbt Γ.length d 0 t)) (hx : cch Γ ≤ 56) (lS : (flat (sbt Γ.length c 0 t)).length ≤ 16) (lT : (flat (sbt Γ.length d 0 t)).length ≤ 16) : LJ Γ (sbt Γ.length c 0 t) (sbt Γ.length d 0 t) := by sorry
end PmUz

end
section
-- from 99u26
section PmVa
variable {G f : Nat} {x y t A : Ty} {Γ : List Ty} {Δ : List (Nat × Ty × Nat)}
theorem tyF_is9 (w : TWf (f + 1) Γ.length (Δ.map (fun a => a.1)) t) (he : TE Γ Δ) (c9 : nKd t = 9) (e0 : tyF (f + 1) t Γ Δ = .inr A) : ∃ S a b, tyF f (nX t) Γ Δ = .inr S ∧ expo Γ Γ.length S = tAll a b ∧ A = sbt Γ.length (nY t) 0 b ∧ ok (Γ.length + 1) b = true ∧ ok Γ.length (nY t) = true ∧ (flat b).length ≤ 16 := by sorry
theorem LJ_two (G16 : 16 ≤ G) (G37 : G ≤ 37) (w1 : TWf (f + 1) Γ.length (Δ.map (fun a => a.1)) x) (w2 : TWf (f + 1) Γ.length (Δ.map (fun a => a.1)) y) (he : TE Γ Δ) (y1 : NAt (f + 1) x) (y2 : NAt (f + 1) y) (hv : noac Γ) (hd' : ∀ a ∈ Δ, noal a.2.1 = true) (hx : cch Γ ≤ 56) (k1 : nKd x = 9) (k2 : nKd y = 9) (hs : ∀ X Y, tyF f (nX x) Γ Δ = .inr X → tyF f (nX y) Γ Δ = .inr Y → expo Γ Γ.length X = expo Γ Γ.length Y) (hp : (flat (nY x)).length ≤ 16 ∧ (flat (nY y)).length ≤ 16 ∧ (Sml G Γ (nY x) ∨ Sml G Γ (nY y) ∨ nY x = nY y ∨ VK Γ (nY x) (nY y) ∨ VK Γ (nY y) (nY x))) : ∀ S T, tyF (f + 1) x Γ Δ = .inr S → tyF (f + 1) y Γ Δ = .inr T → LJ Γ S T := by sorry
end PmVa

end
section
-- from 99u27
section PmVc
variable {N t0 fn s2 hv r0 r1 r2 r3 x0 V h : Nat} {n1 hf : Nat → Nat} {P Q : List (List Nat)} {F G : FrT} {X : List Nat} {κ : Ty → Bool}
theorem kw_any (T : TBs N t0 fn s2 hv r0 r1 r2 r3 x0 n1 hf P Q F G X) : ∀ (f : Nat) (t : Ty) (ω : List Nat) (y : Nat), (flat t).length ≤ f → ok ω.length t = true → tch t ≤ 56 → x0 ≤ y → (∀ j, j < ω.length → vw ω j ≤ y) → (∀ p ∈ frg F (tch t), p.2 + p.1 * y ≤ V) → kw h V t0 n1 s2 hf κ ω t = true := by sorry
end PmVc
section PmVd
variable {Γ0 : List Ty} {B C : Ty} {V Vg n y yg : Nat}
theorem hkv_any (hB : hd B < 16) (hC : hd C ≠ 0 ∧ hd C < 16) (hc : okc (tAll B C :: Γ0)) (y1 : 1 ≤ y) (g1 : 1 ≤ yg) (hB56 : tch B ≤ 56) (h56 : tch C ≤ 56) (h0 : ∀ j, j < Γ0.length → tch (bnd Γ0 j) ≤ 56) (hw : ∀ b j, j < (B :: Γ0).length → vw (onz 0 (fun _ => 1 + 1) (2 + 1) (vlr b 1) (B :: Γ0)) j ≤ y) (hg : ∀ j, j < (B :: Γ0).length → vw (onz 1 ngc 1 (fun x => x) (B :: Γ0)) j ≤ yg) (hV : ∀ k, (k = tch C ∨ k = tch B ∨ ∃ j, j < Γ0.length ∧ k = tch (bnd Γ0 j)) → (∀ p ∈ frg fr1 k, p.2 + p.1 * y ≤ V) ∧ ∀ p ∈ frg frq k, p.2 + p.1 * yg ≤ Vg) : HKv (hd B) V Vg B C Γ0 := by sorry
theorem ov_any (hB : hd B < 16) (hC : hd C ≠ 0 ∧ hd C < 16) (hc : okc (tAll B C :: Γ0)) (y1 : 1 ≤ y) (g1 : 1 ≤ yg) (hB56 : tch B ≤ 56) (h56 : tch C ≤ 56) (h0 : ∀ j, j < Γ0.length → tch (bnd Γ0 j) ≤ 56) (hw : ∀ b j, j < (B :: Γ0).length → vw (onz 0 (fun _ => 1 + 1) (2 + 1) (vlr b 1) (B :: Γ0)) j ≤ y) (hg : ∀ j, j < (B :: Γ0).length → vw (onz 1 ngc 1 (fun x => x) (B :: Γ0)) j ≤ yg) (hV : ∀ k, (k = tch C ∨ k = tch B ∨ ∃ j, j < Γ0.length ∧ k = tch (bnd Γ0 j)) → (∀ p ∈ frg fr1 k, p.2 + p.1 * y ≤ 2 * n) ∧ ∀ p ∈ frg frq k, p.2 + p.1 * yg ≤ n + 3) (n1 : 1 ≤ n) : OVq 1 B C (Dch n) Γ0 := by sorry
end PmVd

end
section
-- from 99u28
def Agr (PR : List Ty → Ty → Ty → Prop) : Nat → List Ty → Ty → Ty → Nat → Prop
  | 0, _, _, _, _ => False
  | f + 1, Γ, S, T, n => 1 ≤ n ∧ (PR Γ S T ∨ (∃ a b a' b' i j, S = tFun a b ∧ T = tFun a' b' ∧ Agr PR f Γ a a' i ∧ Agr PR f Γ b b' j ∧ i + j + 1 ≤ n) ∨ (∃ a b a' b' j, S = tAll a b ∧ T = tAll a' b' ∧ (a = a' → Agr PR f (a :: Γ) b b' j) ∧ j + 1 ≤ n) ∨ (∃ m x y z x' y' z' i j k, m < 8 ∧ S = tRec m x y z ∧ T = tRec m x' y' z' ∧ (bit m 0 = true → Agr PR f Γ x x' i) ∧ (bit m 1 = true → Agr PR f Γ y y' j) ∧ (bit m 2 = true → Agr PR f Γ z z' k) ∧ i + j + k + 1 ≤ n))
section PmVe
variable {G e : Nat} {PR : List Ty → Ty → Ty → Prop}
theorem Agr.sy (sy : ∀ Γ c d, PR Γ c d → PR Γ d c) : ∀ (f : Nat) (Γ : List Ty) (S T : Ty) (n : Nat), Agr PR f Γ S T n → Agr PR f Γ T S n := by sorry
theorem agr_trx (G1 : 1 ≤ G) (sy : ∀ Γ c d, PR Γ c d → PR Γ d c) (HL : ∀ Γ c d, PR Γ c d → TB e (Γ, c, d) → trx (Γ, c, d) ≤ G) : ∀ (f : Nat) (Γ : List Ty) (S T : Ty) (n : Nat), Agr PR f Γ S T n → TB e (Γ, S, T) → trx (Γ, S, T) ≤ G * n := by sorry
end PmVe

end
section
-- from 99u29
section PmVf
variable {G e : Nat} {PR : List Ty → Ty → Ty → Prop}
theorem agr_gm (G3 : 3 ≤ G) (sy : ∀ Γ c d, PR Γ c d → PR Γ d c) (HL : ∀ Γ c d, PR Γ c d → TB e (Γ, c, d) → trx (Γ, c, d) ≤ G) (HG : ∀ Γ c d, PR Γ c d → TB e (Γ, c, d) → ∀ w, w ≤ 1 → gm (w, Γ, c, d) ≤ G ∧ gn (w, Γ, c, d) ≤ G) : ∀ (f : Nat) (Γ : List Ty) (S T : Ty) (n w : Nat), w ≤ 1 → Agr PR f Γ S T n → TB e (Γ, S, T) → gm (w, Γ, S, T) ≤ G * n ∧ gn (w, Γ, S, T) ≤ G * n := by sorry
end PmVf

end
section
-- from 99u30
def PRd (G : Nat) (Γ : List Ty) (c d : Ty) : Prop := Sml G Γ c ∨ Sml G Γ d ∨ (c = d ∧ (flat c).length ≤ 16) ∨ VK Γ c d ∨ VK Γ d c
section PmVg
variable {G : Nat} {Γ : List Ty}
theorem PRd.sy (Γ : List Ty) (c d : Ty) (h : PRd G Γ c d) : PRd G Γ d c := by sorry
theorem VK.here {c d : Ty} {w : Nat} (v : VK Γ c d) (tk : tok (Γ, c, d)) (w1 : w ≤ 1) : (trx (Γ, c, d) ≤ 2 ∧ trx (Γ, d, c) ≤ 2) ∧ (gm (w, Γ, c, d) ≤ 2 ∧ gn (w, Γ, c, d) ≤ 2) ∧ gm (w, Γ, d, c) ≤ 2 ∧ gn (w, Γ, d, c) ≤ 2 := by sorry
theorem PRd.hl (G16 : 16 ≤ G) (Γ : List Ty) (c d : Ty) (h : PRd G Γ c d) (tb : TB 1 (Γ, c, d)) : trx (Γ, c, d) ≤ G := by sorry
theorem PRd.hg (G16 : 16 ≤ G) (Γ : List Ty) (c d : Ty) (h : PRd G Γ c d) (tb : TB 1 (Γ, c, d)) (w : Nat) (w1 : w ≤ 1) : gm (w, Γ, c, d) ≤ G ∧ gn (w, Γ, c, d) ≤ G := by sorry
theorem LJ_agr (G16 : 16 ≤ G) {f n : Nat} {S T : Ty} (hn : G * n ≤ 597) (h : Agr (PRd G) f Γ S T n) (tb : TB 1 (Γ, S, T)) (hx : cch Γ ≤ 56) (lS : (flat S).length ≤ 16) (lT : (flat T).length ≤ 16) : LJ Γ S T := by sorry
theorem LB_agr (G16 : 16 ≤ G) {f n : Nat} {S T : Ty} (hn : G * n ≤ 887) (h : Agr (PRd G) f Γ S T n) (tb : TB 1 (Γ, S, T)) (hx : cch Γ ≤ 56) (lS : (flat S).length ≤ 16) (lT : (flat T).length ≤ 16) : LB Γ S T := by sorry
end PmVg

end
