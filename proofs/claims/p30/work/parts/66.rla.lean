/-! Calls: relation, keeps. -/
theorem hasC_tl {b t : Nat} (hb : b < 2 ^ 31) (ht : t < 32) : Jre_has (nI b) (nI t) = some (nI (tl b t)) := by
  unfold Jre_has
  rw [tl_e hb ht]
  have : tl b t < 2 := tl_le b t
  rcases (show tl b t = 0 ∨ tl b t = 1 by omega) with e | e
  · rw [e, if_pos n0_0]; rfl
  · rw [e, if_neg n1_0]; rfl
theorem tl01 (a b : Nat) : (tl a b = 0 ∧ nI (tl a b) = 0) ∨ (tl a b = 1 ∧ ¬ nI (tl a b) = 0) := by
  have : tl a b < 2 := tl_le a b
  rcases (show tl a b = 0 ∨ tl a b = 1 by omega) with e | e
  · rw [e]; exact Or.inl ⟨rfl, n0_0⟩
  · rw [e]; exact Or.inr ⟨rfl, n1_0⟩
theorem shr_neg {x : Int32} (h : x < 0) {b : Nat} (hb : b < 32) : ¬ x >>> (nI b &&& 31) = 0 := by
  intro w
  have e := pk_shr x (nI b &&& 31) b (sh31 b hb)
  rw [w, Int.shiftRight_eq_div_pow] at e
  have z : (0 : Int32).toInt = 0 := rfl
  rw [Int32.lt_iff_toInt_lt, z] at h
  rw [z] at e
  have p : (0 : Int) < ((2 ^ b : Nat) : Int) := Int.ofNat_lt.mpr (Nat.two_pow_pos b)
  have q := (Int.ediv_nonneg_iff_of_pos (a := x.toInt) p).mp (by rw [← e]; exact Int.le_refl 0)
  omega
theorem isRel_k {k n : Nat} (h1 : 1 ≤ k) (h3 : k ≤ 3) (hn : n ≤ 8) (e1 : (1 : Int32) <<< (nI k &&& 31) = nI n) (e2 : (1 : Int32) <<< (nI n &&& 31) - 1 = nI (2 ^ n - 1)) (w : Int32) : (∃ R, R < 2 ^ n ∧ w = nI R ∧ Jre_isRelation (nI k) w = some 1 ∧ Jm_isRelation (nI k) w = some 1) ∨ (Jre_isRelation (nI k) w = some 0 ∧ Jm_isRelation (nI k) w = some 0) := by
  have p8 : 2 ^ n ≤ 2 ^ 8 := pw_le hn
  have p0 : 0 < 2 ^ n := Nat.two_pow_pos n
  have C : Jre_isRelation (nI k) w = if w >>> (nI n &&& 31) = 0 then some 1 else some 0 := by
    unfold Jre_isRelation
    rw [if_neg (show ¬ nI k < (1 : Int32) from nI_nlt (b := 1) h1 (by omega)), if_neg (show ¬ (3 : Int32) < nI k from nI_nlt (a := 3) h3 (by decide)), e1]
  have M : Jm_isRelation (nI k) w = bd (Jm_in (Int32.toInt64 w) 0 (lN (2 ^ n - 1))) fun c2 => if c2 = 0 then some 0 else some 1 := by
    unfold Jm_isRelation
    rw [show Jm_in (Int32.toInt64 (nI k)) 1 3 = some 1 from in_yes (a := 1) (b := 3) h1 h3 (by decide), bd_some, if_neg one0, e1, e2, nI_l (by omega)]
  by_cases q : w < 0
  · right
    refine ⟨?_, ?_⟩
    · rw [C, if_neg (shr_neg q (by omega))]
    · rw [M, show Jm_in (Int32.toInt64 w) 0 (lN (2 ^ n - 1)) = some 0 from in_neg (a := 0) q (by decide) _, bd_some, if_pos rfl]
  · obtain ⟨R, hR, rfl⟩ := nI_of q
    have s : nI R >>> (nI n &&& 31) = nI (R >>> n) := nI_shr hR (by omega)
    rw [Nat.shiftRight_eq_div_pow] at s
    by_cases z : R < 2 ^ n
    · left
      refine ⟨R, z, rfl, ?_, ?_⟩
      · rw [C, s, Nat.div_eq_of_lt z, if_pos n0_0]
      · rw [M, show Jm_in (Int32.toInt64 (nI R)) 0 (lN (2 ^ n - 1)) = some 1 from in_yes (a := 0) (by omega) (by omega) (by omega), bd_some, if_neg one0]
    · right
      have l1 : 0 < R / 2 ^ n := Nat.div_pos (by omega) p0
      have l2 : R / 2 ^ n ≤ R := Nat.div_le_self _ _
      refine ⟨?_, ?_⟩
      · rw [C, s, if_neg (fun w => by
          have := (nI_eq (b := 0) (by omega) (by decide)).mp w
          omega)]
      · rw [M, show Jm_in (Int32.toInt64 (nI R)) 0 (lN (2 ^ n - 1)) = some 0 from in_high (b := 2 ^ n - 1) 0 (by omega) hR (by decide), bd_some, if_pos rfl]
def relK (k n : Nat) : Prop := 1 ≤ k ∧ k ≤ 3 ∧ n = 2 ^ k ∧ n ≤ 8 ∧ (1 : Int32) <<< (nI k &&& 31) = nI n ∧ (1 : Int32) <<< (nI n &&& 31) - 1 = nI (2 ^ n - 1)
theorem relK_ex {k : Nat} (h1 : 1 ≤ k) (h3 : k ≤ 3) : ∃ n, relK k n := by
  rcases (show k = 1 ∨ k = 2 ∨ k = 3 by omega) with rfl | rfl | rfl
  · exact ⟨2, by decide, by decide, rfl, by decide, by decide +kernel, by decide +kernel⟩
  · exact ⟨4, by decide, by decide, rfl, by decide, by decide +kernel, by decide +kernel⟩
  · exact ⟨8, by decide, by decide, rfl, by decide, by decide +kernel, by decide +kernel⟩
theorem isRel_or (v w : Int32) : (∃ k n R, relK k n ∧ R < 2 ^ n ∧ v = nI k ∧ w = nI R ∧ Jre_isRelation v w = some 1 ∧ Jm_isRelation v w = some 1) ∨ (Jre_isRelation v w = some 0 ∧ Jm_isRelation v w = some 0) := by
  by_cases q : v < 0
  · right
    have l1 : v < 1 := by
      rw [Int32.lt_iff_toInt_lt] at q ⊢
      have z : (0 : Int32).toInt = 0 := rfl
      have o : (1 : Int32).toInt = 1 := rfl
      omega
    refine ⟨?_, ?_⟩
    · unfold Jre_isRelation
      rw [if_pos l1]
    · unfold Jm_isRelation
      rw [show Jm_in (Int32.toInt64 v) 1 3 = some 0 from in_neg (a := 1) q (by decide) _, bd_some, if_pos rfl]
  · obtain ⟨k, hk, rfl⟩ := nI_of q
    by_cases k0 : k = 0
    · subst k0
      right
      refine ⟨?_, ?_⟩
      · unfold Jre_isRelation
        rw [if_pos (show nI 0 < (1 : Int32) from nI_lt (b := 1) (by decide) (by decide))]
      · unfold Jm_isRelation
        rw [show Jm_in (Int32.toInt64 (nI 0)) 1 3 = some 0 from in_low (a := 1) (by decide) (by decide) _, bd_some, if_pos rfl]
    by_cases k3 : 3 < k
    · right
      refine ⟨?_, ?_⟩
      · unfold Jre_isRelation
        rw [if_neg (show ¬ nI k < (1 : Int32) from nI_nlt (b := 1) (by omega) hk), if_pos (show (3 : Int32) < nI k from nI_lt (a := 3) k3 hk)]
      · unfold Jm_isRelation
        rw [show Jm_in (Int32.toInt64 (nI k)) 1 3 = some 0 from in_high (b := 3) 1 k3 hk (by decide), bd_some, if_pos rfl]
    obtain ⟨n, hr⟩ := relK_ex (k := k) (by omega) (by omega)
    obtain ⟨r1, r3, en, hn, e1, e2⟩ := id hr
    rcases isRel_k r1 r3 hn e1 e2 w with ⟨R, a, b, c, d⟩ | w
    · exact Or.inl ⟨k, n, R, hr, a, rfl, b, c, d⟩
    · exact Or.inr w
/-! what is kept -/
def KR (c k R x y z : Nat) : Prop := tl R x = 1 → tl R y = 1 → tl R z = 1 → tl R (pB k c x y z) = 1
def KpN (k n R c : Nat) : Prop := ∀ x y z, x < n → y < n → z < n → KR c k R x y z
theorem kepZ {c k n R x y : Nat} (hc : c < 256) (hr : relK k n) (hR : R < 2 ^ 8) (hx : x < n) (hy : y < n) : ∃ r : Int32 ⊕ Int32, loopN 1000000 (fun s => Jre_isKeptBy_L45 (nI c) (nI k) (nI R) (nI n) (nI x) (nI y) s) 0 = some r ∧ ((∃ a, r = .inl a ∧ ∀ z, z < n → KR c k R x y z) ∨ (r = .inr 0 ∧ (tl R x = 1 → ∃ z, z < n ∧ ¬ KR c k R x y z))) := by
  obtain ⟨r1, r3, en, hn, e1, e2⟩ := id hr
  refine loop_cnt (fun s => Jre_isKeptBy_L45 (nI c) (nI k) (nI R) (nI n) (nI x) (nI y) s) (fun i s => s = nI i ∧ ∀ z, z < i → KR c k R x y z) (fun r => (∃ a, r = .inl a ∧ ∀ z, z < n → KR c k R x y z) ∨ (r = .inr 0 ∧ (tl R x = 1 → ∃ z, z < n ∧ ¬ KR c k R x y z))) n (fun i s hi hs => ?_) (fun s hs => ?_) (F := 1000000) (by omega) (a := 0) (Nat.zero_le n) (s := 0) ⟨rfl, fun z hz => absurd hz (Nat.not_lt_zero z)⟩
  · obtain ⟨rfl, g⟩ := hs
    have pl := pB_lt c x y i k
    have S : ∀ o, Jre_isKeptBy_L45 (nI c) (nI k) (nI R) (nI n) (nI x) (nI y) (nI i) = o ↔ (if nI (tl R y) = 0 then some (.inr (.inl (nI i))) else if nI (tl R i) = 0 then some (.inl (nI (i + 1))) else if nI (tl R (pB k c x y i)) = 0 then some (.inr (.inr 0)) else some (.inl (nI (i + 1)))) = o := fun o => by
      unfold Jre_isKeptBy_L45
      rw [if_pos (nI_lt hi (by omega)), hasC_tl (by omega) (by omega), bd_some, hasC_tl (by omega) (by omega), bd_some, Jco_putOnBits_at (by omega) (by omega) (by omega) (by omega) (by omega), bd_some, hasC_tl (by omega) (by omega), bd_some, show nI i + (1 : Int32) = nI (i + 1) from nI_add i 1]
    rcases tl01 R y with ⟨y1, y2⟩ | ⟨y1, y2⟩
    · refine Or.inr ⟨.inl (nI i), ?_, Or.inl ⟨_, rfl, fun z hz a b c => by omega⟩⟩
      exact (S _).mpr (by rw [if_pos y2])
    rcases tl01 R i with ⟨z1, z2⟩ | ⟨z1, z2⟩
    · refine Or.inl ⟨nI (i + 1), (S _).mpr (by rw [if_neg y2, if_pos z2]), rfl, fun z hz => ?_⟩
      by_cases q : z = i
      · subst q
        intro a b c
        omega
      · exact g z (by omega)
    rcases tl01 R (pB k c x y i) with ⟨w1, w2⟩ | ⟨w1, w2⟩
    · exact Or.inr ⟨.inr 0, (S _).mpr (by rw [if_neg y2, if_neg z2, if_pos w2]), Or.inr ⟨rfl, fun x1 => ⟨i, hi, fun q => by have := q x1 y1 z1; omega⟩⟩⟩
    · refine Or.inl ⟨nI (i + 1), (S _).mpr (by rw [if_neg y2, if_neg z2, if_neg w2]), rfl, fun z hz => ?_⟩
      by_cases q : z = i
      · subst q
        intro a b c
        exact w1
      · exact g z (by omega)
  · obtain ⟨rfl, g⟩ := hs
    refine ⟨.inl (nI n), ?_, Or.inl ⟨_, rfl, g⟩⟩
    show Jre_isKeptBy_L45 (nI c) (nI k) (nI R) (nI n) (nI x) (nI y) (nI n) = _
    unfold Jre_isKeptBy_L45
    rw [if_neg (nI_nlt (Nat.le_refl n) (by omega))]
theorem kepY {c k n R x : Nat} (hc : c < 256) (hr : relK k n) (hR : R < 2 ^ 8) (hx : x < n) : ∃ r : Int32 ⊕ Int32, loopN 1000000 (fun s => Jre_isKeptBy_L27 (nI c) (nI k) (nI R) (nI n) (nI x) s) 0 = some r ∧ ((∃ a, r = .inl a ∧ ∀ y z, y < n → z < n → KR c k R x y z) ∨ (r = .inr 0 ∧ ∃ y z, y < n ∧ z < n ∧ ¬ KR c k R x y z)) := by
  obtain ⟨r1, r3, en, hn, e1, e2⟩ := id hr
  refine loop_cnt (fun s => Jre_isKeptBy_L27 (nI c) (nI k) (nI R) (nI n) (nI x) s) (fun i s => s = nI i ∧ ∀ y z, y < i → z < n → KR c k R x y z) (fun r => (∃ a, r = .inl a ∧ ∀ y z, y < n → z < n → KR c k R x y z) ∨ (r = .inr 0 ∧ ∃ y z, y < n ∧ z < n ∧ ¬ KR c k R x y z)) n (fun i s hi hs => ?_) (fun s hs => ?_) (F := 1000000) (by omega) (a := 0) (Nat.zero_le n) (s := 0) ⟨rfl, fun y z hy => absurd hy (Nat.not_lt_zero y)⟩
  · obtain ⟨rfl, g⟩ := hs
    obtain ⟨r, l1, l2⟩ := kepZ (y := i) hc hr hR hx hi
    have S : ∀ o, Jre_isKeptBy_L27 (nI c) (nI k) (nI R) (nI n) (nI x) (nI i) = o ↔ (if nI (tl R x) = 0 then some (.inr (.inl (nI i))) else sm r (fun t6 => some (.inl (nI (i + 1)))) (fun r6 => some (.inr (.inr r6)))) = o := fun o => by
      unfold Jre_isKeptBy_L27
      rw [if_pos (nI_lt hi (by omega)), hasC_tl (by omega) (by omega), bd_some, l1, bd_some, show nI i + (1 : Int32) = nI (i + 1) from nI_add i 1]
    rcases tl01 R x with ⟨x1, x2⟩ | ⟨x1, x2⟩
    · refine Or.inr ⟨.inl (nI i), (S _).mpr (by rw [if_pos x2]), Or.inl ⟨_, rfl, fun y z hy hz a b c => by omega⟩⟩
    rcases l2 with ⟨a, rfl, l3⟩ | ⟨rfl, l3⟩
    · refine Or.inl ⟨nI (i + 1), (S _).mpr (by rw [if_neg x2, sm_l]), rfl, fun y z hy hz => ?_⟩
      by_cases q : y = i
      · subst q
        exact l3 z hz
      · exact g y z (by omega) hz
    · obtain ⟨z, hz, w⟩ := l3 x1
      exact Or.inr ⟨.inr 0, (S _).mpr (by rw [if_neg x2, sm_r]), Or.inr ⟨rfl, i, z, hi, hz, w⟩⟩
  · obtain ⟨rfl, g⟩ := hs
    refine ⟨.inl (nI n), ?_, Or.inl ⟨_, rfl, g⟩⟩
    show Jre_isKeptBy_L27 (nI c) (nI k) (nI R) (nI n) (nI x) (nI n) = _
    unfold Jre_isKeptBy_L27
    rw [if_neg (nI_nlt (Nat.le_refl n) (by omega))]
noncomputable def keB (k n R c : Nat) : Bool := @decide (KpN k n R c) (Classical.propDecidable _)
theorem keB_t {k n R c : Nat} (h : KpN k n R c) : keB k n R c = true := @decide_eq_true _ (Classical.propDecidable _) h
theorem keB_f {k n R c : Nat} (h : ¬ KpN k n R c) : keB k n R c = false := @decide_eq_false _ (Classical.propDecidable _) h
theorem keptC_at {c k n R : Nat} (hc : c < 256) (hr : relK k n) (hR : R < 2 ^ n) : Jre_isKeptBy (nI c) (nI k) (nI R) = some (nI (if keB k n R c = true then 1 else 0)) := by
  obtain ⟨r1, r3, en, hn, e1, e2⟩ := id hr
  have p8 : 2 ^ n ≤ 2 ^ 8 := pw_le hn
  have p0 : 0 < 2 ^ n := Nat.two_pow_pos n
  unfold Jre_isKeptBy
  rw [e1, e2]
  by_cases q : R = 2 ^ n - 1
  · rw [if_pos (by rw [q])]
    have kp : KpN k n R c := fun x y z hx hy hz _ _ _ => by
      have w := pB_lt c x y z k
      rw [← en] at w
      rw [q, tl_bit, Nat.testBit_two_pow_sub_one, if_pos (decide_eq_true w)]
    rw [keB_t kp]
    rfl
  · rw [if_neg (fun w => q ((nI_eq (by omega) (by omega)).mp w))]
    obtain ⟨r, l1, l2⟩ := loop_cnt (fun s => Jre_isKeptBy_L18 (nI c) (nI k) (nI R) (nI n) s) (fun i s => s = nI i ∧ ∀ x y z, x < i → y < n → z < n → KR c k R x y z) (fun r => (∃ a, r = Sum.inl a ∧ KpN k n R c) ∨ (r = .inr 0 ∧ ¬ KpN k n R c)) n (fun i s hi hs => by
      obtain ⟨rfl, g⟩ := hs
      obtain ⟨r, l1, l2⟩ := kepY (R := R) (x := i) hc hr (by omega) hi
      have S : ∀ o, Jre_isKeptBy_L18 (nI c) (nI k) (nI R) (nI n) (nI i) = o ↔ (sm r (fun t6 => some (.inl (nI (i + 1)))) (fun r6 => some (.inr (.inr r6)))) = o := fun o => by
        unfold Jre_isKeptBy_L18
        rw [if_pos (nI_lt hi (by omega)), l1, bd_some, show nI i + (1 : Int32) = nI (i + 1) from nI_add i 1]
      rcases l2 with ⟨a, rfl, l3⟩ | ⟨rfl, y, z, hy, hz, l3⟩
      · refine Or.inl ⟨nI (i + 1), (S _).mpr (by rw [sm_l]), rfl, fun x y z hx hy hz => ?_⟩
        by_cases q : x = i
        · subst q
          exact l3 y z hy hz
        · exact g x y z (by omega) hy hz
      · exact Or.inr ⟨.inr 0, (S _).mpr (by rw [sm_r]), Or.inr ⟨rfl, fun w => l3 (w i y z hi hy hz)⟩⟩) (fun s hs => by
      obtain ⟨rfl, g⟩ := hs
      refine ⟨.inl (nI n), ?_, Or.inl ⟨_, rfl, g⟩⟩
      show Jre_isKeptBy_L18 (nI c) (nI k) (nI R) (nI n) (nI n) = _
      unfold Jre_isKeptBy_L18
      rw [if_neg (nI_nlt (Nat.le_refl n) (by omega))]) (F := 1000000) (by omega) (a := 0) (Nat.zero_le n) (s := 0) ⟨rfl, fun x y z hx => absurd hx (Nat.not_lt_zero x)⟩
    rw [l1, bd_some]
    rcases l2 with ⟨a, rfl, l3⟩ | ⟨rfl, l3⟩
    · rw [sm_l, keB_t l3]; rfl
    · rw [sm_r, keB_f l3]; rfl
theorem keepsRow_at {c k n R m : Nat} (hc : c < 256) (hr : relK k n) (hR : R < 2 ^ 8) (hm : m < 512) : (Jm_keepsRow (nI c) (nI k) (nI R) (nI m) = some (nI 1) ∧ KR c k R (m / 64) (m / 8 % 8) (m % 8)) ∨ (Jm_keepsRow (nI c) (nI k) (nI R) (nI m) = some (nI 0) ∧ ¬ KR c k R (m / 64) (m / 8 % 8) (m % 8)) := by
  obtain ⟨r1, r3, en, hn, e1, e2⟩ := id hr
  have d1 : nI m / (64 : Int32) = nI (m / 64) := pk_div (d := 64) (by omega) (by decide) (by decide)
  have d2 : nI m / (8 : Int32) = nI (m / 8) := pk_div (d := 8) (by omega) (by decide) (by decide)
  have d3 : nI (m / 8) - nI (m / 8) / (8 : Int32) * 8 = nI (m / 8 % 8) := pk_rem (d := 8) (by omega) (by decide) (by decide)
  have d4 : nI m - nI (m / 8) * (8 : Int32) = nI (m % 8) := by
    rw [← d2]
    exact pk_rem (d := 8) (by omega) (by decide) (by decide)
  have hx : m / 64 < 8 := by omega
  have hy : m / 8 % 8 < 8 := by omega
  have hz : m % 8 < 8 := by omega
  obtain ⟨x, ex⟩ : ∃ x, x = m / 64 := ⟨_, rfl⟩
  obtain ⟨y, ey⟩ : ∃ y, y = m / 8 % 8 := ⟨_, rfl⟩
  obtain ⟨z, ez⟩ : ∃ z, z = m % 8 := ⟨_, rfl⟩
  obtain ⟨r, l1, l2⟩ := loop_cnt (fun s => Jm_keepsRow_L56 (nI c) (nI k) (nI R) (nI m) (nI x) (nI y) (nI z) s.1 s.2) (fun i s => s = (nI (pB i c x y z), nI i)) (fun r => r.1 = nI (pB k c x y z)) k (fun i s hi hs => by
    subst hs
    refine Or.inl ⟨_, ?_, rfl⟩
    show Jm_keepsRow_L56 (nI c) (nI k) (nI R) (nI m) (nI x) (nI y) (nI z) (nI (pB i c x y z)) (nI i) = _
    unfold Jm_keepsRow_L56
    rw [if_pos (nI_lt hi (by omega)), tl_e (by omega) (by omega), tl_e (by omega) (by omega), tl_e (by omega) (by omega), lit 4, lit 2, nI_mul, nI_mul, nI_add, nI_add, Jm_tells_at (by omega) (Nat.lt_trans (idx_lt (tl_le _ _) (tl_le _ _) (tl_le _ _)) (by decide)), bd_some, nI_shl (tl_shl (tl_le _ _) (by omega)) (by omega), nI_or, ← pB_succ, show nI i + (1 : Int32) = nI (i + 1) from nI_add i 1]) (fun s hs => by
    subst hs
    refine ⟨(nI (pB k c x y z), nI k), ?_, rfl⟩
    show Jm_keepsRow_L56 (nI c) (nI k) (nI R) (nI m) (nI x) (nI y) (nI z) (nI (pB k c x y z)) (nI k) = _
    unfold Jm_keepsRow_L56
    rw [if_neg (nI_nlt (Nat.le_refl k) (by omega))]) (F := 1000000) (by omega) (a := 0) (Nat.zero_le k) (s := (0, 0)) rfl
  have pl := pB_lt c x y z k
  rw [← en] at pl
  have S : Jm_keepsRow (nI c) (nI k) (nI R) (nI m) = (if nI (tl R x) = 0 then some 1 else if nI (tl R y) = 0 then some 1 else if nI (tl R z) = 0 then some 1 else some (nI (tl R (pB k c x y z)))) := by
    have iz : isZ (nI (tl R (pB k c x y z))) = true := by
      have : tl R (pB k c x y z) < 2 := tl_le _ _
      rcases (show tl R (pB k c x y z) = 0 ∨ tl R (pB k c x y z) = 1 by omega) with e | e
      · rw [e]; rfl
      · rw [e]; rfl
    unfold Jm_keepsRow
    rw [d1, d2, d3, d4, ← ex, ← ey, ← ez, has_tl (by omega) (by omega), bd_some, has_tl (by omega) (by omega), bd_some, has_tl (by omega) (by omega), bd_some, l1, bd_some, l2, has_tl (by omega) (by omega), bd_some, iz, cond_true]
  rw [S, ← ex, ← ey, ← ez]
  rcases tl01 R x with ⟨x1, x2⟩ | ⟨x1, x2⟩
  · rw [if_pos x2]
    exact Or.inl ⟨rfl, fun a b c => by omega⟩
  rcases tl01 R y with ⟨y1, y2⟩ | ⟨y1, y2⟩
  · rw [if_neg x2, if_pos y2]
    exact Or.inl ⟨rfl, fun a b c => by omega⟩
  rcases tl01 R z with ⟨z1, z2⟩ | ⟨z1, z2⟩
  · rw [if_neg x2, if_neg y2, if_pos z2]
    exact Or.inl ⟨rfl, fun a b c => by omega⟩
  rw [if_neg x2, if_neg y2, if_neg z2]
  rcases tl01 R (pB k c x y z) with ⟨w1, w2⟩ | ⟨w1, w2⟩
  · rw [w1]
    exact Or.inr ⟨rfl, fun q => by have := q x1 y1 z1; omega⟩
  · rw [w1]
    exact Or.inl ⟨rfl, fun a b c => w1⟩
theorem keptM_at {c k n R : Nat} (hc : c < 256) (hr : relK k n) (hR : R < 2 ^ n) : Jm_keepsAll (nI c) (nI k) (nI R) = some (nI (if keB k n R c = true then 1 else 0)) := by
  obtain ⟨r1, r3, en, hn, e1, e2⟩ := id hr
  have p8 : 2 ^ n ≤ 2 ^ 8 := pw_le hn
  have fw : KpN k n R c → ∀ m, m < 512 → KR c k R (m / 64) (m / 8 % 8) (m % 8) := fun w m hm => by
    have nb : ∀ x, tl R x = 1 → x < n := fun x hx => Nat.not_le.mp fun q => by
      rw [tl_big hR q] at hx
      cases hx
    exact fun a b d => w _ _ _ (nb _ a) (nb _ b) (nb _ d) a b d
  have bw : (∀ m, m < 512 → KR c k R (m / 64) (m / 8 % 8) (m % 8)) → KpN k n R c := fun w x y z hx hy hz => by
    have := w (64 * x + 8 * y + z) (by omega)
    rw [show (64 * x + 8 * y + z) / 64 = x by omega, show (64 * x + 8 * y + z) / 8 % 8 = y by omega, show (64 * x + 8 * y + z) % 8 = z by omega] at this
    exact this
  obtain ⟨r, l1, l2⟩ := loop_cnt (fun s => Jm_keepsAll_L5 (nI c) (nI k) (nI R) s.1 s.2) (fun i s => (s = (nI 1, nI i) ∧ ∀ m, m < i → KR c k R (m / 64) (m / 8 % 8) (m % 8)) ∨ (s = (nI 0, nI i) ∧ ¬ KpN k n R c)) (fun r => (r.1 = nI 1 ∧ KpN k n R c) ∨ (r.1 = nI 0 ∧ ¬ KpN k n R c)) 512 (fun i s hi hs => by
    rcases hs with ⟨rfl, g⟩ | ⟨rfl, g⟩
    · left
      have S : ∀ o v, Jm_keepsRow (nI c) (nI k) (nI R) (nI i) = some v → some (.inl (v, nI (i + 1))) = o → Jm_keepsAll_L5 (nI c) (nI k) (nI R) (nI 1) (nI i) = o := fun o v e w => by
        rw [← w]
        unfold Jm_keepsAll_L5
        rw [if_pos (show nI i < (512 : Int32) from nI_lt (b := 512) hi (by decide)), if_neg n1_0, e, bd_some, show nI i + (1 : Int32) = nI (i + 1) from nI_add i 1]
      rcases keepsRow_at (R := R) hc hr (by omega) hi with ⟨a, b⟩ | ⟨a, b⟩
      · refine ⟨_, S _ _ a rfl, Or.inl ⟨rfl, fun m hm => ?_⟩⟩
        by_cases q : m = i
        · rw [q]; exact b
        · exact g m (by omega)
      · exact ⟨_, S _ _ a rfl, Or.inr ⟨rfl, fun w => b (fw w i hi)⟩⟩
    · right
      refine ⟨(nI 0, nI i), ?_, Or.inr ⟨rfl, g⟩⟩
      show Jm_keepsAll_L5 (nI c) (nI k) (nI R) (nI 0) (nI i) = _
      unfold Jm_keepsAll_L5
      rw [if_pos (show nI i < (512 : Int32) from nI_lt (b := 512) hi (by decide)), if_pos n0_0]) (fun s hs => by
    have S : ∀ b, Jm_keepsAll_L5 (nI c) (nI k) (nI R) b (nI 512) = some (.inr (b, nI 512)) := fun b => by
      unfold Jm_keepsAll_L5
      rw [if_neg (show ¬ nI 512 < (512 : Int32) from nI_nlt (b := 512) (Nat.le_refl 512) (by decide))]
    rcases hs with ⟨rfl, g⟩ | ⟨rfl, g⟩
    · exact ⟨_, S _, Or.inl ⟨rfl, bw g⟩⟩
    · exact ⟨_, S _, Or.inr ⟨rfl, g⟩⟩) (F := 1000000) (by omega) (a := 0) (Nat.zero_le 512) (s := (1, 0)) (Or.inl ⟨rfl, fun m hm => absurd hm (Nat.not_lt_zero m)⟩)
  unfold Jm_keepsAll
  rw [l1, bd_some]
  rcases l2 with ⟨a, b⟩ | ⟨a, b⟩
  · rw [a, keB_t b]; rfl
  · rw [a, keB_f b]; rfl
