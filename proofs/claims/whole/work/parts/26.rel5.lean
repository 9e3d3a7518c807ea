/-! words: bits (the first rows are BITS.to-paste, families wb_ and pf_) -/
theorem wb_tb (n : Nat) : (lN n).toBitVec = BitVec.ofNat 64 n := rfl
theorem wb_inj {a b : Int64} (h : a.toBitVec = b.toBitVec) : a = b := Int64.toBitVec_inj.mp h
theorem wb_tn {n : Nat} (h : n < 2 ^ 64) : (lN n).toBitVec.toNat = n := by rw [wb_tb, BitVec.toNat_ofNat, Nat.mod_eq_of_lt h]
theorem wb_c : ∀ k, k < 64 → ((nI k).toInt64 &&& 63) = lN k := by decide +kernel
theorem wb_sm : ∀ k, k < 64 → (BitVec.ofNat 64 k).smod 64 = BitVec.ofNat 64 k := by decide +kernel
theorem wb_lt2 {a b : Nat} (h : a < b) : 2 ^ a < 2 ^ b := Nat.pow_lt_pow_right (by decide) h
theorem wb_shl (n : Nat) {k : Nat} (hk : k < 64) : lN n <<< ((nI k).toInt64 &&& 63) = lN (n * 2 ^ k) := by
  rw [wb_c k hk]
  apply wb_inj
  rw [Int64.toBitVec_shiftLeft, wb_tb, wb_tb, wb_tb, wb_sm k hk]
  apply BitVec.eq_of_toNat_eq
  rw [BitVec.shiftLeft_eq', BitVec.toNat_shiftLeft, BitVec.toNat_ofNat, BitVec.toNat_ofNat, BitVec.toNat_ofNat, Nat.mod_eq_of_lt (show k < 2 ^ 64 by omega), Nat.shiftLeft_eq, Nat.mul_mod, Nat.mod_mod, ← Nat.mul_mod]
theorem wb_and {a b : Nat} (ha : a < 2 ^ 64) (hb : b < 2 ^ 64) : lN a &&& lN b = lN (a &&& b) := by
  apply wb_inj
  rw [Int64.toBitVec_and, wb_tb, wb_tb, wb_tb]
  apply BitVec.eq_of_toNat_eq
  rw [BitVec.toNat_and, BitVec.toNat_ofNat, BitVec.toNat_ofNat, BitVec.toNat_ofNat, Nat.mod_eq_of_lt ha, Nat.mod_eq_of_lt hb, Nat.mod_eq_of_lt (Nat.and_lt_two_pow _ hb)]
theorem wb_or {a b : Nat} (ha : a < 2 ^ 64) (hb : b < 2 ^ 64) : lN a ||| lN b = lN (a ||| b) := by
  apply wb_inj
  rw [Int64.toBitVec_or, wb_tb, wb_tb, wb_tb]
  apply BitVec.eq_of_toNat_eq
  rw [BitVec.toNat_or, BitVec.toNat_ofNat, BitVec.toNat_ofNat, BitVec.toNat_ofNat, Nat.mod_eq_of_lt ha, Nat.mod_eq_of_lt hb, Nat.mod_eq_of_lt (Nat.or_lt_two_pow ha hb)]
theorem wb_mask {n k : Nat} (hn : n < 2 ^ 64) (hk : k < 64) : lN n &&& lN (2 ^ k - 1) = lN (n % 2 ^ k) := by
  rw [wb_and hn (by have := wb_lt2 hk; omega), Nat.and_two_pow_sub_one_eq_mod]
theorem pf_lI {a : Nat} (h : a < 2 ^ 63) : (lN a).toInt = (a : Int) := lg_ofNat_toInt h
theorem pf_shr {a d : Nat} {D : Int64} (hD : (D.toBitVec.smod 64).toNat = d) (h : a < 2 ^ 62) : lN a >>> D = lN (a / 2 ^ d) := by
  have hd : a / 2 ^ d ≤ a := Nat.div_le_self _ _
  apply Int64.toInt_inj.mp
  have e : (lN a >>> D).toInt = (lN a).toInt >>> d := by
    rw [← hD]
    exact BitVec.toInt_sshiftRight ..
  rw [e, Int.shiftRight_eq_div_pow, pf_lI (by omega), pf_lI (by omega)]
  rfl
/-! words as numbers -/
def dg (x : Int32) : Nat := x.toNatClampNeg - 96
def lt2 (x : Int32) : Prop := nI 97 ≤ x ∧ x ≤ nI 122
theorem lt2_of {x : Int32} (h : lt2 x) : ∃ j, 97 ≤ j ∧ j ≤ 122 ∧ x = nI j ∧ dg x = j - 96 := by
  obtain ⟨j, hj, rfl⟩ := nI_of (x := x) (fun q => absurd (Int32.lt_of_le_of_lt h.1 q) (by decide))
  refine ⟨j, (nI_leI (by decide) hj).mp h.1, (nI_leI hj (by decide)).mp h.2, rfl, ?_⟩
  unfold dg
  rw [nI_clamp hj]
theorem dg_0 : dg 0 = 0 := by decide
def pw (f : Nat → Int32) : Nat := vD 32 (fun i => dg (f i)) 12
/-- letters, then nothing -/
def WV (f : Nat → Int32) : Prop := ∃ m, m ≤ 12 ∧ (∀ j, j < m → lt2 (f j)) ∧ ∀ j, m ≤ j → j < 12 → f j = 0
def WD2 (f : Nat → Int32) : Prop := ∀ j, j < 12 → f j = 0 ∨ lt2 (f j)
theorem WV.d {f : Nat → Int32} (h : WV f) : WD2 f := by
  obtain ⟨m, -, h1, h2⟩ := h
  intro j hj
  rcases Nat.lt_or_ge j m with q | q
  · exact Or.inr (h1 j q)
  · exact Or.inl (h2 j q hj)
theorem dg_lt {x : Int32} (h : x = 0 ∨ lt2 x) : dg x < 32 := by
  rcases h with rfl | h
  · rw [dg_0]; decide
  · obtain ⟨j, h1, h2, -, e⟩ := lt2_of h
    rw [e]; omega
theorem dg_mono {x y : Int32} (hx : x = 0 ∨ lt2 x) (hy : y = 0 ∨ lt2 y) (h : x < y) : dg x < dg y := by
  rcases hx with rfl | hx <;> rcases hy with rfl | hy
  · exact absurd h Int32.lt_irrefl
  · obtain ⟨j, h1, h2, -, e⟩ := lt2_of hy
    rw [e, dg_0]; omega
  · obtain ⟨j, h1, h2, e1, -⟩ := lt2_of hx
    rw [e1] at h
    exact absurd h (nI_pos (by omega))
  · obtain ⟨j, h1, h2, e1, e⟩ := lt2_of hx
    obtain ⟨k, h3, h4, e2, e3⟩ := lt2_of hy
    rw [e, e3]
    rw [e1, e2] at h
    have := (nI_ltI (by omega) (by omega)).mp h
    omega
/-- digits that are cut to the first twelve -/
theorem vD_cut {B : Nat} {d : Nat → Nat} : vD B d 12 = vD B (fun i => if i < 12 then d i else 0) 12 := vD_eq (fun i hi => by rw [if_pos hi])
theorem pw_lt {f g : Nat → Int32} (hf : WD2 f) {k : Nat} (hk : k < 12) (h1 : ∀ i, i < k → f i = g i) (h2 : dg (f k) < dg (g k)) : pw f < pw g := by
  unfold pw
  rw [vD_cut, vD_cut (d := fun i => dg (g i))]
  refine vD_lt (k := k) (fun i => ?_) (fun i hi => ?_) ?_ 12 hk
  · try dsimp only
    split
    · exact dg_lt (hf i (by assumption))
    · decide
  · try dsimp only
    rw [if_pos (by omega), if_pos (by omega), h1 i hi]
  · try dsimp only
    rw [if_pos hk, if_pos hk]; exact h2
theorem pw_eq {f g : Nat → Int32} (h : ∀ i, i < 12 → f i = g i) : pw f = pw g := vD_eq (fun i hi => by rw [h i hi])
theorem first_ne {f g : Nat → Int32} (h : ¬ ∀ k, k < 12 → f k = g k) : ∃ k, k < 12 ∧ (∀ i, i < k → f i = g i) ∧ f k ≠ g k := by
  obtain ⟨k, hk, hmin⟩ := pk_least (fun k => k < 12 ∧ f k ≠ g k) (by
    refine Classical.byContradiction fun q => h fun k hk => Classical.byContradiction fun z => q ⟨k, hk, z⟩)
  exact ⟨k, hk.1, fun i hi => Classical.byContradiction fun z => hmin i hi ⟨by omega, z⟩, hk.2⟩
theorem vp_lt {f g : Nat → Int32} (hf : WD2 f) (hg : WD2 g) : vW f < vW g ↔ pw f < pw g := by
  by_cases h : ∀ k, k < 12 → f k = g k
  · rw [vW_eq.mpr h, pw_eq h]; exact ⟨fun q => absurd q (Nat.lt_irrefl _), fun q => absurd q (Nat.lt_irrefl _)⟩
  · obtain ⟨k, hk, h1, h2⟩ := first_ne h
    by_cases z : f k < g k
    · exact ⟨fun _ => pw_lt hf hk h1 (dg_mono (hf k hk) (hg k hk) z), fun _ => vW_lt hk h1 z⟩
    · have z2 := i32_tri h2 z
      exact ⟨fun q => absurd q (Nat.lt_asymm (vW_lt hk (fun i hi => (h1 i hi).symm) z2)), fun q => absurd q (Nat.lt_asymm (pw_lt hg hk (fun i hi => (h1 i hi).symm) (dg_mono (hg k hk) (hf k hk) z2)))⟩
theorem vp_eq {f g : Nat → Int32} (hf : WD2 f) (hg : WD2 g) : vW f = vW g ↔ pw f = pw g := by
  have h1 := vp_lt hf hg
  have h2 := vp_lt hg hf
  constructor
  · intro q
    have a : ¬ pw f < pw g := fun z => by have := h1.mpr z; omega
    have b : ¬ pw g < pw f := fun z => by have := h2.mpr z; omega
    omega
  · intro q
    have a : ¬ vW f < vW g := fun z => by have := h1.mp z; omega
    have b : ¬ vW g < vW f := fun z => by have := h2.mp z; omega
    omega
theorem vD_bd {B : Nat} {d : Nat → Nat} (hB : ∀ i, d i < B) : ∀ n, vD B d n < B ^ n
  | 0 => by simp [vD]
  | n + 1 => by
    have ih := vD_bd hB n
    have hb := hB n
    show vD B d n * B + d n < B ^ n * B
    have : (vD B d n + 1) * B ≤ B ^ n * B := Nat.mul_le_mul_right B ih
    rw [Nat.add_mul, Nat.one_mul] at this
    omega
theorem pw_bd {f : Nat → Int32} (hf : WD2 f) : pw f < 1152921504606846976 := by
  unfold pw
  rw [vD_cut]
  exact vD_bd (B := 32) (fun i => by
    try dsimp only
    split
    · exact dg_lt (hf i (by assumption))
    · decide) 12
theorem vD_dig {B : Nat} {d : Nat → Nat} (hB : ∀ i, d i < B) (h0 : 0 < B) : ∀ n k, k < n → vD B d n / B ^ (n - 1 - k) % B = d k
  | 0, k, h => absurd h (Nat.not_lt_zero k)
  | n + 1, k, h => by
    show (vD B d n * B + d n) / B ^ (n + 1 - 1 - k) % B = d k
    rcases Nat.lt_or_ge k n with q | q
    · have ih := vD_dig hB h0 n k q
      rw [show n + 1 - 1 - k = (n - 1 - k) + 1 by omega, Nat.pow_succ, Nat.mul_comm (B ^ (n - 1 - k)) B, ← Nat.div_div_eq_div_mul]
      rw [show (vD B d n * B + d n) / B = vD B d n by rw [Nat.add_comm, Nat.add_mul_div_right _ _ h0, Nat.div_eq_of_lt (hB n), Nat.zero_add]]
      exact ih
    · rw [show n + 1 - 1 - k = 0 by omega, Nat.pow_zero, Nat.div_one, Nat.add_comm, Nat.add_mul_mod_self_right, Nat.mod_eq_of_lt (hB n), show k = n by omega]
theorem sg_dig {f : Nat → Int32} (hf : WD2 f) {k : Nat} (hk : k < 12) : sgA (lN (pw f)) k = nI (dg (f k)) := by
  have hb := pw_bd hf
  have hs : 5 * (11 - k) < 64 := by omega
  unfold sgA
  rw [pf_shr (d := 5 * (11 - k)) (by rw [wb_c _ hs, wb_tb, wb_sm _ hs, BitVec.toNat_ofNat, Nat.mod_eq_of_lt (by omega)]) (by omega)]
  have hle : pw f / 2 ^ (5 * (11 - k)) < 2 ^ 64 := Nat.lt_of_le_of_lt (Nat.div_le_self _ _) (by omega)
  have hm : lN (pw f / 2 ^ (5 * (11 - k))) &&& 31 = lN (pw f / 2 ^ (5 * (11 - k)) % 32) := wb_mask (k := 5) hle (by decide)
  rw [hm, lN_i]
  have e : pw f / 2 ^ (5 * (11 - k)) % 32 = dg (f k) := by
    unfold pw
    rw [vD_cut, show 2 ^ (5 * (11 - k)) = 32 ^ (12 - 1 - k) by rw [show (32 : Nat) = 2 ^ 5 from rfl, ← Nat.pow_mul]]
    rw [vD_dig (B := 32) (d := fun i => if i < 12 then dg (f i) else 0) (fun i => by
      try dsimp only
      split
      · exact dg_lt (hf i (by assumption))
      · decide) (by decide) 12 k hk]
    exact if_pos hk
  rw [e]
/-- the tape -/
def TR (tape : Int64) (tm : Nat) (ft : Nat → Int32) : Prop := tm ≤ 12 ∧ (∀ j, j < tm → lt2 (ft j)) ∧ tape = lN (pw (tS tm ft))
theorem TR.wv {tape : Int64} {tm : Nat} {ft : Nat → Int32} (h : TR tape tm ft) : WV (tS tm ft) := ⟨tm, h.1, fun j hj => by rw [tS_t hj]; exact h.2.1 j hj, fun j hj _ => tS_f hj⟩
theorem lt2_ne {x : Int32} (h : lt2 x) : 0 < dg x ∧ dg x ≤ 26 ∧ x = nI 96 + nI (dg x) := by
  obtain ⟨j, h1, h2, rfl, e⟩ := lt2_of h
  rw [e, nI_add]
  exact ⟨by omega, by omega, congrArg nI (by omega)⟩
theorem SG.uniq {tape : Int64} {tm g : Nat} {ft : Nat → Int32} (h : TR tape tm ft) (hg : SG tape g) : g = tm := by
  obtain ⟨g1, g2, g3⟩ := hg
  have hd := h.wv.d
  have e : ∀ k, k < 12 → sgA tape k = nI (dg (tS tm ft k)) := fun k hk => by rw [h.2.2]; exact sg_dig hd hk
  have h12 := h.1
  rcases Nat.lt_trichotomy g tm with q | q | q
  · have h1 := g3 (by omega)
    rw [e g (by omega), tS_t q] at h1
    have h2 := lt2_ne (h.2.1 g q)
    exact absurd h1 (nI_ne0 h2.1 (by omega))
  · exact q
  · have h1 := g2 tm q
    rw [e tm (by omega), tS_f (Nat.le_refl _), dg_0] at h1
    exact absurd rfl h1
theorem TR.nil {ft : Nat → Int32} : TR 0 0 ft := by
  refine ⟨by decide, fun j h => absurd h (Nat.not_lt_zero j), ?_⟩
  have e : pw (tS 0 ft) = 0 := by
    have : pw (tS 0 ft) = pw (fun _ => 0) := pw_eq (fun i _ => tS_f (Nat.zero_le i))
    rw [this]; decide
  rw [e]; rfl
theorem vD_upd {B : Nat} {d e : Nat → Nat} {k x : Nat} (h1 : ∀ i, i ≠ k → e i = d i) (h0 : d k = 0) (hx : e k = x) : ∀ n, vD B e n = vD B d n + (if k < n then x * B ^ (n - 1 - k) else 0)
  | 0 => by rw [if_neg (Nat.not_lt_zero k)]; rfl
  | n + 1 => by
    have ih := vD_upd (B := B) h1 h0 hx n
    show vD B e n * B + e n = vD B d n * B + d n + _
    rw [ih]
    rcases Nat.lt_trichotomy k n with q | q | q
    · rw [if_pos q, if_pos (by omega), h1 n (by omega), Nat.add_mul, show n + 1 - 1 - k = (n - 1 - k) + 1 by omega, Nat.pow_succ, ← Nat.mul_assoc]
      omega
    · subst q
      rw [if_neg (Nat.lt_irrefl _), if_pos (Nat.lt_succ_self _), hx, h0, show k + 1 - 1 - k = 0 by omega, Nat.pow_zero, Nat.mul_one, Nat.add_zero, Nat.add_zero]
    · rw [if_neg (by omega), if_neg (by omega), h1 n (by omega), Nat.add_zero, Nat.add_zero]
theorem TR.sign {tape : Int64} {tm g : Nat} {ft : Nat → Int32} {x : Int32} (h : TR tape tm ft) (hx : lt2 x) (ht : tm < 12) : TR (tape + ((x - nI 96).toInt64 <<< ((nI (5 * (11 - tm))).toInt64 &&& 63))) (tm + 1) (upd ft tm x) := by
  obtain ⟨j, h1, h2, rfl, e⟩ := lt2_of hx
  refine ⟨by omega, fun i hi => ?_, ?_⟩
  · by_cases q : i = tm
    · subst q; rw [pk_us]; exact hx
    · rw [pk_un q]; exact h.2.1 i (by omega)
  · rw [pk_sub (by omega), nI_l (by omega), wb_shl _ (by omega), h.2.2, lN_add]
    refine congrArg lN ?_
    unfold pw
    rw [vD_upd (B := 32) (d := fun i => dg (tS tm ft i)) (e := fun i => dg (tS (tm + 1) (upd ft tm (nI j)) i)) (k := tm) (x := j - 96) (fun i hi => ?_) ?_ ?_ 12, if_pos ht]
    · rw [show 2 ^ (5 * (11 - tm)) = 32 ^ (12 - 1 - tm) by rw [show (32 : Nat) = 2 ^ 5 from rfl, ← Nat.pow_mul]]
    · show dg (tS tm ft tm) = 0
      rw [tS_f (Nat.le_refl _), dg_0]
    · show dg (tS (tm + 1) (upd ft tm (nI j)) tm) = j - 96
      rw [tS_t (Nat.lt_succ_self _), pk_us, e]
    · try dsimp only
      rcases Nat.lt_or_ge i tm with q | q
      · rw [tS_t q, tS_t (by omega), pk_un hi]
      · rw [tS_f q, tS_f (by omega)]
