/-! pairs as keys; lists that are filtered from their end -/
theorem sh32 : ((nI 32).toInt64 &&& 63) = 32 := by decide
theorem shl32 (x : Int64) : x <<< (32 : Int64) = x * 4294967296 := by
  apply Int64.toBitVec_inj.mp
  rw [Int64.toBitVec_shiftLeft, Int64.toBitVec_mul]
  show x.toBitVec <<< 32 = _
  rw [BitVec.shiftLeft_eq_mul_twoPow]
  rfl
theorem shr32 (x : Int64) : (x >>> (32 : Int64)).toInt = x.toInt / 4294967296 := by
  show (x >>> (32 : Int64)).toBitVec.toInt = _
  rw [Int64.toBitVec_shiftRight]
  show (x.toBitVec.sshiftRight 32).toInt = _
  rw [BitVec.toInt_sshiftRight, Int.shiftRight_eq_div_pow]
  rfl
theorem i32_rng (a : Int32) : -2147483648 ≤ a.toInt ∧ a.toInt < 2147483648 := ⟨Int32.le_toInt a, Int32.toInt_lt a⟩
theorem i64_rng (a : Int64) : -9223372036854775808 ≤ a.toInt ∧ a.toInt < 9223372036854775808 := ⟨Int64.le_toInt a, Int64.toInt_lt a⟩
theorem bm64 {x : Int} (h1 : -9223372036854775808 ≤ x) (h2 : x < 9223372036854775808) : x.bmod (2 ^ 64) = x := Int.bmod_eq_of_le (by omega) (by omega)
theorem bm32 {x : Int} (h1 : -2147483648 ≤ x) (h2 : x < 2147483648) : x.bmod (2 ^ 32) = x := Int.bmod_eq_of_le (by omega) (by omega)
theorem ext64 (a : Int32) : a.toInt64.toInt = a.toInt := by simp
theorem pk_int (a b : Int32) : (pk a b).toInt = a.toInt * 4294967296 + (b.toInt + 2147483648) := by
  have ha := i32_rng a
  have hb := i32_rng b
  unfold pk
  rw [sh32, shl32]
  have e1 : (4294967296 : Int64).toInt = 4294967296 := rfl
  have e2 : (-2147483648 : Int64).toInt = -2147483648 := rfl
  have m1 : (a.toInt64 * 4294967296).toInt = a.toInt * 4294967296 := by
    rw [Int64.toInt_mul, ext64, e1, bm64 (by omega) (by omega)]
  have m2 : (b.toInt64 - (-2147483648)).toInt = b.toInt + 2147483648 := by
    rw [Int64.toInt_sub, ext64, e2, bm64 (by omega) (by omega)]
    omega
  rw [Int64.toInt_add, m1, m2, bm64 (by omega) (by omega)]
theorem fsK_int (k : Int64) : (fsK k).toInt = k.toInt / 4294967296 := by
  have hk := i64_rng k
  unfold fsK
  rw [sh32, Int64.toInt_toInt32, shr32, bm32 (by omega) (by omega)]
theorem snK_int (k : Int64) : (snK k).toInt = k.toInt % 4294967296 - 2147483648 := by
  have hk := i64_rng k
  have e2 : (-2147483648 : Int32).toInt = -2147483648 := rfl
  unfold snK
  rw [Int32.toInt_add, Int64.toInt_toInt32, e2]
  have h1 : (k.toInt.bmod (2 ^ 32) + -2147483648).bmod (2 ^ 32) = k.toInt % 4294967296 - 2147483648 := by
    rw [Int.bmod_def, Int.bmod_def]
    split <;> split <;> omega
  exact h1
theorem fsK_pk (a b : Int32) : fsK (pk a b) = a := by
  have hb := i32_rng b
  apply Int32.toInt_inj.mp
  rw [fsK_int, pk_int]
  omega
theorem snK_pk (a b : Int32) : snK (pk a b) = b := by
  have hb := i32_rng b
  apply Int32.toInt_inj.mp
  rw [snK_int, pk_int]
  omega
theorem pk_eta (k : Int64) : pk (fsK k) (snK k) = k := by
  apply Int64.toInt_inj.mp
  rw [pk_int, fsK_int, snK_int]
  omega
theorem pk_inj {a b c d : Int32} (h : pk a b = pk c d) : a = c ∧ b = d := by
  constructor
  · rw [← fsK_pk a b, h, fsK_pk]
  · rw [← snK_pk a b, h, snK_pk]
theorem pkl_lt {a b c d : Int32} : pk a b < pk c d ↔ a < c ∨ (a = c ∧ b < d) := by
  have hb := i32_rng b
  have hd := i32_rng d
  rw [Int64.lt_iff_toInt_lt, pk_int, pk_int, Int32.lt_iff_toInt_lt, Int32.lt_iff_toInt_lt, ← Int32.toInt_inj]
  omega
def OrdR (x y r : Int64) (c : Int32) : Prop := (x < y ∧ c = (-1)) ∨ (y < x ∧ c = nI 1) ∨ (x = y ∧ c = nI 0)
theorem i32_tri {a b : Int32} (h : a ≠ b) (h2 : ¬ a < b) : b < a := by
  rw [Int32.lt_iff_toInt_lt] at *
  have : a.toInt ≠ b.toInt := fun q => h (Int32.toInt_inj.mp q)
  omega
/-- the rows from k on are filtered, those below are as they were -/
def FD (p : RT → Bool) (l : List RT) (k : Nat) (L : List RT) : Prop := L = l.take k ++ (l.drop k).filter p
theorem FD.init (p : RT → Bool) (l : List RT) : FD p l l.length l := by
  unfold FD
  rw [List.take_length, List.drop_length]; simp
theorem FD.fin {p : RT → Bool} {l L : List RT} (h : FD p l 0 L) : L = l.filter p := by
  unfold FD at h
  rw [h]; simp
theorem FD.get {p : RT → Bool} {l L : List RT} {k : Nat} (h : FD p l (k + 1) L) (hk : k < l.length) : L[k]? = l[k]? := by
  unfold FD at h
  rw [h, List.getElem?_append_left (by rw [List.length_take]; omega), List.getElem?_take, if_pos (by omega)]
theorem FD.len {p : RT → Bool} {l L : List RT} {k : Nat} (h : FD p l k L) (hk : k ≤ l.length) : k ≤ L.length ∧ L.length ≤ l.length := by
  unfold FD at h
  rw [h, List.length_append, List.length_take]
  have := List.length_filter_le p (l.drop k)
  rw [List.length_drop] at this
  omega
theorem FD.drop_eq {l : List RT} {k : Nat} {e : RT} (he : l[k]? = some e) : l.drop k = e :: l.drop (k + 1) := by
  obtain ⟨h1, h2⟩ := List.getElem?_eq_some_iff.mp he
  rw [List.drop_eq_getElem_cons h1, h2]
theorem FD.take_eq {l : List RT} {k : Nat} {e : RT} (he : l[k]? = some e) : l.take (k + 1) = l.take k ++ [e] := by
  obtain ⟨h1, h2⟩ := List.getElem?_eq_some_iff.mp he
  rw [List.take_succ, he]; rfl
theorem FD.keep {p : RT → Bool} {l L : List RT} {k : Nat} {e : RT} (h : FD p l (k + 1) L) (he : l[k]? = some e) (hp : p e = true) : FD p l k L := by
  unfold FD at *
  rw [h, FD.take_eq he, FD.drop_eq he, List.filter_cons_of_pos hp, List.append_assoc]; rfl
theorem FD.del {p : RT → Bool} {l L : List RT} {k : Nat} {e : RT} (h : FD p l (k + 1) L) (he : l[k]? = some e) (hp : p e = false) : FD p l k (L.eraseIdx k) := by
  unfold FD at *
  have hk : k < l.length := (List.getElem?_eq_some_iff.mp he).1
  rw [h, FD.take_eq he, FD.drop_eq he, List.filter_cons_of_neg (by rw [hp]; decide), List.append_assoc]
  rw [List.eraseIdx_append_of_length_le (by rw [List.length_take]; omega)]
  rw [show k - (l.take k).length = 0 by rw [List.length_take]; omega]
  rfl
theorem off_p (k : Nat) : off (k + 1) = nI k := pk_m1 k
theorem off_neg {k : Nat} (h : k < 2 ^ 31) : off k < 0 ↔ k = 0 := by
  cases k with
  | zero => exact ⟨fun _ => rfl, fun _ => by decide⟩
  | succ k => rw [off_p]; exact ⟨fun q => absurd q (nI_pos (by omega)), fun q => absurd q (by omega)⟩
theorem off_m (k : Nat) : nI k + Int32.ofInt (-1) = off k := rfl
theorem off_sub {n : Nat} : nI n - nI 1 = off n := by
  unfold off
  rw [Int32.sub_eq_add_neg]; rfl
def LkL (l : List RT) (a b : Int32) (r : Int64) : Prop := (∃ (j : Nat) (e : RT), l[j]? = some e ∧ e.1 = a ∧ e.2.1 = b ∧ r = e.2.2) ∨ ((∀ e, e ∈ l → ¬ (e.1 = a ∧ e.2.1 = b)) ∧ r = NO)
def AdL (l : List RT) (a b : Int32) (v : Int64) (r : Int64) (l' : List RT) : Prop := (∃ (j : Nat) (e : RT), l[j]? = some e ∧ e.1 = a ∧ e.2.1 = b ∧ r = e.2.2 + v ∧ l' = l.set j (a, b, e.2.2 + v)) ∨ ((∀ e, e ∈ l → ¬ (e.1 = a ∧ e.2.1 = b)) ∧ r = v ∧ l' = l ++ [(a, b, v)])
def StL (l : List RT) (a b : Int32) (v : Int64) (r : Int64) (l' : List RT) : Prop := (∃ (j : Nat) (e : RT), l[j]? = some e ∧ e.1 = a ∧ e.2.1 = b ∧ r = e.2.2 ∧ l' = l.set j (a, b, v)) ∨ ((∀ e, e ∈ l → ¬ (e.1 = a ∧ e.2.1 = b)) ∧ r = NO ∧ l' = l ++ [(a, b, v)])
def DrL (l : List RT) (a b : Int32) (r : Int64) (l' : List RT) : Prop := (∃ (j : Nat) (e : RT), l[j]? = some e ∧ e.1 = a ∧ e.2.1 = b ∧ r = e.2.2 ∧ l' = l.eraseIdx j) ∨ ((∀ e, e ∈ l → ¬ (e.1 = a ∧ e.2.1 = b)) ∧ r = NO ∧ l' = l)
def ROK (n cap : Nat) : Prop := n ≤ cap ∧ 16 ≤ cap ∧ cap ≤ 1100
def tld (fv : Nat → Int64) (x : Int32) : Int64 := if x < 0 then NO else fv x.toNatClampNeg
theorem tld_N {fv : Nat → Int64} {j : Nat} (h : j < 2 ^ 31) : tld fv (nI j) = fv j := by
  unfold tld
  rw [if_neg (nI_pos h), nI_clamp h]
theorem tld_m {fv : Nat → Int64} : tld fv (-1) = NO := by
  unfold tld
  rw [if_pos (by decide)]
theorem rl_aset {n : Nat} {fa fb : Nat → Int32} {fv : Nat → Int64} {l : List RT} {a b : Int32} {v : Int64} (hl : l.length = n) (h : rl (n + 1) fa fb fv = l ++ [(a, b, 0)]) : rl (n + 1) fa fb (vp_updL fv n (fv n + v)) = l ++ [(a, b, v)] ∧ fv n + v = v := by
  have h1 := rl_get (n := n + 1) (fa := fa) (fb := fb) (fv := fv) (Nat.lt_succ_self n)
  rw [h, List.getElem?_append_right (by omega), hl, Nat.sub_self] at h1
  have h2 : (a, b, (0 : Int64)) = (fa n, fb n, fv n) := Option.some.inj h1
  injection h2 with e1 e2
  injection e2 with e2 e3
  rw [rl_set, h, ← e1, ← e2, ← e3, Int64.zero_add]
  refine ⟨?_, rfl⟩
  subst hl
  simp
def totF (fa fb : Nat → Int32) (fv : Nat → Int64) : Nat → Int64
  | 0 => 0
  | i + 1 => totF fa fb fv i + (31 * (fa i).toInt64 + (fb i).toInt64) * fv i
def evR (e : RT) : Prop := (e.1 + e.2.1) - (e.1 + e.2.1) / nI 2 * nI 2 = 0
def oI : Option Nat → Int32
  | none => (-1)
  | some j => nI j
def okN (K : Int64) (dn sm an : Nat) (x : Int64) : Prop := an ≠ 0 ∨ (x = K ∧ sm ≠ 0) ∨ (dn ≠ 0 ∧ x < K) ∨ (dn = 0 ∧ K < x)
def bet (dn : Nat) (x y : Int64) : Prop := (dn ≠ 0 ∧ y ≤ x) ∨ (dn = 0 ∧ x ≤ y)
/-- the best of the first i that may be told -/
def NsI (g : Nat → Int64) (ok : Int64 → Prop) (dn i : Nat) (o : Option Nat) : Prop := match o with
  | none => ∀ j, j < i → ¬ ok (g j)
  | some b => b < i ∧ ok (g b) ∧ ∀ j, j < i → ok (g j) → bet dn (g b) (g j)
theorem NsI.skip {g : Nat → Int64} {ok : Int64 → Prop} {dn i : Nat} {o : Option Nat} (h : NsI g ok dn i o) (hk : ¬ ok (g i)) : NsI g ok dn (i + 1) o := by
  cases o with
  | none => exact fun j hj => (Nat.lt_succ_iff_lt_or_eq.mp hj).elim (h j) (fun q => q ▸ hk)
  | some b => exact ⟨Nat.lt_succ_of_lt h.1, h.2.1, fun j hj q => (Nat.lt_succ_iff_lt_or_eq.mp hj).elim (fun z => h.2.2 j z q) (fun z => absurd q (z ▸ hk))⟩
theorem bet.rf (dn : Nat) (x : Int64) : bet dn x x := by
  by_cases h : dn = 0
  · exact Or.inr ⟨h, Int64.le_refl x⟩
  · exact Or.inl ⟨h, Int64.le_refl x⟩
theorem bet.tr {dn : Nat} {x y z : Int64} (h1 : bet dn x y) (h2 : bet dn y z) : bet dn x z := by
  rcases h1 with ⟨a, b⟩ | ⟨a, b⟩ <;> rcases h2 with ⟨c, d⟩ | ⟨c, d⟩
  · exact Or.inl ⟨a, Int64.le_trans d b⟩
  · exact absurd c a
  · exact absurd a c
  · exact Or.inr ⟨a, Int64.le_trans b d⟩
theorem NsI.first {g : Nat → Int64} {ok : Int64 → Prop} {dn i : Nat} (h : NsI g ok dn i none) (hk : ok (g i)) : NsI g ok dn (i + 1) (some i) :=
  ⟨Nat.lt_succ_self i, hk, fun j hj q => (Nat.lt_succ_iff_lt_or_eq.mp hj).elim (fun z => absurd q (h j z)) (fun z => z ▸ bet.rf dn _)⟩
theorem NsI.take {g : Nat → Int64} {ok : Int64 → Prop} {dn i b : Nat} (h : NsI g ok dn i (some b)) (hk : ok (g i)) (hb : bet dn (g i) (g b)) : NsI g ok dn (i + 1) (some i) :=
  ⟨Nat.lt_succ_self i, hk, fun j hj q => (Nat.lt_succ_iff_lt_or_eq.mp hj).elim (fun z => hb.tr (h.2.2 j z q)) (fun z => z ▸ bet.rf dn _)⟩
theorem NsI.stay {g : Nat → Int64} {ok : Int64 → Prop} {dn i b : Nat} (h : NsI g ok dn i (some b)) (hb : bet dn (g b) (g i)) : NsI g ok dn (i + 1) (some b) :=
  ⟨Nat.lt_succ_of_lt h.1, h.2.1, fun j hj q => (Nat.lt_succ_iff_lt_or_eq.mp hj).elim (fun z => h.2.2 j z q) (fun z => z ▸ hb)⟩
def cntF (P : Nat → Bool) : Nat → Nat
  | 0 => 0
  | i + 1 => bif P i then cntF P i + 1 else cntF P i
theorem cntF_le (P : Nat → Bool) : ∀ i, cntF P i ≤ i
  | 0 => Nat.le_refl _
  | i + 1 => by
    have := cntF_le P i
    show (bif P i then cntF P i + 1 else cntF P i) ≤ i + 1
    cases P i <;> simp <;> omega
theorem cntF_t {P : Nat → Bool} {i : Nat} (h : P i = true) : cntF P (i + 1) = cntF P i + 1 := by
  show (bif P i then cntF P i + 1 else cntF P i) = _
  rw [h]; rfl
theorem cntF_f {P : Nat → Bool} {i : Nat} (h : P i = false) : cntF P (i + 1) = cntF P i := by
  show (bif P i then cntF P i + 1 else cntF P i) = _
  rw [h]; rfl
/-! nest mates -/
def nestW : Cond := .methodLinkNest RX3 9 yX2_init RX3
abbrev nP (D : va_G) (cI cJ : ClassId) (ws : va_W) (sz : Nat) : State → Prop := fun U => wP D cI cJ ws sz U ∧ va_Nw nestW U
theorem nP_blind {D : va_G} {cI cJ : ClassId} {ws : va_W} {sz : Nat} {av : List Value} : FrameBlind (va_Pc av (nP D cI cJ ws sz)) := fun a U g mk q => by
  obtain ⟨q0, ⟨q1, qP, qK, qD⟩, qn⟩ := q
  exact ⟨q0, ⟨q1, qP, va_K.moved (u := U) (U := U.calling g mk a) (Vm.Alike.refl U.vm) qK, qD⟩, va_Nw.same (u := U) (U := U.calling g mk a) rfl rfl qn⟩
section ZN
variable {s : State} {H : Heap} {D : va_G} {cI cJ : ClassId} {ws ws' : va_W} {A : Nat → Prop} {As : List Value} {b : Nat}
theorem z_preVn (hK : va_K D vwCl (tys cI cJ) s) (hP : va_P D vwCl ws H) (hD : va_D A ws) (hnw : va_Nw nestW s) (is : List Nat) (hn : va_nd is = true) (hs : is.filterMap (fun i => ws[i]?) = ws') (hs2 : is.map (fun i => ws[i]?) = ws'.map some) (ci q0 : Nat) {q : vw_C} {fs : List Value} (hc : vwCl[ci]? = some q) (he : ws[q0]? = some (b, .inr (ci, fs))) : PreV s H q.1 b (va_Pc (.ref b :: As) (nP D cI cJ ws' H.size)) As :=
  ⟨nP_blind, va_recv hK hP hc he, fun U hU hW => ⟨rfl, ⟨by rw [hU], by rw [hU]; exact hP.sub is hs, va_K.moved hW.alike hK, (hD.sub is hn hs2).weaken (fun _ _ _ _ => trivial)⟩, va_Nw.warmM hW hnw⟩⟩
theorem z_preSn (hK : va_K D vwCl (tys cI cJ) s) (hP : va_P D vwCl ws H) (hD : va_D A ws) (hnw : va_Nw nestW s) (is : List Nat) (hn : va_nd is = true) (hs : is.filterMap (fun i => ws[i]?) = ws') (hs2 : is.map (fun i => ws[i]?) = ws'.map some) : PreS s H (va_Pc As (nP D cI cJ ws' H.size)) As :=
  ⟨nP_blind, fun U hU hW => ⟨rfl, ⟨by rw [hU], by rw [hU]; exact hP.sub is hs, va_K.moved hW.alike hK, (hD.sub is hn hs2).weaken (fun _ _ _ _ => trivial)⟩, va_Nw.warmM hW hnw⟩⟩
end ZN
