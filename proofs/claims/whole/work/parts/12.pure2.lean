/-! KeyHall: its numbers -/
noncomputable def pB (p : Prop) : Bool := @decide p (Classical.propDecidable p)
theorem pB_t {p : Prop} (h : p) : pB p = true := @decide_eq_true p (Classical.propDecidable p) h
theorem pB_f {p : Prop} (h : ¬ p) : pB p = false := @decide_eq_false p (Classical.propDecidable p) h
theorem pB_iff {p : Prop} : pB p = true ↔ p := ⟨fun h => @of_decide_eq_true p (Classical.propDecidable p) h, pB_t⟩
def pk (a b : Int32) : Int64 := a.toInt64 <<< ((nI 32).toInt64 &&& 63) + (b.toInt64 - (-2147483648))
def fsK (k : Int64) : Int32 := (k >>> ((nI 32).toInt64 &&& 63)).toInt32
def snK (k : Int64) : Int32 := k.toInt32 + (-2147483648)
def evK (k : Int64) : Prop := (fsK k + snK k) &&& nI 1 = 0
def tot (K V : Nat → Int64) : Nat → Int64
  | 0 => 0
  | i + 1 => tot K V i + (31 * (fsK (K i)).toInt64 + (snK (K i)).toInt64) * V i
/-- what compacting leaves: those with P move down -/
def cmpF (P : Int64 → Int64 → Bool) (K V : Nat → Int64) : Nat → SS
  | 0 => (0, K, V)
  | i + 1 => bif P ((cmpF P K V i).2.1 i) ((cmpF P K V i).2.2 i) then ((cmpF P K V i).1 + 1, vp_updL (cmpF P K V i).2.1 (cmpF P K V i).1 ((cmpF P K V i).2.1 i), vp_updL (cmpF P K V i).2.2 (cmpF P K V i).1 ((cmpF P K V i).2.2 i)) else cmpF P K V i
theorem cmpF_yes {P : Int64 → Int64 → Bool} {K V : Nat → Int64} {i : Nat} (h : P ((cmpF P K V i).2.1 i) ((cmpF P K V i).2.2 i) = true) : (cmpF P K V (i + 1)).1 = (cmpF P K V i).1 + 1 ∧ (cmpF P K V (i + 1)).2.1 = vp_updL (cmpF P K V i).2.1 (cmpF P K V i).1 ((cmpF P K V i).2.1 i) ∧ (cmpF P K V (i + 1)).2.2 = vp_updL (cmpF P K V i).2.2 (cmpF P K V i).1 ((cmpF P K V i).2.2 i) := by
  have e : cmpF P K V (i + 1) = ((cmpF P K V i).1 + 1, vp_updL (cmpF P K V i).2.1 (cmpF P K V i).1 ((cmpF P K V i).2.1 i), vp_updL (cmpF P K V i).2.2 (cmpF P K V i).1 ((cmpF P K V i).2.2 i)) := by
    show (bif P ((cmpF P K V i).2.1 i) ((cmpF P K V i).2.2 i) then _ else _) = _
    rw [h]; rfl
  rw [e]
  exact ⟨rfl, rfl, rfl⟩
theorem cmpF_no {P : Int64 → Int64 → Bool} {K V : Nat → Int64} {i : Nat} (h : P ((cmpF P K V i).2.1 i) ((cmpF P K V i).2.2 i) = false) : cmpF P K V (i + 1) = cmpF P K V i := by
  show (bif P ((cmpF P K V i).2.1 i) ((cmpF P K V i).2.2 i) then _ else _) = _
  rw [h]; rfl
theorem cmpF_le (P : Int64 → Int64 → Bool) (K V : Nat → Int64) : ∀ i, (cmpF P K V i).1 ≤ i
  | 0 => Nat.le_refl _
  | i + 1 => by
    have h := cmpF_le P K V i
    cases q : P ((cmpF P K V i).2.1 i) ((cmpF P K V i).2.2 i) with
    | true => rw [(cmpF_yes q).1]; omega
    | false => rw [cmpF_no q]; omega
/-- above the place, nothing has moved -/
theorem cmpF_hi (P : Int64 → Int64 → Bool) (K V : Nat → Int64) : ∀ i j, i ≤ j → (cmpF P K V i).2.1 j = K j ∧ (cmpF P K V i).2.2 j = V j
  | 0, j, _ => ⟨rfl, rfl⟩
  | i + 1, j, hj => by
    have h := cmpF_hi P K V i j (by omega)
    have hl := cmpF_le P K V i
    cases q : P ((cmpF P K V i).2.1 i) ((cmpF P K V i).2.2 i) with
    | true =>
      obtain ⟨-, e2, e3⟩ := cmpF_yes q
      rw [e2, e3, pk_uLn (by omega), pk_uLn (by omega)]
      exact h
    | false => rw [cmpF_no q]; exact h
def LkR (n : Nat) (K V : Nat → Int64) (key r : Int64) : Prop := (∃ j, j < n ∧ K j = key ∧ r = V j) ∨ ((∀ j, j < n → K j ≠ key) ∧ r = NO)
def rmS (n : Nat) (K V : Nat → Int64) (j : Nat) : SS := (n - 1, va_cpy K K (j + 1) j (n - (j + 1)), va_cpy V V (j + 1) j (n - (j + 1)))
def DrR (n : Nat) (K V : Nat → Int64) (key r : Int64) (u : SS) : Prop := (∃ j, j < n ∧ K j = key ∧ r = V j ∧ u = rmS n K V j) ∨ ((∀ j, j < n → K j ≠ key) ∧ r = NO ∧ u = (n, K, V))
theorem TkR.inn {n j : Nat} {K V : Nat → Int64} {r : Int64} {u : SS} (h : TkR n K V (nI j) r u) (hj : j < n) (hn : n < 2 ^ 31) : r = V j ∧ u = rmS n K V j := by
  rcases h with ⟨i, h1, h2, h3, h4⟩ | ⟨h1, -⟩
  · have e : j = i := (nI_eq (by omega) (by omega)).mp h1
    subst e
    exact ⟨h3, h4⟩
  · exact absurd (j_in hj hn) h1
theorem TkR.out {n : Nat} {K V : Nat → Int64} {x : Int32} {r : Int64} {u : SS} (h : TkR n K V x r u) (hx : ¬ (¬ x < 0 ∧ ¬ nI n ≤ x)) (hn : n < 2 ^ 31) : r = NO ∧ u = (n, K, V) := by
  rcases h with ⟨i, rfl, h2, h3, h4⟩ | ⟨-, h2, h3⟩
  · exact absurd (j_in h2 hn) hx
  · exact ⟨h2, h3⟩
theorem ToR.inn {n i j : Nat} {K V : Nat → Int64} {u : SS} (h : ToR n K V (nI i) (nI j) u) (hij : i < j) (hj : j ≤ n) (hn : n < 2 ^ 31) : u = (n - (j - i), va_cpy K K j i (n - j), va_cpy V V j i (n - j)) := by
  rcases h with ⟨a, b, h1, h2, h3, h4, h5⟩ | ⟨h1, -⟩
  · have e1 : i = a := (nI_eq (by omega) (by omega)).mp h1
    have e2 : j = b := (nI_eq (by omega) (by omega)).mp h2
    subst e1; subst e2
    exact h5
  · exact absurd ⟨nI_pos (by omega), nI_ge hij (by omega), nI_le hj (by omega)⟩ h1
def sgA (w : Int64) (k : Nat) : Int32 := ((w >>> ((nI (5 * (11 - k))).toInt64 &&& 63)) &&& 31).toInt32
def SG (w : Int64) (k : Nat) : Prop := k ≤ 12 ∧ (∀ i, i < k → sgA w i ≠ 0) ∧ (k < 12 → sgA w k = 0)
def off (i : Nat) : Int32 := nI i + (-1)
theorem off_0 : off 0 = (-1) := by decide
theorem off_s (i : Nat) : off i + Int32.ofInt 1 = off (i + 1) := by
  unfold off
  rw [nI_succ, Int32.add_assoc, Int32.add_assoc, Int32.add_comm (-1)]
  rfl
theorem off_in {i : Nat} (h : i ≤ 3) : (nI 1 < off i → i = 3) ∧ (¬ nI 1 < off i → i < 3) := by
  match i, h with
  | 0, _ => exact ⟨fun q => absurd q (by decide), fun _ => by decide⟩
  | 1, _ => exact ⟨fun q => absurd q (by decide), fun _ => by decide⟩
  | 2, _ => exact ⟨fun q => absurd q (by decide), fun _ => by decide⟩
  | 3, _ => exact ⟨fun _ => rfl, fun q => absurd (by decide) q⟩
theorem off_z {i : Nat} (h : i < 3) : off i = 0 ↔ i = 1 := by
  match i, h with
  | 0, _ => exact ⟨fun q => absurd q (by decide), fun q => absurd q (by decide)⟩
  | 1, _ => exact ⟨fun _ => rfl, fun _ => by decide⟩
  | 2, _ => exact ⟨fun q => absurd q (by decide), fun q => absurd q (by decide)⟩
/-- how many of the first k places of the three rows of three, the middle one apart -/
def arK (P : Nat → Nat → Bool) : Nat → Nat
  | 0 => 0
  | k + 1 => bif (!(k == 4)) && P (k / 3) (k % 3) then arK P k + 1 else arK P k
theorem arK_le (P : Nat → Nat → Bool) : ∀ k, arK P k ≤ k
  | 0 => Nat.le_refl _
  | k + 1 => by
    have h := arK_le P k
    show (bif (!(k == 4)) && P (k / 3) (k % 3) then arK P k + 1 else arK P k) ≤ k + 1
    cases (!(k == 4)) && P (k / 3) (k % 3) <;> simp <;> omega
theorem arK_yes {P : Nat → Nat → Bool} {i j : Nat} (hj : j < 3) (hm : i ≠ 1 ∨ j ≠ 1) (h : P i j = true) : arK P (3 * i + (j + 1)) = arK P (3 * i + j) + 1 := by
  have e1 : (3 * i + j) / 3 = i := by omega
  have e2 : (3 * i + j) % 3 = j := by omega
  have e3 : ((3 * i + j) == 4) = false := by rw [beq_eq_false_iff_ne]; omega
  show (bif (!((3 * i + j) == 4)) && P ((3 * i + j) / 3) ((3 * i + j) % 3) then _ else _) = _
  rw [e1, e2, e3, h]; rfl
theorem arK_no {P : Nat → Nat → Bool} {i j : Nat} (hj : j < 3) (h : P i j = false) : arK P (3 * i + (j + 1)) = arK P (3 * i + j) := by
  have e1 : (3 * i + j) / 3 = i := by omega
  have e2 : (3 * i + j) % 3 = j := by omega
  show (bif (!((3 * i + j) == 4)) && P ((3 * i + j) / 3) ((3 * i + j) % 3) then _ else _) = _
  rw [e1, e2, h, Bool.and_false]; rfl
theorem arK_mid {P : Nat → Nat → Bool} {i j : Nat} (h1 : i = 1) (h2 : j = 1) : arK P (3 * i + (j + 1)) = arK P (3 * i + j) := by
  subst h1; subst h2; rfl
/-- the tally: how often each key was named -/
def TAL (u : SS) (hs : List Int64) : Prop := (∀ i j, i < j → j < u.1 → u.2.1 i < u.2.1 j) ∧ (∀ i, i < u.1 → u.2.1 i ∈ hs ∧ u.2.2 i = lN (hs.count (u.2.1 i))) ∧ (∀ q, q ∈ hs → ∃ i, i < u.1 ∧ u.2.1 i = q) ∧ u.1 ≤ hs.length
/-- the first k of the eight around -/
def eig (x y : Int32) : Nat → List Int64
  | 0 => []
  | k + 1 => bif k == 4 then eig x y k else eig x y k ++ [pk (x + off (k / 3)) (y + off (k % 3))]
theorem eig_le (x y : Int32) : ∀ k, (eig x y k).length ≤ k
  | 0 => Nat.le_refl _
  | k + 1 => by
    have h := eig_le x y k
    show (bif k == 4 then eig x y k else eig x y k ++ [pk (x + off (k / 3)) (y + off (k % 3))]).length ≤ k + 1
    cases k == 4 <;> simp <;> omega
theorem eig_mid {x y : Int32} {i j : Nat} (h1 : i = 1) (h2 : j = 1) : eig x y (3 * i + (j + 1)) = eig x y (3 * i + j) := by
  subst h1; subst h2
  show (bif (4 == 4) then eig x y 4 else eig x y 4 ++ [pk (x + off (4 / 3)) (y + off (4 % 3))]) = eig x y 4
  rw [show (4 == 4) = true from rfl, cond_true]
theorem eig_put {x y : Int32} {i j : Nat} (hj : j < 3) (hm : i ≠ 1 ∨ j ≠ 1) : eig x y (3 * i + (j + 1)) = eig x y (3 * i + j) ++ [pk (x + off i) (y + off j)] := by
  have e1 : (3 * i + j) / 3 = i := by omega
  have e2 : (3 * i + j) % 3 = j := by omega
  have e3 : ((3 * i + j) == 4) = false := by rw [beq_eq_false_iff_ne]; omega
  show (bif (3 * i + j) == 4 then _ else eig x y (3 * i + j) ++ [pk (x + off ((3 * i + j) / 3)) (y + off ((3 * i + j) % 3))]) = _
  rw [e1, e2, e3]; rfl
def allE (K : Nat → Int64) : Nat → List Int64
  | 0 => []
  | i + 1 => allE K i ++ eig (fsK (K i)) (snK (K i)) 9
theorem allE_le (K : Nat → Int64) : ∀ n, (allE K n).length ≤ 8 * n
  | 0 => Nat.le_refl _
  | n + 1 => by
    have h := allE_le K n
    have e : (eig (fsK (K n)) (snK (K n)) 9).length = 8 := rfl
    show (allE K n ++ eig (fsK (K n)) (snK (K n)) 9).length ≤ _
    rw [List.length_append, e]; omega
def Sst (n : Nat) (K : Nat → Int64) : Prop := ∀ i j, i < j → j < n → K i < K j
theorem Sst.srt {n : Nat} {K : Nat → Int64} (h : Sst n K) : Srt n K := by
  intro i j hij hj
  rcases Nat.lt_or_ge i j with q | q
  · exact Int64.le_of_lt (h i j q hj)
  · rw [show i = j by omega]; exact Int64.le_refl _
theorem inS_lo {f : Nat → Int64} {n b i : Nat} {x : Int64} (h : i < b) : inS f n b x i = f i := by
  unfold inS
  rw [pk_uLn (by omega), pk_cpy_out (Or.inl (by omega))]
theorem inS_at {f : Nat → Int64} {n b : Nat} {x : Int64} : inS f n b x b = x := pk_uLs
theorem inS_hi {f : Nat → Int64} {n b i : Nat} {x : Int64} (h : b < i) (hn : i ≤ n) : inS f n b x i = f (i - 1) := by
  unfold inS
  rw [pk_uLn (by omega), pk_cpy_in (by omega) (by omega), show b + (i - (b + 1)) = i - 1 by omega]
/-- a key that isn't there comes at its place: still rising -/
theorem Sst.ins {n b : Nat} {K : Nat → Int64} {key : Int64} (hs : Sst n K) (hb : BL n K key b) (hk : b < n → K b ≠ key) : Sst (n + 1) (inS K n b key) := by
  intro i j hij hj
  have hb1 := hb.1
  rcases Nat.lt_trichotomy i b with q | q | q
  · rw [inS_lo q]
    rcases Nat.lt_trichotomy j b with z | z | z
    · rw [inS_lo z]; exact hs i j hij (by omega)
    · subst z; rw [inS_at]; exact hb.2.1 i q
    · rw [inS_hi z (by omega)]; exact Int64.lt_of_lt_of_le (hb.2.1 i q) (hb.2.2 _ (by omega) (by omega))
  · subst q
    rw [inS_at, inS_hi hij (by omega)]
    refine Int64.lt_of_le_of_ne (hb.2.2 _ (by omega) (by omega)) (fun z => ?_)
    rcases Nat.lt_or_ge i (j - 1) with y | y
    · have := hs i (j - 1) y (by omega)
      rw [← z] at this
      exact absurd this (Int64.not_lt.mpr (hb.2.2 i (Nat.le_refl _) (by omega)))
    · exact hk (by omega) (by rw [z, show j - 1 = i by omega])
  · rw [inS_hi q (by omega), inS_hi (by omega) (by omega)]
    exact hs _ _ (by omega) (by omega)
theorem TAL.raise {n : Nat} {K V : Nat → Int64} {hs : List Int64} {key r : Int64} {u : SS} (h : TAL (n, K, V) hs) (hl : hs.length < 100000) (q : RaR n K V key 1 r u) : TAL u (hs ++ [key]) := by
  obtain ⟨h1, h2, h3, h4⟩ := h
  have hS : Sst n K := h1
  have h1 : ∀ i j, i < j → j < n → K i < K j := h1
  have h2 : ∀ i, i < n → K i ∈ hs ∧ V i = lN (hs.count (K i)) := h2
  have h3 : ∀ q, q ∈ hs → ∃ i, i < n ∧ K i = q := h3
  have h4 : n ≤ hs.length := h4
  rcases q with ⟨b, hb, hbn, hk, -, rfl⟩ | ⟨b, hb, hk, -, rfl⟩
  · refine ⟨h1, fun i hi => ?_, fun x hx => ?_, ?_⟩
    · refine ⟨List.mem_append_left _ (h2 i hi).1, ?_⟩
      show vp_updL V b (V b + 1) i = lN (List.count (K i) (hs ++ [key]))
      rw [List.count_append]
      by_cases e : i = b
      · subst e
        rw [pk_uLs, (h2 i hi).2, hk, lN_1]
        congr 1
        simp
      · rw [pk_uLn e]
        have hne : K i ≠ key := by
          intro z
          rw [← hk] at z
          rcases Nat.lt_or_gt_of_ne e with y | y
          · exact absurd (h1 i b y hbn) (by show ¬ K i < K b; rw [z]; exact Int64.lt_irrefl)
          · exact absurd (h1 b i y hi) (by show ¬ K b < K i; rw [z]; exact Int64.lt_irrefl)
        have e0 : List.count (K i) [key] = 0 := List.count_eq_zero.mpr (by simp; exact hne)
        rw [e0]
        exact (h2 i hi).2
    · rcases List.mem_append.mp hx with z | z
      · exact h3 x z
      · rw [List.mem_singleton.mp z]; exact ⟨b, hbn, hk⟩
    · rw [List.length_append]; exact Nat.le_succ_of_le h4
  · have hnot : key ∉ hs := fun z => by
      obtain ⟨i, hi, e⟩ := h3 key z
      exact BL.miss hS.srt hb hk i hi e
    have hb1 := hb.1
    refine ⟨hS.ins hb hk, fun i hi => ?_, fun x hx => ?_, ?_⟩
    · show inS K n b key i ∈ hs ++ [key] ∧ inS V n b 1 i = lN (List.count (inS K n b key i) (hs ++ [key]))
      rw [List.count_append]
      have old : ∀ k, k < n → K k ∈ hs ++ [key] ∧ V k = lN (List.count (K k) hs + List.count (K k) [key]) := by
        intro k hk2
        refine ⟨List.mem_append_left _ (h2 k hk2).1, ?_⟩
        have hne : K k ≠ key := BL.miss hS.srt hb hk k hk2
        have e0 : List.count (K k) [key] = 0 := List.count_eq_zero.mpr (by simp; exact hne)
        rw [e0]
        exact (h2 k hk2).2
      have hi' : i < n + 1 := hi
      rcases Nat.lt_trichotomy i b with z | z | z
      · rw [inS_lo z, inS_lo z]; exact old i (by omega)
      · subst z
        rw [inS_at, inS_at]
        refine ⟨List.mem_append_right _ (List.mem_singleton.mpr rfl), ?_⟩
        rw [List.count_eq_zero.mpr hnot]
        simp
        rfl
      · rw [inS_hi z (by omega), inS_hi z (by omega)]; exact old _ (by omega)
    · have at' : ∀ k, k < n → ∃ i, i < n + 1 ∧ inS K n b key i = K k := fun k hk2 => by
        rcases Nat.lt_or_ge k b with y | y
        · exact ⟨k, by omega, inS_lo y⟩
        · exact ⟨k + 1, by omega, by rw [inS_hi (by omega) (by omega)]; rfl⟩
      rcases List.mem_append.mp hx with z | z
      · obtain ⟨k, hk2, e⟩ := h3 x z
        obtain ⟨i, hi, e2⟩ := at' k hk2
        exact ⟨i, hi, e2.trans e⟩
      · rw [List.mem_singleton.mp z]; exact ⟨b, by show b < n + 1; omega, inS_at⟩
    · rw [List.length_append]; exact Nat.succ_le_succ h4
theorem BL.mono {n : Nat} {K : Nat → Int64} {k1 k2 : Int64} {a b : Nat} (h1 : BL n K k1 a) (h2 : BL n K k2 b) (h : k1 ≤ k2) : a ≤ b := by
  rcases Nat.lt_or_ge b a with q | q
  · exact absurd (Int64.lt_of_lt_of_le (h1.2.1 b q) h) (Int64.not_lt.mpr (h2.2.2 b (Nat.le_refl _) (Nat.lt_of_lt_of_le q h1.1)))
  · exact q
theorem BL.leBU {n : Nat} {K : Nat → Int64} {k : Int64} {a b : Nat} (h1 : BL n K k a) (h2 : BU n K k b) : a ≤ b := by
  rcases Nat.lt_or_ge b a with q | q
  · exact absurd (h1.2.1 b q) (Int64.not_lt.mpr (Int64.le_of_lt (h2.2.2 b (Nat.le_refl _) (Nat.lt_of_lt_of_le q h1.1))))
  · exact q
theorem Srt.ins {n b : Nat} {K : Nat → Int64} {key : Int64} (hs : Srt n K) (hb : BU n K key b) : Srt (n + 1) (inS K n b key) := by
  intro i j hij hj
  have hb1 := hb.1
  rcases Nat.lt_or_ge i j with hlt | hge
  · rcases Nat.lt_trichotomy i b with q | q | q
    · rw [inS_lo q]
      rcases Nat.lt_trichotomy j b with z | z | z
      · rw [inS_lo z]; exact hs i j hij (by omega)
      · subst z; rw [inS_at]; exact hb.2.1 i q
      · rw [inS_hi z (by omega)]; exact hs i _ (by omega) (by omega)
    · subst q
      rw [inS_at, inS_hi hlt (by omega)]
      exact Int64.le_of_lt (hb.2.2 _ (by omega) (by omega))
    · rw [inS_hi q (by omega), inS_hi (by omega) (by omega)]
      exact hs _ _ (by omega) (by omega)
  · rw [show i = j by omega]; exact Int64.le_refl _
def nv (k : Int64) : Int64 := (fsK k).toInt64 * 2147483648 + (snK k).toInt64
def NeR (n : Nat) (K : Nat → Int64) (key : Int64) (dn sm : Nat) (r : Int64) : Prop := ∃ b, ((dn = sm ∧ BU n K key b) ∨ (dn ≠ sm ∧ BL n K key b)) ∧ ((dn ≠ 0 ∧ ((b = 0 ∧ r = NO) ∨ (0 < b ∧ r = nv (K (b - 1))))) ∨ (dn = 0 ∧ ((b < n ∧ r = nv (K b)) ∨ (n ≤ b ∧ r = NO))))
theorem TAL.nil {K V : Nat → Int64} : TAL (0, K, V) [] := ⟨fun i j _ h => absurd h (Nat.not_lt_zero j), fun i h => absurd h (Nat.not_lt_zero i), fun q h => absurd h List.not_mem_nil, Nat.le_refl _⟩
def gK (K : Nat → Int64) (x : Int32) : Nat → Int64 := fun i => K i >>> (x.toInt64 &&& 63)
