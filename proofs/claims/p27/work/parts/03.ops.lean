/-! ===== the instructions: a block from the block behind it ===== -/
def o_push (v : PV) (k : Blk) : Blk := fun L st h => k L (v :: st) h
def o_iload (i : Nat) (k : Blk) : Blk := fun L st h => match nth L i with
  | some (some (.inl x)) => k L (.inl x :: st) h
  | _ => False
def o_aload (i : Nat) (k : Blk) : Blk := fun L st h => match nth L i with
  | some (some (.inr r)) => k L (.inr r :: st) h
  | _ => False
def o_istore (i : Nat) (k : Blk) : Blk := fun L st h => match st with
  | .inl x :: r => put L i (some (.inl x)) (fun L' => k L' r h)
  | _ => False
def o_astore (i : Nat) (k : Blk) : Blk := fun L st h => match st with
  | .inr x :: r => put L i (some (.inr x)) (fun L' => k L' r h)
  | _ => False
def o_iinc (i : Nat) (n : Int32) (k : Blk) : Blk := fun L st h => match nth L i with
  | some (some (.inl x)) => put L i (some (.inl (x + n))) (fun L' => k L' st h)
  | _ => False
def o_bin (f : Int32 → Int32 → Int32) (k : Blk) : Blk := fun L st h => match st with
  | .inl y :: .inl x :: r => k L (.inl (f x y) :: r) h
  | _ => False
def o_un (f : Int32 → Int32) (k : Blk) : Blk := fun L st h => match st with
  | .inl x :: r => k L (.inl (f x) :: r) h
  | _ => False
def f_add (x y : Int32) : Int32 := x + y
def f_sub (x y : Int32) : Int32 := x - y
def f_mul (x y : Int32) : Int32 := x * y
def f_and (x y : Int32) : Int32 := x &&& y
def f_or (x y : Int32) : Int32 := x ||| y
def f_xor (x y : Int32) : Int32 := x ^^^ y
def f_shl (x y : Int32) : Int32 := x <<< (y &&& 31)
def f_shr (x y : Int32) : Int32 := x >>> (y &&& 31)
def f_ushr (x y : Int32) : Int32 := (x.toUInt32 >>> (y.toUInt32 &&& Int32.toUInt32 31)).toInt32
def f_neg (x : Int32) : Int32 := -x
def f_i2b (x : Int32) : Int32 := x.toInt8.toInt32
def f_i2c (x : Int32) : Int32 := (x.toUInt32 % 65536).toInt32
def o_div (k : Blk) : Blk := fun L st h => match st with
  | .inl y :: .inl x :: r => ¬ y = 0 ∧ k L (.inl (x / y) :: r) h
  | _ => False
def o_rem (k : Blk) : Blk := fun L st h => match st with
  | .inl y :: .inl x :: r => ¬ y = 0 ∧ k L (.inl (x - x / y * y) :: r) h
  | _ => False
def o_if (c : Int32 → Prop) (kt kf : Blk) : Blk := fun L st h => match st with
  | .inl x :: r => (c x → kt L r h) ∧ (¬ c x → kf L r h)
  | _ => False
def o_icmp (c : Int32 → Int32 → Prop) (kt kf : Blk) : Blk := fun L st h => match st with
  | .inl y :: .inl x :: r => (c x y → kt L r h) ∧ (¬ c x y → kf L r h)
  | _ => False
def c_eq (x y : Int32) : Prop := x = y
def c_lt (x y : Int32) : Prop := x < y
def c_ge (x y : Int32) : Prop := y ≤ x
def c_gt (x y : Int32) : Prop := y < x
def c_le (x y : Int32) : Prop := x ≤ y
def o_sw (kd : Blk) : List (Int32 × Blk) → Blk
  | [], L, st, h => match st with
    | .inl _ :: r => kd L r h
    | _ => False
  | (v, k) :: ks, L, st, h => match st with
    | .inl x :: r => (x = v → k L r h) ∧ (¬ x = v → o_sw kd ks L (.inl x :: r) h)
    | _ => False
def o_dup (k : Blk) : Blk := fun L st h => match st with
  | v :: r => k L (v :: v :: r) h
  | _ => False
def o_dup2 (k : Blk) : Blk := fun L st h => match st with
  | v :: w :: r => k L (v :: w :: v :: w :: r) h
  | _ => False
def o_dupx1 (k : Blk) : Blk := fun L st h => match st with
  | v :: w :: r => k L (v :: w :: v :: r) h
  | _ => False
def o_pop (k : Blk) : Blk := fun L st h => match st with
  | _ :: r => k L r h
  | _ => False
def o_getf (cis : List Nat) (j : Nat) (k : Blk) : Blk := fun L st h => match st with
  | .inr (some (.inl a)) :: r => match nth h a with
    | some (.inr (ci, fs)) => match cis.contains ci with
      | true => match nth fs j with
        | some v => k L (v :: r) h
        | none => False
      | false => False
    | _ => False
  | _ => False
def fitK (ty : Nat) (v : PV) (K : Prop) : Prop := match ty, v with
  | 0, .inl _ => K
  | 1, .inl x => (x = 0 ∨ x = 1) ∧ K
  | 2, .inr _ => K
  | _, _ => False
def o_putf (cis : List Nat) (j ty : Nat) (k : Blk) : Blk := fun L st h => match st with
  | v :: .inr (some (.inl a)) :: r => match nth h a with
    | some (.inr (ci, fs)) => match cis.contains ci with
      | true => fitK ty v (put fs j v (fun fs' => put h a (.inr (ci, fs')) (fun h' => k L r h')))
      | false => False
    | _ => False
  | _ => False
def o_ald (ts : List Nat) (k : Blk) : Blk := fun L st h => match st with
  | .inl i :: .inr (some (.inl a)) :: r => match nth h a with
    | some (.inl (t, n, f)) => match ts.contains t with
      | true => vp_in i n ∧ k L (.inl (f i.toNatClampNeg) :: r) h
      | false => False
    | _ => False
  | _ => False
def f_nar (t : Nat) (x : Int32) : Int32 := match t with
  | 1 => vp_nar .byte x
  | 2 => vp_nar .boolean x
  | _ => x
def o_ast (ts : List Nat) (k : Blk) : Blk := fun L st h => match st with
  | .inl x :: .inl i :: .inr (some (.inl a)) :: r => match nth h a with
    | some (.inl (t, n, f)) => match ts.contains t with
      | true => vp_in i n ∧ put h a (.inl (t, n, upd f i.toNatClampNeg (f_nar t x))) (fun h' => k L r h')
      | false => False
    | _ => False
  | _ => False
def o_alen (k : Blk) : Blk := fun L st h => match st with
  | .inr (some (.inl a)) :: r => match nth h a with
    | some (.inl (t, n, _)) => match Nat.blt t 3 with
      | true => k L (.inl (Int32.ofNat n) :: r) h
      | false => False
    | _ => False
  | _ => False
def o_vret (Rv : Option PV → PH → Prop) : Blk := fun _ st h => match st with
  | [] => Rv none h
  | _ => False
def o_iret (Rv : Option PV → PH → Prop) : Blk := fun _ st h => match st with
  | [.inl v] => Rv (some (.inl v)) h
  | _ => False
def o_zret (Rv : Option PV → PH → Prop) : Blk := fun _ st h => match st with
  | [.inl v] => (v = 0 ∨ v = 1) ∧ Rv (some (.inl v)) h
  | _ => False
/-- a new array of N ints; a new object -/
def o_newa (t : Nat) (N : Nat) (k : Blk) : Blk := fun L st h => match st with
  | .inl n :: r => n = Int32.ofNat N ∧ (okL h.length (h.length + 1) L && okF h.length (h.length + 1) r && okH h.length (h.length + 1) h) = true ∧ snoc h (.inl (t, N, fun _ => 0)) (fun h' => k L (.inr (some (.inl h.length)) :: r) h')
  | _ => False
def o_new (ci : Nat) (fs : List PV) (k : Blk) : Blk := fun L st h => (okL h.length (h.length + 1) L && okF h.length (h.length + 1) st && okH h.length (h.length + 1) h) = true ∧ snoc h (.inr (ci, fs)) (fun h' => k L (.inr (some (.inl h.length)) :: st) h')
/-! links -/
def FL (own : String) (idx ci j : Nat) : Prop := ∃ (C : String) (T : u_T) (N : Nat), vwCl[ci]? = some (C, T, N) ∧ j < N ∧ (∀ w ∈ u_ws C T N, w ∈ TB) ∧ Cond.fieldLink own idx (T j).1 (T j).2.1 (T j).2.2.1 ∈ TB
def FN (own : String) (idx ci j : Nat) : Prop := ∃ (C host : String) (T : u_T) (N : Nat), vwCl[ci]? = some (C, T, N) ∧ j < N ∧ (∀ w ∈ u_ws C T N, w ∈ TB) ∧ Cond.fieldLinkNest own idx (T j).1 (T j).2.1 (T j).2.2.1 host ∈ NW
def tyk (ty : Nat) (t : FieldType) : Prop := (ty = 0 ∧ t = .int) ∨ (ty = 1 ∧ t = .boolean) ∨ (ty = 2 ∧ ((∃ n, t = .object n) ∨ ∃ u, t = .array u))
def FP (own : String) (idx ci j ty : Nat) (fin : Bool) : Prop := ∃ (C : String) (T : u_T) (N : Nat) (t0 : Nat → FieldType), vwCl[ci]? = some (C, T, N) ∧ j < N ∧ (∀ w ∈ u_ws C T N, w ∈ TB) ∧ Cond.fieldLink own idx (T j).1 (T j).2.1 (T j).2.2.1 ∈ TB ∧ (∀ k, k < N → parseFieldDescriptor (T k).2.2.1 = some (t0 k)) ∧ (∀ a, a < N → ∀ b, b < N → a ≠ b → (T a).2.1 ≠ (T b).2.1) ∧ (T j).2.2.2 = fin ∧ tyk ty (t0 j) ∧ (fin = true → (T j).1 = own)
theorem contains_mem {l : List Nat} {a : Nat} (h : l.contains a = true) : a ∈ l := by simpa using h
theorem fit_ok {ty : Nat} {t : FieldType} {v : PV} {ad : PR → Nat} {K : Prop} (ht : tyk ty t) (h : fitK ty v K) : narrow t (cV ad v) = cV ad v ∧ fits t (cV ad v) = true ∧ K := by
  rcases ht with ⟨rfl, rfl⟩ | ⟨rfl, rfl⟩ | ⟨rfl, ht⟩
  · rcases v with x | r
    · exact ⟨rfl, rfl, h⟩
    · exact h.elim
  · rcases v with x | r
    · obtain ⟨hx, hK⟩ := (h : (x = 0 ∨ x = 1) ∧ K)
      rcases hx with rfl | rfl
      · exact ⟨(by decide +kernel : narrow .boolean (.int 0) = .int 0), (by decide +kernel : fits .boolean (.int 0) = true), hK⟩
      · exact ⟨(by decide +kernel : narrow .boolean (.int 1) = .int 1), (by decide +kernel : fits .boolean (.int 1) = true), hK⟩
    · exact h.elim
  · rcases v with x | r
    · exact h.elim
    · rcases ht with ⟨n, rfl⟩ | ⟨u, rfl⟩ <;> rcases r with _ | k <;> exact ⟨rfl, rfl, h⟩
section OPS
variable {p : Program} {l : Launch} {e : Env} {R : Room} {s : State} {m : MethodId} {args : Array Value} {below : List Frame} {meth : Method} {c : Code} {own nm : String} {cc : ByteArray} {nL : Nat} {rt : Option FieldType} {D : va_G} {cs : Nat → ClassId} {A : Nat → Prop} {n0 : Nat} {a0 : PR → Nat} {Q : State → Prop} {pc cells slots : Nat} {k kt kf : Blk}
theorem ok_iconst (X : MC p s m args meth c own nm cc nL rt D cs A a0) {n : Int} {v : Int32} (hd : decode cc pc = .ok (.iconst n, 1)) (hv : Int32.ofInt n = v) (hk : BK p l e R s m args below meth c nL D cs A n0 a0 Q (pc + 1) cells slots k) : BK p l e R s m args below meth c nL D cs A n0 a0 Q pc cells slots (o_push (.inl v) k) :=
  fun ad ls L st h H locs hg hl hP hD hS hB => lv_iconst X.1 X.2.1 hd hv (hk ad ls L (.inl v :: st) h H locs hg hl hP hD hS hB)
theorem ok_bipush (X : MC p s m args meth c own nm cc nL rt D cs A a0) {n : Int} {v : Int32} (hd : decode cc pc = .ok (.bipush n, 2)) (hv : (Int8.ofInt n).toInt32 = v) (hk : BK p l e R s m args below meth c nL D cs A n0 a0 Q (pc + 2) cells slots k) : BK p l e R s m args below meth c nL D cs A n0 a0 Q pc cells slots (o_push (.inl v) k) :=
  fun ad ls L st h H locs hg hl hP hD hS hB => lv_bipush X.1 X.2.1 hd hv (hk ad ls L (.inl v :: st) h H locs hg hl hP hD hS hB)
theorem ok_sipush (X : MC p s m args meth c own nm cc nL rt D cs A a0) {n : Int} {v : Int32} (hd : decode cc pc = .ok (.sipush n, 3)) (hv : (Int16.ofInt n).toInt32 = v) (hk : BK p l e R s m args below meth c nL D cs A n0 a0 Q (pc + 3) cells slots k) : BK p l e R s m args below meth c nL D cs A n0 a0 Q pc cells slots (o_push (.inl v) k) :=
  fun ad ls L st h H locs hg hl hP hD hS hB => lv_sipush X.1 X.2.1 hd hv (hk ad ls L (.inl v :: st) h H locs hg hl hP hD hS hB)
theorem ok_ldc (X : MC p s m args meth c own nm cc nL rt D cs A a0) {idx : Nat} {v : Int32} (hd : decode cc pc = .ok (.ldc idx, 2)) (hw : Cond.constant own idx v ∈ TB) (hk : BK p l e R s m args below meth c nL D cs A n0 a0 Q (pc + 2) cells slots k) : BK p l e R s m args below meth c nL D cs A n0 a0 Q pc cells slots (o_push (.inl v) k) :=
  fun ad ls L st h H locs hg hl hP hD hS hB => lv_ldc X.1 X.2.1 X.2.2.2.1 (X.2.2.2.2.1 _ hw) hd (hk ad ls L (.inl v :: st) h H locs hg hl hP hD hS hB)
theorem ok_ldcw (X : MC p s m args meth c own nm cc nL rt D cs A a0) {idx : Nat} {v : Int32} (hd : decode cc pc = .ok (.ldc_w idx, 3)) (hw : Cond.constant own idx v ∈ TB) (hk : BK p l e R s m args below meth c nL D cs A n0 a0 Q (pc + 3) cells slots k) : BK p l e R s m args below meth c nL D cs A n0 a0 Q pc cells slots (o_push (.inl v) k) :=
  fun ad ls L st h H locs hg hl hP hD hS hB => lv_ldcw X.1 X.2.1 X.2.2.2.1 (X.2.2.2.2.1 _ hw) hd (hk ad ls L (.inl v :: st) h H locs hg hl hP hD hS hB)
theorem ok_iload_n (X : MC p s m args meth c own nm cc nL rt D cs A a0) {q : Fin 4} {i : Nat} (hd : decode cc pc = .ok (.iload_n q, 1)) (hi : (q : Nat) = i) (hk : BK p l e R s m args below meth c nL D cs A n0 a0 Q (pc + 1) cells slots k) : BK p l e R s m args below meth c nL D cs A n0 a0 Q pc cells slots (o_iload i k) := by
  intro ad ls L st h H locs hg hl hP hD hS hB
  unfold o_iload at hB
  split at hB
  · rename_i x hx
    exact lv_iload_n X.1 X.2.1 hd hi (hl.2.2.2 i _ hx) (hk ad ls L (.inl x :: st) h H locs hg hl hP hD hS hB)
  · exact hB.elim
theorem ok_iload (X : MC p s m args meth c own nm cc nL rt D cs A a0) {i : Nat} (hd : decode cc pc = .ok (.iload i, 2)) (hk : BK p l e R s m args below meth c nL D cs A n0 a0 Q (pc + 2) cells slots k) : BK p l e R s m args below meth c nL D cs A n0 a0 Q pc cells slots (o_iload i k) := by
  intro ad ls L st h H locs hg hl hP hD hS hB
  unfold o_iload at hB
  split at hB
  · rename_i x hx
    exact lv_iload X.1 X.2.1 hd (hl.2.2.2 i _ hx) (hk ad ls L (.inl x :: st) h H locs hg hl hP hD hS hB)
  · exact hB.elim
theorem ok_aload_n (X : MC p s m args meth c own nm cc nL rt D cs A a0) {q : Fin 4} {i : Nat} (hd : decode cc pc = .ok (.aload_n q, 1)) (hi : (q : Nat) = i) (hk : BK p l e R s m args below meth c nL D cs A n0 a0 Q (pc + 1) cells slots k) : BK p l e R s m args below meth c nL D cs A n0 a0 Q pc cells slots (o_aload i k) := by
  intro ad ls L st h H locs hg hl hP hD hS hB
  unfold o_aload at hB
  split at hB
  · rename_i r hx
    cases r with
    | none => exact lv_aload_nN X.1 X.2.1 hd hi (hl.2.2.2 i _ hx) (hk ad ls L (.inr none :: st) h H locs hg hl hP hD hS hB)
    | some a => exact lv_aload_n X.1 X.2.1 hd hi (hl.2.2.2 i _ hx) (hk ad ls L (.inr (some a) :: st) h H locs hg hl hP hD hS hB)
  · exact hB.elim
theorem ok_aload (X : MC p s m args meth c own nm cc nL rt D cs A a0) {i : Nat} (hd : decode cc pc = .ok (.aload i, 2)) (hk : BK p l e R s m args below meth c nL D cs A n0 a0 Q (pc + 2) cells slots k) : BK p l e R s m args below meth c nL D cs A n0 a0 Q pc cells slots (o_aload i k) := by
  intro ad ls L st h H locs hg hl hP hD hS hB
  unfold o_aload at hB
  split at hB
  · rename_i r hx
    cases r with
    | none => exact lv_aloadN X.1 X.2.1 hd (hl.2.2.2 i _ hx) (hk ad ls L (.inr none :: st) h H locs hg hl hP hD hS hB)
    | some a => exact lv_aload X.1 X.2.1 hd (hl.2.2.2 i _ hx) (hk ad ls L (.inr (some a) :: st) h H locs hg hl hP hD hS hB)
  · exact hB.elim
theorem ok_istore_n (X : MC p s m args meth c own nm cc nL rt D cs A a0) {q : Fin 4} {i : Nat} (hd : decode cc pc = .ok (.istore_n q, 1)) (hi : (q : Nat) = i) (hk : BK p l e R s m args below meth c nL D cs A n0 a0 Q (pc + 1) cells slots k) : BK p l e R s m args below meth c nL D cs A n0 a0 Q pc cells slots (o_istore i k) := by
  intro ad ls L st h H locs hg hl hP hD hS hB
  unfold o_istore at hB
  split at hB
  · rename_i x r
    obtain ⟨h1, h2⟩ := put_spec _ _ _ _ hB
    rw [hl.2.1] at h1
    exact lv_istore_n X.1 X.2.1 hd hi hl.has h1 rfl (fun ls' hl' => hk ad ls' _ r h H locs hg (hl.put (v := .inl x) h1 hl') hP hD hS h2)
  · exact hB.elim
theorem ok_istore (X : MC p s m args meth c own nm cc nL rt D cs A a0) {i : Nat} (hd : decode cc pc = .ok (.istore i, 2)) (hk : BK p l e R s m args below meth c nL D cs A n0 a0 Q (pc + 2) cells slots k) : BK p l e R s m args below meth c nL D cs A n0 a0 Q pc cells slots (o_istore i k) := by
  intro ad ls L st h H locs hg hl hP hD hS hB
  unfold o_istore at hB
  split at hB
  · rename_i x r
    obtain ⟨h1, h2⟩ := put_spec _ _ _ _ hB
    rw [hl.2.1] at h1
    exact lv_istore X.1 X.2.1 hd hl.has h1 rfl (fun ls' hl' => hk ad ls' _ r h H locs hg (hl.put (v := .inl x) h1 hl') hP hD hS h2)
  · exact hB.elim
theorem ok_astore_n (X : MC p s m args meth c own nm cc nL rt D cs A a0) {q : Fin 4} {i : Nat} (hd : decode cc pc = .ok (.astore_n q, 1)) (hi : (q : Nat) = i) (hk : BK p l e R s m args below meth c nL D cs A n0 a0 Q (pc + 1) cells slots k) : BK p l e R s m args below meth c nL D cs A n0 a0 Q pc cells slots (o_astore i k) := by
  intro ad ls L st h H locs hg hl hP hD hS hB
  unfold o_astore at hB
  split at hB
  · rename_i x r
    obtain ⟨h1, h2⟩ := put_spec _ _ _ _ hB
    rw [hl.2.1] at h1
    cases x with
    | none => exact lv_astore_nN X.1 X.2.1 hd hi hl.has h1 rfl (fun ls' hl' => hk ad ls' _ r h H locs hg (hl.put (v := .inr none) h1 hl') hP hD hS h2)
    | some x => exact lv_astore_n X.1 X.2.1 hd hi hl.has h1 rfl (fun ls' hl' => hk ad ls' _ r h H locs hg (hl.put (v := .inr (some x)) h1 hl') hP hD hS h2)
  · exact hB.elim
theorem ok_iinc (X : MC p s m args meth c own nm cc nL rt D cs A a0) {i : Nat} {n : Int} {v : Int32} (hd : decode cc pc = .ok (.iinc i n, 3)) (hv : Int32.ofInt n = v) (hk : BK p l e R s m args below meth c nL D cs A n0 a0 Q (pc + 3) cells slots k) : BK p l e R s m args below meth c nL D cs A n0 a0 Q pc cells slots (o_iinc i v k) := by
  intro ad ls L st h H locs hg hl hP hD hS hB
  unfold o_iinc at hB
  split at hB
  · rename_i x hx
    obtain ⟨h1, h2⟩ := put_spec _ _ _ _ hB
    rw [hl.2.1] at h1
    have hin := prs_in ad L 0 i (.inl x) hx
    rw [Nat.zero_add] at hin
    obtain ⟨kk, hkk⟩ := List.getElem?_of_mem hin
    exact lv_iinc X.1 X.2.1 hd hl.has hkk (by rw [hv]) h1 rfl (fun ls' hl' => hk ad ls' _ st h H locs hg (hl.put (v := .inl (x + v)) h1 hl') hP hD hS h2)
  · exact hB.elim
theorem ok_iadd (X : MC p s m args meth c own nm cc nL rt D cs A a0) (hd : decode cc pc = .ok (.iadd, 1)) (hk : BK p l e R s m args below meth c nL D cs A n0 a0 Q (pc + 1) cells slots k) : BK p l e R s m args below meth c nL D cs A n0 a0 Q pc cells slots (o_bin f_add k) := by
  intro ad ls L st h H locs hg hl hP hD hS hB
  unfold o_bin at hB
  split at hB
  · rename_i y x r
    exact lv_iadd X.1 X.2.1 hd (hk ad ls L (.inl (f_add x y) :: r) h H locs hg hl hP hD hS hB)
  · exact hB.elim
theorem ok_isub (X : MC p s m args meth c own nm cc nL rt D cs A a0) (hd : decode cc pc = .ok (.isub, 1)) (hk : BK p l e R s m args below meth c nL D cs A n0 a0 Q (pc + 1) cells slots k) : BK p l e R s m args below meth c nL D cs A n0 a0 Q pc cells slots (o_bin f_sub k) := by
  intro ad ls L st h H locs hg hl hP hD hS hB
  unfold o_bin at hB
  split at hB
  · rename_i y x r
    exact lv_isub X.1 X.2.1 hd (hk ad ls L (.inl (f_sub x y) :: r) h H locs hg hl hP hD hS hB)
  · exact hB.elim
theorem ok_imul (X : MC p s m args meth c own nm cc nL rt D cs A a0) (hd : decode cc pc = .ok (.imul, 1)) (hk : BK p l e R s m args below meth c nL D cs A n0 a0 Q (pc + 1) cells slots k) : BK p l e R s m args below meth c nL D cs A n0 a0 Q pc cells slots (o_bin f_mul k) := by
  intro ad ls L st h H locs hg hl hP hD hS hB
  unfold o_bin at hB
  split at hB
  · rename_i y x r
    exact lv_imul X.1 X.2.1 hd (hk ad ls L (.inl (f_mul x y) :: r) h H locs hg hl hP hD hS hB)
  · exact hB.elim
theorem ok_iand (X : MC p s m args meth c own nm cc nL rt D cs A a0) (hd : decode cc pc = .ok (.iand, 1)) (hk : BK p l e R s m args below meth c nL D cs A n0 a0 Q (pc + 1) cells slots k) : BK p l e R s m args below meth c nL D cs A n0 a0 Q pc cells slots (o_bin f_and k) := by
  intro ad ls L st h H locs hg hl hP hD hS hB
  unfold o_bin at hB
  split at hB
  · rename_i y x r
    exact lv_iand X.1 X.2.1 hd (hk ad ls L (.inl (f_and x y) :: r) h H locs hg hl hP hD hS hB)
  · exact hB.elim
theorem ok_ior (X : MC p s m args meth c own nm cc nL rt D cs A a0) (hd : decode cc pc = .ok (.ior, 1)) (hk : BK p l e R s m args below meth c nL D cs A n0 a0 Q (pc + 1) cells slots k) : BK p l e R s m args below meth c nL D cs A n0 a0 Q pc cells slots (o_bin f_or k) := by
  intro ad ls L st h H locs hg hl hP hD hS hB
  unfold o_bin at hB
  split at hB
  · rename_i y x r
    exact lv_ior X.1 X.2.1 hd (hk ad ls L (.inl (f_or x y) :: r) h H locs hg hl hP hD hS hB)
  · exact hB.elim
theorem ok_ixor (X : MC p s m args meth c own nm cc nL rt D cs A a0) (hd : decode cc pc = .ok (.ixor, 1)) (hk : BK p l e R s m args below meth c nL D cs A n0 a0 Q (pc + 1) cells slots k) : BK p l e R s m args below meth c nL D cs A n0 a0 Q pc cells slots (o_bin f_xor k) := by
  intro ad ls L st h H locs hg hl hP hD hS hB
  unfold o_bin at hB
  split at hB
  · rename_i y x r
    exact lv_ixor X.1 X.2.1 hd (hk ad ls L (.inl (f_xor x y) :: r) h H locs hg hl hP hD hS hB)
  · exact hB.elim
theorem ok_ishl (X : MC p s m args meth c own nm cc nL rt D cs A a0) (hd : decode cc pc = .ok (.ishl, 1)) (hk : BK p l e R s m args below meth c nL D cs A n0 a0 Q (pc + 1) cells slots k) : BK p l e R s m args below meth c nL D cs A n0 a0 Q pc cells slots (o_bin f_shl k) := by
  intro ad ls L st h H locs hg hl hP hD hS hB
  unfold o_bin at hB
  split at hB
  · rename_i y x r
    exact lv_ishl X.1 X.2.1 hd (hk ad ls L (.inl (f_shl x y) :: r) h H locs hg hl hP hD hS hB)
  · exact hB.elim
theorem ok_ishr (X : MC p s m args meth c own nm cc nL rt D cs A a0) (hd : decode cc pc = .ok (.ishr, 1)) (hk : BK p l e R s m args below meth c nL D cs A n0 a0 Q (pc + 1) cells slots k) : BK p l e R s m args below meth c nL D cs A n0 a0 Q pc cells slots (o_bin f_shr k) := by
  intro ad ls L st h H locs hg hl hP hD hS hB
  unfold o_bin at hB
  split at hB
  · rename_i y x r
    exact lv_ishr X.1 X.2.1 hd (hk ad ls L (.inl (f_shr x y) :: r) h H locs hg hl hP hD hS hB)
  · exact hB.elim
theorem ok_iushr (X : MC p s m args meth c own nm cc nL rt D cs A a0) (hd : decode cc pc = .ok (.iushr, 1)) (hk : BK p l e R s m args below meth c nL D cs A n0 a0 Q (pc + 1) cells slots k) : BK p l e R s m args below meth c nL D cs A n0 a0 Q pc cells slots (o_bin f_ushr k) := by
  intro ad ls L st h H locs hg hl hP hD hS hB
  unfold o_bin at hB
  split at hB
  · rename_i y x r
    exact lv_iushr X.1 X.2.1 hd rfl (hk ad ls L (.inl (f_ushr x y) :: r) h H locs hg hl hP hD hS hB)
  · exact hB.elim
theorem ok_idiv (X : MC p s m args meth c own nm cc nL rt D cs A a0) (hd : decode cc pc = .ok (.idiv, 1)) (hk : BK p l e R s m args below meth c nL D cs A n0 a0 Q (pc + 1) cells slots k) : BK p l e R s m args below meth c nL D cs A n0 a0 Q pc cells slots (o_div k) := by
  intro ad ls L st h H locs hg hl hP hD hS hB
  unfold o_div at hB
  split at hB
  · rename_i y x r
    exact lv_idiv X.1 X.2.1 hd hB.1 (hk ad ls L (.inl (x / y) :: r) h H locs hg hl hP hD hS hB.2)
  · exact hB.elim
theorem ok_irem (X : MC p s m args meth c own nm cc nL rt D cs A a0) (hd : decode cc pc = .ok (.irem, 1)) (hk : BK p l e R s m args below meth c nL D cs A n0 a0 Q (pc + 1) cells slots k) : BK p l e R s m args below meth c nL D cs A n0 a0 Q pc cells slots (o_rem k) := by
  intro ad ls L st h H locs hg hl hP hD hS hB
  unfold o_rem at hB
  split at hB
  · rename_i y x r
    exact lv_irem X.1 X.2.1 hd hB.1 (hk ad ls L (.inl (x - x / y * y) :: r) h H locs hg hl hP hD hS hB.2)
  · exact hB.elim
theorem ok_ineg (X : MC p s m args meth c own nm cc nL rt D cs A a0) (hd : decode cc pc = .ok (.ineg, 1)) (hk : BK p l e R s m args below meth c nL D cs A n0 a0 Q (pc + 1) cells slots k) : BK p l e R s m args below meth c nL D cs A n0 a0 Q pc cells slots (o_un f_neg k) := by
  intro ad ls L st h H locs hg hl hP hD hS hB
  unfold o_un at hB
  split at hB
  · rename_i x r
    exact lv_ineg X.1 X.2.1 hd (hk ad ls L (.inl (f_neg x) :: r) h H locs hg hl hP hD hS hB)
  · exact hB.elim
theorem ok_i2b (X : MC p s m args meth c own nm cc nL rt D cs A a0) (hd : decode cc pc = .ok (.i2b, 1)) (hk : BK p l e R s m args below meth c nL D cs A n0 a0 Q (pc + 1) cells slots k) : BK p l e R s m args below meth c nL D cs A n0 a0 Q pc cells slots (o_un f_i2b k) := by
  intro ad ls L st h H locs hg hl hP hD hS hB
  unfold o_un at hB
  split at hB
  · rename_i x r
    exact lv_i2b X.1 X.2.1 hd rfl (hk ad ls L (.inl (f_i2b x) :: r) h H locs hg hl hP hD hS hB)
  · exact hB.elim
theorem ok_i2c (X : MC p s m args meth c own nm cc nL rt D cs A a0) (hd : decode cc pc = .ok (.i2c, 1)) (hk : BK p l e R s m args below meth c nL D cs A n0 a0 Q (pc + 1) cells slots k) : BK p l e R s m args below meth c nL D cs A n0 a0 Q pc cells slots (o_un f_i2c k) := by
  intro ad ls L st h H locs hg hl hP hD hS hB
  unfold o_un at hB
  split at hB
  · rename_i x r
    exact lv_i2c X.1 X.2.1 hd rfl (hk ad ls L (.inl (f_i2c x) :: r) h H locs hg hl hP hD hS hB)
  · exact hB.elim
theorem ok_icmp_eq (X : MC p s m args meth c own nm cc nL rt D cs A a0) {off : Int} {tgt : Nat} (hd : decode cc pc = .ok (.if_icmp .eq off, 3)) (ht : (pc : Int) + off = (tgt : Int)) (h1 : BK p l e R s m args below meth c nL D cs A n0 a0 Q tgt cells slots kt) (h2 : BK p l e R s m args below meth c nL D cs A n0 a0 Q (pc + 3) cells slots kf) : BK p l e R s m args below meth c nL D cs A n0 a0 Q pc cells slots (o_icmp c_eq kt kf) := by
  intro ad ls L st h H locs hg hl hP hD hS hB
  unfold o_icmp at hB
  split at hB
  · rename_i y x r
    exact lv_icmp_eq X.1 X.2.1 hd ht (fun q => h1 ad ls L r h H locs hg hl hP hD hS (hB.1 q)) (fun q => h2 ad ls L r h H locs hg hl hP hD hS (hB.2 q))
  · exact hB.elim
theorem ok_if_eq (X : MC p s m args meth c own nm cc nL rt D cs A a0) {off : Int} {tgt : Nat} (hd : decode cc pc = .ok (.ifCond .eq off, 3)) (ht : (pc : Int) + off = (tgt : Int)) (h1 : BK p l e R s m args below meth c nL D cs A n0 a0 Q tgt cells slots kt) (h2 : BK p l e R s m args below meth c nL D cs A n0 a0 Q (pc + 3) cells slots kf) : BK p l e R s m args below meth c nL D cs A n0 a0 Q pc cells slots (o_if (fun x => c_eq x 0) kt kf) := by
  intro ad ls L st h H locs hg hl hP hD hS hB
  unfold o_if at hB
  split at hB
  · rename_i x r
    exact lv_if_eq X.1 X.2.1 hd ht (fun q => h1 ad ls L r h H locs hg hl hP hD hS (hB.1 q)) (fun q => h2 ad ls L r h H locs hg hl hP hD hS (hB.2 q))
  · exact hB.elim
theorem ok_icmp_lt (X : MC p s m args meth c own nm cc nL rt D cs A a0) {off : Int} {tgt : Nat} (hd : decode cc pc = .ok (.if_icmp .lt off, 3)) (ht : (pc : Int) + off = (tgt : Int)) (h1 : BK p l e R s m args below meth c nL D cs A n0 a0 Q tgt cells slots kt) (h2 : BK p l e R s m args below meth c nL D cs A n0 a0 Q (pc + 3) cells slots kf) : BK p l e R s m args below meth c nL D cs A n0 a0 Q pc cells slots (o_icmp c_lt kt kf) := by
  intro ad ls L st h H locs hg hl hP hD hS hB
  unfold o_icmp at hB
  split at hB
  · rename_i y x r
    exact lv_icmp_lt X.1 X.2.1 hd ht (fun q => h1 ad ls L r h H locs hg hl hP hD hS (hB.1 q)) (fun q => h2 ad ls L r h H locs hg hl hP hD hS (hB.2 q))
  · exact hB.elim
theorem ok_if_lt (X : MC p s m args meth c own nm cc nL rt D cs A a0) {off : Int} {tgt : Nat} (hd : decode cc pc = .ok (.ifCond .lt off, 3)) (ht : (pc : Int) + off = (tgt : Int)) (h1 : BK p l e R s m args below meth c nL D cs A n0 a0 Q tgt cells slots kt) (h2 : BK p l e R s m args below meth c nL D cs A n0 a0 Q (pc + 3) cells slots kf) : BK p l e R s m args below meth c nL D cs A n0 a0 Q pc cells slots (o_if (fun x => c_lt x 0) kt kf) := by
  intro ad ls L st h H locs hg hl hP hD hS hB
  unfold o_if at hB
  split at hB
  · rename_i x r
    exact lv_if_lt X.1 X.2.1 hd ht (fun q => h1 ad ls L r h H locs hg hl hP hD hS (hB.1 q)) (fun q => h2 ad ls L r h H locs hg hl hP hD hS (hB.2 q))
  · exact hB.elim
theorem ok_icmp_ge (X : MC p s m args meth c own nm cc nL rt D cs A a0) {off : Int} {tgt : Nat} (hd : decode cc pc = .ok (.if_icmp .ge off, 3)) (ht : (pc : Int) + off = (tgt : Int)) (h1 : BK p l e R s m args below meth c nL D cs A n0 a0 Q tgt cells slots kt) (h2 : BK p l e R s m args below meth c nL D cs A n0 a0 Q (pc + 3) cells slots kf) : BK p l e R s m args below meth c nL D cs A n0 a0 Q pc cells slots (o_icmp c_ge kt kf) := by
  intro ad ls L st h H locs hg hl hP hD hS hB
  unfold o_icmp at hB
  split at hB
  · rename_i y x r
    exact lv_icmp_ge X.1 X.2.1 hd ht (fun q => h1 ad ls L r h H locs hg hl hP hD hS (hB.1 q)) (fun q => h2 ad ls L r h H locs hg hl hP hD hS (hB.2 q))
  · exact hB.elim
theorem ok_if_ge (X : MC p s m args meth c own nm cc nL rt D cs A a0) {off : Int} {tgt : Nat} (hd : decode cc pc = .ok (.ifCond .ge off, 3)) (ht : (pc : Int) + off = (tgt : Int)) (h1 : BK p l e R s m args below meth c nL D cs A n0 a0 Q tgt cells slots kt) (h2 : BK p l e R s m args below meth c nL D cs A n0 a0 Q (pc + 3) cells slots kf) : BK p l e R s m args below meth c nL D cs A n0 a0 Q pc cells slots (o_if (fun x => c_ge x 0) kt kf) := by
  intro ad ls L st h H locs hg hl hP hD hS hB
  unfold o_if at hB
  split at hB
  · rename_i x r
    exact lv_if_ge X.1 X.2.1 hd ht (fun q => h1 ad ls L r h H locs hg hl hP hD hS (hB.1 q)) (fun q => h2 ad ls L r h H locs hg hl hP hD hS (hB.2 q))
  · exact hB.elim
theorem ok_icmp_gt (X : MC p s m args meth c own nm cc nL rt D cs A a0) {off : Int} {tgt : Nat} (hd : decode cc pc = .ok (.if_icmp .gt off, 3)) (ht : (pc : Int) + off = (tgt : Int)) (h1 : BK p l e R s m args below meth c nL D cs A n0 a0 Q tgt cells slots kt) (h2 : BK p l e R s m args below meth c nL D cs A n0 a0 Q (pc + 3) cells slots kf) : BK p l e R s m args below meth c nL D cs A n0 a0 Q pc cells slots (o_icmp c_gt kt kf) := by
  intro ad ls L st h H locs hg hl hP hD hS hB
  unfold o_icmp at hB
  split at hB
  · rename_i y x r
    exact lv_icmp_gt X.1 X.2.1 hd ht (fun q => h1 ad ls L r h H locs hg hl hP hD hS (hB.1 q)) (fun q => h2 ad ls L r h H locs hg hl hP hD hS (hB.2 q))
  · exact hB.elim
theorem ok_if_gt (X : MC p s m args meth c own nm cc nL rt D cs A a0) {off : Int} {tgt : Nat} (hd : decode cc pc = .ok (.ifCond .gt off, 3)) (ht : (pc : Int) + off = (tgt : Int)) (h1 : BK p l e R s m args below meth c nL D cs A n0 a0 Q tgt cells slots kt) (h2 : BK p l e R s m args below meth c nL D cs A n0 a0 Q (pc + 3) cells slots kf) : BK p l e R s m args below meth c nL D cs A n0 a0 Q pc cells slots (o_if (fun x => c_gt x 0) kt kf) := by
  intro ad ls L st h H locs hg hl hP hD hS hB
  unfold o_if at hB
  split at hB
  · rename_i x r
    exact lv_if_gt X.1 X.2.1 hd ht (fun q => h1 ad ls L r h H locs hg hl hP hD hS (hB.1 q)) (fun q => h2 ad ls L r h H locs hg hl hP hD hS (hB.2 q))
  · exact hB.elim
theorem ok_icmp_le (X : MC p s m args meth c own nm cc nL rt D cs A a0) {off : Int} {tgt : Nat} (hd : decode cc pc = .ok (.if_icmp .le off, 3)) (ht : (pc : Int) + off = (tgt : Int)) (h1 : BK p l e R s m args below meth c nL D cs A n0 a0 Q tgt cells slots kt) (h2 : BK p l e R s m args below meth c nL D cs A n0 a0 Q (pc + 3) cells slots kf) : BK p l e R s m args below meth c nL D cs A n0 a0 Q pc cells slots (o_icmp c_le kt kf) := by
  intro ad ls L st h H locs hg hl hP hD hS hB
  unfold o_icmp at hB
  split at hB
  · rename_i y x r
    exact lv_icmp_le X.1 X.2.1 hd ht (fun q => h1 ad ls L r h H locs hg hl hP hD hS (hB.1 q)) (fun q => h2 ad ls L r h H locs hg hl hP hD hS (hB.2 q))
  · exact hB.elim
theorem ok_if_le (X : MC p s m args meth c own nm cc nL rt D cs A a0) {off : Int} {tgt : Nat} (hd : decode cc pc = .ok (.ifCond .le off, 3)) (ht : (pc : Int) + off = (tgt : Int)) (h1 : BK p l e R s m args below meth c nL D cs A n0 a0 Q tgt cells slots kt) (h2 : BK p l e R s m args below meth c nL D cs A n0 a0 Q (pc + 3) cells slots kf) : BK p l e R s m args below meth c nL D cs A n0 a0 Q pc cells slots (o_if (fun x => c_le x 0) kt kf) := by
  intro ad ls L st h H locs hg hl hP hD hS hB
  unfold o_if at hB
  split at hB
  · rename_i x r
    exact lv_if_le X.1 X.2.1 hd ht (fun q => h1 ad ls L r h H locs hg hl hP hD hS (hB.1 q)) (fun q => h2 ad ls L r h H locs hg hl hP hD hS (hB.2 q))
  · exact hB.elim
theorem ok_icmp_ne (X : MC p s m args meth c own nm cc nL rt D cs A a0) {off : Int} {tgt : Nat} (hd : decode cc pc = .ok (.if_icmp .ne off, 3)) (ht : (pc : Int) + off = (tgt : Int)) (h1 : BK p l e R s m args below meth c nL D cs A n0 a0 Q tgt cells slots kt) (h2 : BK p l e R s m args below meth c nL D cs A n0 a0 Q (pc + 3) cells slots kf) : BK p l e R s m args below meth c nL D cs A n0 a0 Q pc cells slots (o_icmp c_eq kf kt) := by
  intro ad ls L st h H locs hg hl hP hD hS hB
  unfold o_icmp at hB
  split at hB
  · rename_i y x r
    exact lv_icmp_ne X.1 X.2.1 hd ht (fun q => h1 ad ls L r h H locs hg hl hP hD hS (hB.2 q)) (fun q => h2 ad ls L r h H locs hg hl hP hD hS (hB.1 q))
  · exact hB.elim
theorem ok_if_ne (X : MC p s m args meth c own nm cc nL rt D cs A a0) {off : Int} {tgt : Nat} (hd : decode cc pc = .ok (.ifCond .ne off, 3)) (ht : (pc : Int) + off = (tgt : Int)) (h1 : BK p l e R s m args below meth c nL D cs A n0 a0 Q tgt cells slots kt) (h2 : BK p l e R s m args below meth c nL D cs A n0 a0 Q (pc + 3) cells slots kf) : BK p l e R s m args below meth c nL D cs A n0 a0 Q pc cells slots (o_if (fun x => c_eq x 0) kf kt) := by
  intro ad ls L st h H locs hg hl hP hD hS hB
  unfold o_if at hB
  split at hB
  · rename_i x r
    exact lv_if_ne X.1 X.2.1 hd ht (fun q => h1 ad ls L r h H locs hg hl hP hD hS (hB.2 q)) (fun q => h2 ad ls L r h H locs hg hl hP hD hS (hB.1 q))
  · exact hB.elim
theorem ok_goto (X : MC p s m args meth c own nm cc nL rt D cs A a0) {off : Int} {tgt : Nat} (hd : decode cc pc = .ok (.goto off, 3)) (ht : (pc : Int) + off = (tgt : Int)) (hk : BK p l e R s m args below meth c nL D cs A n0 a0 Q tgt cells slots k) : BK p l e R s m args below meth c nL D cs A n0 a0 Q pc cells slots k :=
  fun ad ls L st h H locs hg hl hP hD hS hB => lv_goto X.1 X.2.1 hd ht (hk ad ls L st h H locs hg hl hP hD hS hB)
theorem ok_dup (X : MC p s m args meth c own nm cc nL rt D cs A a0) (hd : decode cc pc = .ok (.dup, 1)) (hk : BK p l e R s m args below meth c nL D cs A n0 a0 Q (pc + 1) cells slots k) : BK p l e R s m args below meth c nL D cs A n0 a0 Q pc cells slots (o_dup k) := by
  intro ad ls L st h H locs hg hl hP hD hS hB
  unfold o_dup at hB
  split at hB
  · rename_i v r
    exact lv_dup X.1 X.2.1 hd (cV_cat ad v) (hk ad ls L (v :: v :: r) h H locs hg hl hP hD hS hB)
  · exact hB.elim
theorem ok_dup2 (X : MC p s m args meth c own nm cc nL rt D cs A a0) (hd : decode cc pc = .ok (.dup2, 1)) (hk : BK p l e R s m args below meth c nL D cs A n0 a0 Q (pc + 1) cells slots k) : BK p l e R s m args below meth c nL D cs A n0 a0 Q pc cells slots (o_dup2 k) := by
  intro ad ls L st h H locs hg hl hP hD hS hB
  unfold o_dup2 at hB
  split at hB
  · rename_i v w r
    exact lv_dup2_11 X.1 X.2.1 hd (cV_cat ad v) (cV_cat ad w) (hk ad ls L (v :: w :: v :: w :: r) h H locs hg hl hP hD hS hB)
  · exact hB.elim
theorem ok_dupx1 (X : MC p s m args meth c own nm cc nL rt D cs A a0) (hd : decode cc pc = .ok (.dup_x1, 1)) (hk : BK p l e R s m args below meth c nL D cs A n0 a0 Q (pc + 1) cells slots k) : BK p l e R s m args below meth c nL D cs A n0 a0 Q pc cells slots (o_dupx1 k) := by
  intro ad ls L st h H locs hg hl hP hD hS hB
  unfold o_dupx1 at hB
  split at hB
  · rename_i v w r
    exact lv_dup_x1 X.1 X.2.1 hd (cV_cat ad v) (cV_cat ad w) (hk ad ls L (v :: w :: v :: r) h H locs hg hl hP hD hS hB)
  · exact hB.elim
theorem ok_pop (X : MC p s m args meth c own nm cc nL rt D cs A a0) (hd : decode cc pc = .ok (.pop, 1)) (hk : BK p l e R s m args below meth c nL D cs A n0 a0 Q (pc + 1) cells slots k) : BK p l e R s m args below meth c nL D cs A n0 a0 Q pc cells slots (o_pop k) := by
  intro ad ls L st h H locs hg hl hP hD hS hB
  unfold o_pop at hB
  split at hB
  · rename_i v r
    exact lv_pop X.1 X.2.1 hd (cV_cat ad v) (hk ad ls L r h H locs hg hl hP hD hS hB)
  · exact hB.elim
theorem ok_getf (X : MC p s m args meth c own nm cc nL rt D cs A a0) {idx j : Nat} {cis : List Nat} (hd : decode cc pc = .ok (.getfield idx, 3)) (hf : ∀ ci ∈ cis, FL own idx ci j) (hk : BK p l e R s m args below meth c nL D cs A n0 a0 Q (pc + 3) cells slots k) : BK p l e R s m args below meth c nL D cs A n0 a0 Q pc cells slots (o_getf cis j k) := by
  intro ad ls L st h H locs hg hl hP hD hS hB
  unfold o_getf at hB
  split at hB
  · rename_i a r
    split at hB
    · rename_i ci fs he
      split at hB
      · rename_i hc
        split at hB
        · rename_i v hv
          obtain ⟨C, T, N, h1, h2, h3, h4⟩ := hf ci (contains_mem hc)
          rw [nth_eq] at he hv
          exact va_get (T := T) (C := C) (N := N) (ref := (T j).1) X.1 X.2.1 X.2.2.2.2.1 h3 X.2.2.2.1 X.2.2.2.2.2.2.1 hP a (cW_get he) h1 j h2 (X.2.2.2.2.1 _ h4) (fun _ z => z) (v := cV ad v) (by rw [List.getElem?_map, hv]; rfl) hd (hk ad ls L (v :: r) h H locs hg hl hP hD hS hB)
        · exact hB.elim
      · exact hB.elim
    · exact hB.elim
  · exact hB.elim
theorem ok_getfN (X : MC p s m args meth c own nm cc nL rt D cs A a0) {idx j : Nat} {cis : List Nat} (hd : decode cc pc = .ok (.getfield idx, 3)) (hf : ∀ ci ∈ cis, FN own idx ci j) (hk : BK p l e R s m args below meth c nL D cs A n0 a0 Q (pc + 3) cells slots k) : BK p l e R s m args below meth c nL D cs A n0 a0 Q pc cells slots (o_getf cis j k) := by
  intro ad ls L st h H locs hg hl hP hD hS hB
  unfold o_getf at hB
  split at hB
  · rename_i a r
    split at hB
    · rename_i ci fs he
      split at hB
      · rename_i hc
        split at hB
        · rename_i v hv
          obtain ⟨C, host, T, N, h1, h2, h3, h4⟩ := hf ci (contains_mem hc)
          rw [nth_eq] at he hv
          exact va_getN (T := T) (C := C) (N := N) (ref := (T j).1) (host := host) X.1 X.2.1 X.2.2.2.2.1 h3 X.2.2.2.1 X.2.2.2.2.2.2.1 hP a (cW_get he) h1 j h2 (va_Nw.use rfl (X.2.2.2.2.2.1 _ h4)) (fun _ z => z) (v := cV ad v) (by rw [List.getElem?_map, hv]; rfl) hd (hk ad ls L (v :: r) h H locs hg hl hP hD hS hB)
        · exact hB.elim
      · exact hB.elim
    · exact hB.elim
  · exact hB.elim
theorem map_set_cV (ad : PR → Nat) (fs : List PV) (j : Nat) (v : PV) : (fs.set j v).map (cV ad) = (fs.map (cV ad)).set j (cV ad v) := List.map_set
theorem ok_putf (X : MC p s m args meth c own nm cc nL rt D cs A a0) {idx j ty : Nat} {cis : List Nat} (hd : decode cc pc = .ok (.putfield idx, 3)) (hf : ∀ ci ∈ cis, FP own idx ci j ty false) (hk : BK p l e R s m args below meth c nL D cs A n0 a0 Q (pc + 3) cells slots k) : BK p l e R s m args below meth c nL D cs A n0 a0 Q pc cells slots (o_putf cis j ty k) := by
  intro ad ls L st h H locs hg hl hP hD hS hB
  unfold o_putf at hB
  split at hB
  · rename_i v a r
    split at hB
    · rename_i ci fs he
      split at hB
      · rename_i hc
        obtain ⟨C, T, N, t0, h1, h2, h3, h4, h5, h6, h7, h8, -⟩ := hf ci (contains_mem hc)
        rw [nth_eq] at he
        obtain ⟨q1, q2, q3⟩ := fit_ok (ad := ad) h8 hB
        obtain ⟨q4, q5⟩ := put_spec _ _ _ _ q3
        obtain ⟨q6, q7⟩ := put_spec _ _ _ _ q5
        refine va_put (T := T) (C := C) (N := N) (ref := (T j).1) X.1 X.2.1 X.2.2.2.2.1 h3 t0 h5 h6 X.2.2.2.1 X.2.2.2.2.2.2.1 hP hD hS a (cW_get he) h1 j h2 (X.2.2.2.2.1 _ h4) (fun _ z => z) h7 (h5 j h2) q1 q2 (by rw [List.length_map]; exact q4) hd (fun H1 locs1 hP1 hD1 hS1 => ?_)
        have ew : cW cs ad (h.set a (.inr (ci, fs.set j v))) = (cW cs ad h).set a (ad (.inl a), .inr (ci, (fs.map (cV ad)).set j (cV ad v))) := by
          rw [cW_set, ← map_set_cV]; rfl
        exact hk ad ls L r _ H1 locs1 (by rw [List.length_set]; exact hg) hl (by rw [ew]; exact hP1) (by rw [ew]; exact hD1) hS1 q7
      · exact hB.elim
    · exact hB.elim
  · exact hB.elim
theorem ok_putfF (X : MC p s m args meth c own nm cc nL rt D cs A a0) {idx j ty : Nat} {cis : List Nat} (hd : decode cc pc = .ok (.putfield idx, 3)) (hi : nm = "<init>") (hf : ∀ ci ∈ cis, FP own idx ci j ty true) (hk : BK p l e R s m args below meth c nL D cs A n0 a0 Q (pc + 3) cells slots k) : BK p l e R s m args below meth c nL D cs A n0 a0 Q pc cells slots (o_putf cis j ty k) := by
  intro ad ls L st h H locs hg hl hP hD hS hB
  unfold o_putf at hB
  split at hB
  · rename_i v a r
    split at hB
    · rename_i ci fs he
      split at hB
      · rename_i hc
        obtain ⟨C, T, N, t0, h1, h2, h3, h4, h5, h6, h7, h8, h9⟩ := hf ci (contains_mem hc)
        rw [nth_eq] at he
        obtain ⟨q1, q2, q3⟩ := fit_ok (ad := ad) h8 hB
        obtain ⟨q4, q5⟩ := put_spec _ _ _ _ q3
        obtain ⟨q6, q7⟩ := put_spec _ _ _ _ q5
        refine va_putF (T := T) (C := C) (N := N) (ref := (T j).1) X.1 X.2.1 X.2.2.2.2.1 h3 t0 h5 h6 X.2.2.2.1 X.2.2.2.2.2.2.1 hP hD hS a (cW_get he) h1 j h2 (X.2.2.2.2.1 _ h4) (fun _ z => z) h7 (by rw [X.2.2.2.2.2.2.2.2.2.1]; exact hi) (h9 rfl) (h5 j h2) q1 q2 (by rw [List.length_map]; exact q4) hd (fun H1 locs1 hP1 hD1 hS1 => ?_)
        have ew : cW cs ad (h.set a (.inr (ci, fs.set j v))) = (cW cs ad h).set a (ad (.inl a), .inr (ci, (fs.map (cV ad)).set j (cV ad v))) := by
          rw [cW_set, ← map_set_cV]; rfl
        exact hk ad ls L r _ H1 locs1 (by rw [List.length_set]; exact hg) hl (by rw [ew]; exact hP1) (by rw [ew]; exact hD1) hS1 q7
      · exact hB.elim
    · exact hB.elim
  · exact hB.elim
theorem ok_iaload (X : MC p s m args meth c own nm cc nL rt D cs A a0) (hd : decode cc pc = .ok (.iaload, 1)) (hk : BK p l e R s m args below meth c nL D cs A n0 a0 Q (pc + 1) cells slots k) : BK p l e R s m args below meth c nL D cs A n0 a0 Q pc cells slots (o_ald [0] k) := by
  intro ad ls L st h H locs hg hl hP hD hS hB
  unfold o_ald at hB
  split at hB
  · rename_i i a r
    split at hB
    · rename_i t n f he
      split at hB
      · rename_i hc
        have ht : t = 0 := by simpa using contains_mem hc
        subst ht
        rw [nth_eq] at he
        exact va_iald X.1 X.2.1 X.2.2.2.2.2.2.1 hP a 0 (cW_get he) rfl hB.1 hd (hk ad ls L (.inl (f i.toNatClampNeg) :: r) h H locs hg hl hP hD hS hB.2)
      · exact hB.elim
    · exact hB.elim
  · exact hB.elim
theorem ok_baload (X : MC p s m args meth c own nm cc nL rt D cs A a0) (hd : decode cc pc = .ok (.baload, 1)) (hk : BK p l e R s m args below meth c nL D cs A n0 a0 Q (pc + 1) cells slots k) : BK p l e R s m args below meth c nL D cs A n0 a0 Q pc cells slots (o_ald [1, 2] k) := by
  intro ad ls L st h H locs hg hl hP hD hS hB
  unfold o_ald at hB
  split at hB
  · rename_i i a r
    split at hB
    · rename_i t n f he
      split at hB
      · rename_i hc
        have ht : t = 1 ∨ t = 2 := by simpa using contains_mem hc
        rw [nth_eq] at he
        rcases ht with rfl | rfl
        · exact va_bald X.1 X.2.1 X.2.2.2.2.2.2.1 hP a 1 (cW_get he) rfl hB.1 hd (hk ad ls L (.inl (f i.toNatClampNeg) :: r) h H locs hg hl hP hD hS hB.2)
        · exact va_zald X.1 X.2.1 X.2.2.2.2.2.2.1 hP a 2 (cW_get he) rfl hB.1 hd (hk ad ls L (.inl (f i.toNatClampNeg) :: r) h H locs hg hl hP hD hS hB.2)
      · exact hB.elim
    · exact hB.elim
  · exact hB.elim
theorem ok_iastore (X : MC p s m args meth c own nm cc nL rt D cs A a0) (hd : decode cc pc = .ok (.iastore, 1)) (hk : BK p l e R s m args below meth c nL D cs A n0 a0 Q (pc + 1) cells slots k) : BK p l e R s m args below meth c nL D cs A n0 a0 Q pc cells slots (o_ast [0] k) := by
  intro ad ls L st h H locs hg hl hP hD hS hB
  unfold o_ast at hB
  split at hB
  · rename_i x i a r
    split at hB
    · rename_i t n f he
      split at hB
      · rename_i hc
        have ht : t = 0 := by simpa using contains_mem hc
        subst ht
        rw [nth_eq] at he
        obtain ⟨q6, q7⟩ := put_spec _ _ _ _ hB.2
        refine va_iast X.1 X.2.1 X.2.2.2.2.2.2.1 hP hD hS a 0 (cW_get he) rfl hB.1 hd (fun H1 locs1 hP1 hD1 hS1 => ?_)
        exact hk ad ls L r _ H1 locs1 (by rw [List.length_set]; exact hg) hl (by rw [cW_set]; exact hP1) (by rw [cW_set]; exact hD1) hS1 q7
      · exact hB.elim
    · exact hB.elim
  · exact hB.elim
theorem ok_bastore (X : MC p s m args meth c own nm cc nL rt D cs A a0) (hd : decode cc pc = .ok (.bastore, 1)) (hk : BK p l e R s m args below meth c nL D cs A n0 a0 Q (pc + 1) cells slots k) : BK p l e R s m args below meth c nL D cs A n0 a0 Q pc cells slots (o_ast [1, 2] k) := by
  intro ad ls L st h H locs hg hl hP hD hS hB
  unfold o_ast at hB
  split at hB
  · rename_i x i a r
    split at hB
    · rename_i t n f he
      split at hB
      · rename_i hc
        have ht : t = 1 ∨ t = 2 := by simpa using contains_mem hc
        rw [nth_eq] at he
        obtain ⟨q6, q7⟩ := put_spec _ _ _ _ hB.2
        rcases ht with rfl | rfl
        · refine va_bast X.1 X.2.1 X.2.2.2.2.2.2.1 hP hD hS a 1 (cW_get he) rfl hB.1 hd (fun H1 locs1 hP1 hD1 hS1 => ?_)
          exact hk ad ls L r _ H1 locs1 (by rw [List.length_set]; exact hg) hl (by rw [cW_set]; exact hP1) (by rw [cW_set]; exact hD1) hS1 q7
        · refine va_zast X.1 X.2.1 X.2.2.2.2.2.2.1 hP hD hS a 2 (cW_get he) rfl hB.1 hd (fun H1 locs1 hP1 hD1 hS1 => ?_)
          exact hk ad ls L r _ H1 locs1 (by rw [List.length_set]; exact hg) hl (by rw [cW_set]; exact hP1) (by rw [cW_set]; exact hD1) hS1 q7
      · exact hB.elim
    · exact hB.elim
  · exact hB.elim
theorem ok_alen (X : MC p s m args meth c own nm cc nL rt D cs A a0) (hd : decode cc pc = .ok (.arraylength, 1)) (hk : BK p l e R s m args below meth c nL D cs A n0 a0 Q (pc + 1) cells slots k) : BK p l e R s m args below meth c nL D cs A n0 a0 Q pc cells slots (o_alen k) := by
  intro ad ls L st h H locs hg hl hP hD hS hB
  unfold o_alen at hB
  split at hB
  · rename_i a r
    split at hB
    · rename_i t n f he
      split at hB
      · rename_i hc
        have ht : t = 0 ∨ t = 1 ∨ t = 2 := by have := Nat.blt_eq.mp hc; omega
        rw [nth_eq] at he
        rcases ht with rfl | rfl | rfl
        · exact va_alen X.1 X.2.1 X.2.2.2.2.2.2.1 hP a 0 (cW_get he) (ty := .int) rfl rfl hd (hk ad ls L (.inl (Int32.ofNat n) :: r) h H locs hg hl hP hD hS hB)
        · exact va_alen X.1 X.2.1 X.2.2.2.2.2.2.1 hP a 1 (cW_get he) (ty := .byte) rfl rfl hd (hk ad ls L (.inl (Int32.ofNat n) :: r) h H locs hg hl hP hD hS hB)
        · exact va_alen X.1 X.2.1 X.2.2.2.2.2.2.1 hP a 2 (cW_get he) (ty := .boolean) rfl rfl hd (hk ad ls L (.inl (Int32.ofNat n) :: r) h H locs hg hl hP hD hS hB)
      · exact hB.elim
    · exact hB.elim
  · exact hB.elim
variable {Rv : Option PV → PH → Prop} {mc ms : Nat}
theorem ok_vret (X : MC p s m args meth c own nm cc nL none D cs A a0) (hd : decode cc pc = .ok (.return_, 1)) (hc : cells ≤ mc) (hs : slots ≤ ms) : BK p l e R s m args below meth c nL D cs A n0 a0 (MQ below (Qp D cs A n0 a0 Rv) args s mc ms A) pc cells slots (o_vret Rv) := by
  intro ad ls L st h H locs hg hl hP hD hS hB
  unfold o_vret at hB
  split at hB
  · have hlocks : meth.locks = false := X.2.2.2.2.2.2.2.2.2.2.1
    refine W.widen hc hs ?_
    exact W.vret X.1 X.2.1 X.2.2.2.2.2.2.2.2.1 (fun t ht hW => ⟨⟨none, h, ad, rfl, hB, hg, by rw [ht]; exact hP, hD⟩, hS.F ht⟩) hS.2.2 hd
  · exact hB.elim
theorem ok_iret (X : MC p s m args meth c own nm cc nL (some .int) D cs A a0) (hd : decode cc pc = .ok (.ireturn, 1)) (hc : cells ≤ mc) (hs : slots ≤ ms) : BK p l e R s m args below meth c nL D cs A n0 a0 (MQ below (Qp D cs A n0 a0 Rv) args s mc ms A) pc cells slots (o_iret Rv) := by
  intro ad ls L st h H locs hg hl hP hD hS hB
  unfold o_iret at hB
  split at hB
  · rename_i v
    have hlocks : meth.locks = false := X.2.2.2.2.2.2.2.2.2.2.1
    refine W.widen hc hs ?_
    exact W.iret (v := v) X.1 X.2.1 X.2.2.2.2.2.2.2.2.1 (fun t ht hW => ⟨⟨some (.inl v), h, ad, rfl, hB, hg, by rw [ht]; exact hP, hD⟩, hS.F ht⟩) hS.2.2 hd
  · exact hB.elim
theorem ok_zret (X : MC p s m args meth c own nm cc nL (some .boolean) D cs A a0) (hd : decode cc pc = .ok (.ireturn, 1)) (hc : cells ≤ mc) (hs : slots ≤ ms) : BK p l e R s m args below meth c nL D cs A n0 a0 (MQ below (Qp D cs A n0 a0 Rv) args s mc ms A) pc cells slots (o_zret Rv) := by
  intro ad ls L st h H locs hg hl hP hD hS hB
  unfold o_zret at hB
  split at hB
  · rename_i v
    have hlocks : meth.locks = false := X.2.2.2.2.2.2.2.2.2.2.1
    refine W.widen hc hs ?_
    exact W.zret (v := v) X.1 X.2.1 X.2.2.2.2.2.2.2.2.1 (by rcases hB.1 with rfl | rfl <;> decide +kernel) (fun t ht hW => ⟨⟨some (.inl v), h, ad, rfl, hB.2, hg, by rw [ht]; exact hP, hD⟩, hS.F ht⟩) hS.2.2 hd
  · exact hB.elim
theorem ok_bret (X : MC p s m args meth c own nm cc nL (some .byte) D cs A a0) (hd : decode cc pc = .ok (.ireturn, 1)) (hc : cells ≤ mc) (hs : slots ≤ ms) : BK p l e R s m args below meth c nL D cs A n0 a0 (MQ below (Qp D cs A n0 a0 Rv) args s mc ms A) pc cells slots (o_zret Rv) := by
  intro ad ls L st h H locs hg hl hP hD hS hB
  unfold o_zret at hB
  split at hB
  · rename_i v
    have hlocks : meth.locks = false := X.2.2.2.2.2.2.2.2.2.2.1
    refine W.widen hc hs ?_
    exact W.zret (v := v) X.1 X.2.1 X.2.2.2.2.2.2.2.2.1 (by rcases hB.1 with rfl | rfl <;> decide +kernel) (fun t ht hW => ⟨⟨some (.inl v), h, ad, rfl, hB.2, hg, by rw [ht]; exact hP, hD⟩, hS.F ht⟩) hS.2.2 hd
  · exact hB.elim
end OPS
