-- ===== end of PART A; then your names; then what follows =====
/-! THE CLAIM OUT OF ONE WALK OF THE LAW'S BODY. Your part is whole_start (and what it stands on); all else here is the same for every law, but numbers. -/
def R_law : String := "HomesickStampsLaw"
def lw_P (b : Addr) (xs : List Int32) (args : Array Value) (s : State) : Prop := args = #[.ref b] ∧ s.IntsAt b xs ∧ xs.length ≤ 3072 ∧ (Jvm.Cond.and given_1 narrow_1).before args s = true
def lw_Q (_ : Array Value) (s : State) (o : Outcome) (t : State) : Prop := o = .returned (some (.int 1)) ∧ Framed s o t [] 600000 7302250
def lw_Z (below : List Frame) (a : Array Value) (s : State) : State → Prop := fun t => ∃ o, t.status = .running ∧ Ended t below o ∧ lw_Q a s o t
/-- the law's own end, with 1 on the stack, nothing written that was there before, its room as the claim has it -/
theorem lw_ret {p : Program} {l : Launch} {e : Env} {s : State} {m : MethodId} {below : List Frame} {meth : Method} {c : Code} {b : Nat} (hx : p.tables.exec = Jvm.exec) (hb : c.code = code) (hr : meth.sig.returnType = ret) (hlocks : meth.locks = false) {pc : Nat} {H : Heap} {ls : Array Slot} (hdg : decode code pc = .ok (.ireturn, 1)) : W p l e room_1 s m #[Value.ref b] below meth c H [] 600000 7302250 (lw_Z below #[Value.ref b] s) (F0 m pc ls [.int 1]) := by
  intro T hT X
  obtain ⟨fs, hret, hrun, hended, hW, hframe⟩ := X.leave (v := some (.int 1)) (hlocks := hlocks) (fun h => by rw [hr] at h; cases h)
  have hmeth' : T.vm.method? m = some meth := X.method'
  refine ⟨T.setFrames fs, ?_, .returned (some (.int 1)), hrun, hended, rfl, ⟨_, rfl⟩, hW, hframe⟩
  jvm_step X.here [X.here.top, hx, hb, hdg, hmeth', hr, ret, narrow_b1]
  (try refine ⟨rfl, ?_⟩); (try refine ⟨rfl, ?_⟩)
  first | (intro acts; rw [hret _ acts rfl rfl rfl]) | rw [hret _ _ rfl rfl rfl]
  exact Steps.refl _
/-- what holds at the law's entry: the machine, the code, the tables' words (any of lw_tbl by 'hts w (by decide +kernel)'), the script of L ints xs at the cell b, what the Statement gives of the start (any of its parts by flat_of_before) -/
def lw_At (p : Program) (s : State) (m : MethodId) (meth : Method) (c : Code) (b L : Nat) (xs : Nat → Int32) : Prop :=
  p.tables.exec = Jvm.exec ∧ c.code = code ∧ meth.sig.returnType = ret ∧ c.maxLocals = 4 ∧ s.vm.findClass R_law = some m.cls ∧ (∀ w ∈ lw_tbl, w.before #[Value.ref b] s = true) ∧ va_X b L xs s s.heap ∧ b < s.heap.size ∧ meth.locks = false ∧ (Jvm.Cond.and given_1 narrow_1).before #[Value.ref b] s = true
/-! ===== the law's own instructions: the script ===== -/
def SC (s : State) (b Ls : Nat) (xs : Nat → Int32) (a0 : PR → Nat) : Prop := va_X b Ls xs s s.heap ∧ b < s.heap.size ∧ a0 (.inr []) = b
def o_sld (Ls : Nat) (xs : Nat → Int32) (k : Blk) : Blk := fun L st h => match st with
  | .inl i :: .inr (some (.inr [])) :: r => vp_in i Ls ∧ k L (.inl (xs i.toNatClampNeg) :: r) h
  | _ => False
def o_slen (Ls : Nat) (k : Blk) : Blk := fun L st h => match st with
  | .inr (some (.inr [])) :: r => k L (.inl (nI Ls) :: r) h
  | _ => False
def o_lret : Blk := fun _ st _ => match st with
  | [.inl v] => v = 1
  | _ => False
section LAWOPS
variable {p : Program} {l : Launch} {e : Env} {R : Room} {s : State} {m : MethodId} {b : Nat} {below : List Frame} {meth : Method} {c : Code} {own nm : String} {cc : ByteArray} {nL : Nat} {rt : Option FieldType} {D : va_G} {cs : Nat → ClassId} {a0 : PR → Nat} {Q : State → Prop} {pc cells slots : Nat} {k : Blk} {Ls : Nat} {xs : Nat → Int32}
theorem ok_sld (X : MC p s m #[Value.ref b] meth c own nm cc nL rt D cs (fun q : Nat => s.heap.size ≤ q) a0) (Y : SC s b Ls xs a0) (hd : decode cc pc = .ok (.iaload, 1)) (hk : BK p l e R s m #[Value.ref b] below meth c nL D cs (fun q : Nat => s.heap.size ≤ q) 0 a0 Q (pc + 1) cells slots k) : BK p l e R s m #[Value.ref b] below meth c nL D cs (fun q : Nat => s.heap.size ≤ q) 0 a0 Q pc cells slots (o_sld Ls xs k) := by
  intro ad ls L st h H locs hg hl hP hD hS hB
  unfold o_sld at hB
  split at hB
  · rename_i i r
    have h9 := hk ad ls L (.inl (xs i.toNatClampNeg) :: r) h H locs hg hl hP hD hS hB.2
    have hb : cV ad (.inr (some (.inr []))) = .ref b := by
      show Value.ref (ad (.inr [])) = _
      rw [hg.2.2, Y.2.2]
    rw [List.map_cons, List.map_cons, hb]
    exact va_sld X.1 X.2.1 Y.1 Y.2.1 (Nat.not_le.mpr Y.2.1) hS hB.1 hd h9
  · exact hB.elim
theorem ok_slen (X : MC p s m #[Value.ref b] meth c own nm cc nL rt D cs (fun q : Nat => s.heap.size ≤ q) a0) (Y : SC s b Ls xs a0) (hd : decode cc pc = .ok (.arraylength, 1)) (hk : BK p l e R s m #[Value.ref b] below meth c nL D cs (fun q : Nat => s.heap.size ≤ q) 0 a0 Q (pc + 1) cells slots k) : BK p l e R s m #[Value.ref b] below meth c nL D cs (fun q : Nat => s.heap.size ≤ q) 0 a0 Q pc cells slots (o_slen Ls k) := by
  intro ad ls L st h H locs hg hl hP hD hS hB
  unfold o_slen at hB
  split at hB
  · rename_i r
    have h9 := hk ad ls L (.inl (nI Ls) :: r) h H locs hg hl hP hD hS hB
    have hb : cV ad (.inr (some (.inr []))) = .ref b := by
      show Value.ref (ad (.inr [])) = _
      rw [hg.2.2, Y.2.2]
    rw [List.map_cons, hb]
    exact va_slen X.1 X.2.1 Y.1 Y.2.1 (Nat.not_le.mpr Y.2.1) hS hd h9
  · exact hB.elim
theorem ok_lret (X : MC p s m #[Value.ref b] meth c own nm code nL ret D cs (fun q : Nat => s.heap.size ≤ q) a0) (hd : decode code pc = .ok (.ireturn, 1)) (hc : cells ≤ 600000) (hs : slots ≤ 7302250) : BK p l e room_1 s m #[Value.ref b] below meth c nL D cs (fun q : Nat => s.heap.size ≤ q) 0 a0 (lw_Z below #[Value.ref b] s) pc cells slots (o_lret) := by
  intro ad ls L st h H locs hg hl hP hD hS hB
  unfold o_lret at hB
  split at hB
  · subst hB
    refine va_forget (fun q hq => hS.2.2 q hq) ?_
    refine W.widen hc hs ?_
    exact lw_ret X.1 X.2.1 X.2.2.2.2.2.2.2.2.1 X.2.2.2.2.2.2.2.2.2.2.1 hd
  · exact hB.elim
end LAWOPS
/-- any cells at some places -/
def putF : List Nat → Nat → (Nat → PE) → PH → (PH → Prop) → Prop
  | [], _, _, h, k => k h
  | a :: r, i, f, h, k => put h a (f i) (fun h2 => putF r (i + 1) f h2 k)
theorem put_of {α : Type} : ∀ (l : List α) (i : Nat) (v : α) (k : List α → Prop), i < l.length → k (l.set i v) → put l i v k
  | [], i, v, k, h, _ => absurd h (Nat.not_lt_zero _)
  | x :: l, 0, v, k, h, hk => hk
  | x :: l, n + 1, v, k, h, hk => put_of l n v (fun l' => k (x :: l')) (by simpa using h) hk
theorem wb_any0 {ρ : List Nat} {nh : Nat} {k : PH → Prop} {f : Nat → PE} : ∀ (r : List Nat) (i : Nat) (h' h : PH), h'.length = r.length → (∀ (j : Nat) (e : PE), h'[j]? = some e → re2 ρ 0 nh e = f (i + j)) → putF r i f h k → wbK ρ 0 nh r h' h k
  | [], i, [], h, hl, hf, hk => hk
  | [], i, _ :: _, h, hl, hf, hk => by cases hl
  | _ :: _, i, [], h, hl, hf, hk => by cases hl
  | a :: r, i, e :: h', h, hl, hf, hk => by
    show reE ρ 0 nh e (fun e' => put h a e' (fun h2 => wbK ρ 0 nh r h' h2 k))
    rw [reE_eq, hf 0 e rfl]
    obtain ⟨h1, h2⟩ := put_spec _ _ _ _ hk
    refine put_of _ _ _ _ h1 ?_
    exact wb_any0 r (i + 1) h' _ (by simpa using hl) (fun j e' he => by rw [hf (j + 1) e' (by simpa using he)]; congr 1; omega) h2
theorem wb_any {ρ : List Nat} {nh : Nat} {k : PH → Prop} {h' h : PH} (hl : h'.length = ρ.length) (hk : ∀ f : Nat → PE, putF ρ 0 f h k) : wbK ρ 0 nh ρ h' h k :=
  wb_any0 (f := fun j => re2 ρ 0 nh (h'.getD j (.inl (0, 0, fun _ => 0)))) ρ 0 h' h hl (fun j e he => by rw [Nat.zero_add, List.getD_eq_getElem?_getD, he]; rfl) (hk _)
