/-! the history: four states, and how many of them count -/
abbrev wHi (cI cO : ClassId) (hh hs : Nat) (P : Nat → Nat → Nat) (qf : Nat → Option Nat) (k : Nat) (H0 H1 H2 H3 : Nat → Nat → Int) : va_W := [(hh, .inr (1, [.int (iI (k : Int)), .ref hs])), (hs, .inl (cO, 4, .inr (.inr (.inr (.inr qf)))))] ++ (wSt cI (P 0 0) (P 0 1) (P 0 2) (P 0 3) (P 0 4) H0 ++ (wSt cI (P 1 0) (P 1 1) (P 1 2) (P 1 3) (P 1 4) H1 ++ (wSt cI (P 2 0) (P 2 1) (P 2 2) (P 2 3) (P 2 4) H2 ++ wSt cI (P 3 0) (P 3 1) (P 3 2) (P 3 3) (P 3 4) H3)))
/-- a row of the history when one more state is recorded: a is row j, b the one behind it -/
def recR (k j : Nat) (a b r : Nat → Nat → Int) : Nat → Nat → Int := if k = 4 then b else if k = j then r else a
def recK (k : Nat) : Nat := if k = 4 then 4 else k + 1
/-- the latest state that is recorded -/
def latR (k : Nat) (H0 H1 H2 H3 : Nat → Nat → Int) : Nat → Nat → Int := if k = 1 then H0 else if k = 2 then H1 else if k = 3 then H2 else H3
section ZQ
variable {p : Program} {l : Launch} {e : Env} {R : Room} {s : State} {m : MethodId} {args : Array Value} {below : List Frame} {meth : Method} {c : Code} {H : Heap} {locs : List Loc} {cells slots : Nat} {Q : State → Prop}
variable {cc : ByteArray} {pc : Nat} {ls : Array Slot} {rest : List Value}
variable {D : va_G} {cl : List vw_C} {tys : List (ClassId × FieldType)} {ws : va_W} {a : Nat}
theorem zz_aald (hx : p.tables.exec = Jvm.exec) (hb : c.code = cc) (hK : va_K D cl tys s) (hP : va_P D cl ws H) (q0 t0 : Nat) {cA : ClassId} {C : String} {n : Nat} {f : Nat → Option Nat} (ha : ws[q0]? = some (a, .inl (cA, n, .inr (.inr (.inr (.inr f)))))) (ht : tys[t0]? = some (cA, .object C)) (hn : n < 2147483648) {z : Int} (i : Nat) (hz : z = (i : Int)) (hi : i < n) {v : Nat} (hv : f i = some v) (hdg : decode cc pc = .ok (.aaload, 1)) (kk : W p l e R s m args below meth c H locs cells slots Q (F0 m (pc + 1) ls (.ref v :: rest))) : W p l e R s m args below meth c H locs cells slots Q (F0 m pc ls (.int (iI z) :: .ref a :: rest)) := by
  obtain ⟨h1, h2⟩ := iI_at hz hi hn
  refine va_aldq hx hb hK hP q0 t0 ha ht h1 hdg ?_
  rw [h2, hv]
  exact kk
end ZQ
