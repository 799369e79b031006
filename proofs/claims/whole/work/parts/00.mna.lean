/-! the row for arrays of arrays, named first: it stands in the rest of the library -/
section
variable {p : Program} {l : Launch} {e : Env} {R : Room} {s : State} {m : MethodId} {args : Array Value} {below : List Frame} {meth : Method} {c : Code} {s1 : State} {locs : List Loc} {cells slots : Nat}
noncomputable def mnaRow := @Jvm.Stand.multianewarray2F
end
