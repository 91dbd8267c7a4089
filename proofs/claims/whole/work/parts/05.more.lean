theorem arr_one {D : va_G} {cI cZ cA : ClassId} {s : State} (h : va_K D vwCl ([(cI, .int), (cZ, .boolean)] ++ [(cA, .int)]) s) : cI = cA := by
  have h1 : va_RA s cI .int := (h.2 0 (cI, .int) rfl).2
  have h2 : va_RA s cA .int := (h.2 2 (cA, .int) rfl).2
  have e1 : s.vm.findClass ("[" ++ FieldType.int.toString) = some cI := h1
  have e2 : s.vm.findClass ("[" ++ FieldType.int.toString) = some cA := h2
  exact Option.some.inj (e1.symm.trans e2)
