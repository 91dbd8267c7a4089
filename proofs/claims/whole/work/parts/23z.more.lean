theorem arr_oneZ {D : va_G} {cI cZ cA : ClassId} {s : State} (h : va_K D vwCl ([(cI, .int), (cZ, .boolean)] ++ [(cA, .boolean)]) s) : cZ = cA := by
  have h1 : va_RA s cZ .boolean := (h.2 1 (cZ, .boolean) rfl).2
  have h2 : va_RA s cA .boolean := (h.2 2 (cA, .boolean) rfl).2
  have e1 : s.vm.findClass ("[" ++ FieldType.boolean.toString) = some cZ := h1
  have e2 : s.vm.findClass ("[" ++ FieldType.boolean.toString) = some cA := h2
  exact Option.some.inj (e1.symm.trans e2)
