theorem RCp.door {p : Pl} {M : Mem} (h : RCp p M) : M.1 6 2 = nI (pO p) := h.2.2.1
