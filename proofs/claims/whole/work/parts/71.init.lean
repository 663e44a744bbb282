/-! the start, by the kernel -/
theorem zstart : zchk (zruS 15 m_L_law (zevS 15 400) 10 (0, [some (.ref 0), none, none, none], [], (0, []), zh0)) = true := by decide +kernel
