-- needs: 48
noncomputable section
def svH (h : AH) : AH := hFr (hIr (hI (hI h 0 0 0) 0 14 1) 2 (mapI (h.1 1) 445 (h.1 2))) 6 (mapF (h.2.1 5) 40 (h.2.1 6))
def rsH (h : AH) : AH := hI (hFr (hIr (hI h 0 0 0) 1 (mapI (h.1 2) 445 (h.1 1))) 5 (mapF (h.2.1 6) 40 (h.2.1 5))) 0 11 0
def udH (h : AH) (K : Nat) : AH := hFr (hIr (hI (hI h 0 0 0) 0 11 (nI K)) 1 (mapI (h.1 (10 + K)) 445 (h.1 1))) 5 (mapF (h.2.1 (19 + K)) 40 (h.2.1 5))
end
