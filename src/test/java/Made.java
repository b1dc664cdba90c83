/** Objects in known states, in which each part of the state can be told from a part just made. */
final class Made {
    private Made() {
    }

    /** 3 by 2: nothing was called yet. */
    static Counted fresh() {
        return new Counted(3, 2);
    }

    /**
     * 3 by 2. The picture is no longer the one of the tile that was opened, the buffer is another tile
     * with a byte behind it, and a seam found now would be another one.
     */
    static Counted used() {
        Counted p = new Counted(3, 2);
        for (int k = 0; k < 6; k++) {
            p.put(k % 3, k / 3, 10 * k + 10);
        }
        for (int k = 0; k < 16; k++) {
            p.strip(k % 8, k / 8, 100 + k);
        }
        p.pack(0, 0, 0);
        p.open();
        p.seam(3);
        p.put(0, 0, 100);
        p.put(0, 1, 108);
        p.pack(1, 0, 0);
        p.load(7);
        return p;
    }

    /** As used, but the buffer has all its 256 bytes. */
    static Counted full() {
        Counted p = used();
        p.clear();
        for (int k = 0; k < 256; k++) {
            p.load(255 - k);
        }
        return p;
    }

    /** As used, but the buffer is a packed tile that was not opened. */
    static Counted packed() {
        Counted p = used();
        p.pack(0, 0, 0);
        return p;
    }

    /** 40 by 40, the greatest, with a tile opened, a seam found, and a buffer. */
    static Counted great() {
        Counted p = new Counted(40, 40);
        for (int k = 0; k < 40; k++) {
            p.change(k, 0, 1, 40, 3 * k);
            p.put(k, k, 200 + k);
        }
        p.strip(7, 39, 130);
        p.pack(0, 2, 2);
        p.open();
        p.seam(8);
        p.change(39, 0, 1, 20, 0);
        return p;
    }

    /** 9 by 17: the tiles at its ends have one column or one row; no tile was opened. */
    static Counted ended() {
        Counted p = new Counted(9, 17);
        p.change(0, 0, 9, 17, 5);
        p.put(8, 16, 77);
        p.pack(0, 1, 2);
        return p;
    }

    /** 1 by 1, the least, with a tile opened and a seam found. */
    static Counted least() {
        Counted p = new Counted(1, 1);
        p.put(0, 0, 9);
        p.strip(0, 0, 4);
        p.pack(0, 0, 0);
        p.open();
        p.seam(1);
        p.put(0, 0, 8);
        return p;
    }
}
