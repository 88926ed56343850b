import java.nio.charset.StandardCharsets;

/** What the tests share: telling a text, and counting answers that are not as due. */
final class Due {
    private int wrong;
    private String where = "";

    void in(String place) {
        where = place;
    }

    void is(String call, long got, long want) {
        if (got != want) {
            wrong++;
            System.out.println(where + ": " + call + " answered " + got + ", due is " + want);
        }
    }

    void is(String call, boolean got, boolean want) {
        is(call, got ? 1 : 0, want ? 1 : 0);
    }

    void end() {
        System.out.println(wrong == 0 ? "all answers are as due" : wrong + " answers are not as due");
        if (wrong != 0) {
            System.exit(1);
        }
    }

    /** Feeds the bytes of a text, with blanks behind to make twenties, and has its own length read. */
    static int tell(SidePonds x, String text) {
        byte[] bytes = text.getBytes(StandardCharsets.ISO_8859_1);
        int[] words = new int[(bytes.length + 19) / 20 * 5];
        for (int i = 0; i < words.length * 4; i++) {
            int next = i < bytes.length ? bytes[i] & 255 : 32;
            words[i / 4] = words[i / 4] << 8 | next;
        }
        for (int i = 0; i < words.length; i += 5) {
            x.feed(words[i], words[i + 1], words[i + 2], words[i + 3], words[i + 4]);
        }
        return x.text(bytes.length);
    }

    static SidePonds told(String text) {
        SidePonds x = new SidePonds();
        if (tell(x, text) < 0) {
            throw new IllegalArgumentException(text + " has fault " + x.fault(0) + " at " + x.fault(1));
        }
        return x;
    }

    static int letters(String name) {
        int packed = 0;
        for (int i = 0; i < 6; i++) {
            packed = packed << 5 | (i < name.length() ? name.charAt(i) - 'a' + 1 : 0);
        }
        return packed;
    }
}
