import java.nio.charset.StandardCharsets;

/** What the tests share: telling a text, and counting answers that are not as due. */
final class Due {
    private int wrong;
    private String where = "";

    void in(String place) {
        where = place;
    }

    void is(String call, long got, long want) {
        if (got != want) {
            wrong++;
            System.out.println(where + ": " + call + " answered " + got + ", due is " + want);
        }
    }

    void is(String call, boolean got, boolean want) {
        is(call, got ? 1 : 0, want ? 1 : 0);
    }

    void is(String call, String got, String want) {
        if (!got.equals(want)) {
            wrong++;
            System.out.println(where + ": " + call + " answered\n  " + got + ", due is\n  " + want);
        }
    }

    void end() {
        System.out.println(wrong == 0 ? "all answers are as due" : wrong + " answers are not as due");
        if (wrong != 0) {
            System.exit(1);
        }
    }

    /** A bar marks the place of the FAULT. */
    void fault(int which, String marked) {
        int place = marked.indexOf('|');
        String text = marked.substring(0, place) + marked.substring(place + 1);
        SidePonds x = new SidePonds();
        String call = "of " + marked.replace('\n', ' ') + ": ";
        is(call + "text", tell(x, text), SidePonds.NONE);
        is(call + "fault(0)", x.fault(0), which);
        is(call + "fault(1)", x.fault(1), place);
    }

    /** A TEXT of so many LINES without a FAULT. */
    SidePonds fine(int lines, String text) {
        SidePonds x = new SidePonds();
        String call = "of " + text.replace('\n', ' ') + ": ";
        is(call + "text", tell(x, text), lines);
        is(call + "fault(0)", x.fault(0), 0);
        is(call + "fault(1)", x.fault(1), SidePonds.NONE);
        return x;
    }

    /** Feeds the bytes of a text, with blanks behind to make twenties: how many bytes the text has. */
    static int feed(SidePonds x, String text) {
        byte[] bytes = text.getBytes(StandardCharsets.ISO_8859_1);
        int[] words = new int[(bytes.length + 19) / 20 * 5];
        for (int i = 0; i < words.length * 4; i++) {
            int next = i < bytes.length ? bytes[i] & 255 : 32;
            words[i / 4] = words[i / 4] << 8 | next;
        }
        for (int i = 0; i < words.length; i += 5) {
            x.feed(words[i], words[i + 1], words[i + 2], words[i + 3], words[i + 4]);
        }
        return bytes.length;
    }

    /** Feeds a text and has it read. */
    static int tell(SidePonds x, String text) {
        return x.text(feed(x, text));
    }

    static SidePonds told(String text) {
        SidePonds x = new SidePonds();
        if (tell(x, text) < 0) {
            throw new IllegalArgumentException(text + " has fault " + x.fault(0) + " at " + x.fault(1));
        }
        return x;
    }

    static int letters(String name) {
        int packed = 0;
        for (int i = 0; i < 6; i++) {
            packed = packed << 5 | (i < name.length() ? name.charAt(i) - 'a' + 1 : 0);
        }
        return packed;
    }
}
