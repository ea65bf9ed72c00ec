/** The edges of a STORE's text: of each sentence of the document's terms, and of promises 2 to 5. */
public final class TextEdgesTest extends Bench {
    private static final String[] KINDS = {"none", "comb", "thru", "prot", "back"};
    private static final String EIGHT = times(" none", 8);

    private static String padded(String text, int length) {
        return text + times(" ", length - text.length());
    }

    private static void lengths() {
        at("a text of at most 800 bytes");
        good(padded("span 3 4 back;", 800), 1);
        good(times(" ", 786) + "span 3 4 back;", 1);
        good(times(" ", 785) + "page 0 thru;\n\n\n", 0);
        faulty(times("\n", 787) + "span 3 4 back", 1, 800);
        faulty(times(" ", 799) + "x", 1, 799);
        at("{line}: none at all");
        good("", 0);
        good(" ", 0);
        good("\n", 0);
        good(times(" \n", 400), 0);
        at("{line}: each has its ;");
        faulty(";", 1, 0);
        faulty("space 4;;", 1, 8);
        faulty("space 4; ;", 1, 9);
        faulty("space 4 registers 3;", 1, 8);
    }

    private static void blanks() {
        at("blanks (32, 10) aside");
        good("\n span \n\n 0  5\nnone\n ; \n", 1);
        for (int sign : new int[] {0, 1, 9, 11, 12, 13, 31, 33, 127, 128, 138, 160, 255}) {
            faulty((char) sign + "space 4;", 1, 0);
            faulty("space" + (char) sign + "4;", 1, 5);
            faulty("space 4" + (char) sign + ";", 1, 7);
            faulty("space 4;" + (char) sign, 1, 8);
        }
    }

    private static void tokens() {
        at("each as long as can be");
        faulty("defaultback;", 1, 0);
        good("space10;registers10;default back;span0 1023thru;reg0 1comb;page63none;fixed3none" + EIGHT.substring(5) + ";", 1);
        faulty("spacespace 4;", 1, 0);
        faulty("space 4;span 0 1 noneback;", 1, 17);
        faulty("space 1 0;", 2, 6);
        faulty("spa ce 4;", 1, 0);
        faulty("span 0 11 no ne;", 1, 10);
        at("words (a .. z)");
        for (char sign : new char[] {'`', '{', 'A', 'Z', '@', '[', '_', '-'}) {
            faulty(sign + "span 0 1 none;", 1, 0);
            faulty("span" + sign + " 0 1 none;", 1, 4);
            faulty("sp" + sign + "an 0 1 none;", 1, 0);
        }
        faulty("SPAN 0 1 none;", 1, 0);
        faulty("span 0 1 None;", 1, 9);
        at("numbers (digits)");
        for (char sign : new char[] {'/', ':', '-', '+', '.', ','}) {
            faulty("span " + sign + "1 1 none;", 1, 5);
            faulty("span 1" + sign + " 1 none;", 1, 6);
        }
        at("the sign ;");
        for (char sign : new char[] {':', '<', ',', '.'}) {
            faulty("space 4" + sign, 1, 7);
        }
    }

    /** Words that are a word of the document but for their ends. */
    private static void words() {
        at("space | registers | default | fixed | span | reg | page");
        String[] tails = {"space 4;", "registers 3;", "default back;", "fixed 3" + EIGHT + ";", "span 0 1 none;",
            "reg 0 1 none;", "page 0 none;"};
        for (String tail : tails) {
            String word = tail.substring(0, tail.indexOf(' '));
            String rest = tail.substring(word.length());
            good(tail, word.equals("span") ? 1 : 0);
            faulty(word.substring(0, word.length() - 1) + rest, 1, 0);
            faulty(word.substring(1) + rest, 1, 0);
            faulty(word + "a" + rest, 1, 0);
            faulty("z" + word + rest, 1, 0);
            faulty("y" + word.substring(1) + rest, 1, 0);
            faulty(word.substring(0, word.length() - 1) + "y" + rest, 1, 0);
        }
        at("kind = none | comb | thru | prot | back");
        for (int i = 0; i < 5; i++) {
            SpanKinds x = of("default " + KINDS[i] + ";span 0 1 " + KINDS[i] + ";reg 0 4 " + KINDS[i] + ";page 2 " + KINDS[i]
                + ";fixed 3" + times(" " + KINDS[i], 8) + ";");
            due("default", x.about(3), i);
            due("span", x.told(0, 2), i);
            due("reg", x.register(0, 2), i);
            due("page", x.paged(2), i);
            due("fixed", x.part(7), i);
            faulty("default " + KINDS[i].substring(1) + ";", 1, 8);
            faulty("default " + KINDS[i].substring(0, 3) + ";", 1, 8);
            faulty("default " + KINDS[i] + "s;", 1, 8);
            faulty("default " + KINDS[i].substring(0, 3) + "z;", 1, 8);
            faulty("default a" + KINDS[i].substring(1) + ";", 1, 8);
        }
        faulty("default page;", 1, 8);
        faulty("default 0;", 1, 8);
    }

    /** A number of a text at its least and its greatest, and one beyond, and far beyond. */
    private static void number(String ahead, int least, int greatest, String behind) {
        int place = ahead.length();
        int spans = ahead.contains("span") ? 1 : 0;
        good(ahead + least + behind, spans);
        good(ahead + greatest + behind, spans);
        good(ahead + times("0", 40) + greatest + behind, spans);
        if (least > 0) {
            faulty(ahead + (least - 1) + behind, 2, place);
            faulty(ahead + 0 + behind, 2, place);
        }
        String[] far = {"" + (greatest + 1), "999999", "1000000", "1000001", "2147483647", "2147483648",
            "" + (4294967296L + greatest), "1844674407370955161" + (6 + least % 4), times("9", 300)};
        for (String text : far) {
            faulty(ahead + text + behind, 2, place);
        }
        faulty(ahead + "-1" + behind, 1, place);
        faulty(ahead + "none" + behind, 1, place);
        faulty(ahead + ";" + behind, 1, place);
        faulty(ahead, 1, place);
    }

    private static void numbers() {
        at("space (4 .. 10)");
        number("space ", 4, 10, ";");
        at("registers (1 .. 10)");
        number("registers ", 1, 10, ";");
        at("fixed N (3 .. space)");
        number("fixed ", 3, 8, EIGHT + ";");
        number("space 4;fixed ", 3, 4, EIGHT + ";");
        number("space 10;fixed ", 3, 10, EIGHT + ";");
        at("from, to (both within SPACE, from no more than to)");
        number("span ", 0, 255, " 255 none;");
        number("span 0 ", 0, 255, " none;");
        number("span 7 ", 7, 255, " none;");
        number("space 4;span 15 ", 15, 15, " none;");
        number("space 10;span 0 ", 0, 1023, " none;");
        faulty("span 255 254 none;", 2, 9);
        at("size a power of two, up to all of SPACE");
        for (int space = 4; space <= 10; space++) {
            String ahead = "space " + space + ";reg 0 ";
            for (int power = 0; power <= space; power++) {
                good(ahead + (1 << power) + " none;", 0);
                if (power >= 2) {
                    faulty(ahead + ((1 << power) - 1) + " none;", 2, ahead.length());
                    faulty(ahead + ((1 << power) + 1) + " none;", 2, ahead.length());
                }
            }
            faulty(ahead + "0 none;", 2, ahead.length());
            faulty(ahead + (2 << space) + " none;", 2, ahead.length());
        }
        at("base a multiple of it within SPACE");
        number("reg ", 0, 255, " 1 none;");
        number("space 10;reg ", 0, 1023, " 1 none;");
        good("reg 248 8 none;reg 128 128 none;reg 254 2 none;", 0);
        faulty("reg 252 8 none;", 2, 8);
        faulty("reg 1 2 none;", 2, 6);
        faulty("reg 128 256 none;", 2, 8);
        faulty("reg 256 256 none;", 2, 4);
        at("a PAGE (of 16 ADDRESSES each, from 0 on)");
        number("page ", 0, 15, " none;");
        number("space 4;page ", 0, 0, " none;");
        number("space 10;page ", 0, 63, " none;");
    }

    private static void notTold() {
        at("8 if not told; DEFAULT none; without fixed nothing is");
        SpanKinds x = of("registers 3;default comb;");
        due("space", x.about(0), 256);
        x = of("space 4;default comb;");
        due("registers", x.about(1), 8);
        due("all EMPTY at first", x.about(2), 0);
        x = of("space 4;registers 3;");
        due("default", x.about(3), 0);
        due("fixed", x.about(5), 0);
        due("part", x.part(0), -1);
        due("pages without a kind of their own", x.paged(0), 5);
        write(x, "fixed 4" + EIGHT + ";reg 0 1 none;page 0 none;span 0 0 none;default none;");
        due("a fault leaves all", x.store() * 100 + x.about(5) * 10 + x.about(2), -100);
        write(x, "fixed 4" + EIGHT + ";reg 0 1 none;page 0 none;span 0 0 none;");
        due("store", x.store(), 1);
        write(x, "space 9;");
        due("store", x.store(), 0);
        due("fixed, registers and pages of the store ahead are gone", x.about(5) + x.about(2) + x.about(11), 0);
        due("parts, too", x.part(0), -1);
    }

    private static void once() {
        at("each once");
        String[] heads = {"space 8;", "registers 8;", "default none;"};
        for (String head : heads) {
            faulty(head + head, 3, head.length());
            for (String other : heads) {
                if (!head.equals(other)) {
                    faulty(head + other + head, 3, head.length() + other.length());
                }
            }
        }
        good("default none;registers 8;space 8;", 0);
        good("registers 8;space 8;default none;", 0);
        at("ahead of all lines but these");
        String[] lines = {"fixed 3" + EIGHT + ";", "span 0 0 none;", "reg 0 1 none;", "page 0 none;"};
        for (String line : lines) {
            for (String head : heads) {
                faulty(line + head, 3, line.length());
                faulty(head + line + head, 3, head.length() + line.length());
                faulty(line + head.substring(0, head.indexOf(' ')), 3, line.length());
            }
        }
        at("fixed, once");
        faulty(lines[0] + lines[0], 3, lines[0].length());
        faulty(lines[0] + lines[1] + lines[2] + "fixed", 3, lines[0].length() + lines[1].length() + lines[2].length());
        good(lines[1] + lines[2] + lines[3] + lines[0], 1);
        at("a PAGE: at its number");
        for (String kind : KINDS) {
            faulty("page 5 " + kind + ";page 4 none;page 5 none;", 3, 29);
        }
        faulty("page 5 none;page 005", 3, 17);
        at("a block that a REGISTER has: at its size");
        faulty("reg 16 16 none;reg 16 16", 3, 22);
        faulty("reg 16 16 none;reg 0 8 none;reg 16 16 back;", 3, 35);
        good("reg 16 16 none;reg 16 8 none;reg 0 16 none;reg 0 32 none;", 0);
        good("span 0 1 none;span 0 1 none;", 2);
    }

    private static void tooMany() {
        at("span (12 at most)");
        String twelve = times("span 0 0 none;", 12);
        good(twelve, 12);
        good(twelve + "reg 0 1 none;page 0 none;", 12);
        faulty(twelve + "span 0 0 none;", 4, twelve.length());
        faulty(twelve + " \nspan", 4, twelve.length() + 2);
        faulty(twelve + "spans", 1, twelve.length());
        at("a reg: at that word");
        for (int n = 1; n <= 10; n++) {
            StringBuilder text = new StringBuilder("registers " + n + ";");
            for (int i = 0; i < n; i++) {
                text.append("reg ").append(i).append(" 1 none;");
            }
            good(text.toString(), 0);
            faulty(text + "reg 16 16 none;", 4, text.length());
            faulty(text + "reg", 4, text.length());
        }
        StringBuilder eight = new StringBuilder();
        for (int i = 0; i < 8; i++) {
            eight.append("reg ").append(i).append(" 1 none;");
        }
        good(eight.toString(), 0);
        faulty(eight + "reg 0 1 none;", 4, eight.length());
    }

    private static void kindsOfFixed() {
        at("a ninth KIND of fixed; too few: at the ;");
        for (int n = 1; n <= 10; n++) {
            String text = "fixed 3" + times(" comb", n);
            if (n < 8) {
                faulty(text + ";", 4, text.length());
                faulty(text + " ;", 4, text.length() + 1);
            } else if (n == 8) {
                good(text + ";", 0);
            } else {
                faulty(text + ";", 4, 48);
            }
            faulty(text, n > 8 ? 4 : 1, n > 8 ? 48 : text.length());
            faulty(text + " 5;", n > 8 ? 4 : 1, n > 8 ? 48 : text.length() + 1);
            faulty(text + " span;", n > 8 ? 4 : 1, n > 8 ? 48 : text.length() + 1);
        }
        at("of one place the least");
        faulty("fixed 3;", 1, 7);
        faulty("fixed 3 ;", 1, 8);
    }

    private static void places() {
        at("the first by its place");
        faulty("space 3;oh", 2, 6);
        faulty("oh space 3;", 1, 0);
        faulty("space 4;space 3;", 3, 8);
        faulty("space 4;span 16 3 none;", 2, 13);
        faulty("span 5 4 oh;", 2, 7);
        faulty("span 5 oh 4;", 1, 7);
        faulty("reg 256 3 oh;", 2, 4);
        faulty("reg 0 1 none;reg 0 1 oh;", 3, 19);
        faulty("page 16 oh;", 2, 5);
        faulty("page 0 oh;page 0 none;", 1, 7);
        at("the end's, the text's length");
        String[] lines = {"space 4 ;", "registers 4 ;", "default back ;", "fixed 3" + EIGHT + " ;", "span 0 1 none ;",
            "reg 0 1 none ;", "page 0 none ;"};
        for (String line : lines) {
            for (int i = line.indexOf(' '); i < line.length(); i++) {
                if (line.charAt(i) == ' ') {
                    faulty(line.substring(0, i), 1, i);
                    faulty(line.substring(0, i) + " \n ", 1, i + 3);
                }
            }
        }
    }

    private static void tape() {
        at("promise 2: NONE, and nothing comes, if there would be more than 800");
        SpanKinds x = new SpanKinds();
        int blank = 0x20202020;
        for (int i = 1; i <= 39; i++) {
            x.feed(blank, blank, blank, blank, blank);
        }
        due("to 800", x.feed(blank, blank, blank, blank, blank), 800);
        due("one more", x.feed(0, 0, 0, 0, 0), -1);
        due("nothing comes", x.about(9), 800);
        due("no zeros there", x.store(), 0);
        for (int n = 780; n <= 800; n++) {
            x = new SpanKinds();
            write(x, times(" ", 800));
            x.end(n);
            due("at " + n, x.feed(0, 0, 0, 0, 0), n == 780 ? 800 : -1);
            due("bytes", x.about(9), n == 780 ? 800 : n);
        }
        at("promise 2: of each number the highest first");
        x = new SpanKinds();
        x.feed(0x7370616e, 0x20322032, 0x30302062, 0x61636b3b, 0x80ff7f01);
        due("end", x.end(17), 17);
        due("store", x.store() * 10 + x.fault(0), -9);
        due("place", x.fault(1), 16);
        x.feed(0x7370616e, 0x20322032, 0x30302062, 0x61636b3b, 0x80ff7f01);
        due("end", x.end(16), 16);
        due("store", x.store(), 1);
        due("span", x.told(0, 0) * 10000 + x.told(0, 1) * 10 + x.told(0, 2), 22004);
        at("promise 2: bytes of a number below 0");
        for (int shift = 0; shift < 32; shift += 8) {
            x.end(0);
            x.feed(0x20202020 & ~(255 << shift) | 255 << shift, blank, blank, blank, blank);
            due("store", x.store(), -1);
            due("place", x.fault(1), 3 - shift / 8);
        }
    }

    private static void ends() {
        at("promise 3: NONE, if it has not so many, or n is below 0");
        for (int n : new int[] {-1, -2, Integer.MIN_VALUE, 21, 22, 800, 801, Integer.MAX_VALUE}) {
            leaves("end(" + n + ")", x -> x.end(n), -1);
        }
        leaves("end of all", x -> x.end(20), 20);
        SpanKinds x = new SpanKinds();
        due("none on it", x.end(1), -1);
        due("none on it", x.end(0), 0);
        write(x, "span 0 5 none;spa");
        due("end", x.end(14), 14);
        due("what was behind is gone", x.end(15), -1);
        due("store", x.store(), 1);
        due("the tape is empty", x.end(1), -1);
        at("promise 3: its first n bytes alone");
        String[] texts = {"space 44;", "span 0 1 nonesuch;", "space 4;registers 10;", "span  0 1 none;"};
        int[] ends = {7, 13, 20, 4};
        for (int i = 0; i < texts.length; i++) {
            write(x, texts[i]);
            x.end(ends[i]);
            due("store of the first " + ends[i], x.store(), -1);
            due("the end is the FAULT", x.fault(0) * 100 + x.fault(1), 100 + ends[i]);
        }
        at("promise 3: all 800 of them");
        faulty(times(" ", 793) + "space 4", 1, 800);
        faulty(times(" ", 788) + "default back", 1, 800);
        faulty(times(" ", 794) + "spacex", 1, 794);
    }

    private static void stores() {
        at("promise 4: NONE, and all stays: a FAULT");
        SpanKinds x = rich();
        SpanKinds twin = rich();
        write(x, "space 4;registers 1;default comb;fixed 3" + EIGHT + ";span 0 0 none;reg 0 1 none;page 0 none; oh");
        write(twin, "");
        due("store", x.store(), -1);
        due("a fault", x.fault(0), 1);
        due("its place", x.fault(1), 121);
        due("all stays", allOf(x).replace("fault 1 121", "fault 0 -1"), allOf(twin));
        at("promise 4: no ACTS are kept; BOXES are empty; the TAPE, too");
        x = rich();
        x.image(0);
        due("acts", x.about(7) * 10 + x.about(8), 21);
        due("store of what is on the tape", x.store(), 1);
        due("acts", x.about(7) * 10 + x.about(8), 0);
        due("undo", x.undo() || x.redo(), false);
        due("boxes", x.differs(0, 0) + x.differs(1, 0) + x.back(0) + x.back(1), -4);
        due("tape", x.about(9), 0);
        due("the new store", seenOf(x), seenOf(of("span 0 9 comb;")));
        at("promise 5: of the latest store()");
        write(x, "space 11;");
        x.store();
        due("fault", x.fault(0) * 10 + x.fault(1), 26);
        x.span(0, 1, 1);
        x.image(0);
        x.undo();
        x.back(0);
        due("till the next", x.fault(0) * 10 + x.fault(1), 26);
        x.store();
        due("without", x.fault(0) * 10 + x.fault(1), -1);
    }

    public static void main(String[] args) {
        lengths();
        blanks();
        tokens();
        words();
        numbers();
        notTold();
        once();
        tooMany();
        kindsOfFixed();
        places();
        tape();
        ends();
        stores();
        finish();
    }
}
