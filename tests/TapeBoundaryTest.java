/**
 * Each sentence about rows and scripts (Terms 3., promises 25 to 29): the last case that the document
 * allows, and the first one beyond it.
 */
public final class TapeBoundaryTest extends Links {
    private static final int MIN = Integer.MIN_VALUE;
    private static final int MAX = Integer.MAX_VALUE;
    private static final int MISPLACED = 1;
    private static final int NUMBER = 2;
    private static final int TOO_DEEP = 3;
    private static final long BLANKS = 0x2020202020202020L;

    private TapeBoundaryTest() {
    }

    public static void main(String[] args) {
        rows();
        struck();
        tape();
        lengths();
        steps();
        agains();
        clears();
        numbers();
        words();
        blanks();
        ends();
        depth();
        done();
        Due.close("TapeBoundaryTest");
    }

    /** The SENDER WENT ON from a message of this VALUE. */
    private static void finish(HealLink x, int value) {
        x.sender(0, value, 0, true);
        x.letters(0, 1);
        x.act(2, 0, 0);
    }

    private static void deliver(HealLink x, int value) {
        x.last(1);
        x.packets(0, value, 1);
        x.act(1, 0, value);
        x.letters(0, 0);
    }

    private static HealLink rowsOf(String finished, String delivered) {
        HealLink x = link(1, 2, 1, 1);
        for (int i = 0; i < finished.length(); i++) {
            finish(x, finished.charAt(i) - '0');
        }
        for (int i = 0; i < delivered.length(); i++) {
            deliver(x, delivered.charAt(i) - '0');
        }
        return x;
    }

    // Promise 26
    private static void rows() {
        Due.sentence("row(): what 0: FINISHED, 1: what was DELIVERED; NONE: others", () -> {
            HealLink x = rowsOf("01", "110");
            Due.is("row(0, NONE)", x.row(0, NONE), 2);
            Due.is("row(1, NONE)", x.row(1, NONE), 3);
            for (int what : new int[] {-1, 2, MIN, MAX}) {
                for (int i = NONE; i < 3; i++) {
                    Due.is("row(" + what + ", " + i + ")", x.row(what, i), NONE);
                }
            }
        });
        Due.sentence("row(): the i-th (0: the eldest), how many (i NONE); NONE: none such", () -> {
            for (int many : new int[] {0, 1, 2, 39, 40}) {
                String values = "0110100110010110100101100110100110010110".substring(0, many);
                HealLink x = rowsOf(values, values);
                for (int what = 0; what < 2; what++) {
                    Due.is("row(" + what + ", NONE)", x.row(what, NONE), many);
                    for (int i = 0; i < many; i++) {
                        Due.is("row(" + what + ", " + i + ")", x.row(what, i), values.charAt(i) - '0');
                    }
                    for (int i : new int[] {-2, many, many + 1, 63, 64, MIN, MAX}) {
                        Due.is("row(" + what + ", " + i + ") of " + many, x.row(what, i), NONE);
                    }
                }
            }
        });
        Due.sentence("since set(), the latest 40 each", () -> {
            HealLink x = rowsOf("1" + "0".repeat(39), "01" + "0".repeat(38));
            Due.is("forty: row(0, 0)", x.row(0, 0), 1);
            Due.is("row(1, 1)", x.row(1, 1), 1);
            finish(x, 1);
            deliver(x, 1);
            for (int what = 0; what < 2; what++) {
                Due.is("one more: row(" + what + ", NONE)", x.row(what, NONE), 40);
                Due.is("row(" + what + ", 0)", x.row(what, 0), what);
                Due.is("row(" + what + ", 1)", x.row(what, 1), 0);
                Due.is("row(" + what + ", 39)", x.row(what, 39), 1);
                Due.is("row(" + what + ", 40)", x.row(what, 40), NONE);
            }
            Due.is("all are counted", x.count(5), 41);
            for (int i = 0; i < 90; i++) {
                finish(x, i % 2);
            }
            Due.is("many more: row(0, 0)", x.row(0, 0), 0);
            Due.is("row(0, 39)", x.row(0, 39), 1);
            Due.is("the other row stays: row(1, 39)", x.row(1, 39), 1);
        });
        Due.sentence("FINISHED: SKIPPED ones, too; DELIVERED: GHOSTS and DOUBLED, too", () -> {
            HealLink x = link(1, 2, 1, 1);
            x.sender(1, 1, 0, false);
            x.letters(1, 1);
            Due.is("SKIPPED", x.act(2, 1, 0), 5);
            Due.is("row(0, 0)", x.row(0, 0), 1);
            deliver(x, 1);
            x.sender(0, 0, 0, true);
            deliver(x, 0);
            Due.is("counted", counted(x), "3 0 1 1 1 1 0 0 | 1 | 1 0 ");
        });
    }

    // Promise 25
    private static void struck() {
        Due.sentence("STRUCK: of empty rows, and of one alone", () -> {
            Due.is("struck()", new HealLink().struck(), 0);
            Due.is("struck()", rowsOf("0", "").struck(), 1);
            Due.is("struck()", rowsOf("", "1").struck(), 1);
            Due.is("struck()", rowsOf("0110", "").struck(), 4);
        });
        Due.sentence("STRUCK: so that the rows are alike", () -> {
            Due.is("struck()", rowsOf("0", "0").struck(), 0);
            Due.is("struck()", rowsOf("0", "1").struck(), 2);
            Due.is("struck()", rowsOf("01", "10").struck(), 2);
            Due.is("struck()", rowsOf("01", "1").struck(), 1);
            Due.is("struck()", rowsOf("10", "1").struck(), 1);
            Due.is("struck()", rowsOf("0101", "1010").struck(), 2);
            Due.is("struck()", rowsOf("10110", "0100").struck(), 3);
            Due.is("struck()", rowsOf("0011", "1100").struck(), 4);
        });
        Due.sentence("STRUCK: asked again as the rows grow", () -> {
            HealLink x = link(1, 2, 1, 1);
            int[] due = {1, 0, 1, 0, 1, 2};
            for (int i = 0; i < 6; i++) {
                if (i % 2 == 0 || i == 5) {
                    finish(x, i / 2 % 2);
                } else {
                    deliver(x, i / 2 % 2);
                }
                Due.is("struck()", x.struck(), due[i]);
                Due.is("struck() again", x.struck(), due[i]);
            }
            x.set(0, 1);
            Due.is("struck() behind set()", x.struck(), 0);
            deliver(x, 1);
            Due.is("struck() behind set()", x.struck(), 1);
        });
        Due.sentence("STRUCK: of two full rows none, or all of both", () -> {
            String zeros = "0".repeat(40);
            String ones = "1".repeat(40);
            Due.is("struck()", rowsOf(zeros, zeros).struck(), 0);
            Due.is("struck()", rowsOf(zeros, ones).struck(), 80);
            Due.is("struck() of the latest 40", rowsOf(ones + zeros, zeros).struck(), 0);
            Due.is("struck()", rowsOf("1" + zeros.substring(1), zeros.substring(1) + "1").struck(), 2);
        });
    }

    // Promises 27 and 28
    private static void tape() {
        Due.sentence("feed(): 24 bytes, of each the highest first", () -> {
            HealLink x = link(1, 2, 1, 1);
            // "send;" at the very first and "clear 1;" at the very last bytes.
            x.feed(0x73656E643B202020L, BLANKS, 0x636C65617220313BL);
            Due.is("of(12)", x.of(12), 24);
            Due.is("script()", x.script(), 2);
            for (int at = 0; at < 24; at++) {
                HealLink y = new HealLink();
                long[] words = {BLANKS, BLANKS, BLANKS};
                words[at / 8] += 1L << 8 * (7 - at % 8);
                y.feed(words[0], words[1], words[2]);
                Due.is("script(), a sign at " + at, y.script(), -2 - (8 * at + MISPLACED));
            }
        });
        Due.sentence("feed(): come behind the TAPE; NONE, and none come, if it would have more than 264", () -> {
            HealLink x = new HealLink();
            for (int n = 24; n <= 264; n += 24) {
                Due.is("feed()", x.feed(BLANKS, BLANKS, BLANKS), n);
            }
            refused("feed() behind 264", x, () -> x.feed(0, 0, 0));
            x.end(241);
            refused("feed() behind 241", x, () -> x.feed(0, 0, 0));
            x.end(240);
            Due.is("feed() behind 240", x.feed(BLANKS, BLANKS, BLANKS), 264);
            x.end(240);
            Due.is("what was refused is not there: script()", x.script(), 0);
            Due.is("behind it the TAPE is empty: feed()", x.feed(BLANKS, BLANKS, BLANKS), 24);
        });
        Due.sentence("end(): its first n bytes alone; NONE: it has not so many, n is below 0", () -> {
            HealLink x = new HealLink();
            Due.is("end(0) of none", x.end(0), 0);
            refused("end(1) of none", x, () -> x.end(1));
            feed(x, " ".repeat(264));
            for (int n : new int[] {264, 263, 241, 240, 24, 1, 0}) {
                for (int wrong : new int[] {n + 1, -1, MIN, MAX}) {
                    Due.is("end(" + n + ")", x.end(n), n);
                    Due.is("of(12)", x.of(12), n);
                    refused("end(" + wrong + ") of " + n, x, () -> x.end(wrong));
                }
            }
        });
        Due.sentence("end(): bytes beyond the end are no more", () -> {
            HealLink x = link(1, 2, 1, 1);
            x.feed(0x73656E643B73656EL, 0x643B2020207A7A7AL, BLANKS);
            x.end(11);
            Due.is("script()", x.script(), 2);
            x.feed(0x73656E643B737373L, BLANKS, BLANKS);
            x.end(5);
            x.feed(0x73656E643B202020L, BLANKS, BLANKS);
            Due.is("of(12)", x.of(12), 29);
            Due.is("script()", x.script(), 2);
        });
    }

    private static String padded(String text, int bytes) {
        return " ".repeat(bytes - text.length()) + text;
    }

    // Promise 29
    private static void lengths() {
        Due.sentence("A SCRIPT is a text of at most 240 bytes; NONE: more", () -> {
            HealLink x = link(1, 2, 1, 1);
            Due.is("script() of 240", script(x, padded("send;", 240)), 1);
            Due.is("script() of 241", script(x, padded("send;", 241)), NONE);
            Due.is("script() of 264", script(x, padded("send;", 264)), NONE);
            Due.is("script() of 241 with a FAULT", script(x, "x" + " ".repeat(240)), NONE);
            Due.is("count(0)", x.count(0), 1);
            Due.is("48 steps in 240 bytes", script(x, "send;".repeat(48)), 48);
        });
        Due.sentence("script(): none, or blanks alone, are a SCRIPT", () -> {
            HealLink x = new HealLink();
            Due.is("script() of 0", x.script(), 0);
            Due.is("script() of 1", script(x, " "), 0);
            Due.is("script() of 240", script(x, " ".repeat(240)), 0);
            Due.is("count(0)", x.count(0), 0);
        });
        Due.sentence("script(): The TAPE is empty then: done, FAULT or too long", () -> {
            HealLink x = link(1, 2, 1, 1);
            script(x, "send;");
            Due.is("of(12)", x.of(12), 0);
            Due.is("script() again", x.script(), 0);
            script(x, "send");
            Due.is("of(12)", x.of(12), 0);
            script(x, padded("send;", 241));
            Due.is("of(12)", x.of(12), 0);
            Due.is("script() again", x.script(), 0);
            Due.is("count(0)", x.count(0), 1);
        });
    }

    /** A SCRIPT of the first fault at this place: nothing of it is done. */
    private static void fault(HealLink x, String text, int place, int kind) {
        feed(x, text);
        String before = told(x) + counted(x);
        Due.is("script of '" + text + "'", x.script(), -2 - (8 * place + kind));
        Due.is("all behind '" + text + "'", told(x) + counted(x), before);
        Due.is("of(12)", x.of(12), 0);
    }

    private static void fault(String text, int place, int kind) {
        fault(new HealLink(), text, place, kind);
    }

    private static void does(String text, int acts) {
        HealLink x = link(2, 3, 3, 3);
        x.packets(2, 1, 1);
        x.letters(2, 2);
        Due.is("script of '" + text + "'", script(x, text), acts);
        Due.is("count(0)", x.count(0), acts);
    }

    private static void steps() {
        Due.sentence("STEP: send | arrive LABEL VALUE | come LABEL | lose LABEL VALUE | drop LABEL", () -> {
            HealLink x = link(2, 3, 3, 3);
            x.last(1);
            x.packets(2, 1, 1);
            Due.is("script()", script(x, "send;arrive 2 1;come 2;send;lose 0 0;arrive 0 0;drop 0;"), 7);
            Due.is("counted", counted(x), "7 0 0 0 0 0 1 1 | | ");
            Due.is("kind(2, 1, 0)", kindOf(x, 2, 1, 0), 1);
            Due.is("kind(0, 0, 0)", kindOf(x, 0, 0, 0), 1);
        });
        Due.sentence("{ STEP ; }: each STEP has its ;", () -> {
            fault("send", 4, MISPLACED);
            fault("send;send", 9, MISPLACED);
            fault("send send;", 5, MISPLACED);
            fault(";", 0, MISPLACED);
            fault("send;;", 5, MISPLACED);
            fault("again 1[send];", 12, MISPLACED);
            fault("again 1[send;]", 14, MISPLACED);
            fault("again 1[;];", 8, MISPLACED);
        });
        Due.sentence("STEP: as many LABELS, VALUES and NUMBERS as it has", () -> {
            fault("send 0;", 5, MISPLACED);
            fault("arrive;", 6, MISPLACED);
            fault("arrive 0;", 8, MISPLACED);
            fault("arrive 0 0 0;", 11, MISPLACED);
            fault("come;", 4, MISPLACED);
            fault("come 0 0;", 7, MISPLACED);
            fault("lose 0;", 6, MISPLACED);
            fault("lose 0 0 0;", 9, MISPLACED);
            fault("drop;", 4, MISPLACED);
            fault("drop 0 0;", 7, MISPLACED);
            fault("clear;", 5, MISPLACED);
            fault("clear 1 1;", 8, MISPLACED);
            fault("again [send;];", 6, MISPLACED);
            fault("again 1 1[send;];", 8, MISPLACED);
        });
    }

    private static void agains() {
        Due.sentence("again NUMBER [ { STEP ; } ] (0 to 30 times)", () -> {
            does("again 0[send;];", 0);
            does("again 1[send;];", 1);
            does("again 2[send;];", 2);
            does("again 29[send;];", 29);
            does("again 30[send;];", 30);
            fault("again 31[send;];", 6, NUMBER);
            fault("again 99[send;];", 6, NUMBER);
            does("again 0[];again 30[];", 0);
            does("again 30[send;send;];send;", 61);
        });
        Due.sentence("again 0: what stands in it is not done, but read", () -> {
            does("again 0[again 30[send;];lose 0 0;];send;", 1);
            fault("again 0[sent;];", 8, MISPLACED);
            fault("again 0[come 3;];", 13, NUMBER);
        });
        Due.sentence("again: its [ and ] and ;", () -> {
            fault("again 1", 7, MISPLACED);
            fault("again 1;", 7, MISPLACED);
            fault("again 1 send;", 8, MISPLACED);
            fault("again 1]", 7, MISPLACED);
            fault("again 1[", 8, MISPLACED);
            fault("again 1[send;", 13, MISPLACED);
            fault("again 1[send;];]", 15, MISPLACED);
            fault("];", 0, MISPLACED);
            fault("[", 0, MISPLACED);
            fault("send;[send;];", 5, MISPLACED);
        });
        Due.sentence("again: one in the other, one behind the other", () -> {
            does("again 2[again 3[send;];send;];send;", 9);
            does("again 2[send;again 0[send;];];", 2);
            does("again 2[again 0[send;];send;];", 2);
            does("again 3[again 0[send;];again 0[];send;again 0[send;send;];];send;", 4);
            does("again 3[again 1[again 2[];];send;];", 3);
            does("again 5[again 4[send;];again 3[send;];];", 35);
        });
    }

    private static void clears() {
        Due.sentence("clear NUMBER (1 to 9)", () -> {
            fault("clear 0;", 6, NUMBER);
            does("clear 1;", 1);
            does("clear 9;", 1);
            fault("clear 10;", 6, NUMBER);
            does("clear 09;", 1);
            fault("clear 00;", 6, NUMBER);
        });
        Due.sentence("clear: so often, as long as there is a PACKET", () -> {
            for (int there = 0; there <= 2; there++) {
                for (int often = 1; often <= 9; often++) {
                    HealLink x = link(2, 3, 3, 3);
                    x.packets(1, 1, there);
                    int lost = Math.min(there, often);
                    Due.is("script()", script(x, "clear " + often + ";"), lost);
                    Due.is("of(5)", x.of(5), there - lost);
                    Due.is("count(6)", x.count(6), lost);
                }
            }
        });
        Due.sentence("clear: the first of them is LOST", () -> {
            for (int one = 0; one < 8; one++) {
                for (int other = one + 1; other < 8; other++) {
                    HealLink x = link(2, 4, 3, 3);
                    x.packets(other / 2, other % 2, 1);
                    x.packets(one / 2, one % 2, 1);
                    Due.is("script()", script(x, "clear 1;"), 1);
                    Due.is("the first", kindOf(x, one / 2, one % 2, 1), 0);
                    Due.is("the other", kindOf(x, other / 2, other % 2, 1), 1);
                }
            }
        });
        Due.sentence("clear: of no PACKET it stops nothing", () -> does("clear 9;clear 9;send;", 2));
    }

    private static void numbers() {
        Due.sentence("LABELS: 0 to n - 1", () -> {
            for (int n = 2; n <= 4; n++) {
                for (String step : new String[] {"arrive L 0;", "come L;", "lose L 0;", "drop L;"}) {
                    int at = step.indexOf('L');
                    HealLink x = link(1, n, 3, 2);
                    Due.is("script()", script(x, step.replace("L", "0")), 0);
                    Due.is("script()", script(x, step.replace("L", "" + (n - 1))), 0);
                    fault(x, step.replace("L", "" + n), at, NUMBER);
                    fault(x, step.replace("L", "99"), at, NUMBER);
                }
            }
        });
        Due.sentence("VALUES: 0 and 1", () -> {
            for (String step : new String[] {"arrive 1 ", "lose 1 "}) {
                does(step + "0;", 0);
                does(step + "1;", 0);
                fault(step + "2;", step.length(), NUMBER);
                fault(step + "10;", step.length(), NUMBER);
            }
        });
        Due.sentence("LABELS, VALUES, NUMBERS: 1 or 2 digits; 2: of three digits or more", () -> {
            does("arrive 02 01;", 1);
            does("lose 02 1;", 1);
            does("come 2;come 02;", 2);
            does("again 02[send;];", 2);
            fault("arrive 002 1;", 7, NUMBER);
            fault("arrive 2 001;", 9, NUMBER);
            fault("come 000;", 5, NUMBER);
            fault("drop 000;", 5, NUMBER);
            fault("lose 000 0;", 5, NUMBER);
            fault("clear 001;", 6, NUMBER);
            fault("again 001[send;];", 6, NUMBER);
            fault("again 4294967297[send;];", 6, NUMBER);
            fault("come 18446744073709551616;", 5, NUMBER);
        });
        Due.sentence("(as far as digits go on)", () -> {
            does("arrive2 1;", 1);
            does("arrive02 1;", 1);
            fault("arrive21;", 6, NUMBER);
            fault("arrive01;", 8, MISPLACED);
            fault("come 0a;", 6, MISPLACED);
            fault("come 3a;", 5, NUMBER);
            fault("come 0 0", 7, MISPLACED);
            fault("come /;", 5, MISPLACED);
            fault("come 0/;", 6, MISPLACED);
            fault("come 0:;", 6, MISPLACED);
            fault("come -0;", 5, MISPLACED);
            fault("come +0;", 5, MISPLACED);
            does("drop 2;drop 2;", 2);
        });
    }

    private static void words() {
        Due.sentence("words: small letters, as far as these go on", () -> {
            String[] steps = {"send", "arrive 0 0", "come 0", "lose 0 0", "drop 0", "clear 1", "again 0[]"};
            for (String step : steps) {
                int end = step.indexOf(' ') < 0 ? step.length() : step.indexOf(' ');
                String word = step.substring(0, end);
                fault("a" + step + ";", 0, MISPLACED);
                fault("b" + step.substring(1) + ";", 0, MISPLACED);
                fault(word.substring(0, 1) + "q" + step.substring(2) + ";", 0, MISPLACED);
                fault(word + "a" + step.substring(end) + ";", 0, MISPLACED);
                fault(word + "z" + step.substring(end) + ";", 0, MISPLACED);
                fault(word.substring(1) + step.substring(end) + ";", 0, MISPLACED);
                fault(word.substring(0, end - 1) + step.substring(end) + ";", 0, MISPLACED);
                fault(word.substring(0, end - 1) + "A" + step.substring(end) + ";", 0, MISPLACED);
                fault(word.substring(0, end - 1) + "z" + step.substring(end) + ";", 0, MISPLACED);
                fault(step.substring(0, 1).toUpperCase() + step.substring(1) + ";", 0, MISPLACED);
                fault(word.substring(0, 1) + " " + step.substring(1) + ";", 0, MISPLACED);
                fault(word + "`" + step.substring(end) + ";", end, MISPLACED);
                fault(word + "{" + step.substring(end) + ";", end, MISPLACED);
                fault("send;" + word, 5 + end, MISPLACED);
            }
            fault("x", 0, MISPLACED);
            fault("sendsend;", 0, MISPLACED);
            fault("1send;", 0, MISPLACED);
        });
    }

    private static void blanks() {
        Due.sentence("with blanks (32) between TOKENS or not", () -> {
            does("arrive 2 1;come 2;again 2[send;];clear 2;", 6);
            does("  arrive  2  1  ;  come  2  ;  again  2  [  send  ;  ]  ;  clear  2  ;  ", 6);
            does("arrive2 1;come2;again2[send;];clear2;", 6);
            does(" arrive2 1 ;come2 ;again2 [send ; ] ;clear2 ;", 6);
        });
        Due.sentence("blanks (32): no other byte is one, nor is it anything else", () -> {
            String signs = "send; come 0;[]";
            for (int b = 0; b < 256; b++) {
                char c = (char) b;
                boolean small = c >= 'a' && c <= 'z';
                if (c == ' ') {
                    does("send;" + c, 1);
                } else {
                    fault("send;" + c, 5, MISPLACED);
                }
                if (signs.indexOf(c) < 0 && !small) {
                    fault("send" + c + ";", 4, MISPLACED);
                }
                if (c < '0' || c > '9') {
                    fault("arrive 0" + c, c == ' ' ? 9 : 8, MISPLACED);
                }
            }
        });
    }

    private static void ends() {
        Due.sentence("FAULT 1: its place; the end: how many bytes there are", () -> {
            for (int blanks = 0; blanks <= 236; blanks += 59) {
                fault("send" + " ".repeat(blanks), 4 + blanks, MISPLACED);
                fault(" ".repeat(blanks) + "send", 4 + blanks, MISPLACED);
            }
            fault(padded("!", 240), 239, MISPLACED);
            fault(padded("send", 240), 240, MISPLACED);
            fault("!" + " ".repeat(239), 0, MISPLACED);
        });
        Due.sentence("FAULT: the first along the text", () -> {
            fault("come 3;come 3;!", 5, NUMBER);
            fault("!come 3;", 0, MISPLACED);
            fault("come 3!", 5, NUMBER);
            fault("arrive 3 2;", 7, NUMBER);
            fault("arrive 1 2!", 9, NUMBER);
            fault("arrive 3", 7, NUMBER);
            fault("again 31 send", 6, NUMBER);
            fault("again 30 send", 9, MISPLACED);
            fault("send;send;send;come 7;", 20, NUMBER);
            fault("again 1[come 3;", 13, NUMBER);
        });
    }

    private static void depth() {
        Due.sentence("4 may be open at one time; FAULT 3 (at again): a fifth that is open", () -> {
            String four = "again 1[".repeat(4);
            does(four + "send;" + "];".repeat(4), 1);
            fault(four + "again 1[send;];" + "];".repeat(4), 32, TOO_DEEP);
            fault(four + "send; again 0[];" + "];".repeat(4), 38, TOO_DEEP);
            fault(four + "again", 32, TOO_DEEP);
            fault(four + "again 31[", 32, TOO_DEEP);
            fault(four + "again 1[].", 32, TOO_DEEP);
            fault(four + "agai 1[]", 32, MISPLACED);
            fault(four, 32, MISPLACED);
        });
        Due.sentence("4 may be open at one time: any number one behind the other", () -> {
            String four = "again 1[".repeat(3) + "again 1[send;];again 1[send;];" + "];".repeat(3);
            does(four, 2);
            does(four + four + four, 6);
            does("again 1[];".repeat(24), 0);
            does("again0[];".repeat(26), 0);
            fault("again 1[".repeat(3) + "];".repeat(4), 30, MISPLACED);
        });
    }

    private static void done() {
        Due.sentence("script(): how many ACTS; a SCRIPT is done till one is not POSSIBLE (what is not there)", () -> {
            for (String step : new String[] {"arrive 1 0;", "come 1;", "lose 1 0;", "drop 1;"}) {
                does("send;" + step + "send;", 1);
                does("again 3[send;" + step + "send;];send;", 1);
                does("again 2[again 2[send;];" + step + "];send;", 2);
                does(step + "send;", 0);
            }
            does("arrive 2 1;arrive 2 1;send;", 1);
            does("come 2;come 2;come 2;send;", 2);
        });
        Due.sentence("or 600 ACTS were done", () -> {
            does("again 30[again 19[send;];];again 29[send;];", 599);
            does("again 30[again 20[send;];];", 600);
            does("again 30[again 20[send;];];send;", 600);
            does("again 30[again 20[send;];send;];", 600);
            does("again 30[again 30[again 30[again 30[send;];];];];", 600);
        });
        Due.sentence("or 600 ACTS were done: in the midst of clear", () -> {
            HealLink x = link(2, 2, 7, 4);
            Due.is("599 before it", script(x, "again 30[again 19[send;];];again 29[send;];clear 2;"), 600);
            Due.is("of(5)", x.of(5), 1);
            HealLink y = link(2, 2, 7, 4);
            Due.is("598 before it", script(y, "again 30[again 19[send;];];again 28[send;];clear 2;send;"), 600);
            Due.is("of(5)", y.of(5), 0);
        });
        Due.sentence("script(): how many ACTS of this one alone", () -> {
            HealLink x = link(2, 2, 7, 4);
            Due.is("script()", script(x, "again 30[again 30[send;];];"), 600);
            Due.is("script()", script(x, "again 30[again 30[send;];];"), 600);
            Due.is("script()", script(x, "send;"), 1);
            Due.is("count(0)", x.count(0), 1201);
        });
        Due.sentence("again: ends, though nothing is done in it", () -> {
            does("again 30[again 30[again 30[again 30[];];];];send;", 1);
            does("again 30[again 30[again 30[again 30[clear 9;];];];];send;", 2);
        });
    }
}
