import java.util.Random;

/** Long runs of drawn calls, each answered by the class and by the model; the answers must be the same. */
public final class AgainstModelTest {
    private static final int NONE = SeeSaws.NONE;

    private final Random random;
    private SeeSaws x = new SeeSaws();
    private Model m = new Model();
    private final StringBuilder run = new StringBuilder();
    private final int most;

    private AgainstModelTest(long seed) {
        random = new Random(seed);
        most = seed % 25 == 0 ? 7 : 2 + (int) (seed % 4);
    }

    private int below(int n) {
        return random.nextInt(n);
    }

    private String one(String... of) {
        return of[below(of.length)];
    }

    private void same(String call, long got, long want) {
        run.append(call).append(" = ").append(got).append('\n');
        int wrong = Due.wrong();
        Due.due(call, got, want);
        if (Due.wrong() > wrong && wrong == 0) {
            System.out.println("the run:\n" + run);
        }
    }

    // ---- texts ----

    private String part(boolean laws, int deep) {
        if (deep > 0 && below(6) == 0) {
            return "[" + sum(laws, deep - 1) + "]";
        }
        if (below(2) == 0) {
            return "" + (below(12) == 0 ? below(1100) : below(9));
        }
        if (laws) {
            return one("claim", "heavy", "kind", "place", "arm", "day", "mood", "slack");
        }
        String word = one("day", "done", "latest", "tilt", "on", "heavy", "at");
        return word.equals("heavy") || word.equals("at") ? word + " " + below(below(20) == 0 ? 9 : 7) : word;
    }

    private String sum(boolean laws, int deep) {
        StringBuilder s = new StringBuilder(part(laws, deep));
        for (int n = below(3) == 0 ? 1 + below(4) : 0; n > 0; n--) {
            s.append(one("+", "-", "*", "/", "%", " * ", " + ", " - ")).append(part(laws, deep));
        }
        return s.toString();
    }

    private String plain(boolean laws, int deep) {
        if (below(6) == 0) {
            return "not " + plain(laws, deep);
        }
        if (deep > 0 && below(5) == 0) {
            return "(" + test(laws, deep - 1) + ")";
        }
        return sum(laws, deep) + one("<", ">", "=", " < ", " > ") + sum(laws, deep);
    }

    private String test(boolean laws, int deep) {
        StringBuilder s = new StringBuilder(plain(laws, deep));
        for (int n = below(3) == 0 ? 1 + below(3) : 0; n > 0; n--) {
            s.append(one(" or ", " and ")).append(plain(laws, deep));
        }
        return s.toString();
    }

    private String clause(boolean laws) {
        int deep = below(20) == 0 ? 12 : 2;
        String s;
        if (laws) {
            s = one("counts", "counts", "sheds", "bars");
            s += s.equals("bars") ? "" : " " + sum(true, deep);
            s += s.equals("bars") || below(2) == 0 ? " if " + test(true, deep) : "";
            return s;
        }
        String claim = below(4) == 0 ? sum(false, deep) : "" + below(most);
        String number = below(4) == 0 ? sum(false, deep) : "" + below(7);
        s = one("put " + claim + " at " + number, "put " + claim + " at " + number, "take " + claim,
                "pad " + claim + " to " + number, "pass");
        s += below(4) == 0 ? " times " + (below(10) == 0 ? below(30) : 1 + below(3)) : "";
        s += below(3) > 0 ? " if " + test(false, deep) : "";
        return s;
    }

    private String text(boolean laws) {
        StringBuilder s = new StringBuilder(clause(laws));
        for (int n = below(10) == 0 ? below(14) : below(4); n > 0; n--) {
            s.append(one(";", "; ", " ; ")).append(clause(laws));
        }
        if (below(4) == 0) {
            for (int n = 1 + below(2); n > 0 && s.length() > 0; n--) {
                int at = below(s.length());
                switch (below(3)) {
                    case 0:
                        s.deleteCharAt(at);
                        break;
                    case 1:
                        s.insert(at, one(" ", ";", "[", "]", "(", ")", "if", "7", "at", "x", "\u00e9", "\t", "A"));
                        break;
                    default:
                        s.setLength(at);
                        break;
                }
            }
        }
        if (below(40) == 0) {
            s.setLength(0);
            s.append("   ".substring(below(4)));
        }
        if (s.length() > 400) {
            s.setLength(400);
        }
        return s.toString();
    }

    private void tape(String text) {
        run.append("-- ").append(text).append('\n');
        byte[] bytes = new byte[text.length()];
        for (int i = 0; i < bytes.length; i++) {
            bytes[i] = (byte) text.charAt(i);
        }
        same("end(0)", x.end(0), m.end(0));
        for (int i = 0; i < bytes.length; i += 20) {
            int a = Due.four(bytes, i);
            int b = Due.four(bytes, i + 4);
            int c = Due.four(bytes, i + 8);
            int d = Due.four(bytes, i + 12);
            int e = Due.four(bytes, i + 16);
            same("feed", x.feed(a, b, c, d, e), m.feed(a, b, c, d, e));
        }
        same("end", x.end(bytes.length), m.end(bytes.length));
    }

    // ---- calls ----

    private void reads() {
        boolean laws = below(2) == 0;
        tape(text(laws));
        if (laws) {
            same("law()", x.law(), m.law());
            if (below(2) == 0) {
                int law = x.count(4) - 1;
                same("force(" + law + ")", x.force(law), m.force(law));
            }
        } else {
            same("orders()", x.orders(), m.orders());
            same("stopped()", x.stopped(), m.stopped);
        }
        same("fault()", x.fault(), m.fault);
    }

    private void changes() {
        int c = below(10) == 0 ? below(9) - 1 : below(Math.max(1, x.count(0)));
        switch (below(16)) {
            case 0:
            case 1: {
                int heavy = below(10) == 0 ? below(33) : 1 + below(9);
                int kind = below(5) - below(2) * below(2);
                if (x.count(0) < most || most == 7) {
                    same("claim(" + heavy + ", " + kind + ")", x.claim(heavy, kind), m.claim(heavy, kind));
                }
                break;
            }
            case 2: {
                int what = below(5) - below(2) * below(2);
                int value = what == 0 && below(3) == 0 ? 995 + below(8) : below(12);
                same("terms(" + what + ", " + value + ")", x.terms(what, value), m.terms(what, value));
                break;
            }
            case 3: {
                int law = below(7) - 1;
                same("force(" + law + ")", x.force(law), m.force(law));
                break;
            }
            case 4:
            case 5:
            case 6:
            case 7: {
                int place = below(30) == 0 ? below(12) - 3 : below(7);
                same("put(" + c + ", " + place + ")", x.put(c, place), m.put(c, place));
                break;
            }
            case 8:
                same("take(" + c + ")", x.take(c), m.take(c));
                break;
            case 9: {
                int heavy = below(10) == 0 ? below(34) - 1 : 1 + below(12);
                same("pad(" + c + ", " + heavy + ")", x.pad(c, heavy), m.pad(c, heavy));
                break;
            }
            case 10:
                same("pass()", x.pass(), m.pass());
                break;
            case 11:
                same("undo()", x.undo(), m.undo());
                break;
            case 12: {
                int bits = 1 << (below(8) == 0 ? 8 : x.count(0));
                int left = below(bits);
                int right = below(bits) & ~(below(8) == 0 ? 0 : left);
                int came = below(20) == 0 ? below(6) - 2 : below(3);
                same("weighed(" + left + ", " + right + ", " + came + ")",
                        x.weighed(left, right, came), m.weighed(left, right, came));
                break;
            }
            case 13: {
                int k = below(8) == 0 ? below(5) - 2 : below(2);
                if (below(3) == 0) {
                    same("back(" + k + ")", x.back(k), m.back(k));
                } else {
                    same("image(" + k + ")", x.image(k), m.image(k));
                }
                break;
            }
            case 14:
                if (below(3) == 0) {
                    same("forget()", x.forget(), m.forget());
                } else {
                    int seed = below(40) == 0 ? below(3000000) - 1000000 : below(1000001);
                    int n = below(64) - 1;
                    same("days(" + seed + ", " + n + ")", x.days(seed, n), m.days(seed, n));
                }
                break;
            default:
                if (below(6) == 0 && (most == 7 || x.count(0) == 0)) {
                    StringBuilder row = new StringBuilder();
                    for (int n = below(3) * 2 + below(2) * below(2); n > 0; n--) {
                        row.append((char) (row.length() % 2 == 0 ? below(34) : below(5)));
                    }
                    tape(row.toString());
                    same("row()", x.row(), m.row());
                    same("sawdust()", x.sawdust(), m.sawdust);
                }
                break;
        }
        same("status()", x.status(), m.status);
    }

    private void asks() {
        int c = below(4) == 0 ? NONE : below(most + 1);
        int what = below(8) == 0 ? below(7) - 1 : below(3);
        int place = below(12) == 0 ? below(9) - 1 : below(7);
        switch (below(20)) {
            case 0:
                same("of(" + c + ", " + what + ")", x.of(c, what), m.of(c, what));
                break;
            case 1:
                same("asks(" + c + ", " + place + ", " + what + ")", x.asks(c, place, what), m.asks(c, place, what));
                break;
            case 2:
                same("tilt(" + what + ")", x.tilt(what), m.tilt(what));
                break;
            case 3:
            case 4:
                same("settle(" + c + ")", x.settle(c), m.settle(c));
                break;
            case 5:
            case 6:
                same("least(" + c + ")", x.least(c), m.least(c));
                break;
            case 7:
            case 8:
                same("moved(" + c + ")", x.moved(c), m.moved(c));
                break;
            case 9:
                same("alone()", x.alone(), m.alone());
                break;
            case 10:
                same("exchanged(" + what + ")", x.exchanged(what), m.exchanged(what));
                break;
            case 11:
                same("shares(" + what + ")", x.shares(what), m.shares(what));
                break;
            case 12:
                same("off(" + c + ")", x.off(c), m.off(c));
                break;
            case 13:
                same("byTurns(" + what + ")", x.byTurns(what), m.byTurns(what));
                break;
            case 14:
                same("canBe()", x.canBe(), m.canBe());
                break;
            case 15:
                same("weigh(" + what + ")", x.weigh(what), m.weigh(what));
                break;
            case 16: {
                int k = below(22);
                int n = below(102) - 1;
                same("few(" + k + ", " + n + ")", x.few(k, n), m.few(k, n));
                break;
            }
            case 17: {
                int law = below(8) - 2;
                same("compare(" + law + ")", x.compare(law), m.compare(law));
                break;
            }
            case 18:
                same("drawn(" + c + ", " + what + ")", x.drawn(c, what), m.drawn(c, what));
                break;
            default: {
                int i = below(19) - 1;
                same("count(" + i + ")", x.count(i), m.count(i));
                break;
            }
        }
    }

    private void whole() {
        for (int i = -1; i < 18; i++) {
            same("count(" + i + ")", x.count(i), m.count(i));
        }
        for (int c = 0; c < 7; c++) {
            for (int what = 0; what < 5; what++) {
                same("of(" + c + ", " + what + ")", x.of(c, what), m.of(c, what));
            }
        }
    }

    private void play() {
        for (int c = below(most + 1); c > 0; c--) {
            int heavy = 1 + below(below(3) == 0 ? 30 : 9);
            int kind = below(4);
            same("claim(" + heavy + ", " + kind + ")", x.claim(heavy, kind), m.claim(heavy, kind));
        }
        for (int i = 0; i < 90 && Due.wrong() == 0; i++) {
            int way = below(10);
            if (way == 0) {
                reads();
            } else if (way < 6) {
                changes();
            } else {
                asks();
            }
        }
        whole();
    }

    public static void main(String[] args) {
        int runs = args.length > 0 ? Integer.parseInt(args[0]) : 3000;
        int from = args.length > 1 ? Integer.parseInt(args[1]) : 0;
        for (int seed = from; seed < from + runs && Due.wrong() == 0; seed++) {
            new AgainstModelTest(seed).play();
        }
        Due.end();
    }
}
