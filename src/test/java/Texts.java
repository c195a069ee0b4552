import java.util.Random;

/** Draws texts of the document's language, most of them without a fault. */
final class Texts {
    private final Random random;

    Texts(Random random) {
        this.random = random;
    }

    private String one(String... all) {
        return all[random.nextInt(all.length)];
    }

    private int below(int n) {
        return random.nextInt(n);
    }

    String text() {
        StringBuilder b = new StringBuilder();
        if (below(4) != 0) {
            b.append("wants ").append(sum(below(6), true)).append(one(";", " ;", ";\n"));
        }
        if (below(3) != 0) {
            b.append("spares ").append(sum(below(6), false)).append(one(";", " ; "));
        }
        int clauses = below(8) == 0 ? below(28) : below(5);
        for (int i = 0; i < clauses; i++) {
            b.append(clause());
        }
        return b.toString();
    }

    private String clause() {
        switch (below(8)) {
            case 0: return "object " + (1 + below(32)) + ";";
            case 1:
            case 2: return "touch " + below(33) + " of " + below(4) + ";";
            case 3: return "write " + below(32) + " of " + below(4) + " by " + below(100) + ";";
            case 4: return "sweep " + below(4) + ";";
            case 5: return "empty " + one("1", "4", "16", "2", "17") + ";";
            case 6: return below(3) == 0 ? "drop " + below(4) + ";" : "sweep 0;";
            default: return "day " + (1 + below(below(10) == 0 ? 61 : 4)) + ";";
        }
    }

    private String sum(int depth, boolean wants) {
        StringBuilder b = new StringBuilder(product(depth, wants));
        while (below(3) == 0) {
            b.append(one("+", "-", " - ", " + ")).append(product(depth, wants));
        }
        return b.toString();
    }

    private String product(int depth, boolean wants) {
        StringBuilder b = new StringBuilder(atom(depth, wants));
        while (below(4) == 0) {
            b.append(one("*", "/", " * ")).append(atom(depth, wants));
        }
        return b.toString();
    }

    private String atom(int depth, boolean wants) {
        int dice = below(depth > 0 ? 9 : 4);
        switch (dice) {
            case 0: return "" + below(20);
            case 1: return one("" + below(10000), "" + below(5), "16", "4", "9999");
            case 2: return one("time", "free", "number", "size");
            case 3: return wants ? one("page", "page", below(40) == 0 ? "span" : "free")
                    : one("idle", "holds", "span", below(40) == 0 ? "page" : "idle");
            case 4: return "(" + sum(depth - 1, wants) + ")";
            case 5: return "-" + atom(depth - 1, wants);
            case 6: return "has " + atom(depth - 1, wants);
            case 7: return "soiled " + atom(depth - 1, wants);
            default:
                return "if " + either(depth - 1, wants) + " then " + sum(depth - 1, wants)
                        + " else " + sum(depth - 1, wants) + " end";
        }
    }

    private String either(int depth, boolean wants) {
        StringBuilder b = new StringBuilder(ask(depth, wants));
        while (below(4) == 0) {
            b.append(one(" or ", " and ")).append(ask(depth, wants));
        }
        return b.toString();
    }

    private String ask(int depth, boolean wants) {
        if (below(4) == 0) {
            return "not " + ask(depth, wants);
        }
        return sum(depth, wants) + one("<", "<=", ">", ">=", "=", "#") + sum(depth, wants);
    }
}
