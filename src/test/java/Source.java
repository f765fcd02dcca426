import java.util.ArrayList;
import java.util.List;

/**
 * Pushes a program written as text, so that tests can be read: 7, v3, (lam v1 b), (app f a), (+ l r),
 * (- l r), (* l r), (< l r), (= l r), (if c t e), (let v1 e1 e2), (letrec v1 l1 b),
 * (letrec2 v1 l1 v2 l2 b).
 */
final class Source {
    private static final String OPERATORS = "+-*<=";
    private final String[] words;
    private final List<int[]> pushes = new ArrayList<>();
    private int next = 0;

    private Source(String text) {
        this.words = text.replace("(", " ( ").replace(")", " ) ").trim().split("\\s+");
    }

    /** The pushes that make the text's program, in the form of Calls. */
    static List<int[]> pushes(String text) {
        Source source = new Source(text);
        source.expression();
        if (source.next != source.words.length) {
            throw new IllegalArgumentException("words after the end of " + text);
        }
        return source.pushes;
    }

    /** Answers what the last push answered: the index of the text's root. */
    static int push(SafeClosures target, String text) {
        int root = SafeClosures.REFUSED;
        for (int[] push : pushes(text)) {
            root = Calls.give(target, push);
        }
        return root;
    }

    static SafeClosures object(int fuel, int live, int depth, String text) {
        SafeClosures made = new SafeClosures(fuel, live, depth);
        push(made, text);
        return made;
    }

    private void expression() {
        String word = words[next++];
        if (word.equals("(")) {
            form(words[next++]);
            if (!words[next++].equals(")")) {
                throw new IllegalArgumentException("no ) at word " + next);
            }
        } else if (word.startsWith("v")) {
            add(Calls.VAR, number(word), 0);
        } else {
            add(Calls.NUM, Integer.parseInt(word), 0);
        }
    }

    private void expressions(int count) {
        for (int i = 0; i < count; i++) {
            expression();
        }
    }

    private void form(String head) {
        int x1;
        switch (head) {
            case "lam":
                x1 = variable();
                expression();
                add(Calls.LAM, x1, 0);
                break;
            case "app":
                expressions(2);
                add(Calls.APP, 0, 0);
                break;
            case "if":
                expressions(3);
                add(Calls.IF, 0, 0);
                break;
            case "let":
                x1 = variable();
                expressions(2);
                add(Calls.LET, x1, 0);
                break;
            case "letrec":
                x1 = variable();
                expressions(2);
                add(Calls.LETREC, x1, SafeClosures.NO_SECOND);
                break;
            case "letrec2":
                x1 = variable();
                expression();
                int x2 = variable();
                expressions(2);
                add(Calls.LETREC, x1, x2);
                break;
            default:
                expressions(2);
                add(Calls.PRIM, OPERATORS.indexOf(head), 0);
                break;
        }
    }

    private void add(int method, int a, int b) {
        pushes.add(new int[] {method, a, b});
    }

    private int variable() {
        return number(words[next++]);
    }

    private static int number(String word) {
        return Integer.parseInt(word.substring(1));
    }
}
