/**
 * Pushes a program written as text, so that tests can be read: 7, v3, (lam v1 b), (app f a), (+ l r),
 * (- l r), (* l r), (< l r), (= l r), (if c t e), (let v1 e1 e2), (letrec v1 l1 b),
 * (letrec2 v1 l1 v2 l2 b).
 */
final class Source {
    private static final String OPERATORS = "+-*<=";
    private final String[] words;
    private final SafeClosures target;
    private int next = 0;

    private Source(SafeClosures target, String text) {
        this.target = target;
        this.words = text.replace("(", " ( ").replace(")", " ) ").trim().split("\\s+");
    }

    /** Answers what the last push answered: the index of the text's root. */
    static int push(SafeClosures target, String text) {
        Source source = new Source(target, text);
        int root = source.expression();
        if (source.next != source.words.length) {
            throw new IllegalArgumentException("words after the end of " + text);
        }
        return root;
    }

    static SafeClosures object(int fuel, int live, int depth, String text) {
        SafeClosures made = new SafeClosures(fuel, live, depth);
        push(made, text);
        return made;
    }

    private int expression() {
        String word = words[next++];
        if (!word.equals("(")) {
            return word.startsWith("v") ? target.pushVar(number(word)) : target.pushNum(Integer.parseInt(word));
        }
        int made = form(words[next++]);
        if (!words[next++].equals(")")) {
            throw new IllegalArgumentException("no ) at word " + next);
        }
        return made;
    }

    private int form(String head) {
        switch (head) {
            case "lam": {
                int x = variable();
                expression();
                return target.pushLam(x);
            }
            case "app":
                expression();
                expression();
                return target.pushApp();
            case "if":
                expression();
                expression();
                expression();
                return target.pushIf();
            case "let": {
                int x = variable();
                expression();
                expression();
                return target.pushLet(x);
            }
            case "letrec": {
                int x = variable();
                expression();
                expression();
                return target.pushLetrec(x, SafeClosures.NO_SECOND);
            }
            case "letrec2": {
                int x1 = variable();
                expression();
                int x2 = variable();
                expression();
                expression();
                return target.pushLetrec(x1, x2);
            }
            default:
                expression();
                expression();
                return target.pushPrim(OPERATORS.indexOf(head));
        }
    }

    private int variable() {
        return number(words[next++]);
    }

    private static int number(String word) {
        return Integer.parseInt(word.substring(1));
    }
}
