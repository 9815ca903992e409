import java.lang.reflect.Constructor;
import java.lang.reflect.Field;
import java.lang.reflect.Method;
import java.lang.reflect.Modifier;
import java.util.Set;
import java.util.TreeSet;

/** The public face: the constants, and no member that can be seen beside the document's. */
public final class FaceTest {
    private static final Set<String> FACE = Set.of(
        "BAD_ARG", "NONE", "RookBoards(int)", "set(int,int)", "weight(int,int)", "complement()",
        "exchange(int,int)", "turn()", "cells()", "rooks(int)", "hits(int)", "through(int,int)",
        "sum(int)", "signedSum()", "most()", "lines()", "needed()", "column(int,int,int)");

    public static void main(String[] args) {
        Due due = new Due();
        due.same("BAD_ARG", RookBoards.BAD_ARG, -1);
        due.same("NONE", RookBoards.NONE, -4);
        due.same("public final", RookBoards.class.getModifiers(), Modifier.PUBLIC | Modifier.FINAL);

        Set<String> seen = new TreeSet<>();
        for (Field f : RookBoards.class.getDeclaredFields()) {
            if (!Modifier.isPrivate(f.getModifiers())) {
                seen.add(f.getName());
            }
        }
        for (Constructor<?> c : RookBoards.class.getDeclaredConstructors()) {
            seen.add("RookBoards" + types(c.getParameterTypes()));
        }
        for (Method m : RookBoards.class.getDeclaredMethods()) {
            if (!Modifier.isPrivate(m.getModifiers())) {
                seen.add(m.getName() + types(m.getParameterTypes()));
            }
        }
        for (String member : seen) {
            due.same("in the document: " + member, FACE.contains(member) ? 1 : 0, 1);
        }
        for (String member : FACE) {
            due.same("in the class: " + member, seen.contains(member) ? 1 : 0, 1);
        }
        due.end();
    }

    private static String types(Class<?>[] types) {
        StringBuilder text = new StringBuilder("(");
        for (int i = 0; i < types.length; i++) {
            text.append(i == 0 ? "" : ",").append(types[i].getName());
        }
        return text.append(")").toString();
    }
}
