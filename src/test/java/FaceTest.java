import java.lang.reflect.Constructor;
import java.lang.reflect.Field;
import java.lang.reflect.Method;
import java.lang.reflect.Modifier;
import java.util.TreeSet;

/** The public face: the members of the document and no others that can be seen. */
public final class FaceTest {
    public static void main(String[] args) {
        TreeSet<String> seen = new TreeSet<>();
        for (Method m : FormulaCode.class.getDeclaredMethods()) {
            if (!Modifier.isPrivate(m.getModifiers())) {
                seen.add(m.toString());
            }
        }
        for (Field f : FormulaCode.class.getDeclaredFields()) {
            if (!Modifier.isPrivate(f.getModifiers())) {
                seen.add(f.toString());
            }
        }
        for (Constructor<?> c : FormulaCode.class.getDeclaredConstructors()) {
            seen.add(c.toString());
        }
        String thrown = " throws java.lang.IllegalArgumentException,java.lang.IllegalStateException";
        TreeSet<String> due = new TreeSet<>();
        due.add("public static final int FormulaCode.NONE");
        due.add("public FormulaCode()");
        due.add("public boolean FormulaCode.feed(int,int,int,int,int)");
        due.add("public boolean FormulaCode.end(int)");
        due.add("public int FormulaCode.sheet()" + thrown);
        due.add("public int FormulaCode.compile()" + thrown);
        due.add("public int FormulaCode.illAt()");
        due.add("public int FormulaCode.word(int)");
        due.add("public int FormulaCode.names()");
        due.add("public int FormulaCode.name(int,int)");
        due.add("public int FormulaCode.reference(int,int)");
        due.add("public int FormulaCode.print()");
        due.add("public int FormulaCode.output(int)");
        due.add("public void FormulaCode.again()");
        Check.same("the face", seen, due);
        Check.same("NONE", FormulaCode.NONE, -1);
        Check.same("public and final", FormulaCode.class.getModifiers(), Modifier.PUBLIC | Modifier.FINAL);
        Check.finish();
    }
}
