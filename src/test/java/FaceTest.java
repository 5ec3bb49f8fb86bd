import java.lang.reflect.Constructor;
import java.lang.reflect.Field;
import java.lang.reflect.Method;
import java.lang.reflect.Modifier;
import java.util.Set;
import java.util.TreeSet;

// The public face is the document's and no more, and what is behind it keeps to the types of LANGUAGE.md.
public final class FaceTest {
    private static final Answers answers = new Answers();

    public static void main(String[] args) {
        answers.due("modifiers of the class", Modifier.toString(CowMemory.class.getModifiers()), "public final");
        answers.due("nested classes", CowMemory.class.getDeclaredClasses().length, 0);
        answers.due("members that are not private", openMembers().toString(), documentedMembers().toString());
        answers.due("BAD", CowMemory.BAD, -1);
        answers.due("DEAD", CowMemory.DEAD, -2);
        answers.due("UNMAPPED", CowMemory.UNMAPPED, -3);
        answers.due("BUSY", CowMemory.BUSY, -4);
        fieldsKeepToTheLanguage();
        methodsKeepToTheLanguage();
        answers.finish();
    }

    private static Set<String> documentedMembers() {
        Set<String> members = new TreeSet<>();
        for (String constant : new String[] {"BAD", "DEAD", "UNMAPPED", "BUSY"}) {
            members.add("public static final int CowMemory." + constant);
        }
        members.add("public CowMemory(int)");
        members.add("public int CowMemory.map(int,int,boolean)");
        members.add("public int CowMemory.unmap(int,int)");
        members.add("public int CowMemory.attach(int,int)");
        members.add("public int CowMemory.fork(int,int)");
        members.add("public int CowMemory.exit(int)");
        members.add("public int CowMemory.write(int,int,int)");
        members.add("public int CowMemory.read(int,int)");
        members.add("public boolean CowMemory.isMapped(int,int)");
        members.add("public int CowMemory.showing(int,int)");
        members.add("public long CowMemory.total()");
        members.add("public int CowMemory.sheets()");
        return members;
    }

    private static Set<String> openMembers() {
        Set<String> members = new TreeSet<>();
        for (Field field : CowMemory.class.getDeclaredFields()) {
            addIfOpen(members, field.getModifiers(), field.toString());
        }
        for (Constructor<?> constructor : CowMemory.class.getDeclaredConstructors()) {
            addIfOpen(members, constructor.getModifiers(), constructor.toString());
        }
        for (Method method : CowMemory.class.getDeclaredMethods()) {
            addIfOpen(members, method.getModifiers(), method.toString());
        }
        return members;
    }

    private static void addIfOpen(Set<String> members, int modifiers, String member) {
        if (!Modifier.isPrivate(modifiers)) {
            members.add(member);
        }
    }

    private static void fieldsKeepToTheLanguage() {
        for (Field field : CowMemory.class.getDeclaredFields()) {
            Class<?> type = field.getType();
            if (Modifier.isStatic(field.getModifiers())) {
                answers.due(field + " is final", Modifier.isFinal(field.getModifiers()), true);
                answers.due(field + " is int or long", type == int.class || type == long.class, true);
            } else {
                Class<?> element = type.isArray() ? type.getComponentType() : type;
                answers.due(field + " holds whole numbers", isWhole(element), true);
            }
        }
    }

    private static boolean isWhole(Class<?> type) {
        return type.isPrimitive() && type != float.class && type != double.class;
    }

    private static void methodsKeepToTheLanguage() {
        Set<String> open = new TreeSet<>();
        for (Method method : CowMemory.class.getMethods()) {
            open.add(method.getName());
        }
        for (Method method : CowMemory.class.getDeclaredMethods()) {
            answers.due(method + " has at most seven parameters", method.getParameterCount() <= 7, true);
            if (Modifier.isPrivate(method.getModifiers())) {
                answers.due(method + " bears a public name", open.contains(method.getName()), false);
            }
        }
    }
}
